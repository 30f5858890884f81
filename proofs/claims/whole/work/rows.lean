section
-- ===== PART A: goes FIRST, ahead of the names: the tables' words, and 'selects' of the private methods out of them =====
/-- a private method of a class that the tables say can be made, by its rows of tables_1 -/
def lw_okq (q : MethodName × Nat) : Prop := (q.1.cls ≠ "java/lang/invoke/MethodHandle" ∧ q.1.cls ≠ "java/lang/invoke/VarHandle") ∧ Cond.instantiable q.1.cls q.2 ∈ tables_1 ∧ Cond.privateMethod q.1 ∈ tables_1 ∧ Cond.instanceMethod q.1 ∈ tables_1
theorem lw_p0 : lw_okq (⟨"java/lang/Throwable", "fillInStackTrace", "(I)Ljava/lang/Throwable;"⟩, 6) := ⟨⟨by decide +kernel, by decide +kernel⟩, List.mem_of_getElem? (i := 205) (by decide +kernel), List.mem_of_getElem? (i := 203) (by decide +kernel), List.mem_of_getElem? (i := 204) (by decide +kernel)⟩
theorem lw_p1 : lw_okq (⟨"HullBuilder$Points", "isTaken", "(III)Z"⟩, 4) := ⟨⟨by decide +kernel, by decide +kernel⟩, List.mem_of_getElem? (i := 23) (by decide +kernel), List.mem_of_getElem? (i := 235) (by decide +kernel), List.mem_of_getElem? (i := 236) (by decide +kernel)⟩
theorem lw_p2 : lw_okq (⟨"HullBuilder$Points", "append", "(III)I"⟩, 4) := ⟨⟨by decide +kernel, by decide +kernel⟩, List.mem_of_getElem? (i := 23) (by decide +kernel), List.mem_of_getElem? (i := 256) (by decide +kernel), List.mem_of_getElem? (i := 257) (by decide +kernel)⟩
theorem lw_p3 : lw_okq (⟨"HullBuilder$Points", "remove", "(I)V"⟩, 4) := ⟨⟨by decide +kernel, by decide +kernel⟩, List.mem_of_getElem? (i := 23) (by decide +kernel), List.mem_of_getElem? (i := 287) (by decide +kernel), List.mem_of_getElem? (i := 288) (by decide +kernel)⟩
theorem lw_p4 : lw_okq (⟨"HullBuilder$Hull", "wouldBeFlat", "(LHullBuilder$Points;)Z"⟩, 11) := ⟨⟨by decide +kernel, by decide +kernel⟩, List.mem_of_getElem? (i := 52) (by decide +kernel), List.mem_of_getElem? (i := 298) (by decide +kernel), List.mem_of_getElem? (i := 299) (by decide +kernel)⟩
theorem lw_p5 : lw_okq (⟨"HullBuilder$Face", "layThrough", "(LHullBuilder$Points;III)Z"⟩, 7) := ⟨⟨by decide +kernel, by decide +kernel⟩, List.mem_of_getElem? (i := 61) (by decide +kernel), List.mem_of_getElem? (i := 302) (by decide +kernel), List.mem_of_getElem? (i := 303) (by decide +kernel)⟩
theorem lw_p6 : lw_okq (⟨"HullBuilder$Face", "holdsAll", "(LHullBuilder$Points;)Z"⟩, 7) := ⟨⟨by decide +kernel, by decide +kernel⟩, List.mem_of_getElem? (i := 61) (by decide +kernel), List.mem_of_getElem? (i := 309) (by decide +kernel), List.mem_of_getElem? (i := 310) (by decide +kernel)⟩
theorem lw_p7 : lw_okq (⟨"HullBuilder$Face", "heightOf", "(JJJ)J"⟩, 7) := ⟨⟨by decide +kernel, by decide +kernel⟩, List.mem_of_getElem? (i := 61) (by decide +kernel), List.mem_of_getElem? (i := 313) (by decide +kernel), List.mem_of_getElem? (i := 314) (by decide +kernel)⟩
theorem lw_p8 : lw_okq (⟨"HullBuilder$Hull", "wrap", "(LHullBuilder$Points;)V"⟩, 11) := ⟨⟨by decide +kernel, by decide +kernel⟩, List.mem_of_getElem? (i := 52) (by decide +kernel), List.mem_of_getElem? (i := 318) (by decide +kernel), List.mem_of_getElem? (i := 319) (by decide +kernel)⟩
theorem lw_p9 : lw_okq (⟨"HullBuilder$Points", "copyFrom", "(LHullBuilder$Points;)V"⟩, 4) := ⟨⟨by decide +kernel, by decide +kernel⟩, List.mem_of_getElem? (i := 23) (by decide +kernel), List.mem_of_getElem? (i := 322) (by decide +kernel), List.mem_of_getElem? (i := 323) (by decide +kernel)⟩
theorem lw_p10 : lw_okq (⟨"HullBuilder$Hull", "findFaces", "()V"⟩, 11) := ⟨⟨by decide +kernel, by decide +kernel⟩, List.mem_of_getElem? (i := 52) (by decide +kernel), List.mem_of_getElem? (i := 326) (by decide +kernel), List.mem_of_getElem? (i := 327) (by decide +kernel)⟩
theorem lw_p11 : lw_okq (⟨"HullBuilder$Hull", "tryPlane", "(III)V"⟩, 11) := ⟨⟨by decide +kernel, by decide +kernel⟩, List.mem_of_getElem? (i := 52) (by decide +kernel), List.mem_of_getElem? (i := 330) (by decide +kernel), List.mem_of_getElem? (i := 331) (by decide +kernel)⟩
theorem lw_p12 : lw_okq (⟨"HullBuilder$Hull", "lieInOneFace", "(I)Z"⟩, 11) := ⟨⟨by decide +kernel, by decide +kernel⟩, List.mem_of_getElem? (i := 52) (by decide +kernel), List.mem_of_getElem? (i := 334) (by decide +kernel), List.mem_of_getElem? (i := 335) (by decide +kernel)⟩
theorem lw_p13 : lw_okq (⟨"HullBuilder$Face", "turnOutside", "(LHullBuilder$Points;)Z"⟩, 7) := ⟨⟨by decide +kernel, by decide +kernel⟩, List.mem_of_getElem? (i := 61) (by decide +kernel), List.mem_of_getElem? (i := 338) (by decide +kernel), List.mem_of_getElem? (i := 339) (by decide +kernel)⟩
theorem lw_p14 : lw_okq (⟨"HullBuilder$Face", "shortenNormal", "()V"⟩, 7) := ⟨⟨by decide +kernel, by decide +kernel⟩, List.mem_of_getElem? (i := 61) (by decide +kernel), List.mem_of_getElem? (i := 342) (by decide +kernel), List.mem_of_getElem? (i := 343) (by decide +kernel)⟩
theorem lw_p15 : lw_okq (⟨"HullBuilder$Hull", "findCorners", "()V"⟩, 11) := ⟨⟨by decide +kernel, by decide +kernel⟩, List.mem_of_getElem? (i := 52) (by decide +kernel), List.mem_of_getElem? (i := 349) (by decide +kernel), List.mem_of_getElem? (i := 350) (by decide +kernel)⟩
def lw_privs_1 : List (MethodName × Nat) := [(⟨"java/lang/Throwable", "fillInStackTrace", "(I)Ljava/lang/Throwable;"⟩, 6), (⟨"HullBuilder$Points", "isTaken", "(III)Z"⟩, 4), (⟨"HullBuilder$Points", "append", "(III)I"⟩, 4), (⟨"HullBuilder$Points", "remove", "(I)V"⟩, 4), (⟨"HullBuilder$Hull", "wouldBeFlat", "(LHullBuilder$Points;)Z"⟩, 11), (⟨"HullBuilder$Face", "layThrough", "(LHullBuilder$Points;III)Z"⟩, 7), (⟨"HullBuilder$Face", "holdsAll", "(LHullBuilder$Points;)Z"⟩, 7), (⟨"HullBuilder$Face", "heightOf", "(JJJ)J"⟩, 7), (⟨"HullBuilder$Hull", "wrap", "(LHullBuilder$Points;)V"⟩, 11), (⟨"HullBuilder$Points", "copyFrom", "(LHullBuilder$Points;)V"⟩, 4), (⟨"HullBuilder$Hull", "findFaces", "()V"⟩, 11), (⟨"HullBuilder$Hull", "tryPlane", "(III)V"⟩, 11), (⟨"HullBuilder$Hull", "lieInOneFace", "(I)Z"⟩, 11), (⟨"HullBuilder$Face", "turnOutside", "(LHullBuilder$Points;)Z"⟩, 7), (⟨"HullBuilder$Face", "shortenNormal", "()V"⟩, 7), (⟨"HullBuilder$Hull", "findCorners", "()V"⟩, 11)]
theorem lw_r1 : ∀ q ∈ lw_privs_1, lw_okq q := List.forall_mem_cons.mpr ⟨lw_p0, List.forall_mem_cons.mpr ⟨lw_p1, List.forall_mem_cons.mpr ⟨lw_p2, List.forall_mem_cons.mpr ⟨lw_p3, List.forall_mem_cons.mpr ⟨lw_p4, List.forall_mem_cons.mpr ⟨lw_p5, List.forall_mem_cons.mpr ⟨lw_p6, List.forall_mem_cons.mpr ⟨lw_p7, List.forall_mem_cons.mpr ⟨lw_p8, List.forall_mem_cons.mpr ⟨lw_p9, List.forall_mem_cons.mpr ⟨lw_p10, List.forall_mem_cons.mpr ⟨lw_p11, List.forall_mem_cons.mpr ⟨lw_p12, List.forall_mem_cons.mpr ⟨lw_p13, List.forall_mem_cons.mpr ⟨lw_p14, List.forall_mem_cons.mpr ⟨lw_p15, fun _ h => absurd h List.not_mem_nil⟩⟩⟩⟩⟩⟩⟩⟩⟩⟩⟩⟩⟩⟩⟩⟩
theorem lw_p16 : lw_okq (⟨"HullBuilder$Face", "goRound", "(LHullBuilder$Points;I)V"⟩, 7) := ⟨⟨by decide +kernel, by decide +kernel⟩, List.mem_of_getElem? (i := 61) (by decide +kernel), List.mem_of_getElem? (i := 356) (by decide +kernel), List.mem_of_getElem? (i := 357) (by decide +kernel)⟩
theorem lw_p17 : lw_okq (⟨"HullBuilder$Face", "nextRound", "(LHullBuilder$Points;II)I"⟩, 7) := ⟨⟨by decide +kernel, by decide +kernel⟩, List.mem_of_getElem? (i := 61) (by decide +kernel), List.mem_of_getElem? (i := 370) (by decide +kernel), List.mem_of_getElem? (i := 371) (by decide +kernel)⟩
theorem lw_p18 : lw_okq (⟨"HullBuilder$Face", "isRight", "(LHullBuilder$Points;III)Z"⟩, 7) := ⟨⟨by decide +kernel, by decide +kernel⟩, List.mem_of_getElem? (i := 61) (by decide +kernel), List.mem_of_getElem? (i := 375) (by decide +kernel), List.mem_of_getElem? (i := 376) (by decide +kernel)⟩
theorem lw_p19 : lw_okq (⟨"HullBuilder$Hull", "orderFaces", "()V"⟩, 11) := ⟨⟨by decide +kernel, by decide +kernel⟩, List.mem_of_getElem? (i := 52) (by decide +kernel), List.mem_of_getElem? (i := 379) (by decide +kernel), List.mem_of_getElem? (i := 380) (by decide +kernel)⟩
theorem lw_p20 : lw_okq (⟨"HullBuilder$Face", "rank", "()I"⟩, 7) := ⟨⟨by decide +kernel, by decide +kernel⟩, List.mem_of_getElem? (i := 61) (by decide +kernel), List.mem_of_getElem? (i := 383) (by decide +kernel), List.mem_of_getElem? (i := 384) (by decide +kernel)⟩
theorem lw_p21 : lw_okq (⟨"HullBuilder$Hull", "findEdges", "()V"⟩, 11) := ⟨⟨by decide +kernel, by decide +kernel⟩, List.mem_of_getElem? (i := 52) (by decide +kernel), List.mem_of_getElem? (i := 390) (by decide +kernel), List.mem_of_getElem? (i := 391) (by decide +kernel)⟩
theorem lw_p22 : lw_okq (⟨"HullBuilder$Hull", "noteWays", "()V"⟩, 11) := ⟨⟨by decide +kernel, by decide +kernel⟩, List.mem_of_getElem? (i := 52) (by decide +kernel), List.mem_of_getElem? (i := 394) (by decide +kernel), List.mem_of_getElem? (i := 395) (by decide +kernel)⟩
theorem lw_p23 : lw_okq (⟨"HullBuilder$Hull", "measure", "()V"⟩, 11) := ⟨⟨by decide +kernel, by decide +kernel⟩, List.mem_of_getElem? (i := 52) (by decide +kernel), List.mem_of_getElem? (i := 402) (by decide +kernel), List.mem_of_getElem? (i := 403) (by decide +kernel)⟩
theorem lw_p24 : lw_okq (⟨"HullBuilder$Hull", "addTetrahedron", "(III)V"⟩, 11) := ⟨⟨by decide +kernel, by decide +kernel⟩, List.mem_of_getElem? (i := 52) (by decide +kernel), List.mem_of_getElem? (i := 409) (by decide +kernel), List.mem_of_getElem? (i := 410) (by decide +kernel)⟩
theorem lw_p25 : lw_okq (⟨"HullBuilder$Points", "coordinate", "(II)I"⟩, 4) := ⟨⟨by decide +kernel, by decide +kernel⟩, List.mem_of_getElem? (i := 23) (by decide +kernel), List.mem_of_getElem? (i := 420) (by decide +kernel), List.mem_of_getElem? (i := 421) (by decide +kernel)⟩
theorem lw_p26 : lw_okq (⟨"HullBuilder", "requireHull", "()V"⟩, 3) := ⟨⟨by decide +kernel, by decide +kernel⟩, List.mem_of_getElem? (i := 15) (by decide +kernel), List.mem_of_getElem? (i := 431) (by decide +kernel), List.mem_of_getElem? (i := 432) (by decide +kernel)⟩
theorem lw_p27 : lw_okq (⟨"HullBuilder$Hull", "furthest", "(JJJ)I"⟩, 11) := ⟨⟨by decide +kernel, by decide +kernel⟩, List.mem_of_getElem? (i := 52) (by decide +kernel), List.mem_of_getElem? (i := 466) (by decide +kernel), List.mem_of_getElem? (i := 467) (by decide +kernel)⟩
theorem lw_p28 : lw_okq (⟨"HullBuilder", "requireCorner", "(I)V"⟩, 3) := ⟨⟨by decide +kernel, by decide +kernel⟩, List.mem_of_getElem? (i := 15) (by decide +kernel), List.mem_of_getElem? (i := 477) (by decide +kernel), List.mem_of_getElem? (i := 478) (by decide +kernel)⟩
theorem lw_p29 : lw_okq (⟨"HullBuilder$Hull", "walk", "(II)I"⟩, 11) := ⟨⟨by decide +kernel, by decide +kernel⟩, List.mem_of_getElem? (i := 52) (by decide +kernel), List.mem_of_getElem? (i := 483) (by decide +kernel), List.mem_of_getElem? (i := 484) (by decide +kernel)⟩
theorem lw_p30 : lw_okq (⟨"HullBuilder$Hull", "stepFrom", "(I)I"⟩, 11) := ⟨⟨by decide +kernel, by decide +kernel⟩, List.mem_of_getElem? (i := 52) (by decide +kernel), List.mem_of_getElem? (i := 487) (by decide +kernel), List.mem_of_getElem? (i := 488) (by decide +kernel)⟩
theorem lw_p31 : lw_okq (⟨"HullBuilder$Hull", "locate", "(III)I"⟩, 11) := ⟨⟨by decide +kernel, by decide +kernel⟩, List.mem_of_getElem? (i := 52) (by decide +kernel), List.mem_of_getElem? (i := 498) (by decide +kernel), List.mem_of_getElem? (i := 499) (by decide +kernel)⟩
def lw_privs_2 : List (MethodName × Nat) := [(⟨"HullBuilder$Face", "goRound", "(LHullBuilder$Points;I)V"⟩, 7), (⟨"HullBuilder$Face", "nextRound", "(LHullBuilder$Points;II)I"⟩, 7), (⟨"HullBuilder$Face", "isRight", "(LHullBuilder$Points;III)Z"⟩, 7), (⟨"HullBuilder$Hull", "orderFaces", "()V"⟩, 11), (⟨"HullBuilder$Face", "rank", "()I"⟩, 7), (⟨"HullBuilder$Hull", "findEdges", "()V"⟩, 11), (⟨"HullBuilder$Hull", "noteWays", "()V"⟩, 11), (⟨"HullBuilder$Hull", "measure", "()V"⟩, 11), (⟨"HullBuilder$Hull", "addTetrahedron", "(III)V"⟩, 11), (⟨"HullBuilder$Points", "coordinate", "(II)I"⟩, 4), (⟨"HullBuilder", "requireHull", "()V"⟩, 3), (⟨"HullBuilder$Hull", "furthest", "(JJJ)I"⟩, 11), (⟨"HullBuilder", "requireCorner", "(I)V"⟩, 3), (⟨"HullBuilder$Hull", "walk", "(II)I"⟩, 11), (⟨"HullBuilder$Hull", "stepFrom", "(I)I"⟩, 11), (⟨"HullBuilder$Hull", "locate", "(III)I"⟩, 11)]
theorem lw_r2 : ∀ q ∈ lw_privs_2, lw_okq q := List.forall_mem_cons.mpr ⟨lw_p16, List.forall_mem_cons.mpr ⟨lw_p17, List.forall_mem_cons.mpr ⟨lw_p18, List.forall_mem_cons.mpr ⟨lw_p19, List.forall_mem_cons.mpr ⟨lw_p20, List.forall_mem_cons.mpr ⟨lw_p21, List.forall_mem_cons.mpr ⟨lw_p22, List.forall_mem_cons.mpr ⟨lw_p23, List.forall_mem_cons.mpr ⟨lw_p24, List.forall_mem_cons.mpr ⟨lw_p25, List.forall_mem_cons.mpr ⟨lw_p26, List.forall_mem_cons.mpr ⟨lw_p27, List.forall_mem_cons.mpr ⟨lw_p28, List.forall_mem_cons.mpr ⟨lw_p29, List.forall_mem_cons.mpr ⟨lw_p30, List.forall_mem_cons.mpr ⟨lw_p31, fun _ h => absurd h List.not_mem_nil⟩⟩⟩⟩⟩⟩⟩⟩⟩⟩⟩⟩⟩⟩⟩⟩
theorem lw_p32 : lw_okq (⟨"HullBuilderModel", "taken", "(III)Z"⟩, 27) := ⟨⟨by decide +kernel, by decide +kernel⟩, List.mem_of_getElem? (i := 534) (by decide +kernel), List.mem_of_getElem? (i := 633) (by decide +kernel), List.mem_of_getElem? (i := 634) (by decide +kernel)⟩
theorem lw_p33 : lw_okq (⟨"HullBuilderModel", "goes", "(ZZ)Z"⟩, 27) := ⟨⟨by decide +kernel, by decide +kernel⟩, List.mem_of_getElem? (i := 534) (by decide +kernel), List.mem_of_getElem? (i := 637) (by decide +kernel), List.mem_of_getElem? (i := 638) (by decide +kernel)⟩
theorem lw_p34 : lw_okq (⟨"HullBuilderModel", "solid", "()Z"⟩, 27) := ⟨⟨by decide +kernel, by decide +kernel⟩, List.mem_of_getElem? (i := 534) (by decide +kernel), List.mem_of_getElem? (i := 649) (by decide +kernel), List.mem_of_getElem? (i := 650) (by decide +kernel)⟩
theorem lw_p35 : lw_okq (⟨"HullBuilderModel", "volumeOf", "(IIII)J"⟩, 27) := ⟨⟨by decide +kernel, by decide +kernel⟩, List.mem_of_getElem? (i := 534) (by decide +kernel), List.mem_of_getElem? (i := 653) (by decide +kernel), List.mem_of_getElem? (i := 654) (by decide +kernel)⟩
theorem lw_p36 : lw_okq (⟨"HullBuilderModel", "tries", "(III)Z"⟩, 27) := ⟨⟨by decide +kernel, by decide +kernel⟩, List.mem_of_getElem? (i := 534) (by decide +kernel), List.mem_of_getElem? (i := 657) (by decide +kernel), List.mem_of_getElem? (i := 658) (by decide +kernel)⟩
theorem lw_p37 : lw_okq (⟨"HullBuilderModel", "across", "(III)V"⟩, 27) := ⟨⟨by decide +kernel, by decide +kernel⟩, List.mem_of_getElem? (i := 534) (by decide +kernel), List.mem_of_getElem? (i := 661) (by decide +kernel), List.mem_of_getElem? (i := 662) (by decide +kernel)⟩
theorem lw_p38 : lw_okq (⟨"HullBuilderModel", "above", "(II)J"⟩, 27) := ⟨⟨by decide +kernel, by decide +kernel⟩, List.mem_of_getElem? (i := 534) (by decide +kernel), List.mem_of_getElem? (i := 665) (by decide +kernel), List.mem_of_getElem? (i := 666) (by decide +kernel)⟩
theorem lw_p39 : lw_okq (⟨"HullBuilderModel", "addFace", "(J)V"⟩, 27) := ⟨⟨by decide +kernel, by decide +kernel⟩, List.mem_of_getElem? (i := 534) (by decide +kernel), List.mem_of_getElem? (i := 673) (by decide +kernel), List.mem_of_getElem? (i := 674) (by decide +kernel)⟩
theorem lw_p40 : lw_okq (⟨"HullBuilderModel", "knownFace", "(J)Z"⟩, 27) := ⟨⟨by decide +kernel, by decide +kernel⟩, List.mem_of_getElem? (i := 534) (by decide +kernel), List.mem_of_getElem? (i := 677) (by decide +kernel), List.mem_of_getElem? (i := 678) (by decide +kernel)⟩
theorem lw_p41 : lw_okq (⟨"HullBuilderModel", "walk", "(I)V"⟩, 27) := ⟨⟨by decide +kernel, by decide +kernel⟩, List.mem_of_getElem? (i := 534) (by decide +kernel), List.mem_of_getElem? (i := 681) (by decide +kernel), List.mem_of_getElem? (i := 682) (by decide +kernel)⟩
theorem lw_p42 : lw_okq (⟨"HullBuilderModel", "in", "(II)Z"⟩, 27) := ⟨⟨by decide +kernel, by decide +kernel⟩, List.mem_of_getElem? (i := 534) (by decide +kernel), List.mem_of_getElem? (i := 685) (by decide +kernel), List.mem_of_getElem? (i := 686) (by decide +kernel)⟩
theorem lw_p43 : lw_okq (⟨"HullBuilderModel", "behind", "(II)I"⟩, 27) := ⟨⟨by decide +kernel, by decide +kernel⟩, List.mem_of_getElem? (i := 534) (by decide +kernel), List.mem_of_getElem? (i := 689) (by decide +kernel), List.mem_of_getElem? (i := 690) (by decide +kernel)⟩
theorem lw_p44 : lw_okq (⟨"HullBuilderModel", "goesOn", "(III)Z"⟩, 27) := ⟨⟨by decide +kernel, by decide +kernel⟩, List.mem_of_getElem? (i := 534) (by decide +kernel), List.mem_of_getElem? (i := 693) (by decide +kernel), List.mem_of_getElem? (i := 694) (by decide +kernel)⟩
theorem lw_p45 : lw_okq (⟨"HullBuilderModel", "orderFaces", "()V"⟩, 27) := ⟨⟨by decide +kernel, by decide +kernel⟩, List.mem_of_getElem? (i := 534) (by decide +kernel), List.mem_of_getElem? (i := 697) (by decide +kernel), List.mem_of_getElem? (i := 698) (by decide +kernel)⟩
theorem lw_p46 : lw_okq (⟨"HullBuilderModel", "earlier", "(II)Z"⟩, 27) := ⟨⟨by decide +kernel, by decide +kernel⟩, List.mem_of_getElem? (i := 534) (by decide +kernel), List.mem_of_getElem? (i := 701) (by decide +kernel), List.mem_of_getElem? (i := 702) (by decide +kernel)⟩
theorem lw_p47 : lw_okq (⟨"HullBuilderModel", "findEdges", "()V"⟩, 27) := ⟨⟨by decide +kernel, by decide +kernel⟩, List.mem_of_getElem? (i := 534) (by decide +kernel), List.mem_of_getElem? (i := 705) (by decide +kernel), List.mem_of_getElem? (i := 706) (by decide +kernel)⟩
def lw_privs_3 : List (MethodName × Nat) := [(⟨"HullBuilderModel", "taken", "(III)Z"⟩, 27), (⟨"HullBuilderModel", "goes", "(ZZ)Z"⟩, 27), (⟨"HullBuilderModel", "solid", "()Z"⟩, 27), (⟨"HullBuilderModel", "volumeOf", "(IIII)J"⟩, 27), (⟨"HullBuilderModel", "tries", "(III)Z"⟩, 27), (⟨"HullBuilderModel", "across", "(III)V"⟩, 27), (⟨"HullBuilderModel", "above", "(II)J"⟩, 27), (⟨"HullBuilderModel", "addFace", "(J)V"⟩, 27), (⟨"HullBuilderModel", "knownFace", "(J)Z"⟩, 27), (⟨"HullBuilderModel", "walk", "(I)V"⟩, 27), (⟨"HullBuilderModel", "in", "(II)Z"⟩, 27), (⟨"HullBuilderModel", "behind", "(II)I"⟩, 27), (⟨"HullBuilderModel", "goesOn", "(III)Z"⟩, 27), (⟨"HullBuilderModel", "orderFaces", "()V"⟩, 27), (⟨"HullBuilderModel", "earlier", "(II)Z"⟩, 27), (⟨"HullBuilderModel", "findEdges", "()V"⟩, 27)]
theorem lw_r3 : ∀ q ∈ lw_privs_3, lw_okq q := List.forall_mem_cons.mpr ⟨lw_p32, List.forall_mem_cons.mpr ⟨lw_p33, List.forall_mem_cons.mpr ⟨lw_p34, List.forall_mem_cons.mpr ⟨lw_p35, List.forall_mem_cons.mpr ⟨lw_p36, List.forall_mem_cons.mpr ⟨lw_p37, List.forall_mem_cons.mpr ⟨lw_p38, List.forall_mem_cons.mpr ⟨lw_p39, List.forall_mem_cons.mpr ⟨lw_p40, List.forall_mem_cons.mpr ⟨lw_p41, List.forall_mem_cons.mpr ⟨lw_p42, List.forall_mem_cons.mpr ⟨lw_p43, List.forall_mem_cons.mpr ⟨lw_p44, List.forall_mem_cons.mpr ⟨lw_p45, List.forall_mem_cons.mpr ⟨lw_p46, List.forall_mem_cons.mpr ⟨lw_p47, fun _ h => absurd h List.not_mem_nil⟩⟩⟩⟩⟩⟩⟩⟩⟩⟩⟩⟩⟩⟩⟩⟩
theorem lw_p48 : lw_okq (⟨"HullBuilderModel", "faceFrom", "(II)I"⟩, 27) := ⟨⟨by decide +kernel, by decide +kernel⟩, List.mem_of_getElem? (i := 534) (by decide +kernel), List.mem_of_getElem? (i := 709) (by decide +kernel), List.mem_of_getElem? (i := 710) (by decide +kernel)⟩
theorem lw_p49 : lw_okq (⟨"HullBuilderModel", "there", "(I)Z"⟩, 27) := ⟨⟨by decide +kernel, by decide +kernel⟩, List.mem_of_getElem? (i := 534) (by decide +kernel), List.mem_of_getElem? (i := 721) (by decide +kernel), List.mem_of_getElem? (i := 722) (by decide +kernel)⟩
theorem lw_p50 : lw_okq (⟨"HullBuilderModel", "isCorner", "(I)Z"⟩, 27) := ⟨⟨by decide +kernel, by decide +kernel⟩, List.mem_of_getElem? (i := 534) (by decide +kernel), List.mem_of_getElem? (i := 742) (by decide +kernel), List.mem_of_getElem? (i := 743) (by decide +kernel)⟩
theorem lw_p51 : lw_okq (⟨"HullBuilderModel", "sum", "(I)J"⟩, 27) := ⟨⟨by decide +kernel, by decide +kernel⟩, List.mem_of_getElem? (i := 534) (by decide +kernel), List.mem_of_getElem? (i := 758) (by decide +kernel), List.mem_of_getElem? (i := 759) (by decide +kernel)⟩
def lw_privs_4 : List (MethodName × Nat) := [(⟨"HullBuilderModel", "faceFrom", "(II)I"⟩, 27), (⟨"HullBuilderModel", "there", "(I)Z"⟩, 27), (⟨"HullBuilderModel", "isCorner", "(I)Z"⟩, 27), (⟨"HullBuilderModel", "sum", "(I)J"⟩, 27)]
theorem lw_r4 : ∀ q ∈ lw_privs_4, lw_okq q := List.forall_mem_cons.mpr ⟨lw_p48, List.forall_mem_cons.mpr ⟨lw_p49, List.forall_mem_cons.mpr ⟨lw_p50, List.forall_mem_cons.mpr ⟨lw_p51, fun _ h => absurd h List.not_mem_nil⟩⟩⟩⟩
def lw_privs : List (MethodName × Nat) := lw_privs_1 ++ (lw_privs_2 ++ (lw_privs_3 ++ (lw_privs_4)))
def lw_tbl : List Cond := k2_sels lw_privs ++ tables_1
theorem lw_privs_ok : ∀ q ∈ lw_privs, lw_okq q := by
  show ∀ q ∈ lw_privs_1 ++ (lw_privs_2 ++ (lw_privs_3 ++ (lw_privs_4))), lw_okq q
  exact List.forall_mem_append.mpr ⟨lw_r1, List.forall_mem_append.mpr ⟨lw_r2, List.forall_mem_append.mpr ⟨lw_r3, lw_r4⟩⟩⟩
end
section
/-! ===== BEGIN words of one list among another's, by their places ===== -/
theorem goodIn_r {big : List Cond} (ws : List Cond) (ps : List Nat) (hp : ws = ps.filterMap (fun i => big[i]?)) (h : ws.all goodWord = true) : GoodIn big ws := by
  intro w hw
  have h1 := List.all_eq_true.mp h w hw
  rw [hp] at hw
  obtain ⟨i, -, hi⟩ := List.mem_filterMap.mp hw
  have hm : w ∈ big := by first | exact List.mem_of_getElem? hi | exact List.getElem?_mem hi
  exact ⟨hm, good_of_word h1⟩
theorem goodIn_app {big a b : List Cond} (ha : GoodIn big a) (hb : GoodIn big b) : GoodIn big (a ++ b) := fun w h => (List.mem_append.mp h).elim (ha w) (hb w)
theorem goodIn_ca {big a b : List Cond} {c : Cond} (ha : GoodIn big (c :: a)) (hb : GoodIn big b) : GoodIn big (c :: (a ++ b)) := fun w h => (List.mem_cons.mp h).elim (fun e => ha w (List.mem_cons.mpr (Or.inl e))) (fun h => (List.mem_append.mp h).elim (fun h => ha w (List.mem_cons.mpr (Or.inr h))) (hb w))
theorem goodIn_sub {big ws : List Cond} (hm : ∀ w ∈ ws, w ∈ big) (h : ws.all goodWord = true) : GoodIn big ws := fun w hw => ⟨hm w hw, good_of_word (List.all_eq_true.mp h w hw)⟩
/-! ===== END ===== -/

/-! ===== BEGIN exceptions that leave a method, and their catching by the caller (launches without stack traces) ===== -/
section VXA
/-! The laws vx_back, vx_callV, vx_callS, vx_callSW, vx_throw0, vx_throwS follow proofs of the library, with one case more: JvmDerived/Free/Laws.lean (Back.of_free), Shelf42/LK1.lean (callV, callS), Shelf/KitTraced.lean (throwNew0V, throwNewS). -/
/-- where a method has thrown q: the class by its name, the cell, what was written, the world -/
def vx_T (XC : String → State → State → Prop) (st : State) (q : Addr) (t : State) (mc ms : Nat) (free : Addr → Prop) : Prop :=
  ∃ (E : String) (ce : Cell) (L : List Loc), XC E st t ∧ t.heap[q]? = some ce ∧ ce.vm = .none ∧ st.vm.findClass E = some ce.cls ∧ st.WarmedH t.vm ∧ st.sameButNew ({ t with vm := st.vm } : State) L mc ms ∧ ∀ z ∈ L, free z.base
def vx_Q (Qc : Array Value → State → Outcome → State → Prop) (XC : String → State → State → Prop) (mc ms : Nat) (free : Addr → Prop) : Array Value → State → Outcome → State → Prop := fun a st o t =>
  (Qc a st o t ∧ ∃ L, FrameEnd st o t L mc ms ∧ ∀ q ∈ L, free q.base) ∨ ∃ q, o = .threw q ∧ vx_T XC st q t mc ms free
/-- a callee that returns or throws -/
def vx_Met (l : Launch) (y : MethodName) (ws : List Cond) (rm : Room) (Pc : Array Value → State → Prop) (Qc : Array Value → State → Outcome → State → Prop) (XC : String → State → State → Prop) (mc ms : Nat) (free : Addr → Prop) : Prop :=
  MetFree l y (headSpec ws rm) Pc (fun _ _ _ _ _ => True) (vx_Q Qc XC mc ms free)
def vx_Post (XC : String → State → State → Prop) (mc ms : Nat) (free : Addr → Prop) : Pt → Array Value → Addr → Pt → Prop := fun A a q B =>
  ∃ (g : JFrame) (mk : MethodId) (t : State) (L : List Loc) (E : String) (ce : Cell), B.U.heap = t.heap ∧ B.U.vm = t.vm ∧ XC E (A.U.calling g mk a) t ∧ t.heap[q]? = some ce ∧ ce.vm = .none ∧ A.U.vm.findClass E = some ce.cls ∧ B.locs = A.locs ++ L ∧ (∀ z ∈ L, free z.base) ∧ B.cells = A.cells + mc ∧ B.slots = A.slots + ms
def vx_Back (l : Launch) (R : Room) (p : Program) (e : Env) (below : List Frame) (s : State) (sargs : Array Value) (y : MethodName) (len W9 : Nat)
    (Pre : Pt → Array Value → Prop) (Post : Pt → Array Value → Option Value → Pt → Prop) (PostX : Pt → Array Value → Addr → Pt → Prop) : Prop :=
  ∀ (m : MethodId) (meth : Method) (c : Code) (A : Pt) (g : JFrame) (ig : Instr) (mk : MethodId) (a : Array Value),
    Stand p l e R s m sargs below meth c A.U A.locs A.cells A.slots → g.method = m → g.locals.size = c.maxLocals → decode c.code g.pc = .ok (ig, len) →
    2 * g.monitorRoom + (g.stack.map fun v => v.category).sum ≤ W9 → A.U.methodNamed? y = some mk → Pre A a →
    (∃ (v : Option Value) (B : Pt), Stand p l e R s m sargs below meth c B.U B.locs B.cells B.slots ∧ Post A a v B ∧
      Steps p.tables e below (doInvoke e (A.U.setTop g) [] mk a).1 (B.U.setTop { g with pc := g.pc + len, stack := v.toList ++ g.stack })) ∨
    (∃ (q : Addr) (B : Pt), Stand p l e R s m sargs below meth c B.U B.locs B.cells B.slots ∧ PostX A a q B ∧
      Steps p.tables e below (doInvoke e (A.U.setTop g) [] mk a).1 ((B.U.setTop g).pushFrame (.throwing q)))
section Payer
variable {l : Launch} {R : Room} {p : Program} {e : Env} {below : List Frame} {s : State} {sargs : Array Value} {y : MethodName} {len W9 : Nat}
theorem vx_back {ws : List Cond} {rm : Room} {Pc : Array Value → State → Prop} {Qc : Array Value → State → Outcome → State → Prop} {XC : String → State → State → Prop} {mc ms : Nat} {free : Addr → Prop} {bytes : ByteArray} {maxL : Nat} {ret : Option FieldType}
    (hM : vx_Met l y ws rm Pc Qc XC mc ms free) (hblind : FrameBlind Pc) (hrc : rm.cells = mc) (hrs : rm.slots = ms)
    (hframes : rm.frames + 1 ≤ R.frames) (hlocals : W9 + (maxL + 11) + rm.locals ≤ R.locals)
    (hws : ∀ w ∈ ws, ∀ a' U, s.WarmedH U.vm → w.before a' U = true) (hcode : Cond.code y bytes maxL ret ∈ ws) (hinit : ∀ a' U, s.WarmedH U.vm → (Cond.initialized y.cls).before a' U = true) :
    vx_Back l R p e below s sargs y len W9 (PreOf R mc ms Pc) (PostOf Qc mc ms free) (vx_Post XC mc ms free) := by
  intro m meth c A g ig mk a X hg hsize hdg hW hn hp
  have h1 : (headSpec ws rm).pre.before a A.U = true := atoms_intro fun w hw => hws w hw _ _ X.warmed
  have h2 : (Cond.code y bytes maxL ret).before a A.U = true := hws _ hcode _ _ X.warmed
  have h3 : (Cond.initialized y.cls).before a A.U = true := hinit _ _ X.warmed
  have h4 : A.cells + (headSpec ws rm).room.cells ≤ R.cells := by rw [show (headSpec ws rm).room.cells = mc from hrc]; exact hp.1
  have h5 : A.slots + (headSpec ws rm).room.slots ≤ R.slots := by rw [show (headSpec ws rm).room.slots = ms from hrs]; exact hp.2.1
  have hPc : Pc a (A.U.calling g mk a) := hblind _ _ _ _ hp.2.2
  obtain ⟨U, Ls, c0, s0⟩ := A
  dsimp only [Pt.U, Pt.locs, Pt.cells, Pt.slots] at h1 h2 h3 h4 h5 X hn hPc ⊢
  obtain ⟨methY, cY, hmY, hcY, -, hlY, -, -, -, -⟩ := Cond.code_spec hn h2
  obtain ⟨kY, hkY, -⟩ := className_of_methodNamed hn
  have hinitY : kY.init = .initialized := Cond.initialized_spec (findClass_of_methodNamed hn) hkY h3
  have h : At U g.method c below := by rw [hg]; exact X.here
  have hlocals9 : W9 + (maxL + 11) + (headSpec ws rm).room.locals ≤ R.locals := hlocals
  have happ : (headSpec ws rm).appliesLoose y e.platform (U.calling g mk a) = true :=
    Spec.appliesLoose_calling (g := g) h hdg hn hkY hinitY
      (X.room_calling (g := g) (R' := (headSpec ws rm).room) hsize hmY hcY hframes (by rw [hlY]; omega) h4 h5) h1
  obtain ⟨mid, hmid⟩ := h.above
  have hfr : (U.setTop g).frames = (.java g :: mid) ++ below := by rw [State.frames_setTop' g h.top, hmid]; rfl
  obtain ⟨o, s₂, hsteps, -, hend, hq⟩ := Steps.callFree hM p X.admits X.cas X.clock (acts := []) hfr happ hPc trivial
  have hq' : vx_Q Qc XC mc ms free a (U.calling g mk a) o s₂ := hq
  rw [State.frames_setTop' g h.top] at hend
  obtain ⟨g₀, hg0⟩ := Option.isSome_iff_exists.mp h.top
  obtain ⟨r, hr⟩ := State.topJava?_eq_some.mp hg0
  have hr' : (({ U with heap := s₂.heap, slotsUsed := s₂.slotsUsed } : State).setVm s₂.vm).frames = .java g₀ :: r := hr
  rcases hq' with ⟨hqc, L, hfe, hL⟩ | ⟨q, rfl, E, ce, L, hx, hce, hcv, hcl, hW₂, hsm, hL⟩
  · obtain ⟨⟨v, rfl⟩, hW₂, e2, q2, q3, q4, q5, q6⟩ := id hfe
    have e3 : s₂ = ({ (U.calling g mk a).setFrames s₂.frames with heap := s₂.heap, slotsUsed := s₂.slotsUsed } : State).setVm s₂.vm := by
      have : s₂ = ({ s₂ with vm := (U.calling g mk a).vm } : State).setVm s₂.vm := rfl
      rw [e2] at this
      exact this
    obtain ⟨c₂, i₂, len₂, hc₂, hd₂, hf₂⟩ := hend
    have hW' : U.WarmedH s₂.vm := hW₂
    have hcc : c₂ = c := by
      have h1 : s₂.code? g.method = U.code? g.method := by
        rw [State.code?_eq, State.code?_eq, hW'.alike.method?]
      exact Option.some.inj (hc₂.symm.trans (h1.trans h.code))
    subst hcc
    have hlen : len₂ = len := by rw [hdg] at hd₂; cases hd₂; rfl
    subst hlen
    have hs₂ : s₂ = (({ U with heap := s₂.heap, slotsUsed := s₂.slotsUsed } : State).setVm s₂.vm).setTop { g with pc := g.pc + len₂, stack := v.toList ++ g.stack } := by
      refine e3.trans ?_
      rw [hf₂, State.calling_eq h.top, State.setFrames_setFrames, State.setTop_of_frames _ hr', hr]
      rfl
    have hsame : U.sameButNew ({ U with heap := s₂.heap, slotsUsed := s₂.slotsUsed } : State) L mc ms := by
      refine ⟨?_, q2, q3, q4, q5, q6⟩
      obtain ⟨t, ht, -⟩ := State.frames_cons hr
      show ({ U with heap := s₂.heap, slotsUsed := s₂.slotsUsed } : State) = { U.setFrames U.frames with heap := s₂.heap, slotsUsed := s₂.slotsUsed }
      rw [State.setFrames_self ht]
    subst hg
    refine Or.inl ⟨v, ⟨(({ U with heap := s₂.heap, slotsUsed := s₂.slotsUsed } : State).setVm s₂.vm), Ls ++ L, c0 + mc, s0 + ms⟩,
      ⟨X.admits, X.cas, X.clock, X.frames, X.room, X.hears, X.method, X.code, (X.here.setHeapUsed s₂.heap s₂.slotsUsed).setVm hW'.alike, X.tail, State.WarmedH.trans X.warmed hW', X.limits, X.bytes, X.same.trans (hsame.setVm s.vm)⟩,
      ⟨g, mk, s₂, L, rfl, rfl, hqc, rfl, hL, rfl, rfl⟩, ?_⟩
    show Steps p.tables e below _ ((({ U with heap := s₂.heap, slotsUsed := s₂.slotsUsed } : State).setVm s₂.vm).setTop { g with pc := g.pc + len₂, stack := v.toList ++ g.stack })
    rw [← hs₂]
    exact hsteps
  · obtain ⟨e2, q2, q3, q4, q5, q6⟩ := id hsm
    have e3 : s₂ = ({ (U.calling g mk a).setFrames s₂.frames with heap := s₂.heap, slotsUsed := s₂.slotsUsed } : State).setVm s₂.vm := by
      have : s₂ = ({ s₂ with vm := (U.calling g mk a).vm } : State).setVm s₂.vm := rfl
      rw [e2] at this
      exact this
    have hf₂ : s₂.frames = .throwing q :: .java g :: U.frames.tail := hend
    have hW' : U.WarmedH s₂.vm := hW₂
    have hs₂ : s₂ = ((({ U with heap := s₂.heap, slotsUsed := s₂.slotsUsed } : State).setVm s₂.vm).setTop g).pushFrame (.throwing q) := by
      refine e3.trans ?_
      rw [hf₂, State.calling_eq h.top, State.setFrames_setFrames, State.pushFrame, State.frames_setTop _ hr', State.setTop_of_frames _ hr', State.setFrames_setFrames, hr]
      rfl
    have hsame : U.sameButNew ({ U with heap := s₂.heap, slotsUsed := s₂.slotsUsed } : State) L mc ms := by
      refine ⟨?_, q2, q3, q4, q5, q6⟩
      obtain ⟨t, ht, -⟩ := State.frames_cons hr
      show ({ U with heap := s₂.heap, slotsUsed := s₂.slotsUsed } : State) = { U.setFrames U.frames with heap := s₂.heap, slotsUsed := s₂.slotsUsed }
      rw [State.setFrames_self ht]
    subst hg
    refine Or.inr ⟨q, ⟨(({ U with heap := s₂.heap, slotsUsed := s₂.slotsUsed } : State).setVm s₂.vm), Ls ++ L, c0 + mc, s0 + ms⟩,
      ⟨X.admits, X.cas, X.clock, X.frames, X.room, X.hears, X.method, X.code, (X.here.setHeapUsed s₂.heap s₂.slotsUsed).setVm hW'.alike, X.tail, State.WarmedH.trans X.warmed hW', X.limits, X.bytes, X.same.trans (hsame.setVm s.vm)⟩,
      ⟨g, mk, s₂, L, E, ce, rfl, rfl, hx, hce, hcv, hcl, rfl, hL, rfl, rfl⟩, ?_⟩
    show Steps p.tables e below _ (((({ U with heap := s₂.heap, slotsUsed := s₂.slotsUsed } : State).setVm s₂.vm).setTop g).pushFrame (.throwing q))
    rw [← hs₂]
    exact hsteps
end Payer
section Calls
variable {p : Program} {l : Launch} {e : Env} {R : Room} {s : State} {m : MethodId} {args : Array Value} {below : List Frame} {meth : Method} {c : Code} {T : State} {locs : List Loc} {cells slots : Nat}
theorem vx_callV (X : Stand p l e R s m args below meth c T locs cells slots) (hexec : p.tables.exec = Jvm.exec) {own C : String} {index : Nat} {y : MethodName} {bytes : ByteArray} {maxL : Nat} {ret : Option FieldType}
    (hown : s.vm.findClass own = some m.cls) (hlink : (Cond.methodLink own index y).before args s = true) (hinst : (Cond.instanceMethod y).before args s = true) (hsel : (Cond.selects C y y).before args s = true)
    (hcode : (Cond.code y bytes maxL ret).before args s = true) (hy : y.cls ≠ "java/lang/invoke/MethodHandle" ∧ y.cls ≠ "java/lang/invoke/VarHandle")
    {W9 : Nat} {Pre : Pt → Array Value → Prop} {Post : Pt → Array Value → Option Value → Pt → Prop} {PostX : Pt → Array Value → Addr → Pt → Prop} (hK : vx_Back l R p e below s args y 3 W9 Pre Post PostX)
    {b : Addr} {cellB : Cell} (hcell : T.heap[b]? = some cellB) (hobj : cellB.vm.isStatics = false) (hcls : s.vm.findClass C = some cellB.cls)
    {g : JFrame} (hg : g.method = m) (hsize : g.locals.size = c.maxLocals) {argsL rest : List Value} (hlen : ∀ sig, parseMethodDescriptor y.desc = some sig → argsL.length = sig.parameters.length)
    (hstack : g.stack = argsL.reverse ++ .ref b :: rest) (hW : 2 * g.monitorRoom + (rest.map fun v => v.category).sum ≤ W9) (hdg : decode c.code g.pc = .ok (.invokevirtual index, 3))
    (hpre : ∀ vm₁, s.WarmedH vm₁ → Pre ⟨T.setVm vm₁, locs, cells, slots⟩ (Value.ref b :: argsL).toArray) :
    (∃ (v : Option Value) (vm₁ : Vm) (B : Pt), s.WarmedH vm₁ ∧ Stand p l e R s m args below meth c B.U B.locs B.cells B.slots ∧ Post ⟨T.setVm vm₁, locs, cells, slots⟩ (Value.ref b :: argsL).toArray v B ∧
      ∀ target, Steps p.tables e below (B.U.setTop { g with pc := g.pc + 3, stack := v.toList ++ rest }) target → Steps p.tables e below (T.setTop g) target) ∨
    (∃ (q : Addr) (vm₁ : Vm) (B : Pt), s.WarmedH vm₁ ∧ Stand p l e R s m args below meth c B.U B.locs B.cells B.slots ∧ PostX ⟨T.setVm vm₁, locs, cells, slots⟩ (Value.ref b :: argsL).toArray q B ∧
      Steps p.tables e below (T.setTop g) ((B.U.setTop { g with stack := rest }).pushFrame (.throwing q))) := by
  obtain ⟨mk, methM, hnamed, hmethM, hstM, habM⟩ := Cond.instanceMethod_spec hinst
  obtain ⟨methM', cM, hmethM', -, -, -, -, -, -, hsigM⟩ := Cond.code_spec hnamed hcode
  cases hmethM.symm.trans hmethM'
  obtain ⟨c2, r2, m2, q1, q2, q3, q4, kP, hkP, hkPi⟩ := Cond.selects_spec hsel
  cases hcls.symm.trans q1
  cases (State.methodFound?_of_named hnamed hy).symm.trans q2
  cases hnamed.symm.trans q3
  have hselP : selectMethod e.platform s.vm cellB.cls mk = .method mk := by rw [Launch.admits_selectMethod X.admits]; exact q4
  obtain ⟨vm₁, X₁, hstep₁⟩ := X.invokevirtual hexec hown hlink hnamed hmethM hstM hkP hkPi hy (a := b) (cell := cellB) hcell
    (fun z h => by rw [h] at hobj; cases hobj) hselP hmethM habM hkP hkPi (g := g) hg (argsL := argsL) (rest := rest) (hlen _ hsigM) hstack hdg
  rcases hK m meth c ⟨T.setVm vm₁, locs, cells, slots⟩ { g with stack := rest } (.invokevirtual index) mk (Value.ref b :: argsL).toArray X₁ hg hsize hdg hW (X₁.named hnamed) (hpre vm₁ X₁.warmed) with ⟨v, B, X', hpost, hsteps⟩ | ⟨q, B, X', hpost, hsteps⟩
  · exact Or.inl ⟨v, vm₁, B, X₁.warmed, X', hpost, fun target h => hstep₁ _ fun acts => by rw [doInvoke_state]; exact hsteps.trans h⟩
  · exact Or.inr ⟨q, vm₁, B, X₁.warmed, X', hpost, hstep₁ _ fun acts => by rw [doInvoke_state]; exact hsteps⟩
theorem vx_callS (X : Stand p l e R s m args below meth c T locs cells slots) (hexec : p.tables.exec = Jvm.exec) {own : String} {index : Nat} {y : MethodName} {bytes : ByteArray} {maxL : Nat} {ret : Option FieldType}
    (hown : s.vm.findClass own = some m.cls) (hlink : (Cond.methodLink own index y).before args s = true) (hstat : (Cond.static y).before args s = true) (hinit : (Cond.initialized y.cls).before args s = true)
    (hcode : (Cond.code y bytes maxL ret).before args s = true) (hy : y.cls ≠ "java/lang/invoke/MethodHandle" ∧ y.cls ≠ "java/lang/invoke/VarHandle")
    {W9 : Nat} {Pre : Pt → Array Value → Prop} {Post : Pt → Array Value → Option Value → Pt → Prop} {PostX : Pt → Array Value → Addr → Pt → Prop} (hK : vx_Back l R p e below s args y 3 W9 Pre Post PostX)
    {g : JFrame} (hg : g.method = m) (hsize : g.locals.size = c.maxLocals) {argsL rest : List Value} (hlen : ∀ sig, parseMethodDescriptor y.desc = some sig → argsL.length = sig.parameters.length)
    (hstack : g.stack = argsL.reverse ++ rest) (hW : 2 * g.monitorRoom + (rest.map fun v => v.category).sum ≤ W9) (hdg : decode c.code g.pc = .ok (.invokestatic index, 3))
    (hpre : ∀ vm₁, s.WarmedH vm₁ → Pre ⟨T.setVm vm₁, locs, cells, slots⟩ argsL.toArray) :
    (∃ (v : Option Value) (vm₁ : Vm) (B : Pt), s.WarmedH vm₁ ∧ Stand p l e R s m args below meth c B.U B.locs B.cells B.slots ∧ Post ⟨T.setVm vm₁, locs, cells, slots⟩ argsL.toArray v B ∧
      ∀ target, Steps p.tables e below (B.U.setTop { g with pc := g.pc + 3, stack := v.toList ++ rest }) target → Steps p.tables e below (T.setTop g) target) ∨
    (∃ (q : Addr) (vm₁ : Vm) (B : Pt), s.WarmedH vm₁ ∧ Stand p l e R s m args below meth c B.U B.locs B.cells B.slots ∧ PostX ⟨T.setVm vm₁, locs, cells, slots⟩ argsL.toArray q B ∧
      Steps p.tables e below (T.setTop g) ((B.U.setTop { g with stack := rest }).pushFrame (.throwing q))) := by
  obtain ⟨mk, hnamed⟩ := Cond.code_named hcode
  obtain ⟨methM, cM, hmethM, -, -, -, -, -, -, hsigM⟩ := Cond.code_spec hnamed hcode
  have hstatic : methM.isStatic = true := Cond.static_spec hnamed hmethM hstat
  obtain ⟨kP, hkP, -⟩ := className_of_methodNamed hnamed
  have hinitP : kP.init = .initialized := Cond.initialized_spec (findClass_of_methodNamed hnamed) hkP hinit
  obtain ⟨vm₁, X₁, hstep₁⟩ := X.invokestatic hexec hown hlink hnamed hmethM hstatic hkP hinitP hy (g := g) hg (argsL := argsL) (rest := rest) (hlen _ hsigM) hstack hdg
  rcases hK m meth c ⟨T.setVm vm₁, locs, cells, slots⟩ { g with stack := rest } (.invokestatic index) mk argsL.toArray X₁ hg hsize hdg hW (X₁.named hnamed) (hpre vm₁ X₁.warmed) with ⟨v, B, X', hpost, hsteps⟩ | ⟨q, B, X', hpost, hsteps⟩
  · exact Or.inl ⟨v, vm₁, B, X₁.warmed, X', hpost, fun target h => hstep₁ _ fun acts => by rw [doInvoke_state]; exact hsteps.trans h⟩
  · exact Or.inr ⟨q, vm₁, B, X₁.warmed, X', hpost, hstep₁ _ fun acts => by rw [doInvoke_state]; exact hsteps⟩
end Calls
theorem vx_cls {s : State} {T : State} {vm₁ : Vm} {E : String} {k : ClassId} (hW : s.WarmedH vm₁) (h : (T.setVm vm₁).vm.findClass E = some k) : s.vm.findClass E = some k := by
  have h1 : vm₁.findClass E = some k := h
  rw [hW.alike.findClass] at h1
  exact h1
/-- the method's frame g, with q thrown over it -/
def vx_W (p : Program) (l : Launch) (e : Env) (R : Room) (s : State) (m : MethodId) (args : Array Value) (below : List Frame) (meth : Method) (c : Code) (H : Heap) (locs : List Loc) (cells slots : Nat) (Q : State → Prop) (g : JFrame) (q : Addr) : Prop :=
  ∀ T : State, T.heap = H → Stand p l e R s m args below meth c T locs cells slots → ∃ t, Steps p.tables e below ((T.setTop g).pushFrame (.throwing q)) t ∧ Q t
def vx_Run (p : Program) (l : Launch) (e : Env) (R : Room) (s : State) (m : MethodId) (args : Array Value) (below : List Frame) (meth : Method) (c : Code) (H : Heap) (locs : List Loc) (cells slots mc ms : Nat) (g : JFrame) (rest : List Value) (Qa : State → Outcome → State → Prop) (XC : String → State → State → Prop) (free : Addr → Prop) : Prop :=
  ∀ T : State, T.heap = H → Stand p l e R s m args below meth c T locs cells slots →
    (∃ (v : Option Value) (st₀ t T' : State) (L : List Loc), st₀.heap = H ∧ Stand p l e R s m args below meth c T' (locs ++ L) (cells + mc) (slots + ms) ∧ (∀ q ∈ L, free q.base) ∧ T'.heap = t.heap ∧ T'.vm = t.vm ∧ Qa st₀ (.returned v) t ∧
      Goes p e below T g T' { g with pc := g.pc + 3, stack := v.toList ++ rest }) ∨
    (∃ (q : Addr) (st₀ t T' : State) (L : List Loc) (E : String) (ce : Cell), st₀.heap = H ∧ Stand p l e R s m args below meth c T' (locs ++ L) (cells + mc) (slots + ms) ∧ (∀ z ∈ L, free z.base) ∧ T'.heap = t.heap ∧ T'.vm = t.vm ∧ XC E st₀ t ∧ t.heap[q]? = some ce ∧ ce.vm = .none ∧ s.vm.findClass E = some ce.cls ∧
      Steps p.tables e below (T.setTop g) ((T'.setTop { g with stack := rest }).pushFrame (.throwing q)))
def vx_X {S : Type} (px : S → Prop) (B : String → S → State → Prop) (A : Nat → Prop) : String → State → State → Prop := fun E st t => ∃ u : S, px u ∧ B E u t ∧ va_F A st t
section Runs
variable {p : Program} {l : Launch} {e : Env} {R : Room} {s : State} {m : MethodId} {args : Array Value} {below : List Frame} {meth : Method} {c : Code} {H : Heap} {locs : List Loc} {cells slots : Nat}
variable {y : MethodName} {bytes cc : ByteArray} {maxL nL mc ms n index : Nat} {ret : Option FieldType} {ws : List Cond} {rm : Room} {Pc : Array Value → State → Prop} {Qc : Array Value → State → Outcome → State → Prop} {XC : String → State → State → Prop} {free : Addr → Prop} {Ts : List Cond} {own C : String} {b : Addr} {As rest : List Value} {g : JFrame}
theorem vx_callBack (cb : CallB R s args own index y bytes maxL ret ws rm mc ms n) (hM : vx_Met l y ws rm Pc Qc XC mc ms free) (hbl : FrameBlind Pc) : vx_Back l R p e below s args y 3 8 (PreOf R mc ms Pc) (PostOf Qc mc ms free) (vx_Post XC mc ms free) := by
  obtain ⟨hrc, hrs, hfr, hlo, hws, hcw, -, hini, -⟩ := cb
  exact vx_back (bytes := bytes) (maxL := maxL) (ret := ret) hM hbl hrc hrs hfr hlo hws hcw (fun a' U hW => word_at hW (Or.inl (by first | rfl | simp [Cond.onTables, Cond.keeps, Cond.steady])) hini)
theorem vx_runV (S : CallFix p m c cc nL s args Ts own) (hM : vx_Met l y ws rm Pc Qc XC mc ms free) (cw : CallW R s args own C index y bytes maxL ret ws rm mc ms n) (hp : PreV s H C b Pc As)
    (hg : g.method = m) (hn : As.length = n) (hsize : g.locals.size = nL) (hstack : g.stack = As.reverse ++ .ref b :: rest) (hW : 2 * g.monitorRoom + (rest.map fun v => v.category).sum ≤ 8) (hdg : decode cc g.pc = .ok (.invokevirtual index, 3)) (hf : cells + mc ≤ R.cells ∧ slots + ms ≤ R.slots) :
    vx_Run p l e R s m args below meth c H locs cells slots mc ms g rest (Qc (Value.ref b :: As).toArray) XC free := by
  have hK : vx_Back l R p e below s args y 3 8 (PreOf R mc ms Pc) (PostOf Qc mc ms free) (vx_Post XC mc ms free) := vx_callBack cw.1 hM hp.1
  obtain ⟨⟨-, -, -, -, -, -, hcode, -, hy, hlen, hl⟩, hin, hse⟩ := cw
  obtain ⟨hx, hb, hml, ho, -⟩ := S
  obtain ⟨-, ⟨cellB, hcB, hoB, hclB⟩, hPc⟩ := hp
  intro T hT X
  rcases vx_callV X hx (C := C) (bytes := bytes) (maxL := maxL) (ret := ret) ho hl hin hse hcode hy hK (by rw [hT]; exact hcB) hoB hclB hg (hsize.trans hml.symm) (argsL := As) (rest := rest) (fun sig h => hn.trans (hlen sig h)) hstack hW (by rw [hb]; exact hdg)
    (fun vm₁ hW₁ => ⟨hf.1, hf.2, hPc (T.setVm vm₁) hT hW₁⟩) with ⟨v, vm₁, ⟨U', l2, c2, s2⟩, hW₁, X', ⟨g', mk, t, L, e1, e2, hq, h1, hL, h2, h3⟩, st⟩ | ⟨q, vm₁, ⟨U', l2, c2, s2⟩, hW₁, X', ⟨g', mk, t, L, E, ce, e1, e2, hq, hce, hcv, hcl, h1, hL, h2, h3⟩, st⟩
  · dsimp only [Pt.U, Pt.locs, Pt.cells, Pt.slots] at X' e1 e2 h1 h2 h3 st
    subst h1; subst h2; subst h3
    exact Or.inl ⟨v, (T.setVm vm₁).calling g' mk (Value.ref b :: As).toArray, t, U', L, hT, X', hL, e1, e2, hq, st⟩
  · dsimp only [Pt.U, Pt.locs, Pt.cells, Pt.slots] at X' e1 e2 h1 h2 h3 st hcl
    subst h1; subst h2; subst h3
    exact Or.inr ⟨q, (T.setVm vm₁).calling g' mk (Value.ref b :: As).toArray, t, U', L, E, ce, hT, X', hL, e1, e2, hq, hce, hcv, vx_cls hW₁ hcl, st⟩
theorem vx_runS (S : CallFix p m c cc nL s args Ts own) (hM : vx_Met l y ws rm Pc Qc XC mc ms free) (cw : CallB R s args own index y bytes maxL ret ws rm mc ms n ∧ (Cond.static y).before args s = true) (hp : PreS s H Pc As)
    (hg : g.method = m) (hn : As.length = n) (hsize : g.locals.size = nL) (hstack : g.stack = As.reverse ++ rest) (hW : 2 * g.monitorRoom + (rest.map fun v => v.category).sum ≤ 8) (hdg : decode cc g.pc = .ok (.invokestatic index, 3)) (hf : cells + mc ≤ R.cells ∧ slots + ms ≤ R.slots) :
    vx_Run p l e R s m args below meth c H locs cells slots mc ms g rest (Qc As.toArray) XC free := by
  have hK : vx_Back l R p e below s args y 3 8 (PreOf R mc ms Pc) (PostOf Qc mc ms free) (vx_Post XC mc ms free) := vx_callBack cw.1 hM hp.1
  obtain ⟨⟨-, -, -, -, -, -, hcode, hini, hy, hlen, hl⟩, hstt⟩ := cw
  obtain ⟨hx, hb, hml, ho, -⟩ := S
  intro T hT X
  rcases vx_callS X hx (bytes := bytes) (maxL := maxL) (ret := ret) ho hl hstt hini hcode hy hK hg (hsize.trans hml.symm) (argsL := As) (rest := rest) (fun sig h => hn.trans (hlen sig h)) hstack hW (by rw [hb]; exact hdg)
    (fun vm₁ hW₁ => ⟨hf.1, hf.2, hp.2 (T.setVm vm₁) hT hW₁⟩) with ⟨v, vm₁, ⟨U', l2, c2, s2⟩, hW₁, X', ⟨g', mk, t, L, e1, e2, hq, h1, hL, h2, h3⟩, st⟩ | ⟨q, vm₁, ⟨U', l2, c2, s2⟩, hW₁, X', ⟨g', mk, t, L, E, ce, e1, e2, hq, hce, hcv, hcl, h1, hL, h2, h3⟩, st⟩
  · dsimp only [Pt.U, Pt.locs, Pt.cells, Pt.slots] at X' e1 e2 h1 h2 h3 st
    subst h1; subst h2; subst h3
    exact Or.inl ⟨v, (T.setVm vm₁).calling g' mk As.toArray, t, U', L, hT, X', hL, e1, e2, hq, st⟩
  · dsimp only [Pt.U, Pt.locs, Pt.cells, Pt.slots] at X' e1 e2 h1 h2 h3 st hcl
    subst h1; subst h2; subst h3
    exact Or.inr ⟨q, (T.setVm vm₁).calling g' mk As.toArray, t, U', L, E, ce, hT, X', hL, e1, e2, hq, hce, hcv, vx_cls hW₁ hcl, st⟩
end Runs
section Rows
variable {p : Program} {l : Launch} {e : Env} {R : Room} {s : State} {m : MethodId} {args : Array Value} {below : List Frame} {meth : Method} {c : Code} {H : Heap} {locs : List Loc} {cells slots : Nat} {Q : State → Prop}
variable {mc ms : Nat} {free : Addr → Prop} {A0 A1 : Nat → Prop} {H0 : Heap} {a : Array Value} {pc : Nat} {ls : Array Slot} {st0 rest : List Value}
theorem vx_keep {st₀ t T' : State} {L : List Loc} (h0 : st₀.heap = H) (e1 : T'.heap = t.heap) (hS : va_S A0 H0 H locs) (hA : ∀ q, q < H.size → A1 q → A0 q) (hf : ∀ q, free q → A0 q) (hL : ∀ q ∈ L, free q.base) (hF : va_F A1 st₀ t) :
    H.size ≤ T'.heap.size ∧ (∀ q : Nat, q < H.size → ¬ A1 q → T'.heap[q]? = H[q]?) ∧ va_S A0 H0 T'.heap (locs ++ L) := by
  obtain ⟨hz, hk⟩ := hF
  rw [h0] at hz hk
  exact ⟨by rw [e1]; exact hz, fun q h1 h2 => by rw [e1]; exact hk q h1 h2,
    ⟨Nat.le_trans hS.1 (by rw [e1]; exact hz), fun q h1 h2 => by rw [e1, hk q (Nat.lt_of_lt_of_le h1 hS.1) (fun z => h2 (hA q (Nat.lt_of_lt_of_le h1 hS.1) z))]; exact hS.2.1 q h1 h2, fun q hq => by
      rcases List.mem_append.mp hq with h | h
      · exact hS.2.2 q h
      · exact hf _ (hL q h)⟩⟩
theorem vx_calli {S SX : Type} {post : Int32 → S → Prop} {px : SX → Prop} {B : S → State → Prop} {BX : String → SX → State → Prop} {AX : Nat → Prop} (hr : vx_Run p l e R s m args below meth c H locs cells slots mc ms (F0 m pc ls st0) rest (va_Qi post B A1 a) (vx_X px BX AX) free) (hS : va_S A0 H0 H locs) (hA : ∀ q, q < H.size → A1 q → A0 q) (hf : ∀ q, free q → A0 q) (hAX : ∀ q, q < H.size → AX q → A0 q)
    (kx : ∀ (E : String) (ce : Cell) (q9 : Addr) (u : SX) (t : State) (H1 : Heap) (locs1 : List Loc), t.heap = H1 → s.vm.Alike t.vm → px u → BX E u t → H.size ≤ H1.size → (∀ q : Nat, q < H.size → ¬ AX q → H1[q]? = H[q]?) → va_S A0 H0 H1 locs1 → H1[q9]? = some ce → ce.vm = .none → s.vm.findClass E = some ce.cls → vx_W p l e R s m args below meth c H1 locs1 (cells + mc) (slots + ms) Q (F0 m pc ls rest) q9)
    (kk : ∀ (r : Int32) (u : S) (t : State) (H1 : Heap) (locs1 : List Loc), t.heap = H1 → s.vm.Alike t.vm → post r u → B u t → H.size ≤ H1.size → (∀ q : Nat, q < H.size → ¬ A1 q → H1[q]? = H[q]?) → va_S A0 H0 H1 locs1 → W p l e R s m args below meth c H1 locs1 (cells + mc) (slots + ms) Q (F0 m (pc + 3) ls (.int r :: rest))) : W p l e R s m args below meth c H locs cells slots Q (F0 m pc ls st0) := by
  intro T hT X
  rcases hr T hT X with ⟨v, st₀, t, T', L, h0, X', hL, e1, e2, ⟨⟨r, u, hv, hp, hb⟩, hF⟩, st⟩ | ⟨q, st₀, t, T', L, E, ce, h0, X', hL, e1, e2, ⟨u, hp, hb, hF⟩, hce, hcv, hcl, st⟩
  · cases hv
    obtain ⟨k1, k2, k3⟩ := vx_keep h0 e1 hS hA hf hL hF
    obtain ⟨t2, a1, b1⟩ := kk r u t T'.heap (locs ++ L) e1.symm (by rw [← e2]; exact X'.warmed.alike) hp hb k1 k2 k3 T' rfl X'
    exact ⟨t2, st t2 a1, b1⟩
  · obtain ⟨k1, k2, k3⟩ := vx_keep h0 e1 hS hAX hf hL hF
    obtain ⟨t2, a1, b1⟩ := kx E ce q u t T'.heap (locs ++ L) e1.symm (by rw [← e2]; exact X'.warmed.alike) hp hb k1 k2 k3 (by rw [e1]; exact hce) hcv hcl T' rfl X'
    exact ⟨t2, st.trans a1, b1⟩
theorem vx_calll {S SX : Type} {post : Int64 → S → Prop} {px : SX → Prop} {B : S → State → Prop} {BX : String → SX → State → Prop} {AX : Nat → Prop} (hr : vx_Run p l e R s m args below meth c H locs cells slots mc ms (F0 m pc ls st0) rest (va_Ql post B A1 a) (vx_X px BX AX) free) (hS : va_S A0 H0 H locs) (hA : ∀ q, q < H.size → A1 q → A0 q) (hf : ∀ q, free q → A0 q) (hAX : ∀ q, q < H.size → AX q → A0 q)
    (kx : ∀ (E : String) (ce : Cell) (q9 : Addr) (u : SX) (t : State) (H1 : Heap) (locs1 : List Loc), t.heap = H1 → s.vm.Alike t.vm → px u → BX E u t → H.size ≤ H1.size → (∀ q : Nat, q < H.size → ¬ AX q → H1[q]? = H[q]?) → va_S A0 H0 H1 locs1 → H1[q9]? = some ce → ce.vm = .none → s.vm.findClass E = some ce.cls → vx_W p l e R s m args below meth c H1 locs1 (cells + mc) (slots + ms) Q (F0 m pc ls rest) q9)
    (kk : ∀ (r : Int64) (u : S) (t : State) (H1 : Heap) (locs1 : List Loc), t.heap = H1 → s.vm.Alike t.vm → post r u → B u t → H.size ≤ H1.size → (∀ q : Nat, q < H.size → ¬ A1 q → H1[q]? = H[q]?) → va_S A0 H0 H1 locs1 → W p l e R s m args below meth c H1 locs1 (cells + mc) (slots + ms) Q (F0 m (pc + 3) ls (.long r :: rest))) : W p l e R s m args below meth c H locs cells slots Q (F0 m pc ls st0) := by
  intro T hT X
  rcases hr T hT X with ⟨v, st₀, t, T', L, h0, X', hL, e1, e2, ⟨⟨r, u, hv, hp, hb⟩, hF⟩, st⟩ | ⟨q, st₀, t, T', L, E, ce, h0, X', hL, e1, e2, ⟨u, hp, hb, hF⟩, hce, hcv, hcl, st⟩
  · cases hv
    obtain ⟨k1, k2, k3⟩ := vx_keep h0 e1 hS hA hf hL hF
    obtain ⟨t2, a1, b1⟩ := kk r u t T'.heap (locs ++ L) e1.symm (by rw [← e2]; exact X'.warmed.alike) hp hb k1 k2 k3 T' rfl X'
    exact ⟨t2, st t2 a1, b1⟩
  · obtain ⟨k1, k2, k3⟩ := vx_keep h0 e1 hS hAX hf hL hF
    obtain ⟨t2, a1, b1⟩ := kx E ce q u t T'.heap (locs ++ L) e1.symm (by rw [← e2]; exact X'.warmed.alike) hp hb k1 k2 k3 (by rw [e1]; exact hce) hcv hcl T' rfl X'
    exact ⟨t2, st.trans a1, b1⟩
theorem vx_callf {S SX : Type} {post : UInt32 → S → Prop} {px : SX → Prop} {B : S → State → Prop} {BX : String → SX → State → Prop} {AX : Nat → Prop} (hr : vx_Run p l e R s m args below meth c H locs cells slots mc ms (F0 m pc ls st0) rest (va_Qf post B A1 a) (vx_X px BX AX) free) (hS : va_S A0 H0 H locs) (hA : ∀ q, q < H.size → A1 q → A0 q) (hf : ∀ q, free q → A0 q) (hAX : ∀ q, q < H.size → AX q → A0 q)
    (kx : ∀ (E : String) (ce : Cell) (q9 : Addr) (u : SX) (t : State) (H1 : Heap) (locs1 : List Loc), t.heap = H1 → s.vm.Alike t.vm → px u → BX E u t → H.size ≤ H1.size → (∀ q : Nat, q < H.size → ¬ AX q → H1[q]? = H[q]?) → va_S A0 H0 H1 locs1 → H1[q9]? = some ce → ce.vm = .none → s.vm.findClass E = some ce.cls → vx_W p l e R s m args below meth c H1 locs1 (cells + mc) (slots + ms) Q (F0 m pc ls rest) q9)
    (kk : ∀ (r : UInt32) (u : S) (t : State) (H1 : Heap) (locs1 : List Loc), t.heap = H1 → s.vm.Alike t.vm → post r u → B u t → H.size ≤ H1.size → (∀ q : Nat, q < H.size → ¬ A1 q → H1[q]? = H[q]?) → va_S A0 H0 H1 locs1 → W p l e R s m args below meth c H1 locs1 (cells + mc) (slots + ms) Q (F0 m (pc + 3) ls (.float r :: rest))) : W p l e R s m args below meth c H locs cells slots Q (F0 m pc ls st0) := by
  intro T hT X
  rcases hr T hT X with ⟨v, st₀, t, T', L, h0, X', hL, e1, e2, ⟨⟨r, u, hv, hp, hb⟩, hF⟩, st⟩ | ⟨q, st₀, t, T', L, E, ce, h0, X', hL, e1, e2, ⟨u, hp, hb, hF⟩, hce, hcv, hcl, st⟩
  · cases hv
    obtain ⟨k1, k2, k3⟩ := vx_keep h0 e1 hS hA hf hL hF
    obtain ⟨t2, a1, b1⟩ := kk r u t T'.heap (locs ++ L) e1.symm (by rw [← e2]; exact X'.warmed.alike) hp hb k1 k2 k3 T' rfl X'
    exact ⟨t2, st t2 a1, b1⟩
  · obtain ⟨k1, k2, k3⟩ := vx_keep h0 e1 hS hAX hf hL hF
    obtain ⟨t2, a1, b1⟩ := kx E ce q u t T'.heap (locs ++ L) e1.symm (by rw [← e2]; exact X'.warmed.alike) hp hb k1 k2 k3 (by rw [e1]; exact hce) hcv hcl T' rfl X'
    exact ⟨t2, st.trans a1, b1⟩
theorem vx_calld {S SX : Type} {post : UInt64 → S → Prop} {px : SX → Prop} {B : S → State → Prop} {BX : String → SX → State → Prop} {AX : Nat → Prop} (hr : vx_Run p l e R s m args below meth c H locs cells slots mc ms (F0 m pc ls st0) rest (va_Qd post B A1 a) (vx_X px BX AX) free) (hS : va_S A0 H0 H locs) (hA : ∀ q, q < H.size → A1 q → A0 q) (hf : ∀ q, free q → A0 q) (hAX : ∀ q, q < H.size → AX q → A0 q)
    (kx : ∀ (E : String) (ce : Cell) (q9 : Addr) (u : SX) (t : State) (H1 : Heap) (locs1 : List Loc), t.heap = H1 → s.vm.Alike t.vm → px u → BX E u t → H.size ≤ H1.size → (∀ q : Nat, q < H.size → ¬ AX q → H1[q]? = H[q]?) → va_S A0 H0 H1 locs1 → H1[q9]? = some ce → ce.vm = .none → s.vm.findClass E = some ce.cls → vx_W p l e R s m args below meth c H1 locs1 (cells + mc) (slots + ms) Q (F0 m pc ls rest) q9)
    (kk : ∀ (r : UInt64) (u : S) (t : State) (H1 : Heap) (locs1 : List Loc), t.heap = H1 → s.vm.Alike t.vm → post r u → B u t → H.size ≤ H1.size → (∀ q : Nat, q < H.size → ¬ A1 q → H1[q]? = H[q]?) → va_S A0 H0 H1 locs1 → W p l e R s m args below meth c H1 locs1 (cells + mc) (slots + ms) Q (F0 m (pc + 3) ls (.double r :: rest))) : W p l e R s m args below meth c H locs cells slots Q (F0 m pc ls st0) := by
  intro T hT X
  rcases hr T hT X with ⟨v, st₀, t, T', L, h0, X', hL, e1, e2, ⟨⟨r, u, hv, hp, hb⟩, hF⟩, st⟩ | ⟨q, st₀, t, T', L, E, ce, h0, X', hL, e1, e2, ⟨u, hp, hb, hF⟩, hce, hcv, hcl, st⟩
  · cases hv
    obtain ⟨k1, k2, k3⟩ := vx_keep h0 e1 hS hA hf hL hF
    obtain ⟨t2, a1, b1⟩ := kk r u t T'.heap (locs ++ L) e1.symm (by rw [← e2]; exact X'.warmed.alike) hp hb k1 k2 k3 T' rfl X'
    exact ⟨t2, st t2 a1, b1⟩
  · obtain ⟨k1, k2, k3⟩ := vx_keep h0 e1 hS hAX hf hL hF
    obtain ⟨t2, a1, b1⟩ := kx E ce q u t T'.heap (locs ++ L) e1.symm (by rw [← e2]; exact X'.warmed.alike) hp hb k1 k2 k3 (by rw [e1]; exact hce) hcv hcl T' rfl X'
    exact ⟨t2, st.trans a1, b1⟩
theorem vx_callv {S SX : Type} {post : S → Prop} {px : SX → Prop} {B : S → State → Prop} {BX : String → SX → State → Prop} {AX : Nat → Prop} (hr : vx_Run p l e R s m args below meth c H locs cells slots mc ms (F0 m pc ls st0) rest (va_Qv post B A1 a) (vx_X px BX AX) free) (hS : va_S A0 H0 H locs) (hA : ∀ q, q < H.size → A1 q → A0 q) (hf : ∀ q, free q → A0 q) (hAX : ∀ q, q < H.size → AX q → A0 q)
    (kx : ∀ (E : String) (ce : Cell) (q9 : Addr) (u : SX) (t : State) (H1 : Heap) (locs1 : List Loc), t.heap = H1 → s.vm.Alike t.vm → px u → BX E u t → H.size ≤ H1.size → (∀ q : Nat, q < H.size → ¬ AX q → H1[q]? = H[q]?) → va_S A0 H0 H1 locs1 → H1[q9]? = some ce → ce.vm = .none → s.vm.findClass E = some ce.cls → vx_W p l e R s m args below meth c H1 locs1 (cells + mc) (slots + ms) Q (F0 m pc ls rest) q9)
    (kk : ∀ (u : S) (t : State) (H1 : Heap) (locs1 : List Loc), t.heap = H1 → s.vm.Alike t.vm → post u → B u t → H.size ≤ H1.size → (∀ q : Nat, q < H.size → ¬ A1 q → H1[q]? = H[q]?) → va_S A0 H0 H1 locs1 → W p l e R s m args below meth c H1 locs1 (cells + mc) (slots + ms) Q (F0 m (pc + 3) ls (rest))) : W p l e R s m args below meth c H locs cells slots Q (F0 m pc ls st0) := by
  intro T hT X
  rcases hr T hT X with ⟨v, st₀, t, T', L, h0, X', hL, e1, e2, ⟨⟨u, hv, hp, hb⟩, hF⟩, st⟩ | ⟨q, st₀, t, T', L, E, ce, h0, X', hL, e1, e2, ⟨u, hp, hb, hF⟩, hce, hcv, hcl, st⟩
  · cases hv
    obtain ⟨k1, k2, k3⟩ := vx_keep h0 e1 hS hA hf hL hF
    obtain ⟨t2, a1, b1⟩ := kk u t T'.heap (locs ++ L) e1.symm (by rw [← e2]; exact X'.warmed.alike) hp hb k1 k2 k3 T' rfl X'
    exact ⟨t2, st t2 a1, b1⟩
  · obtain ⟨k1, k2, k3⟩ := vx_keep h0 e1 hS hAX hf hL hF
    obtain ⟨t2, a1, b1⟩ := kx E ce q u t T'.heap (locs ++ L) e1.symm (by rw [← e2]; exact X'.warmed.alike) hp hb k1 k2 k3 (by rw [e1]; exact hce) hcv hcl T' rfl X'
    exact ⟨t2, st.trans a1, b1⟩
/-- caught by the row x of this method's table; the rows ahead don't take it -/
theorem vx_catch {own name : String} {E : String} {ce : Cell} {q : Addr} (hown : s.vm.findClass own = some m.cls) (pre : List ExceptionTableEntry) (x : ExceptionTableEntry) (suf : List ExceptionTableEntry) (hsplit : c.exceptionTable.toList = pre ++ x :: suf)
    (hpass : ∀ z ∈ pre, covers z pc = false ∨ (z.catchType ≠ 0 ∧ ∃ nm : String, (Cond.classLink own z.catchType nm).before args s = true ∧ va_Nc E nm s)) (hx : covers x pc = true) (h0 : x.catchType ≠ 0)
    (hlink : (Cond.classLink own x.catchType name).before args s = true) (hcast : (Cond.castable E name).before args s = true) (hcell : H[q]? = some ce) (hv : ce.vm = .none) (hcl : s.vm.findClass E = some ce.cls)
    (kk : W p l e R s m args below meth c H locs cells slots Q (F0 m x.handlerPc ls [.ref q])) : vx_W p l e R s m args below meth c H locs cells slots Q (F0 m pc ls rest) q := by
  intro T hT X
  have hpl : e.platform.magicAccessors = ({} : Platform).magicAccessors := by rw [X.admits.platform]
  obtain ⟨c3, c4, hc3, hc4, hasg⟩ := Cond.castable_spec hcast
  cases Option.some.inj (hc3.symm.trans hcl)
  obtain ⟨c5, hc5, hcl5⟩ := Cond.classLink_spec hown hlink e.platform hpl
  cases Option.some.inj (hc4.symm.trans hc5)
  obtain ⟨vm', X', st⟩ := Stand.thenCaughtThrough X q (g := F0 m pc ls rest) rfl (Steps.refl _) (by rw [hT]; exact hcell) (by rw [hv]; rfl) (by obtain ⟨k9, h9, -⟩ := Vm.findClass_spec hcl; exact ⟨k9, h9⟩) pre x suf hsplit
    (fun z hz => by
      rcases hpass z hz with h | ⟨hz0, nm, hl1, hn1⟩
      · exact Or.inl h
      · obtain ⟨c6, hc6, hcl6⟩ := Cond.classLink_spec hown hl1 e.platform hpl
        obtain ⟨a8, b8, h1, h2, h3⟩ := hn1
        cases Option.some.inj (h1.symm.trans hcl)
        cases Option.some.inj (h2.symm.trans hc6)
        exact Or.inr ⟨hz0, _, hcl6, h3⟩) hx (Or.inr ⟨h0, c4, hcl5, hasg⟩)
  obtain ⟨t, a1, b1⟩ := kk (T.setVm vm') hT X'
  exact ⟨t, st.trans a1, b1⟩
end Rows
section Ends
variable {p : Program} {l : Launch} {e : Env} {R : Room} {s : State} {m : MethodId} {args : Array Value} {below : List Frame} {meth : Method} {c : Code} {H : Heap} {locs : List Loc} {cells slots : Nat} {Q : State → Prop}
variable {mc ms : Nat} {free : Addr → Prop} {A0 A1 : Nat → Prop} {H0 : Heap} {a : Array Value} {ls : Array Slot} {st0 rest : List Value}
variable {Qc : Array Value → State → Outcome → State → Prop} {XC : String → State → State → Prop}
/-- what a body that may throw owes at its end -/
def vx_MQ (below : List Frame) (Qc : Array Value → State → Outcome → State → Prop) (XC : String → State → State → Prop) (a : Array Value) (s : State) (mc ms : Nat) (free : Addr → Prop) : State → Prop := fun t =>
  ∃ o, t.status = .running ∧ Ended t below o ∧ vx_Q Qc XC mc ms free a s o t
theorem vx_ret {g : JFrame} {mc ms : Nat} (k : W p l e R s m args below meth c H locs cells slots (MQ below Qc args s mc ms free) g) : W p l e R s m args below meth c H locs cells slots (vx_MQ below Qc XC args s mc ms free) g := by
  intro T hT X
  obtain ⟨t, a1, o, b1, b2, b3, b4⟩ := k T hT X
  exact ⟨t, a1, o, b1, b2, Or.inl ⟨b3, b4⟩⟩
/-- not caught here: it goes on to the caller -/
theorem vx_widen {g : JFrame} {q : Addr} {k n : Nat} (h1 : cells ≤ k) (h2 : slots ≤ n) (kk : vx_W p l e R s m args below meth c H locs k n Q g q) : vx_W p l e R s m args below meth c H locs cells slots Q g q := fun T hT X => kk T hT (stand_widen X h1 h2)
theorem vx_out {pc : Nat} {E : String} {ce : Cell} {q : Addr} {mc ms : Nat} (hout : ∀ x ∈ c.exceptionTable.toList, covers x pc = false) (hlocks : meth.locks = false) (hcell : H[q]? = some ce) (hv : ce.vm = .none) (hcl : s.vm.findClass E = some ce.cls)
    (hx : ∀ t : State, t.heap = H → s.vm.Alike t.vm → XC E s t) (hf : ∀ z ∈ locs, free z.base) (hc : cells ≤ mc) (hs : slots ≤ ms) :
    vx_W p l e R s m args below meth c H locs cells slots (vx_MQ below Qc XC args s mc ms free) (F0 m pc ls rest) q := by
  intro T hT X
  obtain ⟨st1, hrun, hend, hW, hsm⟩ := X.leaveThrown q (g := F0 m pc ls rest) rfl rfl rfl hout hlocks
  have hcell9 : (T.setFrames (.throwing q :: below)).heap[q]? = some ce := by
    show T.heap[q]? = some ce
    rw [hT]; exact hcell
  exact ⟨_, st1, .threw q, hrun, hend, Or.inr ⟨q, rfl, E, ce, locs, hx _ hT hW.alike, hcell9, hv, hcl, hW, hsm.mono hc hs, hf⟩⟩
theorem vx_frame {U : State} {k n : Nat} (h : s.sameButNew ({ U with vm := s.vm } : State) locs k n) : s.heap.size ≤ U.heap.size ∧ ∀ q : Nat, q < s.heap.size → (∀ z ∈ locs, z.base ≠ q) → U.heap[q]? = s.heap[q]? := by
  obtain ⟨-, h2, -, -, -, h6⟩ := h
  refine ⟨h2, fun q hq hz => ?_⟩
  obtain ⟨c9, e1, e2, e3, e4⟩ := h6 q _ (Array.getElem?_eq_getElem hq)
  have hs : c9.slots = (s.heap[q]).slots := Array.ext_getElem? fun i => e4 i fun hm => hz _ hm rfl
  have h9 : c9 = s.heap[q] := by
    rw [hs] at e2
    exact e2
  have e5 : U.heap[q]? = some c9 := e1
  rw [e5, h9, Array.getElem?_eq_getElem hq]
/-- the words of a throw but the four that speak of the heap -/
def vx_no (w : Cond) : Bool := decide (w ≠ .isRef (.static Bundle.tN "UNASSIGNED_STACK" Bundle.steD)) && decide (w ≠ .isRef (.static Bundle.tN "SUPPRESSED_SENTINEL" Bundle.listD)) && decide (w ≠ .laysStatic Bundle.tN "UNASSIGNED_STACK" Bundle.steD) && decide (w ≠ .laysStatic Bundle.tN "SUPPRESSED_SENTINEL" Bundle.listD)
def vx_at0 (own : String) (ic : Nat) (X : String) (names : List String) : List Cond := (Bundle.ownAtoms0 own ic X names).filter vx_no
def vx_atS (own : String) (ic : Nat) (X : String) (names : List String) : List Cond := (Bundle.ownAtoms own ic X names).filter vx_no
/-- a word that the tables alone decide, or a good one -/
def vx_ot (w : Cond) : Bool := w.onTables || goodWord w
theorem vx_ot_at {args a' : Array Value} {s U : State} {w : Cond} (hW : s.WarmedH U.vm) (hvm : s.vm = U.vm) (hg : vx_ot w = true) (h : w.before args s = true) : w.before a' U = true := by
  simp only [vx_ot, Bool.or_eq_true] at hg
  rcases hg with hg | hg
  · exact va_tabs hg hvm h
  · exact word_at hW (good_of_word hg) h
/-- a list's words: the good ones out of the method's own list, the others by premises of their own -/
theorem vx_hat {args : Array Value} {s : State} {L B : List Cond} (h1 : ∀ w ∈ L.filter goodWord, w.before args s = true) (h2 : ∀ w ∈ L.filter (fun w => !goodWord w), w ∈ B) (h3 : ∀ w ∈ B, w.before args s = true) : ∀ w ∈ L, w.before args s = true := by
  intro w hw
  by_cases g : goodWord w = true
  · exact h1 w (List.mem_filter.mpr ⟨hw, g⟩)
  · refine h3 w (h2 w (List.mem_filter.mpr ⟨hw, ?_⟩))
    show (!goodWord w) = true
    cases hgw : goodWord w
    · rfl
    · exact absurd hgw g
theorem vx_c {args : Array Value} {s : State} {w : Cond} {B : List Cond} (h : w.before args s = true) (t : ∀ w ∈ B, w.before args s = true) : ∀ w' ∈ w :: B, w'.before args s = true := fun w' h' => (List.mem_cons.mp h').elim (fun e => by rw [e]; exact h) (t w')
theorem vx_n {args : Array Value} {s : State} : ∀ w ∈ ([] : List Cond), w.before args s = true := fun _ h => nomatch h
theorem vx_own {args : Array Value} {s : State} {L : List Cond} (h1 : ∀ w ∈ L.filter vx_no, w.before args s = true)
    (hU : (Cond.isRef (.static Bundle.tN "UNASSIGNED_STACK" Bundle.steD)).before args s = true) (hN : (Cond.isRef (.static Bundle.tN "SUPPRESSED_SENTINEL" Bundle.listD)).before args s = true)
    (lU : (Cond.laysStatic Bundle.tN "UNASSIGNED_STACK" Bundle.steD).before args s = true) (lN : (Cond.laysStatic Bundle.tN "SUPPRESSED_SENTINEL" Bundle.listD).before args s = true) : ∀ w ∈ L, w.before args s = true := by
  intro w hw
  by_cases e1 : w = .isRef (.static Bundle.tN "UNASSIGNED_STACK" Bundle.steD)
  · rw [e1]; exact hU
  · by_cases e2 : w = .isRef (.static Bundle.tN "SUPPRESSED_SENTINEL" Bundle.listD)
    · rw [e2]; exact hN
    · by_cases e3 : w = .laysStatic Bundle.tN "UNASSIGNED_STACK" Bundle.steD
      · rw [e3]; exact lU
      · by_cases e4 : w = .laysStatic Bundle.tN "SUPPRESSED_SENTINEL" Bundle.listD
        · rw [e4]; exact lN
        · exact h1 w (List.mem_filter.mpr ⟨hw, by unfold vx_no; rw [decide_eq_true e1, decide_eq_true e2, decide_eq_true e3, decide_eq_true e4]; rfl⟩)
/-- where a static field lies, its class's statics cell in H -/
def vx_L (C n d : String) (A : Nat → Prop) (U : State) (H : Heap) : Prop := ∃ (c : ClassId) (k : Class) (i : Nat) (f : Field) (a : Nat) (cell : Cell), U.vm.findClass C = some c ∧ U.fieldFound? C n d = some (c, k, i, f) ∧ f.isStatic = true ∧ k.statics = some a ∧ H[a]? = some cell ∧ cell.vm.isStatics = true ∧ cell.cls = c ∧ f.slot < cell.slots.size ∧ k.staticTypes[f.slot]? = some f.type ∧ ¬ A a
theorem vx_L.moved {C n d : String} {A : Nat → Prop} {u U : State} {H : Heap} (hvm : u.vm.Alike U.vm) (h : vx_L C n d A u H) : vx_L C n d A U H := by
  obtain ⟨c, k, i, f, a, cell, h1, h2, h3, h4, h5, h6, h7, h8, h9, h10⟩ := h
  obtain ⟨k', hi', he⟩ := State.fieldFound?_setVm hvm h2
  exact ⟨c, k', i, f, a, cell, by rw [hvm.findClass]; exact h1, hi', h3, by rw [he]; exact h4, h5, h6, h7, h8, by rw [he]; exact h9, h10⟩
theorem vx_L.kept {C n d : String} {A : Nat → Prop} {U : State} {H H1 : Heap} (h : vx_L C n d A U H) (hq : ∀ a : Nat, a < H.size → ¬ A a → H1[a]? = H[a]?) : vx_L C n d A U H1 := by
  obtain ⟨c, k, i, f, a, cell, h1, h2, h3, h4, h5, h6, h7, h8, h9, h10⟩ := h
  exact ⟨c, k, i, f, a, cell, h1, h2, h3, h4, by rw [hq a (Array.getElem?_eq_some_iff.mp h5).1 h10]; exact h5, h6, h7, h8, h9, h10⟩
theorem vx_L.narrow {C n d : String} {A B : Nat → Prop} {U : State} {H : Heap} (h : vx_L C n d A U H) (hAB : ∀ q, B q → A q) : vx_L C n d B U H := by
  obtain ⟨c, k, i, f, a, cell, h1, h2, h3, h4, h5, h6, h7, h8, h9, h10⟩ := h
  exact ⟨c, k, i, f, a, cell, h1, h2, h3, h4, h5, h6, h7, h8, h9, fun z => h10 (hAB _ z)⟩
theorem vx_L.word {C n d : String} {A : Nat → Prop} {s : State} {args : Array Value} (h : vx_L C n d A s s.heap) : (Cond.laysStatic C n d).before args s = true := by
  obtain ⟨c, k, i, f, a, cell, h1, h2, h3, h4, h5, h6, h7, h8, h9, -⟩ := h
  show (Cond.laysStatic C n d).holds args s none s [] = true
  exact Cond.laysStatic_of h1 h2 h3 h4 h5 h6 h7 h8 h9
/-- .. and what it holds: null or some reference -/
def vx_Zq (C n d : String) (A : Nat → Prop) (U : State) (H : Heap) : Prop := va_Zq C n d A U H ∧ vx_L C n d A U H
theorem vx_Zq.moved {C n d : String} {A : Nat → Prop} {u U : State} {H : Heap} (hvm : u.vm.Alike U.vm) (h : vx_Zq C n d A u H) : vx_Zq C n d A U H := ⟨va_Zq.moved hvm h.1, vx_L.moved hvm h.2⟩
theorem vx_Zq.kept {C n d : String} {A : Nat → Prop} {U : State} {H H1 : Heap} (h : vx_Zq C n d A U H) (hq : ∀ a : Nat, a < H.size → ¬ A a → H1[a]? = H[a]?) : vx_Zq C n d A U H1 := ⟨va_Zq.kept h.1 hq, vx_L.kept h.2 hq⟩
theorem vx_Zq.narrow {C n d : String} {A B : Nat → Prop} {U : State} {H : Heap} (h : vx_Zq C n d A U H) (hAB : ∀ q, B q → A q) : vx_Zq C n d B U H := ⟨va_Zq.narrow h.1 hAB, vx_L.narrow h.2 hAB⟩
theorem vx_Zqof {args : Array Value} {s : State} {C n d : String} {A : Nat → Prop} (hl : (Cond.laysStatic C n d).before args s = true) (hini : (Cond.initialized C).before args s = true) (h : (Cond.isRef (.static C n d)).before args s = true) (hA : ∀ a : Nat, a < s.heap.size → ¬ A a) : vx_Zq C n d A s s.heap := by
  refine ⟨va_Zqof hl hini h hA, ?_⟩
  obtain ⟨c, k, i, f, a, cell, h1, h2, h3, h4, h5, h6, h7, h8, h9⟩ := Cond.laysStatic_spec hl
  exact ⟨c, k, i, f, a, cell, h1, h2, h3, h4, h5, h6, h7, h8, h9, hA a (Array.getElem?_eq_some_iff.mp h5).1⟩
theorem vx_isRef {C n d : String} {v : Value} {A : Nat → Prop} {s : State} {args : Array Value} (h : va_Z C n d v A s s.heap) (hv : v.isRef = true) : (Cond.isRef (.static C n d)).before args s = true := by
  obtain ⟨cf, kf, fi, f, a, cell, h1, h2, h3, h4, h5, h6, h7, -⟩ := h
  have he : (Term.static C n d).eval args s none [] s = some v := by
    simp [Term.eval, State.fieldNamed?, h1, h2, h4, h5, h6, h7]
  simp only [Cond.before, Cond.holds, Cond.value, he]
  cases v <;> simp_all [Value.isRef]
theorem vx_isRefq {C n d : String} {A : Nat → Prop} {s : State} {args : Array Value} (h : va_Zq C n d A s s.heap) : (Cond.isRef (.static C n d)).before args s = true := by
  rcases h with h | ⟨t, h⟩
  · exact vx_isRef h rfl
  · exact vx_isRef h rfl
/-- the same frame, seen from here: as if the method were called anew in this heap -/
theorem vx_rebase {T : State} (X : Stand p l e R s m args below meth c T locs cells slots) {R' : Room} (hf : R'.frames ≤ R.frames) (hl : R'.locals ≤ R.locals) (hc : cells + R'.cells ≤ R.cells) (hs : slots + R'.slots ≤ R.slots) :
    Stand p l e R' ((T.setVm s.vm).setFrames (.invoking m args :: below)) m args below meth c T [] 0 0 := by
  have htop : (T.setVm s.vm).topJava?.isSome := X.here.top
  have hF : ((T.setVm s.vm).setFrames (.invoking m args :: below)).frames = .invoking m args :: below := State.frames_setFrames _ (State.cur_lt_of_top htop)
  obtain ⟨g₀, hg0⟩ := Option.isSome_iff_exists.mp htop
  obtain ⟨r, hr⟩ := State.topJava?_eq_some.mp hg0
  have hl9 : e.platform.stackLimits (T.setVm s.vm).me = e.platform.stackLimits s.me := X.limits
  have hb9 : (T.setVm s.vm).me.stackBytes = s.me.stackBytes := X.bytes
  refine ⟨X.admits, X.cas, X.clock, hF, ?_, X.hears, X.method, X.code, X.here, X.tail, X.warmed, ?_, ?_, ?_⟩
  · have h := X.room
    have hU : ((T.setVm s.vm).setFrames (.invoking m args :: below)).localsInUse = s.localsInUse := by
      rw [State.localsInUse_invoking hF (meth := meth) (c := c) X.method X.code, State.localsInUse_invoking X.frames X.method X.code]
    simp only [State.hasRoom, Bool.and_eq_true, decide_eq_true_eq] at h ⊢
    obtain ⟨⟨⟨⟨h1, h2, h3, h4, h5, h6⟩, h7⟩, h8⟩, h9⟩ := h
    rw [X.frames, List.length_cons] at h2 h3
    have q1 := X.heapSize
    have q2 := X.used
    simp only [hF, hU, List.length_cons, State.stackLimits_setFrames, State.stackBytes_setFrames, hl9, hb9]
    refine ⟨⟨⟨⟨by omega, by omega, by omega, by omega, by omega, h6⟩, ?_⟩, ?_⟩, X.book⟩
    · show T.heap.size + R'.cells ≤ e.platform.maxCells
      omega
    · show T.slotsUsed + R'.slots ≤ e.platform.maxSlots
      omega
  · rw [State.stackLimits_setFrames]; rfl
  · rw [State.stackBytes_setFrames]; rfl
  · refine ⟨?_, Nat.le_refl _, Nat.le_refl _, ?_, ?_, fun a c9 h9 => ⟨c9, h9, rfl, rfl, fun _ _ => rfl⟩⟩
    · obtain ⟨t, ht, -⟩ := State.frames_cons hr
      show T.setVm s.vm = { ((T.setVm s.vm).setFrames (.invoking m args :: below)).setFrames (T.setVm s.vm).frames with heap := T.heap, slotsUsed := T.slotsUsed }
      rw [State.setFrames_setFrames, State.setFrames_self ht]
      rfl
    · show T.slotsUsed = T.slotsUsed + ((T.heap.toList.drop T.heap.size).map (·.slots.size)).sum
      rw [List.drop_eq_nil_of_le (Nat.le_of_eq Array.length_toList)]
      rfl
    · show ((T.heap.toList.drop T.heap.size).map (·.slots.size)).sum ≤ 0
      rw [List.drop_eq_nil_of_le (Nat.le_of_eq Array.length_toList)]
      exact Nat.le_refl _
/-- 'throw new E()': new; dup; invokespecial; athrow -/
theorem vx_throw0 {cc : ByteArray} {pc : Nat} (hexec : p.tables.exec = Jvm.exec) (hb : c.code = cc) (hl : l.stackTraces = false) {own cls : String} {names : List String} {ik ic mc ms : Nat} {A : Nat → Prop}
    (hown : s.vm.findClass own = some m.cls) (hcls : Bundle.fit cls = true) (hnames : ∀ n ∈ names, Bundle.fit n = true)
    (hk : (Cond.classLink own ik cls).before args s = true) (hini : (Cond.initialized cls).before args s = true) (hat : ∀ w ∈ vx_at0 own ic cls names, w.before args s = true)
    (hgood : ∀ w ∈ Cond.classLink own ik cls :: Cond.initialized cls :: vx_at0 own ic cls names, vx_ot w = true)
    (hU : vx_Zq Bundle.tN "UNASSIGNED_STACK" Bundle.steD A s s.heap) (hN : vx_Zq Bundle.tN "SUPPRESSED_SENTINEL" Bundle.listD A s s.heap) (hS : va_S A s.heap H locs) (hsize : ls.size = c.maxLocals)
    (d0 : decode cc pc = .ok (.new ik, 3)) (d3 : decode cc (pc + 3) = .ok (.dup, 1)) (d4 : decode cc (pc + 4) = .ok (.invokespecial ic, 3)) (d7 : decode cc (pc + 7) = .ok (.athrow, 1))
    (hout : ∀ x ∈ c.exceptionTable.toList, covers x (pc + 7) = false)
    (hRframes : names.length + 3 < R.frames) (hRlocals : (rest.map fun v => v.category).sum + (13 * (names.length + 1) + 42) ≤ R.locals) (hRcells : cells + 1 ≤ R.cells) (hRslots : slots + 6 ≤ R.slots) (hlocks : meth.locks = false)
    (hx : ∀ t : State, s.vm.Alike t.vm → H.size ≤ t.heap.size → (∀ q : Nat, q < H.size → t.heap[q]? = H[q]?) → XC cls s t)
    (hf : ∀ z ∈ locs, free z.base) (hc : cells + 1 ≤ mc) (hs : slots + 6 ≤ ms) :
    W p l e R s m args below meth c H locs cells slots (vx_MQ below Qc XC args s mc ms free) (F0 m pc ls rest) := by
  intro T hT X
  have htr : e.platform.stackTraces = false := (show e.platform.stackTraces = l.stackTraces by rw [X.admits.platform]).trans hl
  have Y := vx_rebase X (R' := { frames := R.frames, locals := R.locals, cells := 1, slots := 6 }) (Nat.le_refl _) (Nat.le_refl _) hRcells hRslots
  obtain ⟨s', hA⟩ : ∃ z, z = (T.setVm s.vm).setFrames (.invoking m args :: below) := ⟨_, rfl⟩
  rw [← hA] at Y
  have hvm : s'.vm = s.vm := by rw [hA]; rfl
  have hhp : s'.heap = H := by rw [hA]; exact hT
  have hW0 : s.WarmedH s'.vm := by rw [hvm]; exact State.WarmedH.refl s
  have hat' : ∀ w ∈ vx_at0 own ic cls names, w.before args s' = true := fun w hw => vx_ot_at hW0 hvm.symm (hgood w (List.mem_cons_of_mem _ (List.mem_cons_of_mem _ hw))) (hat w hw)
  have hk' : (Cond.classLink own ik cls).before args s' = true := vx_ot_at hW0 hvm.symm (hgood _ List.mem_cons_self) hk
  have hini' : (Cond.initialized cls).before args s' = true := vx_ot_at hW0 hvm.symm (hgood _ (List.mem_cons_of_mem _ List.mem_cons_self)) hini
  have hU' : vx_Zq Bundle.tN "UNASSIGNED_STACK" Bundle.steD A s' s'.heap := by rw [hhp]; exact vx_Zq.moved hW0.alike (hU.kept hS.2.1)
  have hN' : vx_Zq Bundle.tN "SUPPRESSED_SENTINEL" Bundle.listD A s' s'.heap := by rw [hhp]; exact vx_Zq.moved hW0.alike (hN.kept hS.2.1)
  have h : ∀ w ∈ Bundle.ownAtoms0 own ic cls names, w.before args s' = true := vx_own hat' (vx_isRefq hU'.1) (vx_isRefq hN'.1) hU'.2.word hN'.2.word
  have hown' : s'.vm.findClass own = some m.cls := by rw [hvm]; exact hown
  have hins : (Cond.instantiable cls 6).before args s' = true := h _ (by simp [Bundle.ownAtoms0])
  obtain ⟨vm₁, cX, kX, hfX, hkX, -, -, X₁, st1⟩ := Y.newCold hexec (own := own) (C := cls) (index := ik) (n := 6) hown' hk' hins hini'
    (g := F0 m pc ls rest) rfl (by rw [hb]; exact d0) (Nat.le_refl _) (Nat.le_refl _)
  generalize hT1 : (T.setVm vm₁).pushCell { cls := cX, slots := kX.instanceTypes.map defaultValue, vm := .none } = T1 at X₁ st1
  have hcat : (Value.ref T.heap.size).category = 1 := rfl
  have hcellA : T1.heap[T.heap.size]? = some (freshCell cX kX) := by rw [← hT1]; exact State.heap_pushCell_size _ _
  have d3' : decode c.code (pc + 3) = .ok (.dup, 1) := by rw [hb]; exact d3
  obtain ⟨U, hsteps, hrun, hend, hW, hsame, ce, hce, hO⟩ := X₁.ctorThrow0 hexec htr (own := own) (cls := cls) (names := names) (ic := ic) hown' hcls hnames h (fun x hx => nomatch hx) hfX hkX hcellA (by rw [hhp, hT]; exact Nat.le_refl _)
    (g := { method := m, pc := pc + 4, locals := ls, stack := .ref T.heap.size :: .ref T.heap.size :: rest, locked := none }) rfl hsize rfl rfl (rest := rest) rfl
    (by rw [hb]; exact d4) (by rw [hb]; exact d7) hout hRframes (by simp only [List.map_cons, List.sum_cons, hcat]; omega) hlocks
  obtain ⟨f1, f2⟩ := vx_frame hsame
  rw [hhp] at f1 f2
  have hWs : s.WarmedH U.vm := State.WarmedH.trans hW0 hW
  have hcl : s.vm.findClass cls = some ce.cls := by
    have h9 := hO.cls
    rw [hvm] at h9
    exact h9
  have hall : s.sameButNew ({ U with vm := s.vm } : State) locs mc ms := by
    subst hA
    obtain ⟨e1, e2⟩ := hsame
    rw [State.setFrames_setFrames] at e1
    have h2 : (T.setVm s.vm).sameButNew ({ U with vm := s.vm } : State) [] (0 + 1) (0 + 6) := ⟨e1, e2⟩
    have h3 := X.same.trans h2
    rw [List.append_nil] at h3
    exact h3.mono hc hs
  refine ⟨U, ?_, .threw T.heap.size, hrun, hend, Or.inr ⟨T.heap.size, rfl, cls, ce, locs, hx U hWs.alike f1 (fun q hq => f2 q hq (fun z hz => nomatch hz)), hce, hO.vm, hcl, hWs, hall, hf⟩⟩
  refine st1 _ ?_
  show Steps p.tables e below (T1.setTop { method := m, pc := pc + 3, locals := ls, stack := .ref T.heap.size :: rest, locked := none }) _
  jvm_step X₁.here [X₁.here.top, hexec, d3', Value.category]
  exact hsteps
/-- 'throw new E("text")': new; dup; ldc; invokespecial; athrow -/
theorem vx_throwS {cc : ByteArray} {pc : Nat} (hexec : p.tables.exec = Jvm.exec) (hb : c.code = cc) (hl : l.stackTraces = false) {own cls text : String} {names : List String} {ik is ic mc ms sa : Nat} {A : Nat → Prop}
    (hown : s.vm.findClass own = some m.cls) (hcls : Bundle.fit cls = true) (hnames : ∀ n ∈ names, Bundle.fit n = true)
    (hk : (Cond.classLink own ik cls).before args s = true) (hini : (Cond.initialized cls).before args s = true) (hstr : vk_R own is text sa s) (hat : ∀ w ∈ vx_atS own ic cls names, w.before args s = true)
    (hgood : ∀ w ∈ Cond.classLink own ik cls :: Cond.initialized cls :: vx_atS own ic cls names, vx_ot w = true)
    (hU : vx_Zq Bundle.tN "UNASSIGNED_STACK" Bundle.steD A s s.heap) (hN : vx_Zq Bundle.tN "SUPPRESSED_SENTINEL" Bundle.listD A s s.heap) (hS : va_S A s.heap H locs) (hsize : ls.size = c.maxLocals)
    (d0 : decode cc pc = .ok (.new ik, 3)) (d3 : decode cc (pc + 3) = .ok (.dup, 1)) (d4 : decode cc (pc + 4) = .ok (.ldc is, 2)) (d6 : decode cc (pc + 6) = .ok (.invokespecial ic, 3)) (d9 : decode cc (pc + 9) = .ok (.athrow, 1))
    (hout : ∀ x ∈ c.exceptionTable.toList, covers x (pc + 9) = false)
    (hRframes : names.length + 3 < R.frames) (hRlocals : (rest.map fun v => v.category).sum + (13 * (names.length + 1) + 43) ≤ R.locals) (hRcells : cells + 1 ≤ R.cells) (hRslots : slots + 6 ≤ R.slots) (hlocks : meth.locks = false)
    (hx : ∀ t : State, s.vm.Alike t.vm → H.size ≤ t.heap.size → (∀ q : Nat, q < H.size → t.heap[q]? = H[q]?) → XC cls s t)
    (hf : ∀ z ∈ locs, free z.base) (hc : cells + 1 ≤ mc) (hs : slots + 6 ≤ ms) :
    W p l e R s m args below meth c H locs cells slots (vx_MQ below Qc XC args s mc ms free) (F0 m pc ls rest) := by
  intro T hT X
  have htr : e.platform.stackTraces = false := (show e.platform.stackTraces = l.stackTraces by rw [X.admits.platform]).trans hl
  have Y := vx_rebase X (R' := { frames := R.frames, locals := R.locals, cells := 1, slots := 6 }) (Nat.le_refl _) (Nat.le_refl _) hRcells hRslots
  obtain ⟨s', hA⟩ : ∃ z, z = (T.setVm s.vm).setFrames (.invoking m args :: below) := ⟨_, rfl⟩
  rw [← hA] at Y
  have hvm : s'.vm = s.vm := by rw [hA]; rfl
  have hhp : s'.heap = H := by rw [hA]; exact hT
  have hW0 : s.WarmedH s'.vm := by rw [hvm]; exact State.WarmedH.refl s
  have hat' : ∀ w ∈ vx_atS own ic cls names, w.before args s' = true := fun w hw => vx_ot_at hW0 hvm.symm (hgood w (List.mem_cons_of_mem _ (List.mem_cons_of_mem _ hw))) (hat w hw)
  have hk' : (Cond.classLink own ik cls).before args s' = true := vx_ot_at hW0 hvm.symm (hgood _ List.mem_cons_self) hk
  have hini' : (Cond.initialized cls).before args s' = true := vx_ot_at hW0 hvm.symm (hgood _ (List.mem_cons_of_mem _ List.mem_cons_self)) hini
  have hU' : vx_Zq Bundle.tN "UNASSIGNED_STACK" Bundle.steD A s' s'.heap := by rw [hhp]; exact vx_Zq.moved hW0.alike (hU.kept hS.2.1)
  have hN' : vx_Zq Bundle.tN "SUPPRESSED_SENTINEL" Bundle.listD A s' s'.heap := by rw [hhp]; exact vx_Zq.moved hW0.alike (hN.kept hS.2.1)
  have h : ∀ w ∈ Bundle.ownAtoms own ic cls names, w.before args s' = true := vx_own hat' (vx_isRefq hU'.1) (vx_isRefq hN'.1) hU'.2.word hN'.2.word
  have hown' : s'.vm.findClass own = some m.cls := by rw [hvm]; exact hown
  have hins : (Cond.instantiable cls 6).before args s' = true := h _ (by simp [Bundle.ownAtoms])
  obtain ⟨vm₁, cX, kX, hfX, hkX, -, -, X₁, st1⟩ := Y.newCold hexec (own := own) (C := cls) (index := ik) (n := 6) hown' hk' hins hini'
    (g := F0 m pc ls rest) rfl (by rw [hb]; exact d0) (Nat.le_refl _) (Nat.le_refl _)
  generalize hT1 : (T.setVm vm₁).pushCell { cls := cX, slots := kX.instanceTypes.map defaultValue, vm := .none } = T1 at X₁ st1
  have hcat : (Value.ref T.heap.size).category = 1 := rfl
  have hcellA : T1.heap[T.heap.size]? = some (freshCell cX kX) := by rw [← hT1]; exact State.heap_pushCell_size _ _
  have d3' : decode c.code (pc + 3) = .ok (.dup, 1) := by rw [hb]; exact d3
  have d4' : decode c.code (pc + 4) = .ok (.ldc is, 2) := by rw [hb]; exact d4
  have hstr' : vk_R own is text sa s' := vk_R.warm hW0 hstr
  obtain ⟨U, hsteps, hrun, hend, hW, hsame, ce, hce, hO⟩ := X₁.ctorThrowS hexec htr (own := own) (cls := cls) (names := names) (ic := ic) hown' hcls hnames h (fun x hx => nomatch hx) hfX hkX hcellA (by rw [hhp, hT]; exact Nat.le_refl _) (msg := .ref sa) rfl
    (g := { method := m, pc := pc + 6, locals := ls, stack := .ref sa :: .ref T.heap.size :: .ref T.heap.size :: rest, locked := none }) rfl hsize rfl rfl (rest := rest) rfl
    (by rw [hb]; exact d6) (by rw [hb]; exact d9) hout hRframes (by simp only [List.map_cons, List.sum_cons, hcat]; omega) hlocks
  obtain ⟨f1, f2⟩ := vx_frame hsame
  rw [hhp] at f1 f2
  have hWs : s.WarmedH U.vm := State.WarmedH.trans hW0 hW
  have hcl : s.vm.findClass cls = some ce.cls := by
    have h9 := hO.cls
    rw [hvm] at h9
    exact h9
  have hall : s.sameButNew ({ U with vm := s.vm } : State) locs mc ms := by
    subst hA
    obtain ⟨e1, e2⟩ := hsame
    rw [State.setFrames_setFrames] at e1
    have h2 : (T.setVm s.vm).sameButNew ({ U with vm := s.vm } : State) [] (0 + 1) (0 + 6) := ⟨e1, e2⟩
    have h3 := X.same.trans h2
    rw [List.append_nil] at h3
    exact h3.mono hc hs
  refine ⟨U, ?_, .threw T.heap.size, hrun, hend, Or.inr ⟨T.heap.size, rfl, cls, ce, locs, hx U hWs.alike f1 (fun q hq => f2 q hq (fun z hz => nomatch hz)), hce, hO.vm, hcl, hWs, hall, hf⟩⟩
  refine st1 _ ?_
  show Steps p.tables e below (T1.setTop { method := m, pc := pc + 3, locals := ls, stack := .ref T.heap.size :: rest, locked := none }) _
  jvm_step X₁.here [X₁.here.top, hexec, d3', Value.category]
  exact X₁.ldcString hexec (own := own) (text := text) (index := is) (a := sa) hown' hstr'.1 hstr'.2
    (g := { method := m, pc := pc + 4, locals := ls, stack := .ref T.heap.size :: .ref T.heap.size :: rest, locked := none }) rfl d4' _ hsteps
/-- 'throw new E("text")', the text by a wide index -/
theorem vx_throwSW {cc : ByteArray} {pc : Nat} (hexec : p.tables.exec = Jvm.exec) (hb : c.code = cc) (hl : l.stackTraces = false) {own cls text : String} {names : List String} {ik is ic mc ms sa : Nat} {A : Nat → Prop}
    (hown : s.vm.findClass own = some m.cls) (hcls : Bundle.fit cls = true) (hnames : ∀ n ∈ names, Bundle.fit n = true)
    (hk : (Cond.classLink own ik cls).before args s = true) (hini : (Cond.initialized cls).before args s = true) (hstr : vk_R own is text sa s) (hat : ∀ w ∈ vx_atS own ic cls names, w.before args s = true)
    (hgood : ∀ w ∈ Cond.classLink own ik cls :: Cond.initialized cls :: vx_atS own ic cls names, vx_ot w = true)
    (hU : vx_Zq Bundle.tN "UNASSIGNED_STACK" Bundle.steD A s s.heap) (hN : vx_Zq Bundle.tN "SUPPRESSED_SENTINEL" Bundle.listD A s s.heap) (hS : va_S A s.heap H locs) (hsize : ls.size = c.maxLocals)
    (d0 : decode cc pc = .ok (.new ik, 3)) (d3 : decode cc (pc + 3) = .ok (.dup, 1)) (d4 : decode cc (pc + 4) = .ok (.ldc_w is, 3)) (d7 : decode cc (pc + 7) = .ok (.invokespecial ic, 3)) (d10 : decode cc (pc + 10) = .ok (.athrow, 1))
    (hout : ∀ x ∈ c.exceptionTable.toList, covers x (pc + 10) = false)
    (hRframes : names.length + 3 < R.frames) (hRlocals : (rest.map fun v => v.category).sum + (13 * (names.length + 1) + 43) ≤ R.locals) (hRcells : cells + 1 ≤ R.cells) (hRslots : slots + 6 ≤ R.slots) (hlocks : meth.locks = false)
    (hx : ∀ t : State, s.vm.Alike t.vm → H.size ≤ t.heap.size → (∀ q : Nat, q < H.size → t.heap[q]? = H[q]?) → XC cls s t)
    (hf : ∀ z ∈ locs, free z.base) (hc : cells + 1 ≤ mc) (hs : slots + 6 ≤ ms) :
    W p l e R s m args below meth c H locs cells slots (vx_MQ below Qc XC args s mc ms free) (F0 m pc ls rest) := by
  intro T hT X
  have htr : e.platform.stackTraces = false := (show e.platform.stackTraces = l.stackTraces by rw [X.admits.platform]).trans hl
  have Y := vx_rebase X (R' := { frames := R.frames, locals := R.locals, cells := 1, slots := 6 }) (Nat.le_refl _) (Nat.le_refl _) hRcells hRslots
  obtain ⟨s', hA⟩ : ∃ z, z = (T.setVm s.vm).setFrames (.invoking m args :: below) := ⟨_, rfl⟩
  rw [← hA] at Y
  have hvm : s'.vm = s.vm := by rw [hA]; rfl
  have hhp : s'.heap = H := by rw [hA]; exact hT
  have hW0 : s.WarmedH s'.vm := by rw [hvm]; exact State.WarmedH.refl s
  have hat' : ∀ w ∈ vx_atS own ic cls names, w.before args s' = true := fun w hw => vx_ot_at hW0 hvm.symm (hgood w (List.mem_cons_of_mem _ (List.mem_cons_of_mem _ hw))) (hat w hw)
  have hk' : (Cond.classLink own ik cls).before args s' = true := vx_ot_at hW0 hvm.symm (hgood _ List.mem_cons_self) hk
  have hini' : (Cond.initialized cls).before args s' = true := vx_ot_at hW0 hvm.symm (hgood _ (List.mem_cons_of_mem _ List.mem_cons_self)) hini
  have hU' : vx_Zq Bundle.tN "UNASSIGNED_STACK" Bundle.steD A s' s'.heap := by rw [hhp]; exact vx_Zq.moved hW0.alike (hU.kept hS.2.1)
  have hN' : vx_Zq Bundle.tN "SUPPRESSED_SENTINEL" Bundle.listD A s' s'.heap := by rw [hhp]; exact vx_Zq.moved hW0.alike (hN.kept hS.2.1)
  have h : ∀ w ∈ Bundle.ownAtoms own ic cls names, w.before args s' = true := vx_own hat' (vx_isRefq hU'.1) (vx_isRefq hN'.1) hU'.2.word hN'.2.word
  have hown' : s'.vm.findClass own = some m.cls := by rw [hvm]; exact hown
  have hins : (Cond.instantiable cls 6).before args s' = true := h _ (by simp [Bundle.ownAtoms])
  obtain ⟨vm₁, cX, kX, hfX, hkX, -, -, X₁, st1⟩ := Y.newCold hexec (own := own) (C := cls) (index := ik) (n := 6) hown' hk' hins hini'
    (g := F0 m pc ls rest) rfl (by rw [hb]; exact d0) (Nat.le_refl _) (Nat.le_refl _)
  generalize hT1 : (T.setVm vm₁).pushCell { cls := cX, slots := kX.instanceTypes.map defaultValue, vm := .none } = T1 at X₁ st1
  have hcat : (Value.ref T.heap.size).category = 1 := rfl
  have hcellA : T1.heap[T.heap.size]? = some (freshCell cX kX) := by rw [← hT1]; exact State.heap_pushCell_size _ _
  have d3' : decode c.code (pc + 3) = .ok (.dup, 1) := by rw [hb]; exact d3
  have d4' : decode c.code (pc + 4) = .ok (.ldc_w is, 3) := by rw [hb]; exact d4
  have hstr' : vk_R own is text sa s' := vk_R.warm hW0 hstr
  obtain ⟨U, hsteps, hrun, hend, hW, hsame, ce, hce, hO⟩ := X₁.ctorThrowS hexec htr (own := own) (cls := cls) (names := names) (ic := ic) hown' hcls hnames h (fun x hx => nomatch hx) hfX hkX hcellA (by rw [hhp, hT]; exact Nat.le_refl _) (msg := .ref sa) rfl
    (g := { method := m, pc := pc + 7, locals := ls, stack := .ref sa :: .ref T.heap.size :: .ref T.heap.size :: rest, locked := none }) rfl hsize rfl rfl (rest := rest) rfl
    (by rw [hb]; exact d7) (by rw [hb]; exact d10) hout hRframes (by simp only [List.map_cons, List.sum_cons, hcat]; omega) hlocks
  obtain ⟨f1, f2⟩ := vx_frame hsame
  rw [hhp] at f1 f2
  have hWs : s.WarmedH U.vm := State.WarmedH.trans hW0 hW
  have hcl : s.vm.findClass cls = some ce.cls := by
    have h9 := hO.cls
    rw [hvm] at h9
    exact h9
  have hall : s.sameButNew ({ U with vm := s.vm } : State) locs mc ms := by
    subst hA
    obtain ⟨e1, e2⟩ := hsame
    rw [State.setFrames_setFrames] at e1
    have h2 : (T.setVm s.vm).sameButNew ({ U with vm := s.vm } : State) [] (0 + 1) (0 + 6) := ⟨e1, e2⟩
    have h3 := X.same.trans h2
    rw [List.append_nil] at h3
    exact h3.mono hc hs
  refine ⟨U, ?_, .threw T.heap.size, hrun, hend, Or.inr ⟨T.heap.size, rfl, cls, ce, locs, hx U hWs.alike f1 (fun q hq => f2 q hq (fun z hz => nomatch hz)), hce, hO.vm, hcl, hWs, hall, hf⟩⟩
  refine st1 _ ?_
  show Steps p.tables e below (T1.setTop { method := m, pc := pc + 3, locals := ls, stack := .ref T.heap.size :: rest, locked := none }) _
  jvm_step X₁.here [X₁.here.top, hexec, d3', Value.category]
  exact X₁.ldcStringW hexec (own := own) (text := text) (index := is) (a := sa) hown' hstr'.1 hstr'.2
    (g := { method := m, pc := pc + 4, locals := ls, stack := .ref T.heap.size :: .ref T.heap.size :: rest, locked := none }) rfl d4' _ hsteps
end Ends
section Bodies
variable {l : Launch}
theorem vx_ofW {y : MethodName} {ws ws' : List Cond} {rm : Room} {Pc : Array Value → State → Prop} {Qc : Array Value → State → Outcome → State → Prop} {XC : String → State → State → Prop} {mc ms : Nat} {free : Addr → Prop} {cc : ByteArray} {maxL : Nat} {ret : Option FieldType}
    (hy : plainName y.cls = true) (hw : ws = Cond.code y cc maxL ret :: ws')
    (body : ∀ p e s m args below meth c s₁, BodyLoose p l y (headSpec ws rm) cc maxL ret e s m args below meth c s₁ → c.maxLocals = maxL → (∀ x ∈ c.exceptionTable.toList, False) → Pc args s →
      W p l e (headSpec ws rm).room s m args below meth c s.heap [] 0 0 (vx_MQ below Qc XC args s mc ms free) (entryFrame m args maxL)) : vx_Met l y ws rm Pc Qc XC mc ms free := by
  refine MetFree.of_bodyS (code := cc) (maxLocals := maxL) (ret := ret) hy ?_ ?_
  · intro args s m h hn
    obtain ⟨meth, c, h1, h2, h3, h4, h5, h6, -, -⟩ := Cond.code_spec hn (atoms_spec (ws := ws) h _ (by rw [hw]; exact List.mem_cons_self))
    exact ⟨meth, c, h1, h2, h3, h4, h5, h6⟩
  · intro p e s m args below meth c s₁ B hml hP _
    have hh0 : s₁.heap = s.heap := by rw [B.state]; rfl
    have ht : ∀ x ∈ c.exceptionTable.toList, False := by
      obtain ⟨meth9, c9, h1, h2, -, -, -, -, h7, -⟩ := Cond.code_spec B.named (atoms_spec (ws := ws) B.pre _ (by rw [hw]; exact List.mem_cons_self))
      cases Option.some.inj (h1.symm.trans B.method)
      cases Option.some.inj (h2.symm.trans (Stand.of_body B).code)
      intro x hx
      rw [Array.isEmpty_iff.mp h7] at hx
      cases hx
    obtain ⟨t, a1, o, b1, b2, b3⟩ := body p e s m args below meth c s₁ B hml ht hP s₁ hh0 (Stand.of_body B)
    exact ⟨t, o, a1, b1, b2, b3⟩
/-- the table of a body with handlers -/
theorem vx_table {p : Program} {x y : MethodName} {S : Spec} {cc bytes : ByteArray} {maxL maxL' : Nat} {ret ret' : Option FieldType} {e : Env} {s s₁ : State} {m : MethodId} {args : Array Value} {below : List Frame} {meth : Method} {c : Code} {hh : List (Nat × Nat × Nat × Nat)}
    (B : BodyLoose p l y S cc maxL ret e s m args below meth c s₁) (h : (Cond.codeWith y bytes maxL' ret' hh).before args s = true) : c.exceptionTable.toList = tableOf hh := by
  obtain ⟨m9, meth9, c9, hn9, h1, h2, -, -, h6, -⟩ := Cond.codeWith_spec h
  cases Option.some.inj (hn9.symm.trans B.named)
  cases Option.some.inj (h1.symm.trans B.method)
  cases Option.some.inj (h2.symm.trans (Stand.of_body B).code)
  rw [← h6, table_eq]
end Bodies
end VXA
/-! ===== END ===== -/
/-! ===== BEGIN a static call of a method with an exception table ===== -/
section VXS
variable {p : Program} {l : Launch} {e : Env} {R : Room} {s : State} {m : MethodId} {args : Array Value} {below : List Frame} {meth : Method} {c : Code} {T : State} {H : Heap} {locs : List Loc} {cells slots : Nat}
abbrev vx_CSW (R : Room) (s : State) (args : Array Value) (own : String) (index : Nat) (y : MethodName) (bytes : ByteArray) (maxL : Nat) (ret : Option FieldType) (hh : List (Nat × Nat × Nat × Nat)) (ws : List Cond) (rm : Room) (mc ms n : Nat) : Prop :=
  (rm.cells = mc ∧ rm.slots = ms ∧ rm.frames + 1 ≤ R.frames ∧ 8 + (maxL + 11) + rm.locals ≤ R.locals ∧ (∀ w ∈ ws, ∀ (a' : Array Value) (U : State), s.WarmedH U.vm → w.before a' U = true) ∧ Cond.codeWith y bytes maxL ret hh ∈ ws) ∧
  (Cond.codeWith y bytes maxL ret hh).before args s = true ∧ (Cond.initialized y.cls).before args s = true ∧ (y.cls ≠ "java/lang/invoke/MethodHandle" ∧ y.cls ≠ "java/lang/invoke/VarHandle") ∧
  (∀ sig, parseMethodDescriptor y.desc = some sig → n = sig.parameters.length) ∧ (Cond.methodLink own index y).before args s = true ∧ (Cond.static y).before args s = true
theorem vx_cwSW {own : String} {index maxL mc ms : Nat} {y : MethodName} {bytes : ByteArray} {ret : Option FieldType} {hh : List (Nat × Nat × Nat × Nat)} {Ts ws ws' : List Cond} {rm : Room} (n : Nat) (ht : ∀ w ∈ Ts, w.before args s = true) (hT : GoodIn Ts (va_wsS own index y ws)) (hw : ws = Cond.codeWith y bytes maxL ret hh :: ws') (hrc : rm.cells = mc) (hrs : rm.slots = ms)
    (hd : y.cls ≠ "java/lang/invoke/MethodHandle" ∧ y.cls ≠ "java/lang/invoke/VarHandle" ∧ (parseMethodDescriptor y.desc).map (fun d => d.parameters.length) = some n) (hR : rm.frames + 1 ≤ R.frames ∧ 8 + (maxL + 11) + rm.locals ≤ R.locals) :
    vx_CSW R s args own index y bytes maxL ret hh ws rm mc ms n := by
  have ok : ∀ w ∈ va_wsS own index y ws, w.before args s = true := fun w h => ht w (hT w h).1
  have hG : GoodIn Ts ws := fun w h => hT w (by unfold va_wsS; exact List.mem_append_right _ h)
  have hc : Cond.codeWith y bytes maxL ret hh ∈ ws := by rw [hw]; exact List.mem_cons_self
  refine ⟨⟨hrc, hrs, hR.1, hR.2, pay_in ht hG, hc⟩, ht _ (hG _ hc).1, ok _ (by simp [va_wsS]), ⟨hd.1, hd.2.1⟩, fun sig h => ?_, ok _ (by simp [va_wsS]), ok _ (by simp [va_wsS])⟩
  have h2 := hd.2.2
  rw [h] at h2
  exact (Option.some.inj h2).symm
theorem vx_callSW (X : Stand p l e R s m args below meth c T locs cells slots) (hexec : p.tables.exec = Jvm.exec) {own : String} {index : Nat} {y : MethodName} {bytes : ByteArray} {maxL : Nat} {ret : Option FieldType} {hh : List (Nat × Nat × Nat × Nat)}
    (hown : s.vm.findClass own = some m.cls) (hlink : (Cond.methodLink own index y).before args s = true) (hstat : (Cond.static y).before args s = true) (hinit : (Cond.initialized y.cls).before args s = true)
    (hcode : (Cond.codeWith y bytes maxL ret hh).before args s = true) (hy : y.cls ≠ "java/lang/invoke/MethodHandle" ∧ y.cls ≠ "java/lang/invoke/VarHandle")
    {W9 : Nat} {Pre : Pt → Array Value → Prop} {Post : Pt → Array Value → Option Value → Pt → Prop} (hK : Back l R p e below s args y 3 W9 Pre Post)
    {g : JFrame} (hg : g.method = m) (hsize : g.locals.size = c.maxLocals) {argsL rest : List Value} (hlen : ∀ sig, parseMethodDescriptor y.desc = some sig → argsL.length = sig.parameters.length)
    (hstack : g.stack = argsL.reverse ++ rest) (hW : 2 * g.monitorRoom + (rest.map fun v => v.category).sum ≤ W9) (hdg : decode c.code g.pc = .ok (.invokestatic index, 3))
    (hpre : ∀ vm₁, s.WarmedH vm₁ → Pre ⟨T.setVm vm₁, locs, cells, slots⟩ argsL.toArray) :
    ∃ (v : Option Value) (vm₁ : Vm) (B : Pt), s.WarmedH vm₁ ∧ Stand p l e R s m args below meth c B.U B.locs B.cells B.slots ∧ Post ⟨T.setVm vm₁, locs, cells, slots⟩ argsL.toArray v B ∧
      ∀ target, Steps p.tables e below (B.U.setTop { g with pc := g.pc + 3, stack := v.toList ++ rest }) target → Steps p.tables e below (T.setTop g) target := by
  obtain ⟨mk, methM, cM, hnamed, hmethM, -, -, -, -, -, -, hsigM⟩ := Cond.codeWith_spec hcode
  have hstatic : methM.isStatic = true := Cond.static_spec hnamed hmethM hstat
  obtain ⟨kP, hkP, -⟩ := className_of_methodNamed hnamed
  have hinitP : kP.init = .initialized := Cond.initialized_spec (findClass_of_methodNamed hnamed) hkP hinit
  obtain ⟨vm₁, X₁, hstep₁⟩ := X.invokestatic hexec hown hlink hnamed hmethM hstatic hkP hinitP hy (g := g) hg (argsL := argsL) (rest := rest) (hlen _ hsigM) hstack hdg
  obtain ⟨v, B, X', hpost, hsteps⟩ := hK m meth c ⟨T.setVm vm₁, locs, cells, slots⟩ { g with stack := rest } (.invokestatic index) mk argsL.toArray X₁ hg hsize hdg hW (X₁.named hnamed) (hpre vm₁ X₁.warmed)
  exact ⟨v, vm₁, B, X₁.warmed, X', hpost, fun target h => hstep₁ _ fun acts => by rw [doInvoke_state]; exact hsteps.trans h⟩
theorem vx_runSW {y : MethodName} {bytes cc : ByteArray} {maxL nL mc ms n index : Nat} {ret : Option FieldType} {hh : List (Nat × Nat × Nat × Nat)} {ws : List Cond} {rm : Room} {Pc : Array Value → State → Prop} {Qc : Array Value → State → Outcome → State → Prop} {free : Addr → Prop} {Ts : List Cond} {own : String} {As rest : List Value} {g : JFrame}
    (S : CallFix p m c cc nL s args Ts own) (hM : Met l y ws rm Pc Qc mc ms free) (cw : vx_CSW R s args own index y bytes maxL ret hh ws rm mc ms n) (hp : PreS s H Pc As)
    (hg : g.method = m) (hn : As.length = n) (hsize : g.locals.size = nL) (hstack : g.stack = As.reverse ++ rest) (hW : 2 * g.monitorRoom + (rest.map fun v => v.category).sum ≤ 8) (hdg : decode cc g.pc = .ok (.invokestatic index, 3)) (hf : cells + mc ≤ R.cells ∧ slots + ms ≤ R.slots) :
    va_Run p l e R s m args below meth c H locs cells slots mc ms g rest (Qc As.toArray) (free) := by
  obtain ⟨⟨hrc, hrs, hfr, hlo, hws, hcw⟩, hcode, hini, hy, hlen, hl, hstt⟩ := cw
  have hK : Back l R p e below s args y 3 8 (PreOf R mc ms Pc) (PostOf Qc mc ms free) := va_backW (hh := hh) (bytes := bytes) (maxL := maxL) (ret := ret) hM hp.1 hrc hrs hfr hlo hws hcw (fun a' U hW => word_at hW (Or.inl (by first | rfl | simp [Cond.onTables, Cond.keeps, Cond.steady])) hini)
  obtain ⟨hx, hb, hml, ho, -⟩ := S
  intro T hT X
  obtain ⟨v, vm₁, ⟨U', l2, c2, s2⟩, hW₁, X', ⟨g', mk, t, L, e1, e2, hq, h1, hL, h2, h3⟩, st⟩ := vx_callSW X hx (hh := hh) (bytes := bytes) (maxL := maxL) (ret := ret) ho hl hstt hini hcode hy hK hg (hsize.trans hml.symm) (argsL := As) (rest := rest) (fun sig h => hn.trans (hlen sig h)) hstack hW (by rw [hb]; exact hdg)
    (fun vm₁ hW₁ => ⟨hf.1, hf.2, hp.2 (T.setVm vm₁) hT hW₁⟩)
  dsimp only [Pt.U, Pt.locs, Pt.cells, Pt.slots] at X' e1 e2 h1 h2 h3 st
  subst h1; subst h2; subst h3
  exact ⟨v, (T.setVm vm₁).calling g' mk As.toArray, t, U', L, hT, X', hL, e1, e2, hq, st⟩
/-- not caught here, past rows that name other classes: it goes on to the caller -/
theorem vx_outP {p : Program} {l : Launch} {e : Env} {R : Room} {s : State} {m : MethodId} {args : Array Value} {below : List Frame} {meth : Method} {c : Code} {H : Heap} {locs : List Loc} {cells slots : Nat} {free : Addr → Prop} {ls : Array Slot} {rest : List Value} {Qc : Array Value → State → Outcome → State → Prop} {XC : String → State → State → Prop}
    {pc : Nat} {own E : String} {ce : Cell} {q : Addr} {mc ms : Nat} (hown : s.vm.findClass own = some m.cls) (hlocks : meth.locks = false)
    (hpass : ∀ z ∈ c.exceptionTable.toList, covers z pc = false ∨ (z.catchType ≠ 0 ∧ ∃ nm : String, (Cond.classLink own z.catchType nm).before args s = true ∧ va_Nc E nm s)) (hcell : H[q]? = some ce) (hv : ce.vm = .none) (hcl : s.vm.findClass E = some ce.cls)
    (hx : ∀ t : State, t.heap = H → s.vm.Alike t.vm → XC E s t) (hf : ∀ z ∈ locs, free z.base) (hc : cells ≤ mc) (hs : slots ≤ ms) :
    vx_W p l e R s m args below meth c H locs cells slots (vx_MQ below Qc XC args s mc ms free) (F0 m pc ls rest) q := by
  intro T hT X
  have hpl : e.platform.magicAccessors = ({} : Platform).magicAccessors := by rw [X.admits.platform]
  obtain ⟨vm', hW', X', st⟩ := Stand.outThrough X hlocks q (g := F0 m pc ls rest) rfl rfl rfl (cell := ce) (by rw [hT]; exact hcell) (by rw [hv]; rfl)
    (by obtain ⟨k9, h9, -⟩ := Vm.findClass_spec hcl; exact ⟨k9, h9⟩) (fun z hz => by
      rcases hpass z hz with h | ⟨hz0, nm, hl1, hn1⟩
      · exact Or.inl h
      · obtain ⟨c6, hc6, hcl6⟩ := Cond.classLink_spec hown hl1 e.platform hpl
        obtain ⟨a8, b8, h1, h2, h3⟩ := hn1
        cases Option.some.inj (h1.symm.trans hcl)
        cases Option.some.inj (h2.symm.trans hc6)
        exact Or.inr ⟨hz0, _, hcl6, h3⟩)
  obtain ⟨g₀, hfr⟩ := X'.frames_eq
  have hcell9 : ((T.setVm vm').setFrames (.throwing q :: below)).heap[q]? = some ce := by
    show T.heap[q]? = some ce
    rw [hT]; exact hcell
  have hend : Ended ((T.setVm vm').setFrames (.throwing q :: below)) below (.threw q) := State.frames_setFrames _ (State.cur_lt_of_frames hfr)
  refine ⟨(T.setVm vm').setFrames (.throwing q :: below), ?_, .threw q, X'.here.running, hend, Or.inr ⟨q, rfl, E, ce, locs, hx _ hT (X'.ends _).1.alike, hcell9, hv, hcl, (X'.ends _).1, (X'.ends _).2.mono hc hs, hf⟩⟩
  rw [X.pushThrowing_eq]
  exact st
/-- a thing of a world lies in the heap -/
theorem vx_lt {D : va_G} {cl : List vw_C} {ws : va_W} {H1 : Heap} (h : va_P D cl ws H1) {k : Nat} {q : Nat × va_E} (hk : ws[k]? = some q) : q.1 < H1.size := (h k q hk).lt
end VXS
/-! ===== END ===== -/
/-! ===== BEGIN methods with a table of their own: called by a name, returning or throwing ===== -/
section VXH
/-! vx_backW, vx_callVX, vx_callSX, vx_callVW, vx_runVW, vx_runVX, vx_runSX, vx_ofWH follow the same proofs as their sisters above (Free/Laws.lean, Shelf42/LK1.lean); vx_outP calls Shelf42/NT130.lean (outThrough). -/
section
variable {l : Launch} {R : Room} {p : Program} {e : Env} {below : List Frame} {s : State} {sargs : Array Value} {y : MethodName} {len W9 : Nat}
theorem vx_backW {ws : List Cond} {rm : Room} {Pc : Array Value → State → Prop} {Qc : Array Value → State → Outcome → State → Prop} {XC : String → State → State → Prop} {mc ms : Nat} {free : Addr → Prop} {bytes : ByteArray} {maxL : Nat} {ret : Option FieldType} {hh : List (Nat × Nat × Nat × Nat)}
    (hM : vx_Met l y ws rm Pc Qc XC mc ms free) (hblind : FrameBlind Pc) (hrc : rm.cells = mc) (hrs : rm.slots = ms)
    (hframes : rm.frames + 1 ≤ R.frames) (hlocals : W9 + (maxL + 11) + rm.locals ≤ R.locals)
    (hws : ∀ w ∈ ws, ∀ a' U, s.WarmedH U.vm → w.before a' U = true) (hcode : Cond.codeWith y bytes maxL ret hh ∈ ws) (hinit : ∀ a' U, s.WarmedH U.vm → (Cond.initialized y.cls).before a' U = true) :
    vx_Back l R p e below s sargs y len W9 (PreOf R mc ms Pc) (PostOf Qc mc ms free) (vx_Post XC mc ms free) := by
  intro m meth c A g ig mk a X hg hsize hdg hW hn hp
  have h1 : (headSpec ws rm).pre.before a A.U = true := atoms_intro fun w hw => hws w hw _ _ X.warmed
  have h2 : (Cond.codeWith y bytes maxL ret hh).before a A.U = true := hws _ hcode _ _ X.warmed
  have h3 : (Cond.initialized y.cls).before a A.U = true := hinit _ _ X.warmed
  have h4 : A.cells + (headSpec ws rm).room.cells ≤ R.cells := by rw [show (headSpec ws rm).room.cells = mc from hrc]; exact hp.1
  have h5 : A.slots + (headSpec ws rm).room.slots ≤ R.slots := by rw [show (headSpec ws rm).room.slots = ms from hrs]; exact hp.2.1
  have hPc : Pc a (A.U.calling g mk a) := hblind _ _ _ _ hp.2.2
  obtain ⟨U, Ls, c0, s0⟩ := A
  dsimp only [Pt.U, Pt.locs, Pt.cells, Pt.slots] at h1 h2 h3 h4 h5 X hn hPc ⊢
  obtain ⟨m9, methY, cY, hn9, hmY, hcY, -, hlY, -⟩ := Cond.codeWith_spec h2
  cases Option.some.inj (hn9.symm.trans hn)
  obtain ⟨kY, hkY, -⟩ := className_of_methodNamed hn
  have hinitY : kY.init = .initialized := Cond.initialized_spec (findClass_of_methodNamed hn) hkY h3
  have h : At U g.method c below := by rw [hg]; exact X.here
  have hlocals9 : W9 + (maxL + 11) + (headSpec ws rm).room.locals ≤ R.locals := hlocals
  have happ : (headSpec ws rm).appliesLoose y e.platform (U.calling g mk a) = true :=
    Spec.appliesLoose_calling (g := g) h hdg hn hkY hinitY
      (X.room_calling (g := g) (R' := (headSpec ws rm).room) hsize hmY hcY hframes (by rw [hlY]; omega) h4 h5) h1
  obtain ⟨mid, hmid⟩ := h.above
  have hfr : (U.setTop g).frames = (.java g :: mid) ++ below := by rw [State.frames_setTop' g h.top, hmid]; rfl
  obtain ⟨o, s₂, hsteps, -, hend, hq⟩ := Steps.callFree hM p X.admits X.cas X.clock (acts := []) hfr happ hPc trivial
  have hq' : vx_Q Qc XC mc ms free a (U.calling g mk a) o s₂ := hq
  rw [State.frames_setTop' g h.top] at hend
  obtain ⟨g₀, hg0⟩ := Option.isSome_iff_exists.mp h.top
  obtain ⟨r, hr⟩ := State.topJava?_eq_some.mp hg0
  have hr' : (({ U with heap := s₂.heap, slotsUsed := s₂.slotsUsed } : State).setVm s₂.vm).frames = .java g₀ :: r := hr
  rcases hq' with ⟨hqc, L, hfe, hL⟩ | ⟨q, rfl, E, ce, L, hx, hce, hcv, hcl, hW₂, hsm, hL⟩
  · obtain ⟨⟨v, rfl⟩, hW₂, e2, q2, q3, q4, q5, q6⟩ := id hfe
    have e3 : s₂ = ({ (U.calling g mk a).setFrames s₂.frames with heap := s₂.heap, slotsUsed := s₂.slotsUsed } : State).setVm s₂.vm := by
      have : s₂ = ({ s₂ with vm := (U.calling g mk a).vm } : State).setVm s₂.vm := rfl
      rw [e2] at this
      exact this
    obtain ⟨c₂, i₂, len₂, hc₂, hd₂, hf₂⟩ := hend
    have hW' : U.WarmedH s₂.vm := hW₂
    have hcc : c₂ = c := by
      have h1 : s₂.code? g.method = U.code? g.method := by
        rw [State.code?_eq, State.code?_eq, hW'.alike.method?]
      exact Option.some.inj (hc₂.symm.trans (h1.trans h.code))
    subst hcc
    have hlen : len₂ = len := by rw [hdg] at hd₂; cases hd₂; rfl
    subst hlen
    have hs₂ : s₂ = (({ U with heap := s₂.heap, slotsUsed := s₂.slotsUsed } : State).setVm s₂.vm).setTop { g with pc := g.pc + len₂, stack := v.toList ++ g.stack } := by
      refine e3.trans ?_
      rw [hf₂, State.calling_eq h.top, State.setFrames_setFrames, State.setTop_of_frames _ hr', hr]
      rfl
    have hsame : U.sameButNew ({ U with heap := s₂.heap, slotsUsed := s₂.slotsUsed } : State) L mc ms := by
      refine ⟨?_, q2, q3, q4, q5, q6⟩
      obtain ⟨t, ht, -⟩ := State.frames_cons hr
      show ({ U with heap := s₂.heap, slotsUsed := s₂.slotsUsed } : State) = { U.setFrames U.frames with heap := s₂.heap, slotsUsed := s₂.slotsUsed }
      rw [State.setFrames_self ht]
    subst hg
    refine Or.inl ⟨v, ⟨(({ U with heap := s₂.heap, slotsUsed := s₂.slotsUsed } : State).setVm s₂.vm), Ls ++ L, c0 + mc, s0 + ms⟩,
      ⟨X.admits, X.cas, X.clock, X.frames, X.room, X.hears, X.method, X.code, (X.here.setHeapUsed s₂.heap s₂.slotsUsed).setVm hW'.alike, X.tail, State.WarmedH.trans X.warmed hW', X.limits, X.bytes, X.same.trans (hsame.setVm s.vm)⟩,
      ⟨g, mk, s₂, L, rfl, rfl, hqc, rfl, hL, rfl, rfl⟩, ?_⟩
    show Steps p.tables e below _ ((({ U with heap := s₂.heap, slotsUsed := s₂.slotsUsed } : State).setVm s₂.vm).setTop { g with pc := g.pc + len₂, stack := v.toList ++ g.stack })
    rw [← hs₂]
    exact hsteps
  · obtain ⟨e2, q2, q3, q4, q5, q6⟩ := id hsm
    have e3 : s₂ = ({ (U.calling g mk a).setFrames s₂.frames with heap := s₂.heap, slotsUsed := s₂.slotsUsed } : State).setVm s₂.vm := by
      have : s₂ = ({ s₂ with vm := (U.calling g mk a).vm } : State).setVm s₂.vm := rfl
      rw [e2] at this
      exact this
    have hf₂ : s₂.frames = .throwing q :: .java g :: U.frames.tail := hend
    have hW' : U.WarmedH s₂.vm := hW₂
    have hs₂ : s₂ = ((({ U with heap := s₂.heap, slotsUsed := s₂.slotsUsed } : State).setVm s₂.vm).setTop g).pushFrame (.throwing q) := by
      refine e3.trans ?_
      rw [hf₂, State.calling_eq h.top, State.setFrames_setFrames, State.pushFrame, State.frames_setTop _ hr', State.setTop_of_frames _ hr', State.setFrames_setFrames, hr]
      rfl
    have hsame : U.sameButNew ({ U with heap := s₂.heap, slotsUsed := s₂.slotsUsed } : State) L mc ms := by
      refine ⟨?_, q2, q3, q4, q5, q6⟩
      obtain ⟨t, ht, -⟩ := State.frames_cons hr
      show ({ U with heap := s₂.heap, slotsUsed := s₂.slotsUsed } : State) = { U.setFrames U.frames with heap := s₂.heap, slotsUsed := s₂.slotsUsed }
      rw [State.setFrames_self ht]
    subst hg
    refine Or.inr ⟨q, ⟨(({ U with heap := s₂.heap, slotsUsed := s₂.slotsUsed } : State).setVm s₂.vm), Ls ++ L, c0 + mc, s0 + ms⟩,
      ⟨X.admits, X.cas, X.clock, X.frames, X.room, X.hears, X.method, X.code, (X.here.setHeapUsed s₂.heap s₂.slotsUsed).setVm hW'.alike, X.tail, State.WarmedH.trans X.warmed hW', X.limits, X.bytes, X.same.trans (hsame.setVm s.vm)⟩,
      ⟨g, mk, s₂, L, E, ce, rfl, rfl, hx, hce, hcv, hcl, rfl, hL, rfl, rfl⟩, ?_⟩
    show Steps p.tables e below _ (((({ U with heap := s₂.heap, slotsUsed := s₂.slotsUsed } : State).setVm s₂.vm).setTop g).pushFrame (.throwing q))
    rw [← hs₂]
    exact hsteps
end
variable {p : Program} {l : Launch} {e : Env} {R : Room} {s : State} {m : MethodId} {args : Array Value} {below : List Frame} {meth : Method} {c : Code} {T : State} {H : Heap} {locs : List Loc} {cells slots : Nat}
theorem vx_callVX (X : Stand p l e R s m args below meth c T locs cells slots) (hexec : p.tables.exec = Jvm.exec) {own C : String} {index : Nat} {y : MethodName} {bytes : ByteArray} {maxL : Nat} {ret : Option FieldType} {hh : List (Nat × Nat × Nat × Nat)}
    (hown : s.vm.findClass own = some m.cls) (hlink : (Cond.methodLink own index y).before args s = true) (hinst : (Cond.instanceMethod y).before args s = true) (hsel : (Cond.selects C y y).before args s = true)
    (hcode : (Cond.codeWith y bytes maxL ret hh).before args s = true) (hy : y.cls ≠ "java/lang/invoke/MethodHandle" ∧ y.cls ≠ "java/lang/invoke/VarHandle")
    {W9 : Nat} {Pre : Pt → Array Value → Prop} {Post : Pt → Array Value → Option Value → Pt → Prop} {PostX : Pt → Array Value → Addr → Pt → Prop} (hK : vx_Back l R p e below s args y 3 W9 Pre Post PostX)
    {b : Addr} {cellB : Cell} (hcell : T.heap[b]? = some cellB) (hobj : cellB.vm.isStatics = false) (hcls : s.vm.findClass C = some cellB.cls)
    {g : JFrame} (hg : g.method = m) (hsize : g.locals.size = c.maxLocals) {argsL rest : List Value} (hlen : ∀ sig, parseMethodDescriptor y.desc = some sig → argsL.length = sig.parameters.length)
    (hstack : g.stack = argsL.reverse ++ .ref b :: rest) (hW : 2 * g.monitorRoom + (rest.map fun v => v.category).sum ≤ W9) (hdg : decode c.code g.pc = .ok (.invokevirtual index, 3))
    (hpre : ∀ vm₁, s.WarmedH vm₁ → Pre ⟨T.setVm vm₁, locs, cells, slots⟩ (Value.ref b :: argsL).toArray) :
    (∃ (v : Option Value) (vm₁ : Vm) (B : Pt), s.WarmedH vm₁ ∧ Stand p l e R s m args below meth c B.U B.locs B.cells B.slots ∧ Post ⟨T.setVm vm₁, locs, cells, slots⟩ (Value.ref b :: argsL).toArray v B ∧
      ∀ target, Steps p.tables e below (B.U.setTop { g with pc := g.pc + 3, stack := v.toList ++ rest }) target → Steps p.tables e below (T.setTop g) target) ∨
    (∃ (q : Addr) (vm₁ : Vm) (B : Pt), s.WarmedH vm₁ ∧ Stand p l e R s m args below meth c B.U B.locs B.cells B.slots ∧ PostX ⟨T.setVm vm₁, locs, cells, slots⟩ (Value.ref b :: argsL).toArray q B ∧
      Steps p.tables e below (T.setTop g) ((B.U.setTop { g with stack := rest }).pushFrame (.throwing q))) := by
  obtain ⟨mk, methM, hnamed, hmethM, hstM, habM⟩ := Cond.instanceMethod_spec hinst
  obtain ⟨m8, methM', cM, hn8, hmethM', -, -, -, -, -, -, hsigM⟩ := Cond.codeWith_spec hcode
  cases Option.some.inj (hn8.symm.trans hnamed)
  cases hmethM.symm.trans hmethM'
  obtain ⟨c2, r2, m2, q1, q2, q3, q4, kP, hkP, hkPi⟩ := Cond.selects_spec hsel
  cases hcls.symm.trans q1
  cases (State.methodFound?_of_named hnamed hy).symm.trans q2
  cases hnamed.symm.trans q3
  have hselP : selectMethod e.platform s.vm cellB.cls mk = .method mk := by rw [Launch.admits_selectMethod X.admits]; exact q4
  obtain ⟨vm₁, X₁, hstep₁⟩ := X.invokevirtual hexec hown hlink hnamed hmethM hstM hkP hkPi hy (a := b) (cell := cellB) hcell
    (fun z h => by rw [h] at hobj; cases hobj) hselP hmethM habM hkP hkPi (g := g) hg (argsL := argsL) (rest := rest) (hlen _ hsigM) hstack hdg
  rcases hK m meth c ⟨T.setVm vm₁, locs, cells, slots⟩ { g with stack := rest } (.invokevirtual index) mk (Value.ref b :: argsL).toArray X₁ hg hsize hdg hW (X₁.named hnamed) (hpre vm₁ X₁.warmed) with ⟨v, B, X', hpost, hsteps⟩ | ⟨q, B, X', hpost, hsteps⟩
  · exact Or.inl ⟨v, vm₁, B, X₁.warmed, X', hpost, fun target h => hstep₁ _ fun acts => by rw [doInvoke_state]; exact hsteps.trans h⟩
  · exact Or.inr ⟨q, vm₁, B, X₁.warmed, X', hpost, hstep₁ _ fun acts => by rw [doInvoke_state]; exact hsteps⟩
theorem vx_callSX (X : Stand p l e R s m args below meth c T locs cells slots) (hexec : p.tables.exec = Jvm.exec) {own : String} {index : Nat} {y : MethodName} {bytes : ByteArray} {maxL : Nat} {ret : Option FieldType} {hh : List (Nat × Nat × Nat × Nat)}
    (hown : s.vm.findClass own = some m.cls) (hlink : (Cond.methodLink own index y).before args s = true) (hstat : (Cond.static y).before args s = true) (hinit : (Cond.initialized y.cls).before args s = true)
    (hcode : (Cond.codeWith y bytes maxL ret hh).before args s = true) (hy : y.cls ≠ "java/lang/invoke/MethodHandle" ∧ y.cls ≠ "java/lang/invoke/VarHandle")
    {W9 : Nat} {Pre : Pt → Array Value → Prop} {Post : Pt → Array Value → Option Value → Pt → Prop} {PostX : Pt → Array Value → Addr → Pt → Prop} (hK : vx_Back l R p e below s args y 3 W9 Pre Post PostX)
    {g : JFrame} (hg : g.method = m) (hsize : g.locals.size = c.maxLocals) {argsL rest : List Value} (hlen : ∀ sig, parseMethodDescriptor y.desc = some sig → argsL.length = sig.parameters.length)
    (hstack : g.stack = argsL.reverse ++ rest) (hW : 2 * g.monitorRoom + (rest.map fun v => v.category).sum ≤ W9) (hdg : decode c.code g.pc = .ok (.invokestatic index, 3))
    (hpre : ∀ vm₁, s.WarmedH vm₁ → Pre ⟨T.setVm vm₁, locs, cells, slots⟩ argsL.toArray) :
    (∃ (v : Option Value) (vm₁ : Vm) (B : Pt), s.WarmedH vm₁ ∧ Stand p l e R s m args below meth c B.U B.locs B.cells B.slots ∧ Post ⟨T.setVm vm₁, locs, cells, slots⟩ argsL.toArray v B ∧
      ∀ target, Steps p.tables e below (B.U.setTop { g with pc := g.pc + 3, stack := v.toList ++ rest }) target → Steps p.tables e below (T.setTop g) target) ∨
    (∃ (q : Addr) (vm₁ : Vm) (B : Pt), s.WarmedH vm₁ ∧ Stand p l e R s m args below meth c B.U B.locs B.cells B.slots ∧ PostX ⟨T.setVm vm₁, locs, cells, slots⟩ argsL.toArray q B ∧
      Steps p.tables e below (T.setTop g) ((B.U.setTop { g with stack := rest }).pushFrame (.throwing q))) := by
  obtain ⟨mk, methM, cM, hnamed, hmethM, -, -, -, -, -, -, hsigM⟩ := Cond.codeWith_spec hcode
  have hstatic : methM.isStatic = true := Cond.static_spec hnamed hmethM hstat
  obtain ⟨kP, hkP, -⟩ := className_of_methodNamed hnamed
  have hinitP : kP.init = .initialized := Cond.initialized_spec (findClass_of_methodNamed hnamed) hkP hinit
  obtain ⟨vm₁, X₁, hstep₁⟩ := X.invokestatic hexec hown hlink hnamed hmethM hstatic hkP hinitP hy (g := g) hg (argsL := argsL) (rest := rest) (hlen _ hsigM) hstack hdg
  rcases hK m meth c ⟨T.setVm vm₁, locs, cells, slots⟩ { g with stack := rest } (.invokestatic index) mk argsL.toArray X₁ hg hsize hdg hW (X₁.named hnamed) (hpre vm₁ X₁.warmed) with ⟨v, B, X', hpost, hsteps⟩ | ⟨q, B, X', hpost, hsteps⟩
  · exact Or.inl ⟨v, vm₁, B, X₁.warmed, X', hpost, fun target h => hstep₁ _ fun acts => by rw [doInvoke_state]; exact hsteps.trans h⟩
  · exact Or.inr ⟨q, vm₁, B, X₁.warmed, X', hpost, hstep₁ _ fun acts => by rw [doInvoke_state]; exact hsteps⟩
theorem vx_callVW (X : Stand p l e R s m args below meth c T locs cells slots) (hexec : p.tables.exec = Jvm.exec) {own C : String} {index : Nat} {y : MethodName} {bytes : ByteArray} {maxL : Nat} {ret : Option FieldType} {hh : List (Nat × Nat × Nat × Nat)}
    (hown : s.vm.findClass own = some m.cls) (hlink : (Cond.methodLink own index y).before args s = true) (hinst : (Cond.instanceMethod y).before args s = true) (hsel : (Cond.selects C y y).before args s = true)
    (hcode : (Cond.codeWith y bytes maxL ret hh).before args s = true) (hy : y.cls ≠ "java/lang/invoke/MethodHandle" ∧ y.cls ≠ "java/lang/invoke/VarHandle")
    {W9 : Nat} {Pre : Pt → Array Value → Prop} {Post : Pt → Array Value → Option Value → Pt → Prop} (hK : Back l R p e below s args y 3 W9 Pre Post)
    {b : Addr} {cellB : Cell} (hcell : T.heap[b]? = some cellB) (hobj : cellB.vm.isStatics = false) (hcls : s.vm.findClass C = some cellB.cls)
    {g : JFrame} (hg : g.method = m) (hsize : g.locals.size = c.maxLocals) {argsL rest : List Value} (hlen : ∀ sig, parseMethodDescriptor y.desc = some sig → argsL.length = sig.parameters.length)
    (hstack : g.stack = argsL.reverse ++ .ref b :: rest) (hW : 2 * g.monitorRoom + (rest.map fun v => v.category).sum ≤ W9) (hdg : decode c.code g.pc = .ok (.invokevirtual index, 3))
    (hpre : ∀ vm₁, s.WarmedH vm₁ → Pre ⟨T.setVm vm₁, locs, cells, slots⟩ (Value.ref b :: argsL).toArray) :
    ∃ (v : Option Value) (vm₁ : Vm) (B : Pt), s.WarmedH vm₁ ∧ Stand p l e R s m args below meth c B.U B.locs B.cells B.slots ∧ Post ⟨T.setVm vm₁, locs, cells, slots⟩ (Value.ref b :: argsL).toArray v B ∧
      ∀ target, Steps p.tables e below (B.U.setTop { g with pc := g.pc + 3, stack := v.toList ++ rest }) target → Steps p.tables e below (T.setTop g) target := by
  obtain ⟨mk, methM, hnamed, hmethM, hstM, habM⟩ := Cond.instanceMethod_spec hinst
  obtain ⟨m8, methM', cM, hn8, hmethM', -, -, -, -, -, -, hsigM⟩ := Cond.codeWith_spec hcode
  cases Option.some.inj (hn8.symm.trans hnamed)
  cases hmethM.symm.trans hmethM'
  obtain ⟨c2, r2, m2, q1, q2, q3, q4, kP, hkP, hkPi⟩ := Cond.selects_spec hsel
  cases hcls.symm.trans q1
  cases (State.methodFound?_of_named hnamed hy).symm.trans q2
  cases hnamed.symm.trans q3
  have hselP : selectMethod e.platform s.vm cellB.cls mk = .method mk := by rw [Launch.admits_selectMethod X.admits]; exact q4
  obtain ⟨vm₁, X₁, hstep₁⟩ := X.invokevirtual hexec hown hlink hnamed hmethM hstM hkP hkPi hy (a := b) (cell := cellB) hcell
    (fun z h => by rw [h] at hobj; cases hobj) hselP hmethM habM hkP hkPi (g := g) hg (argsL := argsL) (rest := rest) (hlen _ hsigM) hstack hdg
  obtain ⟨v, B, X', hpost, hsteps⟩ := hK m meth c ⟨T.setVm vm₁, locs, cells, slots⟩ { g with stack := rest } (.invokevirtual index) mk (Value.ref b :: argsL).toArray X₁ hg hsize hdg hW (X₁.named hnamed) (hpre vm₁ X₁.warmed)
  exact ⟨v, vm₁, B, X₁.warmed, X', hpost, fun target h => hstep₁ _ fun acts => by rw [doInvoke_state]; exact hsteps.trans h⟩
abbrev vx_CVW (R : Room) (s : State) (args : Array Value) (own C : String) (index : Nat) (y : MethodName) (bytes : ByteArray) (maxL : Nat) (ret : Option FieldType) (hh : List (Nat × Nat × Nat × Nat)) (ws : List Cond) (rm : Room) (mc ms n : Nat) : Prop :=
  (rm.cells = mc ∧ rm.slots = ms ∧ rm.frames + 1 ≤ R.frames ∧ 8 + (maxL + 11) + rm.locals ≤ R.locals ∧ (∀ w ∈ ws, ∀ (a' : Array Value) (U : State), s.WarmedH U.vm → w.before a' U = true) ∧ Cond.codeWith y bytes maxL ret hh ∈ ws) ∧
  (Cond.codeWith y bytes maxL ret hh).before args s = true ∧ (Cond.initialized y.cls).before args s = true ∧ (y.cls ≠ "java/lang/invoke/MethodHandle" ∧ y.cls ≠ "java/lang/invoke/VarHandle") ∧
  (∀ sig, parseMethodDescriptor y.desc = some sig → n = sig.parameters.length) ∧ (Cond.methodLink own index y).before args s = true ∧ (Cond.instanceMethod y).before args s = true ∧ (Cond.selects C y y).before args s = true
theorem vx_cwVW {own C : String} {index maxL mc ms : Nat} {y : MethodName} {bytes : ByteArray} {ret : Option FieldType} {hh : List (Nat × Nat × Nat × Nat)} {Ts ws ws' : List Cond} {rm : Room} (n : Nat) (ht : ∀ w ∈ Ts, w.before args s = true) (hT : GoodIn Ts (wsV own index C y ws)) (hw : ws = Cond.codeWith y bytes maxL ret hh :: ws') (hrc : rm.cells = mc) (hrs : rm.slots = ms)
    (hd : y.cls = C ∧ y.cls ≠ "java/lang/invoke/MethodHandle" ∧ y.cls ≠ "java/lang/invoke/VarHandle" ∧ (parseMethodDescriptor y.desc).map (fun d => d.parameters.length) = some n) (hR : rm.frames + 1 ≤ R.frames ∧ 8 + (maxL + 11) + rm.locals ≤ R.locals) :
    vx_CVW R s args own C index y bytes maxL ret hh ws rm mc ms n := by
  obtain ⟨hC, hd⟩ := hd
  subst hC
  have ok : ∀ w ∈ wsV own index y.cls y ws, w.before args s = true := fun w h => ht w (hT w h).1
  have hG : GoodIn Ts ws := fun w h => hT w (by unfold wsV; exact List.mem_append_right _ h)
  have hc : Cond.codeWith y bytes maxL ret hh ∈ ws := by rw [hw]; exact List.mem_cons_self
  refine ⟨⟨hrc, hrs, hR.1, hR.2, pay_in ht hG, hc⟩, ht _ (hG _ hc).1, ok _ (by simp [wsV]), ⟨hd.1, hd.2.1⟩, fun sig h => ?_, ok _ (by simp [wsV]), ok _ (by simp [wsV]), ok _ (by simp [wsV])⟩
  have h2 := hd.2.2
  rw [h] at h2
  exact (Option.some.inj h2).symm
theorem vx_runVW {y : MethodName} {bytes cc : ByteArray} {maxL nL mc ms n index : Nat} {ret : Option FieldType} {hh : List (Nat × Nat × Nat × Nat)} {ws : List Cond} {rm : Room} {Pc : Array Value → State → Prop} {Qc : Array Value → State → Outcome → State → Prop} {free : Addr → Prop} {Ts : List Cond} {own C : String} {b : Addr} {As rest : List Value} {g : JFrame}
    (S : CallFix p m c cc nL s args Ts own) (hM : Met l y ws rm Pc Qc mc ms free) (cw : vx_CVW R s args own C index y bytes maxL ret hh ws rm mc ms n) (hp : PreV s H C b Pc As)
    (hg : g.method = m) (hn : As.length = n) (hsize : g.locals.size = nL) (hstack : g.stack = As.reverse ++ .ref b :: rest) (hW : 2 * g.monitorRoom + (rest.map fun v => v.category).sum ≤ 8) (hdg : decode cc g.pc = .ok (.invokevirtual index, 3)) (hf : cells + mc ≤ R.cells ∧ slots + ms ≤ R.slots) :
    va_Run p l e R s m args below meth c H locs cells slots mc ms g rest (Qc (Value.ref b :: As).toArray) free := by
  obtain ⟨⟨hrc, hrs, hfr, hlo, hws, hcw⟩, hcode, hini, hy, hlen, hl, hin, hse⟩ := cw
  have hK : Back l R p e below s args y 3 8 (PreOf R mc ms Pc) (PostOf Qc mc ms free) := va_backW (hh := hh) (bytes := bytes) (maxL := maxL) (ret := ret) hM hp.1 hrc hrs hfr hlo hws hcw (fun a' U hW => word_at hW (Or.inl (by first | rfl | simp [Cond.onTables, Cond.keeps, Cond.steady])) hini)
  obtain ⟨hx, hb, hml, ho, -⟩ := S
  obtain ⟨-, ⟨cellB, hcB, hoB, hclB⟩, hPc⟩ := hp
  intro T hT X
  obtain ⟨v, vm₁, ⟨U', l2, c2, s2⟩, hW₁, X', ⟨g', mk, t, L, e1, e2, hq, h1, hL, h2, h3⟩, st⟩ := vx_callVW X hx (C := C) (hh := hh) (bytes := bytes) (maxL := maxL) (ret := ret) ho hl hin hse hcode hy hK (by rw [hT]; exact hcB) hoB hclB hg (hsize.trans hml.symm) (argsL := As) (rest := rest) (fun sig h => hn.trans (hlen sig h)) hstack hW (by rw [hb]; exact hdg)
    (fun vm₁ hW₁ => ⟨hf.1, hf.2, hPc (T.setVm vm₁) hT hW₁⟩)
  dsimp only [Pt.U, Pt.locs, Pt.cells, Pt.slots] at X' e1 e2 h1 h2 h3 st
  subst h1; subst h2; subst h3
  exact ⟨v, (T.setVm vm₁).calling g' mk (Value.ref b :: As).toArray, t, U', L, hT, X', hL, e1, e2, hq, st⟩
section
variable {y : MethodName} {bytes cc : ByteArray} {maxL nL mc ms n index : Nat} {ret : Option FieldType} {ws : List Cond} {rm : Room} {Pc : Array Value → State → Prop} {Qc : Array Value → State → Outcome → State → Prop} {XC : String → State → State → Prop} {free : Addr → Prop} {Ts : List Cond} {own C : String} {b : Addr} {As rest : List Value} {g : JFrame}
theorem vx_runVX {hh : List (Nat × Nat × Nat × Nat)} (S : CallFix p m c cc nL s args Ts own) (hM : vx_Met l y ws rm Pc Qc XC mc ms free) (cw : vx_CVW R s args own C index y bytes maxL ret hh ws rm mc ms n) (hp : PreV s H C b Pc As)
    (hg : g.method = m) (hn : As.length = n) (hsize : g.locals.size = nL) (hstack : g.stack = As.reverse ++ .ref b :: rest) (hW : 2 * g.monitorRoom + (rest.map fun v => v.category).sum ≤ 8) (hdg : decode cc g.pc = .ok (.invokevirtual index, 3)) (hf : cells + mc ≤ R.cells ∧ slots + ms ≤ R.slots) :
    vx_Run p l e R s m args below meth c H locs cells slots mc ms g rest (Qc (Value.ref b :: As).toArray) XC free := by
  obtain ⟨⟨hrc, hrs, hfr, hlo, hws, hcw⟩, hcode, hini, hy, hlen, hl, hin, hse⟩ := cw
  have hK : vx_Back l R p e below s args y 3 8 (PreOf R mc ms Pc) (PostOf Qc mc ms free) (vx_Post XC mc ms free) := vx_backW (hh := hh) (bytes := bytes) (maxL := maxL) (ret := ret) hM hp.1 hrc hrs hfr hlo hws hcw (fun a' U hW => word_at hW (Or.inl (by first | rfl | simp [Cond.onTables, Cond.keeps, Cond.steady])) hini)
  obtain ⟨hx, hb, hml, ho, -⟩ := S
  obtain ⟨-, ⟨cellB, hcB, hoB, hclB⟩, hPc⟩ := hp
  intro T hT X
  rcases vx_callVX X hx (C := C) (hh := hh) (bytes := bytes) (maxL := maxL) (ret := ret) ho hl hin hse hcode hy hK (by rw [hT]; exact hcB) hoB hclB hg (hsize.trans hml.symm) (argsL := As) (rest := rest) (fun sig h => hn.trans (hlen sig h)) hstack hW (by rw [hb]; exact hdg)
    (fun vm₁ hW₁ => ⟨hf.1, hf.2, hPc (T.setVm vm₁) hT hW₁⟩) with ⟨v, vm₁, ⟨U', l2, c2, s2⟩, hW₁, X', ⟨g', mk, t, L, e1, e2, hq, h1, hL, h2, h3⟩, st⟩ | ⟨q, vm₁, ⟨U', l2, c2, s2⟩, hW₁, X', ⟨g', mk, t, L, E, ce, e1, e2, hq, hce, hcv, hcl, h1, hL, h2, h3⟩, st⟩
  · dsimp only [Pt.U, Pt.locs, Pt.cells, Pt.slots] at X' e1 e2 h1 h2 h3 st
    subst h1; subst h2; subst h3
    exact Or.inl ⟨v, (T.setVm vm₁).calling g' mk (Value.ref b :: As).toArray, t, U', L, hT, X', hL, e1, e2, hq, st⟩
  · dsimp only [Pt.U, Pt.locs, Pt.cells, Pt.slots] at X' e1 e2 h1 h2 h3 st hcl
    subst h1; subst h2; subst h3
    exact Or.inr ⟨q, (T.setVm vm₁).calling g' mk (Value.ref b :: As).toArray, t, U', L, E, ce, hT, X', hL, e1, e2, hq, hce, hcv, vx_cls hW₁ hcl, st⟩
theorem vx_runSX {hh : List (Nat × Nat × Nat × Nat)} (S : CallFix p m c cc nL s args Ts own) (hM : vx_Met l y ws rm Pc Qc XC mc ms free) (cw : vx_CSW R s args own index y bytes maxL ret hh ws rm mc ms n) (hp : PreS s H Pc As)
    (hg : g.method = m) (hn : As.length = n) (hsize : g.locals.size = nL) (hstack : g.stack = As.reverse ++ rest) (hW : 2 * g.monitorRoom + (rest.map fun v => v.category).sum ≤ 8) (hdg : decode cc g.pc = .ok (.invokestatic index, 3)) (hf : cells + mc ≤ R.cells ∧ slots + ms ≤ R.slots) :
    vx_Run p l e R s m args below meth c H locs cells slots mc ms g rest (Qc As.toArray) XC free := by
  obtain ⟨⟨hrc, hrs, hfr, hlo, hws, hcw⟩, hcode, hini, hy, hlen, hl, hstt⟩ := cw
  have hK : vx_Back l R p e below s args y 3 8 (PreOf R mc ms Pc) (PostOf Qc mc ms free) (vx_Post XC mc ms free) := vx_backW (hh := hh) (bytes := bytes) (maxL := maxL) (ret := ret) hM hp.1 hrc hrs hfr hlo hws hcw (fun a' U hW => word_at hW (Or.inl (by first | rfl | simp [Cond.onTables, Cond.keeps, Cond.steady])) hini)
  obtain ⟨hx, hb, hml, ho, -⟩ := S
  intro T hT X
  rcases vx_callSX X hx (hh := hh) (bytes := bytes) (maxL := maxL) (ret := ret) ho hl hstt hini hcode hy hK hg (hsize.trans hml.symm) (argsL := As) (rest := rest) (fun sig h => hn.trans (hlen sig h)) hstack hW (by rw [hb]; exact hdg)
    (fun vm₁ hW₁ => ⟨hf.1, hf.2, hp.2 (T.setVm vm₁) hT hW₁⟩) with ⟨v, vm₁, ⟨U', l2, c2, s2⟩, hW₁, X', ⟨g', mk, t, L, e1, e2, hq, h1, hL, h2, h3⟩, st⟩ | ⟨q, vm₁, ⟨U', l2, c2, s2⟩, hW₁, X', ⟨g', mk, t, L, E, ce, e1, e2, hq, hce, hcv, hcl, h1, hL, h2, h3⟩, st⟩
  · dsimp only [Pt.U, Pt.locs, Pt.cells, Pt.slots] at X' e1 e2 h1 h2 h3 st
    subst h1; subst h2; subst h3
    exact Or.inl ⟨v, (T.setVm vm₁).calling g' mk As.toArray, t, U', L, hT, X', hL, e1, e2, hq, st⟩
  · dsimp only [Pt.U, Pt.locs, Pt.cells, Pt.slots] at X' e1 e2 h1 h2 h3 st hcl
    subst h1; subst h2; subst h3
    exact Or.inr ⟨q, (T.setVm vm₁).calling g' mk As.toArray, t, U', L, E, ce, hT, X', hL, e1, e2, hq, hce, hcv, vx_cls hW₁ hcl, st⟩
end
end VXH
theorem vx_ofWH {l : Launch} {y : MethodName} {ws ws' : List Cond} {rm : Room} {Pc : Array Value → State → Prop} {Qc : Array Value → State → Outcome → State → Prop} {XC : String → State → State → Prop} {mc ms : Nat} {free : Addr → Prop} {cc : ByteArray} {maxL : Nat} {ret : Option FieldType} {hh : List (Nat × Nat × Nat × Nat)}
    (hy : plainName y.cls = true) (hw : ws = Cond.codeWith y cc maxL ret hh :: ws')
    (body : ∀ p e s m args below meth c s₁, BodyLoose p l y (headSpec ws rm) cc maxL ret e s m args below meth c s₁ → c.maxLocals = maxL → Pc args s →
      W p l e (headSpec ws rm).room s m args below meth c s.heap [] 0 0 (vx_MQ below Qc XC args s mc ms free) (entryFrame m args maxL)) : vx_Met l y ws rm Pc Qc XC mc ms free := by
  refine MetFree.of_bodyS (code := cc) (maxLocals := maxL) (ret := ret) hy ?_ ?_
  · intro args s m h hn
    obtain ⟨m9, meth, c, hn9, h1, h2, h3, h4, -, h5, h6, -⟩ := Cond.codeWith_spec (atoms_spec (ws := ws) h _ (by rw [hw]; exact List.mem_cons_self))
    cases hn.symm.trans hn9
    exact ⟨meth, c, h1, h2, h3, h4, h5, h6⟩
  · intro p e s m args below meth c s₁ B hml hP _
    have hh0 : s₁.heap = s.heap := by rw [B.state]; rfl
    obtain ⟨t, a1, o, b1, b2, b3⟩ := body p e s m args below meth c s₁ B hml hP s₁ hh0 (Stand.of_body B)
    exact ⟨t, o, a1, b1, b2, b3⟩
/-! ===== END ===== -/
end
section
/-! ===== BEGIN printed: names, fields, word lists, decode rows ===== -/
def RX0 : String := "HullBuilder$Face"
def TX0 : u_T := fun k => match k with
  | 0 => ("HullBuilder$Face", "nx", "J", false)
  | 1 => ("HullBuilder$Face", "ny", "J", false)
  | 2 => ("HullBuilder$Face", "nz", "J", false)
  | 3 => ("HullBuilder$Face", "distance", "J", false)
  | 4 => ("HullBuilder$Face", "held", "I", false)
  | 5 => ("HullBuilder$Face", "ring", "[I", true)
  | _ => ("HullBuilder$Face", "size", "I", false)
def tyX0 : Nat → FieldType := fun k => match k with
  | 0 => .long
  | 1 => .long
  | 2 => .long
  | 3 => .long
  | 4 => .int
  | 5 => .array .int
  | _ => .int
abbrev wsX00 : List Cond := u_ws RX0 TX0 7
theorem nmX0 : ∀ a, a < 7 → ∀ b, b < 7 → a ≠ b → (TX0 a).2.1 ≠ (TX0 b).2.1 := by decide +kernel
theorem tyX0_ok : ∀ k, k < 7 → parseFieldDescriptor (TX0 k).2.2.1 = some (tyX0 k) := by decide +kernel
abbrev cX0_init : ByteArray := prog_2_method_1_code
def yX0_init : MethodName := ⟨RX0, "<init>", "()V"⟩
abbrev cX0_layThrough : ByteArray := prog_2_method_2_code
def yX0_layThrough : MethodName := ⟨RX0, "layThrough", "(LHullBuilder$Points;III)Z"⟩
abbrev cX0_heightOf : ByteArray := prog_2_method_3_code
def yX0_heightOf : MethodName := ⟨RX0, "heightOf", "(JJJ)J"⟩
abbrev cX0_holdsAll : ByteArray := prog_2_method_4_code
def yX0_holdsAll : MethodName := ⟨RX0, "holdsAll", "(LHullBuilder$Points;)Z"⟩
abbrev cX0_turnOutside : ByteArray := prog_2_method_5_code
def yX0_turnOutside : MethodName := ⟨RX0, "turnOutside", "(LHullBuilder$Points;)Z"⟩
abbrev cX0_shortenNormal : ByteArray := prog_2_method_6_code
def yX0_shortenNormal : MethodName := ⟨RX0, "shortenNormal", "()V"⟩
abbrev cX0_goRound : ByteArray := prog_2_method_7_code
def yX0_goRound : MethodName := ⟨RX0, "goRound", "(LHullBuilder$Points;I)V"⟩
abbrev cX0_nextRound : ByteArray := prog_2_method_8_code
def yX0_nextRound : MethodName := ⟨RX0, "nextRound", "(LHullBuilder$Points;II)I"⟩
abbrev cX0_isRight : ByteArray := prog_2_method_9_code
def yX0_isRight : MethodName := ⟨RX0, "isRight", "(LHullBuilder$Points;III)Z"⟩
abbrev cX0_rank : ByteArray := prog_2_method_10_code
def yX0_rank : MethodName := ⟨RX0, "rank", "()I"⟩
def RX1 : String := "HullBuilder$Hull"
def TX1 : u_T := fun k => match k with
  | 0 => ("HullBuilder$Hull", "at", "LHullBuilder$Points;", true)
  | 1 => ("HullBuilder$Hull", "faces", "[LHullBuilder$Face;", true)
  | 2 => ("HullBuilder$Hull", "trial", "LHullBuilder$Face;", false)
  | 3 => ("HullBuilder$Hull", "faceCount", "I", false)
  | 4 => ("HullBuilder$Hull", "corners", "I", false)
  | 5 => ("HullBuilder$Hull", "faceAlong", "[I", true)
  | 6 => ("HullBuilder$Hull", "edgeLow", "[I", true)
  | 7 => ("HullBuilder$Hull", "edgeHigh", "[I", true)
  | 8 => ("HullBuilder$Hull", "edgeCount", "I", false)
  | 9 => ("HullBuilder$Hull", "sixVolumes", "J", false)
  | _ => ("HullBuilder$Hull", "moments", "[J", true)
def tyX1 : Nat → FieldType := fun k => match k with
  | 0 => .object "HullBuilder$Points"
  | 1 => .array (.object "HullBuilder$Face")
  | 2 => .object "HullBuilder$Face"
  | 3 => .int
  | 4 => .int
  | 5 => .array .int
  | 6 => .array .int
  | 7 => .array .int
  | 8 => .int
  | 9 => .long
  | _ => .array .long
abbrev wsX10 : List Cond := u_ws RX1 TX1 11
theorem nmX1 : ∀ a, a < 11 → ∀ b, b < 11 → a ≠ b → (TX1 a).2.1 ≠ (TX1 b).2.1 := by decide +kernel
theorem tyX1_ok : ∀ k, k < 11 → parseFieldDescriptor (TX1 k).2.2.1 = some (tyX1 k) := by decide +kernel
abbrev cX1_init : ByteArray := prog_3_method_1_code
def yX1_init : MethodName := ⟨RX1, "<init>", "()V"⟩
abbrev cX1_wouldBeFlat : ByteArray := prog_3_method_2_code
def yX1_wouldBeFlat : MethodName := ⟨RX1, "wouldBeFlat", "(LHullBuilder$Points;)Z"⟩
abbrev cX1_wrap : ByteArray := prog_3_method_3_code
def yX1_wrap : MethodName := ⟨RX1, "wrap", "(LHullBuilder$Points;)V"⟩
abbrev cX1_findFaces : ByteArray := prog_3_method_4_code
def yX1_findFaces : MethodName := ⟨RX1, "findFaces", "()V"⟩
abbrev cX1_tryPlane : ByteArray := prog_3_method_5_code
def yX1_tryPlane : MethodName := ⟨RX1, "tryPlane", "(III)V"⟩
abbrev cX1_lieInOneFace : ByteArray := prog_3_method_6_code
def yX1_lieInOneFace : MethodName := ⟨RX1, "lieInOneFace", "(I)Z"⟩
abbrev cX1_findCorners : ByteArray := prog_3_method_7_code
def yX1_findCorners : MethodName := ⟨RX1, "findCorners", "()V"⟩
abbrev cX1_orderFaces : ByteArray := prog_3_method_8_code
def yX1_orderFaces : MethodName := ⟨RX1, "orderFaces", "()V"⟩
abbrev cX1_findEdges : ByteArray := prog_3_method_9_code
def yX1_findEdges : MethodName := ⟨RX1, "findEdges", "()V"⟩
abbrev cX1_noteWays : ByteArray := prog_3_method_10_code
def yX1_noteWays : MethodName := ⟨RX1, "noteWays", "()V"⟩
abbrev cX1_measure : ByteArray := prog_3_method_11_code
def yX1_measure : MethodName := ⟨RX1, "measure", "()V"⟩
abbrev cX1_addTetrahedron : ByteArray := prog_3_method_12_code
def yX1_addTetrahedron : MethodName := ⟨RX1, "addTetrahedron", "(III)V"⟩
abbrev cX1_furthest : ByteArray := prog_3_method_13_code
def yX1_furthest : MethodName := ⟨RX1, "furthest", "(JJJ)I"⟩
abbrev cX1_walk : ByteArray := prog_3_method_14_code
def yX1_walk : MethodName := ⟨RX1, "walk", "(II)I"⟩
abbrev cX1_stepFrom : ByteArray := prog_3_method_15_code
def yX1_stepFrom : MethodName := ⟨RX1, "stepFrom", "(I)I"⟩
abbrev cX1_locate : ByteArray := prog_3_method_16_code
def yX1_locate : MethodName := ⟨RX1, "locate", "(III)I"⟩
def RX2 : String := "HullBuilder$Points"
def TX2 : u_T := fun k => match k with
  | 0 => ("HullBuilder$Points", "xs", "[I", true)
  | 1 => ("HullBuilder$Points", "ys", "[I", true)
  | 2 => ("HullBuilder$Points", "zs", "[I", true)
  | _ => ("HullBuilder$Points", "size", "I", false)
def tyX2 : Nat → FieldType := fun k => match k with
  | 0 => .array .int
  | 1 => .array .int
  | 2 => .array .int
  | _ => .int
abbrev wsX20 : List Cond := u_ws RX2 TX2 4
theorem nmX2 : ∀ a, a < 4 → ∀ b, b < 4 → a ≠ b → (TX2 a).2.1 ≠ (TX2 b).2.1 := by decide +kernel
theorem tyX2_ok : ∀ k, k < 4 → parseFieldDescriptor (TX2 k).2.2.1 = some (tyX2 k) := by decide +kernel
abbrev cX2_init : ByteArray := prog_4_method_1_code
def yX2_init : MethodName := ⟨RX2, "<init>", "()V"⟩
abbrev cX2_isTaken : ByteArray := prog_4_method_2_code
def yX2_isTaken : MethodName := ⟨RX2, "isTaken", "(III)Z"⟩
abbrev cX2_append : ByteArray := prog_4_method_3_code
def yX2_append : MethodName := ⟨RX2, "append", "(III)I"⟩
abbrev cX2_remove : ByteArray := prog_4_method_4_code
def yX2_remove : MethodName := ⟨RX2, "remove", "(I)V"⟩
abbrev cX2_coordinate : ByteArray := prog_4_method_5_code
def yX2_coordinate : MethodName := ⟨RX2, "coordinate", "(II)I"⟩
abbrev cX2_copyFrom : ByteArray := prog_4_method_6_code
def yX2_copyFrom : MethodName := ⟨RX2, "copyFrom", "(LHullBuilder$Points;)V"⟩
def RX3 : String := "HullBuilder"
def TX3 : u_T := fun k => match k with
  | 0 => ("HullBuilder", "points", "LHullBuilder$Points;", true)
  | 1 => ("HullBuilder", "hull", "LHullBuilder$Hull;", true)
  | _ => ("HullBuilder", "hullsBuilt", "I", false)
def tyX3 : Nat → FieldType := fun k => match k with
  | 0 => .object "HullBuilder$Points"
  | 1 => .object "HullBuilder$Hull"
  | _ => .int
abbrev wsX30 : List Cond := u_ws RX3 TX3 3
theorem nmX3 : ∀ a, a < 3 → ∀ b, b < 3 → a ≠ b → (TX3 a).2.1 ≠ (TX3 b).2.1 := by decide +kernel
theorem tyX3_ok : ∀ k, k < 3 → parseFieldDescriptor (TX3 k).2.2.1 = some (tyX3 k) := by decide +kernel
abbrev cX3_init : ByteArray := prog_1_method_1_code
def yX3_init : MethodName := ⟨RX3, "<init>", "()V"⟩
abbrev cX3_point : ByteArray := prog_1_method_2_code
def yX3_point : MethodName := ⟨RX3, "point", "(III)I"⟩
abbrev cX3_take : ByteArray := prog_1_method_3_code
def yX3_take : MethodName := ⟨RX3, "take", "(I)I"⟩
abbrev cX3_build : ByteArray := prog_1_method_4_code
def yX3_build : MethodName := ⟨RX3, "build", "()I"⟩
abbrev cX3_of : ByteArray := prog_1_method_5_code
def yX3_of : MethodName := ⟨RX3, "of", "(II)I"⟩
abbrev cX3_face : ByteArray := prog_1_method_6_code
def yX3_face : MethodName := ⟨RX3, "face", "(II)I"⟩
abbrev cX3_offset : ByteArray := prog_1_method_7_code
def yX3_offset : MethodName := ⟨RX3, "offset", "(I)J"⟩
abbrev cX3_corner : ByteArray := prog_1_method_8_code
def yX3_corner : MethodName := ⟨RX3, "corner", "(II)I"⟩
abbrev cX3_edge : ByteArray := prog_1_method_9_code
def yX3_edge : MethodName := ⟨RX3, "edge", "(II)I"⟩
abbrev cX3_support : ByteArray := prog_1_method_10_code
def yX3_support : MethodName := ⟨RX3, "support", "(III)I"⟩
abbrev cX3_steps : ByteArray := prog_1_method_11_code
def yX3_steps : MethodName := ⟨RX3, "steps", "(II)I"⟩
abbrev cX3_side : ByteArray := prog_1_method_12_code
def yX3_side : MethodName := ⟨RX3, "side", "(III)I"⟩
abbrev cX3_volume : ByteArray := prog_1_method_13_code
def yX3_volume : MethodName := ⟨RX3, "volume", "()J"⟩
abbrev cX3_centre : ByteArray := prog_1_method_14_code
def yX3_centre : MethodName := ⟨RX3, "centre", "(I)J"⟩
abbrev cX3_middle : ByteArray := prog_1_method_15_code
def yX3_middle : MethodName := ⟨RX3, "middle", "(I)D"⟩
abbrev cX3_count : ByteArray := prog_1_method_16_code
def yX3_count : MethodName := ⟨RX3, "count", "(I)I"⟩
abbrev cX3_requireHull : ByteArray := prog_1_method_17_code
def yX3_requireHull : MethodName := ⟨RX3, "requireHull", "()V"⟩
abbrev cX3_requireCorner : ByteArray := prog_1_method_18_code
def yX3_requireCorner : MethodName := ⟨RX3, "requireCorner", "(I)V"⟩
abbrev cX3_requirePlace : ByteArray := prog_1_method_19_code
def yX3_requirePlace : MethodName := ⟨RX3, "requirePlace", "(II)V"⟩
abbrev cX3_requireReach : ByteArray := prog_1_method_20_code
def yX3_requireReach : MethodName := ⟨RX3, "requireReach", "(IIII)V"⟩
abbrev cX3_isWithin : ByteArray := prog_1_method_21_code
def yX3_isWithin : MethodName := ⟨RX3, "isWithin", "(II)Z"⟩
abbrev cX3_holds : ByteArray := prog_1_method_22_code
def yX3_holds : MethodName := ⟨RX3, "holds", "(II)Z"⟩
abbrev cX3_way : ByteArray := prog_1_method_23_code
def yX3_way : MethodName := ⟨RX3, "way", "(II)I"⟩
abbrev cX3_across : ByteArray := prog_1_method_24_code
def yX3_across : MethodName := ⟨RX3, "across", "([I[IIII)J"⟩
abbrev cX3_commonFactor : ByteArray := prog_1_method_25_code
def yX3_commonFactor : MethodName := ⟨RX3, "commonFactor", "(JJ)J"⟩
def RX4 : String := "HullBuilderModel"
def TX4 : u_T := fun k => match k with
  | 0 => ("HullBuilderModel", "thrown", "I", false)
  | 1 => ("HullBuilderModel", "points", "I", false)
  | 2 => ("HullBuilderModel", "xs", "[I", true)
  | 3 => ("HullBuilderModel", "ys", "[I", true)
  | 4 => ("HullBuilderModel", "zs", "[I", true)
  | 5 => ("HullBuilderModel", "built", "Z", false)
  | 6 => ("HullBuilderModel", "builds", "I", false)
  | 7 => ("HullBuilderModel", "held", "I", false)
  | 8 => ("HullBuilderModel", "hx", "[J", true)
  | 9 => ("HullBuilderModel", "hy", "[J", true)
  | 10 => ("HullBuilderModel", "hz", "[J", true)
  | 11 => ("HullBuilderModel", "faces", "I", false)
  | 12 => ("HullBuilderModel", "nx", "[J", true)
  | 13 => ("HullBuilderModel", "ny", "[J", true)
  | 14 => ("HullBuilderModel", "nz", "[J", true)
  | 15 => ("HullBuilderModel", "offsets", "[J", true)
  | 16 => ("HullBuilderModel", "sizes", "[I", true)
  | 17 => ("HullBuilderModel", "corners", "[I", true)
  | 18 => ("HullBuilderModel", "order", "[I", true)
  | 19 => ("HullBuilderModel", "edges", "I", false)
  | 20 => ("HullBuilderModel", "ends", "[I", true)
  | 21 => ("HullBuilderModel", "lefts", "[I", true)
  | 22 => ("HullBuilderModel", "rights", "[I", true)
  | 23 => ("HullBuilderModel", "tx", "J", false)
  | 24 => ("HullBuilderModel", "ty", "J", false)
  | 25 => ("HullBuilderModel", "tz", "J", false)
  | _ => ("HullBuilderModel", "far", "[I", true)
def tyX4 : Nat → FieldType := fun k => match k with
  | 0 => .int
  | 1 => .int
  | 2 => .array .int
  | 3 => .array .int
  | 4 => .array .int
  | 5 => .boolean
  | 6 => .int
  | 7 => .int
  | 8 => .array .long
  | 9 => .array .long
  | 10 => .array .long
  | 11 => .int
  | 12 => .array .long
  | 13 => .array .long
  | 14 => .array .long
  | 15 => .array .long
  | 16 => .array .int
  | 17 => .array .int
  | 18 => .array .int
  | 19 => .int
  | 20 => .array .int
  | 21 => .array .int
  | 22 => .array .int
  | 23 => .long
  | 24 => .long
  | 25 => .long
  | _ => .array .int
abbrev wsX40 : List Cond := u_ws RX4 TX4 27
theorem nmX4 : ∀ a, a < 27 → ∀ b, b < 27 → a ≠ b → (TX4 a).2.1 ≠ (TX4 b).2.1 := by decide +kernel
theorem tyX4_ok : ∀ k, k < 27 → parseFieldDescriptor (TX4 k).2.2.1 = some (tyX4 k) := by decide +kernel
abbrev cX4_init : ByteArray := prog_6_method_1_code
def yX4_init : MethodName := ⟨RX4, "<init>", "()V"⟩
abbrev cX4_thrown : ByteArray := prog_6_method_2_code
def yX4_thrown : MethodName := ⟨RX4, "thrown", "()I"⟩
abbrev cX4_goes : ByteArray := prog_6_method_3_code
def yX4_goes : MethodName := ⟨RX4, "goes", "(ZZ)Z"⟩
abbrev cX4_within : ByteArray := prog_6_method_4_code
def yX4_within : MethodName := ⟨RX4, "within", "(II)Z"⟩
abbrev cX4_taken : ByteArray := prog_6_method_5_code
def yX4_taken : MethodName := ⟨RX4, "taken", "(III)Z"⟩
abbrev cX4_point : ByteArray := prog_6_method_6_code
def yX4_point : MethodName := ⟨RX4, "point", "(III)I"⟩
abbrev cX4_take : ByteArray := prog_6_method_7_code
def yX4_take : MethodName := ⟨RX4, "take", "(I)I"⟩
abbrev cX4_across : ByteArray := prog_6_method_8_code
def yX4_across : MethodName := ⟨RX4, "across", "(III)V"⟩
abbrev cX4_above : ByteArray := prog_6_method_9_code
def yX4_above : MethodName := ⟨RX4, "above", "(II)J"⟩
abbrev cX4_common : ByteArray := prog_6_method_10_code
def yX4_common : MethodName := ⟨RX4, "common", "(JJ)J"⟩
abbrev cX4_knownFace : ByteArray := prog_6_method_11_code
def yX4_knownFace : MethodName := ⟨RX4, "knownFace", "(J)Z"⟩
abbrev cX4_tries : ByteArray := prog_6_method_12_code
def yX4_tries : MethodName := ⟨RX4, "tries", "(III)Z"⟩
abbrev cX4_addFace : ByteArray := prog_6_method_13_code
def yX4_addFace : MethodName := ⟨RX4, "addFace", "(J)V"⟩
abbrev cX4_in : ByteArray := prog_6_method_14_code
def yX4_in : MethodName := ⟨RX4, "in", "(II)Z"⟩
abbrev cX4_goesOn : ByteArray := prog_6_method_15_code
def yX4_goesOn : MethodName := ⟨RX4, "goesOn", "(III)Z"⟩
abbrev cX4_behind : ByteArray := prog_6_method_16_code
def yX4_behind : MethodName := ⟨RX4, "behind", "(II)I"⟩
abbrev cX4_walk : ByteArray := prog_6_method_17_code
def yX4_walk : MethodName := ⟨RX4, "walk", "(I)V"⟩
abbrev cX4_earlier : ByteArray := prog_6_method_18_code
def yX4_earlier : MethodName := ⟨RX4, "earlier", "(II)Z"⟩
abbrev cX4_orderFaces : ByteArray := prog_6_method_19_code
def yX4_orderFaces : MethodName := ⟨RX4, "orderFaces", "()V"⟩
abbrev cX4_faceFrom : ByteArray := prog_6_method_20_code
def yX4_faceFrom : MethodName := ⟨RX4, "faceFrom", "(II)I"⟩
abbrev cX4_findEdges : ByteArray := prog_6_method_21_code
def yX4_findEdges : MethodName := ⟨RX4, "findEdges", "()V"⟩
abbrev cX4_solid : ByteArray := prog_6_method_22_code
def yX4_solid : MethodName := ⟨RX4, "solid", "()Z"⟩
abbrev cX4_volumeOf : ByteArray := prog_6_method_23_code
def yX4_volumeOf : MethodName := ⟨RX4, "volumeOf", "(IIII)J"⟩
abbrev cX4_build : ByteArray := prog_6_method_24_code
def yX4_build : MethodName := ⟨RX4, "build", "()I"⟩
abbrev cX4_of : ByteArray := prog_6_method_25_code
def yX4_of : MethodName := ⟨RX4, "of", "(II)I"⟩
abbrev cX4_there : ByteArray := prog_6_method_26_code
def yX4_there : MethodName := ⟨RX4, "there", "(I)Z"⟩
abbrev cX4_face : ByteArray := prog_6_method_27_code
def yX4_face : MethodName := ⟨RX4, "face", "(II)I"⟩
abbrev cX4_offset : ByteArray := prog_6_method_28_code
def yX4_offset : MethodName := ⟨RX4, "offset", "(I)J"⟩
abbrev cX4_corner : ByteArray := prog_6_method_29_code
def yX4_corner : MethodName := ⟨RX4, "corner", "(II)I"⟩
abbrev cX4_edge : ByteArray := prog_6_method_30_code
def yX4_edge : MethodName := ⟨RX4, "edge", "(II)I"⟩
abbrev cX4_isCorner : ByteArray := prog_6_method_31_code
def yX4_isCorner : MethodName := ⟨RX4, "isCorner", "(I)Z"⟩
abbrev cX4_support : ByteArray := prog_6_method_32_code
def yX4_support : MethodName := ⟨RX4, "support", "(III)I"⟩
abbrev cX4_steps : ByteArray := prog_6_method_33_code
def yX4_steps : MethodName := ⟨RX4, "steps", "(II)I"⟩
abbrev cX4_side : ByteArray := prog_6_method_34_code
def yX4_side : MethodName := ⟨RX4, "side", "(III)I"⟩
abbrev cX4_sum : ByteArray := prog_6_method_35_code
def yX4_sum : MethodName := ⟨RX4, "sum", "(I)J"⟩
abbrev cX4_volume : ByteArray := prog_6_method_36_code
def yX4_volume : MethodName := ⟨RX4, "volume", "()J"⟩
abbrev cX4_centre : ByteArray := prog_6_method_37_code
def yX4_centre : MethodName := ⟨RX4, "centre", "(I)J"⟩
abbrev cX4_middle : ByteArray := prog_6_method_38_code
def yX4_middle : MethodName := ⟨RX4, "middle", "(I)D"⟩
abbrev cX4_count : ByteArray := prog_6_method_39_code
def yX4_count : MethodName := ⟨RX4, "count", "(I)I"⟩
def RJ6 : String := "java/lang/Integer"
def TJ6 : u_T := fun k => match k with
  | _ => ("", "", "", false)
def tyJ6 : Nat → FieldType := fun k => match k with
  | _ => .int
abbrev wsJ60 : List Cond := u_ws RJ6 TJ6 0
theorem nmJ6 : ∀ a, a < 0 → ∀ b, b < 0 → a ≠ b → (TJ6 a).2.1 ≠ (TJ6 b).2.1 := by decide +kernel
theorem tyJ6_ok : ∀ k, k < 0 → parseFieldDescriptor (TJ6 k).2.2.1 = some (tyJ6 k) := by decide +kernel
abbrev cJ6_numberOfTrailingZeros_0f7a4 : ByteArray := prog_11_method_48_code
def yJ6_numberOfTrailingZeros_0f7a4 : MethodName := ⟨RJ6, "numberOfTrailingZeros", "(I)I"⟩
abbrev cJ6_bitCount_0f7a4 : ByteArray := prog_11_method_49_code
def yJ6_bitCount_0f7a4 : MethodName := ⟨RJ6, "bitCount", "(I)I"⟩
def RJ0 : String := "java/lang/String"
def TJ0 : u_T := fun k => match k with
  | _ => ("", "", "", false)
def tyJ0 : Nat → FieldType := fun k => match k with
  | _ => .int
abbrev wsJ00 : List Cond := u_ws RJ0 TJ0 0
theorem nmJ0 : ∀ a, a < 0 → ∀ b, b < 0 → a ≠ b → (TJ0 a).2.1 ≠ (TJ0 b).2.1 := by decide +kernel
theorem tyJ0_ok : ∀ k, k < 0 → parseFieldDescriptor (TJ0 k).2.2.1 = some (tyJ0 k) := by decide +kernel
def RJ7 : String := "java/util/Arrays"
def TJ7 : u_T := fun k => match k with
  | _ => ("", "", "", false)
def tyJ7 : Nat → FieldType := fun k => match k with
  | _ => .int
abbrev wsJ70 : List Cond := u_ws RJ7 TJ7 0
theorem nmJ7 : ∀ a, a < 0 → ∀ b, b < 0 → a ≠ b → (TJ7 a).2.1 ≠ (TJ7 b).2.1 := by decide +kernel
theorem tyJ7_ok : ∀ k, k < 0 → parseFieldDescriptor (TJ7 k).2.2.1 = some (tyJ7 k) := by decide +kernel
abbrev cJ7_fill_d0a16 : ByteArray := prog_15_method_101_code
def yJ7_fill_d0a16 : MethodName := ⟨RJ7, "fill", "([JJ)V"⟩
abbrev cJ7_fill_53178 : ByteArray := prog_15_method_103_code
def yJ7_fill_53178 : MethodName := ⟨RJ7, "fill", "([II)V"⟩
def RL : String := "HullBuilderLaw"
abbrev cL_point : ByteArray := method_3_code
def yL_point : MethodName := ⟨RL, "point", "(LHullBuilder;III[J)I"⟩
abbrev cL_take : ByteArray := method_4_code
def yL_take : MethodName := ⟨RL, "take", "(LHullBuilder;I[J)I"⟩
abbrev cL_build : ByteArray := method_5_code
def yL_build : MethodName := ⟨RL, "build", "(LHullBuilder;[J)I"⟩
abbrev cL_of : ByteArray := method_6_code
def yL_of : MethodName := ⟨RL, "of", "(LHullBuilder;II[J)I"⟩
abbrev cL_face : ByteArray := method_7_code
def yL_face : MethodName := ⟨RL, "face", "(LHullBuilder;II[J)I"⟩
abbrev cL_offset : ByteArray := method_8_code
def yL_offset : MethodName := ⟨RL, "offset", "(LHullBuilder;I[J)I"⟩
abbrev cL_corner : ByteArray := method_9_code
def yL_corner : MethodName := ⟨RL, "corner", "(LHullBuilder;II[J)I"⟩
abbrev cL_edge : ByteArray := method_10_code
def yL_edge : MethodName := ⟨RL, "edge", "(LHullBuilder;II[J)I"⟩
abbrev cL_support : ByteArray := method_11_code
def yL_support : MethodName := ⟨RL, "support", "(LHullBuilder;III[J)I"⟩
abbrev cL_steps : ByteArray := method_12_code
def yL_steps : MethodName := ⟨RL, "steps", "(LHullBuilder;II[J)I"⟩
abbrev cL_side : ByteArray := method_13_code
def yL_side : MethodName := ⟨RL, "side", "(LHullBuilder;III[J)I"⟩
abbrev cL_volume : ByteArray := method_14_code
def yL_volume : MethodName := ⟨RL, "volume", "(LHullBuilder;[J)I"⟩
abbrev cL_centre : ByteArray := method_15_code
def yL_centre : MethodName := ⟨RL, "centre", "(LHullBuilder;I[J)I"⟩
abbrev cL_middle : ByteArray := method_16_code
def yL_middle : MethodName := ⟨RL, "middle", "(LHullBuilder;I[D)I"⟩
abbrev cL_count : ByteArray := method_17_code
def yL_count : MethodName := ⟨RL, "count", "(LHullBuilder;I[J)I"⟩
abbrev cL_law : ByteArray := code
def yL_law : MethodName := ⟨RL, "law", "([I)Z"⟩
def wsX0_init : List Cond := .code yX0_init cX0_init 1 none :: ([.methodLink RX0 3 objectInit, .instanceMethod objectInit, .code objectInit ⟨#[0xb1]⟩ 1 none, .arrayClass .int, .fieldLink RX0 9 "HullBuilder$Face" "ring" "[I"] ++ wsX00)
def wsX3_across : List Cond := .code yX3_across cX3_across 5 (some .long) :: ([])
def wsX0_layThrough : List Cond := .code yX0_layThrough cX0_layThrough 5 (some .boolean) :: ([.fieldLink RX0 27 "HullBuilder$Face" "nx" "J", .fieldLink RX0 34 "HullBuilder$Face" "ny" "J", .fieldLink RX0 37 "HullBuilder$Face" "nz" "J", .fieldLink RX0 40 "HullBuilder$Face" "distance" "J", .static yX3_across, .initialized RX3, .code yX3_across cX3_across 5 (some .long)] ++ wsX20 ++ wsX00)
def wsX0_heightOf : List Cond := .code yX0_heightOf cX0_heightOf 7 (some .long) :: ([.fieldLink RX0 27 "HullBuilder$Face" "nx" "J", .fieldLink RX0 34 "HullBuilder$Face" "ny" "J", .fieldLink RX0 37 "HullBuilder$Face" "nz" "J", .fieldLink RX0 40 "HullBuilder$Face" "distance" "J"] ++ wsX00)
def wsX0_holdsAll : List Cond := .code yX0_holdsAll cX0_holdsAll 3 (some .boolean) :: ([.methodLink RX0 47 yX0_heightOf, .instanceMethod yX0_heightOf, .selects RX0 yX0_heightOf yX0_heightOf, .initialized RX0, .code yX0_heightOf cX0_heightOf 7 (some .long), .fieldLink RX0 27 "HullBuilder$Face" "nx" "J", .fieldLink RX0 34 "HullBuilder$Face" "ny" "J", .fieldLink RX0 37 "HullBuilder$Face" "nz" "J", .fieldLink RX0 40 "HullBuilder$Face" "distance" "J"] ++ wsX20 ++ wsX00)
def wsX0_turnOutside : List Cond := .code yX0_turnOutside cX0_turnOutside 7 (some .boolean) :: ([.fieldLink RX0 51 "HullBuilder$Face" "held" "I", .fieldLink RX0 27 "HullBuilder$Face" "nx" "J", .fieldLink RX0 34 "HullBuilder$Face" "ny" "J", .fieldLink RX0 37 "HullBuilder$Face" "nz" "J", .fieldLink RX0 40 "HullBuilder$Face" "distance" "J", .methodLink RX0 47 yX0_heightOf, .instanceMethod yX0_heightOf, .selects RX0 yX0_heightOf yX0_heightOf, .initialized RX0, .code yX0_heightOf cX0_heightOf 7 (some .long)] ++ wsX00 ++ wsX20)
def wsX3_commonFactor : List Cond := .code yX3_commonFactor cX3_commonFactor 7 (some .long) :: ([])
def wsX0_shortenNormal : List Cond := .code yX0_shortenNormal cX0_shortenNormal 3 none :: ([.fieldLink RX0 27 "HullBuilder$Face" "nx" "J", .fieldLink RX0 34 "HullBuilder$Face" "ny" "J", .fieldLink RX0 37 "HullBuilder$Face" "nz" "J", .fieldLink RX0 40 "HullBuilder$Face" "distance" "J", .static yX3_commonFactor, .initialized RX3, .code yX3_commonFactor cX3_commonFactor 7 (some .long)] ++ wsX00)
def wsJ6_numberOfTrailingZeros_0f7a4 : List Cond := .code yJ6_numberOfTrailingZeros_0f7a4 cJ6_numberOfTrailingZeros_0f7a4 2 (some .int) :: ([.constant RJ6 264 (65536)])
def wsJ6_bitCount_0f7a4 : List Cond := .code yJ6_bitCount_0f7a4 cJ6_bitCount_0f7a4 1 (some .int) :: ([.constant RJ6 265 (1431655765), .constant RJ6 266 (858993459), .constant RJ6 267 (252645135)])
def wsX3_holds : List Cond := .code yX3_holds cX3_holds 2 (some .boolean) :: ([])
def wsX0_isRight : List Cond := .code yX0_isRight cX0_isRight 5 (some .boolean) :: ([.fieldLink RX0 27 "HullBuilder$Face" "nx" "J", .fieldLink RX0 34 "HullBuilder$Face" "ny" "J", .fieldLink RX0 37 "HullBuilder$Face" "nz" "J", .static yX3_across, .initialized RX3, .code yX3_across cX3_across 5 (some .long)] ++ wsX00 ++ wsX20)
def wsX0_nextRound : List Cond := .code yX0_nextRound cX0_nextRound 6 (some .int) :: ([.static yX3_holds, .initialized RX3, .code yX3_holds cX3_holds 2 (some .boolean), .methodLink RX0 76 yX0_isRight, .instanceMethod yX0_isRight, .selects RX0 yX0_isRight yX0_isRight, .initialized RX0, .code yX0_isRight cX0_isRight 5 (some .boolean), .fieldLink RX0 27 "HullBuilder$Face" "nx" "J", .fieldLink RX0 34 "HullBuilder$Face" "ny" "J", .fieldLink RX0 37 "HullBuilder$Face" "nz" "J", .static yX3_across, .code yX3_across cX3_across 5 (some .long)] ++ wsX20 ++ wsX00)
def wsX0_goRound_r1 : List Cond := [Cond.fieldLink RX0 51 "HullBuilder$Face" "held" "I", Cond.fieldLink RX0 64 "HullBuilder$Face" "size" "I", Cond.fieldLink RX0 9 "HullBuilder$Face" "ring" "[I", Cond.methodLink RX0 58 yJ6_numberOfTrailingZeros_0f7a4, Cond.static yJ6_numberOfTrailingZeros_0f7a4, Cond.initialized RJ6, Cond.code yJ6_numberOfTrailingZeros_0f7a4 cJ6_numberOfTrailingZeros_0f7a4 2 (some .int), Cond.constant RJ6 264 (65536), Cond.methodLink RX0 65 yJ6_bitCount_0f7a4, Cond.static yJ6_bitCount_0f7a4, Cond.code yJ6_bitCount_0f7a4 cJ6_bitCount_0f7a4 1 (some .int), Cond.constant RJ6 265 (1431655765), Cond.constant RJ6 266 (858993459), Cond.constant RJ6 267 (252645135), Cond.methodLink RX0 68 yX0_nextRound, Cond.instanceMethod yX0_nextRound, Cond.selects RX0 yX0_nextRound yX0_nextRound, Cond.initialized RX0, Cond.code yX0_nextRound cX0_nextRound 6 (some .int), Cond.static yX3_holds, Cond.initialized RX3, Cond.code yX3_holds cX3_holds 2 (some .boolean), Cond.methodLink RX0 76 yX0_isRight, Cond.instanceMethod yX0_isRight]
def wsX0_goRound_r2 : List Cond := [Cond.selects RX0 yX0_isRight yX0_isRight, Cond.code yX0_isRight cX0_isRight 5 (some .boolean), Cond.fieldLink RX0 27 "HullBuilder$Face" "nx" "J", Cond.fieldLink RX0 34 "HullBuilder$Face" "ny" "J", Cond.fieldLink RX0 37 "HullBuilder$Face" "nz" "J", Cond.static yX3_across, Cond.code yX3_across cX3_across 5 (some .long)]
def wsX0_goRound : List Cond := .code yX0_goRound cX0_goRound 6 none :: ((wsX0_goRound_r1 ++ wsX0_goRound_r2) ++ wsX00 ++ wsX20)
def wsX3_way : List Cond := .code yX3_way cX3_way 2 (some .int) :: ([])
def wsX0_rank : List Cond := .code yX0_rank cX0_rank 1 (some .int) :: ([.fieldLink RX0 9 "HullBuilder$Face" "ring" "[I", .static yX3_way, .initialized RX3, .code yX3_way cX3_way 2 (some .int)] ++ wsX00)
def wsX2_init : List Cond := .code yX2_init cX2_init 1 none :: ([.methodLink RX2 3 objectInit, .instanceMethod objectInit, .code objectInit ⟨#[0xb1]⟩ 1 none, .arrayClass .int, .fieldLink RX2 9 "HullBuilder$Points" "xs" "[I", .fieldLink RX2 15 "HullBuilder$Points" "ys" "[I", .fieldLink RX2 18 "HullBuilder$Points" "zs" "[I", .fieldLink RX2 21 "HullBuilder$Points" "size" "I"] ++ wsX20)
def wsX1_init_r1 : List Cond := [Cond.methodLink RX1 3 objectInit, Cond.instanceMethod objectInit, Cond.code objectInit ⟨#[0xb1]⟩ 1 none, Cond.classLink RX1 9 RX2, Cond.instantiable RX2 4, Cond.initialized RX2, Cond.fieldLink RX1 12 "HullBuilder$Hull" "at" "LHullBuilder$Points;", Cond.classLink RX1 18 RX0, Cond.fieldLink RX1 20 "HullBuilder$Hull" "faces" "[LHullBuilder$Face;", Cond.instantiable RX0 7, Cond.initialized RX0, Cond.fieldLink RX1 25 "HullBuilder$Hull" "trial" "LHullBuilder$Face;", Cond.arrayClass .int, Cond.fieldLink RX1 29 "HullBuilder$Hull" "faceAlong" "[I", Cond.fieldLink RX1 33 "HullBuilder$Hull" "edgeLow" "[I", Cond.fieldLink RX1 36 "HullBuilder$Hull" "edgeHigh" "[I", Cond.arrayClass .long, Cond.fieldLink RX1 39 "HullBuilder$Hull" "moments" "[J", Cond.instanceMethod yX2_init, Cond.code yX2_init cX2_init 1 none, Cond.methodLink RX2 3 objectInit, Cond.fieldLink RX2 9 "HullBuilder$Points" "xs" "[I", Cond.fieldLink RX2 15 "HullBuilder$Points" "ys" "[I", Cond.fieldLink RX2 18 "HullBuilder$Points" "zs" "[I"]
def wsX1_init_r2 : List Cond := [Cond.fieldLink RX2 21 "HullBuilder$Points" "size" "I", Cond.instanceMethod yX0_init, Cond.code yX0_init cX0_init 1 none, Cond.methodLink RX0 3 objectInit, Cond.fieldLink RX0 9 "HullBuilder$Face" "ring" "[I"]
def wsX1_init : List Cond := .code yX1_init cX1_init 2 none :: ((wsX1_init_r1 ++ wsX1_init_r2) ++ wsX20 ++ wsX10 ++ wsX00)
def wsX1_wouldBeFlat : List Cond := .code yX1_wouldBeFlat cX1_wouldBeFlat 3 (some .boolean) :: ([.fieldLink RX1 25 "HullBuilder$Hull" "trial" "LHullBuilder$Face;", .instanceMethod yX0_layThrough, .initialized RX0, .selects RX0 yX0_layThrough yX0_layThrough, .code yX0_layThrough cX0_layThrough 5 (some .boolean), .fieldLink RX0 27 "HullBuilder$Face" "nx" "J", .fieldLink RX0 34 "HullBuilder$Face" "ny" "J", .fieldLink RX0 37 "HullBuilder$Face" "nz" "J", .fieldLink RX0 40 "HullBuilder$Face" "distance" "J", .static yX3_across, .initialized RX3, .code yX3_across cX3_across 5 (some .long), .instanceMethod yX0_holdsAll, .selects RX0 yX0_holdsAll yX0_holdsAll, .code yX0_holdsAll cX0_holdsAll 3 (some .boolean), .methodLink RX0 47 yX0_heightOf, .instanceMethod yX0_heightOf, .selects RX0 yX0_heightOf yX0_heightOf, .code yX0_heightOf cX0_heightOf 7 (some .long)] ++ wsX20 ++ wsX10 ++ wsX00)
def wsX2_copyFrom : List Cond := .code yX2_copyFrom cX2_copyFrom 3 none :: ([.fieldLink RX2 21 "HullBuilder$Points" "size" "I", .fieldLink RX2 9 "HullBuilder$Points" "xs" "[I", .fieldLink RX2 15 "HullBuilder$Points" "ys" "[I", .fieldLink RX2 18 "HullBuilder$Points" "zs" "[I"] ++ wsX20)
def wsX1_lieInOneFace : List Cond := .code yX1_lieInOneFace cX1_lieInOneFace 3 (some .boolean) :: ([.fieldLink RX1 65 "HullBuilder$Hull" "faceCount" "I", .fieldLink RX1 20 "HullBuilder$Hull" "faces" "[LHullBuilder$Face;"] ++ wsX10 ++ wsX00)
def wsX1_tryPlane_r1 : List Cond := [Cond.fieldLink RX1 65 "HullBuilder$Hull" "faceCount" "I", Cond.fieldLink RX1 25 "HullBuilder$Hull" "trial" "LHullBuilder$Face;", Cond.fieldLink RX1 12 "HullBuilder$Hull" "at" "LHullBuilder$Points;", Cond.fieldLink RX1 20 "HullBuilder$Hull" "faces" "[LHullBuilder$Face;", Cond.methodLink RX1 88 yX1_lieInOneFace, Cond.instanceMethod yX1_lieInOneFace, Cond.selects RX1 yX1_lieInOneFace yX1_lieInOneFace, Cond.initialized RX1, Cond.code yX1_lieInOneFace cX1_lieInOneFace 3 (some .boolean), Cond.instanceMethod yX0_layThrough, Cond.initialized RX0, Cond.selects RX0 yX0_layThrough yX0_layThrough, Cond.code yX0_layThrough cX0_layThrough 5 (some .boolean), Cond.fieldLink RX0 27 "HullBuilder$Face" "nx" "J", Cond.fieldLink RX0 34 "HullBuilder$Face" "ny" "J", Cond.fieldLink RX0 37 "HullBuilder$Face" "nz" "J", Cond.fieldLink RX0 40 "HullBuilder$Face" "distance" "J", Cond.static yX3_across, Cond.initialized RX3, Cond.code yX3_across cX3_across 5 (some .long), Cond.instanceMethod yX0_turnOutside, Cond.selects RX0 yX0_turnOutside yX0_turnOutside, Cond.code yX0_turnOutside cX0_turnOutside 7 (some .boolean), Cond.fieldLink RX0 51 "HullBuilder$Face" "held" "I"]
def wsX1_tryPlane_r2 : List Cond := [Cond.methodLink RX0 47 yX0_heightOf, Cond.instanceMethod yX0_heightOf, Cond.selects RX0 yX0_heightOf yX0_heightOf, Cond.code yX0_heightOf cX0_heightOf 7 (some .long), Cond.instanceMethod yX0_shortenNormal, Cond.selects RX0 yX0_shortenNormal yX0_shortenNormal, Cond.code yX0_shortenNormal cX0_shortenNormal 3 none, Cond.static yX3_commonFactor, Cond.code yX3_commonFactor cX3_commonFactor 7 (some .long)]
def wsX1_tryPlane : List Cond := .code yX1_tryPlane cX1_tryPlane 5 none :: ((wsX1_tryPlane_r1 ++ wsX1_tryPlane_r2) ++ wsX10 ++ wsX00 ++ wsX20)
def wsX1_findFaces_r1 : List Cond := [Cond.fieldLink RX1 65 "HullBuilder$Hull" "faceCount" "I", Cond.fieldLink RX1 12 "HullBuilder$Hull" "at" "LHullBuilder$Points;", Cond.methodLink RX1 84 yX1_tryPlane, Cond.instanceMethod yX1_tryPlane, Cond.selects RX1 yX1_tryPlane yX1_tryPlane, Cond.initialized RX1, Cond.code yX1_tryPlane cX1_tryPlane 5 none, Cond.fieldLink RX1 25 "HullBuilder$Hull" "trial" "LHullBuilder$Face;", Cond.fieldLink RX1 20 "HullBuilder$Hull" "faces" "[LHullBuilder$Face;", Cond.methodLink RX1 88 yX1_lieInOneFace, Cond.instanceMethod yX1_lieInOneFace, Cond.selects RX1 yX1_lieInOneFace yX1_lieInOneFace, Cond.code yX1_lieInOneFace cX1_lieInOneFace 3 (some .boolean), Cond.instanceMethod yX0_layThrough, Cond.initialized RX0, Cond.selects RX0 yX0_layThrough yX0_layThrough, Cond.code yX0_layThrough cX0_layThrough 5 (some .boolean), Cond.fieldLink RX0 27 "HullBuilder$Face" "nx" "J", Cond.fieldLink RX0 34 "HullBuilder$Face" "ny" "J", Cond.fieldLink RX0 37 "HullBuilder$Face" "nz" "J", Cond.fieldLink RX0 40 "HullBuilder$Face" "distance" "J", Cond.static yX3_across, Cond.initialized RX3, Cond.code yX3_across cX3_across 5 (some .long)]
def wsX1_findFaces_r2 : List Cond := [Cond.instanceMethod yX0_turnOutside, Cond.selects RX0 yX0_turnOutside yX0_turnOutside, Cond.code yX0_turnOutside cX0_turnOutside 7 (some .boolean), Cond.fieldLink RX0 51 "HullBuilder$Face" "held" "I", Cond.methodLink RX0 47 yX0_heightOf, Cond.instanceMethod yX0_heightOf, Cond.selects RX0 yX0_heightOf yX0_heightOf, Cond.code yX0_heightOf cX0_heightOf 7 (some .long), Cond.instanceMethod yX0_shortenNormal, Cond.selects RX0 yX0_shortenNormal yX0_shortenNormal, Cond.code yX0_shortenNormal cX0_shortenNormal 3 none, Cond.static yX3_commonFactor, Cond.code yX3_commonFactor cX3_commonFactor 7 (some .long)]
def wsX1_findFaces : List Cond := .code yX1_findFaces cX1_findFaces 4 none :: ((wsX1_findFaces_r1 ++ wsX1_findFaces_r2) ++ wsX10 ++ wsX20 ++ wsX00)
def wsX1_findCorners : List Cond := .code yX1_findCorners cX1_findCorners 4 none :: ([.fieldLink RX1 68 "HullBuilder$Hull" "corners" "I", .fieldLink RX1 12 "HullBuilder$Hull" "at" "LHullBuilder$Points;", .fieldLink RX1 65 "HullBuilder$Hull" "faceCount" "I", .fieldLink RX1 20 "HullBuilder$Hull" "faces" "[LHullBuilder$Face;", .static yX3_holds, .initialized RX3, .code yX3_holds cX3_holds 2 (some .boolean)] ++ wsX10 ++ wsX20 ++ wsX00)
def wsX1_orderFaces : List Cond := .code yX1_orderFaces cX1_orderFaces 4 none :: ([.fieldLink RX1 65 "HullBuilder$Hull" "faceCount" "I", .fieldLink RX1 20 "HullBuilder$Hull" "faces" "[LHullBuilder$Face;", .instanceMethod yX0_rank, .initialized RX0, .selects RX0 yX0_rank yX0_rank, .code yX0_rank cX0_rank 1 (some .int), .fieldLink RX0 9 "HullBuilder$Face" "ring" "[I", .static yX3_way, .initialized RX3, .code yX3_way cX3_way 2 (some .int)] ++ wsX10 ++ wsX00)
def wsJ7_fill_53178 : List Cond := .code yJ7_fill_53178 cJ7_fill_53178 4 none :: ([])
def wsX1_noteWays : List Cond := .code yX1_noteWays cX1_noteWays 5 none :: ([.fieldLink RX1 29 "HullBuilder$Hull" "faceAlong" "[I", .fieldLink RX1 65 "HullBuilder$Hull" "faceCount" "I", .fieldLink RX1 20 "HullBuilder$Hull" "faces" "[LHullBuilder$Face;", .methodLink RX1 119 yJ7_fill_53178, .static yJ7_fill_53178, .initialized RJ7, .code yJ7_fill_53178 cJ7_fill_53178 4 none, .static yX3_way, .initialized RX3, .code yX3_way cX3_way 2 (some .int)] ++ wsX10 ++ wsX00)
def wsX1_findEdges : List Cond := .code yX1_findEdges cX1_findEdges 3 none :: ([.fieldLink RX1 112 "HullBuilder$Hull" "edgeCount" "I", .fieldLink RX1 12 "HullBuilder$Hull" "at" "LHullBuilder$Points;", .fieldLink RX1 29 "HullBuilder$Hull" "faceAlong" "[I", .fieldLink RX1 33 "HullBuilder$Hull" "edgeLow" "[I", .fieldLink RX1 36 "HullBuilder$Hull" "edgeHigh" "[I", .methodLink RX1 109 yX1_noteWays, .instanceMethod yX1_noteWays, .selects RX1 yX1_noteWays yX1_noteWays, .initialized RX1, .code yX1_noteWays cX1_noteWays 5 none, .fieldLink RX1 65 "HullBuilder$Hull" "faceCount" "I", .fieldLink RX1 20 "HullBuilder$Hull" "faces" "[LHullBuilder$Face;", .methodLink RX1 119 yJ7_fill_53178, .static yJ7_fill_53178, .initialized RJ7, .code yJ7_fill_53178 cJ7_fill_53178 4 none, .static yX3_way, .initialized RX3, .code yX3_way cX3_way 2 (some .int)] ++ wsX10 ++ wsX20 ++ wsX00)
def wsJ7_fill_d0a16 : List Cond := .code yJ7_fill_d0a16 cJ7_fill_d0a16 5 none :: ([])
def wsX1_addTetrahedron : List Cond := .code yX1_addTetrahedron cX1_addTetrahedron 6 none :: ([.fieldLink RX1 12 "HullBuilder$Hull" "at" "LHullBuilder$Points;", .fieldLink RX1 129 "HullBuilder$Hull" "sixVolumes" "J", .fieldLink RX1 39 "HullBuilder$Hull" "moments" "[J"] ++ wsX10 ++ wsX20)
def wsX1_measure : List Cond := .code yX1_measure cX1_measure 4 none :: ([.fieldLink RX1 129 "HullBuilder$Hull" "sixVolumes" "J", .fieldLink RX1 39 "HullBuilder$Hull" "moments" "[J", .fieldLink RX1 65 "HullBuilder$Hull" "faceCount" "I", .fieldLink RX1 20 "HullBuilder$Hull" "faces" "[LHullBuilder$Face;", .methodLink RX1 133 yJ7_fill_d0a16, .static yJ7_fill_d0a16, .initialized RJ7, .code yJ7_fill_d0a16 cJ7_fill_d0a16 5 none, .methodLink RX1 136 yX1_addTetrahedron, .instanceMethod yX1_addTetrahedron, .selects RX1 yX1_addTetrahedron yX1_addTetrahedron, .initialized RX1, .code yX1_addTetrahedron cX1_addTetrahedron 6 none, .fieldLink RX1 12 "HullBuilder$Hull" "at" "LHullBuilder$Points;"] ++ wsX10 ++ wsX00 ++ wsX20)
def wsX1_wrap_r1 : List Cond := [Cond.fieldLink RX1 12 "HullBuilder$Hull" "at" "LHullBuilder$Points;", Cond.fieldLink RX1 65 "HullBuilder$Hull" "faceCount" "I", Cond.fieldLink RX1 20 "HullBuilder$Hull" "faces" "[LHullBuilder$Face;", Cond.fieldLink RX1 68 "HullBuilder$Hull" "corners" "I", Cond.instanceMethod yX2_copyFrom, Cond.initialized RX2, Cond.selects RX2 yX2_copyFrom yX2_copyFrom, Cond.code yX2_copyFrom cX2_copyFrom 3 none, Cond.fieldLink RX2 21 "HullBuilder$Points" "size" "I", Cond.fieldLink RX2 9 "HullBuilder$Points" "xs" "[I", Cond.fieldLink RX2 15 "HullBuilder$Points" "ys" "[I", Cond.fieldLink RX2 18 "HullBuilder$Points" "zs" "[I", Cond.methodLink RX1 59 yX1_findFaces, Cond.instanceMethod yX1_findFaces, Cond.selects RX1 yX1_findFaces yX1_findFaces, Cond.initialized RX1, Cond.code yX1_findFaces cX1_findFaces 4 none, Cond.methodLink RX1 84 yX1_tryPlane, Cond.instanceMethod yX1_tryPlane, Cond.selects RX1 yX1_tryPlane yX1_tryPlane, Cond.code yX1_tryPlane cX1_tryPlane 5 none, Cond.fieldLink RX1 25 "HullBuilder$Hull" "trial" "LHullBuilder$Face;", Cond.methodLink RX1 88 yX1_lieInOneFace, Cond.instanceMethod yX1_lieInOneFace]
def wsX1_wrap_r2 : List Cond := [Cond.selects RX1 yX1_lieInOneFace yX1_lieInOneFace, Cond.code yX1_lieInOneFace cX1_lieInOneFace 3 (some .boolean), Cond.instanceMethod yX0_layThrough, Cond.initialized RX0, Cond.selects RX0 yX0_layThrough yX0_layThrough, Cond.code yX0_layThrough cX0_layThrough 5 (some .boolean), Cond.fieldLink RX0 27 "HullBuilder$Face" "nx" "J", Cond.fieldLink RX0 34 "HullBuilder$Face" "ny" "J", Cond.fieldLink RX0 37 "HullBuilder$Face" "nz" "J", Cond.fieldLink RX0 40 "HullBuilder$Face" "distance" "J", Cond.static yX3_across, Cond.initialized RX3, Cond.code yX3_across cX3_across 5 (some .long), Cond.instanceMethod yX0_turnOutside, Cond.selects RX0 yX0_turnOutside yX0_turnOutside, Cond.code yX0_turnOutside cX0_turnOutside 7 (some .boolean), Cond.fieldLink RX0 51 "HullBuilder$Face" "held" "I", Cond.methodLink RX0 47 yX0_heightOf, Cond.instanceMethod yX0_heightOf, Cond.selects RX0 yX0_heightOf yX0_heightOf, Cond.code yX0_heightOf cX0_heightOf 7 (some .long), Cond.instanceMethod yX0_shortenNormal, Cond.selects RX0 yX0_shortenNormal yX0_shortenNormal, Cond.code yX0_shortenNormal cX0_shortenNormal 3 none]
def wsX1_wrap_r3 : List Cond := [Cond.static yX3_commonFactor, Cond.code yX3_commonFactor cX3_commonFactor 7 (some .long), Cond.methodLink RX1 62 yX1_findCorners, Cond.instanceMethod yX1_findCorners, Cond.selects RX1 yX1_findCorners yX1_findCorners, Cond.code yX1_findCorners cX1_findCorners 4 none, Cond.static yX3_holds, Cond.code yX3_holds cX3_holds 2 (some .boolean), Cond.instanceMethod yX0_goRound, Cond.selects RX0 yX0_goRound yX0_goRound, Cond.code yX0_goRound cX0_goRound 6 none, Cond.fieldLink RX0 64 "HullBuilder$Face" "size" "I", Cond.fieldLink RX0 9 "HullBuilder$Face" "ring" "[I", Cond.methodLink RX0 58 yJ6_numberOfTrailingZeros_0f7a4, Cond.static yJ6_numberOfTrailingZeros_0f7a4, Cond.initialized RJ6, Cond.code yJ6_numberOfTrailingZeros_0f7a4 cJ6_numberOfTrailingZeros_0f7a4 2 (some .int), Cond.constant RJ6 264 (65536), Cond.methodLink RX0 65 yJ6_bitCount_0f7a4, Cond.static yJ6_bitCount_0f7a4, Cond.code yJ6_bitCount_0f7a4 cJ6_bitCount_0f7a4 1 (some .int), Cond.constant RJ6 265 (1431655765), Cond.constant RJ6 266 (858993459), Cond.constant RJ6 267 (252645135)]
def wsX1_wrap_r4 : List Cond := [Cond.methodLink RX0 68 yX0_nextRound, Cond.instanceMethod yX0_nextRound, Cond.selects RX0 yX0_nextRound yX0_nextRound, Cond.code yX0_nextRound cX0_nextRound 6 (some .int), Cond.methodLink RX0 76 yX0_isRight, Cond.instanceMethod yX0_isRight, Cond.selects RX0 yX0_isRight yX0_isRight, Cond.code yX0_isRight cX0_isRight 5 (some .boolean), Cond.methodLink RX1 75 yX1_orderFaces, Cond.instanceMethod yX1_orderFaces, Cond.selects RX1 yX1_orderFaces yX1_orderFaces, Cond.code yX1_orderFaces cX1_orderFaces 4 none, Cond.instanceMethod yX0_rank, Cond.selects RX0 yX0_rank yX0_rank, Cond.code yX0_rank cX0_rank 1 (some .int), Cond.static yX3_way, Cond.code yX3_way cX3_way 2 (some .int), Cond.methodLink RX1 78 yX1_findEdges, Cond.instanceMethod yX1_findEdges, Cond.selects RX1 yX1_findEdges yX1_findEdges, Cond.code yX1_findEdges cX1_findEdges 3 none, Cond.fieldLink RX1 112 "HullBuilder$Hull" "edgeCount" "I", Cond.fieldLink RX1 29 "HullBuilder$Hull" "faceAlong" "[I", Cond.fieldLink RX1 33 "HullBuilder$Hull" "edgeLow" "[I"]
def wsX1_wrap_r5 : List Cond := [Cond.fieldLink RX1 36 "HullBuilder$Hull" "edgeHigh" "[I", Cond.methodLink RX1 109 yX1_noteWays, Cond.instanceMethod yX1_noteWays, Cond.selects RX1 yX1_noteWays yX1_noteWays, Cond.code yX1_noteWays cX1_noteWays 5 none, Cond.methodLink RX1 119 yJ7_fill_53178, Cond.static yJ7_fill_53178, Cond.initialized RJ7, Cond.code yJ7_fill_53178 cJ7_fill_53178 4 none, Cond.methodLink RX1 81 yX1_measure, Cond.instanceMethod yX1_measure, Cond.selects RX1 yX1_measure yX1_measure, Cond.code yX1_measure cX1_measure 4 none, Cond.fieldLink RX1 129 "HullBuilder$Hull" "sixVolumes" "J", Cond.fieldLink RX1 39 "HullBuilder$Hull" "moments" "[J", Cond.methodLink RX1 133 yJ7_fill_d0a16, Cond.static yJ7_fill_d0a16, Cond.code yJ7_fill_d0a16 cJ7_fill_d0a16 5 none, Cond.methodLink RX1 136 yX1_addTetrahedron, Cond.instanceMethod yX1_addTetrahedron, Cond.selects RX1 yX1_addTetrahedron yX1_addTetrahedron, Cond.code yX1_addTetrahedron cX1_addTetrahedron 6 none]
def wsX1_wrap : List Cond := .code yX1_wrap cX1_wrap 3 none :: ((wsX1_wrap_r1 ++ (wsX1_wrap_r2 ++ (wsX1_wrap_r3 ++ (wsX1_wrap_r4 ++ wsX1_wrap_r5)))) ++ wsX10 ++ wsX20 ++ wsX00)
def wsX1_furthest : List Cond := .code yX1_furthest cX1_furthest 13 (some .int) :: ([.fieldLink RX1 12 "HullBuilder$Hull" "at" "LHullBuilder$Points;", .fieldLink RX1 68 "HullBuilder$Hull" "corners" "I", .static yX3_holds, .initialized RX3, .code yX3_holds cX3_holds 2 (some .boolean)] ++ wsX10 ++ wsX20)
def wsX1_stepFrom : List Cond := .code yX1_stepFrom cX1_stepFrom 5 (some .int) :: ([.fieldLink RX1 112 "HullBuilder$Hull" "edgeCount" "I", .fieldLink RX1 33 "HullBuilder$Hull" "edgeLow" "[I", .fieldLink RX1 36 "HullBuilder$Hull" "edgeHigh" "[I"] ++ wsX10)
def wsX1_walk : List Cond := .code yX1_walk cX1_walk 5 (some .int) :: ([.static yX3_holds, .initialized RX3, .code yX3_holds cX3_holds 2 (some .boolean), .methodLink RX1 148 yX1_stepFrom, .instanceMethod yX1_stepFrom, .selects RX1 yX1_stepFrom yX1_stepFrom, .initialized RX1, .code yX1_stepFrom cX1_stepFrom 5 (some .int), .fieldLink RX1 112 "HullBuilder$Hull" "edgeCount" "I", .fieldLink RX1 33 "HullBuilder$Hull" "edgeLow" "[I", .fieldLink RX1 36 "HullBuilder$Hull" "edgeHigh" "[I"] ++ wsX10)
def wsX1_locate : List Cond := .code yX1_locate cX1_locate 8 (some .int) :: ([.fieldLink RX1 65 "HullBuilder$Hull" "faceCount" "I", .fieldLink RX1 20 "HullBuilder$Hull" "faces" "[LHullBuilder$Face;", .instanceMethod yX0_heightOf, .initialized RX0, .selects RX0 yX0_heightOf yX0_heightOf, .code yX0_heightOf cX0_heightOf 7 (some .long), .fieldLink RX0 27 "HullBuilder$Face" "nx" "J", .fieldLink RX0 34 "HullBuilder$Face" "ny" "J", .fieldLink RX0 37 "HullBuilder$Face" "nz" "J", .fieldLink RX0 40 "HullBuilder$Face" "distance" "J"] ++ wsX10 ++ wsX00)
def wsX2_isTaken : List Cond := .code yX2_isTaken cX2_isTaken 5 (some .boolean) :: ([.fieldLink RX2 21 "HullBuilder$Points" "size" "I", .fieldLink RX2 9 "HullBuilder$Points" "xs" "[I", .fieldLink RX2 15 "HullBuilder$Points" "ys" "[I", .fieldLink RX2 18 "HullBuilder$Points" "zs" "[I"] ++ wsX20)
def wsX2_append : List Cond := .code yX2_append cX2_append 4 (some .int) :: ([.fieldLink RX2 21 "HullBuilder$Points" "size" "I", .fieldLink RX2 9 "HullBuilder$Points" "xs" "[I", .fieldLink RX2 15 "HullBuilder$Points" "ys" "[I", .fieldLink RX2 18 "HullBuilder$Points" "zs" "[I"] ++ wsX20)
def wsX2_remove : List Cond := .code yX2_remove cX2_remove 3 none :: ([.fieldLink RX2 21 "HullBuilder$Points" "size" "I", .fieldLink RX2 9 "HullBuilder$Points" "xs" "[I", .fieldLink RX2 15 "HullBuilder$Points" "ys" "[I", .fieldLink RX2 18 "HullBuilder$Points" "zs" "[I"] ++ wsX20)
def wsX2_coordinate : List Cond := .code yX2_coordinate cX2_coordinate 3 (some .int) :: ([.fieldLink RX2 9 "HullBuilder$Points" "xs" "[I", .fieldLink RX2 15 "HullBuilder$Points" "ys" "[I", .fieldLink RX2 18 "HullBuilder$Points" "zs" "[I"] ++ wsX20)
def wsX3_init_r1 : List Cond := [Cond.methodLink RX3 3 objectInit, Cond.instanceMethod objectInit, Cond.code objectInit ⟨#[0xb1]⟩ 1 none, Cond.classLink RX3 9 RX2, Cond.instantiable RX2 4, Cond.initialized RX2, Cond.fieldLink RX3 12 "HullBuilder" "points" "LHullBuilder$Points;", Cond.classLink RX3 16 RX1, Cond.instantiable RX1 11, Cond.initialized RX1, Cond.fieldLink RX3 19 "HullBuilder" "hull" "LHullBuilder$Hull;", Cond.fieldLink RX3 23 "HullBuilder" "hullsBuilt" "I", Cond.instanceMethod yX2_init, Cond.code yX2_init cX2_init 1 none, Cond.methodLink RX2 3 objectInit, Cond.arrayClass .int, Cond.fieldLink RX2 9 "HullBuilder$Points" "xs" "[I", Cond.fieldLink RX2 15 "HullBuilder$Points" "ys" "[I", Cond.fieldLink RX2 18 "HullBuilder$Points" "zs" "[I", Cond.fieldLink RX2 21 "HullBuilder$Points" "size" "I", Cond.instanceMethod yX1_init, Cond.code yX1_init cX1_init 2 none, Cond.methodLink RX1 3 objectInit, Cond.classLink RX1 9 RX2]
def wsX3_init_r2 : List Cond := [Cond.fieldLink RX1 12 "HullBuilder$Hull" "at" "LHullBuilder$Points;", Cond.classLink RX1 18 RX0, Cond.fieldLink RX1 20 "HullBuilder$Hull" "faces" "[LHullBuilder$Face;", Cond.instantiable RX0 7, Cond.initialized RX0, Cond.fieldLink RX1 25 "HullBuilder$Hull" "trial" "LHullBuilder$Face;", Cond.fieldLink RX1 29 "HullBuilder$Hull" "faceAlong" "[I", Cond.fieldLink RX1 33 "HullBuilder$Hull" "edgeLow" "[I", Cond.fieldLink RX1 36 "HullBuilder$Hull" "edgeHigh" "[I", Cond.arrayClass .long, Cond.fieldLink RX1 39 "HullBuilder$Hull" "moments" "[J", Cond.instanceMethod yX0_init, Cond.code yX0_init cX0_init 1 none, Cond.methodLink RX0 3 objectInit, Cond.fieldLink RX0 9 "HullBuilder$Face" "ring" "[I"]
def wsX3_init : List Cond := .code yX3_init cX3_init 1 none :: ((wsX3_init_r1 ++ wsX3_init_r2) ++ wsX20 ++ wsX30 ++ wsX10 ++ wsX00)
def wsX3_isWithin : List Cond := .code yX3_isWithin cX3_isWithin 2 (some .boolean) :: ([])
def wsX3_requireReach : List Cond := .code yX3_requireReach cX3_requireReach 4 none :: ([.classLink RX3 35 "java/lang/IllegalArgumentException", .initialized "java/lang/IllegalArgumentException", .methodLink RX3 168 yX3_isWithin, .static yX3_isWithin, .initialized RX3, .code yX3_isWithin cX3_isWithin 2 (some .boolean)] ++ (vx_atS RX3 39 "java/lang/IllegalArgumentException" ["java/lang/RuntimeException", "java/lang/Exception"]).filter goodWord)
def wsX3_point : List Cond := .code yX3_point cX3_point 4 (some .int) :: ([.classLink RX3 35 "java/lang/IllegalArgumentException", .initialized "java/lang/IllegalArgumentException", .classLink RX3 45 "java/lang/IllegalStateException", .initialized "java/lang/IllegalStateException", .fieldLink RX3 12 "HullBuilder" "points" "LHullBuilder$Points;", .methodLink RX3 27 yX3_requireReach, .static yX3_requireReach, .initialized RX3, .code yX3_requireReach cX3_requireReach 4 none, .methodLink RX3 168 yX3_isWithin, .static yX3_isWithin, .code yX3_isWithin cX3_isWithin 2 (some .boolean), .instanceMethod yX2_isTaken, .initialized RX2, .selects RX2 yX2_isTaken yX2_isTaken, .code yX2_isTaken cX2_isTaken 5 (some .boolean), .fieldLink RX2 21 "HullBuilder$Points" "size" "I", .fieldLink RX2 9 "HullBuilder$Points" "xs" "[I", .fieldLink RX2 15 "HullBuilder$Points" "ys" "[I", .fieldLink RX2 18 "HullBuilder$Points" "zs" "[I", .instanceMethod yX2_append, .selects RX2 yX2_append yX2_append, .code yX2_append cX2_append 4 (some .int)] ++ wsX30 ++ wsX20 ++ (vx_atS RX3 39 "java/lang/IllegalArgumentException" ["java/lang/RuntimeException", "java/lang/Exception"]).filter goodWord ++ (vx_atS RX3 49 "java/lang/IllegalStateException" ["java/lang/RuntimeException", "java/lang/Exception"]).filter goodWord)
def wsX3_requirePlace : List Cond := .code yX3_requirePlace cX3_requirePlace 2 none :: ([.classLink RX3 153 "java/lang/IndexOutOfBoundsException", .initialized "java/lang/IndexOutOfBoundsException"] ++ (vx_atS RX3 157 "java/lang/IndexOutOfBoundsException" ["java/lang/RuntimeException", "java/lang/Exception"]).filter goodWord)
def wsX3_take : List Cond := .code yX3_take cX3_take 2 (some .int) :: ([.fieldLink RX3 12 "HullBuilder" "points" "LHullBuilder$Points;", .methodLink RX3 54 yX3_requirePlace, .static yX3_requirePlace, .initialized RX3, .code yX3_requirePlace cX3_requirePlace 2 none, .classLink RX3 153 "java/lang/IndexOutOfBoundsException", .initialized "java/lang/IndexOutOfBoundsException", .instanceMethod yX2_remove, .initialized RX2, .selects RX2 yX2_remove yX2_remove, .code yX2_remove cX2_remove 3 none, .fieldLink RX2 21 "HullBuilder$Points" "size" "I", .fieldLink RX2 9 "HullBuilder$Points" "xs" "[I", .fieldLink RX2 15 "HullBuilder$Points" "ys" "[I", .fieldLink RX2 18 "HullBuilder$Points" "zs" "[I"] ++ wsX30 ++ wsX20 ++ (vx_atS RX3 157 "java/lang/IndexOutOfBoundsException" ["java/lang/RuntimeException", "java/lang/Exception"]).filter goodWord)
def wsX3_build_r1 : List Cond := [Cond.classLink RX3 45 "java/lang/IllegalStateException", Cond.initialized "java/lang/IllegalStateException", Cond.fieldLink RX3 19 "HullBuilder" "hull" "LHullBuilder$Hull;", Cond.fieldLink RX3 12 "HullBuilder" "points" "LHullBuilder$Points;", Cond.fieldLink RX3 23 "HullBuilder" "hullsBuilt" "I", Cond.instanceMethod yX1_wouldBeFlat, Cond.initialized RX1, Cond.selects RX1 yX1_wouldBeFlat yX1_wouldBeFlat, Cond.code yX1_wouldBeFlat cX1_wouldBeFlat 3 (some .boolean), Cond.fieldLink RX1 25 "HullBuilder$Hull" "trial" "LHullBuilder$Face;", Cond.instanceMethod yX0_layThrough, Cond.initialized RX0, Cond.selects RX0 yX0_layThrough yX0_layThrough, Cond.code yX0_layThrough cX0_layThrough 5 (some .boolean), Cond.fieldLink RX0 27 "HullBuilder$Face" "nx" "J", Cond.fieldLink RX0 34 "HullBuilder$Face" "ny" "J", Cond.fieldLink RX0 37 "HullBuilder$Face" "nz" "J", Cond.fieldLink RX0 40 "HullBuilder$Face" "distance" "J", Cond.static yX3_across, Cond.initialized RX3, Cond.code yX3_across cX3_across 5 (some .long), Cond.instanceMethod yX0_holdsAll, Cond.selects RX0 yX0_holdsAll yX0_holdsAll, Cond.code yX0_holdsAll cX0_holdsAll 3 (some .boolean)]
def wsX3_build_r2 : List Cond := [Cond.methodLink RX0 47 yX0_heightOf, Cond.instanceMethod yX0_heightOf, Cond.selects RX0 yX0_heightOf yX0_heightOf, Cond.code yX0_heightOf cX0_heightOf 7 (some .long), Cond.instanceMethod yX1_wrap, Cond.selects RX1 yX1_wrap yX1_wrap, Cond.code yX1_wrap cX1_wrap 3 none, Cond.fieldLink RX1 12 "HullBuilder$Hull" "at" "LHullBuilder$Points;", Cond.fieldLink RX1 65 "HullBuilder$Hull" "faceCount" "I", Cond.fieldLink RX1 20 "HullBuilder$Hull" "faces" "[LHullBuilder$Face;", Cond.fieldLink RX1 68 "HullBuilder$Hull" "corners" "I", Cond.instanceMethod yX2_copyFrom, Cond.initialized RX2, Cond.selects RX2 yX2_copyFrom yX2_copyFrom, Cond.code yX2_copyFrom cX2_copyFrom 3 none, Cond.fieldLink RX2 21 "HullBuilder$Points" "size" "I", Cond.fieldLink RX2 9 "HullBuilder$Points" "xs" "[I", Cond.fieldLink RX2 15 "HullBuilder$Points" "ys" "[I", Cond.fieldLink RX2 18 "HullBuilder$Points" "zs" "[I", Cond.methodLink RX1 59 yX1_findFaces, Cond.instanceMethod yX1_findFaces, Cond.selects RX1 yX1_findFaces yX1_findFaces, Cond.code yX1_findFaces cX1_findFaces 4 none, Cond.methodLink RX1 84 yX1_tryPlane]
def wsX3_build_r3 : List Cond := [Cond.instanceMethod yX1_tryPlane, Cond.selects RX1 yX1_tryPlane yX1_tryPlane, Cond.code yX1_tryPlane cX1_tryPlane 5 none, Cond.methodLink RX1 88 yX1_lieInOneFace, Cond.instanceMethod yX1_lieInOneFace, Cond.selects RX1 yX1_lieInOneFace yX1_lieInOneFace, Cond.code yX1_lieInOneFace cX1_lieInOneFace 3 (some .boolean), Cond.instanceMethod yX0_turnOutside, Cond.selects RX0 yX0_turnOutside yX0_turnOutside, Cond.code yX0_turnOutside cX0_turnOutside 7 (some .boolean), Cond.fieldLink RX0 51 "HullBuilder$Face" "held" "I", Cond.instanceMethod yX0_shortenNormal, Cond.selects RX0 yX0_shortenNormal yX0_shortenNormal, Cond.code yX0_shortenNormal cX0_shortenNormal 3 none, Cond.static yX3_commonFactor, Cond.code yX3_commonFactor cX3_commonFactor 7 (some .long), Cond.methodLink RX1 62 yX1_findCorners, Cond.instanceMethod yX1_findCorners, Cond.selects RX1 yX1_findCorners yX1_findCorners, Cond.code yX1_findCorners cX1_findCorners 4 none, Cond.static yX3_holds, Cond.code yX3_holds cX3_holds 2 (some .boolean), Cond.instanceMethod yX0_goRound, Cond.selects RX0 yX0_goRound yX0_goRound]
def wsX3_build_r4 : List Cond := [Cond.code yX0_goRound cX0_goRound 6 none, Cond.fieldLink RX0 64 "HullBuilder$Face" "size" "I", Cond.fieldLink RX0 9 "HullBuilder$Face" "ring" "[I", Cond.methodLink RX0 58 yJ6_numberOfTrailingZeros_0f7a4, Cond.static yJ6_numberOfTrailingZeros_0f7a4, Cond.initialized RJ6, Cond.code yJ6_numberOfTrailingZeros_0f7a4 cJ6_numberOfTrailingZeros_0f7a4 2 (some .int), Cond.constant RJ6 264 (65536), Cond.methodLink RX0 65 yJ6_bitCount_0f7a4, Cond.static yJ6_bitCount_0f7a4, Cond.code yJ6_bitCount_0f7a4 cJ6_bitCount_0f7a4 1 (some .int), Cond.constant RJ6 265 (1431655765), Cond.constant RJ6 266 (858993459), Cond.constant RJ6 267 (252645135), Cond.methodLink RX0 68 yX0_nextRound, Cond.instanceMethod yX0_nextRound, Cond.selects RX0 yX0_nextRound yX0_nextRound, Cond.code yX0_nextRound cX0_nextRound 6 (some .int), Cond.methodLink RX0 76 yX0_isRight, Cond.instanceMethod yX0_isRight, Cond.selects RX0 yX0_isRight yX0_isRight, Cond.code yX0_isRight cX0_isRight 5 (some .boolean), Cond.methodLink RX1 75 yX1_orderFaces, Cond.instanceMethod yX1_orderFaces]
def wsX3_build_r5 : List Cond := [Cond.selects RX1 yX1_orderFaces yX1_orderFaces, Cond.code yX1_orderFaces cX1_orderFaces 4 none, Cond.instanceMethod yX0_rank, Cond.selects RX0 yX0_rank yX0_rank, Cond.code yX0_rank cX0_rank 1 (some .int), Cond.static yX3_way, Cond.code yX3_way cX3_way 2 (some .int), Cond.methodLink RX1 78 yX1_findEdges, Cond.instanceMethod yX1_findEdges, Cond.selects RX1 yX1_findEdges yX1_findEdges, Cond.code yX1_findEdges cX1_findEdges 3 none, Cond.fieldLink RX1 112 "HullBuilder$Hull" "edgeCount" "I", Cond.fieldLink RX1 29 "HullBuilder$Hull" "faceAlong" "[I", Cond.fieldLink RX1 33 "HullBuilder$Hull" "edgeLow" "[I", Cond.fieldLink RX1 36 "HullBuilder$Hull" "edgeHigh" "[I", Cond.methodLink RX1 109 yX1_noteWays, Cond.instanceMethod yX1_noteWays, Cond.selects RX1 yX1_noteWays yX1_noteWays, Cond.code yX1_noteWays cX1_noteWays 5 none, Cond.methodLink RX1 119 yJ7_fill_53178, Cond.static yJ7_fill_53178, Cond.initialized RJ7, Cond.code yJ7_fill_53178 cJ7_fill_53178 4 none, Cond.methodLink RX1 81 yX1_measure]
def wsX3_build_r6 : List Cond := [Cond.instanceMethod yX1_measure, Cond.selects RX1 yX1_measure yX1_measure, Cond.code yX1_measure cX1_measure 4 none, Cond.fieldLink RX1 129 "HullBuilder$Hull" "sixVolumes" "J", Cond.fieldLink RX1 39 "HullBuilder$Hull" "moments" "[J", Cond.methodLink RX1 133 yJ7_fill_d0a16, Cond.static yJ7_fill_d0a16, Cond.code yJ7_fill_d0a16 cJ7_fill_d0a16 5 none, Cond.methodLink RX1 136 yX1_addTetrahedron, Cond.instanceMethod yX1_addTetrahedron, Cond.selects RX1 yX1_addTetrahedron yX1_addTetrahedron, Cond.code yX1_addTetrahedron cX1_addTetrahedron 6 none]
def wsX3_build : List Cond := .code yX3_build cX3_build 1 (some .int) :: ((wsX3_build_r1 ++ (wsX3_build_r2 ++ (wsX3_build_r3 ++ (wsX3_build_r4 ++ (wsX3_build_r5 ++ wsX3_build_r6))))) ++ wsX30 ++ wsX10 ++ wsX20 ++ wsX00 ++ (vx_atS RX3 49 "java/lang/IllegalStateException" ["java/lang/RuntimeException", "java/lang/Exception"]).filter goodWord)
def wsX3_of : List Cond := .code yX3_of cX3_of 3 (some .int) :: ([.fieldLink RX3 12 "HullBuilder" "points" "LHullBuilder$Points;", .methodLink RX3 54 yX3_requirePlace, .static yX3_requirePlace, .initialized RX3, .code yX3_requirePlace cX3_requirePlace 2 none, .classLink RX3 153 "java/lang/IndexOutOfBoundsException", .initialized "java/lang/IndexOutOfBoundsException", .instanceMethod yX2_coordinate, .initialized RX2, .selects RX2 yX2_coordinate yX2_coordinate, .code yX2_coordinate cX2_coordinate 3 (some .int), .fieldLink RX2 9 "HullBuilder$Points" "xs" "[I", .fieldLink RX2 15 "HullBuilder$Points" "ys" "[I", .fieldLink RX2 18 "HullBuilder$Points" "zs" "[I"] ++ wsX30 ++ wsX20 ++ (vx_atS RX3 157 "java/lang/IndexOutOfBoundsException" ["java/lang/RuntimeException", "java/lang/Exception"]).filter goodWord)
def wsX3_requireHull : List Cond := .code yX3_requireHull cX3_requireHull 1 none :: ([.classLink RX3 45 "java/lang/IllegalStateException", .initialized "java/lang/IllegalStateException", .fieldLink RX3 19 "HullBuilder" "hull" "LHullBuilder$Hull;"] ++ wsX30 ++ wsX10 ++ (vx_atS RX3 49 "java/lang/IllegalStateException" ["java/lang/RuntimeException", "java/lang/Exception"]).filter goodWord)
def wsX3_face : List Cond := .code yX3_face cX3_face 4 (some .int) :: ([.fieldLink RX3 19 "HullBuilder" "hull" "LHullBuilder$Hull;", .methodLink RX3 79 yX3_requireHull, .instanceMethod yX3_requireHull, .selects RX3 yX3_requireHull yX3_requireHull, .initialized RX3, .code yX3_requireHull cX3_requireHull 1 none, .classLink RX3 45 "java/lang/IllegalStateException", .initialized "java/lang/IllegalStateException", .methodLink RX3 54 yX3_requirePlace, .static yX3_requirePlace, .code yX3_requirePlace cX3_requirePlace 2 none, .classLink RX3 153 "java/lang/IndexOutOfBoundsException", .initialized "java/lang/IndexOutOfBoundsException"] ++ wsX30 ++ wsX10 ++ wsX00 ++ (vx_atS RX3 49 "java/lang/IllegalStateException" ["java/lang/RuntimeException", "java/lang/Exception"]).filter goodWord ++ (vx_atS RX3 157 "java/lang/IndexOutOfBoundsException" ["java/lang/RuntimeException", "java/lang/Exception"]).filter goodWord)
def wsX3_offset : List Cond := .code yX3_offset cX3_offset 2 (some .long) :: ([.fieldLink RX3 19 "HullBuilder" "hull" "LHullBuilder$Hull;", .methodLink RX3 79 yX3_requireHull, .instanceMethod yX3_requireHull, .selects RX3 yX3_requireHull yX3_requireHull, .initialized RX3, .code yX3_requireHull cX3_requireHull 1 none, .classLink RX3 45 "java/lang/IllegalStateException", .initialized "java/lang/IllegalStateException", .methodLink RX3 54 yX3_requirePlace, .static yX3_requirePlace, .code yX3_requirePlace cX3_requirePlace 2 none, .classLink RX3 153 "java/lang/IndexOutOfBoundsException", .initialized "java/lang/IndexOutOfBoundsException"] ++ wsX30 ++ wsX10 ++ wsX00 ++ (vx_atS RX3 49 "java/lang/IllegalStateException" ["java/lang/RuntimeException", "java/lang/Exception"]).filter goodWord ++ (vx_atS RX3 157 "java/lang/IndexOutOfBoundsException" ["java/lang/RuntimeException", "java/lang/Exception"]).filter goodWord)
def wsX3_corner : List Cond := .code yX3_corner cX3_corner 3 (some .int) :: ([.fieldLink RX3 19 "HullBuilder" "hull" "LHullBuilder$Hull;", .methodLink RX3 79 yX3_requireHull, .instanceMethod yX3_requireHull, .selects RX3 yX3_requireHull yX3_requireHull, .initialized RX3, .code yX3_requireHull cX3_requireHull 1 none, .classLink RX3 45 "java/lang/IllegalStateException", .initialized "java/lang/IllegalStateException", .methodLink RX3 54 yX3_requirePlace, .static yX3_requirePlace, .code yX3_requirePlace cX3_requirePlace 2 none, .classLink RX3 153 "java/lang/IndexOutOfBoundsException", .initialized "java/lang/IndexOutOfBoundsException"] ++ wsX30 ++ wsX10 ++ wsX00 ++ (vx_atS RX3 49 "java/lang/IllegalStateException" ["java/lang/RuntimeException", "java/lang/Exception"]).filter goodWord ++ (vx_atS RX3 157 "java/lang/IndexOutOfBoundsException" ["java/lang/RuntimeException", "java/lang/Exception"]).filter goodWord)
def wsX3_edge : List Cond := .code yX3_edge cX3_edge 5 (some .int) :: ([.fieldLink RX3 19 "HullBuilder" "hull" "LHullBuilder$Hull;", .methodLink RX3 79 yX3_requireHull, .instanceMethod yX3_requireHull, .selects RX3 yX3_requireHull yX3_requireHull, .initialized RX3, .code yX3_requireHull cX3_requireHull 1 none, .classLink RX3 45 "java/lang/IllegalStateException", .initialized "java/lang/IllegalStateException", .methodLink RX3 54 yX3_requirePlace, .static yX3_requirePlace, .code yX3_requirePlace cX3_requirePlace 2 none, .classLink RX3 153 "java/lang/IndexOutOfBoundsException", .initialized "java/lang/IndexOutOfBoundsException", .methodLink RX3 118 yX3_way, .static yX3_way, .code yX3_way cX3_way 2 (some .int)] ++ wsX30 ++ wsX10 ++ (vx_atS RX3 49 "java/lang/IllegalStateException" ["java/lang/RuntimeException", "java/lang/Exception"]).filter goodWord ++ (vx_atS RX3 157 "java/lang/IndexOutOfBoundsException" ["java/lang/RuntimeException", "java/lang/Exception"]).filter goodWord)
def wsX3_support_r1 : List Cond := [Cond.constant RX3 121 (65536), Cond.fieldLink RX3 19 "HullBuilder" "hull" "LHullBuilder$Hull;", Cond.methodLink RX3 79 yX3_requireHull, Cond.instanceMethod yX3_requireHull, Cond.selects RX3 yX3_requireHull yX3_requireHull, Cond.initialized RX3, Cond.code yX3_requireHull cX3_requireHull 1 none, Cond.classLink RX3 45 "java/lang/IllegalStateException", Cond.initialized "java/lang/IllegalStateException", Cond.methodLink RX3 27 yX3_requireReach, Cond.static yX3_requireReach, Cond.code yX3_requireReach cX3_requireReach 4 none, Cond.classLink RX3 35 "java/lang/IllegalArgumentException", Cond.initialized "java/lang/IllegalArgumentException", Cond.methodLink RX3 168 yX3_isWithin, Cond.static yX3_isWithin, Cond.code yX3_isWithin cX3_isWithin 2 (some .boolean), Cond.instanceMethod yX1_furthest, Cond.initialized RX1, Cond.selects RX1 yX1_furthest yX1_furthest, Cond.code yX1_furthest cX1_furthest 13 (some .int), Cond.fieldLink RX1 12 "HullBuilder$Hull" "at" "LHullBuilder$Points;", Cond.fieldLink RX1 68 "HullBuilder$Hull" "corners" "I", Cond.static yX3_holds]
def wsX3_support_r2 : List Cond := [Cond.code yX3_holds cX3_holds 2 (some .boolean)]
def wsX3_support : List Cond := .code yX3_support cX3_support 4 (some .int) :: ((wsX3_support_r1 ++ wsX3_support_r2) ++ wsX30 ++ wsX10 ++ wsX20 ++ (vx_atS RX3 49 "java/lang/IllegalStateException" ["java/lang/RuntimeException", "java/lang/Exception"]).filter goodWord ++ (vx_atS RX3 39 "java/lang/IllegalArgumentException" ["java/lang/RuntimeException", "java/lang/Exception"]).filter goodWord)
def wsX3_requireCorner : List Cond := .code yX3_requireCorner cX3_requireCorner 2 none :: ([.classLink RX3 153 "java/lang/IndexOutOfBoundsException", .initialized "java/lang/IndexOutOfBoundsException", .fieldLink RX3 19 "HullBuilder" "hull" "LHullBuilder$Hull;", .methodLink RX3 54 yX3_requirePlace, .static yX3_requirePlace, .initialized RX3, .code yX3_requirePlace cX3_requirePlace 2 none, .methodLink RX3 160 yX3_holds, .static yX3_holds, .code yX3_holds cX3_holds 2 (some .boolean)] ++ wsX30 ++ wsX10 ++ (vx_atS RX3 157 "java/lang/IndexOutOfBoundsException" ["java/lang/RuntimeException", "java/lang/Exception"]).filter goodWord)
def wsX3_steps_r1 : List Cond := [Cond.fieldLink RX3 19 "HullBuilder" "hull" "LHullBuilder$Hull;", Cond.methodLink RX3 79 yX3_requireHull, Cond.instanceMethod yX3_requireHull, Cond.selects RX3 yX3_requireHull yX3_requireHull, Cond.initialized RX3, Cond.code yX3_requireHull cX3_requireHull 1 none, Cond.classLink RX3 45 "java/lang/IllegalStateException", Cond.initialized "java/lang/IllegalStateException", Cond.methodLink RX3 126 yX3_requireCorner, Cond.instanceMethod yX3_requireCorner, Cond.selects RX3 yX3_requireCorner yX3_requireCorner, Cond.code yX3_requireCorner cX3_requireCorner 2 none, Cond.classLink RX3 153 "java/lang/IndexOutOfBoundsException", Cond.initialized "java/lang/IndexOutOfBoundsException", Cond.methodLink RX3 54 yX3_requirePlace, Cond.static yX3_requirePlace, Cond.code yX3_requirePlace cX3_requirePlace 2 none, Cond.methodLink RX3 160 yX3_holds, Cond.static yX3_holds, Cond.code yX3_holds cX3_holds 2 (some .boolean), Cond.instanceMethod yX1_walk, Cond.initialized RX1, Cond.selects RX1 yX1_walk yX1_walk, Cond.code yX1_walk cX1_walk 5 (some .int)]
def wsX3_steps_r2 : List Cond := [Cond.methodLink RX1 148 yX1_stepFrom, Cond.instanceMethod yX1_stepFrom, Cond.selects RX1 yX1_stepFrom yX1_stepFrom, Cond.code yX1_stepFrom cX1_stepFrom 5 (some .int), Cond.fieldLink RX1 112 "HullBuilder$Hull" "edgeCount" "I", Cond.fieldLink RX1 33 "HullBuilder$Hull" "edgeLow" "[I", Cond.fieldLink RX1 36 "HullBuilder$Hull" "edgeHigh" "[I"]
def wsX3_steps : List Cond := .code yX3_steps cX3_steps 3 (some .int) :: ((wsX3_steps_r1 ++ wsX3_steps_r2) ++ wsX30 ++ wsX10 ++ (vx_atS RX3 49 "java/lang/IllegalStateException" ["java/lang/RuntimeException", "java/lang/Exception"]).filter goodWord ++ (vx_atS RX3 157 "java/lang/IndexOutOfBoundsException" ["java/lang/RuntimeException", "java/lang/Exception"]).filter goodWord)
def wsX3_side_r1 : List Cond := [Cond.constant RX3 121 (65536), Cond.fieldLink RX3 19 "HullBuilder" "hull" "LHullBuilder$Hull;", Cond.methodLink RX3 79 yX3_requireHull, Cond.instanceMethod yX3_requireHull, Cond.selects RX3 yX3_requireHull yX3_requireHull, Cond.initialized RX3, Cond.code yX3_requireHull cX3_requireHull 1 none, Cond.classLink RX3 45 "java/lang/IllegalStateException", Cond.initialized "java/lang/IllegalStateException", Cond.methodLink RX3 27 yX3_requireReach, Cond.static yX3_requireReach, Cond.code yX3_requireReach cX3_requireReach 4 none, Cond.classLink RX3 35 "java/lang/IllegalArgumentException", Cond.initialized "java/lang/IllegalArgumentException", Cond.methodLink RX3 168 yX3_isWithin, Cond.static yX3_isWithin, Cond.code yX3_isWithin cX3_isWithin 2 (some .boolean), Cond.instanceMethod yX1_locate, Cond.initialized RX1, Cond.selects RX1 yX1_locate yX1_locate, Cond.code yX1_locate cX1_locate 8 (some .int), Cond.fieldLink RX1 65 "HullBuilder$Hull" "faceCount" "I", Cond.fieldLink RX1 20 "HullBuilder$Hull" "faces" "[LHullBuilder$Face;", Cond.instanceMethod yX0_heightOf]
def wsX3_side_r2 : List Cond := [Cond.initialized RX0, Cond.selects RX0 yX0_heightOf yX0_heightOf, Cond.code yX0_heightOf cX0_heightOf 7 (some .long), Cond.fieldLink RX0 27 "HullBuilder$Face" "nx" "J", Cond.fieldLink RX0 34 "HullBuilder$Face" "ny" "J", Cond.fieldLink RX0 37 "HullBuilder$Face" "nz" "J", Cond.fieldLink RX0 40 "HullBuilder$Face" "distance" "J"]
def wsX3_side : List Cond := .code yX3_side cX3_side 4 (some .int) :: ((wsX3_side_r1 ++ wsX3_side_r2) ++ wsX30 ++ wsX10 ++ wsX00 ++ (vx_atS RX3 49 "java/lang/IllegalStateException" ["java/lang/RuntimeException", "java/lang/Exception"]).filter goodWord ++ (vx_atS RX3 39 "java/lang/IllegalArgumentException" ["java/lang/RuntimeException", "java/lang/Exception"]).filter goodWord)
def wsX3_volume : List Cond := .code yX3_volume cX3_volume 1 (some .long) :: ([.fieldLink RX3 19 "HullBuilder" "hull" "LHullBuilder$Hull;", .methodLink RX3 79 yX3_requireHull, .instanceMethod yX3_requireHull, .selects RX3 yX3_requireHull yX3_requireHull, .initialized RX3, .code yX3_requireHull cX3_requireHull 1 none, .classLink RX3 45 "java/lang/IllegalStateException", .initialized "java/lang/IllegalStateException"] ++ wsX30 ++ wsX10 ++ (vx_atS RX3 49 "java/lang/IllegalStateException" ["java/lang/RuntimeException", "java/lang/Exception"]).filter goodWord)
def wsX3_centre : List Cond := .code yX3_centre cX3_centre 2 (some .long) :: ([.fieldLink RX3 19 "HullBuilder" "hull" "LHullBuilder$Hull;", .methodLink RX3 79 yX3_requireHull, .instanceMethod yX3_requireHull, .selects RX3 yX3_requireHull yX3_requireHull, .initialized RX3, .code yX3_requireHull cX3_requireHull 1 none, .classLink RX3 45 "java/lang/IllegalStateException", .initialized "java/lang/IllegalStateException", .methodLink RX3 54 yX3_requirePlace, .static yX3_requirePlace, .code yX3_requirePlace cX3_requirePlace 2 none, .classLink RX3 153 "java/lang/IndexOutOfBoundsException", .initialized "java/lang/IndexOutOfBoundsException"] ++ wsX30 ++ wsX10 ++ (vx_atS RX3 49 "java/lang/IllegalStateException" ["java/lang/RuntimeException", "java/lang/Exception"]).filter goodWord ++ (vx_atS RX3 157 "java/lang/IndexOutOfBoundsException" ["java/lang/RuntimeException", "java/lang/Exception"]).filter goodWord)
def wsX3_middle : List Cond := .code yX3_middle cX3_middle 4 (some .double) :: ([.constantDouble RX3 142 (4616189618054758400), .fieldLink RX3 19 "HullBuilder" "hull" "LHullBuilder$Hull;", .methodLink RX3 79 yX3_requireHull, .instanceMethod yX3_requireHull, .selects RX3 yX3_requireHull yX3_requireHull, .initialized RX3, .code yX3_requireHull cX3_requireHull 1 none, .classLink RX3 45 "java/lang/IllegalStateException", .initialized "java/lang/IllegalStateException", .methodLink RX3 54 yX3_requirePlace, .static yX3_requirePlace, .code yX3_requirePlace cX3_requirePlace 2 none, .classLink RX3 153 "java/lang/IndexOutOfBoundsException", .initialized "java/lang/IndexOutOfBoundsException"] ++ wsX30 ++ wsX10 ++ (vx_atS RX3 49 "java/lang/IllegalStateException" ["java/lang/RuntimeException", "java/lang/Exception"]).filter goodWord ++ (vx_atS RX3 157 "java/lang/IndexOutOfBoundsException" ["java/lang/RuntimeException", "java/lang/Exception"]).filter goodWord)
def wsX3_count : List Cond := .code yX3_count cX3_count 2 (some .int) :: ([.classLink RX3 153 "java/lang/IndexOutOfBoundsException", .initialized "java/lang/IndexOutOfBoundsException", .fieldLink RX3 12 "HullBuilder" "points" "LHullBuilder$Points;", .fieldLink RX3 19 "HullBuilder" "hull" "LHullBuilder$Hull;", .fieldLink RX3 23 "HullBuilder" "hullsBuilt" "I", .methodLink RX3 147 yJ6_bitCount_0f7a4, .static yJ6_bitCount_0f7a4, .initialized RJ6, .code yJ6_bitCount_0f7a4 cJ6_bitCount_0f7a4 1 (some .int), .constant RJ6 265 (1431655765), .constant RJ6 266 (858993459), .constant RJ6 267 (252645135)] ++ wsX30 ++ wsX20 ++ wsX10 ++ (vx_atS RX3 157 "java/lang/IndexOutOfBoundsException" ["java/lang/RuntimeException", "java/lang/Exception"]).filter goodWord)
def wsX4_init : List Cond := .code yX4_init cX4_init 1 none :: ([.methodLink RX4 1 objectInit, .instanceMethod objectInit, .code objectInit ⟨#[0xb1]⟩ 1 none, .arrayClass .int, .fieldLink RX4 7 "HullBuilderModel" "xs" "[I", .fieldLink RX4 13 "HullBuilderModel" "ys" "[I", .fieldLink RX4 16 "HullBuilderModel" "zs" "[I", .arrayClass .long, .fieldLink RX4 19 "HullBuilderModel" "hx" "[J", .fieldLink RX4 23 "HullBuilderModel" "hy" "[J", .fieldLink RX4 26 "HullBuilderModel" "hz" "[J", .fieldLink RX4 29 "HullBuilderModel" "nx" "[J", .fieldLink RX4 32 "HullBuilderModel" "ny" "[J", .fieldLink RX4 35 "HullBuilderModel" "nz" "[J", .fieldLink RX4 38 "HullBuilderModel" "offsets" "[J", .fieldLink RX4 41 "HullBuilderModel" "sizes" "[I", .fieldLink RX4 44 "HullBuilderModel" "corners" "[I", .fieldLink RX4 47 "HullBuilderModel" "order" "[I", .fieldLink RX4 50 "HullBuilderModel" "ends" "[I", .fieldLink RX4 53 "HullBuilderModel" "lefts" "[I", .fieldLink RX4 56 "HullBuilderModel" "rights" "[I", .fieldLink RX4 59 "HullBuilderModel" "far" "[I"] ++ wsX40)
def wsX4_thrown : List Cond := .code yX4_thrown cX4_thrown 1 (some .int) :: ([.fieldLink RX4 62 "HullBuilderModel" "thrown" "I"] ++ wsX40)
def wsX4_goes : List Cond := .code yX4_goes cX4_goes 3 (some .boolean) :: ([.fieldLink RX4 62 "HullBuilderModel" "thrown" "I"] ++ wsX40)
def wsX4_within : List Cond := .code yX4_within cX4_within 2 (some .boolean) :: ([])
def wsX4_taken : List Cond := .code yX4_taken cX4_taken 6 (some .boolean) :: ([.fieldLink RX4 66 "HullBuilderModel" "points" "I", .fieldLink RX4 7 "HullBuilderModel" "xs" "[I", .fieldLink RX4 13 "HullBuilderModel" "ys" "[I", .fieldLink RX4 16 "HullBuilderModel" "zs" "[I"] ++ wsX40)
def wsX4_point : List Cond := .code yX4_point cX4_point 5 (some .int) :: ([.fieldLink RX4 66 "HullBuilderModel" "points" "I", .fieldLink RX4 7 "HullBuilderModel" "xs" "[I", .fieldLink RX4 13 "HullBuilderModel" "ys" "[I", .fieldLink RX4 16 "HullBuilderModel" "zs" "[I", .methodLink RX4 69 yX4_within, .static yX4_within, .initialized RX4, .code yX4_within cX4_within 2 (some .boolean), .methodLink RX4 73 yX4_taken, .instanceMethod yX4_taken, .selects RX4 yX4_taken yX4_taken, .code yX4_taken cX4_taken 6 (some .boolean), .methodLink RX4 77 yX4_goes, .instanceMethod yX4_goes, .selects RX4 yX4_goes yX4_goes, .code yX4_goes cX4_goes 3 (some .boolean), .fieldLink RX4 62 "HullBuilderModel" "thrown" "I"] ++ wsX40)
def wsX4_take : List Cond := .code yX4_take cX4_take 3 (some .int) :: ([.fieldLink RX4 66 "HullBuilderModel" "points" "I", .fieldLink RX4 7 "HullBuilderModel" "xs" "[I", .fieldLink RX4 13 "HullBuilderModel" "ys" "[I", .fieldLink RX4 16 "HullBuilderModel" "zs" "[I", .methodLink RX4 77 yX4_goes, .instanceMethod yX4_goes, .selects RX4 yX4_goes yX4_goes, .initialized RX4, .code yX4_goes cX4_goes 3 (some .boolean), .fieldLink RX4 62 "HullBuilderModel" "thrown" "I"] ++ wsX40)
def wsX4_across : List Cond := .code yX4_across cX4_across 16 none :: ([.fieldLink RX4 19 "HullBuilderModel" "hx" "[J", .fieldLink RX4 23 "HullBuilderModel" "hy" "[J", .fieldLink RX4 26 "HullBuilderModel" "hz" "[J", .fieldLink RX4 81 "HullBuilderModel" "tx" "J", .fieldLink RX4 85 "HullBuilderModel" "ty" "J", .fieldLink RX4 88 "HullBuilderModel" "tz" "J"] ++ wsX40)
def wsX4_above : List Cond := .code yX4_above cX4_above 3 (some .long) :: ([.fieldLink RX4 81 "HullBuilderModel" "tx" "J", .fieldLink RX4 19 "HullBuilderModel" "hx" "[J", .fieldLink RX4 85 "HullBuilderModel" "ty" "J", .fieldLink RX4 23 "HullBuilderModel" "hy" "[J", .fieldLink RX4 88 "HullBuilderModel" "tz" "J", .fieldLink RX4 26 "HullBuilderModel" "hz" "[J"] ++ wsX40)
def wsX4_common : List Cond := .code yX4_common cX4_common 11 (some .long) :: ([])
def wsX4_knownFace : List Cond := .code yX4_knownFace cX4_knownFace 5 (some .boolean) :: ([.fieldLink RX4 91 "HullBuilderModel" "faces" "I", .fieldLink RX4 29 "HullBuilderModel" "nx" "[J", .fieldLink RX4 81 "HullBuilderModel" "tx" "J", .fieldLink RX4 32 "HullBuilderModel" "ny" "[J", .fieldLink RX4 85 "HullBuilderModel" "ty" "J", .fieldLink RX4 35 "HullBuilderModel" "nz" "[J", .fieldLink RX4 88 "HullBuilderModel" "tz" "J", .fieldLink RX4 38 "HullBuilderModel" "offsets" "[J"] ++ wsX40)
def wsX4_addFace : List Cond := .code yX4_addFace cX4_addFace 3 none :: ([.fieldLink RX4 29 "HullBuilderModel" "nx" "[J", .fieldLink RX4 91 "HullBuilderModel" "faces" "I", .fieldLink RX4 81 "HullBuilderModel" "tx" "J", .fieldLink RX4 32 "HullBuilderModel" "ny" "[J", .fieldLink RX4 85 "HullBuilderModel" "ty" "J", .fieldLink RX4 35 "HullBuilderModel" "nz" "[J", .fieldLink RX4 88 "HullBuilderModel" "tz" "J", .fieldLink RX4 38 "HullBuilderModel" "offsets" "[J", .methodLink RX4 115 yX4_knownFace, .instanceMethod yX4_knownFace, .selects RX4 yX4_knownFace yX4_knownFace, .initialized RX4, .code yX4_knownFace cX4_knownFace 5 (some .boolean)] ++ wsX40)
def wsX4_tries_r1 : List Cond := [Cond.fieldLink RX4 81 "HullBuilderModel" "tx" "J", Cond.fieldLink RX4 85 "HullBuilderModel" "ty" "J", Cond.fieldLink RX4 88 "HullBuilderModel" "tz" "J", Cond.fieldLink RX4 98 "HullBuilderModel" "held" "I", Cond.constantLong RX4 105 (-1), Cond.fieldLink RX4 19 "HullBuilderModel" "hx" "[J", Cond.fieldLink RX4 23 "HullBuilderModel" "hy" "[J", Cond.fieldLink RX4 26 "HullBuilderModel" "hz" "[J", Cond.methodLink RX4 94 yX4_across, Cond.instanceMethod yX4_across, Cond.selects RX4 yX4_across yX4_across, Cond.initialized RX4, Cond.code yX4_across cX4_across 16 none, Cond.methodLink RX4 101 yX4_above, Cond.instanceMethod yX4_above, Cond.selects RX4 yX4_above yX4_above, Cond.code yX4_above cX4_above 3 (some .long), Cond.methodLink RX4 107 yX4_common, Cond.static yX4_common, Cond.code yX4_common cX4_common 11 (some .long), Cond.methodLink RX4 111 yX4_addFace, Cond.instanceMethod yX4_addFace, Cond.selects RX4 yX4_addFace yX4_addFace, Cond.code yX4_addFace cX4_addFace 3 none]
def wsX4_tries_r2 : List Cond := [Cond.fieldLink RX4 29 "HullBuilderModel" "nx" "[J", Cond.fieldLink RX4 91 "HullBuilderModel" "faces" "I", Cond.fieldLink RX4 32 "HullBuilderModel" "ny" "[J", Cond.fieldLink RX4 35 "HullBuilderModel" "nz" "[J", Cond.fieldLink RX4 38 "HullBuilderModel" "offsets" "[J", Cond.methodLink RX4 115 yX4_knownFace, Cond.instanceMethod yX4_knownFace, Cond.selects RX4 yX4_knownFace yX4_knownFace, Cond.code yX4_knownFace cX4_knownFace 5 (some .boolean)]
def wsX4_tries : List Cond := .code yX4_tries cX4_tries 10 (some .boolean) :: ((wsX4_tries_r1 ++ wsX4_tries_r2) ++ wsX40)
def wsX4_in : List Cond := .code yX4_in cX4_in 3 (some .boolean) :: ([.fieldLink RX4 29 "HullBuilderModel" "nx" "[J", .fieldLink RX4 19 "HullBuilderModel" "hx" "[J", .fieldLink RX4 32 "HullBuilderModel" "ny" "[J", .fieldLink RX4 23 "HullBuilderModel" "hy" "[J", .fieldLink RX4 35 "HullBuilderModel" "nz" "[J", .fieldLink RX4 26 "HullBuilderModel" "hz" "[J", .fieldLink RX4 38 "HullBuilderModel" "offsets" "[J"] ++ wsX40)
def wsX4_goesOn : List Cond := .code yX4_goesOn cX4_goesOn 10 (some .boolean) :: ([.fieldLink RX4 98 "HullBuilderModel" "held" "I", .fieldLink RX4 81 "HullBuilderModel" "tx" "J", .fieldLink RX4 29 "HullBuilderModel" "nx" "[J", .fieldLink RX4 85 "HullBuilderModel" "ty" "J", .fieldLink RX4 32 "HullBuilderModel" "ny" "[J", .fieldLink RX4 88 "HullBuilderModel" "tz" "J", .fieldLink RX4 35 "HullBuilderModel" "nz" "[J", .fieldLink RX4 19 "HullBuilderModel" "hx" "[J", .fieldLink RX4 23 "HullBuilderModel" "hy" "[J", .fieldLink RX4 26 "HullBuilderModel" "hz" "[J", .methodLink RX4 119 yX4_in, .instanceMethod yX4_in, .selects RX4 yX4_in yX4_in, .initialized RX4, .code yX4_in cX4_in 3 (some .boolean), .fieldLink RX4 38 "HullBuilderModel" "offsets" "[J", .methodLink RX4 94 yX4_across, .instanceMethod yX4_across, .selects RX4 yX4_across yX4_across, .code yX4_across cX4_across 16 none] ++ wsX40)
def wsX4_behind : List Cond := .code yX4_behind cX4_behind 4 (some .int) :: ([.fieldLink RX4 98 "HullBuilderModel" "held" "I", .methodLink RX4 119 yX4_in, .instanceMethod yX4_in, .selects RX4 yX4_in yX4_in, .initialized RX4, .code yX4_in cX4_in 3 (some .boolean), .fieldLink RX4 29 "HullBuilderModel" "nx" "[J", .fieldLink RX4 19 "HullBuilderModel" "hx" "[J", .fieldLink RX4 32 "HullBuilderModel" "ny" "[J", .fieldLink RX4 23 "HullBuilderModel" "hy" "[J", .fieldLink RX4 35 "HullBuilderModel" "nz" "[J", .fieldLink RX4 26 "HullBuilderModel" "hz" "[J", .fieldLink RX4 38 "HullBuilderModel" "offsets" "[J", .methodLink RX4 122 yX4_goesOn, .instanceMethod yX4_goesOn, .selects RX4 yX4_goesOn yX4_goesOn, .code yX4_goesOn cX4_goesOn 10 (some .boolean), .fieldLink RX4 81 "HullBuilderModel" "tx" "J", .fieldLink RX4 85 "HullBuilderModel" "ty" "J", .fieldLink RX4 88 "HullBuilderModel" "tz" "J", .methodLink RX4 94 yX4_across, .instanceMethod yX4_across, .selects RX4 yX4_across yX4_across, .code yX4_across cX4_across 16 none] ++ wsX40)
def wsX4_walk_r1 : List Cond := [Cond.fieldLink RX4 44 "HullBuilderModel" "corners" "[I", Cond.fieldLink RX4 41 "HullBuilderModel" "sizes" "[I", Cond.methodLink RX4 119 yX4_in, Cond.instanceMethod yX4_in, Cond.selects RX4 yX4_in yX4_in, Cond.initialized RX4, Cond.code yX4_in cX4_in 3 (some .boolean), Cond.fieldLink RX4 29 "HullBuilderModel" "nx" "[J", Cond.fieldLink RX4 19 "HullBuilderModel" "hx" "[J", Cond.fieldLink RX4 32 "HullBuilderModel" "ny" "[J", Cond.fieldLink RX4 23 "HullBuilderModel" "hy" "[J", Cond.fieldLink RX4 35 "HullBuilderModel" "nz" "[J", Cond.fieldLink RX4 26 "HullBuilderModel" "hz" "[J", Cond.fieldLink RX4 38 "HullBuilderModel" "offsets" "[J", Cond.methodLink RX4 125 yX4_behind, Cond.instanceMethod yX4_behind, Cond.selects RX4 yX4_behind yX4_behind, Cond.code yX4_behind cX4_behind 4 (some .int), Cond.fieldLink RX4 98 "HullBuilderModel" "held" "I", Cond.methodLink RX4 122 yX4_goesOn, Cond.instanceMethod yX4_goesOn, Cond.selects RX4 yX4_goesOn yX4_goesOn, Cond.code yX4_goesOn cX4_goesOn 10 (some .boolean), Cond.fieldLink RX4 81 "HullBuilderModel" "tx" "J"]
def wsX4_walk_r2 : List Cond := [Cond.fieldLink RX4 85 "HullBuilderModel" "ty" "J", Cond.fieldLink RX4 88 "HullBuilderModel" "tz" "J", Cond.methodLink RX4 94 yX4_across, Cond.instanceMethod yX4_across, Cond.selects RX4 yX4_across yX4_across, Cond.code yX4_across cX4_across 16 none]
def wsX4_walk : List Cond := .code yX4_walk cX4_walk 6 none :: ((wsX4_walk_r1 ++ wsX4_walk_r2) ++ wsX40)
def wsX4_earlier : List Cond := .code yX4_earlier cX4_earlier 5 (some .boolean) :: ([.fieldLink RX4 44 "HullBuilderModel" "corners" "[I"] ++ wsX40)
def wsX4_orderFaces : List Cond := .code yX4_orderFaces cX4_orderFaces 3 none :: ([.fieldLink RX4 91 "HullBuilderModel" "faces" "I", .fieldLink RX4 47 "HullBuilderModel" "order" "[I", .methodLink RX4 129 yX4_earlier, .instanceMethod yX4_earlier, .selects RX4 yX4_earlier yX4_earlier, .initialized RX4, .code yX4_earlier cX4_earlier 5 (some .boolean), .fieldLink RX4 44 "HullBuilderModel" "corners" "[I"] ++ wsX40)
def wsX4_faceFrom : List Cond := .code yX4_faceFrom cX4_faceFrom 8 (some .int) :: ([.fieldLink RX4 91 "HullBuilderModel" "faces" "I", .fieldLink RX4 47 "HullBuilderModel" "order" "[I", .fieldLink RX4 41 "HullBuilderModel" "sizes" "[I", .fieldLink RX4 44 "HullBuilderModel" "corners" "[I"] ++ wsX40)
def wsX4_findEdges : List Cond := .code yX4_findEdges cX4_findEdges 4 none :: ([.fieldLink RX4 132 "HullBuilderModel" "edges" "I", .fieldLink RX4 98 "HullBuilderModel" "held" "I", .fieldLink RX4 50 "HullBuilderModel" "ends" "[I", .fieldLink RX4 53 "HullBuilderModel" "lefts" "[I", .fieldLink RX4 56 "HullBuilderModel" "rights" "[I", .methodLink RX4 135 yX4_faceFrom, .instanceMethod yX4_faceFrom, .selects RX4 yX4_faceFrom yX4_faceFrom, .initialized RX4, .code yX4_faceFrom cX4_faceFrom 8 (some .int), .fieldLink RX4 91 "HullBuilderModel" "faces" "I", .fieldLink RX4 47 "HullBuilderModel" "order" "[I", .fieldLink RX4 41 "HullBuilderModel" "sizes" "[I", .fieldLink RX4 44 "HullBuilderModel" "corners" "[I"] ++ wsX40)
def wsX4_volumeOf : List Cond := .code yX4_volumeOf cX4_volumeOf 23 (some .long) :: ([.fieldLink RX4 7 "HullBuilderModel" "xs" "[I", .fieldLink RX4 13 "HullBuilderModel" "ys" "[I", .fieldLink RX4 16 "HullBuilderModel" "zs" "[I"] ++ wsX40)
def wsX4_solid : List Cond := .code yX4_solid cX4_solid 6 (some .boolean) :: ([.fieldLink RX4 66 "HullBuilderModel" "points" "I", .methodLink RX4 138 yX4_volumeOf, .instanceMethod yX4_volumeOf, .selects RX4 yX4_volumeOf yX4_volumeOf, .initialized RX4, .code yX4_volumeOf cX4_volumeOf 23 (some .long), .fieldLink RX4 7 "HullBuilderModel" "xs" "[I", .fieldLink RX4 13 "HullBuilderModel" "ys" "[I", .fieldLink RX4 16 "HullBuilderModel" "zs" "[I"] ++ wsX40)
def wsX4_build_r1 : List Cond := [Cond.fieldLink RX4 66 "HullBuilderModel" "points" "I", Cond.fieldLink RX4 98 "HullBuilderModel" "held" "I", Cond.fieldLink RX4 19 "HullBuilderModel" "hx" "[J", Cond.fieldLink RX4 7 "HullBuilderModel" "xs" "[I", Cond.fieldLink RX4 23 "HullBuilderModel" "hy" "[J", Cond.fieldLink RX4 13 "HullBuilderModel" "ys" "[I", Cond.fieldLink RX4 26 "HullBuilderModel" "hz" "[J", Cond.fieldLink RX4 16 "HullBuilderModel" "zs" "[I", Cond.fieldLink RX4 91 "HullBuilderModel" "faces" "I", Cond.fieldLink RX4 159 "HullBuilderModel" "built" "Z", Cond.fieldLink RX4 163 "HullBuilderModel" "builds" "I", Cond.methodLink RX4 142 yX4_solid, Cond.instanceMethod yX4_solid, Cond.selects RX4 yX4_solid yX4_solid, Cond.initialized RX4, Cond.code yX4_solid cX4_solid 6 (some .boolean), Cond.methodLink RX4 138 yX4_volumeOf, Cond.instanceMethod yX4_volumeOf, Cond.selects RX4 yX4_volumeOf yX4_volumeOf, Cond.code yX4_volumeOf cX4_volumeOf 23 (some .long), Cond.methodLink RX4 77 yX4_goes, Cond.instanceMethod yX4_goes, Cond.selects RX4 yX4_goes yX4_goes, Cond.code yX4_goes cX4_goes 3 (some .boolean)]
def wsX4_build_r2 : List Cond := [Cond.fieldLink RX4 62 "HullBuilderModel" "thrown" "I", Cond.methodLink RX4 146 yX4_tries, Cond.instanceMethod yX4_tries, Cond.selects RX4 yX4_tries yX4_tries, Cond.code yX4_tries cX4_tries 10 (some .boolean), Cond.fieldLink RX4 81 "HullBuilderModel" "tx" "J", Cond.fieldLink RX4 85 "HullBuilderModel" "ty" "J", Cond.fieldLink RX4 88 "HullBuilderModel" "tz" "J", Cond.constantLong RX4 105 (-1), Cond.methodLink RX4 94 yX4_across, Cond.instanceMethod yX4_across, Cond.selects RX4 yX4_across yX4_across, Cond.code yX4_across cX4_across 16 none, Cond.methodLink RX4 101 yX4_above, Cond.instanceMethod yX4_above, Cond.selects RX4 yX4_above yX4_above, Cond.code yX4_above cX4_above 3 (some .long), Cond.methodLink RX4 107 yX4_common, Cond.static yX4_common, Cond.code yX4_common cX4_common 11 (some .long), Cond.methodLink RX4 111 yX4_addFace, Cond.instanceMethod yX4_addFace, Cond.selects RX4 yX4_addFace yX4_addFace, Cond.code yX4_addFace cX4_addFace 3 none]
def wsX4_build_r3 : List Cond := [Cond.fieldLink RX4 29 "HullBuilderModel" "nx" "[J", Cond.fieldLink RX4 32 "HullBuilderModel" "ny" "[J", Cond.fieldLink RX4 35 "HullBuilderModel" "nz" "[J", Cond.fieldLink RX4 38 "HullBuilderModel" "offsets" "[J", Cond.methodLink RX4 115 yX4_knownFace, Cond.instanceMethod yX4_knownFace, Cond.selects RX4 yX4_knownFace yX4_knownFace, Cond.code yX4_knownFace cX4_knownFace 5 (some .boolean), Cond.methodLink RX4 149 yX4_walk, Cond.instanceMethod yX4_walk, Cond.selects RX4 yX4_walk yX4_walk, Cond.code yX4_walk cX4_walk 6 none, Cond.fieldLink RX4 44 "HullBuilderModel" "corners" "[I", Cond.fieldLink RX4 41 "HullBuilderModel" "sizes" "[I", Cond.methodLink RX4 119 yX4_in, Cond.instanceMethod yX4_in, Cond.selects RX4 yX4_in yX4_in, Cond.code yX4_in cX4_in 3 (some .boolean), Cond.methodLink RX4 125 yX4_behind, Cond.instanceMethod yX4_behind, Cond.selects RX4 yX4_behind yX4_behind, Cond.code yX4_behind cX4_behind 4 (some .int), Cond.methodLink RX4 122 yX4_goesOn, Cond.instanceMethod yX4_goesOn]
def wsX4_build_r4 : List Cond := [Cond.selects RX4 yX4_goesOn yX4_goesOn, Cond.code yX4_goesOn cX4_goesOn 10 (some .boolean), Cond.methodLink RX4 153 yX4_orderFaces, Cond.instanceMethod yX4_orderFaces, Cond.selects RX4 yX4_orderFaces yX4_orderFaces, Cond.code yX4_orderFaces cX4_orderFaces 3 none, Cond.fieldLink RX4 47 "HullBuilderModel" "order" "[I", Cond.methodLink RX4 129 yX4_earlier, Cond.instanceMethod yX4_earlier, Cond.selects RX4 yX4_earlier yX4_earlier, Cond.code yX4_earlier cX4_earlier 5 (some .boolean), Cond.methodLink RX4 156 yX4_findEdges, Cond.instanceMethod yX4_findEdges, Cond.selects RX4 yX4_findEdges yX4_findEdges, Cond.code yX4_findEdges cX4_findEdges 4 none, Cond.fieldLink RX4 132 "HullBuilderModel" "edges" "I", Cond.fieldLink RX4 50 "HullBuilderModel" "ends" "[I", Cond.fieldLink RX4 53 "HullBuilderModel" "lefts" "[I", Cond.fieldLink RX4 56 "HullBuilderModel" "rights" "[I", Cond.methodLink RX4 135 yX4_faceFrom, Cond.instanceMethod yX4_faceFrom, Cond.selects RX4 yX4_faceFrom yX4_faceFrom, Cond.code yX4_faceFrom cX4_faceFrom 8 (some .int)]
def wsX4_build : List Cond := .code yX4_build cX4_build 5 (some .int) :: ((wsX4_build_r1 ++ (wsX4_build_r2 ++ (wsX4_build_r3 ++ wsX4_build_r4))) ++ wsX40)
def wsX4_of : List Cond := .code yX4_of cX4_of 3 (some .int) :: ([.fieldLink RX4 66 "HullBuilderModel" "points" "I", .fieldLink RX4 7 "HullBuilderModel" "xs" "[I", .fieldLink RX4 13 "HullBuilderModel" "ys" "[I", .fieldLink RX4 16 "HullBuilderModel" "zs" "[I", .methodLink RX4 77 yX4_goes, .instanceMethod yX4_goes, .selects RX4 yX4_goes yX4_goes, .initialized RX4, .code yX4_goes cX4_goes 3 (some .boolean), .fieldLink RX4 62 "HullBuilderModel" "thrown" "I"] ++ wsX40)
def wsX4_there : List Cond := .code yX4_there cX4_there 2 (some .boolean) :: ([.fieldLink RX4 91 "HullBuilderModel" "faces" "I"] ++ wsX40)
def wsX4_face : List Cond := .code yX4_face cX4_face 4 (some .int) :: ([.fieldLink RX4 159 "HullBuilderModel" "built" "Z", .fieldLink RX4 47 "HullBuilderModel" "order" "[I", .fieldLink RX4 41 "HullBuilderModel" "sizes" "[I", .fieldLink RX4 29 "HullBuilderModel" "nx" "[J", .fieldLink RX4 32 "HullBuilderModel" "ny" "[J", .fieldLink RX4 35 "HullBuilderModel" "nz" "[J", .methodLink RX4 166 yX4_there, .instanceMethod yX4_there, .selects RX4 yX4_there yX4_there, .initialized RX4, .code yX4_there cX4_there 2 (some .boolean), .fieldLink RX4 91 "HullBuilderModel" "faces" "I", .methodLink RX4 77 yX4_goes, .instanceMethod yX4_goes, .selects RX4 yX4_goes yX4_goes, .code yX4_goes cX4_goes 3 (some .boolean), .fieldLink RX4 62 "HullBuilderModel" "thrown" "I"] ++ wsX40)
def wsX4_offset : List Cond := .code yX4_offset cX4_offset 2 (some .long) :: ([.fieldLink RX4 159 "HullBuilderModel" "built" "Z", .fieldLink RX4 38 "HullBuilderModel" "offsets" "[J", .fieldLink RX4 47 "HullBuilderModel" "order" "[I", .methodLink RX4 166 yX4_there, .instanceMethod yX4_there, .selects RX4 yX4_there yX4_there, .initialized RX4, .code yX4_there cX4_there 2 (some .boolean), .fieldLink RX4 91 "HullBuilderModel" "faces" "I", .methodLink RX4 77 yX4_goes, .instanceMethod yX4_goes, .selects RX4 yX4_goes yX4_goes, .code yX4_goes cX4_goes 3 (some .boolean), .fieldLink RX4 62 "HullBuilderModel" "thrown" "I"] ++ wsX40)
def wsX4_corner : List Cond := .code yX4_corner cX4_corner 3 (some .int) :: ([.fieldLink RX4 159 "HullBuilderModel" "built" "Z", .fieldLink RX4 41 "HullBuilderModel" "sizes" "[I", .fieldLink RX4 47 "HullBuilderModel" "order" "[I", .fieldLink RX4 44 "HullBuilderModel" "corners" "[I", .methodLink RX4 166 yX4_there, .instanceMethod yX4_there, .selects RX4 yX4_there yX4_there, .initialized RX4, .code yX4_there cX4_there 2 (some .boolean), .fieldLink RX4 91 "HullBuilderModel" "faces" "I", .methodLink RX4 77 yX4_goes, .instanceMethod yX4_goes, .selects RX4 yX4_goes yX4_goes, .code yX4_goes cX4_goes 3 (some .boolean), .fieldLink RX4 62 "HullBuilderModel" "thrown" "I"] ++ wsX40)
def wsX4_edge : List Cond := .code yX4_edge cX4_edge 3 (some .int) :: ([.fieldLink RX4 159 "HullBuilderModel" "built" "Z", .fieldLink RX4 132 "HullBuilderModel" "edges" "I", .fieldLink RX4 50 "HullBuilderModel" "ends" "[I", .fieldLink RX4 53 "HullBuilderModel" "lefts" "[I", .fieldLink RX4 56 "HullBuilderModel" "rights" "[I", .methodLink RX4 77 yX4_goes, .instanceMethod yX4_goes, .selects RX4 yX4_goes yX4_goes, .initialized RX4, .code yX4_goes cX4_goes 3 (some .boolean), .fieldLink RX4 62 "HullBuilderModel" "thrown" "I"] ++ wsX40)
def wsX4_isCorner : List Cond := .code yX4_isCorner cX4_isCorner 4 (some .boolean) :: ([.fieldLink RX4 132 "HullBuilderModel" "edges" "I", .fieldLink RX4 50 "HullBuilderModel" "ends" "[I"] ++ wsX40)
def wsX4_support : List Cond := .code yX4_support cX4_support 10 (some .int) :: ([.fieldLink RX4 159 "HullBuilderModel" "built" "Z", .constant RX4 170 (65536), .fieldLink RX4 98 "HullBuilderModel" "held" "I", .fieldLink RX4 19 "HullBuilderModel" "hx" "[J", .fieldLink RX4 23 "HullBuilderModel" "hy" "[J", .fieldLink RX4 26 "HullBuilderModel" "hz" "[J", .methodLink RX4 69 yX4_within, .static yX4_within, .initialized RX4, .code yX4_within cX4_within 2 (some .boolean), .methodLink RX4 77 yX4_goes, .instanceMethod yX4_goes, .selects RX4 yX4_goes yX4_goes, .code yX4_goes cX4_goes 3 (some .boolean), .fieldLink RX4 62 "HullBuilderModel" "thrown" "I", .methodLink RX4 171 yX4_isCorner, .instanceMethod yX4_isCorner, .selects RX4 yX4_isCorner yX4_isCorner, .code yX4_isCorner cX4_isCorner 4 (some .boolean), .fieldLink RX4 132 "HullBuilderModel" "edges" "I", .fieldLink RX4 50 "HullBuilderModel" "ends" "[I"] ++ wsX40)
def wsX4_steps : List Cond := .code yX4_steps cX4_steps 8 (some .int) :: ([.fieldLink RX4 159 "HullBuilderModel" "built" "Z", .fieldLink RX4 98 "HullBuilderModel" "held" "I", .fieldLink RX4 59 "HullBuilderModel" "far" "[I", .fieldLink RX4 132 "HullBuilderModel" "edges" "I", .fieldLink RX4 50 "HullBuilderModel" "ends" "[I", .methodLink RX4 171 yX4_isCorner, .instanceMethod yX4_isCorner, .selects RX4 yX4_isCorner yX4_isCorner, .initialized RX4, .code yX4_isCorner cX4_isCorner 4 (some .boolean), .methodLink RX4 77 yX4_goes, .instanceMethod yX4_goes, .selects RX4 yX4_goes yX4_goes, .code yX4_goes cX4_goes 3 (some .boolean), .fieldLink RX4 62 "HullBuilderModel" "thrown" "I"] ++ wsX40)
def wsX4_side : List Cond := .code yX4_side cX4_side 8 (some .int) :: ([.fieldLink RX4 159 "HullBuilderModel" "built" "Z", .constant RX4 170 (65536), .fieldLink RX4 91 "HullBuilderModel" "faces" "I", .fieldLink RX4 29 "HullBuilderModel" "nx" "[J", .fieldLink RX4 32 "HullBuilderModel" "ny" "[J", .fieldLink RX4 35 "HullBuilderModel" "nz" "[J", .fieldLink RX4 38 "HullBuilderModel" "offsets" "[J", .methodLink RX4 69 yX4_within, .static yX4_within, .initialized RX4, .code yX4_within cX4_within 2 (some .boolean), .methodLink RX4 77 yX4_goes, .instanceMethod yX4_goes, .selects RX4 yX4_goes yX4_goes, .code yX4_goes cX4_goes 3 (some .boolean), .fieldLink RX4 62 "HullBuilderModel" "thrown" "I"] ++ wsX40)
def wsX4_sum : List Cond := .code yX4_sum cX4_sum 13 (some .long) :: ([.fieldLink RX4 91 "HullBuilderModel" "faces" "I", .fieldLink RX4 44 "HullBuilderModel" "corners" "[I", .fieldLink RX4 41 "HullBuilderModel" "sizes" "[I", .fieldLink RX4 19 "HullBuilderModel" "hx" "[J", .fieldLink RX4 23 "HullBuilderModel" "hy" "[J", .fieldLink RX4 26 "HullBuilderModel" "hz" "[J"] ++ wsX40)
def wsX4_volume : List Cond := .code yX4_volume cX4_volume 1 (some .long) :: ([.fieldLink RX4 159 "HullBuilderModel" "built" "Z", .methodLink RX4 77 yX4_goes, .instanceMethod yX4_goes, .selects RX4 yX4_goes yX4_goes, .initialized RX4, .code yX4_goes cX4_goes 3 (some .boolean), .fieldLink RX4 62 "HullBuilderModel" "thrown" "I", .methodLink RX4 174 yX4_sum, .instanceMethod yX4_sum, .selects RX4 yX4_sum yX4_sum, .code yX4_sum cX4_sum 13 (some .long), .fieldLink RX4 91 "HullBuilderModel" "faces" "I", .fieldLink RX4 44 "HullBuilderModel" "corners" "[I", .fieldLink RX4 41 "HullBuilderModel" "sizes" "[I", .fieldLink RX4 19 "HullBuilderModel" "hx" "[J", .fieldLink RX4 23 "HullBuilderModel" "hy" "[J", .fieldLink RX4 26 "HullBuilderModel" "hz" "[J"] ++ wsX40)
def wsX4_centre : List Cond := .code yX4_centre cX4_centre 2 (some .long) :: ([.fieldLink RX4 159 "HullBuilderModel" "built" "Z", .methodLink RX4 77 yX4_goes, .instanceMethod yX4_goes, .selects RX4 yX4_goes yX4_goes, .initialized RX4, .code yX4_goes cX4_goes 3 (some .boolean), .fieldLink RX4 62 "HullBuilderModel" "thrown" "I", .methodLink RX4 174 yX4_sum, .instanceMethod yX4_sum, .selects RX4 yX4_sum yX4_sum, .code yX4_sum cX4_sum 13 (some .long), .fieldLink RX4 91 "HullBuilderModel" "faces" "I", .fieldLink RX4 44 "HullBuilderModel" "corners" "[I", .fieldLink RX4 41 "HullBuilderModel" "sizes" "[I", .fieldLink RX4 19 "HullBuilderModel" "hx" "[J", .fieldLink RX4 23 "HullBuilderModel" "hy" "[J", .fieldLink RX4 26 "HullBuilderModel" "hz" "[J"] ++ wsX40)
def wsX4_middle : List Cond := .code yX4_middle cX4_middle 6 (some .double) :: ([.fieldLink RX4 159 "HullBuilderModel" "built" "Z", .constantLong RX4 178 (4), .methodLink RX4 77 yX4_goes, .instanceMethod yX4_goes, .selects RX4 yX4_goes yX4_goes, .initialized RX4, .code yX4_goes cX4_goes 3 (some .boolean), .fieldLink RX4 62 "HullBuilderModel" "thrown" "I", .methodLink RX4 174 yX4_sum, .instanceMethod yX4_sum, .selects RX4 yX4_sum yX4_sum, .code yX4_sum cX4_sum 13 (some .long), .fieldLink RX4 91 "HullBuilderModel" "faces" "I", .fieldLink RX4 44 "HullBuilderModel" "corners" "[I", .fieldLink RX4 41 "HullBuilderModel" "sizes" "[I", .fieldLink RX4 19 "HullBuilderModel" "hx" "[J", .fieldLink RX4 23 "HullBuilderModel" "hy" "[J", .fieldLink RX4 26 "HullBuilderModel" "hz" "[J"] ++ wsX40)
def wsX4_count : List Cond := .code yX4_count cX4_count 4 (some .int) :: ([.fieldLink RX4 98 "HullBuilderModel" "held" "I", .fieldLink RX4 66 "HullBuilderModel" "points" "I", .fieldLink RX4 159 "HullBuilderModel" "built" "Z", .fieldLink RX4 91 "HullBuilderModel" "faces" "I", .fieldLink RX4 132 "HullBuilderModel" "edges" "I", .fieldLink RX4 163 "HullBuilderModel" "builds" "I", .methodLink RX4 77 yX4_goes, .instanceMethod yX4_goes, .selects RX4 yX4_goes yX4_goes, .initialized RX4, .code yX4_goes cX4_goes 3 (some .boolean), .fieldLink RX4 62 "HullBuilderModel" "thrown" "I", .methodLink RX4 171 yX4_isCorner, .instanceMethod yX4_isCorner, .selects RX4 yX4_isCorner yX4_isCorner, .code yX4_isCorner cX4_isCorner 4 (some .boolean), .fieldLink RX4 50 "HullBuilderModel" "ends" "[I"] ++ wsX40)
def wsL_point_r1 : List Cond := [Cond.classLink RL 13 "java/lang/IllegalArgumentException", Cond.classLink RL 15 "java/lang/IllegalStateException", Cond.methodLink RL 7 yX3_point, Cond.instanceMethod yX3_point, Cond.selects RX3 yX3_point yX3_point, Cond.initialized RX3, Cond.code yX3_point cX3_point 4 (some .int), Cond.classLink RX3 35 "java/lang/IllegalArgumentException", Cond.initialized "java/lang/IllegalArgumentException", Cond.classLink RX3 45 "java/lang/IllegalStateException", Cond.initialized "java/lang/IllegalStateException", Cond.fieldLink RX3 12 "HullBuilder" "points" "LHullBuilder$Points;", Cond.methodLink RX3 27 yX3_requireReach, Cond.static yX3_requireReach, Cond.code yX3_requireReach cX3_requireReach 4 none, Cond.methodLink RX3 168 yX3_isWithin, Cond.static yX3_isWithin, Cond.code yX3_isWithin cX3_isWithin 2 (some .boolean), Cond.instanceMethod yX2_isTaken, Cond.initialized RX2, Cond.selects RX2 yX2_isTaken yX2_isTaken, Cond.code yX2_isTaken cX2_isTaken 5 (some .boolean), Cond.fieldLink RX2 21 "HullBuilder$Points" "size" "I", Cond.fieldLink RX2 9 "HullBuilder$Points" "xs" "[I"]
def wsL_point_r2 : List Cond := [Cond.fieldLink RX2 15 "HullBuilder$Points" "ys" "[I", Cond.fieldLink RX2 18 "HullBuilder$Points" "zs" "[I", Cond.instanceMethod yX2_append, Cond.selects RX2 yX2_append yX2_append, Cond.code yX2_append cX2_append 4 (some .int)]
def wsL_point : List Cond := .codeWith yL_point cL_point 6 (some .int) [(0, 12, 15, 13), (0, 12, 19, 15)] :: ((wsL_point_r1 ++ wsL_point_r2) ++ wsX30 ++ wsX20 ++ (vx_atS RX3 39 "java/lang/IllegalArgumentException" ["java/lang/RuntimeException", "java/lang/Exception"]).filter goodWord ++ (vx_atS RX3 49 "java/lang/IllegalStateException" ["java/lang/RuntimeException", "java/lang/Exception"]).filter goodWord)
def wsL_take : List Cond := .codeWith yL_take cL_take 4 (some .int) [(0, 9, 12, 21)] :: ([.classLink RL 21 "java/lang/IndexOutOfBoundsException", .methodLink RL 17 yX3_take, .instanceMethod yX3_take, .selects RX3 yX3_take yX3_take, .initialized RX3, .code yX3_take cX3_take 2 (some .int), .fieldLink RX3 12 "HullBuilder" "points" "LHullBuilder$Points;", .methodLink RX3 54 yX3_requirePlace, .static yX3_requirePlace, .code yX3_requirePlace cX3_requirePlace 2 none, .classLink RX3 153 "java/lang/IndexOutOfBoundsException", .initialized "java/lang/IndexOutOfBoundsException", .instanceMethod yX2_remove, .initialized RX2, .selects RX2 yX2_remove yX2_remove, .code yX2_remove cX2_remove 3 none, .fieldLink RX2 21 "HullBuilder$Points" "size" "I", .fieldLink RX2 9 "HullBuilder$Points" "xs" "[I", .fieldLink RX2 15 "HullBuilder$Points" "ys" "[I", .fieldLink RX2 18 "HullBuilder$Points" "zs" "[I"] ++ wsX30 ++ wsX20 ++ (vx_atS RX3 157 "java/lang/IndexOutOfBoundsException" ["java/lang/RuntimeException", "java/lang/Exception"]).filter goodWord)
def wsL_build_r1 : List Cond := [Cond.classLink RL 15 "java/lang/IllegalStateException", Cond.methodLink RL 23 yX3_build, Cond.instanceMethod yX3_build, Cond.selects RX3 yX3_build yX3_build, Cond.initialized RX3, Cond.code yX3_build cX3_build 1 (some .int), Cond.classLink RX3 45 "java/lang/IllegalStateException", Cond.initialized "java/lang/IllegalStateException", Cond.fieldLink RX3 19 "HullBuilder" "hull" "LHullBuilder$Hull;", Cond.fieldLink RX3 12 "HullBuilder" "points" "LHullBuilder$Points;", Cond.fieldLink RX3 23 "HullBuilder" "hullsBuilt" "I", Cond.instanceMethod yX1_wouldBeFlat, Cond.initialized RX1, Cond.selects RX1 yX1_wouldBeFlat yX1_wouldBeFlat, Cond.code yX1_wouldBeFlat cX1_wouldBeFlat 3 (some .boolean), Cond.fieldLink RX1 25 "HullBuilder$Hull" "trial" "LHullBuilder$Face;", Cond.instanceMethod yX0_layThrough, Cond.initialized RX0, Cond.selects RX0 yX0_layThrough yX0_layThrough, Cond.code yX0_layThrough cX0_layThrough 5 (some .boolean), Cond.fieldLink RX0 27 "HullBuilder$Face" "nx" "J", Cond.fieldLink RX0 34 "HullBuilder$Face" "ny" "J", Cond.fieldLink RX0 37 "HullBuilder$Face" "nz" "J", Cond.fieldLink RX0 40 "HullBuilder$Face" "distance" "J"]
def wsL_build_r2 : List Cond := [Cond.static yX3_across, Cond.code yX3_across cX3_across 5 (some .long), Cond.instanceMethod yX0_holdsAll, Cond.selects RX0 yX0_holdsAll yX0_holdsAll, Cond.code yX0_holdsAll cX0_holdsAll 3 (some .boolean), Cond.methodLink RX0 47 yX0_heightOf, Cond.instanceMethod yX0_heightOf, Cond.selects RX0 yX0_heightOf yX0_heightOf, Cond.code yX0_heightOf cX0_heightOf 7 (some .long), Cond.instanceMethod yX1_wrap, Cond.selects RX1 yX1_wrap yX1_wrap, Cond.code yX1_wrap cX1_wrap 3 none, Cond.fieldLink RX1 12 "HullBuilder$Hull" "at" "LHullBuilder$Points;", Cond.fieldLink RX1 65 "HullBuilder$Hull" "faceCount" "I", Cond.fieldLink RX1 20 "HullBuilder$Hull" "faces" "[LHullBuilder$Face;", Cond.fieldLink RX1 68 "HullBuilder$Hull" "corners" "I", Cond.instanceMethod yX2_copyFrom, Cond.initialized RX2, Cond.selects RX2 yX2_copyFrom yX2_copyFrom, Cond.code yX2_copyFrom cX2_copyFrom 3 none, Cond.fieldLink RX2 21 "HullBuilder$Points" "size" "I", Cond.fieldLink RX2 9 "HullBuilder$Points" "xs" "[I", Cond.fieldLink RX2 15 "HullBuilder$Points" "ys" "[I", Cond.fieldLink RX2 18 "HullBuilder$Points" "zs" "[I"]
def wsL_build_r3 : List Cond := [Cond.methodLink RX1 59 yX1_findFaces, Cond.instanceMethod yX1_findFaces, Cond.selects RX1 yX1_findFaces yX1_findFaces, Cond.code yX1_findFaces cX1_findFaces 4 none, Cond.methodLink RX1 84 yX1_tryPlane, Cond.instanceMethod yX1_tryPlane, Cond.selects RX1 yX1_tryPlane yX1_tryPlane, Cond.code yX1_tryPlane cX1_tryPlane 5 none, Cond.methodLink RX1 88 yX1_lieInOneFace, Cond.instanceMethod yX1_lieInOneFace, Cond.selects RX1 yX1_lieInOneFace yX1_lieInOneFace, Cond.code yX1_lieInOneFace cX1_lieInOneFace 3 (some .boolean), Cond.instanceMethod yX0_turnOutside, Cond.selects RX0 yX0_turnOutside yX0_turnOutside, Cond.code yX0_turnOutside cX0_turnOutside 7 (some .boolean), Cond.fieldLink RX0 51 "HullBuilder$Face" "held" "I", Cond.instanceMethod yX0_shortenNormal, Cond.selects RX0 yX0_shortenNormal yX0_shortenNormal, Cond.code yX0_shortenNormal cX0_shortenNormal 3 none, Cond.static yX3_commonFactor, Cond.code yX3_commonFactor cX3_commonFactor 7 (some .long), Cond.methodLink RX1 62 yX1_findCorners, Cond.instanceMethod yX1_findCorners, Cond.selects RX1 yX1_findCorners yX1_findCorners]
def wsL_build_r4 : List Cond := [Cond.code yX1_findCorners cX1_findCorners 4 none, Cond.static yX3_holds, Cond.code yX3_holds cX3_holds 2 (some .boolean), Cond.instanceMethod yX0_goRound, Cond.selects RX0 yX0_goRound yX0_goRound, Cond.code yX0_goRound cX0_goRound 6 none, Cond.fieldLink RX0 64 "HullBuilder$Face" "size" "I", Cond.fieldLink RX0 9 "HullBuilder$Face" "ring" "[I", Cond.methodLink RX0 58 yJ6_numberOfTrailingZeros_0f7a4, Cond.static yJ6_numberOfTrailingZeros_0f7a4, Cond.initialized RJ6, Cond.code yJ6_numberOfTrailingZeros_0f7a4 cJ6_numberOfTrailingZeros_0f7a4 2 (some .int), Cond.constant RJ6 264 (65536), Cond.methodLink RX0 65 yJ6_bitCount_0f7a4, Cond.static yJ6_bitCount_0f7a4, Cond.code yJ6_bitCount_0f7a4 cJ6_bitCount_0f7a4 1 (some .int), Cond.constant RJ6 265 (1431655765), Cond.constant RJ6 266 (858993459), Cond.constant RJ6 267 (252645135), Cond.methodLink RX0 68 yX0_nextRound, Cond.instanceMethod yX0_nextRound, Cond.selects RX0 yX0_nextRound yX0_nextRound, Cond.code yX0_nextRound cX0_nextRound 6 (some .int), Cond.methodLink RX0 76 yX0_isRight]
def wsL_build_r5 : List Cond := [Cond.instanceMethod yX0_isRight, Cond.selects RX0 yX0_isRight yX0_isRight, Cond.code yX0_isRight cX0_isRight 5 (some .boolean), Cond.methodLink RX1 75 yX1_orderFaces, Cond.instanceMethod yX1_orderFaces, Cond.selects RX1 yX1_orderFaces yX1_orderFaces, Cond.code yX1_orderFaces cX1_orderFaces 4 none, Cond.instanceMethod yX0_rank, Cond.selects RX0 yX0_rank yX0_rank, Cond.code yX0_rank cX0_rank 1 (some .int), Cond.static yX3_way, Cond.code yX3_way cX3_way 2 (some .int), Cond.methodLink RX1 78 yX1_findEdges, Cond.instanceMethod yX1_findEdges, Cond.selects RX1 yX1_findEdges yX1_findEdges, Cond.code yX1_findEdges cX1_findEdges 3 none, Cond.fieldLink RX1 112 "HullBuilder$Hull" "edgeCount" "I", Cond.fieldLink RX1 29 "HullBuilder$Hull" "faceAlong" "[I", Cond.fieldLink RX1 33 "HullBuilder$Hull" "edgeLow" "[I", Cond.fieldLink RX1 36 "HullBuilder$Hull" "edgeHigh" "[I", Cond.methodLink RX1 109 yX1_noteWays, Cond.instanceMethod yX1_noteWays, Cond.selects RX1 yX1_noteWays yX1_noteWays, Cond.code yX1_noteWays cX1_noteWays 5 none]
def wsL_build_r6 : List Cond := [Cond.methodLink RX1 119 yJ7_fill_53178, Cond.static yJ7_fill_53178, Cond.initialized RJ7, Cond.code yJ7_fill_53178 cJ7_fill_53178 4 none, Cond.methodLink RX1 81 yX1_measure, Cond.instanceMethod yX1_measure, Cond.selects RX1 yX1_measure yX1_measure, Cond.code yX1_measure cX1_measure 4 none, Cond.fieldLink RX1 129 "HullBuilder$Hull" "sixVolumes" "J", Cond.fieldLink RX1 39 "HullBuilder$Hull" "moments" "[J", Cond.methodLink RX1 133 yJ7_fill_d0a16, Cond.static yJ7_fill_d0a16, Cond.code yJ7_fill_d0a16 cJ7_fill_d0a16 5 none, Cond.methodLink RX1 136 yX1_addTetrahedron, Cond.instanceMethod yX1_addTetrahedron, Cond.selects RX1 yX1_addTetrahedron yX1_addTetrahedron, Cond.code yX1_addTetrahedron cX1_addTetrahedron 6 none]
def wsL_build : List Cond := .codeWith yL_build cL_build 3 (some .int) [(0, 8, 11, 15)] :: ((wsL_build_r1 ++ (wsL_build_r2 ++ (wsL_build_r3 ++ (wsL_build_r4 ++ (wsL_build_r5 ++ wsL_build_r6))))) ++ wsX30 ++ wsX10 ++ wsX20 ++ wsX00 ++ (vx_atS RX3 49 "java/lang/IllegalStateException" ["java/lang/RuntimeException", "java/lang/Exception"]).filter goodWord)
def wsL_of : List Cond := .codeWith yL_of cL_of 5 (some .int) [(0, 10, 13, 21)] :: ([.classLink RL 21 "java/lang/IndexOutOfBoundsException", .methodLink RL 27 yX3_of, .instanceMethod yX3_of, .selects RX3 yX3_of yX3_of, .initialized RX3, .code yX3_of cX3_of 3 (some .int), .fieldLink RX3 12 "HullBuilder" "points" "LHullBuilder$Points;", .methodLink RX3 54 yX3_requirePlace, .static yX3_requirePlace, .code yX3_requirePlace cX3_requirePlace 2 none, .classLink RX3 153 "java/lang/IndexOutOfBoundsException", .initialized "java/lang/IndexOutOfBoundsException", .instanceMethod yX2_coordinate, .initialized RX2, .selects RX2 yX2_coordinate yX2_coordinate, .code yX2_coordinate cX2_coordinate 3 (some .int), .fieldLink RX2 9 "HullBuilder$Points" "xs" "[I", .fieldLink RX2 15 "HullBuilder$Points" "ys" "[I", .fieldLink RX2 18 "HullBuilder$Points" "zs" "[I"] ++ wsX30 ++ wsX20 ++ (vx_atS RX3 157 "java/lang/IndexOutOfBoundsException" ["java/lang/RuntimeException", "java/lang/Exception"]).filter goodWord)
def wsL_face : List Cond := .codeWith yL_face cL_face 5 (some .int) [(0, 10, 13, 15), (0, 10, 17, 21)] :: ([.classLink RL 15 "java/lang/IllegalStateException", .classLink RL 21 "java/lang/IndexOutOfBoundsException", .methodLink RL 31 yX3_face, .instanceMethod yX3_face, .selects RX3 yX3_face yX3_face, .initialized RX3, .code yX3_face cX3_face 4 (some .int), .fieldLink RX3 19 "HullBuilder" "hull" "LHullBuilder$Hull;", .methodLink RX3 79 yX3_requireHull, .instanceMethod yX3_requireHull, .selects RX3 yX3_requireHull yX3_requireHull, .code yX3_requireHull cX3_requireHull 1 none, .classLink RX3 45 "java/lang/IllegalStateException", .initialized "java/lang/IllegalStateException", .methodLink RX3 54 yX3_requirePlace, .static yX3_requirePlace, .code yX3_requirePlace cX3_requirePlace 2 none, .classLink RX3 153 "java/lang/IndexOutOfBoundsException", .initialized "java/lang/IndexOutOfBoundsException"] ++ wsX30 ++ wsX10 ++ wsX00 ++ (vx_atS RX3 49 "java/lang/IllegalStateException" ["java/lang/RuntimeException", "java/lang/Exception"]).filter goodWord ++ (vx_atS RX3 157 "java/lang/IndexOutOfBoundsException" ["java/lang/RuntimeException", "java/lang/Exception"]).filter goodWord)
def wsL_offset : List Cond := .codeWith yL_offset cL_offset 4 (some .int) [(0, 8, 11, 15), (0, 8, 14, 21)] :: ([.classLink RL 15 "java/lang/IllegalStateException", .classLink RL 21 "java/lang/IndexOutOfBoundsException", .methodLink RL 34 yX3_offset, .instanceMethod yX3_offset, .selects RX3 yX3_offset yX3_offset, .initialized RX3, .code yX3_offset cX3_offset 2 (some .long), .fieldLink RX3 19 "HullBuilder" "hull" "LHullBuilder$Hull;", .methodLink RX3 79 yX3_requireHull, .instanceMethod yX3_requireHull, .selects RX3 yX3_requireHull yX3_requireHull, .code yX3_requireHull cX3_requireHull 1 none, .classLink RX3 45 "java/lang/IllegalStateException", .initialized "java/lang/IllegalStateException", .methodLink RX3 54 yX3_requirePlace, .static yX3_requirePlace, .code yX3_requirePlace cX3_requirePlace 2 none, .classLink RX3 153 "java/lang/IndexOutOfBoundsException", .initialized "java/lang/IndexOutOfBoundsException"] ++ wsX30 ++ wsX10 ++ wsX00 ++ (vx_atS RX3 49 "java/lang/IllegalStateException" ["java/lang/RuntimeException", "java/lang/Exception"]).filter goodWord ++ (vx_atS RX3 157 "java/lang/IndexOutOfBoundsException" ["java/lang/RuntimeException", "java/lang/Exception"]).filter goodWord)
def wsL_corner : List Cond := .codeWith yL_corner cL_corner 5 (some .int) [(0, 10, 13, 15), (0, 10, 17, 21)] :: ([.classLink RL 15 "java/lang/IllegalStateException", .classLink RL 21 "java/lang/IndexOutOfBoundsException", .methodLink RL 38 yX3_corner, .instanceMethod yX3_corner, .selects RX3 yX3_corner yX3_corner, .initialized RX3, .code yX3_corner cX3_corner 3 (some .int), .fieldLink RX3 19 "HullBuilder" "hull" "LHullBuilder$Hull;", .methodLink RX3 79 yX3_requireHull, .instanceMethod yX3_requireHull, .selects RX3 yX3_requireHull yX3_requireHull, .code yX3_requireHull cX3_requireHull 1 none, .classLink RX3 45 "java/lang/IllegalStateException", .initialized "java/lang/IllegalStateException", .methodLink RX3 54 yX3_requirePlace, .static yX3_requirePlace, .code yX3_requirePlace cX3_requirePlace 2 none, .classLink RX3 153 "java/lang/IndexOutOfBoundsException", .initialized "java/lang/IndexOutOfBoundsException"] ++ wsX30 ++ wsX10 ++ wsX00 ++ (vx_atS RX3 49 "java/lang/IllegalStateException" ["java/lang/RuntimeException", "java/lang/Exception"]).filter goodWord ++ (vx_atS RX3 157 "java/lang/IndexOutOfBoundsException" ["java/lang/RuntimeException", "java/lang/Exception"]).filter goodWord)
def wsL_edge : List Cond := .codeWith yL_edge cL_edge 5 (some .int) [(0, 10, 13, 15), (0, 10, 17, 21)] :: ([.classLink RL 15 "java/lang/IllegalStateException", .classLink RL 21 "java/lang/IndexOutOfBoundsException", .methodLink RL 41 yX3_edge, .instanceMethod yX3_edge, .selects RX3 yX3_edge yX3_edge, .initialized RX3, .code yX3_edge cX3_edge 5 (some .int), .fieldLink RX3 19 "HullBuilder" "hull" "LHullBuilder$Hull;", .methodLink RX3 79 yX3_requireHull, .instanceMethod yX3_requireHull, .selects RX3 yX3_requireHull yX3_requireHull, .code yX3_requireHull cX3_requireHull 1 none, .classLink RX3 45 "java/lang/IllegalStateException", .initialized "java/lang/IllegalStateException", .methodLink RX3 54 yX3_requirePlace, .static yX3_requirePlace, .code yX3_requirePlace cX3_requirePlace 2 none, .classLink RX3 153 "java/lang/IndexOutOfBoundsException", .initialized "java/lang/IndexOutOfBoundsException", .methodLink RX3 118 yX3_way, .static yX3_way, .code yX3_way cX3_way 2 (some .int)] ++ wsX30 ++ wsX10 ++ (vx_atS RX3 49 "java/lang/IllegalStateException" ["java/lang/RuntimeException", "java/lang/Exception"]).filter goodWord ++ (vx_atS RX3 157 "java/lang/IndexOutOfBoundsException" ["java/lang/RuntimeException", "java/lang/Exception"]).filter goodWord)
def wsL_support_r1 : List Cond := [Cond.classLink RL 15 "java/lang/IllegalStateException", Cond.classLink RL 13 "java/lang/IllegalArgumentException", Cond.methodLink RL 44 yX3_support, Cond.instanceMethod yX3_support, Cond.selects RX3 yX3_support yX3_support, Cond.initialized RX3, Cond.code yX3_support cX3_support 4 (some .int), Cond.constant RX3 121 (65536), Cond.fieldLink RX3 19 "HullBuilder" "hull" "LHullBuilder$Hull;", Cond.methodLink RX3 79 yX3_requireHull, Cond.instanceMethod yX3_requireHull, Cond.selects RX3 yX3_requireHull yX3_requireHull, Cond.code yX3_requireHull cX3_requireHull 1 none, Cond.classLink RX3 45 "java/lang/IllegalStateException", Cond.initialized "java/lang/IllegalStateException", Cond.methodLink RX3 27 yX3_requireReach, Cond.static yX3_requireReach, Cond.code yX3_requireReach cX3_requireReach 4 none, Cond.classLink RX3 35 "java/lang/IllegalArgumentException", Cond.initialized "java/lang/IllegalArgumentException", Cond.methodLink RX3 168 yX3_isWithin, Cond.static yX3_isWithin, Cond.code yX3_isWithin cX3_isWithin 2 (some .boolean), Cond.instanceMethod yX1_furthest]
def wsL_support_r2 : List Cond := [Cond.initialized RX1, Cond.selects RX1 yX1_furthest yX1_furthest, Cond.code yX1_furthest cX1_furthest 13 (some .int), Cond.fieldLink RX1 12 "HullBuilder$Hull" "at" "LHullBuilder$Points;", Cond.fieldLink RX1 68 "HullBuilder$Hull" "corners" "I", Cond.static yX3_holds, Cond.code yX3_holds cX3_holds 2 (some .boolean)]
def wsL_support : List Cond := .codeWith yL_support cL_support 6 (some .int) [(0, 12, 15, 15), (0, 12, 19, 13)] :: ((wsL_support_r1 ++ wsL_support_r2) ++ wsX30 ++ wsX10 ++ wsX20 ++ (vx_atS RX3 49 "java/lang/IllegalStateException" ["java/lang/RuntimeException", "java/lang/Exception"]).filter goodWord ++ (vx_atS RX3 39 "java/lang/IllegalArgumentException" ["java/lang/RuntimeException", "java/lang/Exception"]).filter goodWord)
def wsL_steps_r1 : List Cond := [Cond.classLink RL 15 "java/lang/IllegalStateException", Cond.classLink RL 21 "java/lang/IndexOutOfBoundsException", Cond.methodLink RL 47 yX3_steps, Cond.instanceMethod yX3_steps, Cond.selects RX3 yX3_steps yX3_steps, Cond.initialized RX3, Cond.code yX3_steps cX3_steps 3 (some .int), Cond.fieldLink RX3 19 "HullBuilder" "hull" "LHullBuilder$Hull;", Cond.methodLink RX3 79 yX3_requireHull, Cond.instanceMethod yX3_requireHull, Cond.selects RX3 yX3_requireHull yX3_requireHull, Cond.code yX3_requireHull cX3_requireHull 1 none, Cond.classLink RX3 45 "java/lang/IllegalStateException", Cond.initialized "java/lang/IllegalStateException", Cond.methodLink RX3 126 yX3_requireCorner, Cond.instanceMethod yX3_requireCorner, Cond.selects RX3 yX3_requireCorner yX3_requireCorner, Cond.code yX3_requireCorner cX3_requireCorner 2 none, Cond.classLink RX3 153 "java/lang/IndexOutOfBoundsException", Cond.initialized "java/lang/IndexOutOfBoundsException", Cond.methodLink RX3 54 yX3_requirePlace, Cond.static yX3_requirePlace, Cond.code yX3_requirePlace cX3_requirePlace 2 none, Cond.methodLink RX3 160 yX3_holds]
def wsL_steps_r2 : List Cond := [Cond.static yX3_holds, Cond.code yX3_holds cX3_holds 2 (some .boolean), Cond.instanceMethod yX1_walk, Cond.initialized RX1, Cond.selects RX1 yX1_walk yX1_walk, Cond.code yX1_walk cX1_walk 5 (some .int), Cond.methodLink RX1 148 yX1_stepFrom, Cond.instanceMethod yX1_stepFrom, Cond.selects RX1 yX1_stepFrom yX1_stepFrom, Cond.code yX1_stepFrom cX1_stepFrom 5 (some .int), Cond.fieldLink RX1 112 "HullBuilder$Hull" "edgeCount" "I", Cond.fieldLink RX1 33 "HullBuilder$Hull" "edgeLow" "[I", Cond.fieldLink RX1 36 "HullBuilder$Hull" "edgeHigh" "[I"]
def wsL_steps : List Cond := .codeWith yL_steps cL_steps 5 (some .int) [(0, 10, 13, 15), (0, 10, 17, 21)] :: ((wsL_steps_r1 ++ wsL_steps_r2) ++ wsX30 ++ wsX10 ++ (vx_atS RX3 49 "java/lang/IllegalStateException" ["java/lang/RuntimeException", "java/lang/Exception"]).filter goodWord ++ (vx_atS RX3 157 "java/lang/IndexOutOfBoundsException" ["java/lang/RuntimeException", "java/lang/Exception"]).filter goodWord)
def wsL_side_r1 : List Cond := [Cond.classLink RL 15 "java/lang/IllegalStateException", Cond.classLink RL 13 "java/lang/IllegalArgumentException", Cond.methodLink RL 50 yX3_side, Cond.instanceMethod yX3_side, Cond.selects RX3 yX3_side yX3_side, Cond.initialized RX3, Cond.code yX3_side cX3_side 4 (some .int), Cond.constant RX3 121 (65536), Cond.fieldLink RX3 19 "HullBuilder" "hull" "LHullBuilder$Hull;", Cond.methodLink RX3 79 yX3_requireHull, Cond.instanceMethod yX3_requireHull, Cond.selects RX3 yX3_requireHull yX3_requireHull, Cond.code yX3_requireHull cX3_requireHull 1 none, Cond.classLink RX3 45 "java/lang/IllegalStateException", Cond.initialized "java/lang/IllegalStateException", Cond.methodLink RX3 27 yX3_requireReach, Cond.static yX3_requireReach, Cond.code yX3_requireReach cX3_requireReach 4 none, Cond.classLink RX3 35 "java/lang/IllegalArgumentException", Cond.initialized "java/lang/IllegalArgumentException", Cond.methodLink RX3 168 yX3_isWithin, Cond.static yX3_isWithin, Cond.code yX3_isWithin cX3_isWithin 2 (some .boolean), Cond.instanceMethod yX1_locate]
def wsL_side_r2 : List Cond := [Cond.initialized RX1, Cond.selects RX1 yX1_locate yX1_locate, Cond.code yX1_locate cX1_locate 8 (some .int), Cond.fieldLink RX1 65 "HullBuilder$Hull" "faceCount" "I", Cond.fieldLink RX1 20 "HullBuilder$Hull" "faces" "[LHullBuilder$Face;", Cond.instanceMethod yX0_heightOf, Cond.initialized RX0, Cond.selects RX0 yX0_heightOf yX0_heightOf, Cond.code yX0_heightOf cX0_heightOf 7 (some .long), Cond.fieldLink RX0 27 "HullBuilder$Face" "nx" "J", Cond.fieldLink RX0 34 "HullBuilder$Face" "ny" "J", Cond.fieldLink RX0 37 "HullBuilder$Face" "nz" "J", Cond.fieldLink RX0 40 "HullBuilder$Face" "distance" "J"]
def wsL_side : List Cond := .codeWith yL_side cL_side 6 (some .int) [(0, 12, 15, 15), (0, 12, 19, 13)] :: ((wsL_side_r1 ++ wsL_side_r2) ++ wsX30 ++ wsX10 ++ wsX00 ++ (vx_atS RX3 49 "java/lang/IllegalStateException" ["java/lang/RuntimeException", "java/lang/Exception"]).filter goodWord ++ (vx_atS RX3 39 "java/lang/IllegalArgumentException" ["java/lang/RuntimeException", "java/lang/Exception"]).filter goodWord)
def wsL_volume : List Cond := .codeWith yL_volume cL_volume 3 (some .int) [(0, 7, 10, 15)] :: ([.classLink RL 15 "java/lang/IllegalStateException", .methodLink RL 53 yX3_volume, .instanceMethod yX3_volume, .selects RX3 yX3_volume yX3_volume, .initialized RX3, .code yX3_volume cX3_volume 1 (some .long), .fieldLink RX3 19 "HullBuilder" "hull" "LHullBuilder$Hull;", .methodLink RX3 79 yX3_requireHull, .instanceMethod yX3_requireHull, .selects RX3 yX3_requireHull yX3_requireHull, .code yX3_requireHull cX3_requireHull 1 none, .classLink RX3 45 "java/lang/IllegalStateException", .initialized "java/lang/IllegalStateException"] ++ wsX30 ++ wsX10 ++ (vx_atS RX3 49 "java/lang/IllegalStateException" ["java/lang/RuntimeException", "java/lang/Exception"]).filter goodWord)
def wsL_centre : List Cond := .codeWith yL_centre cL_centre 4 (some .int) [(0, 8, 11, 15), (0, 8, 14, 21)] :: ([.classLink RL 15 "java/lang/IllegalStateException", .classLink RL 21 "java/lang/IndexOutOfBoundsException", .methodLink RL 57 yX3_centre, .instanceMethod yX3_centre, .selects RX3 yX3_centre yX3_centre, .initialized RX3, .code yX3_centre cX3_centre 2 (some .long), .fieldLink RX3 19 "HullBuilder" "hull" "LHullBuilder$Hull;", .methodLink RX3 79 yX3_requireHull, .instanceMethod yX3_requireHull, .selects RX3 yX3_requireHull yX3_requireHull, .code yX3_requireHull cX3_requireHull 1 none, .classLink RX3 45 "java/lang/IllegalStateException", .initialized "java/lang/IllegalStateException", .methodLink RX3 54 yX3_requirePlace, .static yX3_requirePlace, .code yX3_requirePlace cX3_requirePlace 2 none, .classLink RX3 153 "java/lang/IndexOutOfBoundsException", .initialized "java/lang/IndexOutOfBoundsException"] ++ wsX30 ++ wsX10 ++ (vx_atS RX3 49 "java/lang/IllegalStateException" ["java/lang/RuntimeException", "java/lang/Exception"]).filter goodWord ++ (vx_atS RX3 157 "java/lang/IndexOutOfBoundsException" ["java/lang/RuntimeException", "java/lang/Exception"]).filter goodWord)
def wsL_middle : List Cond := .codeWith yL_middle cL_middle 4 (some .int) [(0, 8, 11, 15), (0, 8, 14, 21)] :: ([.classLink RL 15 "java/lang/IllegalStateException", .classLink RL 21 "java/lang/IndexOutOfBoundsException", .methodLink RL 60 yX3_middle, .instanceMethod yX3_middle, .selects RX3 yX3_middle yX3_middle, .initialized RX3, .code yX3_middle cX3_middle 4 (some .double), .constantDouble RX3 142 (4616189618054758400), .fieldLink RX3 19 "HullBuilder" "hull" "LHullBuilder$Hull;", .methodLink RX3 79 yX3_requireHull, .instanceMethod yX3_requireHull, .selects RX3 yX3_requireHull yX3_requireHull, .code yX3_requireHull cX3_requireHull 1 none, .classLink RX3 45 "java/lang/IllegalStateException", .initialized "java/lang/IllegalStateException", .methodLink RX3 54 yX3_requirePlace, .static yX3_requirePlace, .code yX3_requirePlace cX3_requirePlace 2 none, .classLink RX3 153 "java/lang/IndexOutOfBoundsException", .initialized "java/lang/IndexOutOfBoundsException"] ++ wsX30 ++ wsX10 ++ (vx_atS RX3 49 "java/lang/IllegalStateException" ["java/lang/RuntimeException", "java/lang/Exception"]).filter goodWord ++ (vx_atS RX3 157 "java/lang/IndexOutOfBoundsException" ["java/lang/RuntimeException", "java/lang/Exception"]).filter goodWord)
def wsL_count : List Cond := .codeWith yL_count cL_count 4 (some .int) [(0, 9, 12, 21)] :: ([.classLink RL 21 "java/lang/IndexOutOfBoundsException", .methodLink RL 64 yX3_count, .instanceMethod yX3_count, .selects RX3 yX3_count yX3_count, .initialized RX3, .code yX3_count cX3_count 2 (some .int), .classLink RX3 153 "java/lang/IndexOutOfBoundsException", .initialized "java/lang/IndexOutOfBoundsException", .fieldLink RX3 12 "HullBuilder" "points" "LHullBuilder$Points;", .fieldLink RX3 19 "HullBuilder" "hull" "LHullBuilder$Hull;", .fieldLink RX3 23 "HullBuilder" "hullsBuilt" "I", .methodLink RX3 147 yJ6_bitCount_0f7a4, .static yJ6_bitCount_0f7a4, .initialized RJ6, .code yJ6_bitCount_0f7a4 cJ6_bitCount_0f7a4 1 (some .int), .constant RJ6 265 (1431655765), .constant RJ6 266 (858993459), .constant RJ6 267 (252645135)] ++ wsX30 ++ wsX20 ++ wsX10 ++ (vx_atS RX3 157 "java/lang/IndexOutOfBoundsException" ["java/lang/RuntimeException", "java/lang/Exception"]).filter goodWord)
def wsL_law0_r1 : List Cond := [Cond.classLink RL 8 RX3, Cond.instantiable RX3 3, Cond.initialized RX3, Cond.classLink RL 68 RX4, Cond.instantiable RX4 27, Cond.initialized RX4, Cond.arrayClass .long, Cond.arrayClass .double, Cond.methodLink RL 67 yX3_init, Cond.instanceMethod yX3_init, Cond.code yX3_init cX3_init 1 none, Cond.methodLink RX3 3 objectInit, Cond.instanceMethod objectInit, Cond.code objectInit ⟨#[0xb1]⟩ 1 none, Cond.classLink RX3 9 RX2, Cond.instantiable RX2 4, Cond.initialized RX2, Cond.fieldLink RX3 12 "HullBuilder" "points" "LHullBuilder$Points;", Cond.classLink RX3 16 RX1, Cond.instantiable RX1 11, Cond.initialized RX1, Cond.fieldLink RX3 19 "HullBuilder" "hull" "LHullBuilder$Hull;", Cond.fieldLink RX3 23 "HullBuilder" "hullsBuilt" "I", Cond.instanceMethod yX2_init]
def wsL_law0_r2 : List Cond := [Cond.code yX2_init cX2_init 1 none, Cond.methodLink RX2 3 objectInit, Cond.arrayClass .int, Cond.fieldLink RX2 9 "HullBuilder$Points" "xs" "[I", Cond.fieldLink RX2 15 "HullBuilder$Points" "ys" "[I", Cond.fieldLink RX2 18 "HullBuilder$Points" "zs" "[I", Cond.fieldLink RX2 21 "HullBuilder$Points" "size" "I", Cond.instanceMethod yX1_init, Cond.code yX1_init cX1_init 2 none, Cond.methodLink RX1 3 objectInit, Cond.classLink RX1 9 RX2, Cond.fieldLink RX1 12 "HullBuilder$Hull" "at" "LHullBuilder$Points;", Cond.classLink RX1 18 RX0, Cond.fieldLink RX1 20 "HullBuilder$Hull" "faces" "[LHullBuilder$Face;", Cond.instantiable RX0 7, Cond.initialized RX0, Cond.fieldLink RX1 25 "HullBuilder$Hull" "trial" "LHullBuilder$Face;", Cond.fieldLink RX1 29 "HullBuilder$Hull" "faceAlong" "[I", Cond.fieldLink RX1 33 "HullBuilder$Hull" "edgeLow" "[I", Cond.fieldLink RX1 36 "HullBuilder$Hull" "edgeHigh" "[I", Cond.fieldLink RX1 39 "HullBuilder$Hull" "moments" "[J", Cond.instanceMethod yX0_init, Cond.code yX0_init cX0_init 1 none, Cond.methodLink RX0 3 objectInit]
def wsL_law0_r3 : List Cond := [Cond.fieldLink RX0 9 "HullBuilder$Face" "ring" "[I", Cond.methodLink RL 70 yX4_init, Cond.instanceMethod yX4_init, Cond.code yX4_init cX4_init 1 none, Cond.methodLink RX4 1 objectInit, Cond.fieldLink RX4 7 "HullBuilderModel" "xs" "[I", Cond.fieldLink RX4 13 "HullBuilderModel" "ys" "[I", Cond.fieldLink RX4 16 "HullBuilderModel" "zs" "[I", Cond.fieldLink RX4 19 "HullBuilderModel" "hx" "[J", Cond.fieldLink RX4 23 "HullBuilderModel" "hy" "[J", Cond.fieldLink RX4 26 "HullBuilderModel" "hz" "[J", Cond.fieldLink RX4 29 "HullBuilderModel" "nx" "[J", Cond.fieldLink RX4 32 "HullBuilderModel" "ny" "[J", Cond.fieldLink RX4 35 "HullBuilderModel" "nz" "[J", Cond.fieldLink RX4 38 "HullBuilderModel" "offsets" "[J", Cond.fieldLink RX4 41 "HullBuilderModel" "sizes" "[I", Cond.fieldLink RX4 44 "HullBuilderModel" "corners" "[I", Cond.fieldLink RX4 47 "HullBuilderModel" "order" "[I", Cond.fieldLink RX4 50 "HullBuilderModel" "ends" "[I", Cond.fieldLink RX4 53 "HullBuilderModel" "lefts" "[I", Cond.fieldLink RX4 56 "HullBuilderModel" "rights" "[I", Cond.fieldLink RX4 59 "HullBuilderModel" "far" "[I", Cond.methodLink RL 71 yL_point, Cond.static yL_point]
def wsL_law0_r4 : List Cond := [Cond.initialized RL, Cond.codeWith yL_point cL_point 6 (some .int) [(0, 12, 15, 13), (0, 12, 19, 15)], Cond.classLink RL 13 "java/lang/IllegalArgumentException", Cond.classLink RL 15 "java/lang/IllegalStateException", Cond.methodLink RL 7 yX3_point, Cond.instanceMethod yX3_point, Cond.selects RX3 yX3_point yX3_point, Cond.code yX3_point cX3_point 4 (some .int), Cond.classLink RX3 35 "java/lang/IllegalArgumentException", Cond.initialized "java/lang/IllegalArgumentException", Cond.classLink RX3 45 "java/lang/IllegalStateException", Cond.initialized "java/lang/IllegalStateException", Cond.methodLink RX3 27 yX3_requireReach, Cond.static yX3_requireReach, Cond.code yX3_requireReach cX3_requireReach 4 none, Cond.methodLink RX3 168 yX3_isWithin, Cond.static yX3_isWithin, Cond.code yX3_isWithin cX3_isWithin 2 (some .boolean), Cond.instanceMethod yX2_isTaken, Cond.selects RX2 yX2_isTaken yX2_isTaken, Cond.code yX2_isTaken cX2_isTaken 5 (some .boolean), Cond.instanceMethod yX2_append, Cond.selects RX2 yX2_append yX2_append, Cond.code yX2_append cX2_append 4 (some .int)]
def wsL_law0_r5 : List Cond := [Cond.methodLink RL 76 yX4_point, Cond.instanceMethod yX4_point, Cond.selects RX4 yX4_point yX4_point, Cond.code yX4_point cX4_point 5 (some .int), Cond.fieldLink RX4 66 "HullBuilderModel" "points" "I", Cond.methodLink RX4 69 yX4_within, Cond.static yX4_within, Cond.code yX4_within cX4_within 2 (some .boolean), Cond.methodLink RX4 73 yX4_taken, Cond.instanceMethod yX4_taken, Cond.selects RX4 yX4_taken yX4_taken, Cond.code yX4_taken cX4_taken 6 (some .boolean), Cond.methodLink RX4 77 yX4_goes, Cond.instanceMethod yX4_goes, Cond.selects RX4 yX4_goes yX4_goes, Cond.code yX4_goes cX4_goes 3 (some .boolean), Cond.fieldLink RX4 62 "HullBuilderModel" "thrown" "I", Cond.methodLink RL 77 yX4_thrown, Cond.instanceMethod yX4_thrown, Cond.selects RX4 yX4_thrown yX4_thrown, Cond.code yX4_thrown cX4_thrown 1 (some .int), Cond.methodLink RL 80 yL_take, Cond.static yL_take, Cond.codeWith yL_take cL_take 4 (some .int) [(0, 9, 12, 21)]]
def wsL_law0_r6 : List Cond := [Cond.classLink RL 21 "java/lang/IndexOutOfBoundsException", Cond.methodLink RL 17 yX3_take, Cond.instanceMethod yX3_take, Cond.selects RX3 yX3_take yX3_take, Cond.code yX3_take cX3_take 2 (some .int), Cond.methodLink RX3 54 yX3_requirePlace, Cond.static yX3_requirePlace, Cond.code yX3_requirePlace cX3_requirePlace 2 none, Cond.classLink RX3 153 "java/lang/IndexOutOfBoundsException", Cond.initialized "java/lang/IndexOutOfBoundsException", Cond.instanceMethod yX2_remove, Cond.selects RX2 yX2_remove yX2_remove, Cond.code yX2_remove cX2_remove 3 none, Cond.methodLink RL 83 yX4_take, Cond.instanceMethod yX4_take, Cond.selects RX4 yX4_take yX4_take, Cond.code yX4_take cX4_take 3 (some .int), Cond.methodLink RL 84 yL_build, Cond.static yL_build, Cond.codeWith yL_build cL_build 3 (some .int) [(0, 8, 11, 15)], Cond.methodLink RL 23 yX3_build, Cond.instanceMethod yX3_build, Cond.selects RX3 yX3_build yX3_build, Cond.code yX3_build cX3_build 1 (some .int)]
def wsL_law0_r7 : List Cond := [Cond.instanceMethod yX1_wouldBeFlat, Cond.selects RX1 yX1_wouldBeFlat yX1_wouldBeFlat, Cond.code yX1_wouldBeFlat cX1_wouldBeFlat 3 (some .boolean), Cond.instanceMethod yX0_layThrough, Cond.selects RX0 yX0_layThrough yX0_layThrough, Cond.code yX0_layThrough cX0_layThrough 5 (some .boolean), Cond.fieldLink RX0 27 "HullBuilder$Face" "nx" "J", Cond.fieldLink RX0 34 "HullBuilder$Face" "ny" "J", Cond.fieldLink RX0 37 "HullBuilder$Face" "nz" "J", Cond.fieldLink RX0 40 "HullBuilder$Face" "distance" "J", Cond.static yX3_across, Cond.code yX3_across cX3_across 5 (some .long), Cond.instanceMethod yX0_holdsAll, Cond.selects RX0 yX0_holdsAll yX0_holdsAll, Cond.code yX0_holdsAll cX0_holdsAll 3 (some .boolean), Cond.methodLink RX0 47 yX0_heightOf, Cond.instanceMethod yX0_heightOf, Cond.selects RX0 yX0_heightOf yX0_heightOf, Cond.code yX0_heightOf cX0_heightOf 7 (some .long), Cond.instanceMethod yX1_wrap, Cond.selects RX1 yX1_wrap yX1_wrap, Cond.code yX1_wrap cX1_wrap 3 none, Cond.fieldLink RX1 65 "HullBuilder$Hull" "faceCount" "I", Cond.fieldLink RX1 68 "HullBuilder$Hull" "corners" "I"]
def wsL_law0_r8 : List Cond := [Cond.instanceMethod yX2_copyFrom, Cond.selects RX2 yX2_copyFrom yX2_copyFrom, Cond.code yX2_copyFrom cX2_copyFrom 3 none, Cond.methodLink RX1 59 yX1_findFaces, Cond.instanceMethod yX1_findFaces, Cond.selects RX1 yX1_findFaces yX1_findFaces, Cond.code yX1_findFaces cX1_findFaces 4 none, Cond.methodLink RX1 84 yX1_tryPlane, Cond.instanceMethod yX1_tryPlane, Cond.selects RX1 yX1_tryPlane yX1_tryPlane, Cond.code yX1_tryPlane cX1_tryPlane 5 none, Cond.methodLink RX1 88 yX1_lieInOneFace, Cond.instanceMethod yX1_lieInOneFace, Cond.selects RX1 yX1_lieInOneFace yX1_lieInOneFace, Cond.code yX1_lieInOneFace cX1_lieInOneFace 3 (some .boolean), Cond.instanceMethod yX0_turnOutside, Cond.selects RX0 yX0_turnOutside yX0_turnOutside, Cond.code yX0_turnOutside cX0_turnOutside 7 (some .boolean), Cond.fieldLink RX0 51 "HullBuilder$Face" "held" "I", Cond.instanceMethod yX0_shortenNormal, Cond.selects RX0 yX0_shortenNormal yX0_shortenNormal, Cond.code yX0_shortenNormal cX0_shortenNormal 3 none, Cond.static yX3_commonFactor, Cond.code yX3_commonFactor cX3_commonFactor 7 (some .long)]
def wsL_law0_r9 : List Cond := [Cond.methodLink RX1 62 yX1_findCorners, Cond.instanceMethod yX1_findCorners, Cond.selects RX1 yX1_findCorners yX1_findCorners, Cond.code yX1_findCorners cX1_findCorners 4 none, Cond.static yX3_holds, Cond.code yX3_holds cX3_holds 2 (some .boolean), Cond.instanceMethod yX0_goRound, Cond.selects RX0 yX0_goRound yX0_goRound, Cond.code yX0_goRound cX0_goRound 6 none, Cond.fieldLink RX0 64 "HullBuilder$Face" "size" "I", Cond.methodLink RX0 58 yJ6_numberOfTrailingZeros_0f7a4, Cond.static yJ6_numberOfTrailingZeros_0f7a4, Cond.initialized RJ6, Cond.code yJ6_numberOfTrailingZeros_0f7a4 cJ6_numberOfTrailingZeros_0f7a4 2 (some .int), Cond.constant RJ6 264 (65536), Cond.methodLink RX0 65 yJ6_bitCount_0f7a4, Cond.static yJ6_bitCount_0f7a4, Cond.code yJ6_bitCount_0f7a4 cJ6_bitCount_0f7a4 1 (some .int), Cond.constant RJ6 265 (1431655765), Cond.constant RJ6 266 (858993459), Cond.constant RJ6 267 (252645135), Cond.methodLink RX0 68 yX0_nextRound, Cond.instanceMethod yX0_nextRound, Cond.selects RX0 yX0_nextRound yX0_nextRound]
def wsL_law0_r10 : List Cond := [Cond.code yX0_nextRound cX0_nextRound 6 (some .int), Cond.methodLink RX0 76 yX0_isRight, Cond.instanceMethod yX0_isRight, Cond.selects RX0 yX0_isRight yX0_isRight, Cond.code yX0_isRight cX0_isRight 5 (some .boolean), Cond.methodLink RX1 75 yX1_orderFaces, Cond.instanceMethod yX1_orderFaces, Cond.selects RX1 yX1_orderFaces yX1_orderFaces, Cond.code yX1_orderFaces cX1_orderFaces 4 none, Cond.instanceMethod yX0_rank, Cond.selects RX0 yX0_rank yX0_rank, Cond.code yX0_rank cX0_rank 1 (some .int), Cond.static yX3_way, Cond.code yX3_way cX3_way 2 (some .int), Cond.methodLink RX1 78 yX1_findEdges, Cond.instanceMethod yX1_findEdges, Cond.selects RX1 yX1_findEdges yX1_findEdges, Cond.code yX1_findEdges cX1_findEdges 3 none, Cond.fieldLink RX1 112 "HullBuilder$Hull" "edgeCount" "I", Cond.methodLink RX1 109 yX1_noteWays, Cond.instanceMethod yX1_noteWays, Cond.selects RX1 yX1_noteWays yX1_noteWays, Cond.code yX1_noteWays cX1_noteWays 5 none, Cond.methodLink RX1 119 yJ7_fill_53178]
def wsL_law0_r11 : List Cond := [Cond.static yJ7_fill_53178, Cond.initialized RJ7, Cond.code yJ7_fill_53178 cJ7_fill_53178 4 none, Cond.methodLink RX1 81 yX1_measure, Cond.instanceMethod yX1_measure, Cond.selects RX1 yX1_measure yX1_measure, Cond.code yX1_measure cX1_measure 4 none, Cond.fieldLink RX1 129 "HullBuilder$Hull" "sixVolumes" "J", Cond.methodLink RX1 133 yJ7_fill_d0a16, Cond.static yJ7_fill_d0a16, Cond.code yJ7_fill_d0a16 cJ7_fill_d0a16 5 none, Cond.methodLink RX1 136 yX1_addTetrahedron, Cond.instanceMethod yX1_addTetrahedron, Cond.selects RX1 yX1_addTetrahedron yX1_addTetrahedron, Cond.code yX1_addTetrahedron cX1_addTetrahedron 6 none, Cond.methodLink RL 87 yX4_build, Cond.instanceMethod yX4_build, Cond.selects RX4 yX4_build yX4_build, Cond.code yX4_build cX4_build 5 (some .int), Cond.fieldLink RX4 98 "HullBuilderModel" "held" "I", Cond.fieldLink RX4 91 "HullBuilderModel" "faces" "I", Cond.fieldLink RX4 159 "HullBuilderModel" "built" "Z", Cond.fieldLink RX4 163 "HullBuilderModel" "builds" "I", Cond.methodLink RX4 142 yX4_solid]
def wsL_law0_r12 : List Cond := [Cond.instanceMethod yX4_solid, Cond.selects RX4 yX4_solid yX4_solid, Cond.code yX4_solid cX4_solid 6 (some .boolean), Cond.methodLink RX4 138 yX4_volumeOf, Cond.instanceMethod yX4_volumeOf, Cond.selects RX4 yX4_volumeOf yX4_volumeOf, Cond.code yX4_volumeOf cX4_volumeOf 23 (some .long), Cond.methodLink RX4 146 yX4_tries, Cond.instanceMethod yX4_tries, Cond.selects RX4 yX4_tries yX4_tries, Cond.code yX4_tries cX4_tries 10 (some .boolean), Cond.fieldLink RX4 81 "HullBuilderModel" "tx" "J", Cond.fieldLink RX4 85 "HullBuilderModel" "ty" "J", Cond.fieldLink RX4 88 "HullBuilderModel" "tz" "J", Cond.constantLong RX4 105 (-1), Cond.methodLink RX4 94 yX4_across, Cond.instanceMethod yX4_across, Cond.selects RX4 yX4_across yX4_across, Cond.code yX4_across cX4_across 16 none, Cond.methodLink RX4 101 yX4_above, Cond.instanceMethod yX4_above, Cond.selects RX4 yX4_above yX4_above, Cond.code yX4_above cX4_above 3 (some .long), Cond.methodLink RX4 107 yX4_common]
def wsL_law0_r13 : List Cond := [Cond.static yX4_common, Cond.code yX4_common cX4_common 11 (some .long), Cond.methodLink RX4 111 yX4_addFace, Cond.instanceMethod yX4_addFace, Cond.selects RX4 yX4_addFace yX4_addFace, Cond.code yX4_addFace cX4_addFace 3 none, Cond.methodLink RX4 115 yX4_knownFace, Cond.instanceMethod yX4_knownFace, Cond.selects RX4 yX4_knownFace yX4_knownFace, Cond.code yX4_knownFace cX4_knownFace 5 (some .boolean), Cond.methodLink RX4 149 yX4_walk, Cond.instanceMethod yX4_walk, Cond.selects RX4 yX4_walk yX4_walk, Cond.code yX4_walk cX4_walk 6 none, Cond.methodLink RX4 119 yX4_in, Cond.instanceMethod yX4_in, Cond.selects RX4 yX4_in yX4_in, Cond.code yX4_in cX4_in 3 (some .boolean), Cond.methodLink RX4 125 yX4_behind, Cond.instanceMethod yX4_behind, Cond.selects RX4 yX4_behind yX4_behind, Cond.code yX4_behind cX4_behind 4 (some .int), Cond.methodLink RX4 122 yX4_goesOn, Cond.instanceMethod yX4_goesOn]
def wsL_law0_r14 : List Cond := [Cond.selects RX4 yX4_goesOn yX4_goesOn, Cond.code yX4_goesOn cX4_goesOn 10 (some .boolean), Cond.methodLink RX4 153 yX4_orderFaces, Cond.instanceMethod yX4_orderFaces, Cond.selects RX4 yX4_orderFaces yX4_orderFaces, Cond.code yX4_orderFaces cX4_orderFaces 3 none, Cond.methodLink RX4 129 yX4_earlier, Cond.instanceMethod yX4_earlier, Cond.selects RX4 yX4_earlier yX4_earlier, Cond.code yX4_earlier cX4_earlier 5 (some .boolean), Cond.methodLink RX4 156 yX4_findEdges, Cond.instanceMethod yX4_findEdges, Cond.selects RX4 yX4_findEdges yX4_findEdges, Cond.code yX4_findEdges cX4_findEdges 4 none, Cond.fieldLink RX4 132 "HullBuilderModel" "edges" "I", Cond.methodLink RX4 135 yX4_faceFrom, Cond.instanceMethod yX4_faceFrom, Cond.selects RX4 yX4_faceFrom yX4_faceFrom, Cond.code yX4_faceFrom cX4_faceFrom 8 (some .int), Cond.methodLink RL 88 yL_of, Cond.static yL_of, Cond.codeWith yL_of cL_of 5 (some .int) [(0, 10, 13, 21)], Cond.methodLink RL 27 yX3_of, Cond.instanceMethod yX3_of]
def wsL_law0_r15 : List Cond := [Cond.selects RX3 yX3_of yX3_of, Cond.code yX3_of cX3_of 3 (some .int), Cond.instanceMethod yX2_coordinate, Cond.selects RX2 yX2_coordinate yX2_coordinate, Cond.code yX2_coordinate cX2_coordinate 3 (some .int), Cond.methodLink RL 91 yX4_of, Cond.instanceMethod yX4_of, Cond.selects RX4 yX4_of yX4_of, Cond.code yX4_of cX4_of 3 (some .int), Cond.methodLink RL 92 yL_face, Cond.static yL_face, Cond.codeWith yL_face cL_face 5 (some .int) [(0, 10, 13, 15), (0, 10, 17, 21)], Cond.methodLink RL 31 yX3_face, Cond.instanceMethod yX3_face, Cond.selects RX3 yX3_face yX3_face, Cond.code yX3_face cX3_face 4 (some .int), Cond.methodLink RX3 79 yX3_requireHull, Cond.instanceMethod yX3_requireHull, Cond.selects RX3 yX3_requireHull yX3_requireHull, Cond.code yX3_requireHull cX3_requireHull 1 none, Cond.methodLink RL 94 yX4_face, Cond.instanceMethod yX4_face, Cond.selects RX4 yX4_face yX4_face, Cond.code yX4_face cX4_face 4 (some .int)]
def wsL_law0_r16 : List Cond := [Cond.methodLink RX4 166 yX4_there, Cond.instanceMethod yX4_there, Cond.selects RX4 yX4_there yX4_there, Cond.code yX4_there cX4_there 2 (some .boolean), Cond.methodLink RL 95 yL_offset, Cond.static yL_offset, Cond.codeWith yL_offset cL_offset 4 (some .int) [(0, 8, 11, 15), (0, 8, 14, 21)], Cond.methodLink RL 34 yX3_offset, Cond.instanceMethod yX3_offset, Cond.selects RX3 yX3_offset yX3_offset, Cond.code yX3_offset cX3_offset 2 (some .long), Cond.methodLink RL 97 yX4_offset, Cond.instanceMethod yX4_offset, Cond.selects RX4 yX4_offset yX4_offset, Cond.code yX4_offset cX4_offset 2 (some .long), Cond.methodLink RL 98 yL_corner, Cond.static yL_corner, Cond.codeWith yL_corner cL_corner 5 (some .int) [(0, 10, 13, 15), (0, 10, 17, 21)], Cond.methodLink RL 38 yX3_corner, Cond.instanceMethod yX3_corner, Cond.selects RX3 yX3_corner yX3_corner, Cond.code yX3_corner cX3_corner 3 (some .int), Cond.methodLink RL 100 yX4_corner, Cond.instanceMethod yX4_corner]
def wsL_law0_r17 : List Cond := [Cond.selects RX4 yX4_corner yX4_corner, Cond.code yX4_corner cX4_corner 3 (some .int), Cond.methodLink RL 101 yL_edge, Cond.static yL_edge, Cond.codeWith yL_edge cL_edge 5 (some .int) [(0, 10, 13, 15), (0, 10, 17, 21)], Cond.methodLink RL 41 yX3_edge, Cond.instanceMethod yX3_edge, Cond.selects RX3 yX3_edge yX3_edge, Cond.code yX3_edge cX3_edge 5 (some .int), Cond.methodLink RX3 118 yX3_way, Cond.methodLink RL 103 yX4_edge, Cond.instanceMethod yX4_edge, Cond.selects RX4 yX4_edge yX4_edge, Cond.code yX4_edge cX4_edge 3 (some .int), Cond.methodLink RL 104 yL_support, Cond.static yL_support, Cond.codeWith yL_support cL_support 6 (some .int) [(0, 12, 15, 15), (0, 12, 19, 13)], Cond.methodLink RL 44 yX3_support, Cond.instanceMethod yX3_support, Cond.selects RX3 yX3_support yX3_support, Cond.code yX3_support cX3_support 4 (some .int), Cond.constant RX3 121 (65536), Cond.instanceMethod yX1_furthest, Cond.selects RX1 yX1_furthest yX1_furthest]
def wsL_law0_r18 : List Cond := [Cond.code yX1_furthest cX1_furthest 13 (some .int), Cond.methodLink RL 106 yX4_support, Cond.instanceMethod yX4_support, Cond.selects RX4 yX4_support yX4_support, Cond.code yX4_support cX4_support 10 (some .int), Cond.constant RX4 170 (65536), Cond.methodLink RX4 171 yX4_isCorner, Cond.instanceMethod yX4_isCorner, Cond.selects RX4 yX4_isCorner yX4_isCorner, Cond.code yX4_isCorner cX4_isCorner 4 (some .boolean), Cond.methodLink RL 107 yL_steps, Cond.static yL_steps, Cond.codeWith yL_steps cL_steps 5 (some .int) [(0, 10, 13, 15), (0, 10, 17, 21)], Cond.methodLink RL 47 yX3_steps, Cond.instanceMethod yX3_steps, Cond.selects RX3 yX3_steps yX3_steps, Cond.code yX3_steps cX3_steps 3 (some .int), Cond.methodLink RX3 126 yX3_requireCorner, Cond.instanceMethod yX3_requireCorner, Cond.selects RX3 yX3_requireCorner yX3_requireCorner, Cond.code yX3_requireCorner cX3_requireCorner 2 none, Cond.methodLink RX3 160 yX3_holds, Cond.instanceMethod yX1_walk, Cond.selects RX1 yX1_walk yX1_walk]
def wsL_law0_r19 : List Cond := [Cond.code yX1_walk cX1_walk 5 (some .int), Cond.methodLink RX1 148 yX1_stepFrom, Cond.instanceMethod yX1_stepFrom, Cond.selects RX1 yX1_stepFrom yX1_stepFrom, Cond.code yX1_stepFrom cX1_stepFrom 5 (some .int), Cond.methodLink RL 109 yX4_steps, Cond.instanceMethod yX4_steps, Cond.selects RX4 yX4_steps yX4_steps, Cond.code yX4_steps cX4_steps 8 (some .int), Cond.methodLink RL 110 yL_side, Cond.static yL_side, Cond.codeWith yL_side cL_side 6 (some .int) [(0, 12, 15, 15), (0, 12, 19, 13)], Cond.methodLink RL 50 yX3_side, Cond.instanceMethod yX3_side, Cond.selects RX3 yX3_side yX3_side, Cond.code yX3_side cX3_side 4 (some .int), Cond.instanceMethod yX1_locate, Cond.selects RX1 yX1_locate yX1_locate, Cond.code yX1_locate cX1_locate 8 (some .int), Cond.methodLink RL 112 yX4_side, Cond.instanceMethod yX4_side, Cond.selects RX4 yX4_side yX4_side, Cond.code yX4_side cX4_side 8 (some .int), Cond.methodLink RL 113 yL_volume]
def wsL_law0_r20 : List Cond := [Cond.static yL_volume, Cond.codeWith yL_volume cL_volume 3 (some .int) [(0, 7, 10, 15)], Cond.methodLink RL 53 yX3_volume, Cond.instanceMethod yX3_volume, Cond.selects RX3 yX3_volume yX3_volume, Cond.code yX3_volume cX3_volume 1 (some .long), Cond.methodLink RL 115 yX4_volume, Cond.instanceMethod yX4_volume, Cond.selects RX4 yX4_volume yX4_volume, Cond.code yX4_volume cX4_volume 1 (some .long), Cond.methodLink RX4 174 yX4_sum, Cond.instanceMethod yX4_sum, Cond.selects RX4 yX4_sum yX4_sum, Cond.code yX4_sum cX4_sum 13 (some .long), Cond.methodLink RL 116 yL_centre, Cond.static yL_centre, Cond.codeWith yL_centre cL_centre 4 (some .int) [(0, 8, 11, 15), (0, 8, 14, 21)], Cond.methodLink RL 57 yX3_centre, Cond.instanceMethod yX3_centre, Cond.selects RX3 yX3_centre yX3_centre, Cond.code yX3_centre cX3_centre 2 (some .long), Cond.methodLink RL 118 yX4_centre, Cond.instanceMethod yX4_centre, Cond.selects RX4 yX4_centre yX4_centre]
def wsL_law0_r21 : List Cond := [Cond.code yX4_centre cX4_centre 2 (some .long), Cond.methodLink RL 119 yL_middle, Cond.static yL_middle, Cond.codeWith yL_middle cL_middle 4 (some .int) [(0, 8, 11, 15), (0, 8, 14, 21)], Cond.methodLink RL 60 yX3_middle, Cond.instanceMethod yX3_middle, Cond.selects RX3 yX3_middle yX3_middle, Cond.code yX3_middle cX3_middle 4 (some .double), Cond.constantDouble RX3 142 (4616189618054758400), Cond.methodLink RL 122 yX4_middle, Cond.instanceMethod yX4_middle, Cond.selects RX4 yX4_middle yX4_middle, Cond.code yX4_middle cX4_middle 6 (some .double), Cond.constantLong RX4 178 (4), Cond.methodLink RL 123 yL_count, Cond.static yL_count, Cond.codeWith yL_count cL_count 4 (some .int) [(0, 9, 12, 21)], Cond.methodLink RL 64 yX3_count, Cond.instanceMethod yX3_count, Cond.selects RX3 yX3_count yX3_count, Cond.code yX3_count cX3_count 2 (some .int), Cond.methodLink RX3 147 yJ6_bitCount_0f7a4, Cond.methodLink RL 125 yX4_count, Cond.instanceMethod yX4_count]
def wsL_law0_r22 : List Cond := [Cond.selects RX4 yX4_count yX4_count, Cond.code yX4_count cX4_count 4 (some .int)]
def wsL_law0 : List Cond := (wsL_law0_r1 ++ (wsL_law0_r2 ++ (wsL_law0_r3 ++ (wsL_law0_r4 ++ (wsL_law0_r5 ++ (wsL_law0_r6 ++ (wsL_law0_r7 ++ (wsL_law0_r8 ++ (wsL_law0_r9 ++ (wsL_law0_r10 ++ (wsL_law0_r11 ++ (wsL_law0_r12 ++ (wsL_law0_r13 ++ (wsL_law0_r14 ++ (wsL_law0_r15 ++ (wsL_law0_r16 ++ (wsL_law0_r17 ++ (wsL_law0_r18 ++ (wsL_law0_r19 ++ (wsL_law0_r20 ++ (wsL_law0_r21 ++ wsL_law0_r22))))))))))))))))))))) ++ wsX30 ++ wsX40 ++ wsX20 ++ wsX10 ++ wsX00 ++ ([] : List Cond)
def wsL_law : List Cond := wsL_law0 ++ (vx_atS RX3 39 "java/lang/IllegalArgumentException" ["java/lang/RuntimeException", "java/lang/Exception"]).filter goodWord ++ (vx_atS RX3 49 "java/lang/IllegalStateException" ["java/lang/RuntimeException", "java/lang/Exception"]).filter goodWord ++ (vx_atS RX3 157 "java/lang/IndexOutOfBoundsException" ["java/lang/RuntimeException", "java/lang/Exception"]).filter goodWord
theorem inlX0 : ∀ w ∈ wsX00, w ∈ wsL_law := fun _ h => List.mem_append_left _ (List.mem_append_left _ (List.mem_append_left _ (List.mem_append_left _ (List.mem_append_right _ h))))
theorem inlX1 : ∀ w ∈ wsX10, w ∈ wsL_law := fun _ h => List.mem_append_left _ (List.mem_append_left _ (List.mem_append_left _ (List.mem_append_left _ (List.mem_append_left _ (List.mem_append_right _ h)))))
theorem inlX2 : ∀ w ∈ wsX20, w ∈ wsL_law := fun _ h => List.mem_append_left _ (List.mem_append_left _ (List.mem_append_left _ (List.mem_append_left _ (List.mem_append_left _ (List.mem_append_left _ (List.mem_append_right _ h))))))
theorem inlX3 : ∀ w ∈ wsX30, w ∈ wsL_law := fun _ h => List.mem_append_left _ (List.mem_append_left _ (List.mem_append_left _ (List.mem_append_left _ (List.mem_append_left _ (List.mem_append_left _ (List.mem_append_left _ (List.mem_append_left _ (List.mem_append_right _ h))))))))
theorem inlX4 : ∀ w ∈ wsX40, w ∈ wsL_law := fun _ h => List.mem_append_left _ (List.mem_append_left _ (List.mem_append_left _ (List.mem_append_left _ (List.mem_append_left _ (List.mem_append_left _ (List.mem_append_left _ (List.mem_append_right _ h)))))))
theorem dX0_init_0 : decode cX0_init 0 = .ok (.aload_n 0, 1) := by decide +kernel
theorem dX0_init_1 : decode cX0_init 1 = .ok (.invokespecial 3, 3) := by decide +kernel
theorem dX0_init_4 : decode cX0_init 4 = .ok (.aload_n 0, 1) := by decide +kernel
theorem dX0_init_5 : decode cX0_init 5 = .ok (.bipush 24, 2) := by decide +kernel
theorem dX0_init_7 : decode cX0_init 7 = .ok (.newarray .int, 2) := by decide +kernel
theorem dX0_init_9 : decode cX0_init 9 = .ok (.putfield 9, 3) := by decide +kernel
theorem dX0_init_12 : decode cX0_init 12 = .ok (.return_, 1) := by decide +kernel
set_option maxRecDepth 20000 in
theorem ggX0_layThrough_X3_across : GoodIn wsX0_layThrough wsX3_across := goodIn_r _ [7] (by decide +kernel) (by decide +kernel)
set_option maxRecDepth 20000 in
theorem gX0_layThrough_X3_across_n23 : GoodIn wsX0_layThrough (wsX3_across) := ggX0_layThrough_X3_across
theorem dX0_layThrough_0 : decode cX0_layThrough 0 = .ok (.aload_n 0, 1) := by decide +kernel
theorem dX0_layThrough_1 : decode cX0_layThrough 1 = .ok (.aload_n 1, 1) := by decide +kernel
theorem dX0_layThrough_2 : decode cX0_layThrough 2 = .ok (.getfield 15, 3) := by decide +kernel
theorem dX0_layThrough_5 : decode cX0_layThrough 5 = .ok (.aload_n 1, 1) := by decide +kernel
theorem dX0_layThrough_6 : decode cX0_layThrough 6 = .ok (.getfield 20, 3) := by decide +kernel
theorem dX0_layThrough_9 : decode cX0_layThrough 9 = .ok (.iload_n 2, 1) := by decide +kernel
theorem dX0_layThrough_10 : decode cX0_layThrough 10 = .ok (.iload_n 3, 1) := by decide +kernel
theorem dX0_layThrough_11 : decode cX0_layThrough 11 = .ok (.iload 4, 2) := by decide +kernel
theorem dX0_layThrough_13 : decode cX0_layThrough 13 = .ok (.invokestatic 23, 3) := by decide +kernel
theorem dX0_layThrough_16 : decode cX0_layThrough 16 = .ok (.putfield 27, 3) := by decide +kernel
theorem dX0_layThrough_19 : decode cX0_layThrough 19 = .ok (.aload_n 0, 1) := by decide +kernel
theorem dX0_layThrough_20 : decode cX0_layThrough 20 = .ok (.aload_n 1, 1) := by decide +kernel
theorem dX0_layThrough_21 : decode cX0_layThrough 21 = .ok (.getfield 20, 3) := by decide +kernel
theorem dX0_layThrough_24 : decode cX0_layThrough 24 = .ok (.aload_n 1, 1) := by decide +kernel
theorem dX0_layThrough_25 : decode cX0_layThrough 25 = .ok (.getfield 31, 3) := by decide +kernel
theorem dX0_layThrough_28 : decode cX0_layThrough 28 = .ok (.iload_n 2, 1) := by decide +kernel
theorem dX0_layThrough_29 : decode cX0_layThrough 29 = .ok (.iload_n 3, 1) := by decide +kernel
theorem dX0_layThrough_30 : decode cX0_layThrough 30 = .ok (.iload 4, 2) := by decide +kernel
theorem dX0_layThrough_32 : decode cX0_layThrough 32 = .ok (.invokestatic 23, 3) := by decide +kernel
theorem dX0_layThrough_35 : decode cX0_layThrough 35 = .ok (.putfield 34, 3) := by decide +kernel
theorem dX0_layThrough_38 : decode cX0_layThrough 38 = .ok (.aload_n 0, 1) := by decide +kernel
theorem dX0_layThrough_39 : decode cX0_layThrough 39 = .ok (.aload_n 1, 1) := by decide +kernel
theorem dX0_layThrough_40 : decode cX0_layThrough 40 = .ok (.getfield 31, 3) := by decide +kernel
theorem dX0_layThrough_43 : decode cX0_layThrough 43 = .ok (.aload_n 1, 1) := by decide +kernel
theorem dX0_layThrough_44 : decode cX0_layThrough 44 = .ok (.getfield 15, 3) := by decide +kernel
theorem dX0_layThrough_47 : decode cX0_layThrough 47 = .ok (.iload_n 2, 1) := by decide +kernel
theorem dX0_layThrough_48 : decode cX0_layThrough 48 = .ok (.iload_n 3, 1) := by decide +kernel
theorem dX0_layThrough_49 : decode cX0_layThrough 49 = .ok (.iload 4, 2) := by decide +kernel
theorem dX0_layThrough_51 : decode cX0_layThrough 51 = .ok (.invokestatic 23, 3) := by decide +kernel
theorem dX0_layThrough_54 : decode cX0_layThrough 54 = .ok (.putfield 37, 3) := by decide +kernel
theorem dX0_layThrough_57 : decode cX0_layThrough 57 = .ok (.aload_n 0, 1) := by decide +kernel
theorem dX0_layThrough_58 : decode cX0_layThrough 58 = .ok (.aload_n 0, 1) := by decide +kernel
theorem dX0_layThrough_59 : decode cX0_layThrough 59 = .ok (.getfield 27, 3) := by decide +kernel
theorem dX0_layThrough_62 : decode cX0_layThrough 62 = .ok (.aload_n 1, 1) := by decide +kernel
theorem dX0_layThrough_63 : decode cX0_layThrough 63 = .ok (.getfield 31, 3) := by decide +kernel
theorem dX0_layThrough_66 : decode cX0_layThrough 66 = .ok (.iload_n 2, 1) := by decide +kernel
theorem dX0_layThrough_67 : decode cX0_layThrough 67 = .ok (.iaload, 1) := by decide +kernel
theorem dX0_layThrough_68 : decode cX0_layThrough 68 = .ok (.i2l, 1) := by decide +kernel
theorem dX0_layThrough_69 : decode cX0_layThrough 69 = .ok (.lmul, 1) := by decide +kernel
theorem dX0_layThrough_70 : decode cX0_layThrough 70 = .ok (.aload_n 0, 1) := by decide +kernel
theorem dX0_layThrough_71 : decode cX0_layThrough 71 = .ok (.getfield 34, 3) := by decide +kernel
theorem dX0_layThrough_74 : decode cX0_layThrough 74 = .ok (.aload_n 1, 1) := by decide +kernel
theorem dX0_layThrough_75 : decode cX0_layThrough 75 = .ok (.getfield 15, 3) := by decide +kernel
theorem dX0_layThrough_78 : decode cX0_layThrough 78 = .ok (.iload_n 2, 1) := by decide +kernel
theorem dX0_layThrough_79 : decode cX0_layThrough 79 = .ok (.iaload, 1) := by decide +kernel
theorem dX0_layThrough_80 : decode cX0_layThrough 80 = .ok (.i2l, 1) := by decide +kernel
theorem dX0_layThrough_81 : decode cX0_layThrough 81 = .ok (.lmul, 1) := by decide +kernel
theorem dX0_layThrough_82 : decode cX0_layThrough 82 = .ok (.ladd, 1) := by decide +kernel
theorem dX0_layThrough_83 : decode cX0_layThrough 83 = .ok (.aload_n 0, 1) := by decide +kernel
theorem dX0_layThrough_84 : decode cX0_layThrough 84 = .ok (.getfield 37, 3) := by decide +kernel
theorem dX0_layThrough_87 : decode cX0_layThrough 87 = .ok (.aload_n 1, 1) := by decide +kernel
theorem dX0_layThrough_88 : decode cX0_layThrough 88 = .ok (.getfield 20, 3) := by decide +kernel
theorem dX0_layThrough_91 : decode cX0_layThrough 91 = .ok (.iload_n 2, 1) := by decide +kernel
theorem dX0_layThrough_92 : decode cX0_layThrough 92 = .ok (.iaload, 1) := by decide +kernel
theorem dX0_layThrough_93 : decode cX0_layThrough 93 = .ok (.i2l, 1) := by decide +kernel
theorem dX0_layThrough_94 : decode cX0_layThrough 94 = .ok (.lmul, 1) := by decide +kernel
theorem dX0_layThrough_95 : decode cX0_layThrough 95 = .ok (.ladd, 1) := by decide +kernel
theorem dX0_layThrough_96 : decode cX0_layThrough 96 = .ok (.putfield 40, 3) := by decide +kernel
theorem dX0_layThrough_99 : decode cX0_layThrough 99 = .ok (.aload_n 0, 1) := by decide +kernel
theorem dX0_layThrough_100 : decode cX0_layThrough 100 = .ok (.getfield 27, 3) := by decide +kernel
theorem dX0_layThrough_103 : decode cX0_layThrough 103 = .ok (.lconst 0, 1) := by decide +kernel
theorem dX0_layThrough_104 : decode cX0_layThrough 104 = .ok (.lcmp, 1) := by decide +kernel
theorem dX0_layThrough_105 : decode cX0_layThrough 105 = .ok (.ifCond .ne 21, 3) := by decide +kernel
theorem dX0_layThrough_108 : decode cX0_layThrough 108 = .ok (.aload_n 0, 1) := by decide +kernel
theorem dX0_layThrough_109 : decode cX0_layThrough 109 = .ok (.getfield 34, 3) := by decide +kernel
theorem dX0_layThrough_112 : decode cX0_layThrough 112 = .ok (.lconst 0, 1) := by decide +kernel
theorem dX0_layThrough_113 : decode cX0_layThrough 113 = .ok (.lcmp, 1) := by decide +kernel
theorem dX0_layThrough_114 : decode cX0_layThrough 114 = .ok (.ifCond .ne 12, 3) := by decide +kernel
theorem dX0_layThrough_117 : decode cX0_layThrough 117 = .ok (.aload_n 0, 1) := by decide +kernel
theorem dX0_layThrough_118 : decode cX0_layThrough 118 = .ok (.getfield 37, 3) := by decide +kernel
theorem dX0_layThrough_121 : decode cX0_layThrough 121 = .ok (.lconst 0, 1) := by decide +kernel
theorem dX0_layThrough_122 : decode cX0_layThrough 122 = .ok (.lcmp, 1) := by decide +kernel
theorem dX0_layThrough_123 : decode cX0_layThrough 123 = .ok (.ifCond .eq 7, 3) := by decide +kernel
theorem dX0_layThrough_126 : decode cX0_layThrough 126 = .ok (.iconst 1, 1) := by decide +kernel
theorem dX0_layThrough_127 : decode cX0_layThrough 127 = .ok (.goto 4, 3) := by decide +kernel
theorem dX0_layThrough_130 : decode cX0_layThrough 130 = .ok (.iconst 0, 1) := by decide +kernel
theorem dX0_layThrough_131 : decode cX0_layThrough 131 = .ok (.ireturn, 1) := by decide +kernel
theorem dX0_heightOf_0 : decode cX0_heightOf 0 = .ok (.aload_n 0, 1) := by decide +kernel
theorem dX0_heightOf_1 : decode cX0_heightOf 1 = .ok (.getfield 27, 3) := by decide +kernel
theorem dX0_heightOf_4 : decode cX0_heightOf 4 = .ok (.lload_n 1, 1) := by decide +kernel
theorem dX0_heightOf_5 : decode cX0_heightOf 5 = .ok (.lmul, 1) := by decide +kernel
theorem dX0_heightOf_6 : decode cX0_heightOf 6 = .ok (.aload_n 0, 1) := by decide +kernel
theorem dX0_heightOf_7 : decode cX0_heightOf 7 = .ok (.getfield 34, 3) := by decide +kernel
theorem dX0_heightOf_10 : decode cX0_heightOf 10 = .ok (.lload_n 3, 1) := by decide +kernel
theorem dX0_heightOf_11 : decode cX0_heightOf 11 = .ok (.lmul, 1) := by decide +kernel
theorem dX0_heightOf_12 : decode cX0_heightOf 12 = .ok (.ladd, 1) := by decide +kernel
theorem dX0_heightOf_13 : decode cX0_heightOf 13 = .ok (.aload_n 0, 1) := by decide +kernel
theorem dX0_heightOf_14 : decode cX0_heightOf 14 = .ok (.getfield 37, 3) := by decide +kernel
theorem dX0_heightOf_17 : decode cX0_heightOf 17 = .ok (.lload 5, 2) := by decide +kernel
theorem dX0_heightOf_19 : decode cX0_heightOf 19 = .ok (.lmul, 1) := by decide +kernel
theorem dX0_heightOf_20 : decode cX0_heightOf 20 = .ok (.ladd, 1) := by decide +kernel
theorem dX0_heightOf_21 : decode cX0_heightOf 21 = .ok (.aload_n 0, 1) := by decide +kernel
theorem dX0_heightOf_22 : decode cX0_heightOf 22 = .ok (.getfield 40, 3) := by decide +kernel
theorem dX0_heightOf_25 : decode cX0_heightOf 25 = .ok (.lsub, 1) := by decide +kernel
theorem dX0_heightOf_26 : decode cX0_heightOf 26 = .ok (.lreturn, 1) := by decide +kernel
set_option maxRecDepth 20000 in
theorem ggX0_holdsAll_X0_heightOf : GoodIn wsX0_holdsAll wsX0_heightOf := goodIn_r _ [5, 6, 7, 8, 9, 14, 15, 16, 17, 18, 19, 20] (by decide +kernel) (by decide +kernel)
set_option maxRecDepth 20000 in
theorem gX0_holdsAll_X0_heightOf : GoodIn wsX0_holdsAll (wsV RX0 47 RX0 yX0_heightOf wsX0_heightOf) := goodIn_app (goodIn_of _ (by decide +kernel)) ggX0_holdsAll_X0_heightOf
theorem dX0_holdsAll_0 : decode cX0_holdsAll 0 = .ok (.iconst 0, 1) := by decide +kernel
theorem dX0_holdsAll_1 : decode cX0_holdsAll 1 = .ok (.istore_n 2, 1) := by decide +kernel
theorem dX0_holdsAll_2 : decode cX0_holdsAll 2 = .ok (.iload_n 2, 1) := by decide +kernel
theorem dX0_holdsAll_3 : decode cX0_holdsAll 3 = .ok (.aload_n 1, 1) := by decide +kernel
theorem dX0_holdsAll_4 : decode cX0_holdsAll 4 = .ok (.getfield 43, 3) := by decide +kernel
theorem dX0_holdsAll_7 : decode cX0_holdsAll 7 = .ok (.if_icmp .ge 41, 3) := by decide +kernel
theorem dX0_holdsAll_10 : decode cX0_holdsAll 10 = .ok (.aload_n 0, 1) := by decide +kernel
theorem dX0_holdsAll_11 : decode cX0_holdsAll 11 = .ok (.aload_n 1, 1) := by decide +kernel
theorem dX0_holdsAll_12 : decode cX0_holdsAll 12 = .ok (.getfield 31, 3) := by decide +kernel
theorem dX0_holdsAll_15 : decode cX0_holdsAll 15 = .ok (.iload_n 2, 1) := by decide +kernel
theorem dX0_holdsAll_16 : decode cX0_holdsAll 16 = .ok (.iaload, 1) := by decide +kernel
theorem dX0_holdsAll_17 : decode cX0_holdsAll 17 = .ok (.i2l, 1) := by decide +kernel
theorem dX0_holdsAll_18 : decode cX0_holdsAll 18 = .ok (.aload_n 1, 1) := by decide +kernel
theorem dX0_holdsAll_19 : decode cX0_holdsAll 19 = .ok (.getfield 15, 3) := by decide +kernel
theorem dX0_holdsAll_22 : decode cX0_holdsAll 22 = .ok (.iload_n 2, 1) := by decide +kernel
theorem dX0_holdsAll_23 : decode cX0_holdsAll 23 = .ok (.iaload, 1) := by decide +kernel
theorem dX0_holdsAll_24 : decode cX0_holdsAll 24 = .ok (.i2l, 1) := by decide +kernel
theorem dX0_holdsAll_25 : decode cX0_holdsAll 25 = .ok (.aload_n 1, 1) := by decide +kernel
theorem dX0_holdsAll_26 : decode cX0_holdsAll 26 = .ok (.getfield 20, 3) := by decide +kernel
theorem dX0_holdsAll_29 : decode cX0_holdsAll 29 = .ok (.iload_n 2, 1) := by decide +kernel
theorem dX0_holdsAll_30 : decode cX0_holdsAll 30 = .ok (.iaload, 1) := by decide +kernel
theorem dX0_holdsAll_31 : decode cX0_holdsAll 31 = .ok (.i2l, 1) := by decide +kernel
theorem dX0_holdsAll_32 : decode cX0_holdsAll 32 = .ok (.invokevirtual 47, 3) := by decide +kernel
theorem dX0_holdsAll_35 : decode cX0_holdsAll 35 = .ok (.lconst 0, 1) := by decide +kernel
theorem dX0_holdsAll_36 : decode cX0_holdsAll 36 = .ok (.lcmp, 1) := by decide +kernel
theorem dX0_holdsAll_37 : decode cX0_holdsAll 37 = .ok (.ifCond .eq 5, 3) := by decide +kernel
theorem dX0_holdsAll_40 : decode cX0_holdsAll 40 = .ok (.iconst 0, 1) := by decide +kernel
theorem dX0_holdsAll_41 : decode cX0_holdsAll 41 = .ok (.ireturn, 1) := by decide +kernel
theorem dX0_holdsAll_42 : decode cX0_holdsAll 42 = .ok (.iinc 2 1, 3) := by decide +kernel
theorem dX0_holdsAll_45 : decode cX0_holdsAll 45 = .ok (.goto (-43), 3) := by decide +kernel
theorem dX0_holdsAll_48 : decode cX0_holdsAll 48 = .ok (.iconst 1, 1) := by decide +kernel
theorem dX0_holdsAll_49 : decode cX0_holdsAll 49 = .ok (.ireturn, 1) := by decide +kernel
set_option maxRecDepth 20000 in
theorem ggX0_turnOutside_X0_heightOf : GoodIn wsX0_turnOutside wsX0_heightOf := goodIn_r _ [10, 2, 3, 4, 5, 11, 12, 13, 14, 15, 16, 17] (by decide +kernel) (by decide +kernel)
set_option maxRecDepth 20000 in
theorem gX0_turnOutside_X0_heightOf : GoodIn wsX0_turnOutside (wsV RX0 47 RX0 yX0_heightOf wsX0_heightOf) := goodIn_app (goodIn_of _ (by decide +kernel)) ggX0_turnOutside_X0_heightOf
theorem dX0_turnOutside_0 : decode cX0_turnOutside 0 = .ok (.iconst 0, 1) := by decide +kernel
theorem dX0_turnOutside_1 : decode cX0_turnOutside 1 = .ok (.istore_n 2, 1) := by decide +kernel
theorem dX0_turnOutside_2 : decode cX0_turnOutside 2 = .ok (.iconst 0, 1) := by decide +kernel
theorem dX0_turnOutside_3 : decode cX0_turnOutside 3 = .ok (.istore_n 3, 1) := by decide +kernel
theorem dX0_turnOutside_4 : decode cX0_turnOutside 4 = .ok (.aload_n 0, 1) := by decide +kernel
theorem dX0_turnOutside_5 : decode cX0_turnOutside 5 = .ok (.iconst 0, 1) := by decide +kernel
theorem dX0_turnOutside_6 : decode cX0_turnOutside 6 = .ok (.putfield 51, 3) := by decide +kernel
theorem dX0_turnOutside_9 : decode cX0_turnOutside 9 = .ok (.iconst 0, 1) := by decide +kernel
theorem dX0_turnOutside_10 : decode cX0_turnOutside 10 = .ok (.istore 4, 2) := by decide +kernel
theorem dX0_turnOutside_12 : decode cX0_turnOutside 12 = .ok (.iload 4, 2) := by decide +kernel
theorem dX0_turnOutside_14 : decode cX0_turnOutside 14 = .ok (.aload_n 1, 1) := by decide +kernel
theorem dX0_turnOutside_15 : decode cX0_turnOutside 15 = .ok (.getfield 43, 3) := by decide +kernel
theorem dX0_turnOutside_18 : decode cX0_turnOutside 18 = .ok (.if_icmp .ge 86, 3) := by decide +kernel
theorem dX0_turnOutside_21 : decode cX0_turnOutside 21 = .ok (.aload_n 0, 1) := by decide +kernel
theorem dX0_turnOutside_22 : decode cX0_turnOutside 22 = .ok (.aload_n 1, 1) := by decide +kernel
theorem dX0_turnOutside_23 : decode cX0_turnOutside 23 = .ok (.getfield 31, 3) := by decide +kernel
theorem dX0_turnOutside_26 : decode cX0_turnOutside 26 = .ok (.iload 4, 2) := by decide +kernel
theorem dX0_turnOutside_28 : decode cX0_turnOutside 28 = .ok (.iaload, 1) := by decide +kernel
theorem dX0_turnOutside_29 : decode cX0_turnOutside 29 = .ok (.i2l, 1) := by decide +kernel
theorem dX0_turnOutside_30 : decode cX0_turnOutside 30 = .ok (.aload_n 1, 1) := by decide +kernel
theorem dX0_turnOutside_31 : decode cX0_turnOutside 31 = .ok (.getfield 15, 3) := by decide +kernel
theorem dX0_turnOutside_34 : decode cX0_turnOutside 34 = .ok (.iload 4, 2) := by decide +kernel
theorem dX0_turnOutside_36 : decode cX0_turnOutside 36 = .ok (.iaload, 1) := by decide +kernel
theorem dX0_turnOutside_37 : decode cX0_turnOutside 37 = .ok (.i2l, 1) := by decide +kernel
theorem dX0_turnOutside_38 : decode cX0_turnOutside 38 = .ok (.aload_n 1, 1) := by decide +kernel
theorem dX0_turnOutside_39 : decode cX0_turnOutside 39 = .ok (.getfield 20, 3) := by decide +kernel
theorem dX0_turnOutside_42 : decode cX0_turnOutside 42 = .ok (.iload 4, 2) := by decide +kernel
theorem dX0_turnOutside_44 : decode cX0_turnOutside 44 = .ok (.iaload, 1) := by decide +kernel
theorem dX0_turnOutside_45 : decode cX0_turnOutside 45 = .ok (.i2l, 1) := by decide +kernel
theorem dX0_turnOutside_46 : decode cX0_turnOutside 46 = .ok (.invokevirtual 47, 3) := by decide +kernel
theorem dX0_turnOutside_49 : decode cX0_turnOutside 49 = .ok (.lstore 5, 2) := by decide +kernel
theorem dX0_turnOutside_51 : decode cX0_turnOutside 51 = .ok (.lload 5, 2) := by decide +kernel
theorem dX0_turnOutside_53 : decode cX0_turnOutside 53 = .ok (.lconst 0, 1) := by decide +kernel
theorem dX0_turnOutside_54 : decode cX0_turnOutside 54 = .ok (.lcmp, 1) := by decide +kernel
theorem dX0_turnOutside_55 : decode cX0_turnOutside 55 = .ok (.ifCond .le 8, 3) := by decide +kernel
theorem dX0_turnOutside_58 : decode cX0_turnOutside 58 = .ok (.iconst 1, 1) := by decide +kernel
theorem dX0_turnOutside_59 : decode cX0_turnOutside 59 = .ok (.istore_n 2, 1) := by decide +kernel
theorem dX0_turnOutside_60 : decode cX0_turnOutside 60 = .ok (.goto 28, 3) := by decide +kernel
theorem dX0_turnOutside_63 : decode cX0_turnOutside 63 = .ok (.lload 5, 2) := by decide +kernel
theorem dX0_turnOutside_65 : decode cX0_turnOutside 65 = .ok (.lconst 0, 1) := by decide +kernel
theorem dX0_turnOutside_66 : decode cX0_turnOutside 66 = .ok (.lcmp, 1) := by decide +kernel
theorem dX0_turnOutside_67 : decode cX0_turnOutside 67 = .ok (.ifCond .ge 8, 3) := by decide +kernel
theorem dX0_turnOutside_70 : decode cX0_turnOutside 70 = .ok (.iconst 1, 1) := by decide +kernel
theorem dX0_turnOutside_71 : decode cX0_turnOutside 71 = .ok (.istore_n 3, 1) := by decide +kernel
theorem dX0_turnOutside_72 : decode cX0_turnOutside 72 = .ok (.goto 16, 3) := by decide +kernel
theorem dX0_turnOutside_75 : decode cX0_turnOutside 75 = .ok (.aload_n 0, 1) := by decide +kernel
theorem dX0_turnOutside_76 : decode cX0_turnOutside 76 = .ok (.dup, 1) := by decide +kernel
theorem dX0_turnOutside_77 : decode cX0_turnOutside 77 = .ok (.getfield 51, 3) := by decide +kernel
theorem dX0_turnOutside_80 : decode cX0_turnOutside 80 = .ok (.iconst 1, 1) := by decide +kernel
theorem dX0_turnOutside_81 : decode cX0_turnOutside 81 = .ok (.iload 4, 2) := by decide +kernel
theorem dX0_turnOutside_83 : decode cX0_turnOutside 83 = .ok (.ishl, 1) := by decide +kernel
theorem dX0_turnOutside_84 : decode cX0_turnOutside 84 = .ok (.ior, 1) := by decide +kernel
theorem dX0_turnOutside_85 : decode cX0_turnOutside 85 = .ok (.putfield 51, 3) := by decide +kernel
theorem dX0_turnOutside_88 : decode cX0_turnOutside 88 = .ok (.iload_n 2, 1) := by decide +kernel
theorem dX0_turnOutside_89 : decode cX0_turnOutside 89 = .ok (.ifCond .eq 9, 3) := by decide +kernel
theorem dX0_turnOutside_92 : decode cX0_turnOutside 92 = .ok (.iload_n 3, 1) := by decide +kernel
theorem dX0_turnOutside_93 : decode cX0_turnOutside 93 = .ok (.ifCond .eq 5, 3) := by decide +kernel
theorem dX0_turnOutside_96 : decode cX0_turnOutside 96 = .ok (.iconst 0, 1) := by decide +kernel
theorem dX0_turnOutside_97 : decode cX0_turnOutside 97 = .ok (.ireturn, 1) := by decide +kernel
theorem dX0_turnOutside_98 : decode cX0_turnOutside 98 = .ok (.iinc 4 1, 3) := by decide +kernel
theorem dX0_turnOutside_101 : decode cX0_turnOutside 101 = .ok (.goto (-89), 3) := by decide +kernel
theorem dX0_turnOutside_104 : decode cX0_turnOutside 104 = .ok (.iload_n 2, 1) := by decide +kernel
theorem dX0_turnOutside_105 : decode cX0_turnOutside 105 = .ok (.ifCond .eq 39, 3) := by decide +kernel
theorem dX0_turnOutside_108 : decode cX0_turnOutside 108 = .ok (.aload_n 0, 1) := by decide +kernel
theorem dX0_turnOutside_109 : decode cX0_turnOutside 109 = .ok (.aload_n 0, 1) := by decide +kernel
theorem dX0_turnOutside_110 : decode cX0_turnOutside 110 = .ok (.getfield 27, 3) := by decide +kernel
theorem dX0_turnOutside_113 : decode cX0_turnOutside 113 = .ok (.lneg, 1) := by decide +kernel
theorem dX0_turnOutside_114 : decode cX0_turnOutside 114 = .ok (.putfield 27, 3) := by decide +kernel
theorem dX0_turnOutside_117 : decode cX0_turnOutside 117 = .ok (.aload_n 0, 1) := by decide +kernel
theorem dX0_turnOutside_118 : decode cX0_turnOutside 118 = .ok (.aload_n 0, 1) := by decide +kernel
theorem dX0_turnOutside_119 : decode cX0_turnOutside 119 = .ok (.getfield 34, 3) := by decide +kernel
theorem dX0_turnOutside_122 : decode cX0_turnOutside 122 = .ok (.lneg, 1) := by decide +kernel
theorem dX0_turnOutside_123 : decode cX0_turnOutside 123 = .ok (.putfield 34, 3) := by decide +kernel
theorem dX0_turnOutside_126 : decode cX0_turnOutside 126 = .ok (.aload_n 0, 1) := by decide +kernel
theorem dX0_turnOutside_127 : decode cX0_turnOutside 127 = .ok (.aload_n 0, 1) := by decide +kernel
theorem dX0_turnOutside_128 : decode cX0_turnOutside 128 = .ok (.getfield 37, 3) := by decide +kernel
theorem dX0_turnOutside_131 : decode cX0_turnOutside 131 = .ok (.lneg, 1) := by decide +kernel
theorem dX0_turnOutside_132 : decode cX0_turnOutside 132 = .ok (.putfield 37, 3) := by decide +kernel
theorem dX0_turnOutside_135 : decode cX0_turnOutside 135 = .ok (.aload_n 0, 1) := by decide +kernel
theorem dX0_turnOutside_136 : decode cX0_turnOutside 136 = .ok (.aload_n 0, 1) := by decide +kernel
theorem dX0_turnOutside_137 : decode cX0_turnOutside 137 = .ok (.getfield 40, 3) := by decide +kernel
theorem dX0_turnOutside_140 : decode cX0_turnOutside 140 = .ok (.lneg, 1) := by decide +kernel
theorem dX0_turnOutside_141 : decode cX0_turnOutside 141 = .ok (.putfield 40, 3) := by decide +kernel
theorem dX0_turnOutside_144 : decode cX0_turnOutside 144 = .ok (.iconst 1, 1) := by decide +kernel
theorem dX0_turnOutside_145 : decode cX0_turnOutside 145 = .ok (.ireturn, 1) := by decide +kernel
set_option maxRecDepth 20000 in
theorem ggX0_shortenNormal_X3_commonFactor : GoodIn wsX0_shortenNormal wsX3_commonFactor := goodIn_r _ [7] (by decide +kernel) (by decide +kernel)
set_option maxRecDepth 20000 in
theorem gX0_shortenNormal_X3_commonFactor_n54 : GoodIn wsX0_shortenNormal (wsX3_commonFactor) := ggX0_shortenNormal_X3_commonFactor
theorem dX0_shortenNormal_0 : decode cX0_shortenNormal 0 = .ok (.aload_n 0, 1) := by decide +kernel
theorem dX0_shortenNormal_1 : decode cX0_shortenNormal 1 = .ok (.getfield 27, 3) := by decide +kernel
theorem dX0_shortenNormal_4 : decode cX0_shortenNormal 4 = .ok (.aload_n 0, 1) := by decide +kernel
theorem dX0_shortenNormal_5 : decode cX0_shortenNormal 5 = .ok (.getfield 34, 3) := by decide +kernel
theorem dX0_shortenNormal_8 : decode cX0_shortenNormal 8 = .ok (.invokestatic 54, 3) := by decide +kernel
theorem dX0_shortenNormal_11 : decode cX0_shortenNormal 11 = .ok (.aload_n 0, 1) := by decide +kernel
theorem dX0_shortenNormal_12 : decode cX0_shortenNormal 12 = .ok (.getfield 37, 3) := by decide +kernel
theorem dX0_shortenNormal_15 : decode cX0_shortenNormal 15 = .ok (.invokestatic 54, 3) := by decide +kernel
theorem dX0_shortenNormal_18 : decode cX0_shortenNormal 18 = .ok (.lstore_n 1, 1) := by decide +kernel
theorem dX0_shortenNormal_19 : decode cX0_shortenNormal 19 = .ok (.lload_n 1, 1) := by decide +kernel
theorem dX0_shortenNormal_20 : decode cX0_shortenNormal 20 = .ok (.lconst 1, 1) := by decide +kernel
theorem dX0_shortenNormal_21 : decode cX0_shortenNormal 21 = .ok (.lcmp, 1) := by decide +kernel
theorem dX0_shortenNormal_22 : decode cX0_shortenNormal 22 = .ok (.ifCond .le 43, 3) := by decide +kernel
theorem dX0_shortenNormal_25 : decode cX0_shortenNormal 25 = .ok (.aload_n 0, 1) := by decide +kernel
theorem dX0_shortenNormal_26 : decode cX0_shortenNormal 26 = .ok (.dup, 1) := by decide +kernel
theorem dX0_shortenNormal_27 : decode cX0_shortenNormal 27 = .ok (.getfield 27, 3) := by decide +kernel
theorem dX0_shortenNormal_30 : decode cX0_shortenNormal 30 = .ok (.lload_n 1, 1) := by decide +kernel
theorem dX0_shortenNormal_31 : decode cX0_shortenNormal 31 = .ok (.ldiv, 1) := by decide +kernel
theorem dX0_shortenNormal_32 : decode cX0_shortenNormal 32 = .ok (.putfield 27, 3) := by decide +kernel
theorem dX0_shortenNormal_35 : decode cX0_shortenNormal 35 = .ok (.aload_n 0, 1) := by decide +kernel
theorem dX0_shortenNormal_36 : decode cX0_shortenNormal 36 = .ok (.dup, 1) := by decide +kernel
theorem dX0_shortenNormal_37 : decode cX0_shortenNormal 37 = .ok (.getfield 34, 3) := by decide +kernel
theorem dX0_shortenNormal_40 : decode cX0_shortenNormal 40 = .ok (.lload_n 1, 1) := by decide +kernel
theorem dX0_shortenNormal_41 : decode cX0_shortenNormal 41 = .ok (.ldiv, 1) := by decide +kernel
theorem dX0_shortenNormal_42 : decode cX0_shortenNormal 42 = .ok (.putfield 34, 3) := by decide +kernel
theorem dX0_shortenNormal_45 : decode cX0_shortenNormal 45 = .ok (.aload_n 0, 1) := by decide +kernel
theorem dX0_shortenNormal_46 : decode cX0_shortenNormal 46 = .ok (.dup, 1) := by decide +kernel
theorem dX0_shortenNormal_47 : decode cX0_shortenNormal 47 = .ok (.getfield 37, 3) := by decide +kernel
theorem dX0_shortenNormal_50 : decode cX0_shortenNormal 50 = .ok (.lload_n 1, 1) := by decide +kernel
theorem dX0_shortenNormal_51 : decode cX0_shortenNormal 51 = .ok (.ldiv, 1) := by decide +kernel
theorem dX0_shortenNormal_52 : decode cX0_shortenNormal 52 = .ok (.putfield 37, 3) := by decide +kernel
theorem dX0_shortenNormal_55 : decode cX0_shortenNormal 55 = .ok (.aload_n 0, 1) := by decide +kernel
theorem dX0_shortenNormal_56 : decode cX0_shortenNormal 56 = .ok (.dup, 1) := by decide +kernel
theorem dX0_shortenNormal_57 : decode cX0_shortenNormal 57 = .ok (.getfield 40, 3) := by decide +kernel
theorem dX0_shortenNormal_60 : decode cX0_shortenNormal 60 = .ok (.lload_n 1, 1) := by decide +kernel
theorem dX0_shortenNormal_61 : decode cX0_shortenNormal 61 = .ok (.ldiv, 1) := by decide +kernel
theorem dX0_shortenNormal_62 : decode cX0_shortenNormal 62 = .ok (.putfield 40, 3) := by decide +kernel
theorem dX0_shortenNormal_65 : decode cX0_shortenNormal 65 = .ok (.return_, 1) := by decide +kernel
set_option maxRecDepth 20000 in
theorem ggX0_goRound_J6_numberOfTrailingZeros_0f7a4 : GoodIn wsX0_goRound wsJ6_numberOfTrailingZeros_0f7a4 := goodIn_r _ [7, 8] (by decide +kernel) (by decide +kernel)
set_option maxRecDepth 20000 in
theorem gX0_goRound_J6_numberOfTrailingZeros_0f7a4 : GoodIn wsX0_goRound (va_wsS RX0 58 yJ6_numberOfTrailingZeros_0f7a4 wsJ6_numberOfTrailingZeros_0f7a4) := goodIn_app (goodIn_of _ (by decide +kernel)) ggX0_goRound_J6_numberOfTrailingZeros_0f7a4
set_option maxRecDepth 20000 in
theorem ggX0_goRound_J6_bitCount_0f7a4 : GoodIn wsX0_goRound wsJ6_bitCount_0f7a4 := goodIn_r _ [11, 12, 13, 14] (by decide +kernel) (by decide +kernel)
set_option maxRecDepth 20000 in
theorem gX0_goRound_J6_bitCount_0f7a4 : GoodIn wsX0_goRound (va_wsS RX0 65 yJ6_bitCount_0f7a4 wsJ6_bitCount_0f7a4) := goodIn_app (goodIn_of _ (by decide +kernel)) ggX0_goRound_J6_bitCount_0f7a4
set_option maxRecDepth 20000 in
theorem ggX0_goRound_X0_nextRound : GoodIn wsX0_goRound wsX0_nextRound := goodIn_r _ [19, 20, 21, 22, 23, 24, 25, 18, 26, 27, 28, 29, 30, 31, 39, 40, 41, 42, 32, 33, 34, 35, 36, 37, 38] (by decide +kernel) (by decide +kernel)
set_option maxRecDepth 20000 in
theorem gX0_goRound_X0_nextRound : GoodIn wsX0_goRound (wsV RX0 68 RX0 yX0_nextRound wsX0_nextRound) := goodIn_app (goodIn_of _ (by decide +kernel)) ggX0_goRound_X0_nextRound
theorem dX0_goRound_0 : decode cX0_goRound 0 = .ok (.aload_n 0, 1) := by decide +kernel
theorem dX0_goRound_1 : decode cX0_goRound 1 = .ok (.getfield 51, 3) := by decide +kernel
theorem dX0_goRound_4 : decode cX0_goRound 4 = .ok (.iload_n 2, 1) := by decide +kernel
theorem dX0_goRound_5 : decode cX0_goRound 5 = .ok (.iand, 1) := by decide +kernel
theorem dX0_goRound_6 : decode cX0_goRound 6 = .ok (.istore_n 3, 1) := by decide +kernel
theorem dX0_goRound_7 : decode cX0_goRound 7 = .ok (.iload_n 3, 1) := by decide +kernel
theorem dX0_goRound_8 : decode cX0_goRound 8 = .ok (.invokestatic 58, 3) := by decide +kernel
theorem dX0_goRound_11 : decode cX0_goRound 11 = .ok (.istore 4, 2) := by decide +kernel
theorem dX0_goRound_13 : decode cX0_goRound 13 = .ok (.aload_n 0, 1) := by decide +kernel
theorem dX0_goRound_14 : decode cX0_goRound 14 = .ok (.iconst 0, 1) := by decide +kernel
theorem dX0_goRound_15 : decode cX0_goRound 15 = .ok (.putfield 64, 3) := by decide +kernel
theorem dX0_goRound_18 : decode cX0_goRound 18 = .ok (.iconst 0, 1) := by decide +kernel
theorem dX0_goRound_19 : decode cX0_goRound 19 = .ok (.istore 5, 2) := by decide +kernel
theorem dX0_goRound_21 : decode cX0_goRound 21 = .ok (.iload 5, 2) := by decide +kernel
theorem dX0_goRound_23 : decode cX0_goRound 23 = .ok (.bipush 24, 2) := by decide +kernel
theorem dX0_goRound_25 : decode cX0_goRound 25 = .ok (.if_icmp .ge 47, 3) := by decide +kernel
theorem dX0_goRound_28 : decode cX0_goRound 28 = .ok (.iload 5, 2) := by decide +kernel
theorem dX0_goRound_30 : decode cX0_goRound 30 = .ok (.iload_n 3, 1) := by decide +kernel
theorem dX0_goRound_31 : decode cX0_goRound 31 = .ok (.invokestatic 65, 3) := by decide +kernel
theorem dX0_goRound_34 : decode cX0_goRound 34 = .ok (.if_icmp .ge 38, 3) := by decide +kernel
theorem dX0_goRound_37 : decode cX0_goRound 37 = .ok (.aload_n 0, 1) := by decide +kernel
theorem dX0_goRound_38 : decode cX0_goRound 38 = .ok (.getfield 9, 3) := by decide +kernel
theorem dX0_goRound_41 : decode cX0_goRound 41 = .ok (.iload 5, 2) := by decide +kernel
theorem dX0_goRound_43 : decode cX0_goRound 43 = .ok (.iload 4, 2) := by decide +kernel
theorem dX0_goRound_45 : decode cX0_goRound 45 = .ok (.iastore, 1) := by decide +kernel
theorem dX0_goRound_46 : decode cX0_goRound 46 = .ok (.aload_n 0, 1) := by decide +kernel
theorem dX0_goRound_47 : decode cX0_goRound 47 = .ok (.dup, 1) := by decide +kernel
theorem dX0_goRound_48 : decode cX0_goRound 48 = .ok (.getfield 64, 3) := by decide +kernel
theorem dX0_goRound_51 : decode cX0_goRound 51 = .ok (.iconst 1, 1) := by decide +kernel
theorem dX0_goRound_52 : decode cX0_goRound 52 = .ok (.iadd, 1) := by decide +kernel
theorem dX0_goRound_53 : decode cX0_goRound 53 = .ok (.putfield 64, 3) := by decide +kernel
theorem dX0_goRound_56 : decode cX0_goRound 56 = .ok (.aload_n 0, 1) := by decide +kernel
theorem dX0_goRound_57 : decode cX0_goRound 57 = .ok (.aload_n 1, 1) := by decide +kernel
theorem dX0_goRound_58 : decode cX0_goRound 58 = .ok (.iload_n 3, 1) := by decide +kernel
theorem dX0_goRound_59 : decode cX0_goRound 59 = .ok (.iload 4, 2) := by decide +kernel
theorem dX0_goRound_61 : decode cX0_goRound 61 = .ok (.invokevirtual 68, 3) := by decide +kernel
theorem dX0_goRound_64 : decode cX0_goRound 64 = .ok (.istore 4, 2) := by decide +kernel
theorem dX0_goRound_66 : decode cX0_goRound 66 = .ok (.iinc 5 1, 3) := by decide +kernel
theorem dX0_goRound_69 : decode cX0_goRound 69 = .ok (.goto (-48), 3) := by decide +kernel
theorem dX0_goRound_72 : decode cX0_goRound 72 = .ok (.return_, 1) := by decide +kernel
set_option maxRecDepth 20000 in
theorem ggX0_nextRound_X3_holds : GoodIn wsX0_nextRound wsX3_holds := goodIn_r _ [3] (by decide +kernel) (by decide +kernel)
set_option maxRecDepth 20000 in
theorem gX0_nextRound_X3_holds_n72 : GoodIn wsX0_nextRound (wsX3_holds) := ggX0_nextRound_X3_holds
set_option maxRecDepth 20000 in
theorem ggX0_nextRound_X0_isRight : GoodIn wsX0_nextRound wsX0_isRight := goodIn_r _ [8, 9, 10, 11, 12, 2, 13, 18, 19, 20, 21, 22, 23, 24, 14, 15, 16, 17] (by decide +kernel) (by decide +kernel)
set_option maxRecDepth 20000 in
theorem gX0_nextRound_X0_isRight : GoodIn wsX0_nextRound (wsV RX0 76 RX0 yX0_isRight wsX0_isRight) := goodIn_app (goodIn_of _ (by decide +kernel)) ggX0_nextRound_X0_isRight
theorem dX0_nextRound_0 : decode cX0_nextRound 0 = .ok (.iload_n 3, 1) := by decide +kernel
theorem dX0_nextRound_1 : decode cX0_nextRound 1 = .ok (.istore 4, 2) := by decide +kernel
theorem dX0_nextRound_3 : decode cX0_nextRound 3 = .ok (.iconst 0, 1) := by decide +kernel
theorem dX0_nextRound_4 : decode cX0_nextRound 4 = .ok (.istore 5, 2) := by decide +kernel
theorem dX0_nextRound_6 : decode cX0_nextRound 6 = .ok (.iload 5, 2) := by decide +kernel
theorem dX0_nextRound_8 : decode cX0_nextRound 8 = .ok (.aload_n 1, 1) := by decide +kernel
theorem dX0_nextRound_9 : decode cX0_nextRound 9 = .ok (.getfield 43, 3) := by decide +kernel
theorem dX0_nextRound_12 : decode cX0_nextRound 12 = .ok (.if_icmp .ge 47, 3) := by decide +kernel
theorem dX0_nextRound_15 : decode cX0_nextRound 15 = .ok (.iload 5, 2) := by decide +kernel
theorem dX0_nextRound_17 : decode cX0_nextRound 17 = .ok (.iload_n 3, 1) := by decide +kernel
theorem dX0_nextRound_18 : decode cX0_nextRound 18 = .ok (.if_icmp .eq 35, 3) := by decide +kernel
theorem dX0_nextRound_21 : decode cX0_nextRound 21 = .ok (.iload_n 2, 1) := by decide +kernel
theorem dX0_nextRound_22 : decode cX0_nextRound 22 = .ok (.iload 5, 2) := by decide +kernel
theorem dX0_nextRound_24 : decode cX0_nextRound 24 = .ok (.invokestatic 72, 3) := by decide +kernel
theorem dX0_nextRound_27 : decode cX0_nextRound 27 = .ok (.ifCond .eq 26, 3) := by decide +kernel
theorem dX0_nextRound_30 : decode cX0_nextRound 30 = .ok (.iload 4, 2) := by decide +kernel
theorem dX0_nextRound_32 : decode cX0_nextRound 32 = .ok (.iload_n 3, 1) := by decide +kernel
theorem dX0_nextRound_33 : decode cX0_nextRound 33 = .ok (.if_icmp .eq 16, 3) := by decide +kernel
theorem dX0_nextRound_36 : decode cX0_nextRound 36 = .ok (.aload_n 0, 1) := by decide +kernel
theorem dX0_nextRound_37 : decode cX0_nextRound 37 = .ok (.aload_n 1, 1) := by decide +kernel
theorem dX0_nextRound_38 : decode cX0_nextRound 38 = .ok (.iload_n 3, 1) := by decide +kernel
theorem dX0_nextRound_39 : decode cX0_nextRound 39 = .ok (.iload 4, 2) := by decide +kernel
theorem dX0_nextRound_41 : decode cX0_nextRound 41 = .ok (.iload 5, 2) := by decide +kernel
theorem dX0_nextRound_43 : decode cX0_nextRound 43 = .ok (.invokevirtual 76, 3) := by decide +kernel
theorem dX0_nextRound_46 : decode cX0_nextRound 46 = .ok (.ifCond .eq 7, 3) := by decide +kernel
theorem dX0_nextRound_49 : decode cX0_nextRound 49 = .ok (.iload 5, 2) := by decide +kernel
theorem dX0_nextRound_51 : decode cX0_nextRound 51 = .ok (.istore 4, 2) := by decide +kernel
theorem dX0_nextRound_53 : decode cX0_nextRound 53 = .ok (.iinc 5 1, 3) := by decide +kernel
theorem dX0_nextRound_56 : decode cX0_nextRound 56 = .ok (.goto (-50), 3) := by decide +kernel
theorem dX0_nextRound_59 : decode cX0_nextRound 59 = .ok (.iload 4, 2) := by decide +kernel
theorem dX0_nextRound_61 : decode cX0_nextRound 61 = .ok (.ireturn, 1) := by decide +kernel
set_option maxRecDepth 20000 in
theorem ggX0_isRight_X3_across : GoodIn wsX0_isRight wsX3_across := goodIn_r _ [6] (by decide +kernel) (by decide +kernel)
set_option maxRecDepth 20000 in
theorem gX0_isRight_X3_across_n23 : GoodIn wsX0_isRight (wsX3_across) := ggX0_isRight_X3_across
theorem dX0_isRight_0 : decode cX0_isRight 0 = .ok (.aload_n 0, 1) := by decide +kernel
theorem dX0_isRight_1 : decode cX0_isRight 1 = .ok (.getfield 27, 3) := by decide +kernel
theorem dX0_isRight_4 : decode cX0_isRight 4 = .ok (.aload_n 1, 1) := by decide +kernel
theorem dX0_isRight_5 : decode cX0_isRight 5 = .ok (.getfield 15, 3) := by decide +kernel
theorem dX0_isRight_8 : decode cX0_isRight 8 = .ok (.aload_n 1, 1) := by decide +kernel
theorem dX0_isRight_9 : decode cX0_isRight 9 = .ok (.getfield 20, 3) := by decide +kernel
theorem dX0_isRight_12 : decode cX0_isRight 12 = .ok (.iload_n 2, 1) := by decide +kernel
theorem dX0_isRight_13 : decode cX0_isRight 13 = .ok (.iload_n 3, 1) := by decide +kernel
theorem dX0_isRight_14 : decode cX0_isRight 14 = .ok (.iload 4, 2) := by decide +kernel
theorem dX0_isRight_16 : decode cX0_isRight 16 = .ok (.invokestatic 23, 3) := by decide +kernel
theorem dX0_isRight_19 : decode cX0_isRight 19 = .ok (.lmul, 1) := by decide +kernel
theorem dX0_isRight_20 : decode cX0_isRight 20 = .ok (.aload_n 0, 1) := by decide +kernel
theorem dX0_isRight_21 : decode cX0_isRight 21 = .ok (.getfield 34, 3) := by decide +kernel
theorem dX0_isRight_24 : decode cX0_isRight 24 = .ok (.aload_n 1, 1) := by decide +kernel
theorem dX0_isRight_25 : decode cX0_isRight 25 = .ok (.getfield 20, 3) := by decide +kernel
theorem dX0_isRight_28 : decode cX0_isRight 28 = .ok (.aload_n 1, 1) := by decide +kernel
theorem dX0_isRight_29 : decode cX0_isRight 29 = .ok (.getfield 31, 3) := by decide +kernel
theorem dX0_isRight_32 : decode cX0_isRight 32 = .ok (.iload_n 2, 1) := by decide +kernel
theorem dX0_isRight_33 : decode cX0_isRight 33 = .ok (.iload_n 3, 1) := by decide +kernel
theorem dX0_isRight_34 : decode cX0_isRight 34 = .ok (.iload 4, 2) := by decide +kernel
theorem dX0_isRight_36 : decode cX0_isRight 36 = .ok (.invokestatic 23, 3) := by decide +kernel
theorem dX0_isRight_39 : decode cX0_isRight 39 = .ok (.lmul, 1) := by decide +kernel
theorem dX0_isRight_40 : decode cX0_isRight 40 = .ok (.ladd, 1) := by decide +kernel
theorem dX0_isRight_41 : decode cX0_isRight 41 = .ok (.aload_n 0, 1) := by decide +kernel
theorem dX0_isRight_42 : decode cX0_isRight 42 = .ok (.getfield 37, 3) := by decide +kernel
theorem dX0_isRight_45 : decode cX0_isRight 45 = .ok (.aload_n 1, 1) := by decide +kernel
theorem dX0_isRight_46 : decode cX0_isRight 46 = .ok (.getfield 31, 3) := by decide +kernel
theorem dX0_isRight_49 : decode cX0_isRight 49 = .ok (.aload_n 1, 1) := by decide +kernel
theorem dX0_isRight_50 : decode cX0_isRight 50 = .ok (.getfield 15, 3) := by decide +kernel
theorem dX0_isRight_53 : decode cX0_isRight 53 = .ok (.iload_n 2, 1) := by decide +kernel
theorem dX0_isRight_54 : decode cX0_isRight 54 = .ok (.iload_n 3, 1) := by decide +kernel
theorem dX0_isRight_55 : decode cX0_isRight 55 = .ok (.iload 4, 2) := by decide +kernel
theorem dX0_isRight_57 : decode cX0_isRight 57 = .ok (.invokestatic 23, 3) := by decide +kernel
theorem dX0_isRight_60 : decode cX0_isRight 60 = .ok (.lmul, 1) := by decide +kernel
theorem dX0_isRight_61 : decode cX0_isRight 61 = .ok (.ladd, 1) := by decide +kernel
theorem dX0_isRight_62 : decode cX0_isRight 62 = .ok (.lconst 0, 1) := by decide +kernel
theorem dX0_isRight_63 : decode cX0_isRight 63 = .ok (.lcmp, 1) := by decide +kernel
theorem dX0_isRight_64 : decode cX0_isRight 64 = .ok (.ifCond .ge 7, 3) := by decide +kernel
theorem dX0_isRight_67 : decode cX0_isRight 67 = .ok (.iconst 1, 1) := by decide +kernel
theorem dX0_isRight_68 : decode cX0_isRight 68 = .ok (.goto 4, 3) := by decide +kernel
theorem dX0_isRight_71 : decode cX0_isRight 71 = .ok (.iconst 0, 1) := by decide +kernel
theorem dX0_isRight_72 : decode cX0_isRight 72 = .ok (.ireturn, 1) := by decide +kernel
set_option maxRecDepth 20000 in
theorem ggX0_rank_X3_way : GoodIn wsX0_rank wsX3_way := goodIn_r _ [4] (by decide +kernel) (by decide +kernel)
set_option maxRecDepth 20000 in
theorem gX0_rank_X3_way_n80 : GoodIn wsX0_rank (wsX3_way) := ggX0_rank_X3_way
theorem dX0_rank_0 : decode cX0_rank 0 = .ok (.aload_n 0, 1) := by decide +kernel
theorem dX0_rank_1 : decode cX0_rank 1 = .ok (.getfield 9, 3) := by decide +kernel
theorem dX0_rank_4 : decode cX0_rank 4 = .ok (.iconst 0, 1) := by decide +kernel
theorem dX0_rank_5 : decode cX0_rank 5 = .ok (.iaload, 1) := by decide +kernel
theorem dX0_rank_6 : decode cX0_rank 6 = .ok (.aload_n 0, 1) := by decide +kernel
theorem dX0_rank_7 : decode cX0_rank 7 = .ok (.getfield 9, 3) := by decide +kernel
theorem dX0_rank_10 : decode cX0_rank 10 = .ok (.iconst 1, 1) := by decide +kernel
theorem dX0_rank_11 : decode cX0_rank 11 = .ok (.iaload, 1) := by decide +kernel
theorem dX0_rank_12 : decode cX0_rank 12 = .ok (.invokestatic 80, 3) := by decide +kernel
theorem dX0_rank_15 : decode cX0_rank 15 = .ok (.ireturn, 1) := by decide +kernel
set_option maxRecDepth 20000 in
theorem ggX1_init_X2_init : GoodIn wsX1_init wsX2_init := goodIn_r _ [20, 21, 2, 3, 13, 22, 23, 24, 25, 30, 31, 32, 33] (by decide +kernel) (by decide +kernel)
set_option maxRecDepth 20000 in
theorem gX1_init_X2_init_n11 : GoodIn wsX1_init (wsX2_init) := ggX1_init_X2_init
set_option maxRecDepth 20000 in
theorem ggX1_init_X0_init : GoodIn wsX1_init wsX0_init := goodIn_r _ [27, 28, 2, 3, 13, 29, 45, 46, 47, 48, 49, 50, 51] (by decide +kernel) (by decide +kernel)
set_option maxRecDepth 20000 in
theorem gX1_init_X0_init_n24 : GoodIn wsX1_init (wsX0_init) := ggX1_init_X0_init
theorem dX1_init_0 : decode cX1_init 0 = .ok (.aload_n 0, 1) := by decide +kernel
theorem dX1_init_1 : decode cX1_init 1 = .ok (.invokespecial 3, 3) := by decide +kernel
theorem dX1_init_4 : decode cX1_init 4 = .ok (.aload_n 0, 1) := by decide +kernel
theorem dX1_init_5 : decode cX1_init 5 = .ok (.new 9, 3) := by decide +kernel
theorem dX1_init_8 : decode cX1_init 8 = .ok (.dup, 1) := by decide +kernel
theorem dX1_init_9 : decode cX1_init 9 = .ok (.invokespecial 11, 3) := by decide +kernel
theorem dX1_init_12 : decode cX1_init 12 = .ok (.putfield 12, 3) := by decide +kernel
theorem dX1_init_15 : decode cX1_init 15 = .ok (.aload_n 0, 1) := by decide +kernel
theorem dX1_init_16 : decode cX1_init 16 = .ok (.bipush 44, 2) := by decide +kernel
theorem dX1_init_18 : decode cX1_init 18 = .ok (.anewarray 18, 3) := by decide +kernel
theorem dX1_init_21 : decode cX1_init 21 = .ok (.putfield 20, 3) := by decide +kernel
theorem dX1_init_24 : decode cX1_init 24 = .ok (.iconst 0, 1) := by decide +kernel
theorem dX1_init_25 : decode cX1_init 25 = .ok (.istore_n 1, 1) := by decide +kernel
theorem dX1_init_26 : decode cX1_init 26 = .ok (.iload_n 1, 1) := by decide +kernel
theorem dX1_init_27 : decode cX1_init 27 = .ok (.bipush 44, 2) := by decide +kernel
theorem dX1_init_29 : decode cX1_init 29 = .ok (.if_icmp .ge 22, 3) := by decide +kernel
theorem dX1_init_32 : decode cX1_init 32 = .ok (.aload_n 0, 1) := by decide +kernel
theorem dX1_init_33 : decode cX1_init 33 = .ok (.getfield 20, 3) := by decide +kernel
theorem dX1_init_36 : decode cX1_init 36 = .ok (.iload_n 1, 1) := by decide +kernel
theorem dX1_init_37 : decode cX1_init 37 = .ok (.new 18, 3) := by decide +kernel
theorem dX1_init_40 : decode cX1_init 40 = .ok (.dup, 1) := by decide +kernel
theorem dX1_init_41 : decode cX1_init 41 = .ok (.invokespecial 24, 3) := by decide +kernel
theorem dX1_init_44 : decode cX1_init 44 = .ok (.aastore, 1) := by decide +kernel
theorem dX1_init_45 : decode cX1_init 45 = .ok (.iinc 1 1, 3) := by decide +kernel
theorem dX1_init_48 : decode cX1_init 48 = .ok (.goto (-22), 3) := by decide +kernel
theorem dX1_init_51 : decode cX1_init 51 = .ok (.aload_n 0, 1) := by decide +kernel
theorem dX1_init_52 : decode cX1_init 52 = .ok (.new 18, 3) := by decide +kernel
theorem dX1_init_55 : decode cX1_init 55 = .ok (.dup, 1) := by decide +kernel
theorem dX1_init_56 : decode cX1_init 56 = .ok (.invokespecial 24, 3) := by decide +kernel
theorem dX1_init_59 : decode cX1_init 59 = .ok (.putfield 25, 3) := by decide +kernel
theorem dX1_init_62 : decode cX1_init 62 = .ok (.aload_n 0, 1) := by decide +kernel
theorem dX1_init_63 : decode cX1_init 63 = .ok (.sipush 576, 3) := by decide +kernel
theorem dX1_init_66 : decode cX1_init 66 = .ok (.newarray .int, 2) := by decide +kernel
theorem dX1_init_68 : decode cX1_init 68 = .ok (.putfield 29, 3) := by decide +kernel
theorem dX1_init_71 : decode cX1_init 71 = .ok (.aload_n 0, 1) := by decide +kernel
theorem dX1_init_72 : decode cX1_init 72 = .ok (.bipush 66, 2) := by decide +kernel
theorem dX1_init_74 : decode cX1_init 74 = .ok (.newarray .int, 2) := by decide +kernel
theorem dX1_init_76 : decode cX1_init 76 = .ok (.putfield 33, 3) := by decide +kernel
theorem dX1_init_79 : decode cX1_init 79 = .ok (.aload_n 0, 1) := by decide +kernel
theorem dX1_init_80 : decode cX1_init 80 = .ok (.bipush 66, 2) := by decide +kernel
theorem dX1_init_82 : decode cX1_init 82 = .ok (.newarray .int, 2) := by decide +kernel
theorem dX1_init_84 : decode cX1_init 84 = .ok (.putfield 36, 3) := by decide +kernel
theorem dX1_init_87 : decode cX1_init 87 = .ok (.aload_n 0, 1) := by decide +kernel
theorem dX1_init_88 : decode cX1_init 88 = .ok (.iconst 3, 1) := by decide +kernel
theorem dX1_init_89 : decode cX1_init 89 = .ok (.newarray .long, 2) := by decide +kernel
theorem dX1_init_91 : decode cX1_init 91 = .ok (.putfield 39, 3) := by decide +kernel
theorem dX1_init_94 : decode cX1_init 94 = .ok (.return_, 1) := by decide +kernel
set_option maxRecDepth 20000 in
theorem ggX1_wouldBeFlat_X0_layThrough : GoodIn wsX1_wouldBeFlat wsX0_layThrough := goodIn_r _ [5, 6, 7, 8, 9, 10, 11, 12, 20, 21, 22, 23, 35, 36, 37, 38, 39, 40, 41] (by decide +kernel) (by decide +kernel)
set_option maxRecDepth 20000 in
theorem gX1_wouldBeFlat_X0_layThrough_n47 : GoodIn wsX1_wouldBeFlat (wsX0_layThrough) := ggX1_wouldBeFlat_X0_layThrough
set_option maxRecDepth 20000 in
theorem ggX1_wouldBeFlat_X0_holdsAll : GoodIn wsX1_wouldBeFlat wsX0_holdsAll := goodIn_r _ [15, 16, 17, 18, 3, 19, 6, 7, 8, 9, 20, 21, 22, 23, 35, 36, 37, 38, 39, 40, 41] (by decide +kernel) (by decide +kernel)
set_option maxRecDepth 20000 in
theorem gX1_wouldBeFlat_X0_holdsAll_n51 : GoodIn wsX1_wouldBeFlat (wsX0_holdsAll) := ggX1_wouldBeFlat_X0_holdsAll
theorem dX1_wouldBeFlat_0 : decode cX1_wouldBeFlat 0 = .ok (.iconst 2, 1) := by decide +kernel
theorem dX1_wouldBeFlat_1 : decode cX1_wouldBeFlat 1 = .ok (.istore_n 2, 1) := by decide +kernel
theorem dX1_wouldBeFlat_2 : decode cX1_wouldBeFlat 2 = .ok (.iload_n 2, 1) := by decide +kernel
theorem dX1_wouldBeFlat_3 : decode cX1_wouldBeFlat 3 = .ok (.aload_n 1, 1) := by decide +kernel
theorem dX1_wouldBeFlat_4 : decode cX1_wouldBeFlat 4 = .ok (.getfield 43, 3) := by decide +kernel
theorem dX1_wouldBeFlat_7 : decode cX1_wouldBeFlat 7 = .ok (.if_icmp .ge 32, 3) := by decide +kernel
theorem dX1_wouldBeFlat_10 : decode cX1_wouldBeFlat 10 = .ok (.aload_n 0, 1) := by decide +kernel
theorem dX1_wouldBeFlat_11 : decode cX1_wouldBeFlat 11 = .ok (.getfield 25, 3) := by decide +kernel
theorem dX1_wouldBeFlat_14 : decode cX1_wouldBeFlat 14 = .ok (.aload_n 1, 1) := by decide +kernel
theorem dX1_wouldBeFlat_15 : decode cX1_wouldBeFlat 15 = .ok (.iconst 0, 1) := by decide +kernel
theorem dX1_wouldBeFlat_16 : decode cX1_wouldBeFlat 16 = .ok (.iconst 1, 1) := by decide +kernel
theorem dX1_wouldBeFlat_17 : decode cX1_wouldBeFlat 17 = .ok (.iload_n 2, 1) := by decide +kernel
theorem dX1_wouldBeFlat_18 : decode cX1_wouldBeFlat 18 = .ok (.invokevirtual 47, 3) := by decide +kernel
theorem dX1_wouldBeFlat_21 : decode cX1_wouldBeFlat 21 = .ok (.ifCond .eq 12, 3) := by decide +kernel
theorem dX1_wouldBeFlat_24 : decode cX1_wouldBeFlat 24 = .ok (.aload_n 0, 1) := by decide +kernel
theorem dX1_wouldBeFlat_25 : decode cX1_wouldBeFlat 25 = .ok (.getfield 25, 3) := by decide +kernel
theorem dX1_wouldBeFlat_28 : decode cX1_wouldBeFlat 28 = .ok (.aload_n 1, 1) := by decide +kernel
theorem dX1_wouldBeFlat_29 : decode cX1_wouldBeFlat 29 = .ok (.invokevirtual 51, 3) := by decide +kernel
theorem dX1_wouldBeFlat_32 : decode cX1_wouldBeFlat 32 = .ok (.ireturn, 1) := by decide +kernel
theorem dX1_wouldBeFlat_33 : decode cX1_wouldBeFlat 33 = .ok (.iinc 2 1, 3) := by decide +kernel
theorem dX1_wouldBeFlat_36 : decode cX1_wouldBeFlat 36 = .ok (.goto (-34), 3) := by decide +kernel
theorem dX1_wouldBeFlat_39 : decode cX1_wouldBeFlat 39 = .ok (.iconst 1, 1) := by decide +kernel
theorem dX1_wouldBeFlat_40 : decode cX1_wouldBeFlat 40 = .ok (.ireturn, 1) := by decide +kernel
set_option maxRecDepth 20000 in
theorem ggX1_wrap_X2_copyFrom : GoodIn wsX1_wrap wsX2_copyFrom := goodIn_r _ [8, 9, 10, 11, 12, 130, 131, 132, 133] (by decide +kernel) (by decide +kernel)
set_option maxRecDepth 20000 in
theorem gX1_wrap_X2_copyFrom_n55 : GoodIn wsX1_wrap (wsX2_copyFrom) := ggX1_wrap_X2_copyFrom
set_option maxRecDepth 20000 in
theorem ggX1_wrap_X1_findFaces : GoodIn wsX1_wrap wsX1_findFaces := goodIn_r _ [17, 2, 1, 18, 19, 20, 16, 21, 22, 3, 23, 24, 25, 26, 27, 28, 29, 30, 31, 32, 33, 34, 35, 36, 37, 38, 39, 40, 41, 42, 43, 44, 45, 46, 47, 48, 49, 50, 119, 120, 121, 122, 123, 124, 125, 126, 127, 128, 129, 130, 131, 132, 133, 134, 135, 136, 137, 138, 139, 140] (by decide +kernel) (by decide +kernel)
set_option maxRecDepth 20000 in
theorem gX1_wrap_X1_findFaces : GoodIn wsX1_wrap (wsV RX1 59 RX1 yX1_findFaces wsX1_findFaces) := goodIn_app (goodIn_of _ (by decide +kernel)) ggX1_wrap_X1_findFaces
set_option maxRecDepth 20000 in
theorem ggX1_wrap_X1_findCorners : GoodIn wsX1_wrap wsX1_findCorners := goodIn_r _ [54, 4, 1, 2, 3, 55, 36, 56, 119, 120, 121, 122, 123, 124, 125, 126, 127, 128, 129, 130, 131, 132, 133, 134, 135, 136, 137, 138, 139, 140] (by decide +kernel) (by decide +kernel)
set_option maxRecDepth 20000 in
theorem gX1_wrap_X1_findCorners : GoodIn wsX1_wrap (wsV RX1 62 RX1 yX1_findCorners wsX1_findCorners) := goodIn_app (goodIn_of _ (by decide +kernel)) ggX1_wrap_X1_findCorners
set_option maxRecDepth 20000 in
theorem ggX1_wrap_X0_goRound : GoodIn wsX1_wrap wsX0_goRound := goodIn_r _ [59, 41, 60, 61, 62, 63, 64, 65, 66, 67, 68, 69, 70, 71, 72, 73, 74, 75, 28, 76, 55, 36, 56, 77, 78, 79, 80, 31, 32, 33, 35, 37, 134, 135, 136, 137, 138, 139, 140, 130, 131, 132, 133] (by decide +kernel) (by decide +kernel)
set_option maxRecDepth 20000 in
theorem gX1_wrap_X0_goRound_n71 : GoodIn wsX1_wrap (wsX0_goRound) := ggX1_wrap_X0_goRound
set_option maxRecDepth 20000 in
theorem ggX1_wrap_X1_orderFaces : GoodIn wsX1_wrap wsX1_orderFaces := goodIn_r _ [84, 2, 3, 85, 28, 86, 87, 61, 88, 36, 89, 119, 120, 121, 122, 123, 124, 125, 126, 127, 128, 129, 134, 135, 136, 137, 138, 139, 140] (by decide +kernel) (by decide +kernel)
set_option maxRecDepth 20000 in
theorem gX1_wrap_X1_orderFaces : GoodIn wsX1_wrap (wsV RX1 75 RX1 yX1_orderFaces wsX1_orderFaces) := goodIn_app (goodIn_of _ (by decide +kernel)) ggX1_wrap_X1_orderFaces
set_option maxRecDepth 20000 in
theorem ggX1_wrap_X1_findEdges : GoodIn wsX1_wrap wsX1_findEdges := goodIn_r _ [93, 94, 1, 95, 96, 97, 98, 99, 100, 16, 101, 2, 3, 102, 103, 104, 105, 88, 36, 89, 119, 120, 121, 122, 123, 124, 125, 126, 127, 128, 129, 130, 131, 132, 133, 134, 135, 136, 137, 138, 139, 140] (by decide +kernel) (by decide +kernel)
set_option maxRecDepth 20000 in
theorem gX1_wrap_X1_findEdges : GoodIn wsX1_wrap (wsV RX1 78 RX1 yX1_findEdges wsX1_findEdges) := goodIn_app (goodIn_of _ (by decide +kernel)) ggX1_wrap_X1_findEdges
set_option maxRecDepth 20000 in
theorem ggX1_wrap_X1_measure : GoodIn wsX1_wrap wsX1_measure := goodIn_r _ [109, 110, 111, 2, 3, 112, 113, 104, 114, 115, 116, 117, 16, 118, 1, 119, 120, 121, 122, 123, 124, 125, 126, 127, 128, 129, 134, 135, 136, 137, 138, 139, 140, 130, 131, 132, 133] (by decide +kernel) (by decide +kernel)
set_option maxRecDepth 20000 in
theorem gX1_wrap_X1_measure : GoodIn wsX1_wrap (wsV RX1 81 RX1 yX1_measure wsX1_measure) := goodIn_app (goodIn_of _ (by decide +kernel)) ggX1_wrap_X1_measure
theorem dX1_wrap_0 : decode cX1_wrap 0 = .ok (.aload_n 0, 1) := by decide +kernel
theorem dX1_wrap_1 : decode cX1_wrap 1 = .ok (.getfield 12, 3) := by decide +kernel
theorem dX1_wrap_4 : decode cX1_wrap 4 = .ok (.aload_n 1, 1) := by decide +kernel
theorem dX1_wrap_5 : decode cX1_wrap 5 = .ok (.invokevirtual 55, 3) := by decide +kernel
theorem dX1_wrap_8 : decode cX1_wrap 8 = .ok (.aload_n 0, 1) := by decide +kernel
theorem dX1_wrap_9 : decode cX1_wrap 9 = .ok (.invokevirtual 59, 3) := by decide +kernel
theorem dX1_wrap_12 : decode cX1_wrap 12 = .ok (.aload_n 0, 1) := by decide +kernel
theorem dX1_wrap_13 : decode cX1_wrap 13 = .ok (.invokevirtual 62, 3) := by decide +kernel
theorem dX1_wrap_16 : decode cX1_wrap 16 = .ok (.iconst 0, 1) := by decide +kernel
theorem dX1_wrap_17 : decode cX1_wrap 17 = .ok (.istore_n 2, 1) := by decide +kernel
theorem dX1_wrap_18 : decode cX1_wrap 18 = .ok (.iload_n 2, 1) := by decide +kernel
theorem dX1_wrap_19 : decode cX1_wrap 19 = .ok (.aload_n 0, 1) := by decide +kernel
theorem dX1_wrap_20 : decode cX1_wrap 20 = .ok (.getfield 65, 3) := by decide +kernel
theorem dX1_wrap_23 : decode cX1_wrap 23 = .ok (.if_icmp .ge 26, 3) := by decide +kernel
theorem dX1_wrap_26 : decode cX1_wrap 26 = .ok (.aload_n 0, 1) := by decide +kernel
theorem dX1_wrap_27 : decode cX1_wrap 27 = .ok (.getfield 20, 3) := by decide +kernel
theorem dX1_wrap_30 : decode cX1_wrap 30 = .ok (.iload_n 2, 1) := by decide +kernel
theorem dX1_wrap_31 : decode cX1_wrap 31 = .ok (.aaload, 1) := by decide +kernel
theorem dX1_wrap_32 : decode cX1_wrap 32 = .ok (.aload_n 0, 1) := by decide +kernel
theorem dX1_wrap_33 : decode cX1_wrap 33 = .ok (.getfield 12, 3) := by decide +kernel
theorem dX1_wrap_36 : decode cX1_wrap 36 = .ok (.aload_n 0, 1) := by decide +kernel
theorem dX1_wrap_37 : decode cX1_wrap 37 = .ok (.getfield 68, 3) := by decide +kernel
theorem dX1_wrap_40 : decode cX1_wrap 40 = .ok (.invokevirtual 71, 3) := by decide +kernel
theorem dX1_wrap_43 : decode cX1_wrap 43 = .ok (.iinc 2 1, 3) := by decide +kernel
theorem dX1_wrap_46 : decode cX1_wrap 46 = .ok (.goto (-28), 3) := by decide +kernel
theorem dX1_wrap_49 : decode cX1_wrap 49 = .ok (.aload_n 0, 1) := by decide +kernel
theorem dX1_wrap_50 : decode cX1_wrap 50 = .ok (.invokevirtual 75, 3) := by decide +kernel
theorem dX1_wrap_53 : decode cX1_wrap 53 = .ok (.aload_n 0, 1) := by decide +kernel
theorem dX1_wrap_54 : decode cX1_wrap 54 = .ok (.invokevirtual 78, 3) := by decide +kernel
theorem dX1_wrap_57 : decode cX1_wrap 57 = .ok (.aload_n 0, 1) := by decide +kernel
theorem dX1_wrap_58 : decode cX1_wrap 58 = .ok (.invokevirtual 81, 3) := by decide +kernel
theorem dX1_wrap_61 : decode cX1_wrap 61 = .ok (.return_, 1) := by decide +kernel
set_option maxRecDepth 20000 in
theorem ggX1_findFaces_X1_tryPlane : GoodIn wsX1_findFaces wsX1_tryPlane := goodIn_r _ [7, 1, 8, 2, 9, 10, 11, 12, 6, 13, 14, 15, 16, 17, 18, 19, 20, 21, 22, 23, 24, 25, 26, 27, 28, 29, 30, 31, 32, 33, 34, 35, 36, 37, 38, 39, 40, 41, 42, 43, 44, 45, 46, 47, 48, 53, 54, 55, 56, 57, 58, 59, 49, 50, 51, 52] (by decide +kernel) (by decide +kernel)
set_option maxRecDepth 20000 in
theorem gX1_findFaces_X1_tryPlane : GoodIn wsX1_findFaces (wsV RX1 84 RX1 yX1_tryPlane wsX1_tryPlane) := goodIn_app (goodIn_of _ (by decide +kernel)) ggX1_findFaces_X1_tryPlane
theorem dX1_findFaces_0 : decode cX1_findFaces 0 = .ok (.aload_n 0, 1) := by decide +kernel
theorem dX1_findFaces_1 : decode cX1_findFaces 1 = .ok (.iconst 0, 1) := by decide +kernel
theorem dX1_findFaces_2 : decode cX1_findFaces 2 = .ok (.putfield 65, 3) := by decide +kernel
theorem dX1_findFaces_5 : decode cX1_findFaces 5 = .ok (.iconst 0, 1) := by decide +kernel
theorem dX1_findFaces_6 : decode cX1_findFaces 6 = .ok (.istore_n 1, 1) := by decide +kernel
theorem dX1_findFaces_7 : decode cX1_findFaces 7 = .ok (.iload_n 1, 1) := by decide +kernel
theorem dX1_findFaces_8 : decode cX1_findFaces 8 = .ok (.aload_n 0, 1) := by decide +kernel
theorem dX1_findFaces_9 : decode cX1_findFaces 9 = .ok (.getfield 12, 3) := by decide +kernel
theorem dX1_findFaces_12 : decode cX1_findFaces 12 = .ok (.getfield 43, 3) := by decide +kernel
theorem dX1_findFaces_15 : decode cX1_findFaces 15 = .ok (.if_icmp .ge 58, 3) := by decide +kernel
theorem dX1_findFaces_18 : decode cX1_findFaces 18 = .ok (.iload_n 1, 1) := by decide +kernel
theorem dX1_findFaces_19 : decode cX1_findFaces 19 = .ok (.iconst 1, 1) := by decide +kernel
theorem dX1_findFaces_20 : decode cX1_findFaces 20 = .ok (.iadd, 1) := by decide +kernel
theorem dX1_findFaces_21 : decode cX1_findFaces 21 = .ok (.istore_n 2, 1) := by decide +kernel
theorem dX1_findFaces_22 : decode cX1_findFaces 22 = .ok (.iload_n 2, 1) := by decide +kernel
theorem dX1_findFaces_23 : decode cX1_findFaces 23 = .ok (.aload_n 0, 1) := by decide +kernel
theorem dX1_findFaces_24 : decode cX1_findFaces 24 = .ok (.getfield 12, 3) := by decide +kernel
theorem dX1_findFaces_27 : decode cX1_findFaces 27 = .ok (.getfield 43, 3) := by decide +kernel
theorem dX1_findFaces_30 : decode cX1_findFaces 30 = .ok (.if_icmp .ge 37, 3) := by decide +kernel
theorem dX1_findFaces_33 : decode cX1_findFaces 33 = .ok (.iload_n 2, 1) := by decide +kernel
theorem dX1_findFaces_34 : decode cX1_findFaces 34 = .ok (.iconst 1, 1) := by decide +kernel
theorem dX1_findFaces_35 : decode cX1_findFaces 35 = .ok (.iadd, 1) := by decide +kernel
theorem dX1_findFaces_36 : decode cX1_findFaces 36 = .ok (.istore_n 3, 1) := by decide +kernel
theorem dX1_findFaces_37 : decode cX1_findFaces 37 = .ok (.iload_n 3, 1) := by decide +kernel
theorem dX1_findFaces_38 : decode cX1_findFaces 38 = .ok (.aload_n 0, 1) := by decide +kernel
theorem dX1_findFaces_39 : decode cX1_findFaces 39 = .ok (.getfield 12, 3) := by decide +kernel
theorem dX1_findFaces_42 : decode cX1_findFaces 42 = .ok (.getfield 43, 3) := by decide +kernel
theorem dX1_findFaces_45 : decode cX1_findFaces 45 = .ok (.if_icmp .ge 16, 3) := by decide +kernel
theorem dX1_findFaces_48 : decode cX1_findFaces 48 = .ok (.aload_n 0, 1) := by decide +kernel
theorem dX1_findFaces_49 : decode cX1_findFaces 49 = .ok (.iload_n 1, 1) := by decide +kernel
theorem dX1_findFaces_50 : decode cX1_findFaces 50 = .ok (.iload_n 2, 1) := by decide +kernel
theorem dX1_findFaces_51 : decode cX1_findFaces 51 = .ok (.iload_n 3, 1) := by decide +kernel
theorem dX1_findFaces_52 : decode cX1_findFaces 52 = .ok (.invokevirtual 84, 3) := by decide +kernel
theorem dX1_findFaces_55 : decode cX1_findFaces 55 = .ok (.iinc 3 1, 3) := by decide +kernel
theorem dX1_findFaces_58 : decode cX1_findFaces 58 = .ok (.goto (-21), 3) := by decide +kernel
theorem dX1_findFaces_61 : decode cX1_findFaces 61 = .ok (.iinc 2 1, 3) := by decide +kernel
theorem dX1_findFaces_64 : decode cX1_findFaces 64 = .ok (.goto (-42), 3) := by decide +kernel
theorem dX1_findFaces_67 : decode cX1_findFaces 67 = .ok (.iinc 1 1, 3) := by decide +kernel
theorem dX1_findFaces_70 : decode cX1_findFaces 70 = .ok (.goto (-63), 3) := by decide +kernel
theorem dX1_findFaces_73 : decode cX1_findFaces 73 = .ok (.return_, 1) := by decide +kernel
set_option maxRecDepth 20000 in
theorem ggX1_tryPlane_X1_lieInOneFace : GoodIn wsX1_tryPlane wsX1_lieInOneFace := goodIn_r _ [9, 1, 4, 34, 35, 36, 37, 38, 39, 40, 41, 42, 43, 44, 45, 46, 47, 48, 49, 50, 51] (by decide +kernel) (by decide +kernel)
set_option maxRecDepth 20000 in
theorem gX1_tryPlane_X1_lieInOneFace : GoodIn wsX1_tryPlane (wsV RX1 88 RX1 yX1_lieInOneFace wsX1_lieInOneFace) := goodIn_app (goodIn_of _ (by decide +kernel)) ggX1_tryPlane_X1_lieInOneFace
set_option maxRecDepth 20000 in
theorem ggX1_tryPlane_X0_layThrough : GoodIn wsX1_tryPlane wsX0_layThrough := goodIn_r _ [13, 14, 15, 16, 17, 18, 19, 20, 52, 53, 54, 55, 45, 46, 47, 48, 49, 50, 51] (by decide +kernel) (by decide +kernel)
set_option maxRecDepth 20000 in
theorem gX1_tryPlane_X0_layThrough_n47 : GoodIn wsX1_tryPlane (wsX0_layThrough) := ggX1_tryPlane_X0_layThrough
set_option maxRecDepth 20000 in
theorem ggX1_tryPlane_X0_turnOutside : GoodIn wsX1_tryPlane wsX0_turnOutside := goodIn_r _ [23, 24, 14, 15, 16, 17, 25, 26, 27, 11, 28, 45, 46, 47, 48, 49, 50, 51, 52, 53, 54, 55] (by decide +kernel) (by decide +kernel)
set_option maxRecDepth 20000 in
theorem gX1_tryPlane_X0_turnOutside_n92 : GoodIn wsX1_tryPlane (wsX0_turnOutside) := ggX1_tryPlane_X0_turnOutside
set_option maxRecDepth 20000 in
theorem ggX1_tryPlane_X0_shortenNormal : GoodIn wsX1_tryPlane wsX0_shortenNormal := goodIn_r _ [31, 14, 15, 16, 17, 32, 19, 33, 45, 46, 47, 48, 49, 50, 51] (by decide +kernel) (by decide +kernel)
set_option maxRecDepth 20000 in
theorem gX1_tryPlane_X0_shortenNormal_n95 : GoodIn wsX1_tryPlane (wsX0_shortenNormal) := ggX1_tryPlane_X0_shortenNormal
theorem dX1_tryPlane_0 : decode cX1_tryPlane 0 = .ok (.aload_n 0, 1) := by decide +kernel
theorem dX1_tryPlane_1 : decode cX1_tryPlane 1 = .ok (.getfield 65, 3) := by decide +kernel
theorem dX1_tryPlane_4 : decode cX1_tryPlane 4 = .ok (.bipush 44, 2) := by decide +kernel
theorem dX1_tryPlane_6 : decode cX1_tryPlane 6 = .ok (.if_icmp .ge 21, 3) := by decide +kernel
theorem dX1_tryPlane_9 : decode cX1_tryPlane 9 = .ok (.aload_n 0, 1) := by decide +kernel
theorem dX1_tryPlane_10 : decode cX1_tryPlane 10 = .ok (.iconst 1, 1) := by decide +kernel
theorem dX1_tryPlane_11 : decode cX1_tryPlane 11 = .ok (.iload_n 1, 1) := by decide +kernel
theorem dX1_tryPlane_12 : decode cX1_tryPlane 12 = .ok (.ishl, 1) := by decide +kernel
theorem dX1_tryPlane_13 : decode cX1_tryPlane 13 = .ok (.iconst 1, 1) := by decide +kernel
theorem dX1_tryPlane_14 : decode cX1_tryPlane 14 = .ok (.iload_n 2, 1) := by decide +kernel
theorem dX1_tryPlane_15 : decode cX1_tryPlane 15 = .ok (.ishl, 1) := by decide +kernel
theorem dX1_tryPlane_16 : decode cX1_tryPlane 16 = .ok (.ior, 1) := by decide +kernel
theorem dX1_tryPlane_17 : decode cX1_tryPlane 17 = .ok (.iconst 1, 1) := by decide +kernel
theorem dX1_tryPlane_18 : decode cX1_tryPlane 18 = .ok (.iload_n 3, 1) := by decide +kernel
theorem dX1_tryPlane_19 : decode cX1_tryPlane 19 = .ok (.ishl, 1) := by decide +kernel
theorem dX1_tryPlane_20 : decode cX1_tryPlane 20 = .ok (.ior, 1) := by decide +kernel
theorem dX1_tryPlane_21 : decode cX1_tryPlane 21 = .ok (.invokevirtual 88, 3) := by decide +kernel
theorem dX1_tryPlane_24 : decode cX1_tryPlane 24 = .ok (.ifCond .eq 4, 3) := by decide +kernel
theorem dX1_tryPlane_27 : decode cX1_tryPlane 27 = .ok (.return_, 1) := by decide +kernel
theorem dX1_tryPlane_28 : decode cX1_tryPlane 28 = .ok (.aload_n 0, 1) := by decide +kernel
theorem dX1_tryPlane_29 : decode cX1_tryPlane 29 = .ok (.getfield 25, 3) := by decide +kernel
theorem dX1_tryPlane_32 : decode cX1_tryPlane 32 = .ok (.aload_n 0, 1) := by decide +kernel
theorem dX1_tryPlane_33 : decode cX1_tryPlane 33 = .ok (.getfield 12, 3) := by decide +kernel
theorem dX1_tryPlane_36 : decode cX1_tryPlane 36 = .ok (.iload_n 1, 1) := by decide +kernel
theorem dX1_tryPlane_37 : decode cX1_tryPlane 37 = .ok (.iload_n 2, 1) := by decide +kernel
theorem dX1_tryPlane_38 : decode cX1_tryPlane 38 = .ok (.iload_n 3, 1) := by decide +kernel
theorem dX1_tryPlane_39 : decode cX1_tryPlane 39 = .ok (.invokevirtual 47, 3) := by decide +kernel
theorem dX1_tryPlane_42 : decode cX1_tryPlane 42 = .ok (.ifCond .eq 64, 3) := by decide +kernel
theorem dX1_tryPlane_45 : decode cX1_tryPlane 45 = .ok (.aload_n 0, 1) := by decide +kernel
theorem dX1_tryPlane_46 : decode cX1_tryPlane 46 = .ok (.getfield 25, 3) := by decide +kernel
theorem dX1_tryPlane_49 : decode cX1_tryPlane 49 = .ok (.aload_n 0, 1) := by decide +kernel
theorem dX1_tryPlane_50 : decode cX1_tryPlane 50 = .ok (.getfield 12, 3) := by decide +kernel
theorem dX1_tryPlane_53 : decode cX1_tryPlane 53 = .ok (.invokevirtual 92, 3) := by decide +kernel
theorem dX1_tryPlane_56 : decode cX1_tryPlane 56 = .ok (.ifCond .eq 50, 3) := by decide +kernel
theorem dX1_tryPlane_59 : decode cX1_tryPlane 59 = .ok (.aload_n 0, 1) := by decide +kernel
theorem dX1_tryPlane_60 : decode cX1_tryPlane 60 = .ok (.getfield 25, 3) := by decide +kernel
theorem dX1_tryPlane_63 : decode cX1_tryPlane 63 = .ok (.invokevirtual 95, 3) := by decide +kernel
theorem dX1_tryPlane_66 : decode cX1_tryPlane 66 = .ok (.aload_n 0, 1) := by decide +kernel
theorem dX1_tryPlane_67 : decode cX1_tryPlane 67 = .ok (.getfield 20, 3) := by decide +kernel
theorem dX1_tryPlane_70 : decode cX1_tryPlane 70 = .ok (.aload_n 0, 1) := by decide +kernel
theorem dX1_tryPlane_71 : decode cX1_tryPlane 71 = .ok (.getfield 65, 3) := by decide +kernel
theorem dX1_tryPlane_74 : decode cX1_tryPlane 74 = .ok (.aaload, 1) := by decide +kernel
theorem dX1_tryPlane_75 : decode cX1_tryPlane 75 = .ok (.astore 4, 2) := by decide +kernel
theorem dX1_tryPlane_77 : decode cX1_tryPlane 77 = .ok (.aload_n 0, 1) := by decide +kernel
theorem dX1_tryPlane_78 : decode cX1_tryPlane 78 = .ok (.getfield 20, 3) := by decide +kernel
theorem dX1_tryPlane_81 : decode cX1_tryPlane 81 = .ok (.aload_n 0, 1) := by decide +kernel
theorem dX1_tryPlane_82 : decode cX1_tryPlane 82 = .ok (.getfield 65, 3) := by decide +kernel
theorem dX1_tryPlane_85 : decode cX1_tryPlane 85 = .ok (.aload_n 0, 1) := by decide +kernel
theorem dX1_tryPlane_86 : decode cX1_tryPlane 86 = .ok (.getfield 25, 3) := by decide +kernel
theorem dX1_tryPlane_89 : decode cX1_tryPlane 89 = .ok (.aastore, 1) := by decide +kernel
theorem dX1_tryPlane_90 : decode cX1_tryPlane 90 = .ok (.aload_n 0, 1) := by decide +kernel
theorem dX1_tryPlane_91 : decode cX1_tryPlane 91 = .ok (.aload 4, 2) := by decide +kernel
theorem dX1_tryPlane_93 : decode cX1_tryPlane 93 = .ok (.putfield 25, 3) := by decide +kernel
theorem dX1_tryPlane_96 : decode cX1_tryPlane 96 = .ok (.aload_n 0, 1) := by decide +kernel
theorem dX1_tryPlane_97 : decode cX1_tryPlane 97 = .ok (.dup, 1) := by decide +kernel
theorem dX1_tryPlane_98 : decode cX1_tryPlane 98 = .ok (.getfield 65, 3) := by decide +kernel
theorem dX1_tryPlane_101 : decode cX1_tryPlane 101 = .ok (.iconst 1, 1) := by decide +kernel
theorem dX1_tryPlane_102 : decode cX1_tryPlane 102 = .ok (.iadd, 1) := by decide +kernel
theorem dX1_tryPlane_103 : decode cX1_tryPlane 103 = .ok (.putfield 65, 3) := by decide +kernel
theorem dX1_tryPlane_106 : decode cX1_tryPlane 106 = .ok (.return_, 1) := by decide +kernel
theorem dX1_lieInOneFace_0 : decode cX1_lieInOneFace 0 = .ok (.iconst 0, 1) := by decide +kernel
theorem dX1_lieInOneFace_1 : decode cX1_lieInOneFace 1 = .ok (.istore_n 2, 1) := by decide +kernel
theorem dX1_lieInOneFace_2 : decode cX1_lieInOneFace 2 = .ok (.iload_n 2, 1) := by decide +kernel
theorem dX1_lieInOneFace_3 : decode cX1_lieInOneFace 3 = .ok (.aload_n 0, 1) := by decide +kernel
theorem dX1_lieInOneFace_4 : decode cX1_lieInOneFace 4 = .ok (.getfield 65, 3) := by decide +kernel
theorem dX1_lieInOneFace_7 : decode cX1_lieInOneFace 7 = .ok (.if_icmp .ge 26, 3) := by decide +kernel
theorem dX1_lieInOneFace_10 : decode cX1_lieInOneFace 10 = .ok (.aload_n 0, 1) := by decide +kernel
theorem dX1_lieInOneFace_11 : decode cX1_lieInOneFace 11 = .ok (.getfield 20, 3) := by decide +kernel
theorem dX1_lieInOneFace_14 : decode cX1_lieInOneFace 14 = .ok (.iload_n 2, 1) := by decide +kernel
theorem dX1_lieInOneFace_15 : decode cX1_lieInOneFace 15 = .ok (.aaload, 1) := by decide +kernel
theorem dX1_lieInOneFace_16 : decode cX1_lieInOneFace 16 = .ok (.getfield 98, 3) := by decide +kernel
theorem dX1_lieInOneFace_19 : decode cX1_lieInOneFace 19 = .ok (.iload_n 1, 1) := by decide +kernel
theorem dX1_lieInOneFace_20 : decode cX1_lieInOneFace 20 = .ok (.iand, 1) := by decide +kernel
theorem dX1_lieInOneFace_21 : decode cX1_lieInOneFace 21 = .ok (.iload_n 1, 1) := by decide +kernel
theorem dX1_lieInOneFace_22 : decode cX1_lieInOneFace 22 = .ok (.if_icmp .ne 5, 3) := by decide +kernel
theorem dX1_lieInOneFace_25 : decode cX1_lieInOneFace 25 = .ok (.iconst 1, 1) := by decide +kernel
theorem dX1_lieInOneFace_26 : decode cX1_lieInOneFace 26 = .ok (.ireturn, 1) := by decide +kernel
theorem dX1_lieInOneFace_27 : decode cX1_lieInOneFace 27 = .ok (.iinc 2 1, 3) := by decide +kernel
theorem dX1_lieInOneFace_30 : decode cX1_lieInOneFace 30 = .ok (.goto (-28), 3) := by decide +kernel
theorem dX1_lieInOneFace_33 : decode cX1_lieInOneFace 33 = .ok (.iconst 0, 1) := by decide +kernel
theorem dX1_lieInOneFace_34 : decode cX1_lieInOneFace 34 = .ok (.ireturn, 1) := by decide +kernel
set_option maxRecDepth 20000 in
theorem ggX1_findCorners_X3_holds : GoodIn wsX1_findCorners wsX3_holds := goodIn_r _ [7] (by decide +kernel) (by decide +kernel)
set_option maxRecDepth 20000 in
theorem gX1_findCorners_X3_holds_n101 : GoodIn wsX1_findCorners (wsX3_holds) := ggX1_findCorners_X3_holds
theorem dX1_findCorners_0 : decode cX1_findCorners 0 = .ok (.aload_n 0, 1) := by decide +kernel
theorem dX1_findCorners_1 : decode cX1_findCorners 1 = .ok (.iconst 0, 1) := by decide +kernel
theorem dX1_findCorners_2 : decode cX1_findCorners 2 = .ok (.putfield 68, 3) := by decide +kernel
theorem dX1_findCorners_5 : decode cX1_findCorners 5 = .ok (.iconst 0, 1) := by decide +kernel
theorem dX1_findCorners_6 : decode cX1_findCorners 6 = .ok (.istore_n 1, 1) := by decide +kernel
theorem dX1_findCorners_7 : decode cX1_findCorners 7 = .ok (.iload_n 1, 1) := by decide +kernel
theorem dX1_findCorners_8 : decode cX1_findCorners 8 = .ok (.aload_n 0, 1) := by decide +kernel
theorem dX1_findCorners_9 : decode cX1_findCorners 9 = .ok (.getfield 12, 3) := by decide +kernel
theorem dX1_findCorners_12 : decode cX1_findCorners 12 = .ok (.getfield 43, 3) := by decide +kernel
theorem dX1_findCorners_15 : decode cX1_findCorners 15 = .ok (.if_icmp .ge 63, 3) := by decide +kernel
theorem dX1_findCorners_18 : decode cX1_findCorners 18 = .ok (.iconst 0, 1) := by decide +kernel
theorem dX1_findCorners_19 : decode cX1_findCorners 19 = .ok (.istore_n 2, 1) := by decide +kernel
theorem dX1_findCorners_20 : decode cX1_findCorners 20 = .ok (.iconst 0, 1) := by decide +kernel
theorem dX1_findCorners_21 : decode cX1_findCorners 21 = .ok (.istore_n 3, 1) := by decide +kernel
theorem dX1_findCorners_22 : decode cX1_findCorners 22 = .ok (.iload_n 3, 1) := by decide +kernel
theorem dX1_findCorners_23 : decode cX1_findCorners 23 = .ok (.aload_n 0, 1) := by decide +kernel
theorem dX1_findCorners_24 : decode cX1_findCorners 24 = .ok (.getfield 65, 3) := by decide +kernel
theorem dX1_findCorners_27 : decode cX1_findCorners 27 = .ok (.if_icmp .ge 28, 3) := by decide +kernel
theorem dX1_findCorners_30 : decode cX1_findCorners 30 = .ok (.aload_n 0, 1) := by decide +kernel
theorem dX1_findCorners_31 : decode cX1_findCorners 31 = .ok (.getfield 20, 3) := by decide +kernel
theorem dX1_findCorners_34 : decode cX1_findCorners 34 = .ok (.iload_n 3, 1) := by decide +kernel
theorem dX1_findCorners_35 : decode cX1_findCorners 35 = .ok (.aaload, 1) := by decide +kernel
theorem dX1_findCorners_36 : decode cX1_findCorners 36 = .ok (.getfield 98, 3) := by decide +kernel
theorem dX1_findCorners_39 : decode cX1_findCorners 39 = .ok (.iload_n 1, 1) := by decide +kernel
theorem dX1_findCorners_40 : decode cX1_findCorners 40 = .ok (.invokestatic 101, 3) := by decide +kernel
theorem dX1_findCorners_43 : decode cX1_findCorners 43 = .ok (.ifCond .eq 6, 3) := by decide +kernel
theorem dX1_findCorners_46 : decode cX1_findCorners 46 = .ok (.iinc 2 1, 3) := by decide +kernel
theorem dX1_findCorners_49 : decode cX1_findCorners 49 = .ok (.iinc 3 1, 3) := by decide +kernel
theorem dX1_findCorners_52 : decode cX1_findCorners 52 = .ok (.goto (-30), 3) := by decide +kernel
theorem dX1_findCorners_55 : decode cX1_findCorners 55 = .ok (.iload_n 2, 1) := by decide +kernel
theorem dX1_findCorners_56 : decode cX1_findCorners 56 = .ok (.iconst 3, 1) := by decide +kernel
theorem dX1_findCorners_57 : decode cX1_findCorners 57 = .ok (.if_icmp .lt 15, 3) := by decide +kernel
theorem dX1_findCorners_60 : decode cX1_findCorners 60 = .ok (.aload_n 0, 1) := by decide +kernel
theorem dX1_findCorners_61 : decode cX1_findCorners 61 = .ok (.dup, 1) := by decide +kernel
theorem dX1_findCorners_62 : decode cX1_findCorners 62 = .ok (.getfield 68, 3) := by decide +kernel
theorem dX1_findCorners_65 : decode cX1_findCorners 65 = .ok (.iconst 1, 1) := by decide +kernel
theorem dX1_findCorners_66 : decode cX1_findCorners 66 = .ok (.iload_n 1, 1) := by decide +kernel
theorem dX1_findCorners_67 : decode cX1_findCorners 67 = .ok (.ishl, 1) := by decide +kernel
theorem dX1_findCorners_68 : decode cX1_findCorners 68 = .ok (.ior, 1) := by decide +kernel
theorem dX1_findCorners_69 : decode cX1_findCorners 69 = .ok (.putfield 68, 3) := by decide +kernel
theorem dX1_findCorners_72 : decode cX1_findCorners 72 = .ok (.iinc 1 1, 3) := by decide +kernel
theorem dX1_findCorners_75 : decode cX1_findCorners 75 = .ok (.goto (-68), 3) := by decide +kernel
theorem dX1_findCorners_78 : decode cX1_findCorners 78 = .ok (.return_, 1) := by decide +kernel
set_option maxRecDepth 20000 in
theorem ggX1_orderFaces_X0_rank : GoodIn wsX1_orderFaces wsX0_rank := goodIn_r _ [6, 7, 8, 9, 10, 22, 23, 24, 25, 26, 27, 28] (by decide +kernel) (by decide +kernel)
set_option maxRecDepth 20000 in
theorem gX1_orderFaces_X0_rank_n105 : GoodIn wsX1_orderFaces (wsX0_rank) := ggX1_orderFaces_X0_rank
theorem dX1_orderFaces_0 : decode cX1_orderFaces 0 = .ok (.iconst 1, 1) := by decide +kernel
theorem dX1_orderFaces_1 : decode cX1_orderFaces 1 = .ok (.istore_n 1, 1) := by decide +kernel
theorem dX1_orderFaces_2 : decode cX1_orderFaces 2 = .ok (.iload_n 1, 1) := by decide +kernel
theorem dX1_orderFaces_3 : decode cX1_orderFaces 3 = .ok (.aload_n 0, 1) := by decide +kernel
theorem dX1_orderFaces_4 : decode cX1_orderFaces 4 = .ok (.getfield 65, 3) := by decide +kernel
theorem dX1_orderFaces_7 : decode cX1_orderFaces 7 = .ok (.if_icmp .ge 74, 3) := by decide +kernel
theorem dX1_orderFaces_10 : decode cX1_orderFaces 10 = .ok (.iload_n 1, 1) := by decide +kernel
theorem dX1_orderFaces_11 : decode cX1_orderFaces 11 = .ok (.istore_n 2, 1) := by decide +kernel
theorem dX1_orderFaces_12 : decode cX1_orderFaces 12 = .ok (.iload_n 2, 1) := by decide +kernel
theorem dX1_orderFaces_13 : decode cX1_orderFaces 13 = .ok (.ifCond .le 62, 3) := by decide +kernel
theorem dX1_orderFaces_16 : decode cX1_orderFaces 16 = .ok (.aload_n 0, 1) := by decide +kernel
theorem dX1_orderFaces_17 : decode cX1_orderFaces 17 = .ok (.getfield 20, 3) := by decide +kernel
theorem dX1_orderFaces_20 : decode cX1_orderFaces 20 = .ok (.iload_n 2, 1) := by decide +kernel
theorem dX1_orderFaces_21 : decode cX1_orderFaces 21 = .ok (.aaload, 1) := by decide +kernel
theorem dX1_orderFaces_22 : decode cX1_orderFaces 22 = .ok (.invokevirtual 105, 3) := by decide +kernel
theorem dX1_orderFaces_25 : decode cX1_orderFaces 25 = .ok (.aload_n 0, 1) := by decide +kernel
theorem dX1_orderFaces_26 : decode cX1_orderFaces 26 = .ok (.getfield 20, 3) := by decide +kernel
theorem dX1_orderFaces_29 : decode cX1_orderFaces 29 = .ok (.iload_n 2, 1) := by decide +kernel
theorem dX1_orderFaces_30 : decode cX1_orderFaces 30 = .ok (.iconst 1, 1) := by decide +kernel
theorem dX1_orderFaces_31 : decode cX1_orderFaces 31 = .ok (.isub, 1) := by decide +kernel
theorem dX1_orderFaces_32 : decode cX1_orderFaces 32 = .ok (.aaload, 1) := by decide +kernel
theorem dX1_orderFaces_33 : decode cX1_orderFaces 33 = .ok (.invokevirtual 105, 3) := by decide +kernel
theorem dX1_orderFaces_36 : decode cX1_orderFaces 36 = .ok (.if_icmp .ge 39, 3) := by decide +kernel
theorem dX1_orderFaces_39 : decode cX1_orderFaces 39 = .ok (.aload_n 0, 1) := by decide +kernel
theorem dX1_orderFaces_40 : decode cX1_orderFaces 40 = .ok (.getfield 20, 3) := by decide +kernel
theorem dX1_orderFaces_43 : decode cX1_orderFaces 43 = .ok (.iload_n 2, 1) := by decide +kernel
theorem dX1_orderFaces_44 : decode cX1_orderFaces 44 = .ok (.aaload, 1) := by decide +kernel
theorem dX1_orderFaces_45 : decode cX1_orderFaces 45 = .ok (.astore_n 3, 1) := by decide +kernel
theorem dX1_orderFaces_46 : decode cX1_orderFaces 46 = .ok (.aload_n 0, 1) := by decide +kernel
theorem dX1_orderFaces_47 : decode cX1_orderFaces 47 = .ok (.getfield 20, 3) := by decide +kernel
theorem dX1_orderFaces_50 : decode cX1_orderFaces 50 = .ok (.iload_n 2, 1) := by decide +kernel
theorem dX1_orderFaces_51 : decode cX1_orderFaces 51 = .ok (.aload_n 0, 1) := by decide +kernel
theorem dX1_orderFaces_52 : decode cX1_orderFaces 52 = .ok (.getfield 20, 3) := by decide +kernel
theorem dX1_orderFaces_55 : decode cX1_orderFaces 55 = .ok (.iload_n 2, 1) := by decide +kernel
theorem dX1_orderFaces_56 : decode cX1_orderFaces 56 = .ok (.iconst 1, 1) := by decide +kernel
theorem dX1_orderFaces_57 : decode cX1_orderFaces 57 = .ok (.isub, 1) := by decide +kernel
theorem dX1_orderFaces_58 : decode cX1_orderFaces 58 = .ok (.aaload, 1) := by decide +kernel
theorem dX1_orderFaces_59 : decode cX1_orderFaces 59 = .ok (.aastore, 1) := by decide +kernel
theorem dX1_orderFaces_60 : decode cX1_orderFaces 60 = .ok (.aload_n 0, 1) := by decide +kernel
theorem dX1_orderFaces_61 : decode cX1_orderFaces 61 = .ok (.getfield 20, 3) := by decide +kernel
theorem dX1_orderFaces_64 : decode cX1_orderFaces 64 = .ok (.iload_n 2, 1) := by decide +kernel
theorem dX1_orderFaces_65 : decode cX1_orderFaces 65 = .ok (.iconst 1, 1) := by decide +kernel
theorem dX1_orderFaces_66 : decode cX1_orderFaces 66 = .ok (.isub, 1) := by decide +kernel
theorem dX1_orderFaces_67 : decode cX1_orderFaces 67 = .ok (.aload_n 3, 1) := by decide +kernel
theorem dX1_orderFaces_68 : decode cX1_orderFaces 68 = .ok (.aastore, 1) := by decide +kernel
theorem dX1_orderFaces_69 : decode cX1_orderFaces 69 = .ok (.iinc 2 (-1), 3) := by decide +kernel
theorem dX1_orderFaces_72 : decode cX1_orderFaces 72 = .ok (.goto (-60), 3) := by decide +kernel
theorem dX1_orderFaces_75 : decode cX1_orderFaces 75 = .ok (.iinc 1 1, 3) := by decide +kernel
theorem dX1_orderFaces_78 : decode cX1_orderFaces 78 = .ok (.goto (-76), 3) := by decide +kernel
theorem dX1_orderFaces_81 : decode cX1_orderFaces 81 = .ok (.return_, 1) := by decide +kernel
set_option maxRecDepth 20000 in
theorem ggX1_findEdges_X1_noteWays : GoodIn wsX1_findEdges wsX1_noteWays := goodIn_r _ [10, 3, 11, 12, 13, 14, 15, 16, 17, 18, 19, 20, 21, 22, 23, 24, 25, 26, 27, 28, 29, 30, 35, 36, 37, 38, 39, 40, 41] (by decide +kernel) (by decide +kernel)
set_option maxRecDepth 20000 in
theorem gX1_findEdges_X1_noteWays : GoodIn wsX1_findEdges (wsV RX1 109 RX1 yX1_noteWays wsX1_noteWays) := goodIn_app (goodIn_of _ (by decide +kernel)) ggX1_findEdges_X1_noteWays
set_option maxRecDepth 20000 in
theorem ggX1_findEdges_X3_way : GoodIn wsX1_findEdges wsX3_way := goodIn_r _ [19] (by decide +kernel) (by decide +kernel)
set_option maxRecDepth 20000 in
theorem gX1_findEdges_X3_way_n115 : GoodIn wsX1_findEdges (wsX3_way) := ggX1_findEdges_X3_way
theorem dX1_findEdges_0 : decode cX1_findEdges 0 = .ok (.aload_n 0, 1) := by decide +kernel
theorem dX1_findEdges_1 : decode cX1_findEdges 1 = .ok (.invokevirtual 109, 3) := by decide +kernel
theorem dX1_findEdges_4 : decode cX1_findEdges 4 = .ok (.aload_n 0, 1) := by decide +kernel
theorem dX1_findEdges_5 : decode cX1_findEdges 5 = .ok (.iconst 0, 1) := by decide +kernel
theorem dX1_findEdges_6 : decode cX1_findEdges 6 = .ok (.putfield 112, 3) := by decide +kernel
theorem dX1_findEdges_9 : decode cX1_findEdges 9 = .ok (.iconst 0, 1) := by decide +kernel
theorem dX1_findEdges_10 : decode cX1_findEdges 10 = .ok (.istore_n 1, 1) := by decide +kernel
theorem dX1_findEdges_11 : decode cX1_findEdges 11 = .ok (.iload_n 1, 1) := by decide +kernel
theorem dX1_findEdges_12 : decode cX1_findEdges 12 = .ok (.aload_n 0, 1) := by decide +kernel
theorem dX1_findEdges_13 : decode cX1_findEdges 13 = .ok (.getfield 12, 3) := by decide +kernel
theorem dX1_findEdges_16 : decode cX1_findEdges 16 = .ok (.getfield 43, 3) := by decide +kernel
theorem dX1_findEdges_19 : decode cX1_findEdges 19 = .ok (.if_icmp .ge 83, 3) := by decide +kernel
theorem dX1_findEdges_22 : decode cX1_findEdges 22 = .ok (.iload_n 1, 1) := by decide +kernel
theorem dX1_findEdges_23 : decode cX1_findEdges 23 = .ok (.iconst 1, 1) := by decide +kernel
theorem dX1_findEdges_24 : decode cX1_findEdges 24 = .ok (.iadd, 1) := by decide +kernel
theorem dX1_findEdges_25 : decode cX1_findEdges 25 = .ok (.istore_n 2, 1) := by decide +kernel
theorem dX1_findEdges_26 : decode cX1_findEdges 26 = .ok (.iload_n 2, 1) := by decide +kernel
theorem dX1_findEdges_27 : decode cX1_findEdges 27 = .ok (.aload_n 0, 1) := by decide +kernel
theorem dX1_findEdges_28 : decode cX1_findEdges 28 = .ok (.getfield 12, 3) := by decide +kernel
theorem dX1_findEdges_31 : decode cX1_findEdges 31 = .ok (.getfield 43, 3) := by decide +kernel
theorem dX1_findEdges_34 : decode cX1_findEdges 34 = .ok (.if_icmp .ge 62, 3) := by decide +kernel
theorem dX1_findEdges_37 : decode cX1_findEdges 37 = .ok (.aload_n 0, 1) := by decide +kernel
theorem dX1_findEdges_38 : decode cX1_findEdges 38 = .ok (.getfield 29, 3) := by decide +kernel
theorem dX1_findEdges_41 : decode cX1_findEdges 41 = .ok (.iload_n 1, 1) := by decide +kernel
theorem dX1_findEdges_42 : decode cX1_findEdges 42 = .ok (.iload_n 2, 1) := by decide +kernel
theorem dX1_findEdges_43 : decode cX1_findEdges 43 = .ok (.invokestatic 115, 3) := by decide +kernel
theorem dX1_findEdges_46 : decode cX1_findEdges 46 = .ok (.iaload, 1) := by decide +kernel
theorem dX1_findEdges_47 : decode cX1_findEdges 47 = .ok (.iconst (-1), 1) := by decide +kernel
theorem dX1_findEdges_48 : decode cX1_findEdges 48 = .ok (.if_icmp .eq 42, 3) := by decide +kernel
theorem dX1_findEdges_51 : decode cX1_findEdges 51 = .ok (.aload_n 0, 1) := by decide +kernel
theorem dX1_findEdges_52 : decode cX1_findEdges 52 = .ok (.getfield 112, 3) := by decide +kernel
theorem dX1_findEdges_55 : decode cX1_findEdges 55 = .ok (.bipush 66, 2) := by decide +kernel
theorem dX1_findEdges_57 : decode cX1_findEdges 57 = .ok (.if_icmp .ge 33, 3) := by decide +kernel
theorem dX1_findEdges_60 : decode cX1_findEdges 60 = .ok (.aload_n 0, 1) := by decide +kernel
theorem dX1_findEdges_61 : decode cX1_findEdges 61 = .ok (.getfield 33, 3) := by decide +kernel
theorem dX1_findEdges_64 : decode cX1_findEdges 64 = .ok (.aload_n 0, 1) := by decide +kernel
theorem dX1_findEdges_65 : decode cX1_findEdges 65 = .ok (.getfield 112, 3) := by decide +kernel
theorem dX1_findEdges_68 : decode cX1_findEdges 68 = .ok (.iload_n 1, 1) := by decide +kernel
theorem dX1_findEdges_69 : decode cX1_findEdges 69 = .ok (.iastore, 1) := by decide +kernel
theorem dX1_findEdges_70 : decode cX1_findEdges 70 = .ok (.aload_n 0, 1) := by decide +kernel
theorem dX1_findEdges_71 : decode cX1_findEdges 71 = .ok (.getfield 36, 3) := by decide +kernel
theorem dX1_findEdges_74 : decode cX1_findEdges 74 = .ok (.aload_n 0, 1) := by decide +kernel
theorem dX1_findEdges_75 : decode cX1_findEdges 75 = .ok (.getfield 112, 3) := by decide +kernel
theorem dX1_findEdges_78 : decode cX1_findEdges 78 = .ok (.iload_n 2, 1) := by decide +kernel
theorem dX1_findEdges_79 : decode cX1_findEdges 79 = .ok (.iastore, 1) := by decide +kernel
theorem dX1_findEdges_80 : decode cX1_findEdges 80 = .ok (.aload_n 0, 1) := by decide +kernel
theorem dX1_findEdges_81 : decode cX1_findEdges 81 = .ok (.dup, 1) := by decide +kernel
theorem dX1_findEdges_82 : decode cX1_findEdges 82 = .ok (.getfield 112, 3) := by decide +kernel
theorem dX1_findEdges_85 : decode cX1_findEdges 85 = .ok (.iconst 1, 1) := by decide +kernel
theorem dX1_findEdges_86 : decode cX1_findEdges 86 = .ok (.iadd, 1) := by decide +kernel
theorem dX1_findEdges_87 : decode cX1_findEdges 87 = .ok (.putfield 112, 3) := by decide +kernel
theorem dX1_findEdges_90 : decode cX1_findEdges 90 = .ok (.iinc 2 1, 3) := by decide +kernel
theorem dX1_findEdges_93 : decode cX1_findEdges 93 = .ok (.goto (-67), 3) := by decide +kernel
theorem dX1_findEdges_96 : decode cX1_findEdges 96 = .ok (.iinc 1 1, 3) := by decide +kernel
theorem dX1_findEdges_99 : decode cX1_findEdges 99 = .ok (.goto (-88), 3) := by decide +kernel
theorem dX1_findEdges_102 : decode cX1_findEdges 102 = .ok (.return_, 1) := by decide +kernel
set_option maxRecDepth 20000 in
theorem ggX1_noteWays_J7_fill_53178 : GoodIn wsX1_noteWays wsJ7_fill_53178 := goodIn_r _ [7] (by decide +kernel) (by decide +kernel)
set_option maxRecDepth 20000 in
theorem gX1_noteWays_J7_fill_53178 : GoodIn wsX1_noteWays (va_wsS RX1 119 yJ7_fill_53178 wsJ7_fill_53178) := goodIn_app (goodIn_of _ (by decide +kernel)) ggX1_noteWays_J7_fill_53178
set_option maxRecDepth 20000 in
theorem ggX1_noteWays_X3_way : GoodIn wsX1_noteWays wsX3_way := goodIn_r _ [10] (by decide +kernel) (by decide +kernel)
set_option maxRecDepth 20000 in
theorem gX1_noteWays_X3_way_n115 : GoodIn wsX1_noteWays (wsX3_way) := ggX1_noteWays_X3_way
theorem dX1_noteWays_0 : decode cX1_noteWays 0 = .ok (.aload_n 0, 1) := by decide +kernel
theorem dX1_noteWays_1 : decode cX1_noteWays 1 = .ok (.getfield 29, 3) := by decide +kernel
theorem dX1_noteWays_4 : decode cX1_noteWays 4 = .ok (.iconst (-1), 1) := by decide +kernel
theorem dX1_noteWays_5 : decode cX1_noteWays 5 = .ok (.invokestatic 119, 3) := by decide +kernel
theorem dX1_noteWays_8 : decode cX1_noteWays 8 = .ok (.iconst 0, 1) := by decide +kernel
theorem dX1_noteWays_9 : decode cX1_noteWays 9 = .ok (.istore_n 1, 1) := by decide +kernel
theorem dX1_noteWays_10 : decode cX1_noteWays 10 = .ok (.iload_n 1, 1) := by decide +kernel
theorem dX1_noteWays_11 : decode cX1_noteWays 11 = .ok (.aload_n 0, 1) := by decide +kernel
theorem dX1_noteWays_12 : decode cX1_noteWays 12 = .ok (.getfield 65, 3) := by decide +kernel
theorem dX1_noteWays_15 : decode cX1_noteWays 15 = .ok (.if_icmp .ge 73, 3) := by decide +kernel
theorem dX1_noteWays_18 : decode cX1_noteWays 18 = .ok (.aload_n 0, 1) := by decide +kernel
theorem dX1_noteWays_19 : decode cX1_noteWays 19 = .ok (.getfield 20, 3) := by decide +kernel
theorem dX1_noteWays_22 : decode cX1_noteWays 22 = .ok (.iload_n 1, 1) := by decide +kernel
theorem dX1_noteWays_23 : decode cX1_noteWays 23 = .ok (.aaload, 1) := by decide +kernel
theorem dX1_noteWays_24 : decode cX1_noteWays 24 = .ok (.astore_n 2, 1) := by decide +kernel
theorem dX1_noteWays_25 : decode cX1_noteWays 25 = .ok (.iconst 0, 1) := by decide +kernel
theorem dX1_noteWays_26 : decode cX1_noteWays 26 = .ok (.istore_n 3, 1) := by decide +kernel
theorem dX1_noteWays_27 : decode cX1_noteWays 27 = .ok (.iload_n 3, 1) := by decide +kernel
theorem dX1_noteWays_28 : decode cX1_noteWays 28 = .ok (.aload_n 2, 1) := by decide +kernel
theorem dX1_noteWays_29 : decode cX1_noteWays 29 = .ok (.getfield 125, 3) := by decide +kernel
theorem dX1_noteWays_32 : decode cX1_noteWays 32 = .ok (.if_icmp .ge 50, 3) := by decide +kernel
theorem dX1_noteWays_35 : decode cX1_noteWays 35 = .ok (.iload_n 3, 1) := by decide +kernel
theorem dX1_noteWays_36 : decode cX1_noteWays 36 = .ok (.iconst 1, 1) := by decide +kernel
theorem dX1_noteWays_37 : decode cX1_noteWays 37 = .ok (.iadd, 1) := by decide +kernel
theorem dX1_noteWays_38 : decode cX1_noteWays 38 = .ok (.aload_n 2, 1) := by decide +kernel
theorem dX1_noteWays_39 : decode cX1_noteWays 39 = .ok (.getfield 125, 3) := by decide +kernel
theorem dX1_noteWays_42 : decode cX1_noteWays 42 = .ok (.if_icmp .ge 9, 3) := by decide +kernel
theorem dX1_noteWays_45 : decode cX1_noteWays 45 = .ok (.iload_n 3, 1) := by decide +kernel
theorem dX1_noteWays_46 : decode cX1_noteWays 46 = .ok (.iconst 1, 1) := by decide +kernel
theorem dX1_noteWays_47 : decode cX1_noteWays 47 = .ok (.iadd, 1) := by decide +kernel
theorem dX1_noteWays_48 : decode cX1_noteWays 48 = .ok (.goto 4, 3) := by decide +kernel
theorem dX1_noteWays_51 : decode cX1_noteWays 51 = .ok (.iconst 0, 1) := by decide +kernel
theorem dX1_noteWays_52 : decode cX1_noteWays 52 = .ok (.istore 4, 2) := by decide +kernel
theorem dX1_noteWays_54 : decode cX1_noteWays 54 = .ok (.aload_n 0, 1) := by decide +kernel
theorem dX1_noteWays_55 : decode cX1_noteWays 55 = .ok (.getfield 29, 3) := by decide +kernel
theorem dX1_noteWays_58 : decode cX1_noteWays 58 = .ok (.aload_n 2, 1) := by decide +kernel
theorem dX1_noteWays_59 : decode cX1_noteWays 59 = .ok (.getfield 126, 3) := by decide +kernel
theorem dX1_noteWays_62 : decode cX1_noteWays 62 = .ok (.iload_n 3, 1) := by decide +kernel
theorem dX1_noteWays_63 : decode cX1_noteWays 63 = .ok (.iaload, 1) := by decide +kernel
theorem dX1_noteWays_64 : decode cX1_noteWays 64 = .ok (.aload_n 2, 1) := by decide +kernel
theorem dX1_noteWays_65 : decode cX1_noteWays 65 = .ok (.getfield 126, 3) := by decide +kernel
theorem dX1_noteWays_68 : decode cX1_noteWays 68 = .ok (.iload 4, 2) := by decide +kernel
theorem dX1_noteWays_70 : decode cX1_noteWays 70 = .ok (.iaload, 1) := by decide +kernel
theorem dX1_noteWays_71 : decode cX1_noteWays 71 = .ok (.invokestatic 115, 3) := by decide +kernel
theorem dX1_noteWays_74 : decode cX1_noteWays 74 = .ok (.iload_n 1, 1) := by decide +kernel
theorem dX1_noteWays_75 : decode cX1_noteWays 75 = .ok (.iastore, 1) := by decide +kernel
theorem dX1_noteWays_76 : decode cX1_noteWays 76 = .ok (.iinc 3 1, 3) := by decide +kernel
theorem dX1_noteWays_79 : decode cX1_noteWays 79 = .ok (.goto (-52), 3) := by decide +kernel
theorem dX1_noteWays_82 : decode cX1_noteWays 82 = .ok (.iinc 1 1, 3) := by decide +kernel
theorem dX1_noteWays_85 : decode cX1_noteWays 85 = .ok (.goto (-75), 3) := by decide +kernel
theorem dX1_noteWays_88 : decode cX1_noteWays 88 = .ok (.return_, 1) := by decide +kernel
set_option maxRecDepth 20000 in
theorem ggX1_measure_J7_fill_d0a16 : GoodIn wsX1_measure wsJ7_fill_d0a16 := goodIn_r _ [8] (by decide +kernel) (by decide +kernel)
set_option maxRecDepth 20000 in
theorem gX1_measure_J7_fill_d0a16 : GoodIn wsX1_measure (va_wsS RX1 133 yJ7_fill_d0a16 wsJ7_fill_d0a16) := goodIn_app (goodIn_of _ (by decide +kernel)) ggX1_measure_J7_fill_d0a16
set_option maxRecDepth 20000 in
theorem ggX1_measure_X1_addTetrahedron : GoodIn wsX1_measure wsX1_addTetrahedron := goodIn_r _ [13, 14, 1, 2, 15, 16, 17, 18, 19, 20, 21, 22, 23, 24, 25, 33, 34, 35, 36] (by decide +kernel) (by decide +kernel)
set_option maxRecDepth 20000 in
theorem gX1_measure_X1_addTetrahedron : GoodIn wsX1_measure (wsV RX1 136 RX1 yX1_addTetrahedron wsX1_addTetrahedron) := goodIn_app (goodIn_of _ (by decide +kernel)) ggX1_measure_X1_addTetrahedron
theorem dX1_measure_0 : decode cX1_measure 0 = .ok (.aload_n 0, 1) := by decide +kernel
theorem dX1_measure_1 : decode cX1_measure 1 = .ok (.lconst 0, 1) := by decide +kernel
theorem dX1_measure_2 : decode cX1_measure 2 = .ok (.putfield 129, 3) := by decide +kernel
theorem dX1_measure_5 : decode cX1_measure 5 = .ok (.aload_n 0, 1) := by decide +kernel
theorem dX1_measure_6 : decode cX1_measure 6 = .ok (.getfield 39, 3) := by decide +kernel
theorem dX1_measure_9 : decode cX1_measure 9 = .ok (.lconst 0, 1) := by decide +kernel
theorem dX1_measure_10 : decode cX1_measure 10 = .ok (.invokestatic 133, 3) := by decide +kernel
theorem dX1_measure_13 : decode cX1_measure 13 = .ok (.iconst 0, 1) := by decide +kernel
theorem dX1_measure_14 : decode cX1_measure 14 = .ok (.istore_n 1, 1) := by decide +kernel
theorem dX1_measure_15 : decode cX1_measure 15 = .ok (.iload_n 1, 1) := by decide +kernel
theorem dX1_measure_16 : decode cX1_measure 16 = .ok (.aload_n 0, 1) := by decide +kernel
theorem dX1_measure_17 : decode cX1_measure 17 = .ok (.getfield 65, 3) := by decide +kernel
theorem dX1_measure_20 : decode cX1_measure 20 = .ok (.if_icmp .ge 58, 3) := by decide +kernel
theorem dX1_measure_23 : decode cX1_measure 23 = .ok (.aload_n 0, 1) := by decide +kernel
theorem dX1_measure_24 : decode cX1_measure 24 = .ok (.getfield 20, 3) := by decide +kernel
theorem dX1_measure_27 : decode cX1_measure 27 = .ok (.iload_n 1, 1) := by decide +kernel
theorem dX1_measure_28 : decode cX1_measure 28 = .ok (.aaload, 1) := by decide +kernel
theorem dX1_measure_29 : decode cX1_measure 29 = .ok (.astore_n 2, 1) := by decide +kernel
theorem dX1_measure_30 : decode cX1_measure 30 = .ok (.iconst 1, 1) := by decide +kernel
theorem dX1_measure_31 : decode cX1_measure 31 = .ok (.istore_n 3, 1) := by decide +kernel
theorem dX1_measure_32 : decode cX1_measure 32 = .ok (.iload_n 3, 1) := by decide +kernel
theorem dX1_measure_33 : decode cX1_measure 33 = .ok (.iconst 1, 1) := by decide +kernel
theorem dX1_measure_34 : decode cX1_measure 34 = .ok (.iadd, 1) := by decide +kernel
theorem dX1_measure_35 : decode cX1_measure 35 = .ok (.aload_n 2, 1) := by decide +kernel
theorem dX1_measure_36 : decode cX1_measure 36 = .ok (.getfield 125, 3) := by decide +kernel
theorem dX1_measure_39 : decode cX1_measure 39 = .ok (.if_icmp .ge 33, 3) := by decide +kernel
theorem dX1_measure_42 : decode cX1_measure 42 = .ok (.aload_n 0, 1) := by decide +kernel
theorem dX1_measure_43 : decode cX1_measure 43 = .ok (.aload_n 2, 1) := by decide +kernel
theorem dX1_measure_44 : decode cX1_measure 44 = .ok (.getfield 126, 3) := by decide +kernel
theorem dX1_measure_47 : decode cX1_measure 47 = .ok (.iconst 0, 1) := by decide +kernel
theorem dX1_measure_48 : decode cX1_measure 48 = .ok (.iaload, 1) := by decide +kernel
theorem dX1_measure_49 : decode cX1_measure 49 = .ok (.aload_n 2, 1) := by decide +kernel
theorem dX1_measure_50 : decode cX1_measure 50 = .ok (.getfield 126, 3) := by decide +kernel
theorem dX1_measure_53 : decode cX1_measure 53 = .ok (.iload_n 3, 1) := by decide +kernel
theorem dX1_measure_54 : decode cX1_measure 54 = .ok (.iaload, 1) := by decide +kernel
theorem dX1_measure_55 : decode cX1_measure 55 = .ok (.aload_n 2, 1) := by decide +kernel
theorem dX1_measure_56 : decode cX1_measure 56 = .ok (.getfield 126, 3) := by decide +kernel
theorem dX1_measure_59 : decode cX1_measure 59 = .ok (.iload_n 3, 1) := by decide +kernel
theorem dX1_measure_60 : decode cX1_measure 60 = .ok (.iconst 1, 1) := by decide +kernel
theorem dX1_measure_61 : decode cX1_measure 61 = .ok (.iadd, 1) := by decide +kernel
theorem dX1_measure_62 : decode cX1_measure 62 = .ok (.iaload, 1) := by decide +kernel
theorem dX1_measure_63 : decode cX1_measure 63 = .ok (.invokevirtual 136, 3) := by decide +kernel
theorem dX1_measure_66 : decode cX1_measure 66 = .ok (.iinc 3 1, 3) := by decide +kernel
theorem dX1_measure_69 : decode cX1_measure 69 = .ok (.goto (-37), 3) := by decide +kernel
theorem dX1_measure_72 : decode cX1_measure 72 = .ok (.iinc 1 1, 3) := by decide +kernel
theorem dX1_measure_75 : decode cX1_measure 75 = .ok (.goto (-60), 3) := by decide +kernel
theorem dX1_measure_78 : decode cX1_measure 78 = .ok (.return_, 1) := by decide +kernel
theorem dX1_addTetrahedron_0 : decode cX1_addTetrahedron 0 = .ok (.aload_n 0, 1) := by decide +kernel
theorem dX1_addTetrahedron_1 : decode cX1_addTetrahedron 1 = .ok (.getfield 12, 3) := by decide +kernel
theorem dX1_addTetrahedron_4 : decode cX1_addTetrahedron 4 = .ok (.getfield 139, 3) := by decide +kernel
theorem dX1_addTetrahedron_7 : decode cX1_addTetrahedron 7 = .ok (.iload_n 1, 1) := by decide +kernel
theorem dX1_addTetrahedron_8 : decode cX1_addTetrahedron 8 = .ok (.iaload, 1) := by decide +kernel
theorem dX1_addTetrahedron_9 : decode cX1_addTetrahedron 9 = .ok (.i2l, 1) := by decide +kernel
theorem dX1_addTetrahedron_10 : decode cX1_addTetrahedron 10 = .ok (.aload_n 0, 1) := by decide +kernel
theorem dX1_addTetrahedron_11 : decode cX1_addTetrahedron 11 = .ok (.getfield 12, 3) := by decide +kernel
theorem dX1_addTetrahedron_14 : decode cX1_addTetrahedron 14 = .ok (.getfield 142, 3) := by decide +kernel
theorem dX1_addTetrahedron_17 : decode cX1_addTetrahedron 17 = .ok (.iload_n 2, 1) := by decide +kernel
theorem dX1_addTetrahedron_18 : decode cX1_addTetrahedron 18 = .ok (.iaload, 1) := by decide +kernel
theorem dX1_addTetrahedron_19 : decode cX1_addTetrahedron 19 = .ok (.i2l, 1) := by decide +kernel
theorem dX1_addTetrahedron_20 : decode cX1_addTetrahedron 20 = .ok (.aload_n 0, 1) := by decide +kernel
theorem dX1_addTetrahedron_21 : decode cX1_addTetrahedron 21 = .ok (.getfield 12, 3) := by decide +kernel
theorem dX1_addTetrahedron_24 : decode cX1_addTetrahedron 24 = .ok (.getfield 145, 3) := by decide +kernel
theorem dX1_addTetrahedron_27 : decode cX1_addTetrahedron 27 = .ok (.iload_n 3, 1) := by decide +kernel
theorem dX1_addTetrahedron_28 : decode cX1_addTetrahedron 28 = .ok (.iaload, 1) := by decide +kernel
theorem dX1_addTetrahedron_29 : decode cX1_addTetrahedron 29 = .ok (.i2l, 1) := by decide +kernel
theorem dX1_addTetrahedron_30 : decode cX1_addTetrahedron 30 = .ok (.lmul, 1) := by decide +kernel
theorem dX1_addTetrahedron_31 : decode cX1_addTetrahedron 31 = .ok (.aload_n 0, 1) := by decide +kernel
theorem dX1_addTetrahedron_32 : decode cX1_addTetrahedron 32 = .ok (.getfield 12, 3) := by decide +kernel
theorem dX1_addTetrahedron_35 : decode cX1_addTetrahedron 35 = .ok (.getfield 145, 3) := by decide +kernel
theorem dX1_addTetrahedron_38 : decode cX1_addTetrahedron 38 = .ok (.iload_n 2, 1) := by decide +kernel
theorem dX1_addTetrahedron_39 : decode cX1_addTetrahedron 39 = .ok (.iaload, 1) := by decide +kernel
theorem dX1_addTetrahedron_40 : decode cX1_addTetrahedron 40 = .ok (.i2l, 1) := by decide +kernel
theorem dX1_addTetrahedron_41 : decode cX1_addTetrahedron 41 = .ok (.aload_n 0, 1) := by decide +kernel
theorem dX1_addTetrahedron_42 : decode cX1_addTetrahedron 42 = .ok (.getfield 12, 3) := by decide +kernel
theorem dX1_addTetrahedron_45 : decode cX1_addTetrahedron 45 = .ok (.getfield 142, 3) := by decide +kernel
theorem dX1_addTetrahedron_48 : decode cX1_addTetrahedron 48 = .ok (.iload_n 3, 1) := by decide +kernel
theorem dX1_addTetrahedron_49 : decode cX1_addTetrahedron 49 = .ok (.iaload, 1) := by decide +kernel
theorem dX1_addTetrahedron_50 : decode cX1_addTetrahedron 50 = .ok (.i2l, 1) := by decide +kernel
theorem dX1_addTetrahedron_51 : decode cX1_addTetrahedron 51 = .ok (.lmul, 1) := by decide +kernel
theorem dX1_addTetrahedron_52 : decode cX1_addTetrahedron 52 = .ok (.lsub, 1) := by decide +kernel
theorem dX1_addTetrahedron_53 : decode cX1_addTetrahedron 53 = .ok (.lmul, 1) := by decide +kernel
theorem dX1_addTetrahedron_54 : decode cX1_addTetrahedron 54 = .ok (.aload_n 0, 1) := by decide +kernel
theorem dX1_addTetrahedron_55 : decode cX1_addTetrahedron 55 = .ok (.getfield 12, 3) := by decide +kernel
theorem dX1_addTetrahedron_58 : decode cX1_addTetrahedron 58 = .ok (.getfield 142, 3) := by decide +kernel
theorem dX1_addTetrahedron_61 : decode cX1_addTetrahedron 61 = .ok (.iload_n 1, 1) := by decide +kernel
theorem dX1_addTetrahedron_62 : decode cX1_addTetrahedron 62 = .ok (.iaload, 1) := by decide +kernel
theorem dX1_addTetrahedron_63 : decode cX1_addTetrahedron 63 = .ok (.i2l, 1) := by decide +kernel
theorem dX1_addTetrahedron_64 : decode cX1_addTetrahedron 64 = .ok (.aload_n 0, 1) := by decide +kernel
theorem dX1_addTetrahedron_65 : decode cX1_addTetrahedron 65 = .ok (.getfield 12, 3) := by decide +kernel
theorem dX1_addTetrahedron_68 : decode cX1_addTetrahedron 68 = .ok (.getfield 145, 3) := by decide +kernel
theorem dX1_addTetrahedron_71 : decode cX1_addTetrahedron 71 = .ok (.iload_n 2, 1) := by decide +kernel
theorem dX1_addTetrahedron_72 : decode cX1_addTetrahedron 72 = .ok (.iaload, 1) := by decide +kernel
theorem dX1_addTetrahedron_73 : decode cX1_addTetrahedron 73 = .ok (.i2l, 1) := by decide +kernel
theorem dX1_addTetrahedron_74 : decode cX1_addTetrahedron 74 = .ok (.aload_n 0, 1) := by decide +kernel
theorem dX1_addTetrahedron_75 : decode cX1_addTetrahedron 75 = .ok (.getfield 12, 3) := by decide +kernel
theorem dX1_addTetrahedron_78 : decode cX1_addTetrahedron 78 = .ok (.getfield 139, 3) := by decide +kernel
theorem dX1_addTetrahedron_81 : decode cX1_addTetrahedron 81 = .ok (.iload_n 3, 1) := by decide +kernel
theorem dX1_addTetrahedron_82 : decode cX1_addTetrahedron 82 = .ok (.iaload, 1) := by decide +kernel
theorem dX1_addTetrahedron_83 : decode cX1_addTetrahedron 83 = .ok (.i2l, 1) := by decide +kernel
theorem dX1_addTetrahedron_84 : decode cX1_addTetrahedron 84 = .ok (.lmul, 1) := by decide +kernel
theorem dX1_addTetrahedron_85 : decode cX1_addTetrahedron 85 = .ok (.aload_n 0, 1) := by decide +kernel
theorem dX1_addTetrahedron_86 : decode cX1_addTetrahedron 86 = .ok (.getfield 12, 3) := by decide +kernel
theorem dX1_addTetrahedron_89 : decode cX1_addTetrahedron 89 = .ok (.getfield 139, 3) := by decide +kernel
theorem dX1_addTetrahedron_92 : decode cX1_addTetrahedron 92 = .ok (.iload_n 2, 1) := by decide +kernel
theorem dX1_addTetrahedron_93 : decode cX1_addTetrahedron 93 = .ok (.iaload, 1) := by decide +kernel
theorem dX1_addTetrahedron_94 : decode cX1_addTetrahedron 94 = .ok (.i2l, 1) := by decide +kernel
theorem dX1_addTetrahedron_95 : decode cX1_addTetrahedron 95 = .ok (.aload_n 0, 1) := by decide +kernel
theorem dX1_addTetrahedron_96 : decode cX1_addTetrahedron 96 = .ok (.getfield 12, 3) := by decide +kernel
theorem dX1_addTetrahedron_99 : decode cX1_addTetrahedron 99 = .ok (.getfield 145, 3) := by decide +kernel
theorem dX1_addTetrahedron_102 : decode cX1_addTetrahedron 102 = .ok (.iload_n 3, 1) := by decide +kernel
theorem dX1_addTetrahedron_103 : decode cX1_addTetrahedron 103 = .ok (.iaload, 1) := by decide +kernel
theorem dX1_addTetrahedron_104 : decode cX1_addTetrahedron 104 = .ok (.i2l, 1) := by decide +kernel
theorem dX1_addTetrahedron_105 : decode cX1_addTetrahedron 105 = .ok (.lmul, 1) := by decide +kernel
theorem dX1_addTetrahedron_106 : decode cX1_addTetrahedron 106 = .ok (.lsub, 1) := by decide +kernel
theorem dX1_addTetrahedron_107 : decode cX1_addTetrahedron 107 = .ok (.lmul, 1) := by decide +kernel
theorem dX1_addTetrahedron_108 : decode cX1_addTetrahedron 108 = .ok (.ladd, 1) := by decide +kernel
theorem dX1_addTetrahedron_109 : decode cX1_addTetrahedron 109 = .ok (.aload_n 0, 1) := by decide +kernel
theorem dX1_addTetrahedron_110 : decode cX1_addTetrahedron 110 = .ok (.getfield 12, 3) := by decide +kernel
theorem dX1_addTetrahedron_113 : decode cX1_addTetrahedron 113 = .ok (.getfield 145, 3) := by decide +kernel
theorem dX1_addTetrahedron_116 : decode cX1_addTetrahedron 116 = .ok (.iload_n 1, 1) := by decide +kernel
theorem dX1_addTetrahedron_117 : decode cX1_addTetrahedron 117 = .ok (.iaload, 1) := by decide +kernel
theorem dX1_addTetrahedron_118 : decode cX1_addTetrahedron 118 = .ok (.i2l, 1) := by decide +kernel
theorem dX1_addTetrahedron_119 : decode cX1_addTetrahedron 119 = .ok (.aload_n 0, 1) := by decide +kernel
theorem dX1_addTetrahedron_120 : decode cX1_addTetrahedron 120 = .ok (.getfield 12, 3) := by decide +kernel
theorem dX1_addTetrahedron_123 : decode cX1_addTetrahedron 123 = .ok (.getfield 139, 3) := by decide +kernel
theorem dX1_addTetrahedron_126 : decode cX1_addTetrahedron 126 = .ok (.iload_n 2, 1) := by decide +kernel
theorem dX1_addTetrahedron_127 : decode cX1_addTetrahedron 127 = .ok (.iaload, 1) := by decide +kernel
theorem dX1_addTetrahedron_128 : decode cX1_addTetrahedron 128 = .ok (.i2l, 1) := by decide +kernel
theorem dX1_addTetrahedron_129 : decode cX1_addTetrahedron 129 = .ok (.aload_n 0, 1) := by decide +kernel
theorem dX1_addTetrahedron_130 : decode cX1_addTetrahedron 130 = .ok (.getfield 12, 3) := by decide +kernel
theorem dX1_addTetrahedron_133 : decode cX1_addTetrahedron 133 = .ok (.getfield 142, 3) := by decide +kernel
theorem dX1_addTetrahedron_136 : decode cX1_addTetrahedron 136 = .ok (.iload_n 3, 1) := by decide +kernel
theorem dX1_addTetrahedron_137 : decode cX1_addTetrahedron 137 = .ok (.iaload, 1) := by decide +kernel
theorem dX1_addTetrahedron_138 : decode cX1_addTetrahedron 138 = .ok (.i2l, 1) := by decide +kernel
theorem dX1_addTetrahedron_139 : decode cX1_addTetrahedron 139 = .ok (.lmul, 1) := by decide +kernel
theorem dX1_addTetrahedron_140 : decode cX1_addTetrahedron 140 = .ok (.aload_n 0, 1) := by decide +kernel
theorem dX1_addTetrahedron_141 : decode cX1_addTetrahedron 141 = .ok (.getfield 12, 3) := by decide +kernel
theorem dX1_addTetrahedron_144 : decode cX1_addTetrahedron 144 = .ok (.getfield 142, 3) := by decide +kernel
theorem dX1_addTetrahedron_147 : decode cX1_addTetrahedron 147 = .ok (.iload_n 2, 1) := by decide +kernel
theorem dX1_addTetrahedron_148 : decode cX1_addTetrahedron 148 = .ok (.iaload, 1) := by decide +kernel
theorem dX1_addTetrahedron_149 : decode cX1_addTetrahedron 149 = .ok (.i2l, 1) := by decide +kernel
theorem dX1_addTetrahedron_150 : decode cX1_addTetrahedron 150 = .ok (.aload_n 0, 1) := by decide +kernel
theorem dX1_addTetrahedron_151 : decode cX1_addTetrahedron 151 = .ok (.getfield 12, 3) := by decide +kernel
theorem dX1_addTetrahedron_154 : decode cX1_addTetrahedron 154 = .ok (.getfield 139, 3) := by decide +kernel
theorem dX1_addTetrahedron_157 : decode cX1_addTetrahedron 157 = .ok (.iload_n 3, 1) := by decide +kernel
theorem dX1_addTetrahedron_158 : decode cX1_addTetrahedron 158 = .ok (.iaload, 1) := by decide +kernel
theorem dX1_addTetrahedron_159 : decode cX1_addTetrahedron 159 = .ok (.i2l, 1) := by decide +kernel
theorem dX1_addTetrahedron_160 : decode cX1_addTetrahedron 160 = .ok (.lmul, 1) := by decide +kernel
theorem dX1_addTetrahedron_161 : decode cX1_addTetrahedron 161 = .ok (.lsub, 1) := by decide +kernel
theorem dX1_addTetrahedron_162 : decode cX1_addTetrahedron 162 = .ok (.lmul, 1) := by decide +kernel
theorem dX1_addTetrahedron_163 : decode cX1_addTetrahedron 163 = .ok (.ladd, 1) := by decide +kernel
theorem dX1_addTetrahedron_164 : decode cX1_addTetrahedron 164 = .ok (.lstore 4, 2) := by decide +kernel
theorem dX1_addTetrahedron_166 : decode cX1_addTetrahedron 166 = .ok (.aload_n 0, 1) := by decide +kernel
theorem dX1_addTetrahedron_167 : decode cX1_addTetrahedron 167 = .ok (.dup, 1) := by decide +kernel
theorem dX1_addTetrahedron_168 : decode cX1_addTetrahedron 168 = .ok (.getfield 129, 3) := by decide +kernel
theorem dX1_addTetrahedron_171 : decode cX1_addTetrahedron 171 = .ok (.lload 4, 2) := by decide +kernel
theorem dX1_addTetrahedron_173 : decode cX1_addTetrahedron 173 = .ok (.ladd, 1) := by decide +kernel
theorem dX1_addTetrahedron_174 : decode cX1_addTetrahedron 174 = .ok (.putfield 129, 3) := by decide +kernel
theorem dX1_addTetrahedron_177 : decode cX1_addTetrahedron 177 = .ok (.aload_n 0, 1) := by decide +kernel
theorem dX1_addTetrahedron_178 : decode cX1_addTetrahedron 178 = .ok (.getfield 39, 3) := by decide +kernel
theorem dX1_addTetrahedron_181 : decode cX1_addTetrahedron 181 = .ok (.iconst 0, 1) := by decide +kernel
theorem dX1_addTetrahedron_182 : decode cX1_addTetrahedron 182 = .ok (.dup2, 1) := by decide +kernel
theorem dX1_addTetrahedron_183 : decode cX1_addTetrahedron 183 = .ok (.laload, 1) := by decide +kernel
theorem dX1_addTetrahedron_184 : decode cX1_addTetrahedron 184 = .ok (.lload 4, 2) := by decide +kernel
theorem dX1_addTetrahedron_186 : decode cX1_addTetrahedron 186 = .ok (.aload_n 0, 1) := by decide +kernel
theorem dX1_addTetrahedron_187 : decode cX1_addTetrahedron 187 = .ok (.getfield 12, 3) := by decide +kernel
theorem dX1_addTetrahedron_190 : decode cX1_addTetrahedron 190 = .ok (.getfield 139, 3) := by decide +kernel
theorem dX1_addTetrahedron_193 : decode cX1_addTetrahedron 193 = .ok (.iload_n 1, 1) := by decide +kernel
theorem dX1_addTetrahedron_194 : decode cX1_addTetrahedron 194 = .ok (.iaload, 1) := by decide +kernel
theorem dX1_addTetrahedron_195 : decode cX1_addTetrahedron 195 = .ok (.aload_n 0, 1) := by decide +kernel
theorem dX1_addTetrahedron_196 : decode cX1_addTetrahedron 196 = .ok (.getfield 12, 3) := by decide +kernel
theorem dX1_addTetrahedron_199 : decode cX1_addTetrahedron 199 = .ok (.getfield 139, 3) := by decide +kernel
end
section
theorem dX1_addTetrahedron_202 : decode cX1_addTetrahedron 202 = .ok (.iload_n 2, 1) := by decide +kernel
theorem dX1_addTetrahedron_203 : decode cX1_addTetrahedron 203 = .ok (.iaload, 1) := by decide +kernel
theorem dX1_addTetrahedron_204 : decode cX1_addTetrahedron 204 = .ok (.iadd, 1) := by decide +kernel
theorem dX1_addTetrahedron_205 : decode cX1_addTetrahedron 205 = .ok (.aload_n 0, 1) := by decide +kernel
theorem dX1_addTetrahedron_206 : decode cX1_addTetrahedron 206 = .ok (.getfield 12, 3) := by decide +kernel
theorem dX1_addTetrahedron_209 : decode cX1_addTetrahedron 209 = .ok (.getfield 139, 3) := by decide +kernel
theorem dX1_addTetrahedron_212 : decode cX1_addTetrahedron 212 = .ok (.iload_n 3, 1) := by decide +kernel
theorem dX1_addTetrahedron_213 : decode cX1_addTetrahedron 213 = .ok (.iaload, 1) := by decide +kernel
theorem dX1_addTetrahedron_214 : decode cX1_addTetrahedron 214 = .ok (.iadd, 1) := by decide +kernel
theorem dX1_addTetrahedron_215 : decode cX1_addTetrahedron 215 = .ok (.i2l, 1) := by decide +kernel
theorem dX1_addTetrahedron_216 : decode cX1_addTetrahedron 216 = .ok (.lmul, 1) := by decide +kernel
theorem dX1_addTetrahedron_217 : decode cX1_addTetrahedron 217 = .ok (.ladd, 1) := by decide +kernel
theorem dX1_addTetrahedron_218 : decode cX1_addTetrahedron 218 = .ok (.lastore, 1) := by decide +kernel
theorem dX1_addTetrahedron_219 : decode cX1_addTetrahedron 219 = .ok (.aload_n 0, 1) := by decide +kernel
theorem dX1_addTetrahedron_220 : decode cX1_addTetrahedron 220 = .ok (.getfield 39, 3) := by decide +kernel
theorem dX1_addTetrahedron_223 : decode cX1_addTetrahedron 223 = .ok (.iconst 1, 1) := by decide +kernel
theorem dX1_addTetrahedron_224 : decode cX1_addTetrahedron 224 = .ok (.dup2, 1) := by decide +kernel
theorem dX1_addTetrahedron_225 : decode cX1_addTetrahedron 225 = .ok (.laload, 1) := by decide +kernel
theorem dX1_addTetrahedron_226 : decode cX1_addTetrahedron 226 = .ok (.lload 4, 2) := by decide +kernel
theorem dX1_addTetrahedron_228 : decode cX1_addTetrahedron 228 = .ok (.aload_n 0, 1) := by decide +kernel
theorem dX1_addTetrahedron_229 : decode cX1_addTetrahedron 229 = .ok (.getfield 12, 3) := by decide +kernel
theorem dX1_addTetrahedron_232 : decode cX1_addTetrahedron 232 = .ok (.getfield 142, 3) := by decide +kernel
theorem dX1_addTetrahedron_235 : decode cX1_addTetrahedron 235 = .ok (.iload_n 1, 1) := by decide +kernel
theorem dX1_addTetrahedron_236 : decode cX1_addTetrahedron 236 = .ok (.iaload, 1) := by decide +kernel
theorem dX1_addTetrahedron_237 : decode cX1_addTetrahedron 237 = .ok (.aload_n 0, 1) := by decide +kernel
theorem dX1_addTetrahedron_238 : decode cX1_addTetrahedron 238 = .ok (.getfield 12, 3) := by decide +kernel
theorem dX1_addTetrahedron_241 : decode cX1_addTetrahedron 241 = .ok (.getfield 142, 3) := by decide +kernel
theorem dX1_addTetrahedron_244 : decode cX1_addTetrahedron 244 = .ok (.iload_n 2, 1) := by decide +kernel
theorem dX1_addTetrahedron_245 : decode cX1_addTetrahedron 245 = .ok (.iaload, 1) := by decide +kernel
theorem dX1_addTetrahedron_246 : decode cX1_addTetrahedron 246 = .ok (.iadd, 1) := by decide +kernel
theorem dX1_addTetrahedron_247 : decode cX1_addTetrahedron 247 = .ok (.aload_n 0, 1) := by decide +kernel
theorem dX1_addTetrahedron_248 : decode cX1_addTetrahedron 248 = .ok (.getfield 12, 3) := by decide +kernel
theorem dX1_addTetrahedron_251 : decode cX1_addTetrahedron 251 = .ok (.getfield 142, 3) := by decide +kernel
theorem dX1_addTetrahedron_254 : decode cX1_addTetrahedron 254 = .ok (.iload_n 3, 1) := by decide +kernel
theorem dX1_addTetrahedron_255 : decode cX1_addTetrahedron 255 = .ok (.iaload, 1) := by decide +kernel
theorem dX1_addTetrahedron_256 : decode cX1_addTetrahedron 256 = .ok (.iadd, 1) := by decide +kernel
theorem dX1_addTetrahedron_257 : decode cX1_addTetrahedron 257 = .ok (.i2l, 1) := by decide +kernel
theorem dX1_addTetrahedron_258 : decode cX1_addTetrahedron 258 = .ok (.lmul, 1) := by decide +kernel
theorem dX1_addTetrahedron_259 : decode cX1_addTetrahedron 259 = .ok (.ladd, 1) := by decide +kernel
theorem dX1_addTetrahedron_260 : decode cX1_addTetrahedron 260 = .ok (.lastore, 1) := by decide +kernel
theorem dX1_addTetrahedron_261 : decode cX1_addTetrahedron 261 = .ok (.aload_n 0, 1) := by decide +kernel
theorem dX1_addTetrahedron_262 : decode cX1_addTetrahedron 262 = .ok (.getfield 39, 3) := by decide +kernel
theorem dX1_addTetrahedron_265 : decode cX1_addTetrahedron 265 = .ok (.iconst 2, 1) := by decide +kernel
theorem dX1_addTetrahedron_266 : decode cX1_addTetrahedron 266 = .ok (.dup2, 1) := by decide +kernel
theorem dX1_addTetrahedron_267 : decode cX1_addTetrahedron 267 = .ok (.laload, 1) := by decide +kernel
theorem dX1_addTetrahedron_268 : decode cX1_addTetrahedron 268 = .ok (.lload 4, 2) := by decide +kernel
theorem dX1_addTetrahedron_270 : decode cX1_addTetrahedron 270 = .ok (.aload_n 0, 1) := by decide +kernel
theorem dX1_addTetrahedron_271 : decode cX1_addTetrahedron 271 = .ok (.getfield 12, 3) := by decide +kernel
theorem dX1_addTetrahedron_274 : decode cX1_addTetrahedron 274 = .ok (.getfield 145, 3) := by decide +kernel
theorem dX1_addTetrahedron_277 : decode cX1_addTetrahedron 277 = .ok (.iload_n 1, 1) := by decide +kernel
theorem dX1_addTetrahedron_278 : decode cX1_addTetrahedron 278 = .ok (.iaload, 1) := by decide +kernel
theorem dX1_addTetrahedron_279 : decode cX1_addTetrahedron 279 = .ok (.aload_n 0, 1) := by decide +kernel
theorem dX1_addTetrahedron_280 : decode cX1_addTetrahedron 280 = .ok (.getfield 12, 3) := by decide +kernel
theorem dX1_addTetrahedron_283 : decode cX1_addTetrahedron 283 = .ok (.getfield 145, 3) := by decide +kernel
theorem dX1_addTetrahedron_286 : decode cX1_addTetrahedron 286 = .ok (.iload_n 2, 1) := by decide +kernel
theorem dX1_addTetrahedron_287 : decode cX1_addTetrahedron 287 = .ok (.iaload, 1) := by decide +kernel
theorem dX1_addTetrahedron_288 : decode cX1_addTetrahedron 288 = .ok (.iadd, 1) := by decide +kernel
theorem dX1_addTetrahedron_289 : decode cX1_addTetrahedron 289 = .ok (.aload_n 0, 1) := by decide +kernel
theorem dX1_addTetrahedron_290 : decode cX1_addTetrahedron 290 = .ok (.getfield 12, 3) := by decide +kernel
theorem dX1_addTetrahedron_293 : decode cX1_addTetrahedron 293 = .ok (.getfield 145, 3) := by decide +kernel
theorem dX1_addTetrahedron_296 : decode cX1_addTetrahedron 296 = .ok (.iload_n 3, 1) := by decide +kernel
theorem dX1_addTetrahedron_297 : decode cX1_addTetrahedron 297 = .ok (.iaload, 1) := by decide +kernel
theorem dX1_addTetrahedron_298 : decode cX1_addTetrahedron 298 = .ok (.iadd, 1) := by decide +kernel
theorem dX1_addTetrahedron_299 : decode cX1_addTetrahedron 299 = .ok (.i2l, 1) := by decide +kernel
theorem dX1_addTetrahedron_300 : decode cX1_addTetrahedron 300 = .ok (.lmul, 1) := by decide +kernel
theorem dX1_addTetrahedron_301 : decode cX1_addTetrahedron 301 = .ok (.ladd, 1) := by decide +kernel
theorem dX1_addTetrahedron_302 : decode cX1_addTetrahedron 302 = .ok (.lastore, 1) := by decide +kernel
theorem dX1_addTetrahedron_303 : decode cX1_addTetrahedron 303 = .ok (.return_, 1) := by decide +kernel
set_option maxRecDepth 20000 in
theorem ggX1_furthest_X3_holds : GoodIn wsX1_furthest wsX3_holds := goodIn_r _ [5] (by decide +kernel) (by decide +kernel)
set_option maxRecDepth 20000 in
theorem gX1_furthest_X3_holds_n101 : GoodIn wsX1_furthest (wsX3_holds) := ggX1_furthest_X3_holds
theorem dX1_furthest_0 : decode cX1_furthest 0 = .ok (.iconst (-1), 1) := by decide +kernel
theorem dX1_furthest_1 : decode cX1_furthest 1 = .ok (.istore 7, 2) := by decide +kernel
theorem dX1_furthest_3 : decode cX1_furthest 3 = .ok (.lconst 0, 1) := by decide +kernel
theorem dX1_furthest_4 : decode cX1_furthest 4 = .ok (.lstore 8, 2) := by decide +kernel
theorem dX1_furthest_6 : decode cX1_furthest 6 = .ok (.iconst 0, 1) := by decide +kernel
theorem dX1_furthest_7 : decode cX1_furthest 7 = .ok (.istore 10, 2) := by decide +kernel
theorem dX1_furthest_9 : decode cX1_furthest 9 = .ok (.iload 10, 2) := by decide +kernel
theorem dX1_furthest_11 : decode cX1_furthest 11 = .ok (.aload_n 0, 1) := by decide +kernel
theorem dX1_furthest_12 : decode cX1_furthest 12 = .ok (.getfield 12, 3) := by decide +kernel
theorem dX1_furthest_15 : decode cX1_furthest 15 = .ok (.getfield 43, 3) := by decide +kernel
theorem dX1_furthest_18 : decode cX1_furthest 18 = .ok (.if_icmp .ge 87, 3) := by decide +kernel
theorem dX1_furthest_21 : decode cX1_furthest 21 = .ok (.lload_n 1, 1) := by decide +kernel
theorem dX1_furthest_22 : decode cX1_furthest 22 = .ok (.aload_n 0, 1) := by decide +kernel
theorem dX1_furthest_23 : decode cX1_furthest 23 = .ok (.getfield 12, 3) := by decide +kernel
theorem dX1_furthest_26 : decode cX1_furthest 26 = .ok (.getfield 139, 3) := by decide +kernel
theorem dX1_furthest_29 : decode cX1_furthest 29 = .ok (.iload 10, 2) := by decide +kernel
theorem dX1_furthest_31 : decode cX1_furthest 31 = .ok (.iaload, 1) := by decide +kernel
theorem dX1_furthest_32 : decode cX1_furthest 32 = .ok (.i2l, 1) := by decide +kernel
theorem dX1_furthest_33 : decode cX1_furthest 33 = .ok (.lmul, 1) := by decide +kernel
theorem dX1_furthest_34 : decode cX1_furthest 34 = .ok (.lload_n 3, 1) := by decide +kernel
theorem dX1_furthest_35 : decode cX1_furthest 35 = .ok (.aload_n 0, 1) := by decide +kernel
theorem dX1_furthest_36 : decode cX1_furthest 36 = .ok (.getfield 12, 3) := by decide +kernel
theorem dX1_furthest_39 : decode cX1_furthest 39 = .ok (.getfield 142, 3) := by decide +kernel
theorem dX1_furthest_42 : decode cX1_furthest 42 = .ok (.iload 10, 2) := by decide +kernel
theorem dX1_furthest_44 : decode cX1_furthest 44 = .ok (.iaload, 1) := by decide +kernel
theorem dX1_furthest_45 : decode cX1_furthest 45 = .ok (.i2l, 1) := by decide +kernel
theorem dX1_furthest_46 : decode cX1_furthest 46 = .ok (.lmul, 1) := by decide +kernel
theorem dX1_furthest_47 : decode cX1_furthest 47 = .ok (.ladd, 1) := by decide +kernel
theorem dX1_furthest_48 : decode cX1_furthest 48 = .ok (.lload 5, 2) := by decide +kernel
theorem dX1_furthest_50 : decode cX1_furthest 50 = .ok (.aload_n 0, 1) := by decide +kernel
theorem dX1_furthest_51 : decode cX1_furthest 51 = .ok (.getfield 12, 3) := by decide +kernel
theorem dX1_furthest_54 : decode cX1_furthest 54 = .ok (.getfield 145, 3) := by decide +kernel
theorem dX1_furthest_57 : decode cX1_furthest 57 = .ok (.iload 10, 2) := by decide +kernel
theorem dX1_furthest_59 : decode cX1_furthest 59 = .ok (.iaload, 1) := by decide +kernel
theorem dX1_furthest_60 : decode cX1_furthest 60 = .ok (.i2l, 1) := by decide +kernel
theorem dX1_furthest_61 : decode cX1_furthest 61 = .ok (.lmul, 1) := by decide +kernel
theorem dX1_furthest_62 : decode cX1_furthest 62 = .ok (.ladd, 1) := by decide +kernel
theorem dX1_furthest_63 : decode cX1_furthest 63 = .ok (.lstore 11, 2) := by decide +kernel
theorem dX1_furthest_65 : decode cX1_furthest 65 = .ok (.aload_n 0, 1) := by decide +kernel
theorem dX1_furthest_66 : decode cX1_furthest 66 = .ok (.getfield 68, 3) := by decide +kernel
theorem dX1_furthest_69 : decode cX1_furthest 69 = .ok (.iload 10, 2) := by decide +kernel
theorem dX1_furthest_71 : decode cX1_furthest 71 = .ok (.invokestatic 101, 3) := by decide +kernel
theorem dX1_furthest_74 : decode cX1_furthest 74 = .ok (.ifCond .eq 25, 3) := by decide +kernel
theorem dX1_furthest_77 : decode cX1_furthest 77 = .ok (.iload 7, 2) := by decide +kernel
theorem dX1_furthest_79 : decode cX1_furthest 79 = .ok (.iconst (-1), 1) := by decide +kernel
theorem dX1_furthest_80 : decode cX1_furthest 80 = .ok (.if_icmp .eq 11, 3) := by decide +kernel
theorem dX1_furthest_83 : decode cX1_furthest 83 = .ok (.lload 11, 2) := by decide +kernel
theorem dX1_furthest_85 : decode cX1_furthest 85 = .ok (.lload 8, 2) := by decide +kernel
theorem dX1_furthest_87 : decode cX1_furthest 87 = .ok (.lcmp, 1) := by decide +kernel
theorem dX1_furthest_88 : decode cX1_furthest 88 = .ok (.ifCond .le 11, 3) := by decide +kernel
theorem dX1_furthest_91 : decode cX1_furthest 91 = .ok (.iload 10, 2) := by decide +kernel
theorem dX1_furthest_93 : decode cX1_furthest 93 = .ok (.istore 7, 2) := by decide +kernel
theorem dX1_furthest_95 : decode cX1_furthest 95 = .ok (.lload 11, 2) := by decide +kernel
theorem dX1_furthest_97 : decode cX1_furthest 97 = .ok (.lstore 8, 2) := by decide +kernel
theorem dX1_furthest_99 : decode cX1_furthest 99 = .ok (.iinc 10 1, 3) := by decide +kernel
theorem dX1_furthest_102 : decode cX1_furthest 102 = .ok (.goto (-93), 3) := by decide +kernel
theorem dX1_furthest_105 : decode cX1_furthest 105 = .ok (.iload 7, 2) := by decide +kernel
theorem dX1_furthest_107 : decode cX1_furthest 107 = .ok (.ireturn, 1) := by decide +kernel
set_option maxRecDepth 20000 in
theorem ggX1_walk_X3_holds : GoodIn wsX1_walk wsX3_holds := goodIn_r _ [3] (by decide +kernel) (by decide +kernel)
set_option maxRecDepth 20000 in
theorem gX1_walk_X3_holds_n101 : GoodIn wsX1_walk (wsX3_holds) := ggX1_walk_X3_holds
set_option maxRecDepth 20000 in
theorem ggX1_walk_X1_stepFrom : GoodIn wsX1_walk wsX1_stepFrom := goodIn_r _ [8, 9, 10, 11, 12, 13, 14, 15, 16, 17, 18, 19, 20, 21, 22] (by decide +kernel) (by decide +kernel)
set_option maxRecDepth 20000 in
theorem gX1_walk_X1_stepFrom : GoodIn wsX1_walk (wsV RX1 148 RX1 yX1_stepFrom wsX1_stepFrom) := goodIn_app (goodIn_of _ (by decide +kernel)) ggX1_walk_X1_stepFrom
theorem dX1_walk_0 : decode cX1_walk 0 = .ok (.iconst 1, 1) := by decide +kernel
theorem dX1_walk_1 : decode cX1_walk 1 = .ok (.iload_n 1, 1) := by decide +kernel
theorem dX1_walk_2 : decode cX1_walk 2 = .ok (.ishl, 1) := by decide +kernel
theorem dX1_walk_3 : decode cX1_walk 3 = .ok (.istore_n 3, 1) := by decide +kernel
theorem dX1_walk_4 : decode cX1_walk 4 = .ok (.iconst 0, 1) := by decide +kernel
theorem dX1_walk_5 : decode cX1_walk 5 = .ok (.istore 4, 2) := by decide +kernel
theorem dX1_walk_7 : decode cX1_walk 7 = .ok (.iload 4, 2) := by decide +kernel
theorem dX1_walk_9 : decode cX1_walk 9 = .ok (.bipush 24, 2) := by decide +kernel
theorem dX1_walk_11 : decode cX1_walk 11 = .ok (.if_icmp .ge 26, 3) := by decide +kernel
theorem dX1_walk_14 : decode cX1_walk 14 = .ok (.iload_n 3, 1) := by decide +kernel
theorem dX1_walk_15 : decode cX1_walk 15 = .ok (.iload_n 2, 1) := by decide +kernel
theorem dX1_walk_16 : decode cX1_walk 16 = .ok (.invokestatic 101, 3) := by decide +kernel
theorem dX1_walk_19 : decode cX1_walk 19 = .ok (.ifCond .eq 6, 3) := by decide +kernel
theorem dX1_walk_22 : decode cX1_walk 22 = .ok (.iload 4, 2) := by decide +kernel
theorem dX1_walk_24 : decode cX1_walk 24 = .ok (.ireturn, 1) := by decide +kernel
theorem dX1_walk_25 : decode cX1_walk 25 = .ok (.aload_n 0, 1) := by decide +kernel
theorem dX1_walk_26 : decode cX1_walk 26 = .ok (.iload_n 3, 1) := by decide +kernel
theorem dX1_walk_27 : decode cX1_walk 27 = .ok (.invokevirtual 148, 3) := by decide +kernel
theorem dX1_walk_30 : decode cX1_walk 30 = .ok (.istore_n 3, 1) := by decide +kernel
theorem dX1_walk_31 : decode cX1_walk 31 = .ok (.iinc 4 1, 3) := by decide +kernel
theorem dX1_walk_34 : decode cX1_walk 34 = .ok (.goto (-27), 3) := by decide +kernel
theorem dX1_walk_37 : decode cX1_walk 37 = .ok (.iconst (-1), 1) := by decide +kernel
theorem dX1_walk_38 : decode cX1_walk 38 = .ok (.ireturn, 1) := by decide +kernel
theorem dX1_stepFrom_0 : decode cX1_stepFrom 0 = .ok (.iload_n 1, 1) := by decide +kernel
theorem dX1_stepFrom_1 : decode cX1_stepFrom 1 = .ok (.istore_n 2, 1) := by decide +kernel
theorem dX1_stepFrom_2 : decode cX1_stepFrom 2 = .ok (.iconst 0, 1) := by decide +kernel
theorem dX1_stepFrom_3 : decode cX1_stepFrom 3 = .ok (.istore_n 3, 1) := by decide +kernel
theorem dX1_stepFrom_4 : decode cX1_stepFrom 4 = .ok (.iload_n 3, 1) := by decide +kernel
theorem dX1_stepFrom_5 : decode cX1_stepFrom 5 = .ok (.aload_n 0, 1) := by decide +kernel
theorem dX1_stepFrom_6 : decode cX1_stepFrom 6 = .ok (.getfield 112, 3) := by decide +kernel
theorem dX1_stepFrom_9 : decode cX1_stepFrom 9 = .ok (.if_icmp .ge 40, 3) := by decide +kernel
theorem dX1_stepFrom_12 : decode cX1_stepFrom 12 = .ok (.iconst 1, 1) := by decide +kernel
theorem dX1_stepFrom_13 : decode cX1_stepFrom 13 = .ok (.aload_n 0, 1) := by decide +kernel
theorem dX1_stepFrom_14 : decode cX1_stepFrom 14 = .ok (.getfield 33, 3) := by decide +kernel
theorem dX1_stepFrom_17 : decode cX1_stepFrom 17 = .ok (.iload_n 3, 1) := by decide +kernel
theorem dX1_stepFrom_18 : decode cX1_stepFrom 18 = .ok (.iaload, 1) := by decide +kernel
theorem dX1_stepFrom_19 : decode cX1_stepFrom 19 = .ok (.ishl, 1) := by decide +kernel
theorem dX1_stepFrom_20 : decode cX1_stepFrom 20 = .ok (.iconst 1, 1) := by decide +kernel
theorem dX1_stepFrom_21 : decode cX1_stepFrom 21 = .ok (.aload_n 0, 1) := by decide +kernel
theorem dX1_stepFrom_22 : decode cX1_stepFrom 22 = .ok (.getfield 36, 3) := by decide +kernel
theorem dX1_stepFrom_25 : decode cX1_stepFrom 25 = .ok (.iload_n 3, 1) := by decide +kernel
theorem dX1_stepFrom_26 : decode cX1_stepFrom 26 = .ok (.iaload, 1) := by decide +kernel
theorem dX1_stepFrom_27 : decode cX1_stepFrom 27 = .ok (.ishl, 1) := by decide +kernel
theorem dX1_stepFrom_28 : decode cX1_stepFrom 28 = .ok (.ior, 1) := by decide +kernel
theorem dX1_stepFrom_29 : decode cX1_stepFrom 29 = .ok (.istore 4, 2) := by decide +kernel
theorem dX1_stepFrom_31 : decode cX1_stepFrom 31 = .ok (.iload_n 1, 1) := by decide +kernel
theorem dX1_stepFrom_32 : decode cX1_stepFrom 32 = .ok (.iload 4, 2) := by decide +kernel
theorem dX1_stepFrom_34 : decode cX1_stepFrom 34 = .ok (.iand, 1) := by decide +kernel
theorem dX1_stepFrom_35 : decode cX1_stepFrom 35 = .ok (.ifCond .eq 8, 3) := by decide +kernel
theorem dX1_stepFrom_38 : decode cX1_stepFrom 38 = .ok (.iload_n 2, 1) := by decide +kernel
theorem dX1_stepFrom_39 : decode cX1_stepFrom 39 = .ok (.iload 4, 2) := by decide +kernel
theorem dX1_stepFrom_41 : decode cX1_stepFrom 41 = .ok (.ior, 1) := by decide +kernel
theorem dX1_stepFrom_42 : decode cX1_stepFrom 42 = .ok (.istore_n 2, 1) := by decide +kernel
theorem dX1_stepFrom_43 : decode cX1_stepFrom 43 = .ok (.iinc 3 1, 3) := by decide +kernel
theorem dX1_stepFrom_46 : decode cX1_stepFrom 46 = .ok (.goto (-42), 3) := by decide +kernel
theorem dX1_stepFrom_49 : decode cX1_stepFrom 49 = .ok (.iload_n 2, 1) := by decide +kernel
theorem dX1_stepFrom_50 : decode cX1_stepFrom 50 = .ok (.ireturn, 1) := by decide +kernel
set_option maxRecDepth 20000 in
theorem ggX1_locate_X0_heightOf : GoodIn wsX1_locate wsX0_heightOf := goodIn_r _ [6, 7, 8, 9, 10, 22, 23, 24, 25, 26, 27, 28] (by decide +kernel) (by decide +kernel)
set_option maxRecDepth 20000 in
theorem gX1_locate_X0_heightOf_n152 : GoodIn wsX1_locate (wsX0_heightOf) := ggX1_locate_X0_heightOf
theorem dX1_locate_0 : decode cX1_locate 0 = .ok (.iconst 1, 1) := by decide +kernel
theorem dX1_locate_1 : decode cX1_locate 1 = .ok (.istore 4, 2) := by decide +kernel
theorem dX1_locate_3 : decode cX1_locate 3 = .ok (.iconst 0, 1) := by decide +kernel
theorem dX1_locate_4 : decode cX1_locate 4 = .ok (.istore 5, 2) := by decide +kernel
theorem dX1_locate_6 : decode cX1_locate 6 = .ok (.iload 5, 2) := by decide +kernel
theorem dX1_locate_8 : decode cX1_locate 8 = .ok (.aload_n 0, 1) := by decide +kernel
theorem dX1_locate_9 : decode cX1_locate 9 = .ok (.getfield 65, 3) := by decide +kernel
theorem dX1_locate_12 : decode cX1_locate 12 = .ok (.if_icmp .ge 46, 3) := by decide +kernel
theorem dX1_locate_15 : decode cX1_locate 15 = .ok (.aload_n 0, 1) := by decide +kernel
theorem dX1_locate_16 : decode cX1_locate 16 = .ok (.getfield 20, 3) := by decide +kernel
theorem dX1_locate_19 : decode cX1_locate 19 = .ok (.iload 5, 2) := by decide +kernel
theorem dX1_locate_21 : decode cX1_locate 21 = .ok (.aaload, 1) := by decide +kernel
theorem dX1_locate_22 : decode cX1_locate 22 = .ok (.iload_n 1, 1) := by decide +kernel
theorem dX1_locate_23 : decode cX1_locate 23 = .ok (.i2l, 1) := by decide +kernel
theorem dX1_locate_24 : decode cX1_locate 24 = .ok (.iload_n 2, 1) := by decide +kernel
theorem dX1_locate_25 : decode cX1_locate 25 = .ok (.i2l, 1) := by decide +kernel
theorem dX1_locate_26 : decode cX1_locate 26 = .ok (.iload_n 3, 1) := by decide +kernel
theorem dX1_locate_27 : decode cX1_locate 27 = .ok (.i2l, 1) := by decide +kernel
theorem dX1_locate_28 : decode cX1_locate 28 = .ok (.invokevirtual 152, 3) := by decide +kernel
theorem dX1_locate_31 : decode cX1_locate 31 = .ok (.lstore 6, 2) := by decide +kernel
theorem dX1_locate_33 : decode cX1_locate 33 = .ok (.lload 6, 2) := by decide +kernel
theorem dX1_locate_35 : decode cX1_locate 35 = .ok (.lconst 0, 1) := by decide +kernel
theorem dX1_locate_36 : decode cX1_locate 36 = .ok (.lcmp, 1) := by decide +kernel
theorem dX1_locate_37 : decode cX1_locate 37 = .ok (.ifCond .le 5, 3) := by decide +kernel
theorem dX1_locate_40 : decode cX1_locate 40 = .ok (.iconst (-1), 1) := by decide +kernel
theorem dX1_locate_41 : decode cX1_locate 41 = .ok (.ireturn, 1) := by decide +kernel
theorem dX1_locate_42 : decode cX1_locate 42 = .ok (.lload 6, 2) := by decide +kernel
theorem dX1_locate_44 : decode cX1_locate 44 = .ok (.lconst 0, 1) := by decide +kernel
theorem dX1_locate_45 : decode cX1_locate 45 = .ok (.lcmp, 1) := by decide +kernel
theorem dX1_locate_46 : decode cX1_locate 46 = .ok (.ifCond .ne 6, 3) := by decide +kernel
theorem dX1_locate_49 : decode cX1_locate 49 = .ok (.iconst 0, 1) := by decide +kernel
theorem dX1_locate_50 : decode cX1_locate 50 = .ok (.istore 4, 2) := by decide +kernel
theorem dX1_locate_52 : decode cX1_locate 52 = .ok (.iinc 5 1, 3) := by decide +kernel
theorem dX1_locate_55 : decode cX1_locate 55 = .ok (.goto (-49), 3) := by decide +kernel
theorem dX1_locate_58 : decode cX1_locate 58 = .ok (.iload 4, 2) := by decide +kernel
theorem dX1_locate_60 : decode cX1_locate 60 = .ok (.ireturn, 1) := by decide +kernel
theorem dX2_init_0 : decode cX2_init 0 = .ok (.aload_n 0, 1) := by decide +kernel
theorem dX2_init_1 : decode cX2_init 1 = .ok (.invokespecial 3, 3) := by decide +kernel
theorem dX2_init_4 : decode cX2_init 4 = .ok (.aload_n 0, 1) := by decide +kernel
theorem dX2_init_5 : decode cX2_init 5 = .ok (.bipush 24, 2) := by decide +kernel
theorem dX2_init_7 : decode cX2_init 7 = .ok (.newarray .int, 2) := by decide +kernel
theorem dX2_init_9 : decode cX2_init 9 = .ok (.putfield 9, 3) := by decide +kernel
theorem dX2_init_12 : decode cX2_init 12 = .ok (.aload_n 0, 1) := by decide +kernel
theorem dX2_init_13 : decode cX2_init 13 = .ok (.bipush 24, 2) := by decide +kernel
theorem dX2_init_15 : decode cX2_init 15 = .ok (.newarray .int, 2) := by decide +kernel
theorem dX2_init_17 : decode cX2_init 17 = .ok (.putfield 15, 3) := by decide +kernel
theorem dX2_init_20 : decode cX2_init 20 = .ok (.aload_n 0, 1) := by decide +kernel
theorem dX2_init_21 : decode cX2_init 21 = .ok (.bipush 24, 2) := by decide +kernel
theorem dX2_init_23 : decode cX2_init 23 = .ok (.newarray .int, 2) := by decide +kernel
theorem dX2_init_25 : decode cX2_init 25 = .ok (.putfield 18, 3) := by decide +kernel
theorem dX2_init_28 : decode cX2_init 28 = .ok (.aload_n 0, 1) := by decide +kernel
theorem dX2_init_29 : decode cX2_init 29 = .ok (.iconst 0, 1) := by decide +kernel
theorem dX2_init_30 : decode cX2_init 30 = .ok (.putfield 21, 3) := by decide +kernel
theorem dX2_init_33 : decode cX2_init 33 = .ok (.return_, 1) := by decide +kernel
theorem dX2_isTaken_0 : decode cX2_isTaken 0 = .ok (.iconst 0, 1) := by decide +kernel
theorem dX2_isTaken_1 : decode cX2_isTaken 1 = .ok (.istore 4, 2) := by decide +kernel
theorem dX2_isTaken_3 : decode cX2_isTaken 3 = .ok (.iload 4, 2) := by decide +kernel
theorem dX2_isTaken_5 : decode cX2_isTaken 5 = .ok (.aload_n 0, 1) := by decide +kernel
theorem dX2_isTaken_6 : decode cX2_isTaken 6 = .ok (.getfield 21, 3) := by decide +kernel
theorem dX2_isTaken_9 : decode cX2_isTaken 9 = .ok (.if_icmp .ge 44, 3) := by decide +kernel
theorem dX2_isTaken_12 : decode cX2_isTaken 12 = .ok (.aload_n 0, 1) := by decide +kernel
theorem dX2_isTaken_13 : decode cX2_isTaken 13 = .ok (.getfield 9, 3) := by decide +kernel
theorem dX2_isTaken_16 : decode cX2_isTaken 16 = .ok (.iload 4, 2) := by decide +kernel
theorem dX2_isTaken_18 : decode cX2_isTaken 18 = .ok (.iaload, 1) := by decide +kernel
theorem dX2_isTaken_19 : decode cX2_isTaken 19 = .ok (.iload_n 1, 1) := by decide +kernel
theorem dX2_isTaken_20 : decode cX2_isTaken 20 = .ok (.if_icmp .ne 27, 3) := by decide +kernel
theorem dX2_isTaken_23 : decode cX2_isTaken 23 = .ok (.aload_n 0, 1) := by decide +kernel
theorem dX2_isTaken_24 : decode cX2_isTaken 24 = .ok (.getfield 15, 3) := by decide +kernel
theorem dX2_isTaken_27 : decode cX2_isTaken 27 = .ok (.iload 4, 2) := by decide +kernel
theorem dX2_isTaken_29 : decode cX2_isTaken 29 = .ok (.iaload, 1) := by decide +kernel
theorem dX2_isTaken_30 : decode cX2_isTaken 30 = .ok (.iload_n 2, 1) := by decide +kernel
theorem dX2_isTaken_31 : decode cX2_isTaken 31 = .ok (.if_icmp .ne 16, 3) := by decide +kernel
theorem dX2_isTaken_34 : decode cX2_isTaken 34 = .ok (.aload_n 0, 1) := by decide +kernel
theorem dX2_isTaken_35 : decode cX2_isTaken 35 = .ok (.getfield 18, 3) := by decide +kernel
theorem dX2_isTaken_38 : decode cX2_isTaken 38 = .ok (.iload 4, 2) := by decide +kernel
theorem dX2_isTaken_40 : decode cX2_isTaken 40 = .ok (.iaload, 1) := by decide +kernel
theorem dX2_isTaken_41 : decode cX2_isTaken 41 = .ok (.iload_n 3, 1) := by decide +kernel
theorem dX2_isTaken_42 : decode cX2_isTaken 42 = .ok (.if_icmp .ne 5, 3) := by decide +kernel
theorem dX2_isTaken_45 : decode cX2_isTaken 45 = .ok (.iconst 1, 1) := by decide +kernel
theorem dX2_isTaken_46 : decode cX2_isTaken 46 = .ok (.ireturn, 1) := by decide +kernel
theorem dX2_isTaken_47 : decode cX2_isTaken 47 = .ok (.iinc 4 1, 3) := by decide +kernel
theorem dX2_isTaken_50 : decode cX2_isTaken 50 = .ok (.goto (-47), 3) := by decide +kernel
theorem dX2_isTaken_53 : decode cX2_isTaken 53 = .ok (.iconst 0, 1) := by decide +kernel
theorem dX2_isTaken_54 : decode cX2_isTaken 54 = .ok (.ireturn, 1) := by decide +kernel
theorem dX2_append_0 : decode cX2_append 0 = .ok (.aload_n 0, 1) := by decide +kernel
theorem dX2_append_1 : decode cX2_append 1 = .ok (.getfield 21, 3) := by decide +kernel
theorem dX2_append_4 : decode cX2_append 4 = .ok (.bipush 24, 2) := by decide +kernel
theorem dX2_append_6 : decode cX2_append 6 = .ok (.if_icmp .lt 5, 3) := by decide +kernel
theorem dX2_append_9 : decode cX2_append 9 = .ok (.iconst (-1), 1) := by decide +kernel
theorem dX2_append_10 : decode cX2_append 10 = .ok (.ireturn, 1) := by decide +kernel
theorem dX2_append_11 : decode cX2_append 11 = .ok (.aload_n 0, 1) := by decide +kernel
theorem dX2_append_12 : decode cX2_append 12 = .ok (.getfield 9, 3) := by decide +kernel
theorem dX2_append_15 : decode cX2_append 15 = .ok (.aload_n 0, 1) := by decide +kernel
theorem dX2_append_16 : decode cX2_append 16 = .ok (.getfield 21, 3) := by decide +kernel
theorem dX2_append_19 : decode cX2_append 19 = .ok (.iload_n 1, 1) := by decide +kernel
theorem dX2_append_20 : decode cX2_append 20 = .ok (.iastore, 1) := by decide +kernel
theorem dX2_append_21 : decode cX2_append 21 = .ok (.aload_n 0, 1) := by decide +kernel
theorem dX2_append_22 : decode cX2_append 22 = .ok (.getfield 15, 3) := by decide +kernel
theorem dX2_append_25 : decode cX2_append 25 = .ok (.aload_n 0, 1) := by decide +kernel
theorem dX2_append_26 : decode cX2_append 26 = .ok (.getfield 21, 3) := by decide +kernel
theorem dX2_append_29 : decode cX2_append 29 = .ok (.iload_n 2, 1) := by decide +kernel
theorem dX2_append_30 : decode cX2_append 30 = .ok (.iastore, 1) := by decide +kernel
theorem dX2_append_31 : decode cX2_append 31 = .ok (.aload_n 0, 1) := by decide +kernel
theorem dX2_append_32 : decode cX2_append 32 = .ok (.getfield 18, 3) := by decide +kernel
theorem dX2_append_35 : decode cX2_append 35 = .ok (.aload_n 0, 1) := by decide +kernel
theorem dX2_append_36 : decode cX2_append 36 = .ok (.getfield 21, 3) := by decide +kernel
theorem dX2_append_39 : decode cX2_append 39 = .ok (.iload_n 3, 1) := by decide +kernel
theorem dX2_append_40 : decode cX2_append 40 = .ok (.iastore, 1) := by decide +kernel
theorem dX2_append_41 : decode cX2_append 41 = .ok (.aload_n 0, 1) := by decide +kernel
theorem dX2_append_42 : decode cX2_append 42 = .ok (.dup, 1) := by decide +kernel
theorem dX2_append_43 : decode cX2_append 43 = .ok (.getfield 21, 3) := by decide +kernel
theorem dX2_append_46 : decode cX2_append 46 = .ok (.iconst 1, 1) := by decide +kernel
theorem dX2_append_47 : decode cX2_append 47 = .ok (.iadd, 1) := by decide +kernel
theorem dX2_append_48 : decode cX2_append 48 = .ok (.putfield 21, 3) := by decide +kernel
theorem dX2_append_51 : decode cX2_append 51 = .ok (.aload_n 0, 1) := by decide +kernel
theorem dX2_append_52 : decode cX2_append 52 = .ok (.getfield 21, 3) := by decide +kernel
theorem dX2_append_55 : decode cX2_append 55 = .ok (.iconst 1, 1) := by decide +kernel
theorem dX2_append_56 : decode cX2_append 56 = .ok (.isub, 1) := by decide +kernel
theorem dX2_append_57 : decode cX2_append 57 = .ok (.ireturn, 1) := by decide +kernel
theorem dX2_remove_0 : decode cX2_remove 0 = .ok (.iload_n 1, 1) := by decide +kernel
theorem dX2_remove_1 : decode cX2_remove 1 = .ok (.ifCond .lt 11, 3) := by decide +kernel
theorem dX2_remove_4 : decode cX2_remove 4 = .ok (.iload_n 1, 1) := by decide +kernel
theorem dX2_remove_5 : decode cX2_remove 5 = .ok (.aload_n 0, 1) := by decide +kernel
theorem dX2_remove_6 : decode cX2_remove 6 = .ok (.getfield 21, 3) := by decide +kernel
theorem dX2_remove_9 : decode cX2_remove 9 = .ok (.if_icmp .lt 4, 3) := by decide +kernel
theorem dX2_remove_12 : decode cX2_remove 12 = .ok (.return_, 1) := by decide +kernel
theorem dX2_remove_13 : decode cX2_remove 13 = .ok (.iload_n 1, 1) := by decide +kernel
theorem dX2_remove_14 : decode cX2_remove 14 = .ok (.istore_n 2, 1) := by decide +kernel
theorem dX2_remove_15 : decode cX2_remove 15 = .ok (.iload_n 2, 1) := by decide +kernel
theorem dX2_remove_16 : decode cX2_remove 16 = .ok (.iconst 1, 1) := by decide +kernel
theorem dX2_remove_17 : decode cX2_remove 17 = .ok (.iadd, 1) := by decide +kernel
theorem dX2_remove_18 : decode cX2_remove 18 = .ok (.aload_n 0, 1) := by decide +kernel
theorem dX2_remove_19 : decode cX2_remove 19 = .ok (.getfield 21, 3) := by decide +kernel
theorem dX2_remove_22 : decode cX2_remove 22 = .ok (.if_icmp .ge 51, 3) := by decide +kernel
theorem dX2_remove_25 : decode cX2_remove 25 = .ok (.aload_n 0, 1) := by decide +kernel
theorem dX2_remove_26 : decode cX2_remove 26 = .ok (.getfield 9, 3) := by decide +kernel
theorem dX2_remove_29 : decode cX2_remove 29 = .ok (.iload_n 2, 1) := by decide +kernel
theorem dX2_remove_30 : decode cX2_remove 30 = .ok (.aload_n 0, 1) := by decide +kernel
theorem dX2_remove_31 : decode cX2_remove 31 = .ok (.getfield 9, 3) := by decide +kernel
theorem dX2_remove_34 : decode cX2_remove 34 = .ok (.iload_n 2, 1) := by decide +kernel
theorem dX2_remove_35 : decode cX2_remove 35 = .ok (.iconst 1, 1) := by decide +kernel
theorem dX2_remove_36 : decode cX2_remove 36 = .ok (.iadd, 1) := by decide +kernel
theorem dX2_remove_37 : decode cX2_remove 37 = .ok (.iaload, 1) := by decide +kernel
theorem dX2_remove_38 : decode cX2_remove 38 = .ok (.iastore, 1) := by decide +kernel
theorem dX2_remove_39 : decode cX2_remove 39 = .ok (.aload_n 0, 1) := by decide +kernel
theorem dX2_remove_40 : decode cX2_remove 40 = .ok (.getfield 15, 3) := by decide +kernel
theorem dX2_remove_43 : decode cX2_remove 43 = .ok (.iload_n 2, 1) := by decide +kernel
theorem dX2_remove_44 : decode cX2_remove 44 = .ok (.aload_n 0, 1) := by decide +kernel
theorem dX2_remove_45 : decode cX2_remove 45 = .ok (.getfield 15, 3) := by decide +kernel
theorem dX2_remove_48 : decode cX2_remove 48 = .ok (.iload_n 2, 1) := by decide +kernel
theorem dX2_remove_49 : decode cX2_remove 49 = .ok (.iconst 1, 1) := by decide +kernel
theorem dX2_remove_50 : decode cX2_remove 50 = .ok (.iadd, 1) := by decide +kernel
theorem dX2_remove_51 : decode cX2_remove 51 = .ok (.iaload, 1) := by decide +kernel
theorem dX2_remove_52 : decode cX2_remove 52 = .ok (.iastore, 1) := by decide +kernel
theorem dX2_remove_53 : decode cX2_remove 53 = .ok (.aload_n 0, 1) := by decide +kernel
theorem dX2_remove_54 : decode cX2_remove 54 = .ok (.getfield 18, 3) := by decide +kernel
theorem dX2_remove_57 : decode cX2_remove 57 = .ok (.iload_n 2, 1) := by decide +kernel
theorem dX2_remove_58 : decode cX2_remove 58 = .ok (.aload_n 0, 1) := by decide +kernel
theorem dX2_remove_59 : decode cX2_remove 59 = .ok (.getfield 18, 3) := by decide +kernel
theorem dX2_remove_62 : decode cX2_remove 62 = .ok (.iload_n 2, 1) := by decide +kernel
theorem dX2_remove_63 : decode cX2_remove 63 = .ok (.iconst 1, 1) := by decide +kernel
theorem dX2_remove_64 : decode cX2_remove 64 = .ok (.iadd, 1) := by decide +kernel
theorem dX2_remove_65 : decode cX2_remove 65 = .ok (.iaload, 1) := by decide +kernel
theorem dX2_remove_66 : decode cX2_remove 66 = .ok (.iastore, 1) := by decide +kernel
theorem dX2_remove_67 : decode cX2_remove 67 = .ok (.iinc 2 1, 3) := by decide +kernel
theorem dX2_remove_70 : decode cX2_remove 70 = .ok (.goto (-55), 3) := by decide +kernel
theorem dX2_remove_73 : decode cX2_remove 73 = .ok (.aload_n 0, 1) := by decide +kernel
theorem dX2_remove_74 : decode cX2_remove 74 = .ok (.dup, 1) := by decide +kernel
theorem dX2_remove_75 : decode cX2_remove 75 = .ok (.getfield 21, 3) := by decide +kernel
theorem dX2_remove_78 : decode cX2_remove 78 = .ok (.iconst 1, 1) := by decide +kernel
theorem dX2_remove_79 : decode cX2_remove 79 = .ok (.isub, 1) := by decide +kernel
theorem dX2_remove_80 : decode cX2_remove 80 = .ok (.putfield 21, 3) := by decide +kernel
theorem dX2_remove_83 : decode cX2_remove 83 = .ok (.return_, 1) := by decide +kernel
theorem dX2_coordinate_0 : decode cX2_coordinate 0 = .ok (.iload_n 2, 1) := by decide +kernel
theorem dX2_coordinate_1 : decode cX2_coordinate 1 = .ok (.ifCond .ne 10, 3) := by decide +kernel
theorem dX2_coordinate_4 : decode cX2_coordinate 4 = .ok (.aload_n 0, 1) := by decide +kernel
theorem dX2_coordinate_5 : decode cX2_coordinate 5 = .ok (.getfield 9, 3) := by decide +kernel
theorem dX2_coordinate_8 : decode cX2_coordinate 8 = .ok (.iload_n 1, 1) := by decide +kernel
theorem dX2_coordinate_9 : decode cX2_coordinate 9 = .ok (.iaload, 1) := by decide +kernel
theorem dX2_coordinate_10 : decode cX2_coordinate 10 = .ok (.ireturn, 1) := by decide +kernel
theorem dX2_coordinate_11 : decode cX2_coordinate 11 = .ok (.iload_n 2, 1) := by decide +kernel
theorem dX2_coordinate_12 : decode cX2_coordinate 12 = .ok (.iconst 1, 1) := by decide +kernel
theorem dX2_coordinate_13 : decode cX2_coordinate 13 = .ok (.if_icmp .ne 12, 3) := by decide +kernel
theorem dX2_coordinate_16 : decode cX2_coordinate 16 = .ok (.aload_n 0, 1) := by decide +kernel
theorem dX2_coordinate_17 : decode cX2_coordinate 17 = .ok (.getfield 15, 3) := by decide +kernel
theorem dX2_coordinate_20 : decode cX2_coordinate 20 = .ok (.iload_n 1, 1) := by decide +kernel
theorem dX2_coordinate_21 : decode cX2_coordinate 21 = .ok (.iaload, 1) := by decide +kernel
theorem dX2_coordinate_22 : decode cX2_coordinate 22 = .ok (.goto 9, 3) := by decide +kernel
theorem dX2_coordinate_25 : decode cX2_coordinate 25 = .ok (.aload_n 0, 1) := by decide +kernel
theorem dX2_coordinate_26 : decode cX2_coordinate 26 = .ok (.getfield 18, 3) := by decide +kernel
theorem dX2_coordinate_29 : decode cX2_coordinate 29 = .ok (.iload_n 1, 1) := by decide +kernel
theorem dX2_coordinate_30 : decode cX2_coordinate 30 = .ok (.iaload, 1) := by decide +kernel
theorem dX2_coordinate_31 : decode cX2_coordinate 31 = .ok (.ireturn, 1) := by decide +kernel
theorem dX2_copyFrom_0 : decode cX2_copyFrom 0 = .ok (.iconst 0, 1) := by decide +kernel
theorem dX2_copyFrom_1 : decode cX2_copyFrom 1 = .ok (.istore_n 2, 1) := by decide +kernel
theorem dX2_copyFrom_2 : decode cX2_copyFrom 2 = .ok (.iload_n 2, 1) := by decide +kernel
theorem dX2_copyFrom_3 : decode cX2_copyFrom 3 = .ok (.aload_n 1, 1) := by decide +kernel
theorem dX2_copyFrom_4 : decode cX2_copyFrom 4 = .ok (.getfield 21, 3) := by decide +kernel
theorem dX2_copyFrom_7 : decode cX2_copyFrom 7 = .ok (.if_icmp .ge 45, 3) := by decide +kernel
theorem dX2_copyFrom_10 : decode cX2_copyFrom 10 = .ok (.aload_n 0, 1) := by decide +kernel
theorem dX2_copyFrom_11 : decode cX2_copyFrom 11 = .ok (.getfield 9, 3) := by decide +kernel
theorem dX2_copyFrom_14 : decode cX2_copyFrom 14 = .ok (.iload_n 2, 1) := by decide +kernel
theorem dX2_copyFrom_15 : decode cX2_copyFrom 15 = .ok (.aload_n 1, 1) := by decide +kernel
theorem dX2_copyFrom_16 : decode cX2_copyFrom 16 = .ok (.getfield 9, 3) := by decide +kernel
theorem dX2_copyFrom_19 : decode cX2_copyFrom 19 = .ok (.iload_n 2, 1) := by decide +kernel
theorem dX2_copyFrom_20 : decode cX2_copyFrom 20 = .ok (.iaload, 1) := by decide +kernel
theorem dX2_copyFrom_21 : decode cX2_copyFrom 21 = .ok (.iastore, 1) := by decide +kernel
theorem dX2_copyFrom_22 : decode cX2_copyFrom 22 = .ok (.aload_n 0, 1) := by decide +kernel
theorem dX2_copyFrom_23 : decode cX2_copyFrom 23 = .ok (.getfield 15, 3) := by decide +kernel
theorem dX2_copyFrom_26 : decode cX2_copyFrom 26 = .ok (.iload_n 2, 1) := by decide +kernel
theorem dX2_copyFrom_27 : decode cX2_copyFrom 27 = .ok (.aload_n 1, 1) := by decide +kernel
theorem dX2_copyFrom_28 : decode cX2_copyFrom 28 = .ok (.getfield 15, 3) := by decide +kernel
theorem dX2_copyFrom_31 : decode cX2_copyFrom 31 = .ok (.iload_n 2, 1) := by decide +kernel
theorem dX2_copyFrom_32 : decode cX2_copyFrom 32 = .ok (.iaload, 1) := by decide +kernel
theorem dX2_copyFrom_33 : decode cX2_copyFrom 33 = .ok (.iastore, 1) := by decide +kernel
theorem dX2_copyFrom_34 : decode cX2_copyFrom 34 = .ok (.aload_n 0, 1) := by decide +kernel
theorem dX2_copyFrom_35 : decode cX2_copyFrom 35 = .ok (.getfield 18, 3) := by decide +kernel
theorem dX2_copyFrom_38 : decode cX2_copyFrom 38 = .ok (.iload_n 2, 1) := by decide +kernel
theorem dX2_copyFrom_39 : decode cX2_copyFrom 39 = .ok (.aload_n 1, 1) := by decide +kernel
theorem dX2_copyFrom_40 : decode cX2_copyFrom 40 = .ok (.getfield 18, 3) := by decide +kernel
theorem dX2_copyFrom_43 : decode cX2_copyFrom 43 = .ok (.iload_n 2, 1) := by decide +kernel
theorem dX2_copyFrom_44 : decode cX2_copyFrom 44 = .ok (.iaload, 1) := by decide +kernel
theorem dX2_copyFrom_45 : decode cX2_copyFrom 45 = .ok (.iastore, 1) := by decide +kernel
theorem dX2_copyFrom_46 : decode cX2_copyFrom 46 = .ok (.iinc 2 1, 3) := by decide +kernel
theorem dX2_copyFrom_49 : decode cX2_copyFrom 49 = .ok (.goto (-47), 3) := by decide +kernel
theorem dX2_copyFrom_52 : decode cX2_copyFrom 52 = .ok (.aload_n 0, 1) := by decide +kernel
theorem dX2_copyFrom_53 : decode cX2_copyFrom 53 = .ok (.aload_n 1, 1) := by decide +kernel
theorem dX2_copyFrom_54 : decode cX2_copyFrom 54 = .ok (.getfield 21, 3) := by decide +kernel
theorem dX2_copyFrom_57 : decode cX2_copyFrom 57 = .ok (.putfield 21, 3) := by decide +kernel
theorem dX2_copyFrom_60 : decode cX2_copyFrom 60 = .ok (.return_, 1) := by decide +kernel
set_option maxRecDepth 20000 in
theorem ggX3_init_X2_init : GoodIn wsX3_init wsX2_init := goodIn_r _ [14, 15, 2, 3, 16, 17, 18, 19, 20, 40, 41, 42, 43] (by decide +kernel) (by decide +kernel)
set_option maxRecDepth 20000 in
theorem gX3_init_X2_init_n11 : GoodIn wsX3_init (wsX2_init) := ggX3_init_X2_init
set_option maxRecDepth 20000 in
theorem ggX3_init_X1_init : GoodIn wsX3_init wsX1_init := goodIn_r _ [22, 23, 2, 3, 24, 5, 6, 25, 26, 27, 28, 29, 30, 16, 31, 32, 33, 34, 35, 13, 14, 15, 17, 18, 19, 20, 36, 37, 38, 39, 40, 41, 42, 43, 47, 48, 49, 50, 51, 52, 53, 54, 55, 56, 57, 58, 59, 60, 61, 62, 63, 64] (by decide +kernel) (by decide +kernel)
set_option maxRecDepth 20000 in
theorem gX3_init_X1_init_n18 : GoodIn wsX3_init (wsX1_init) := ggX3_init_X1_init
theorem dX3_init_0 : decode cX3_init 0 = .ok (.aload_n 0, 1) := by decide +kernel
theorem dX3_init_1 : decode cX3_init 1 = .ok (.invokespecial 3, 3) := by decide +kernel
theorem dX3_init_4 : decode cX3_init 4 = .ok (.aload_n 0, 1) := by decide +kernel
theorem dX3_init_5 : decode cX3_init 5 = .ok (.new 9, 3) := by decide +kernel
theorem dX3_init_8 : decode cX3_init 8 = .ok (.dup, 1) := by decide +kernel
theorem dX3_init_9 : decode cX3_init 9 = .ok (.invokespecial 11, 3) := by decide +kernel
theorem dX3_init_12 : decode cX3_init 12 = .ok (.putfield 12, 3) := by decide +kernel
theorem dX3_init_15 : decode cX3_init 15 = .ok (.aload_n 0, 1) := by decide +kernel
theorem dX3_init_16 : decode cX3_init 16 = .ok (.new 16, 3) := by decide +kernel
theorem dX3_init_19 : decode cX3_init 19 = .ok (.dup, 1) := by decide +kernel
theorem dX3_init_20 : decode cX3_init 20 = .ok (.invokespecial 18, 3) := by decide +kernel
theorem dX3_init_23 : decode cX3_init 23 = .ok (.putfield 19, 3) := by decide +kernel
theorem dX3_init_26 : decode cX3_init 26 = .ok (.aload_n 0, 1) := by decide +kernel
theorem dX3_init_27 : decode cX3_init 27 = .ok (.iconst 0, 1) := by decide +kernel
theorem dX3_init_28 : decode cX3_init 28 = .ok (.putfield 23, 3) := by decide +kernel
theorem dX3_init_31 : decode cX3_init 31 = .ok (.return_, 1) := by decide +kernel
set_option maxRecDepth 20000 in
theorem ggX3_point_X3_requireReach : GoodIn wsX3_point wsX3_requireReach := goodIn_ca (goodIn_r _ [9, 1, 2, 10, 11, 8, 12] (by decide +kernel) (by decide +kernel)) (goodIn_sub (fun _ h => List.mem_cons_of_mem _ (List.mem_append_left _ (List.mem_append_right _ h))) (by decide +kernel))
set_option maxRecDepth 20000 in
theorem gX3_point_X3_requireReach : GoodIn wsX3_point (va_wsS RX3 27 yX3_requireReach wsX3_requireReach) := goodIn_app (goodIn_of _ (by decide +kernel)) ggX3_point_X3_requireReach
set_option maxRecDepth 20000 in
theorem ggX3_point_X2_isTaken : GoodIn wsX3_point wsX2_isTaken := goodIn_r _ [16, 17, 18, 19, 20, 27, 28, 29, 30] (by decide +kernel) (by decide +kernel)
set_option maxRecDepth 20000 in
theorem gX3_point_X2_isTaken_n31 : GoodIn wsX3_point (wsX2_isTaken) := ggX3_point_X2_isTaken
set_option maxRecDepth 20000 in
theorem ggX3_point_X2_append : GoodIn wsX3_point wsX2_append := goodIn_r _ [23, 17, 18, 19, 20, 27, 28, 29, 30] (by decide +kernel) (by decide +kernel)
set_option maxRecDepth 20000 in
theorem gX3_point_X2_append_n50 : GoodIn wsX3_point (wsX2_append) := ggX3_point_X2_append
theorem dX3_point_0 : decode cX3_point 0 = .ok (.iload_n 1, 1) := by decide +kernel
theorem dX3_point_1 : decode cX3_point 1 = .ok (.iload_n 2, 1) := by decide +kernel
theorem dX3_point_2 : decode cX3_point 2 = .ok (.iload_n 3, 1) := by decide +kernel
theorem dX3_point_3 : decode cX3_point 3 = .ok (.sipush 512, 3) := by decide +kernel
theorem dX3_point_6 : decode cX3_point 6 = .ok (.invokestatic 27, 3) := by decide +kernel
theorem dX3_point_9 : decode cX3_point 9 = .ok (.aload_n 0, 1) := by decide +kernel
theorem dX3_point_10 : decode cX3_point 10 = .ok (.getfield 12, 3) := by decide +kernel
theorem dX3_point_13 : decode cX3_point 13 = .ok (.iload_n 1, 1) := by decide +kernel
theorem dX3_point_14 : decode cX3_point 14 = .ok (.iload_n 2, 1) := by decide +kernel
theorem dX3_point_15 : decode cX3_point 15 = .ok (.iload_n 3, 1) := by decide +kernel
theorem dX3_point_16 : decode cX3_point 16 = .ok (.invokevirtual 31, 3) := by decide +kernel
theorem dX3_point_19 : decode cX3_point 19 = .ok (.ifCond .eq 13, 3) := by decide +kernel
theorem dX3_point_22 : decode cX3_point 22 = .ok (.new 35, 3) := by decide +kernel
theorem dX3_point_25 : decode cX3_point 25 = .ok (.dup, 1) := by decide +kernel
theorem dX3_point_26 : decode cX3_point 26 = .ok (.ldc 37, 2) := by decide +kernel
theorem dX3_point_28 : decode cX3_point 28 = .ok (.invokespecial 39, 3) := by decide +kernel
theorem dX3_point_31 : decode cX3_point 31 = .ok (.athrow, 1) := by decide +kernel
theorem dX3_point_32 : decode cX3_point 32 = .ok (.aload_n 0, 1) := by decide +kernel
theorem dX3_point_33 : decode cX3_point 33 = .ok (.getfield 12, 3) := by decide +kernel
theorem dX3_point_36 : decode cX3_point 36 = .ok (.getfield 42, 3) := by decide +kernel
theorem dX3_point_39 : decode cX3_point 39 = .ok (.bipush 24, 2) := by decide +kernel
theorem dX3_point_41 : decode cX3_point 41 = .ok (.if_icmp .lt 13, 3) := by decide +kernel
theorem dX3_point_44 : decode cX3_point 44 = .ok (.new 45, 3) := by decide +kernel
theorem dX3_point_47 : decode cX3_point 47 = .ok (.dup, 1) := by decide +kernel
theorem dX3_point_48 : decode cX3_point 48 = .ok (.ldc 47, 2) := by decide +kernel
theorem dX3_point_50 : decode cX3_point 50 = .ok (.invokespecial 49, 3) := by decide +kernel
theorem dX3_point_53 : decode cX3_point 53 = .ok (.athrow, 1) := by decide +kernel
theorem dX3_point_54 : decode cX3_point 54 = .ok (.aload_n 0, 1) := by decide +kernel
theorem dX3_point_55 : decode cX3_point 55 = .ok (.getfield 12, 3) := by decide +kernel
theorem dX3_point_58 : decode cX3_point 58 = .ok (.iload_n 1, 1) := by decide +kernel
theorem dX3_point_59 : decode cX3_point 59 = .ok (.iload_n 2, 1) := by decide +kernel
theorem dX3_point_60 : decode cX3_point 60 = .ok (.iload_n 3, 1) := by decide +kernel
theorem dX3_point_61 : decode cX3_point 61 = .ok (.invokevirtual 50, 3) := by decide +kernel
theorem dX3_point_64 : decode cX3_point 64 = .ok (.ireturn, 1) := by decide +kernel
set_option maxRecDepth 20000 in
theorem ggX3_take_X3_requirePlace : GoodIn wsX3_take wsX3_requirePlace := goodIn_ca (goodIn_r _ [5, 6, 7] (by decide +kernel) (by decide +kernel)) (goodIn_sub (fun _ h => List.mem_cons_of_mem _ (List.mem_append_right _ h)) (by decide +kernel))
set_option maxRecDepth 20000 in
theorem gX3_take_X3_requirePlace : GoodIn wsX3_take (va_wsS RX3 54 yX3_requirePlace wsX3_requirePlace) := goodIn_app (goodIn_of _ (by decide +kernel)) ggX3_take_X3_requirePlace
set_option maxRecDepth 20000 in
theorem ggX3_take_X2_remove : GoodIn wsX3_take wsX2_remove := goodIn_r _ [11, 12, 13, 14, 15, 19, 20, 21, 22] (by decide +kernel) (by decide +kernel)
set_option maxRecDepth 20000 in
theorem gX3_take_X2_remove_n58 : GoodIn wsX3_take (wsX2_remove) := ggX3_take_X2_remove
theorem dX3_take_0 : decode cX3_take 0 = .ok (.iload_n 1, 1) := by decide +kernel
theorem dX3_take_1 : decode cX3_take 1 = .ok (.aload_n 0, 1) := by decide +kernel
theorem dX3_take_2 : decode cX3_take 2 = .ok (.getfield 12, 3) := by decide +kernel
theorem dX3_take_5 : decode cX3_take 5 = .ok (.getfield 42, 3) := by decide +kernel
theorem dX3_take_8 : decode cX3_take 8 = .ok (.invokestatic 54, 3) := by decide +kernel
theorem dX3_take_11 : decode cX3_take 11 = .ok (.aload_n 0, 1) := by decide +kernel
theorem dX3_take_12 : decode cX3_take 12 = .ok (.getfield 12, 3) := by decide +kernel
theorem dX3_take_15 : decode cX3_take 15 = .ok (.iload_n 1, 1) := by decide +kernel
theorem dX3_take_16 : decode cX3_take 16 = .ok (.invokevirtual 58, 3) := by decide +kernel
theorem dX3_take_19 : decode cX3_take 19 = .ok (.aload_n 0, 1) := by decide +kernel
theorem dX3_take_20 : decode cX3_take 20 = .ok (.getfield 12, 3) := by decide +kernel
theorem dX3_take_23 : decode cX3_take 23 = .ok (.getfield 42, 3) := by decide +kernel
theorem dX3_take_26 : decode cX3_take 26 = .ok (.ireturn, 1) := by decide +kernel
set_option maxRecDepth 20000 in
theorem ggX3_build_X1_wouldBeFlat : GoodIn wsX3_build wsX1_wouldBeFlat := goodIn_r _ [9, 10, 11, 12, 13, 14, 15, 16, 17, 18, 19, 20, 21, 22, 23, 24, 25, 26, 27, 28, 147, 148, 149, 150, 136, 137, 138, 139, 140, 141, 142, 143, 144, 145, 146, 151, 152, 153, 154, 155, 156, 157] (by decide +kernel) (by decide +kernel)
set_option maxRecDepth 20000 in
theorem gX3_build_X1_wouldBeFlat_n62 : GoodIn wsX3_build (wsX1_wouldBeFlat) := ggX3_build_X1_wouldBeFlat
set_option maxRecDepth 20000 in
theorem ggX3_build_X1_wrap : GoodIn wsX3_build wsX1_wrap := goodIn_r _ [31, 32, 33, 34, 35, 36, 37, 38, 39, 40, 41, 42, 43, 44, 45, 46, 7, 47, 48, 49, 50, 51, 10, 52, 53, 54, 55, 11, 12, 13, 14, 15, 16, 17, 18, 19, 20, 21, 56, 57, 58, 59, 25, 26, 27, 28, 60, 61, 62, 63, 64, 65, 66, 67, 68, 69, 70, 71, 72, 73, 74, 75, 76, 77, 78, 79, 80, 81, 82, 83, 84, 85, 86, 87, 88, 89, 90, 91, 92, 93, 94, 95, 96, 97, 98, 99, 100, 101, 102, 103, 104, 105, 106, 107, 108, 109, 110, 111, 112, 113, 114, 115, 116, 117, 118, 119, 120, 121, 122, 123, 124, 125, 126, 127, 128, 129, 130, 131, 132, 136, 137, 138, 139, 140, 141, 142, 143, 144, 145, 146, 147, 148, 149, 150, 151, 152, 153, 154, 155, 156, 157] (by decide +kernel) (by decide +kernel)
set_option maxRecDepth 20000 in
theorem gX3_build_X1_wrap_n68 : GoodIn wsX3_build (wsX1_wrap) := ggX3_build_X1_wrap
theorem dX3_build_0 : decode cX3_build 0 = .ok (.aload_n 0, 1) := by decide +kernel
theorem dX3_build_1 : decode cX3_build 1 = .ok (.getfield 19, 3) := by decide +kernel
theorem dX3_build_4 : decode cX3_build 4 = .ok (.aload_n 0, 1) := by decide +kernel
theorem dX3_build_5 : decode cX3_build 5 = .ok (.getfield 12, 3) := by decide +kernel
theorem dX3_build_8 : decode cX3_build 8 = .ok (.invokevirtual 62, 3) := by decide +kernel
theorem dX3_build_11 : decode cX3_build 11 = .ok (.ifCond .eq 13, 3) := by decide +kernel
theorem dX3_build_14 : decode cX3_build 14 = .ok (.new 45, 3) := by decide +kernel
theorem dX3_build_17 : decode cX3_build 17 = .ok (.dup, 1) := by decide +kernel
theorem dX3_build_18 : decode cX3_build 18 = .ok (.ldc 66, 2) := by decide +kernel
theorem dX3_build_20 : decode cX3_build 20 = .ok (.invokespecial 49, 3) := by decide +kernel
theorem dX3_build_23 : decode cX3_build 23 = .ok (.athrow, 1) := by decide +kernel
theorem dX3_build_24 : decode cX3_build 24 = .ok (.aload_n 0, 1) := by decide +kernel
theorem dX3_build_25 : decode cX3_build 25 = .ok (.getfield 19, 3) := by decide +kernel
theorem dX3_build_28 : decode cX3_build 28 = .ok (.aload_n 0, 1) := by decide +kernel
theorem dX3_build_29 : decode cX3_build 29 = .ok (.getfield 12, 3) := by decide +kernel
theorem dX3_build_32 : decode cX3_build 32 = .ok (.invokevirtual 68, 3) := by decide +kernel
theorem dX3_build_35 : decode cX3_build 35 = .ok (.aload_n 0, 1) := by decide +kernel
theorem dX3_build_36 : decode cX3_build 36 = .ok (.dup, 1) := by decide +kernel
theorem dX3_build_37 : decode cX3_build 37 = .ok (.getfield 23, 3) := by decide +kernel
theorem dX3_build_40 : decode cX3_build 40 = .ok (.iconst 1, 1) := by decide +kernel
theorem dX3_build_41 : decode cX3_build 41 = .ok (.iadd, 1) := by decide +kernel
theorem dX3_build_42 : decode cX3_build 42 = .ok (.putfield 23, 3) := by decide +kernel
theorem dX3_build_45 : decode cX3_build 45 = .ok (.aload_n 0, 1) := by decide +kernel
theorem dX3_build_46 : decode cX3_build 46 = .ok (.getfield 19, 3) := by decide +kernel
theorem dX3_build_49 : decode cX3_build 49 = .ok (.getfield 72, 3) := by decide +kernel
theorem dX3_build_52 : decode cX3_build 52 = .ok (.ireturn, 1) := by decide +kernel
set_option maxRecDepth 20000 in
theorem ggX3_of_X3_requirePlace : GoodIn wsX3_of wsX3_requirePlace := goodIn_ca (goodIn_r _ [5, 6, 7] (by decide +kernel) (by decide +kernel)) (goodIn_sub (fun _ h => List.mem_cons_of_mem _ (List.mem_append_right _ h)) (by decide +kernel))
set_option maxRecDepth 20000 in
theorem gX3_of_X3_requirePlace : GoodIn wsX3_of (va_wsS RX3 54 yX3_requirePlace wsX3_requirePlace) := goodIn_app (goodIn_of _ (by decide +kernel)) ggX3_of_X3_requirePlace
set_option maxRecDepth 20000 in
theorem ggX3_of_X2_coordinate : GoodIn wsX3_of wsX2_coordinate := goodIn_r _ [11, 12, 13, 14, 18, 19, 20, 21] (by decide +kernel) (by decide +kernel)
set_option maxRecDepth 20000 in
theorem gX3_of_X2_coordinate_n75 : GoodIn wsX3_of (wsX2_coordinate) := ggX3_of_X2_coordinate
theorem dX3_of_0 : decode cX3_of 0 = .ok (.iload_n 1, 1) := by decide +kernel
theorem dX3_of_1 : decode cX3_of 1 = .ok (.aload_n 0, 1) := by decide +kernel
theorem dX3_of_2 : decode cX3_of 2 = .ok (.getfield 12, 3) := by decide +kernel
theorem dX3_of_5 : decode cX3_of 5 = .ok (.getfield 42, 3) := by decide +kernel
theorem dX3_of_8 : decode cX3_of 8 = .ok (.invokestatic 54, 3) := by decide +kernel
theorem dX3_of_11 : decode cX3_of 11 = .ok (.iload_n 2, 1) := by decide +kernel
theorem dX3_of_12 : decode cX3_of 12 = .ok (.iconst 3, 1) := by decide +kernel
theorem dX3_of_13 : decode cX3_of 13 = .ok (.invokestatic 54, 3) := by decide +kernel
theorem dX3_of_16 : decode cX3_of 16 = .ok (.aload_n 0, 1) := by decide +kernel
theorem dX3_of_17 : decode cX3_of 17 = .ok (.getfield 12, 3) := by decide +kernel
theorem dX3_of_20 : decode cX3_of 20 = .ok (.iload_n 1, 1) := by decide +kernel
theorem dX3_of_21 : decode cX3_of 21 = .ok (.iload_n 2, 1) := by decide +kernel
theorem dX3_of_22 : decode cX3_of 22 = .ok (.invokevirtual 75, 3) := by decide +kernel
theorem dX3_of_25 : decode cX3_of 25 = .ok (.ireturn, 1) := by decide +kernel
set_option maxRecDepth 20000 in
theorem ggX3_face_X3_requireHull : GoodIn wsX3_face wsX3_requireHull := goodIn_ca (goodIn_r _ [6, 7, 8, 1, 14, 15, 16, 17, 18, 19, 20, 21, 22, 23, 24, 25, 26, 27] (by decide +kernel) (by decide +kernel)) (goodIn_sub (fun _ h => List.mem_cons_of_mem _ (List.mem_append_left _ (List.mem_append_right _ h))) (by decide +kernel))
set_option maxRecDepth 20000 in
theorem gX3_face_X3_requireHull : GoodIn wsX3_face (wsV RX3 79 RX3 yX3_requireHull wsX3_requireHull) := goodIn_app (goodIn_of _ (by decide +kernel)) ggX3_face_X3_requireHull
set_option maxRecDepth 20000 in
theorem ggX3_face_X3_requirePlace : GoodIn wsX3_face wsX3_requirePlace := goodIn_ca (goodIn_r _ [11, 12, 13] (by decide +kernel) (by decide +kernel)) (goodIn_sub (fun _ h => List.mem_cons_of_mem _ (List.mem_append_right _ h)) (by decide +kernel))
set_option maxRecDepth 20000 in
theorem gX3_face_X3_requirePlace : GoodIn wsX3_face (va_wsS RX3 54 yX3_requirePlace wsX3_requirePlace) := goodIn_app (goodIn_of _ (by decide +kernel)) ggX3_face_X3_requirePlace
theorem dX3_face_0 : decode cX3_face 0 = .ok (.aload_n 0, 1) := by decide +kernel
theorem dX3_face_1 : decode cX3_face 1 = .ok (.invokevirtual 79, 3) := by decide +kernel
theorem dX3_face_4 : decode cX3_face 4 = .ok (.iload_n 1, 1) := by decide +kernel
theorem dX3_face_5 : decode cX3_face 5 = .ok (.aload_n 0, 1) := by decide +kernel
theorem dX3_face_6 : decode cX3_face 6 = .ok (.getfield 19, 3) := by decide +kernel
theorem dX3_face_9 : decode cX3_face 9 = .ok (.getfield 72, 3) := by decide +kernel
theorem dX3_face_12 : decode cX3_face 12 = .ok (.invokestatic 54, 3) := by decide +kernel
theorem dX3_face_15 : decode cX3_face 15 = .ok (.iload_n 2, 1) := by decide +kernel
theorem dX3_face_16 : decode cX3_face 16 = .ok (.iconst 4, 1) := by decide +kernel
theorem dX3_face_17 : decode cX3_face 17 = .ok (.invokestatic 54, 3) := by decide +kernel
theorem dX3_face_20 : decode cX3_face 20 = .ok (.aload_n 0, 1) := by decide +kernel
theorem dX3_face_21 : decode cX3_face 21 = .ok (.getfield 19, 3) := by decide +kernel
theorem dX3_face_24 : decode cX3_face 24 = .ok (.getfield 82, 3) := by decide +kernel
theorem dX3_face_27 : decode cX3_face 27 = .ok (.iload_n 1, 1) := by decide +kernel
theorem dX3_face_28 : decode cX3_face 28 = .ok (.aaload, 1) := by decide +kernel
theorem dX3_face_29 : decode cX3_face 29 = .ok (.astore_n 3, 1) := by decide +kernel
theorem dX3_face_30 : decode cX3_face 30 = .ok (.iload_n 2, 1) := by decide +kernel
theorem dX3_face_31 : decode cX3_face 31 = .ok (.tableswitch 42 0 2 #[25, 30, 36], 25) := by decide +kernel
theorem dX3_face_56 : decode cX3_face 56 = .ok (.aload_n 3, 1) := by decide +kernel
theorem dX3_face_57 : decode cX3_face 57 = .ok (.getfield 86, 3) := by decide +kernel
theorem dX3_face_60 : decode cX3_face 60 = .ok (.ireturn, 1) := by decide +kernel
theorem dX3_face_61 : decode cX3_face 61 = .ok (.aload_n 3, 1) := by decide +kernel
theorem dX3_face_62 : decode cX3_face 62 = .ok (.getfield 89, 3) := by decide +kernel
theorem dX3_face_65 : decode cX3_face 65 = .ok (.l2i, 1) := by decide +kernel
theorem dX3_face_66 : decode cX3_face 66 = .ok (.ireturn, 1) := by decide +kernel
theorem dX3_face_67 : decode cX3_face 67 = .ok (.aload_n 3, 1) := by decide +kernel
theorem dX3_face_68 : decode cX3_face 68 = .ok (.getfield 93, 3) := by decide +kernel
theorem dX3_face_71 : decode cX3_face 71 = .ok (.l2i, 1) := by decide +kernel
theorem dX3_face_72 : decode cX3_face 72 = .ok (.ireturn, 1) := by decide +kernel
theorem dX3_face_73 : decode cX3_face 73 = .ok (.aload_n 3, 1) := by decide +kernel
theorem dX3_face_74 : decode cX3_face 74 = .ok (.getfield 96, 3) := by decide +kernel
theorem dX3_face_77 : decode cX3_face 77 = .ok (.l2i, 1) := by decide +kernel
theorem dX3_face_78 : decode cX3_face 78 = .ok (.ireturn, 1) := by decide +kernel
set_option maxRecDepth 20000 in
theorem ggX3_offset_X3_requireHull : GoodIn wsX3_offset wsX3_requireHull := goodIn_ca (goodIn_r _ [6, 7, 8, 1, 14, 15, 16, 17, 18, 19, 20, 21, 22, 23, 24, 25, 26, 27] (by decide +kernel) (by decide +kernel)) (goodIn_sub (fun _ h => List.mem_cons_of_mem _ (List.mem_append_left _ (List.mem_append_right _ h))) (by decide +kernel))
set_option maxRecDepth 20000 in
theorem gX3_offset_X3_requireHull : GoodIn wsX3_offset (wsV RX3 79 RX3 yX3_requireHull wsX3_requireHull) := goodIn_app (goodIn_of _ (by decide +kernel)) ggX3_offset_X3_requireHull
set_option maxRecDepth 20000 in
theorem ggX3_offset_X3_requirePlace : GoodIn wsX3_offset wsX3_requirePlace := goodIn_ca (goodIn_r _ [11, 12, 13] (by decide +kernel) (by decide +kernel)) (goodIn_sub (fun _ h => List.mem_cons_of_mem _ (List.mem_append_right _ h)) (by decide +kernel))
set_option maxRecDepth 20000 in
theorem gX3_offset_X3_requirePlace : GoodIn wsX3_offset (va_wsS RX3 54 yX3_requirePlace wsX3_requirePlace) := goodIn_app (goodIn_of _ (by decide +kernel)) ggX3_offset_X3_requirePlace
theorem dX3_offset_0 : decode cX3_offset 0 = .ok (.aload_n 0, 1) := by decide +kernel
theorem dX3_offset_1 : decode cX3_offset 1 = .ok (.invokevirtual 79, 3) := by decide +kernel
theorem dX3_offset_4 : decode cX3_offset 4 = .ok (.iload_n 1, 1) := by decide +kernel
theorem dX3_offset_5 : decode cX3_offset 5 = .ok (.aload_n 0, 1) := by decide +kernel
theorem dX3_offset_6 : decode cX3_offset 6 = .ok (.getfield 19, 3) := by decide +kernel
theorem dX3_offset_9 : decode cX3_offset 9 = .ok (.getfield 72, 3) := by decide +kernel
theorem dX3_offset_12 : decode cX3_offset 12 = .ok (.invokestatic 54, 3) := by decide +kernel
theorem dX3_offset_15 : decode cX3_offset 15 = .ok (.aload_n 0, 1) := by decide +kernel
theorem dX3_offset_16 : decode cX3_offset 16 = .ok (.getfield 19, 3) := by decide +kernel
theorem dX3_offset_19 : decode cX3_offset 19 = .ok (.getfield 82, 3) := by decide +kernel
theorem dX3_offset_22 : decode cX3_offset 22 = .ok (.iload_n 1, 1) := by decide +kernel
theorem dX3_offset_23 : decode cX3_offset 23 = .ok (.aaload, 1) := by decide +kernel
theorem dX3_offset_24 : decode cX3_offset 24 = .ok (.getfield 99, 3) := by decide +kernel
theorem dX3_offset_27 : decode cX3_offset 27 = .ok (.lreturn, 1) := by decide +kernel
set_option maxRecDepth 20000 in
theorem ggX3_corner_X3_requireHull : GoodIn wsX3_corner wsX3_requireHull := goodIn_ca (goodIn_r _ [6, 7, 8, 1, 14, 15, 16, 17, 18, 19, 20, 21, 22, 23, 24, 25, 26, 27] (by decide +kernel) (by decide +kernel)) (goodIn_sub (fun _ h => List.mem_cons_of_mem _ (List.mem_append_left _ (List.mem_append_right _ h))) (by decide +kernel))
set_option maxRecDepth 20000 in
theorem gX3_corner_X3_requireHull : GoodIn wsX3_corner (wsV RX3 79 RX3 yX3_requireHull wsX3_requireHull) := goodIn_app (goodIn_of _ (by decide +kernel)) ggX3_corner_X3_requireHull
set_option maxRecDepth 20000 in
theorem ggX3_corner_X3_requirePlace : GoodIn wsX3_corner wsX3_requirePlace := goodIn_ca (goodIn_r _ [11, 12, 13] (by decide +kernel) (by decide +kernel)) (goodIn_sub (fun _ h => List.mem_cons_of_mem _ (List.mem_append_right _ h)) (by decide +kernel))
set_option maxRecDepth 20000 in
theorem gX3_corner_X3_requirePlace : GoodIn wsX3_corner (va_wsS RX3 54 yX3_requirePlace wsX3_requirePlace) := goodIn_app (goodIn_of _ (by decide +kernel)) ggX3_corner_X3_requirePlace
theorem dX3_corner_0 : decode cX3_corner 0 = .ok (.aload_n 0, 1) := by decide +kernel
theorem dX3_corner_1 : decode cX3_corner 1 = .ok (.invokevirtual 79, 3) := by decide +kernel
theorem dX3_corner_4 : decode cX3_corner 4 = .ok (.iload_n 1, 1) := by decide +kernel
theorem dX3_corner_5 : decode cX3_corner 5 = .ok (.aload_n 0, 1) := by decide +kernel
theorem dX3_corner_6 : decode cX3_corner 6 = .ok (.getfield 19, 3) := by decide +kernel
theorem dX3_corner_9 : decode cX3_corner 9 = .ok (.getfield 72, 3) := by decide +kernel
theorem dX3_corner_12 : decode cX3_corner 12 = .ok (.invokestatic 54, 3) := by decide +kernel
theorem dX3_corner_15 : decode cX3_corner 15 = .ok (.iload_n 2, 1) := by decide +kernel
theorem dX3_corner_16 : decode cX3_corner 16 = .ok (.aload_n 0, 1) := by decide +kernel
theorem dX3_corner_17 : decode cX3_corner 17 = .ok (.getfield 19, 3) := by decide +kernel
theorem dX3_corner_20 : decode cX3_corner 20 = .ok (.getfield 82, 3) := by decide +kernel
theorem dX3_corner_23 : decode cX3_corner 23 = .ok (.iload_n 1, 1) := by decide +kernel
theorem dX3_corner_24 : decode cX3_corner 24 = .ok (.aaload, 1) := by decide +kernel
theorem dX3_corner_25 : decode cX3_corner 25 = .ok (.getfield 86, 3) := by decide +kernel
theorem dX3_corner_28 : decode cX3_corner 28 = .ok (.invokestatic 54, 3) := by decide +kernel
theorem dX3_corner_31 : decode cX3_corner 31 = .ok (.aload_n 0, 1) := by decide +kernel
theorem dX3_corner_32 : decode cX3_corner 32 = .ok (.getfield 19, 3) := by decide +kernel
theorem dX3_corner_35 : decode cX3_corner 35 = .ok (.getfield 82, 3) := by decide +kernel
theorem dX3_corner_38 : decode cX3_corner 38 = .ok (.iload_n 1, 1) := by decide +kernel
theorem dX3_corner_39 : decode cX3_corner 39 = .ok (.aaload, 1) := by decide +kernel
theorem dX3_corner_40 : decode cX3_corner 40 = .ok (.getfield 102, 3) := by decide +kernel
theorem dX3_corner_43 : decode cX3_corner 43 = .ok (.iload_n 2, 1) := by decide +kernel
theorem dX3_corner_44 : decode cX3_corner 44 = .ok (.iaload, 1) := by decide +kernel
theorem dX3_corner_45 : decode cX3_corner 45 = .ok (.ireturn, 1) := by decide +kernel
set_option maxRecDepth 20000 in
theorem ggX3_edge_X3_requireHull : GoodIn wsX3_edge wsX3_requireHull := goodIn_ca (goodIn_r _ [6, 7, 8, 1, 17, 18, 19, 20, 21, 22, 23, 24, 25, 26, 27, 28, 29, 30] (by decide +kernel) (by decide +kernel)) (goodIn_sub (fun _ h => List.mem_cons_of_mem _ (List.mem_append_left _ (List.mem_append_right _ h))) (by decide +kernel))
set_option maxRecDepth 20000 in
theorem gX3_edge_X3_requireHull : GoodIn wsX3_edge (wsV RX3 79 RX3 yX3_requireHull wsX3_requireHull) := goodIn_app (goodIn_of _ (by decide +kernel)) ggX3_edge_X3_requireHull
set_option maxRecDepth 20000 in
theorem ggX3_edge_X3_requirePlace : GoodIn wsX3_edge wsX3_requirePlace := goodIn_ca (goodIn_r _ [11, 12, 13] (by decide +kernel) (by decide +kernel)) (goodIn_sub (fun _ h => List.mem_cons_of_mem _ (List.mem_append_right _ h)) (by decide +kernel))
set_option maxRecDepth 20000 in
theorem gX3_edge_X3_requirePlace : GoodIn wsX3_edge (va_wsS RX3 54 yX3_requirePlace wsX3_requirePlace) := goodIn_app (goodIn_of _ (by decide +kernel)) ggX3_edge_X3_requirePlace
set_option maxRecDepth 20000 in
theorem ggX3_edge_X3_way : GoodIn wsX3_edge wsX3_way := goodIn_r _ [16] (by decide +kernel) (by decide +kernel)
set_option maxRecDepth 20000 in
theorem gX3_edge_X3_way : GoodIn wsX3_edge (va_wsS RX3 118 yX3_way wsX3_way) := goodIn_app (goodIn_of _ (by decide +kernel)) ggX3_edge_X3_way
theorem dX3_edge_0 : decode cX3_edge 0 = .ok (.aload_n 0, 1) := by decide +kernel
theorem dX3_edge_1 : decode cX3_edge 1 = .ok (.invokevirtual 79, 3) := by decide +kernel
theorem dX3_edge_4 : decode cX3_edge 4 = .ok (.iload_n 1, 1) := by decide +kernel
theorem dX3_edge_5 : decode cX3_edge 5 = .ok (.aload_n 0, 1) := by decide +kernel
theorem dX3_edge_6 : decode cX3_edge 6 = .ok (.getfield 19, 3) := by decide +kernel
theorem dX3_edge_9 : decode cX3_edge 9 = .ok (.getfield 106, 3) := by decide +kernel
theorem dX3_edge_12 : decode cX3_edge 12 = .ok (.invokestatic 54, 3) := by decide +kernel
theorem dX3_edge_15 : decode cX3_edge 15 = .ok (.iload_n 2, 1) := by decide +kernel
theorem dX3_edge_16 : decode cX3_edge 16 = .ok (.iconst 4, 1) := by decide +kernel
theorem dX3_edge_17 : decode cX3_edge 17 = .ok (.invokestatic 54, 3) := by decide +kernel
theorem dX3_edge_20 : decode cX3_edge 20 = .ok (.aload_n 0, 1) := by decide +kernel
theorem dX3_edge_21 : decode cX3_edge 21 = .ok (.getfield 19, 3) := by decide +kernel
theorem dX3_edge_24 : decode cX3_edge 24 = .ok (.getfield 109, 3) := by decide +kernel
theorem dX3_edge_27 : decode cX3_edge 27 = .ok (.iload_n 1, 1) := by decide +kernel
theorem dX3_edge_28 : decode cX3_edge 28 = .ok (.iaload, 1) := by decide +kernel
theorem dX3_edge_29 : decode cX3_edge 29 = .ok (.istore_n 3, 1) := by decide +kernel
theorem dX3_edge_30 : decode cX3_edge 30 = .ok (.aload_n 0, 1) := by decide +kernel
theorem dX3_edge_31 : decode cX3_edge 31 = .ok (.getfield 19, 3) := by decide +kernel
theorem dX3_edge_34 : decode cX3_edge 34 = .ok (.getfield 112, 3) := by decide +kernel
theorem dX3_edge_37 : decode cX3_edge 37 = .ok (.iload_n 1, 1) := by decide +kernel
theorem dX3_edge_38 : decode cX3_edge 38 = .ok (.iaload, 1) := by decide +kernel
theorem dX3_edge_39 : decode cX3_edge 39 = .ok (.istore 4, 2) := by decide +kernel
theorem dX3_edge_41 : decode cX3_edge 41 = .ok (.iload_n 2, 1) := by decide +kernel
theorem dX3_edge_42 : decode cX3_edge 42 = .ok (.tableswitch 46 0 2 #[26, 28, 31], 26) := by decide +kernel
theorem dX3_edge_68 : decode cX3_edge 68 = .ok (.iload_n 3, 1) := by decide +kernel
theorem dX3_edge_69 : decode cX3_edge 69 = .ok (.ireturn, 1) := by decide +kernel
theorem dX3_edge_70 : decode cX3_edge 70 = .ok (.iload 4, 2) := by decide +kernel
theorem dX3_edge_72 : decode cX3_edge 72 = .ok (.ireturn, 1) := by decide +kernel
theorem dX3_edge_73 : decode cX3_edge 73 = .ok (.aload_n 0, 1) := by decide +kernel
theorem dX3_edge_74 : decode cX3_edge 74 = .ok (.getfield 19, 3) := by decide +kernel
theorem dX3_edge_77 : decode cX3_edge 77 = .ok (.getfield 115, 3) := by decide +kernel
theorem dX3_edge_80 : decode cX3_edge 80 = .ok (.iload_n 3, 1) := by decide +kernel
theorem dX3_edge_81 : decode cX3_edge 81 = .ok (.iload 4, 2) := by decide +kernel
theorem dX3_edge_83 : decode cX3_edge 83 = .ok (.invokestatic 118, 3) := by decide +kernel
theorem dX3_edge_86 : decode cX3_edge 86 = .ok (.iaload, 1) := by decide +kernel
theorem dX3_edge_87 : decode cX3_edge 87 = .ok (.ireturn, 1) := by decide +kernel
theorem dX3_edge_88 : decode cX3_edge 88 = .ok (.aload_n 0, 1) := by decide +kernel
theorem dX3_edge_89 : decode cX3_edge 89 = .ok (.getfield 19, 3) := by decide +kernel
theorem dX3_edge_92 : decode cX3_edge 92 = .ok (.getfield 115, 3) := by decide +kernel
theorem dX3_edge_95 : decode cX3_edge 95 = .ok (.iload 4, 2) := by decide +kernel
theorem dX3_edge_97 : decode cX3_edge 97 = .ok (.iload_n 3, 1) := by decide +kernel
theorem dX3_edge_98 : decode cX3_edge 98 = .ok (.invokestatic 118, 3) := by decide +kernel
theorem dX3_edge_101 : decode cX3_edge 101 = .ok (.iaload, 1) := by decide +kernel
theorem dX3_edge_102 : decode cX3_edge 102 = .ok (.ireturn, 1) := by decide +kernel
set_option maxRecDepth 20000 in
theorem ggX3_support_X3_requireHull : GoodIn wsX3_support wsX3_requireHull := goodIn_ca (goodIn_r _ [7, 8, 9, 2, 26, 27, 28, 29, 30, 31, 32, 33, 34, 35, 36, 37, 38, 39] (by decide +kernel) (by decide +kernel)) (goodIn_sub (fun _ h => List.mem_cons_of_mem _ (List.mem_append_left _ (List.mem_append_right _ h))) (by decide +kernel))
set_option maxRecDepth 20000 in
theorem gX3_support_X3_requireHull : GoodIn wsX3_support (wsV RX3 79 RX3 yX3_requireHull wsX3_requireHull) := goodIn_app (goodIn_of _ (by decide +kernel)) ggX3_support_X3_requireHull
set_option maxRecDepth 20000 in
theorem ggX3_support_X3_requireReach : GoodIn wsX3_support wsX3_requireReach := goodIn_ca (goodIn_r _ [12, 13, 14, 15, 16, 6, 17] (by decide +kernel) (by decide +kernel)) (goodIn_sub (fun _ h => List.mem_cons_of_mem _ (List.mem_append_right _ h)) (by decide +kernel))
set_option maxRecDepth 20000 in
theorem gX3_support_X3_requireReach : GoodIn wsX3_support (va_wsS RX3 27 yX3_requireReach wsX3_requireReach) := goodIn_app (goodIn_of _ (by decide +kernel)) ggX3_support_X3_requireReach
set_option maxRecDepth 20000 in
theorem ggX3_support_X1_furthest : GoodIn wsX3_support wsX1_furthest := goodIn_r _ [21, 22, 23, 24, 6, 25, 29, 30, 31, 32, 33, 34, 35, 36, 37, 38, 39, 40, 41, 42, 43] (by decide +kernel) (by decide +kernel)
set_option maxRecDepth 20000 in
theorem gX3_support_X1_furthest_n122 : GoodIn wsX3_support (wsX1_furthest) := ggX3_support_X1_furthest
theorem dX3_support_0 : decode cX3_support 0 = .ok (.aload_n 0, 1) := by decide +kernel
theorem dX3_support_1 : decode cX3_support 1 = .ok (.invokevirtual 79, 3) := by decide +kernel
theorem dX3_support_4 : decode cX3_support 4 = .ok (.iload_n 1, 1) := by decide +kernel
theorem dX3_support_5 : decode cX3_support 5 = .ok (.iload_n 2, 1) := by decide +kernel
theorem dX3_support_6 : decode cX3_support 6 = .ok (.iload_n 3, 1) := by decide +kernel
theorem dX3_support_7 : decode cX3_support 7 = .ok (.ldc 121, 2) := by decide +kernel
theorem dX3_support_9 : decode cX3_support 9 = .ok (.invokestatic 27, 3) := by decide +kernel
theorem dX3_support_12 : decode cX3_support 12 = .ok (.aload_n 0, 1) := by decide +kernel
theorem dX3_support_13 : decode cX3_support 13 = .ok (.getfield 19, 3) := by decide +kernel
theorem dX3_support_16 : decode cX3_support 16 = .ok (.iload_n 1, 1) := by decide +kernel
theorem dX3_support_17 : decode cX3_support 17 = .ok (.i2l, 1) := by decide +kernel
theorem dX3_support_18 : decode cX3_support 18 = .ok (.iload_n 2, 1) := by decide +kernel
theorem dX3_support_19 : decode cX3_support 19 = .ok (.i2l, 1) := by decide +kernel
theorem dX3_support_20 : decode cX3_support 20 = .ok (.iload_n 3, 1) := by decide +kernel
theorem dX3_support_21 : decode cX3_support 21 = .ok (.i2l, 1) := by decide +kernel
theorem dX3_support_22 : decode cX3_support 22 = .ok (.invokevirtual 122, 3) := by decide +kernel
theorem dX3_support_25 : decode cX3_support 25 = .ok (.ireturn, 1) := by decide +kernel
set_option maxRecDepth 20000 in
theorem ggX3_steps_X3_requireHull : GoodIn wsX3_steps wsX3_requireHull := goodIn_ca (goodIn_r _ [6, 7, 8, 1, 32, 33, 34, 35, 36, 37, 38, 39, 40, 41, 42, 43, 44, 45] (by decide +kernel) (by decide +kernel)) (goodIn_sub (fun _ h => List.mem_cons_of_mem _ (List.mem_append_left _ (List.mem_append_right _ h))) (by decide +kernel))
set_option maxRecDepth 20000 in
theorem gX3_steps_X3_requireHull : GoodIn wsX3_steps (wsV RX3 79 RX3 yX3_requireHull wsX3_requireHull) := goodIn_app (goodIn_of _ (by decide +kernel)) ggX3_steps_X3_requireHull
set_option maxRecDepth 20000 in
theorem ggX3_steps_X3_requireCorner : GoodIn wsX3_steps wsX3_requireCorner := goodIn_ca (goodIn_r _ [12, 13, 14, 1, 15, 16, 5, 17, 18, 19, 20, 32, 33, 34, 35, 36, 37, 38, 39, 40, 41, 42, 43, 44, 45] (by decide +kernel) (by decide +kernel)) (goodIn_sub (fun _ h => List.mem_cons_of_mem _ (List.mem_append_right _ h)) (by decide +kernel))
set_option maxRecDepth 20000 in
theorem gX3_steps_X3_requireCorner : GoodIn wsX3_steps (wsV RX3 126 RX3 yX3_requireCorner wsX3_requireCorner) := goodIn_app (goodIn_of _ (by decide +kernel)) ggX3_steps_X3_requireCorner
set_option maxRecDepth 20000 in
theorem ggX3_steps_X1_walk : GoodIn wsX3_steps wsX1_walk := goodIn_r _ [24, 19, 5, 20, 25, 26, 27, 22, 28, 29, 30, 31, 35, 36, 37, 38, 39, 40, 41, 42, 43, 44, 45] (by decide +kernel) (by decide +kernel)
set_option maxRecDepth 20000 in
theorem gX3_steps_X1_walk_n129 : GoodIn wsX3_steps (wsX1_walk) := ggX3_steps_X1_walk
theorem dX3_steps_0 : decode cX3_steps 0 = .ok (.aload_n 0, 1) := by decide +kernel
theorem dX3_steps_1 : decode cX3_steps 1 = .ok (.invokevirtual 79, 3) := by decide +kernel
theorem dX3_steps_4 : decode cX3_steps 4 = .ok (.aload_n 0, 1) := by decide +kernel
theorem dX3_steps_5 : decode cX3_steps 5 = .ok (.iload_n 1, 1) := by decide +kernel
theorem dX3_steps_6 : decode cX3_steps 6 = .ok (.invokevirtual 126, 3) := by decide +kernel
theorem dX3_steps_9 : decode cX3_steps 9 = .ok (.aload_n 0, 1) := by decide +kernel
theorem dX3_steps_10 : decode cX3_steps 10 = .ok (.iload_n 2, 1) := by decide +kernel
theorem dX3_steps_11 : decode cX3_steps 11 = .ok (.invokevirtual 126, 3) := by decide +kernel
theorem dX3_steps_14 : decode cX3_steps 14 = .ok (.aload_n 0, 1) := by decide +kernel
theorem dX3_steps_15 : decode cX3_steps 15 = .ok (.getfield 19, 3) := by decide +kernel
theorem dX3_steps_18 : decode cX3_steps 18 = .ok (.iload_n 1, 1) := by decide +kernel
theorem dX3_steps_19 : decode cX3_steps 19 = .ok (.iload_n 2, 1) := by decide +kernel
theorem dX3_steps_20 : decode cX3_steps 20 = .ok (.invokevirtual 129, 3) := by decide +kernel
theorem dX3_steps_23 : decode cX3_steps 23 = .ok (.ireturn, 1) := by decide +kernel
set_option maxRecDepth 20000 in
theorem ggX3_side_X3_requireHull : GoodIn wsX3_side wsX3_requireHull := goodIn_ca (goodIn_r _ [7, 8, 9, 2, 32, 33, 34, 35, 36, 37, 38, 39, 40, 41, 42, 43, 44, 45] (by decide +kernel) (by decide +kernel)) (goodIn_sub (fun _ h => List.mem_cons_of_mem _ (List.mem_append_left _ (List.mem_append_right _ h))) (by decide +kernel))
set_option maxRecDepth 20000 in
theorem gX3_side_X3_requireHull : GoodIn wsX3_side (wsV RX3 79 RX3 yX3_requireHull wsX3_requireHull) := goodIn_app (goodIn_of _ (by decide +kernel)) ggX3_side_X3_requireHull
set_option maxRecDepth 20000 in
theorem ggX3_side_X3_requireReach : GoodIn wsX3_side wsX3_requireReach := goodIn_ca (goodIn_r _ [12, 13, 14, 15, 16, 6, 17] (by decide +kernel) (by decide +kernel)) (goodIn_sub (fun _ h => List.mem_cons_of_mem _ (List.mem_append_right _ h)) (by decide +kernel))
set_option maxRecDepth 20000 in
theorem gX3_side_X3_requireReach : GoodIn wsX3_side (va_wsS RX3 27 yX3_requireReach wsX3_requireReach) := goodIn_app (goodIn_of _ (by decide +kernel)) ggX3_side_X3_requireReach
set_option maxRecDepth 20000 in
theorem ggX3_side_X1_locate : GoodIn wsX3_side wsX1_locate := goodIn_r _ [21, 22, 23, 24, 25, 26, 27, 28, 29, 30, 31, 35, 36, 37, 38, 39, 40, 41, 42, 43, 44, 45, 46, 47, 48, 49, 50, 51, 52] (by decide +kernel) (by decide +kernel)
set_option maxRecDepth 20000 in
theorem gX3_side_X1_locate_n132 : GoodIn wsX3_side (wsX1_locate) := ggX3_side_X1_locate
theorem dX3_side_0 : decode cX3_side 0 = .ok (.aload_n 0, 1) := by decide +kernel
theorem dX3_side_1 : decode cX3_side 1 = .ok (.invokevirtual 79, 3) := by decide +kernel
theorem dX3_side_4 : decode cX3_side 4 = .ok (.iload_n 1, 1) := by decide +kernel
theorem dX3_side_5 : decode cX3_side 5 = .ok (.iload_n 2, 1) := by decide +kernel
theorem dX3_side_6 : decode cX3_side 6 = .ok (.iload_n 3, 1) := by decide +kernel
theorem dX3_side_7 : decode cX3_side 7 = .ok (.ldc 121, 2) := by decide +kernel
theorem dX3_side_9 : decode cX3_side 9 = .ok (.invokestatic 27, 3) := by decide +kernel
theorem dX3_side_12 : decode cX3_side 12 = .ok (.aload_n 0, 1) := by decide +kernel
theorem dX3_side_13 : decode cX3_side 13 = .ok (.getfield 19, 3) := by decide +kernel
theorem dX3_side_16 : decode cX3_side 16 = .ok (.iload_n 1, 1) := by decide +kernel
theorem dX3_side_17 : decode cX3_side 17 = .ok (.iload_n 2, 1) := by decide +kernel
theorem dX3_side_18 : decode cX3_side 18 = .ok (.iload_n 3, 1) := by decide +kernel
theorem dX3_side_19 : decode cX3_side 19 = .ok (.invokevirtual 132, 3) := by decide +kernel
theorem dX3_side_22 : decode cX3_side 22 = .ok (.ireturn, 1) := by decide +kernel
set_option maxRecDepth 20000 in
theorem ggX3_volume_X3_requireHull : GoodIn wsX3_volume wsX3_requireHull := goodIn_ca (goodIn_r _ [6, 7, 8, 1, 9, 10, 11, 12, 13, 14, 15, 16, 17, 18, 19, 20, 21, 22] (by decide +kernel) (by decide +kernel)) (goodIn_sub (fun _ h => List.mem_cons_of_mem _ (List.mem_append_right _ h)) (by decide +kernel))
set_option maxRecDepth 20000 in
theorem gX3_volume_X3_requireHull : GoodIn wsX3_volume (wsV RX3 79 RX3 yX3_requireHull wsX3_requireHull) := goodIn_app (goodIn_of _ (by decide +kernel)) ggX3_volume_X3_requireHull
theorem dX3_volume_0 : decode cX3_volume 0 = .ok (.aload_n 0, 1) := by decide +kernel
theorem dX3_volume_1 : decode cX3_volume 1 = .ok (.invokevirtual 79, 3) := by decide +kernel
theorem dX3_volume_4 : decode cX3_volume 4 = .ok (.aload_n 0, 1) := by decide +kernel
theorem dX3_volume_5 : decode cX3_volume 5 = .ok (.getfield 19, 3) := by decide +kernel
theorem dX3_volume_8 : decode cX3_volume 8 = .ok (.getfield 135, 3) := by decide +kernel
theorem dX3_volume_11 : decode cX3_volume 11 = .ok (.lreturn, 1) := by decide +kernel
set_option maxRecDepth 20000 in
theorem ggX3_centre_X3_requireHull : GoodIn wsX3_centre wsX3_requireHull := goodIn_ca (goodIn_r _ [6, 7, 8, 1, 14, 15, 16, 17, 18, 19, 20, 21, 22, 23, 24, 25, 26, 27] (by decide +kernel) (by decide +kernel)) (goodIn_sub (fun _ h => List.mem_cons_of_mem _ (List.mem_append_left _ (List.mem_append_right _ h))) (by decide +kernel))
set_option maxRecDepth 20000 in
theorem gX3_centre_X3_requireHull : GoodIn wsX3_centre (wsV RX3 79 RX3 yX3_requireHull wsX3_requireHull) := goodIn_app (goodIn_of _ (by decide +kernel)) ggX3_centre_X3_requireHull
set_option maxRecDepth 20000 in
theorem ggX3_centre_X3_requirePlace : GoodIn wsX3_centre wsX3_requirePlace := goodIn_ca (goodIn_r _ [11, 12, 13] (by decide +kernel) (by decide +kernel)) (goodIn_sub (fun _ h => List.mem_cons_of_mem _ (List.mem_append_right _ h)) (by decide +kernel))
set_option maxRecDepth 20000 in
theorem gX3_centre_X3_requirePlace : GoodIn wsX3_centre (va_wsS RX3 54 yX3_requirePlace wsX3_requirePlace) := goodIn_app (goodIn_of _ (by decide +kernel)) ggX3_centre_X3_requirePlace
theorem dX3_centre_0 : decode cX3_centre 0 = .ok (.aload_n 0, 1) := by decide +kernel
theorem dX3_centre_1 : decode cX3_centre 1 = .ok (.invokevirtual 79, 3) := by decide +kernel
theorem dX3_centre_4 : decode cX3_centre 4 = .ok (.iload_n 1, 1) := by decide +kernel
theorem dX3_centre_5 : decode cX3_centre 5 = .ok (.iconst 3, 1) := by decide +kernel
theorem dX3_centre_6 : decode cX3_centre 6 = .ok (.invokestatic 54, 3) := by decide +kernel
theorem dX3_centre_9 : decode cX3_centre 9 = .ok (.aload_n 0, 1) := by decide +kernel
theorem dX3_centre_10 : decode cX3_centre 10 = .ok (.getfield 19, 3) := by decide +kernel
theorem dX3_centre_13 : decode cX3_centre 13 = .ok (.getfield 138, 3) := by decide +kernel
theorem dX3_centre_16 : decode cX3_centre 16 = .ok (.iload_n 1, 1) := by decide +kernel
theorem dX3_centre_17 : decode cX3_centre 17 = .ok (.laload, 1) := by decide +kernel
theorem dX3_centre_18 : decode cX3_centre 18 = .ok (.lreturn, 1) := by decide +kernel
set_option maxRecDepth 20000 in
theorem ggX3_middle_X3_requireHull : GoodIn wsX3_middle wsX3_requireHull := goodIn_ca (goodIn_r _ [7, 8, 9, 2, 15, 16, 17, 18, 19, 20, 21, 22, 23, 24, 25, 26, 27, 28] (by decide +kernel) (by decide +kernel)) (goodIn_sub (fun _ h => List.mem_cons_of_mem _ (List.mem_append_left _ (List.mem_append_right _ h))) (by decide +kernel))
set_option maxRecDepth 20000 in
theorem gX3_middle_X3_requireHull : GoodIn wsX3_middle (wsV RX3 79 RX3 yX3_requireHull wsX3_requireHull) := goodIn_app (goodIn_of _ (by decide +kernel)) ggX3_middle_X3_requireHull
set_option maxRecDepth 20000 in
theorem ggX3_middle_X3_requirePlace : GoodIn wsX3_middle wsX3_requirePlace := goodIn_ca (goodIn_r _ [12, 13, 14] (by decide +kernel) (by decide +kernel)) (goodIn_sub (fun _ h => List.mem_cons_of_mem _ (List.mem_append_right _ h)) (by decide +kernel))
set_option maxRecDepth 20000 in
theorem gX3_middle_X3_requirePlace : GoodIn wsX3_middle (va_wsS RX3 54 yX3_requirePlace wsX3_requirePlace) := goodIn_app (goodIn_of _ (by decide +kernel)) ggX3_middle_X3_requirePlace
theorem dX3_middle_0 : decode cX3_middle 0 = .ok (.aload_n 0, 1) := by decide +kernel
theorem dX3_middle_1 : decode cX3_middle 1 = .ok (.invokevirtual 79, 3) := by decide +kernel
theorem dX3_middle_4 : decode cX3_middle 4 = .ok (.iload_n 1, 1) := by decide +kernel
theorem dX3_middle_5 : decode cX3_middle 5 = .ok (.iconst 3, 1) := by decide +kernel
theorem dX3_middle_6 : decode cX3_middle 6 = .ok (.invokestatic 54, 3) := by decide +kernel
theorem dX3_middle_9 : decode cX3_middle 9 = .ok (.ldc2_w 142, 3) := by decide +kernel
theorem dX3_middle_12 : decode cX3_middle 12 = .ok (.aload_n 0, 1) := by decide +kernel
theorem dX3_middle_13 : decode cX3_middle 13 = .ok (.getfield 19, 3) := by decide +kernel
theorem dX3_middle_16 : decode cX3_middle 16 = .ok (.getfield 135, 3) := by decide +kernel
theorem dX3_middle_19 : decode cX3_middle 19 = .ok (.l2d, 1) := by decide +kernel
theorem dX3_middle_20 : decode cX3_middle 20 = .ok (.dmul, 1) := by decide +kernel
theorem dX3_middle_21 : decode cX3_middle 21 = .ok (.dstore_n 2, 1) := by decide +kernel
theorem dX3_middle_22 : decode cX3_middle 22 = .ok (.dload_n 2, 1) := by decide +kernel
theorem dX3_middle_23 : decode cX3_middle 23 = .ok (.dconst 0, 1) := by decide +kernel
theorem dX3_middle_24 : decode cX3_middle 24 = .ok (.dcmp .l, 1) := by decide +kernel
theorem dX3_middle_25 : decode cX3_middle 25 = .ok (.ifCond .le 18, 3) := by decide +kernel
theorem dX3_middle_28 : decode cX3_middle 28 = .ok (.aload_n 0, 1) := by decide +kernel
theorem dX3_middle_29 : decode cX3_middle 29 = .ok (.getfield 19, 3) := by decide +kernel
theorem dX3_middle_32 : decode cX3_middle 32 = .ok (.getfield 138, 3) := by decide +kernel
theorem dX3_middle_35 : decode cX3_middle 35 = .ok (.iload_n 1, 1) := by decide +kernel
theorem dX3_middle_36 : decode cX3_middle 36 = .ok (.laload, 1) := by decide +kernel
theorem dX3_middle_37 : decode cX3_middle 37 = .ok (.l2d, 1) := by decide +kernel
theorem dX3_middle_38 : decode cX3_middle 38 = .ok (.dload_n 2, 1) := by decide +kernel
theorem dX3_middle_39 : decode cX3_middle 39 = .ok (.ddiv, 1) := by decide +kernel
theorem dX3_middle_40 : decode cX3_middle 40 = .ok (.goto 4, 3) := by decide +kernel
theorem dX3_middle_43 : decode cX3_middle 43 = .ok (.dconst 0, 1) := by decide +kernel
theorem dX3_middle_44 : decode cX3_middle 44 = .ok (.dreturn, 1) := by decide +kernel
set_option maxRecDepth 20000 in
theorem ggX3_count_J6_bitCount_0f7a4 : GoodIn wsX3_count wsJ6_bitCount_0f7a4 := goodIn_r _ [9, 10, 11, 12] (by decide +kernel) (by decide +kernel)
set_option maxRecDepth 20000 in
theorem gX3_count_J6_bitCount_0f7a4 : GoodIn wsX3_count (va_wsS RX3 147 yJ6_bitCount_0f7a4 wsJ6_bitCount_0f7a4) := goodIn_app (goodIn_of _ (by decide +kernel)) ggX3_count_J6_bitCount_0f7a4
theorem dX3_count_0 : decode cX3_count 0 = .ok (.iload_n 1, 1) := by decide +kernel
theorem dX3_count_1 : decode cX3_count 1 = .ok (.tableswitch 75 0 4 #[35, 43, 51, 59, 70], 35) := by decide +kernel
theorem dX3_count_36 : decode cX3_count 36 = .ok (.aload_n 0, 1) := by decide +kernel
theorem dX3_count_37 : decode cX3_count 37 = .ok (.getfield 12, 3) := by decide +kernel
theorem dX3_count_40 : decode cX3_count 40 = .ok (.getfield 42, 3) := by decide +kernel
theorem dX3_count_43 : decode cX3_count 43 = .ok (.ireturn, 1) := by decide +kernel
theorem dX3_count_44 : decode cX3_count 44 = .ok (.aload_n 0, 1) := by decide +kernel
theorem dX3_count_45 : decode cX3_count 45 = .ok (.getfield 19, 3) := by decide +kernel
theorem dX3_count_48 : decode cX3_count 48 = .ok (.getfield 72, 3) := by decide +kernel
theorem dX3_count_51 : decode cX3_count 51 = .ok (.ireturn, 1) := by decide +kernel
theorem dX3_count_52 : decode cX3_count 52 = .ok (.aload_n 0, 1) := by decide +kernel
theorem dX3_count_53 : decode cX3_count 53 = .ok (.getfield 19, 3) := by decide +kernel
theorem dX3_count_56 : decode cX3_count 56 = .ok (.getfield 106, 3) := by decide +kernel
theorem dX3_count_59 : decode cX3_count 59 = .ok (.ireturn, 1) := by decide +kernel
theorem dX3_count_60 : decode cX3_count 60 = .ok (.aload_n 0, 1) := by decide +kernel
theorem dX3_count_61 : decode cX3_count 61 = .ok (.getfield 19, 3) := by decide +kernel
theorem dX3_count_64 : decode cX3_count 64 = .ok (.getfield 144, 3) := by decide +kernel
theorem dX3_count_67 : decode cX3_count 67 = .ok (.invokestatic 147, 3) := by decide +kernel
theorem dX3_count_70 : decode cX3_count 70 = .ok (.ireturn, 1) := by decide +kernel
theorem dX3_count_71 : decode cX3_count 71 = .ok (.aload_n 0, 1) := by decide +kernel
theorem dX3_count_72 : decode cX3_count 72 = .ok (.getfield 23, 3) := by decide +kernel
theorem dX3_count_75 : decode cX3_count 75 = .ok (.ireturn, 1) := by decide +kernel
theorem dX3_count_76 : decode cX3_count 76 = .ok (.new 153, 3) := by decide +kernel
theorem dX3_count_79 : decode cX3_count 79 = .ok (.dup, 1) := by decide +kernel
theorem dX3_count_80 : decode cX3_count 80 = .ok (.ldc 155, 2) := by decide +kernel
theorem dX3_count_82 : decode cX3_count 82 = .ok (.invokespecial 157, 3) := by decide +kernel
theorem dX3_count_85 : decode cX3_count 85 = .ok (.athrow, 1) := by decide +kernel
theorem dX3_requireHull_0 : decode cX3_requireHull 0 = .ok (.aload_n 0, 1) := by decide +kernel
theorem dX3_requireHull_1 : decode cX3_requireHull 1 = .ok (.getfield 19, 3) := by decide +kernel
theorem dX3_requireHull_4 : decode cX3_requireHull 4 = .ok (.getfield 72, 3) := by decide +kernel
theorem dX3_requireHull_7 : decode cX3_requireHull 7 = .ok (.ifCond .ne 13, 3) := by decide +kernel
theorem dX3_requireHull_10 : decode cX3_requireHull 10 = .ok (.new 45, 3) := by decide +kernel
theorem dX3_requireHull_13 : decode cX3_requireHull 13 = .ok (.dup, 1) := by decide +kernel
theorem dX3_requireHull_14 : decode cX3_requireHull 14 = .ok (.ldc 158, 2) := by decide +kernel
theorem dX3_requireHull_16 : decode cX3_requireHull 16 = .ok (.invokespecial 49, 3) := by decide +kernel
theorem dX3_requireHull_19 : decode cX3_requireHull 19 = .ok (.athrow, 1) := by decide +kernel
theorem dX3_requireHull_20 : decode cX3_requireHull 20 = .ok (.return_, 1) := by decide +kernel
set_option maxRecDepth 20000 in
theorem ggX3_requireCorner_X3_requirePlace : GoodIn wsX3_requireCorner wsX3_requirePlace := goodIn_ca (goodIn_r _ [7, 1, 2] (by decide +kernel) (by decide +kernel)) (goodIn_sub (fun _ h => List.mem_cons_of_mem _ (List.mem_append_right _ h)) (by decide +kernel))
set_option maxRecDepth 20000 in
theorem gX3_requireCorner_X3_requirePlace : GoodIn wsX3_requireCorner (va_wsS RX3 54 yX3_requirePlace wsX3_requirePlace) := goodIn_app (goodIn_of _ (by decide +kernel)) ggX3_requireCorner_X3_requirePlace
set_option maxRecDepth 20000 in
theorem ggX3_requireCorner_X3_holds : GoodIn wsX3_requireCorner wsX3_holds := goodIn_r _ [10] (by decide +kernel) (by decide +kernel)
set_option maxRecDepth 20000 in
theorem gX3_requireCorner_X3_holds : GoodIn wsX3_requireCorner (va_wsS RX3 160 yX3_holds wsX3_holds) := goodIn_app (goodIn_of _ (by decide +kernel)) ggX3_requireCorner_X3_holds
theorem dX3_requireCorner_0 : decode cX3_requireCorner 0 = .ok (.iload_n 1, 1) := by decide +kernel
theorem dX3_requireCorner_1 : decode cX3_requireCorner 1 = .ok (.bipush 24, 2) := by decide +kernel
theorem dX3_requireCorner_3 : decode cX3_requireCorner 3 = .ok (.invokestatic 54, 3) := by decide +kernel
theorem dX3_requireCorner_6 : decode cX3_requireCorner 6 = .ok (.aload_n 0, 1) := by decide +kernel
theorem dX3_requireCorner_7 : decode cX3_requireCorner 7 = .ok (.getfield 19, 3) := by decide +kernel
theorem dX3_requireCorner_10 : decode cX3_requireCorner 10 = .ok (.getfield 144, 3) := by decide +kernel
theorem dX3_requireCorner_13 : decode cX3_requireCorner 13 = .ok (.iload_n 1, 1) := by decide +kernel
theorem dX3_requireCorner_14 : decode cX3_requireCorner 14 = .ok (.invokestatic 160, 3) := by decide +kernel
theorem dX3_requireCorner_17 : decode cX3_requireCorner 17 = .ok (.ifCond .ne 13, 3) := by decide +kernel
theorem dX3_requireCorner_20 : decode cX3_requireCorner 20 = .ok (.new 153, 3) := by decide +kernel
theorem dX3_requireCorner_23 : decode cX3_requireCorner 23 = .ok (.dup, 1) := by decide +kernel
theorem dX3_requireCorner_24 : decode cX3_requireCorner 24 = .ok (.ldc 164, 2) := by decide +kernel
theorem dX3_requireCorner_26 : decode cX3_requireCorner 26 = .ok (.invokespecial 157, 3) := by decide +kernel
theorem dX3_requireCorner_29 : decode cX3_requireCorner 29 = .ok (.athrow, 1) := by decide +kernel
theorem dX3_requireCorner_30 : decode cX3_requireCorner 30 = .ok (.return_, 1) := by decide +kernel
theorem dX3_requirePlace_0 : decode cX3_requirePlace 0 = .ok (.iload_n 0, 1) := by decide +kernel
theorem dX3_requirePlace_1 : decode cX3_requirePlace 1 = .ok (.ifCond .lt 8, 3) := by decide +kernel
theorem dX3_requirePlace_4 : decode cX3_requirePlace 4 = .ok (.iload_n 0, 1) := by decide +kernel
theorem dX3_requirePlace_5 : decode cX3_requirePlace 5 = .ok (.iload_n 1, 1) := by decide +kernel
theorem dX3_requirePlace_6 : decode cX3_requirePlace 6 = .ok (.if_icmp .lt 13, 3) := by decide +kernel
theorem dX3_requirePlace_9 : decode cX3_requirePlace 9 = .ok (.new 153, 3) := by decide +kernel
theorem dX3_requirePlace_12 : decode cX3_requirePlace 12 = .ok (.dup, 1) := by decide +kernel
theorem dX3_requirePlace_13 : decode cX3_requirePlace 13 = .ok (.ldc 166, 2) := by decide +kernel
theorem dX3_requirePlace_15 : decode cX3_requirePlace 15 = .ok (.invokespecial 157, 3) := by decide +kernel
theorem dX3_requirePlace_18 : decode cX3_requirePlace 18 = .ok (.athrow, 1) := by decide +kernel
theorem dX3_requirePlace_19 : decode cX3_requirePlace 19 = .ok (.return_, 1) := by decide +kernel
set_option maxRecDepth 20000 in
theorem ggX3_requireReach_X3_isWithin : GoodIn wsX3_requireReach wsX3_isWithin := goodIn_r _ [6] (by decide +kernel) (by decide +kernel)
set_option maxRecDepth 20000 in
theorem gX3_requireReach_X3_isWithin : GoodIn wsX3_requireReach (va_wsS RX3 168 yX3_isWithin wsX3_isWithin) := goodIn_app (goodIn_of _ (by decide +kernel)) ggX3_requireReach_X3_isWithin
theorem dX3_requireReach_0 : decode cX3_requireReach 0 = .ok (.iload_n 0, 1) := by decide +kernel
theorem dX3_requireReach_1 : decode cX3_requireReach 1 = .ok (.iload_n 3, 1) := by decide +kernel
theorem dX3_requireReach_2 : decode cX3_requireReach 2 = .ok (.invokestatic 168, 3) := by decide +kernel
theorem dX3_requireReach_5 : decode cX3_requireReach 5 = .ok (.ifCond .eq 19, 3) := by decide +kernel
theorem dX3_requireReach_8 : decode cX3_requireReach 8 = .ok (.iload_n 1, 1) := by decide +kernel
theorem dX3_requireReach_9 : decode cX3_requireReach 9 = .ok (.iload_n 3, 1) := by decide +kernel
theorem dX3_requireReach_10 : decode cX3_requireReach 10 = .ok (.invokestatic 168, 3) := by decide +kernel
theorem dX3_requireReach_13 : decode cX3_requireReach 13 = .ok (.ifCond .eq 11, 3) := by decide +kernel
theorem dX3_requireReach_16 : decode cX3_requireReach 16 = .ok (.iload_n 2, 1) := by decide +kernel
theorem dX3_requireReach_17 : decode cX3_requireReach 17 = .ok (.iload_n 3, 1) := by decide +kernel
theorem dX3_requireReach_18 : decode cX3_requireReach 18 = .ok (.invokestatic 168, 3) := by decide +kernel
theorem dX3_requireReach_21 : decode cX3_requireReach 21 = .ok (.ifCond .ne 13, 3) := by decide +kernel
theorem dX3_requireReach_24 : decode cX3_requireReach 24 = .ok (.new 35, 3) := by decide +kernel
theorem dX3_requireReach_27 : decode cX3_requireReach 27 = .ok (.dup, 1) := by decide +kernel
theorem dX3_requireReach_28 : decode cX3_requireReach 28 = .ok (.ldc 171, 2) := by decide +kernel
theorem dX3_requireReach_30 : decode cX3_requireReach 30 = .ok (.invokespecial 39, 3) := by decide +kernel
theorem dX3_requireReach_33 : decode cX3_requireReach 33 = .ok (.athrow, 1) := by decide +kernel
theorem dX3_requireReach_34 : decode cX3_requireReach 34 = .ok (.return_, 1) := by decide +kernel
theorem dX3_isWithin_0 : decode cX3_isWithin 0 = .ok (.iload_n 0, 1) := by decide +kernel
theorem dX3_isWithin_1 : decode cX3_isWithin 1 = .ok (.iload_n 1, 1) := by decide +kernel
theorem dX3_isWithin_2 : decode cX3_isWithin 2 = .ok (.ineg, 1) := by decide +kernel
theorem dX3_isWithin_3 : decode cX3_isWithin 3 = .ok (.if_icmp .lt 12, 3) := by decide +kernel
theorem dX3_isWithin_6 : decode cX3_isWithin 6 = .ok (.iload_n 0, 1) := by decide +kernel
theorem dX3_isWithin_7 : decode cX3_isWithin 7 = .ok (.iload_n 1, 1) := by decide +kernel
theorem dX3_isWithin_8 : decode cX3_isWithin 8 = .ok (.if_icmp .gt 7, 3) := by decide +kernel
theorem dX3_isWithin_11 : decode cX3_isWithin 11 = .ok (.iconst 1, 1) := by decide +kernel
theorem dX3_isWithin_12 : decode cX3_isWithin 12 = .ok (.goto 4, 3) := by decide +kernel
theorem dX3_isWithin_15 : decode cX3_isWithin 15 = .ok (.iconst 0, 1) := by decide +kernel
theorem dX3_isWithin_16 : decode cX3_isWithin 16 = .ok (.ireturn, 1) := by decide +kernel
theorem dX3_holds_0 : decode cX3_holds 0 = .ok (.iload_n 0, 1) := by decide +kernel
theorem dX3_holds_1 : decode cX3_holds 1 = .ok (.iconst 1, 1) := by decide +kernel
theorem dX3_holds_2 : decode cX3_holds 2 = .ok (.iload_n 1, 1) := by decide +kernel
theorem dX3_holds_3 : decode cX3_holds 3 = .ok (.ishl, 1) := by decide +kernel
theorem dX3_holds_4 : decode cX3_holds 4 = .ok (.iand, 1) := by decide +kernel
theorem dX3_holds_5 : decode cX3_holds 5 = .ok (.ifCond .eq 7, 3) := by decide +kernel
theorem dX3_holds_8 : decode cX3_holds 8 = .ok (.iconst 1, 1) := by decide +kernel
theorem dX3_holds_9 : decode cX3_holds 9 = .ok (.goto 4, 3) := by decide +kernel
theorem dX3_holds_12 : decode cX3_holds 12 = .ok (.iconst 0, 1) := by decide +kernel
theorem dX3_holds_13 : decode cX3_holds 13 = .ok (.ireturn, 1) := by decide +kernel
theorem dX3_way_0 : decode cX3_way 0 = .ok (.iload_n 0, 1) := by decide +kernel
theorem dX3_way_1 : decode cX3_way 1 = .ok (.bipush 24, 2) := by decide +kernel
theorem dX3_way_3 : decode cX3_way 3 = .ok (.imul, 1) := by decide +kernel
theorem dX3_way_4 : decode cX3_way 4 = .ok (.iload_n 1, 1) := by decide +kernel
theorem dX3_way_5 : decode cX3_way 5 = .ok (.iadd, 1) := by decide +kernel
theorem dX3_way_6 : decode cX3_way 6 = .ok (.ireturn, 1) := by decide +kernel
theorem dX3_across_0 : decode cX3_across 0 = .ok (.aload_n 0, 1) := by decide +kernel
theorem dX3_across_1 : decode cX3_across 1 = .ok (.iload_n 3, 1) := by decide +kernel
theorem dX3_across_2 : decode cX3_across 2 = .ok (.iaload, 1) := by decide +kernel
theorem dX3_across_3 : decode cX3_across 3 = .ok (.aload_n 0, 1) := by decide +kernel
theorem dX3_across_4 : decode cX3_across 4 = .ok (.iload_n 2, 1) := by decide +kernel
theorem dX3_across_5 : decode cX3_across 5 = .ok (.iaload, 1) := by decide +kernel
theorem dX3_across_6 : decode cX3_across 6 = .ok (.isub, 1) := by decide +kernel
theorem dX3_across_7 : decode cX3_across 7 = .ok (.i2l, 1) := by decide +kernel
theorem dX3_across_8 : decode cX3_across 8 = .ok (.aload_n 1, 1) := by decide +kernel
theorem dX3_across_9 : decode cX3_across 9 = .ok (.iload 4, 2) := by decide +kernel
theorem dX3_across_11 : decode cX3_across 11 = .ok (.iaload, 1) := by decide +kernel
theorem dX3_across_12 : decode cX3_across 12 = .ok (.aload_n 1, 1) := by decide +kernel
theorem dX3_across_13 : decode cX3_across 13 = .ok (.iload_n 2, 1) := by decide +kernel
theorem dX3_across_14 : decode cX3_across 14 = .ok (.iaload, 1) := by decide +kernel
theorem dX3_across_15 : decode cX3_across 15 = .ok (.isub, 1) := by decide +kernel
theorem dX3_across_16 : decode cX3_across 16 = .ok (.i2l, 1) := by decide +kernel
theorem dX3_across_17 : decode cX3_across 17 = .ok (.lmul, 1) := by decide +kernel
theorem dX3_across_18 : decode cX3_across 18 = .ok (.aload_n 1, 1) := by decide +kernel
theorem dX3_across_19 : decode cX3_across 19 = .ok (.iload_n 3, 1) := by decide +kernel
theorem dX3_across_20 : decode cX3_across 20 = .ok (.iaload, 1) := by decide +kernel
theorem dX3_across_21 : decode cX3_across 21 = .ok (.aload_n 1, 1) := by decide +kernel
theorem dX3_across_22 : decode cX3_across 22 = .ok (.iload_n 2, 1) := by decide +kernel
theorem dX3_across_23 : decode cX3_across 23 = .ok (.iaload, 1) := by decide +kernel
theorem dX3_across_24 : decode cX3_across 24 = .ok (.isub, 1) := by decide +kernel
theorem dX3_across_25 : decode cX3_across 25 = .ok (.i2l, 1) := by decide +kernel
theorem dX3_across_26 : decode cX3_across 26 = .ok (.aload_n 0, 1) := by decide +kernel
theorem dX3_across_27 : decode cX3_across 27 = .ok (.iload 4, 2) := by decide +kernel
theorem dX3_across_29 : decode cX3_across 29 = .ok (.iaload, 1) := by decide +kernel
theorem dX3_across_30 : decode cX3_across 30 = .ok (.aload_n 0, 1) := by decide +kernel
theorem dX3_across_31 : decode cX3_across 31 = .ok (.iload_n 2, 1) := by decide +kernel
theorem dX3_across_32 : decode cX3_across 32 = .ok (.iaload, 1) := by decide +kernel
theorem dX3_across_33 : decode cX3_across 33 = .ok (.isub, 1) := by decide +kernel
theorem dX3_across_34 : decode cX3_across 34 = .ok (.i2l, 1) := by decide +kernel
theorem dX3_across_35 : decode cX3_across 35 = .ok (.lmul, 1) := by decide +kernel
theorem dX3_across_36 : decode cX3_across 36 = .ok (.lsub, 1) := by decide +kernel
theorem dX3_across_37 : decode cX3_across 37 = .ok (.lreturn, 1) := by decide +kernel
theorem dX3_commonFactor_0 : decode cX3_commonFactor 0 = .ok (.iconst 0, 1) := by decide +kernel
theorem dX3_commonFactor_1 : decode cX3_commonFactor 1 = .ok (.istore 4, 2) := by decide +kernel
theorem dX3_commonFactor_3 : decode cX3_commonFactor 3 = .ok (.iload 4, 2) := by decide +kernel
theorem dX3_commonFactor_5 : decode cX3_commonFactor 5 = .ok (.bipush 64, 2) := by decide +kernel
theorem dX3_commonFactor_7 : decode cX3_commonFactor 7 = .ok (.if_icmp .ge 25, 3) := by decide +kernel
theorem dX3_commonFactor_10 : decode cX3_commonFactor 10 = .ok (.lload_n 2, 1) := by decide +kernel
theorem dX3_commonFactor_11 : decode cX3_commonFactor 11 = .ok (.lconst 0, 1) := by decide +kernel
theorem dX3_commonFactor_12 : decode cX3_commonFactor 12 = .ok (.lcmp, 1) := by decide +kernel
theorem dX3_commonFactor_13 : decode cX3_commonFactor 13 = .ok (.ifCond .eq 19, 3) := by decide +kernel
theorem dX3_commonFactor_16 : decode cX3_commonFactor 16 = .ok (.lload_n 0, 1) := by decide +kernel
theorem dX3_commonFactor_17 : decode cX3_commonFactor 17 = .ok (.lload_n 2, 1) := by decide +kernel
theorem dX3_commonFactor_18 : decode cX3_commonFactor 18 = .ok (.lrem, 1) := by decide +kernel
theorem dX3_commonFactor_19 : decode cX3_commonFactor 19 = .ok (.lstore 5, 2) := by decide +kernel
theorem dX3_commonFactor_21 : decode cX3_commonFactor 21 = .ok (.lload_n 2, 1) := by decide +kernel
theorem dX3_commonFactor_22 : decode cX3_commonFactor 22 = .ok (.lstore_n 0, 1) := by decide +kernel
theorem dX3_commonFactor_23 : decode cX3_commonFactor 23 = .ok (.lload 5, 2) := by decide +kernel
theorem dX3_commonFactor_25 : decode cX3_commonFactor 25 = .ok (.lstore_n 2, 1) := by decide +kernel
theorem dX3_commonFactor_26 : decode cX3_commonFactor 26 = .ok (.iinc 4 1, 3) := by decide +kernel
theorem dX3_commonFactor_29 : decode cX3_commonFactor 29 = .ok (.goto (-26), 3) := by decide +kernel
theorem dX3_commonFactor_32 : decode cX3_commonFactor 32 = .ok (.lload_n 0, 1) := by decide +kernel
theorem dX3_commonFactor_33 : decode cX3_commonFactor 33 = .ok (.lconst 0, 1) := by decide +kernel
theorem dX3_commonFactor_34 : decode cX3_commonFactor 34 = .ok (.lcmp, 1) := by decide +kernel
theorem dX3_commonFactor_35 : decode cX3_commonFactor 35 = .ok (.ifCond .ge 8, 3) := by decide +kernel
theorem dX3_commonFactor_38 : decode cX3_commonFactor 38 = .ok (.lload_n 0, 1) := by decide +kernel
theorem dX3_commonFactor_39 : decode cX3_commonFactor 39 = .ok (.lneg, 1) := by decide +kernel
theorem dX3_commonFactor_40 : decode cX3_commonFactor 40 = .ok (.goto 4, 3) := by decide +kernel
theorem dX3_commonFactor_43 : decode cX3_commonFactor 43 = .ok (.lload_n 0, 1) := by decide +kernel
theorem dX3_commonFactor_44 : decode cX3_commonFactor 44 = .ok (.lreturn, 1) := by decide +kernel
theorem dX4_init_0 : decode cX4_init 0 = .ok (.aload_n 0, 1) := by decide +kernel
theorem dX4_init_1 : decode cX4_init 1 = .ok (.invokespecial 1, 3) := by decide +kernel
theorem dX4_init_4 : decode cX4_init 4 = .ok (.aload_n 0, 1) := by decide +kernel
theorem dX4_init_5 : decode cX4_init 5 = .ok (.bipush 24, 2) := by decide +kernel
theorem dX4_init_7 : decode cX4_init 7 = .ok (.newarray .int, 2) := by decide +kernel
theorem dX4_init_9 : decode cX4_init 9 = .ok (.putfield 7, 3) := by decide +kernel
theorem dX4_init_12 : decode cX4_init 12 = .ok (.aload_n 0, 1) := by decide +kernel
theorem dX4_init_13 : decode cX4_init 13 = .ok (.bipush 24, 2) := by decide +kernel
theorem dX4_init_15 : decode cX4_init 15 = .ok (.newarray .int, 2) := by decide +kernel
theorem dX4_init_17 : decode cX4_init 17 = .ok (.putfield 13, 3) := by decide +kernel
theorem dX4_init_20 : decode cX4_init 20 = .ok (.aload_n 0, 1) := by decide +kernel
theorem dX4_init_21 : decode cX4_init 21 = .ok (.bipush 24, 2) := by decide +kernel
theorem dX4_init_23 : decode cX4_init 23 = .ok (.newarray .int, 2) := by decide +kernel
theorem dX4_init_25 : decode cX4_init 25 = .ok (.putfield 16, 3) := by decide +kernel
theorem dX4_init_28 : decode cX4_init 28 = .ok (.aload_n 0, 1) := by decide +kernel
theorem dX4_init_29 : decode cX4_init 29 = .ok (.bipush 24, 2) := by decide +kernel
theorem dX4_init_31 : decode cX4_init 31 = .ok (.newarray .long, 2) := by decide +kernel
theorem dX4_init_33 : decode cX4_init 33 = .ok (.putfield 19, 3) := by decide +kernel
theorem dX4_init_36 : decode cX4_init 36 = .ok (.aload_n 0, 1) := by decide +kernel
theorem dX4_init_37 : decode cX4_init 37 = .ok (.bipush 24, 2) := by decide +kernel
theorem dX4_init_39 : decode cX4_init 39 = .ok (.newarray .long, 2) := by decide +kernel
theorem dX4_init_41 : decode cX4_init 41 = .ok (.putfield 23, 3) := by decide +kernel
theorem dX4_init_44 : decode cX4_init 44 = .ok (.aload_n 0, 1) := by decide +kernel
theorem dX4_init_45 : decode cX4_init 45 = .ok (.bipush 24, 2) := by decide +kernel
theorem dX4_init_47 : decode cX4_init 47 = .ok (.newarray .long, 2) := by decide +kernel
theorem dX4_init_49 : decode cX4_init 49 = .ok (.putfield 26, 3) := by decide +kernel
theorem dX4_init_52 : decode cX4_init 52 = .ok (.aload_n 0, 1) := by decide +kernel
theorem dX4_init_53 : decode cX4_init 53 = .ok (.bipush 64, 2) := by decide +kernel
theorem dX4_init_55 : decode cX4_init 55 = .ok (.newarray .long, 2) := by decide +kernel
theorem dX4_init_57 : decode cX4_init 57 = .ok (.putfield 29, 3) := by decide +kernel
theorem dX4_init_60 : decode cX4_init 60 = .ok (.aload_n 0, 1) := by decide +kernel
theorem dX4_init_61 : decode cX4_init 61 = .ok (.bipush 64, 2) := by decide +kernel
theorem dX4_init_63 : decode cX4_init 63 = .ok (.newarray .long, 2) := by decide +kernel
theorem dX4_init_65 : decode cX4_init 65 = .ok (.putfield 32, 3) := by decide +kernel
theorem dX4_init_68 : decode cX4_init 68 = .ok (.aload_n 0, 1) := by decide +kernel
theorem dX4_init_69 : decode cX4_init 69 = .ok (.bipush 64, 2) := by decide +kernel
theorem dX4_init_71 : decode cX4_init 71 = .ok (.newarray .long, 2) := by decide +kernel
theorem dX4_init_73 : decode cX4_init 73 = .ok (.putfield 35, 3) := by decide +kernel
theorem dX4_init_76 : decode cX4_init 76 = .ok (.aload_n 0, 1) := by decide +kernel
theorem dX4_init_77 : decode cX4_init 77 = .ok (.bipush 64, 2) := by decide +kernel
theorem dX4_init_79 : decode cX4_init 79 = .ok (.newarray .long, 2) := by decide +kernel
theorem dX4_init_81 : decode cX4_init 81 = .ok (.putfield 38, 3) := by decide +kernel
theorem dX4_init_84 : decode cX4_init 84 = .ok (.aload_n 0, 1) := by decide +kernel
theorem dX4_init_85 : decode cX4_init 85 = .ok (.bipush 64, 2) := by decide +kernel
theorem dX4_init_87 : decode cX4_init 87 = .ok (.newarray .int, 2) := by decide +kernel
theorem dX4_init_89 : decode cX4_init 89 = .ok (.putfield 41, 3) := by decide +kernel
theorem dX4_init_92 : decode cX4_init 92 = .ok (.aload_n 0, 1) := by decide +kernel
theorem dX4_init_93 : decode cX4_init 93 = .ok (.sipush 1536, 3) := by decide +kernel
theorem dX4_init_96 : decode cX4_init 96 = .ok (.newarray .int, 2) := by decide +kernel
theorem dX4_init_98 : decode cX4_init 98 = .ok (.putfield 44, 3) := by decide +kernel
theorem dX4_init_101 : decode cX4_init 101 = .ok (.aload_n 0, 1) := by decide +kernel
theorem dX4_init_102 : decode cX4_init 102 = .ok (.bipush 64, 2) := by decide +kernel
theorem dX4_init_104 : decode cX4_init 104 = .ok (.newarray .int, 2) := by decide +kernel
theorem dX4_init_106 : decode cX4_init 106 = .ok (.putfield 47, 3) := by decide +kernel
theorem dX4_init_109 : decode cX4_init 109 = .ok (.aload_n 0, 1) := by decide +kernel
theorem dX4_init_110 : decode cX4_init 110 = .ok (.sipush 128, 3) := by decide +kernel
theorem dX4_init_113 : decode cX4_init 113 = .ok (.newarray .int, 2) := by decide +kernel
theorem dX4_init_115 : decode cX4_init 115 = .ok (.putfield 50, 3) := by decide +kernel
theorem dX4_init_118 : decode cX4_init 118 = .ok (.aload_n 0, 1) := by decide +kernel
theorem dX4_init_119 : decode cX4_init 119 = .ok (.sipush 128, 3) := by decide +kernel
theorem dX4_init_122 : decode cX4_init 122 = .ok (.newarray .int, 2) := by decide +kernel
theorem dX4_init_124 : decode cX4_init 124 = .ok (.putfield 53, 3) := by decide +kernel
theorem dX4_init_127 : decode cX4_init 127 = .ok (.aload_n 0, 1) := by decide +kernel
theorem dX4_init_128 : decode cX4_init 128 = .ok (.sipush 128, 3) := by decide +kernel
theorem dX4_init_131 : decode cX4_init 131 = .ok (.newarray .int, 2) := by decide +kernel
theorem dX4_init_133 : decode cX4_init 133 = .ok (.putfield 56, 3) := by decide +kernel
theorem dX4_init_136 : decode cX4_init 136 = .ok (.aload_n 0, 1) := by decide +kernel
theorem dX4_init_137 : decode cX4_init 137 = .ok (.bipush 24, 2) := by decide +kernel
theorem dX4_init_139 : decode cX4_init 139 = .ok (.newarray .int, 2) := by decide +kernel
theorem dX4_init_141 : decode cX4_init 141 = .ok (.putfield 59, 3) := by decide +kernel
theorem dX4_init_144 : decode cX4_init 144 = .ok (.return_, 1) := by decide +kernel
theorem dX4_thrown_0 : decode cX4_thrown 0 = .ok (.aload_n 0, 1) := by decide +kernel
theorem dX4_thrown_1 : decode cX4_thrown 1 = .ok (.getfield 62, 3) := by decide +kernel
theorem dX4_thrown_4 : decode cX4_thrown 4 = .ok (.ireturn, 1) := by decide +kernel
theorem dX4_goes_0 : decode cX4_goes 0 = .ok (.aload_n 0, 1) := by decide +kernel
theorem dX4_goes_1 : decode cX4_goes 1 = .ok (.iload_n 1, 1) := by decide +kernel
theorem dX4_goes_2 : decode cX4_goes 2 = .ok (.ifCond .ne 7, 3) := by decide +kernel
theorem dX4_goes_5 : decode cX4_goes 5 = .ok (.iconst 1, 1) := by decide +kernel
theorem dX4_goes_6 : decode cX4_goes 6 = .ok (.goto 12, 3) := by decide +kernel
theorem dX4_goes_9 : decode cX4_goes 9 = .ok (.iload_n 2, 1) := by decide +kernel
theorem dX4_goes_10 : decode cX4_goes 10 = .ok (.ifCond .ne 7, 3) := by decide +kernel
theorem dX4_goes_13 : decode cX4_goes 13 = .ok (.iconst 2, 1) := by decide +kernel
theorem dX4_goes_14 : decode cX4_goes 14 = .ok (.goto 4, 3) := by decide +kernel
theorem dX4_goes_17 : decode cX4_goes 17 = .ok (.iconst 0, 1) := by decide +kernel
theorem dX4_goes_18 : decode cX4_goes 18 = .ok (.putfield 62, 3) := by decide +kernel
theorem dX4_goes_21 : decode cX4_goes 21 = .ok (.aload_n 0, 1) := by decide +kernel
theorem dX4_goes_22 : decode cX4_goes 22 = .ok (.getfield 62, 3) := by decide +kernel
theorem dX4_goes_25 : decode cX4_goes 25 = .ok (.ifCond .ne 7, 3) := by decide +kernel
theorem dX4_goes_28 : decode cX4_goes 28 = .ok (.iconst 1, 1) := by decide +kernel
theorem dX4_goes_29 : decode cX4_goes 29 = .ok (.goto 4, 3) := by decide +kernel
theorem dX4_goes_32 : decode cX4_goes 32 = .ok (.iconst 0, 1) := by decide +kernel
theorem dX4_goes_33 : decode cX4_goes 33 = .ok (.ireturn, 1) := by decide +kernel
theorem dX4_within_0 : decode cX4_within 0 = .ok (.iload_n 0, 1) := by decide +kernel
theorem dX4_within_1 : decode cX4_within 1 = .ok (.iload_n 1, 1) := by decide +kernel
theorem dX4_within_2 : decode cX4_within 2 = .ok (.ineg, 1) := by decide +kernel
theorem dX4_within_3 : decode cX4_within 3 = .ok (.if_icmp .lt 12, 3) := by decide +kernel
theorem dX4_within_6 : decode cX4_within 6 = .ok (.iload_n 0, 1) := by decide +kernel
theorem dX4_within_7 : decode cX4_within 7 = .ok (.iload_n 1, 1) := by decide +kernel
theorem dX4_within_8 : decode cX4_within 8 = .ok (.if_icmp .gt 7, 3) := by decide +kernel
theorem dX4_within_11 : decode cX4_within 11 = .ok (.iconst 1, 1) := by decide +kernel
theorem dX4_within_12 : decode cX4_within 12 = .ok (.goto 4, 3) := by decide +kernel
theorem dX4_within_15 : decode cX4_within 15 = .ok (.iconst 0, 1) := by decide +kernel
theorem dX4_within_16 : decode cX4_within 16 = .ok (.ireturn, 1) := by decide +kernel
theorem dX4_taken_0 : decode cX4_taken 0 = .ok (.iconst 0, 1) := by decide +kernel
theorem dX4_taken_1 : decode cX4_taken 1 = .ok (.istore 4, 2) := by decide +kernel
theorem dX4_taken_3 : decode cX4_taken 3 = .ok (.iconst 0, 1) := by decide +kernel
theorem dX4_taken_4 : decode cX4_taken 4 = .ok (.istore 5, 2) := by decide +kernel
theorem dX4_taken_6 : decode cX4_taken 6 = .ok (.iload 5, 2) := by decide +kernel
theorem dX4_taken_8 : decode cX4_taken 8 = .ok (.aload_n 0, 1) := by decide +kernel
theorem dX4_taken_9 : decode cX4_taken 9 = .ok (.getfield 66, 3) := by decide +kernel
theorem dX4_taken_12 : decode cX4_taken 12 = .ok (.if_icmp .ge 54, 3) := by decide +kernel
theorem dX4_taken_15 : decode cX4_taken 15 = .ok (.iload 4, 2) := by decide +kernel
theorem dX4_taken_17 : decode cX4_taken 17 = .ok (.ifCond .ne 36, 3) := by decide +kernel
theorem dX4_taken_20 : decode cX4_taken 20 = .ok (.aload_n 0, 1) := by decide +kernel
theorem dX4_taken_21 : decode cX4_taken 21 = .ok (.getfield 7, 3) := by decide +kernel
theorem dX4_taken_24 : decode cX4_taken 24 = .ok (.iload 5, 2) := by decide +kernel
theorem dX4_taken_26 : decode cX4_taken 26 = .ok (.iaload, 1) := by decide +kernel
theorem dX4_taken_27 : decode cX4_taken 27 = .ok (.iload_n 1, 1) := by decide +kernel
theorem dX4_taken_28 : decode cX4_taken 28 = .ok (.if_icmp .ne 29, 3) := by decide +kernel
theorem dX4_taken_31 : decode cX4_taken 31 = .ok (.aload_n 0, 1) := by decide +kernel
theorem dX4_taken_32 : decode cX4_taken 32 = .ok (.getfield 13, 3) := by decide +kernel
theorem dX4_taken_35 : decode cX4_taken 35 = .ok (.iload 5, 2) := by decide +kernel
theorem dX4_taken_37 : decode cX4_taken 37 = .ok (.iaload, 1) := by decide +kernel
theorem dX4_taken_38 : decode cX4_taken 38 = .ok (.iload_n 2, 1) := by decide +kernel
theorem dX4_taken_39 : decode cX4_taken 39 = .ok (.if_icmp .ne 18, 3) := by decide +kernel
theorem dX4_taken_42 : decode cX4_taken 42 = .ok (.aload_n 0, 1) := by decide +kernel
theorem dX4_taken_43 : decode cX4_taken 43 = .ok (.getfield 16, 3) := by decide +kernel
theorem dX4_taken_46 : decode cX4_taken 46 = .ok (.iload 5, 2) := by decide +kernel
theorem dX4_taken_48 : decode cX4_taken 48 = .ok (.iaload, 1) := by decide +kernel
theorem dX4_taken_49 : decode cX4_taken 49 = .ok (.iload_n 3, 1) := by decide +kernel
theorem dX4_taken_50 : decode cX4_taken 50 = .ok (.if_icmp .ne 7, 3) := by decide +kernel
theorem dX4_taken_53 : decode cX4_taken 53 = .ok (.iconst 1, 1) := by decide +kernel
theorem dX4_taken_54 : decode cX4_taken 54 = .ok (.goto 4, 3) := by decide +kernel
theorem dX4_taken_57 : decode cX4_taken 57 = .ok (.iconst 0, 1) := by decide +kernel
theorem dX4_taken_58 : decode cX4_taken 58 = .ok (.istore 4, 2) := by decide +kernel
theorem dX4_taken_60 : decode cX4_taken 60 = .ok (.iinc 5 1, 3) := by decide +kernel
theorem dX4_taken_63 : decode cX4_taken 63 = .ok (.goto (-57), 3) := by decide +kernel
theorem dX4_taken_66 : decode cX4_taken 66 = .ok (.iload 4, 2) := by decide +kernel
theorem dX4_taken_68 : decode cX4_taken 68 = .ok (.ireturn, 1) := by decide +kernel
set_option maxRecDepth 20000 in
theorem ggX4_point_X4_within : GoodIn wsX4_point wsX4_within := goodIn_r _ [8] (by decide +kernel) (by decide +kernel)
set_option maxRecDepth 20000 in
theorem gX4_point_X4_within : GoodIn wsX4_point (va_wsS RX4 69 yX4_within wsX4_within) := goodIn_app (goodIn_of _ (by decide +kernel)) ggX4_point_X4_within
set_option maxRecDepth 20000 in
theorem ggX4_point_X4_taken : GoodIn wsX4_point wsX4_taken := goodIn_r _ [12, 1, 2, 3, 4, 18, 19, 20, 21, 22, 23, 24, 25, 26, 27, 28, 29, 30, 31, 32, 33, 34, 35, 36, 37, 38, 39, 40, 41, 42, 43, 44] (by decide +kernel) (by decide +kernel)
set_option maxRecDepth 20000 in
theorem gX4_point_X4_taken : GoodIn wsX4_point (wsV RX4 73 RX4 yX4_taken wsX4_taken) := goodIn_app (goodIn_of _ (by decide +kernel)) ggX4_point_X4_taken
set_option maxRecDepth 20000 in
theorem ggX4_point_X4_goes : GoodIn wsX4_point wsX4_goes := goodIn_r _ [16, 17, 18, 19, 20, 21, 22, 23, 24, 25, 26, 27, 28, 29, 30, 31, 32, 33, 34, 35, 36, 37, 38, 39, 40, 41, 42, 43, 44] (by decide +kernel) (by decide +kernel)
set_option maxRecDepth 20000 in
theorem gX4_point_X4_goes : GoodIn wsX4_point (wsV RX4 77 RX4 yX4_goes wsX4_goes) := goodIn_app (goodIn_of _ (by decide +kernel)) ggX4_point_X4_goes
theorem dX4_point_0 : decode cX4_point 0 = .ok (.iload_n 1, 1) := by decide +kernel
theorem dX4_point_1 : decode cX4_point 1 = .ok (.sipush 512, 3) := by decide +kernel
theorem dX4_point_4 : decode cX4_point 4 = .ok (.invokestatic 69, 3) := by decide +kernel
theorem dX4_point_7 : decode cX4_point 7 = .ok (.ifCond .eq 37, 3) := by decide +kernel
theorem dX4_point_10 : decode cX4_point 10 = .ok (.iload_n 2, 1) := by decide +kernel
theorem dX4_point_11 : decode cX4_point 11 = .ok (.sipush 512, 3) := by decide +kernel
theorem dX4_point_14 : decode cX4_point 14 = .ok (.invokestatic 69, 3) := by decide +kernel
theorem dX4_point_17 : decode cX4_point 17 = .ok (.ifCond .eq 27, 3) := by decide +kernel
theorem dX4_point_20 : decode cX4_point 20 = .ok (.iload_n 3, 1) := by decide +kernel
theorem dX4_point_21 : decode cX4_point 21 = .ok (.sipush 512, 3) := by decide +kernel
theorem dX4_point_24 : decode cX4_point 24 = .ok (.invokestatic 69, 3) := by decide +kernel
theorem dX4_point_27 : decode cX4_point 27 = .ok (.ifCond .eq 17, 3) := by decide +kernel
theorem dX4_point_30 : decode cX4_point 30 = .ok (.aload_n 0, 1) := by decide +kernel
theorem dX4_point_31 : decode cX4_point 31 = .ok (.iload_n 1, 1) := by decide +kernel
theorem dX4_point_32 : decode cX4_point 32 = .ok (.iload_n 2, 1) := by decide +kernel
theorem dX4_point_33 : decode cX4_point 33 = .ok (.iload_n 3, 1) := by decide +kernel
theorem dX4_point_34 : decode cX4_point 34 = .ok (.invokevirtual 73, 3) := by decide +kernel
theorem dX4_point_37 : decode cX4_point 37 = .ok (.ifCond .ne 7, 3) := by decide +kernel
theorem dX4_point_40 : decode cX4_point 40 = .ok (.iconst 1, 1) := by decide +kernel
theorem dX4_point_41 : decode cX4_point 41 = .ok (.goto 4, 3) := by decide +kernel
theorem dX4_point_44 : decode cX4_point 44 = .ok (.iconst 0, 1) := by decide +kernel
theorem dX4_point_45 : decode cX4_point 45 = .ok (.istore 4, 2) := by decide +kernel
theorem dX4_point_47 : decode cX4_point 47 = .ok (.aload_n 0, 1) := by decide +kernel
theorem dX4_point_48 : decode cX4_point 48 = .ok (.iload 4, 2) := by decide +kernel
theorem dX4_point_50 : decode cX4_point 50 = .ok (.aload_n 0, 1) := by decide +kernel
theorem dX4_point_51 : decode cX4_point 51 = .ok (.getfield 66, 3) := by decide +kernel
theorem dX4_point_54 : decode cX4_point 54 = .ok (.bipush 24, 2) := by decide +kernel
theorem dX4_point_56 : decode cX4_point 56 = .ok (.if_icmp .ge 7, 3) := by decide +kernel
theorem dX4_point_59 : decode cX4_point 59 = .ok (.iconst 1, 1) := by decide +kernel
theorem dX4_point_60 : decode cX4_point 60 = .ok (.goto 4, 3) := by decide +kernel
theorem dX4_point_63 : decode cX4_point 63 = .ok (.iconst 0, 1) := by decide +kernel
theorem dX4_point_64 : decode cX4_point 64 = .ok (.invokevirtual 77, 3) := by decide +kernel
theorem dX4_point_67 : decode cX4_point 67 = .ok (.ifCond .ne 5, 3) := by decide +kernel
theorem dX4_point_70 : decode cX4_point 70 = .ok (.iconst 0, 1) := by decide +kernel
theorem dX4_point_71 : decode cX4_point 71 = .ok (.ireturn, 1) := by decide +kernel
theorem dX4_point_72 : decode cX4_point 72 = .ok (.aload_n 0, 1) := by decide +kernel
theorem dX4_point_73 : decode cX4_point 73 = .ok (.getfield 7, 3) := by decide +kernel
theorem dX4_point_76 : decode cX4_point 76 = .ok (.aload_n 0, 1) := by decide +kernel
theorem dX4_point_77 : decode cX4_point 77 = .ok (.getfield 66, 3) := by decide +kernel
theorem dX4_point_80 : decode cX4_point 80 = .ok (.iload_n 1, 1) := by decide +kernel
theorem dX4_point_81 : decode cX4_point 81 = .ok (.iastore, 1) := by decide +kernel
theorem dX4_point_82 : decode cX4_point 82 = .ok (.aload_n 0, 1) := by decide +kernel
theorem dX4_point_83 : decode cX4_point 83 = .ok (.getfield 13, 3) := by decide +kernel
theorem dX4_point_86 : decode cX4_point 86 = .ok (.aload_n 0, 1) := by decide +kernel
theorem dX4_point_87 : decode cX4_point 87 = .ok (.getfield 66, 3) := by decide +kernel
theorem dX4_point_90 : decode cX4_point 90 = .ok (.iload_n 2, 1) := by decide +kernel
theorem dX4_point_91 : decode cX4_point 91 = .ok (.iastore, 1) := by decide +kernel
theorem dX4_point_92 : decode cX4_point 92 = .ok (.aload_n 0, 1) := by decide +kernel
theorem dX4_point_93 : decode cX4_point 93 = .ok (.getfield 16, 3) := by decide +kernel
theorem dX4_point_96 : decode cX4_point 96 = .ok (.aload_n 0, 1) := by decide +kernel
theorem dX4_point_97 : decode cX4_point 97 = .ok (.getfield 66, 3) := by decide +kernel
theorem dX4_point_100 : decode cX4_point 100 = .ok (.iload_n 3, 1) := by decide +kernel
theorem dX4_point_101 : decode cX4_point 101 = .ok (.iastore, 1) := by decide +kernel
theorem dX4_point_102 : decode cX4_point 102 = .ok (.aload_n 0, 1) := by decide +kernel
theorem dX4_point_103 : decode cX4_point 103 = .ok (.dup, 1) := by decide +kernel
theorem dX4_point_104 : decode cX4_point 104 = .ok (.getfield 66, 3) := by decide +kernel
theorem dX4_point_107 : decode cX4_point 107 = .ok (.iconst 1, 1) := by decide +kernel
theorem dX4_point_108 : decode cX4_point 108 = .ok (.iadd, 1) := by decide +kernel
theorem dX4_point_109 : decode cX4_point 109 = .ok (.putfield 66, 3) := by decide +kernel
theorem dX4_point_112 : decode cX4_point 112 = .ok (.aload_n 0, 1) := by decide +kernel
theorem dX4_point_113 : decode cX4_point 113 = .ok (.getfield 66, 3) := by decide +kernel
theorem dX4_point_116 : decode cX4_point 116 = .ok (.iconst 1, 1) := by decide +kernel
theorem dX4_point_117 : decode cX4_point 117 = .ok (.isub, 1) := by decide +kernel
theorem dX4_point_118 : decode cX4_point 118 = .ok (.ireturn, 1) := by decide +kernel
set_option maxRecDepth 20000 in
theorem ggX4_take_X4_goes : GoodIn wsX4_take wsX4_goes := goodIn_r _ [9, 10, 11, 12, 13, 14, 15, 16, 17, 18, 19, 20, 21, 22, 23, 24, 25, 26, 27, 28, 29, 30, 31, 32, 33, 34, 35, 36, 37] (by decide +kernel) (by decide +kernel)
set_option maxRecDepth 20000 in
theorem gX4_take_X4_goes : GoodIn wsX4_take (wsV RX4 77 RX4 yX4_goes wsX4_goes) := goodIn_app (goodIn_of _ (by decide +kernel)) ggX4_take_X4_goes
theorem dX4_take_0 : decode cX4_take 0 = .ok (.aload_n 0, 1) := by decide +kernel
theorem dX4_take_1 : decode cX4_take 1 = .ok (.iload_n 1, 1) := by decide +kernel
theorem dX4_take_2 : decode cX4_take 2 = .ok (.ifCond .lt 15, 3) := by decide +kernel
theorem dX4_take_5 : decode cX4_take 5 = .ok (.iload_n 1, 1) := by decide +kernel
theorem dX4_take_6 : decode cX4_take 6 = .ok (.aload_n 0, 1) := by decide +kernel
theorem dX4_take_7 : decode cX4_take 7 = .ok (.getfield 66, 3) := by decide +kernel
theorem dX4_take_10 : decode cX4_take 10 = .ok (.if_icmp .ge 7, 3) := by decide +kernel
theorem dX4_take_13 : decode cX4_take 13 = .ok (.iconst 1, 1) := by decide +kernel
theorem dX4_take_14 : decode cX4_take 14 = .ok (.goto 4, 3) := by decide +kernel
theorem dX4_take_17 : decode cX4_take 17 = .ok (.iconst 0, 1) := by decide +kernel
theorem dX4_take_18 : decode cX4_take 18 = .ok (.iconst 1, 1) := by decide +kernel
theorem dX4_take_19 : decode cX4_take 19 = .ok (.invokevirtual 77, 3) := by decide +kernel
theorem dX4_take_22 : decode cX4_take 22 = .ok (.ifCond .ne 5, 3) := by decide +kernel
theorem dX4_take_25 : decode cX4_take 25 = .ok (.iconst 0, 1) := by decide +kernel
theorem dX4_take_26 : decode cX4_take 26 = .ok (.ireturn, 1) := by decide +kernel
theorem dX4_take_27 : decode cX4_take 27 = .ok (.iload_n 1, 1) := by decide +kernel
theorem dX4_take_28 : decode cX4_take 28 = .ok (.istore_n 2, 1) := by decide +kernel
theorem dX4_take_29 : decode cX4_take 29 = .ok (.iload_n 2, 1) := by decide +kernel
theorem dX4_take_30 : decode cX4_take 30 = .ok (.iconst 1, 1) := by decide +kernel
theorem dX4_take_31 : decode cX4_take 31 = .ok (.iadd, 1) := by decide +kernel
theorem dX4_take_32 : decode cX4_take 32 = .ok (.aload_n 0, 1) := by decide +kernel
theorem dX4_take_33 : decode cX4_take 33 = .ok (.getfield 66, 3) := by decide +kernel
theorem dX4_take_36 : decode cX4_take 36 = .ok (.if_icmp .ge 51, 3) := by decide +kernel
theorem dX4_take_39 : decode cX4_take 39 = .ok (.aload_n 0, 1) := by decide +kernel
theorem dX4_take_40 : decode cX4_take 40 = .ok (.getfield 7, 3) := by decide +kernel
theorem dX4_take_43 : decode cX4_take 43 = .ok (.iload_n 2, 1) := by decide +kernel
theorem dX4_take_44 : decode cX4_take 44 = .ok (.aload_n 0, 1) := by decide +kernel
theorem dX4_take_45 : decode cX4_take 45 = .ok (.getfield 7, 3) := by decide +kernel
theorem dX4_take_48 : decode cX4_take 48 = .ok (.iload_n 2, 1) := by decide +kernel
theorem dX4_take_49 : decode cX4_take 49 = .ok (.iconst 1, 1) := by decide +kernel
theorem dX4_take_50 : decode cX4_take 50 = .ok (.iadd, 1) := by decide +kernel
theorem dX4_take_51 : decode cX4_take 51 = .ok (.iaload, 1) := by decide +kernel
theorem dX4_take_52 : decode cX4_take 52 = .ok (.iastore, 1) := by decide +kernel
theorem dX4_take_53 : decode cX4_take 53 = .ok (.aload_n 0, 1) := by decide +kernel
theorem dX4_take_54 : decode cX4_take 54 = .ok (.getfield 13, 3) := by decide +kernel
theorem dX4_take_57 : decode cX4_take 57 = .ok (.iload_n 2, 1) := by decide +kernel
theorem dX4_take_58 : decode cX4_take 58 = .ok (.aload_n 0, 1) := by decide +kernel
theorem dX4_take_59 : decode cX4_take 59 = .ok (.getfield 13, 3) := by decide +kernel
theorem dX4_take_62 : decode cX4_take 62 = .ok (.iload_n 2, 1) := by decide +kernel
theorem dX4_take_63 : decode cX4_take 63 = .ok (.iconst 1, 1) := by decide +kernel
theorem dX4_take_64 : decode cX4_take 64 = .ok (.iadd, 1) := by decide +kernel
theorem dX4_take_65 : decode cX4_take 65 = .ok (.iaload, 1) := by decide +kernel
theorem dX4_take_66 : decode cX4_take 66 = .ok (.iastore, 1) := by decide +kernel
theorem dX4_take_67 : decode cX4_take 67 = .ok (.aload_n 0, 1) := by decide +kernel
theorem dX4_take_68 : decode cX4_take 68 = .ok (.getfield 16, 3) := by decide +kernel
theorem dX4_take_71 : decode cX4_take 71 = .ok (.iload_n 2, 1) := by decide +kernel
theorem dX4_take_72 : decode cX4_take 72 = .ok (.aload_n 0, 1) := by decide +kernel
theorem dX4_take_73 : decode cX4_take 73 = .ok (.getfield 16, 3) := by decide +kernel
theorem dX4_take_76 : decode cX4_take 76 = .ok (.iload_n 2, 1) := by decide +kernel
theorem dX4_take_77 : decode cX4_take 77 = .ok (.iconst 1, 1) := by decide +kernel
theorem dX4_take_78 : decode cX4_take 78 = .ok (.iadd, 1) := by decide +kernel
theorem dX4_take_79 : decode cX4_take 79 = .ok (.iaload, 1) := by decide +kernel
theorem dX4_take_80 : decode cX4_take 80 = .ok (.iastore, 1) := by decide +kernel
theorem dX4_take_81 : decode cX4_take 81 = .ok (.iinc 2 1, 3) := by decide +kernel
theorem dX4_take_84 : decode cX4_take 84 = .ok (.goto (-55), 3) := by decide +kernel
theorem dX4_take_87 : decode cX4_take 87 = .ok (.aload_n 0, 1) := by decide +kernel
theorem dX4_take_88 : decode cX4_take 88 = .ok (.dup, 1) := by decide +kernel
theorem dX4_take_89 : decode cX4_take 89 = .ok (.getfield 66, 3) := by decide +kernel
theorem dX4_take_92 : decode cX4_take 92 = .ok (.iconst 1, 1) := by decide +kernel
theorem dX4_take_93 : decode cX4_take 93 = .ok (.isub, 1) := by decide +kernel
theorem dX4_take_94 : decode cX4_take 94 = .ok (.putfield 66, 3) := by decide +kernel
theorem dX4_take_97 : decode cX4_take 97 = .ok (.aload_n 0, 1) := by decide +kernel
theorem dX4_take_98 : decode cX4_take 98 = .ok (.getfield 66, 3) := by decide +kernel
theorem dX4_take_101 : decode cX4_take 101 = .ok (.ireturn, 1) := by decide +kernel
theorem dX4_across_0 : decode cX4_across 0 = .ok (.aload_n 0, 1) := by decide +kernel
theorem dX4_across_1 : decode cX4_across 1 = .ok (.getfield 19, 3) := by decide +kernel
theorem dX4_across_4 : decode cX4_across 4 = .ok (.iload_n 2, 1) := by decide +kernel
theorem dX4_across_5 : decode cX4_across 5 = .ok (.laload, 1) := by decide +kernel
theorem dX4_across_6 : decode cX4_across 6 = .ok (.aload_n 0, 1) := by decide +kernel
theorem dX4_across_7 : decode cX4_across 7 = .ok (.getfield 19, 3) := by decide +kernel
theorem dX4_across_10 : decode cX4_across 10 = .ok (.iload_n 1, 1) := by decide +kernel
theorem dX4_across_11 : decode cX4_across 11 = .ok (.laload, 1) := by decide +kernel
theorem dX4_across_12 : decode cX4_across 12 = .ok (.lsub, 1) := by decide +kernel
theorem dX4_across_13 : decode cX4_across 13 = .ok (.lstore 4, 2) := by decide +kernel
theorem dX4_across_15 : decode cX4_across 15 = .ok (.aload_n 0, 1) := by decide +kernel
theorem dX4_across_16 : decode cX4_across 16 = .ok (.getfield 23, 3) := by decide +kernel
theorem dX4_across_19 : decode cX4_across 19 = .ok (.iload_n 2, 1) := by decide +kernel
theorem dX4_across_20 : decode cX4_across 20 = .ok (.laload, 1) := by decide +kernel
theorem dX4_across_21 : decode cX4_across 21 = .ok (.aload_n 0, 1) := by decide +kernel
theorem dX4_across_22 : decode cX4_across 22 = .ok (.getfield 23, 3) := by decide +kernel
theorem dX4_across_25 : decode cX4_across 25 = .ok (.iload_n 1, 1) := by decide +kernel
theorem dX4_across_26 : decode cX4_across 26 = .ok (.laload, 1) := by decide +kernel
theorem dX4_across_27 : decode cX4_across 27 = .ok (.lsub, 1) := by decide +kernel
theorem dX4_across_28 : decode cX4_across 28 = .ok (.lstore 6, 2) := by decide +kernel
theorem dX4_across_30 : decode cX4_across 30 = .ok (.aload_n 0, 1) := by decide +kernel
theorem dX4_across_31 : decode cX4_across 31 = .ok (.getfield 26, 3) := by decide +kernel
theorem dX4_across_34 : decode cX4_across 34 = .ok (.iload_n 2, 1) := by decide +kernel
theorem dX4_across_35 : decode cX4_across 35 = .ok (.laload, 1) := by decide +kernel
theorem dX4_across_36 : decode cX4_across 36 = .ok (.aload_n 0, 1) := by decide +kernel
theorem dX4_across_37 : decode cX4_across 37 = .ok (.getfield 26, 3) := by decide +kernel
theorem dX4_across_40 : decode cX4_across 40 = .ok (.iload_n 1, 1) := by decide +kernel
theorem dX4_across_41 : decode cX4_across 41 = .ok (.laload, 1) := by decide +kernel
theorem dX4_across_42 : decode cX4_across 42 = .ok (.lsub, 1) := by decide +kernel
theorem dX4_across_43 : decode cX4_across 43 = .ok (.lstore 8, 2) := by decide +kernel
theorem dX4_across_45 : decode cX4_across 45 = .ok (.aload_n 0, 1) := by decide +kernel
theorem dX4_across_46 : decode cX4_across 46 = .ok (.getfield 19, 3) := by decide +kernel
theorem dX4_across_49 : decode cX4_across 49 = .ok (.iload_n 3, 1) := by decide +kernel
theorem dX4_across_50 : decode cX4_across 50 = .ok (.laload, 1) := by decide +kernel
theorem dX4_across_51 : decode cX4_across 51 = .ok (.aload_n 0, 1) := by decide +kernel
theorem dX4_across_52 : decode cX4_across 52 = .ok (.getfield 19, 3) := by decide +kernel
theorem dX4_across_55 : decode cX4_across 55 = .ok (.iload_n 1, 1) := by decide +kernel
theorem dX4_across_56 : decode cX4_across 56 = .ok (.laload, 1) := by decide +kernel
theorem dX4_across_57 : decode cX4_across 57 = .ok (.lsub, 1) := by decide +kernel
theorem dX4_across_58 : decode cX4_across 58 = .ok (.lstore 10, 2) := by decide +kernel
theorem dX4_across_60 : decode cX4_across 60 = .ok (.aload_n 0, 1) := by decide +kernel
theorem dX4_across_61 : decode cX4_across 61 = .ok (.getfield 23, 3) := by decide +kernel
theorem dX4_across_64 : decode cX4_across 64 = .ok (.iload_n 3, 1) := by decide +kernel
theorem dX4_across_65 : decode cX4_across 65 = .ok (.laload, 1) := by decide +kernel
theorem dX4_across_66 : decode cX4_across 66 = .ok (.aload_n 0, 1) := by decide +kernel
theorem dX4_across_67 : decode cX4_across 67 = .ok (.getfield 23, 3) := by decide +kernel
theorem dX4_across_70 : decode cX4_across 70 = .ok (.iload_n 1, 1) := by decide +kernel
theorem dX4_across_71 : decode cX4_across 71 = .ok (.laload, 1) := by decide +kernel
theorem dX4_across_72 : decode cX4_across 72 = .ok (.lsub, 1) := by decide +kernel
theorem dX4_across_73 : decode cX4_across 73 = .ok (.lstore 12, 2) := by decide +kernel
theorem dX4_across_75 : decode cX4_across 75 = .ok (.aload_n 0, 1) := by decide +kernel
theorem dX4_across_76 : decode cX4_across 76 = .ok (.getfield 26, 3) := by decide +kernel
theorem dX4_across_79 : decode cX4_across 79 = .ok (.iload_n 3, 1) := by decide +kernel
theorem dX4_across_80 : decode cX4_across 80 = .ok (.laload, 1) := by decide +kernel
theorem dX4_across_81 : decode cX4_across 81 = .ok (.aload_n 0, 1) := by decide +kernel
theorem dX4_across_82 : decode cX4_across 82 = .ok (.getfield 26, 3) := by decide +kernel
theorem dX4_across_85 : decode cX4_across 85 = .ok (.iload_n 1, 1) := by decide +kernel
theorem dX4_across_86 : decode cX4_across 86 = .ok (.laload, 1) := by decide +kernel
theorem dX4_across_87 : decode cX4_across 87 = .ok (.lsub, 1) := by decide +kernel
theorem dX4_across_88 : decode cX4_across 88 = .ok (.lstore 14, 2) := by decide +kernel
theorem dX4_across_90 : decode cX4_across 90 = .ok (.aload_n 0, 1) := by decide +kernel
theorem dX4_across_91 : decode cX4_across 91 = .ok (.lload 6, 2) := by decide +kernel
theorem dX4_across_93 : decode cX4_across 93 = .ok (.lload 14, 2) := by decide +kernel
theorem dX4_across_95 : decode cX4_across 95 = .ok (.lmul, 1) := by decide +kernel
theorem dX4_across_96 : decode cX4_across 96 = .ok (.lload 8, 2) := by decide +kernel
theorem dX4_across_98 : decode cX4_across 98 = .ok (.lload 12, 2) := by decide +kernel
theorem dX4_across_100 : decode cX4_across 100 = .ok (.lmul, 1) := by decide +kernel
theorem dX4_across_101 : decode cX4_across 101 = .ok (.lsub, 1) := by decide +kernel
theorem dX4_across_102 : decode cX4_across 102 = .ok (.putfield 81, 3) := by decide +kernel
theorem dX4_across_105 : decode cX4_across 105 = .ok (.aload_n 0, 1) := by decide +kernel
theorem dX4_across_106 : decode cX4_across 106 = .ok (.lload 8, 2) := by decide +kernel
theorem dX4_across_108 : decode cX4_across 108 = .ok (.lload 10, 2) := by decide +kernel
theorem dX4_across_110 : decode cX4_across 110 = .ok (.lmul, 1) := by decide +kernel
theorem dX4_across_111 : decode cX4_across 111 = .ok (.lload 4, 2) := by decide +kernel
theorem dX4_across_113 : decode cX4_across 113 = .ok (.lload 14, 2) := by decide +kernel
theorem dX4_across_115 : decode cX4_across 115 = .ok (.lmul, 1) := by decide +kernel
theorem dX4_across_116 : decode cX4_across 116 = .ok (.lsub, 1) := by decide +kernel
theorem dX4_across_117 : decode cX4_across 117 = .ok (.putfield 85, 3) := by decide +kernel
theorem dX4_across_120 : decode cX4_across 120 = .ok (.aload_n 0, 1) := by decide +kernel
theorem dX4_across_121 : decode cX4_across 121 = .ok (.lload 4, 2) := by decide +kernel
theorem dX4_across_123 : decode cX4_across 123 = .ok (.lload 12, 2) := by decide +kernel
theorem dX4_across_125 : decode cX4_across 125 = .ok (.lmul, 1) := by decide +kernel
theorem dX4_across_126 : decode cX4_across 126 = .ok (.lload 6, 2) := by decide +kernel
theorem dX4_across_128 : decode cX4_across 128 = .ok (.lload 10, 2) := by decide +kernel
theorem dX4_across_130 : decode cX4_across 130 = .ok (.lmul, 1) := by decide +kernel
theorem dX4_across_131 : decode cX4_across 131 = .ok (.lsub, 1) := by decide +kernel
theorem dX4_across_132 : decode cX4_across 132 = .ok (.putfield 88, 3) := by decide +kernel
theorem dX4_across_135 : decode cX4_across 135 = .ok (.return_, 1) := by decide +kernel
theorem dX4_above_0 : decode cX4_above 0 = .ok (.aload_n 0, 1) := by decide +kernel
theorem dX4_above_1 : decode cX4_above 1 = .ok (.getfield 81, 3) := by decide +kernel
theorem dX4_above_4 : decode cX4_above 4 = .ok (.aload_n 0, 1) := by decide +kernel
theorem dX4_above_5 : decode cX4_above 5 = .ok (.getfield 19, 3) := by decide +kernel
theorem dX4_above_8 : decode cX4_above 8 = .ok (.iload_n 2, 1) := by decide +kernel
theorem dX4_above_9 : decode cX4_above 9 = .ok (.laload, 1) := by decide +kernel
theorem dX4_above_10 : decode cX4_above 10 = .ok (.aload_n 0, 1) := by decide +kernel
theorem dX4_above_11 : decode cX4_above 11 = .ok (.getfield 19, 3) := by decide +kernel
theorem dX4_above_14 : decode cX4_above 14 = .ok (.iload_n 1, 1) := by decide +kernel
theorem dX4_above_15 : decode cX4_above 15 = .ok (.laload, 1) := by decide +kernel
theorem dX4_above_16 : decode cX4_above 16 = .ok (.lsub, 1) := by decide +kernel
theorem dX4_above_17 : decode cX4_above 17 = .ok (.lmul, 1) := by decide +kernel
theorem dX4_above_18 : decode cX4_above 18 = .ok (.aload_n 0, 1) := by decide +kernel
theorem dX4_above_19 : decode cX4_above 19 = .ok (.getfield 85, 3) := by decide +kernel
theorem dX4_above_22 : decode cX4_above 22 = .ok (.aload_n 0, 1) := by decide +kernel
theorem dX4_above_23 : decode cX4_above 23 = .ok (.getfield 23, 3) := by decide +kernel
theorem dX4_above_26 : decode cX4_above 26 = .ok (.iload_n 2, 1) := by decide +kernel
theorem dX4_above_27 : decode cX4_above 27 = .ok (.laload, 1) := by decide +kernel
theorem dX4_above_28 : decode cX4_above 28 = .ok (.aload_n 0, 1) := by decide +kernel
theorem dX4_above_29 : decode cX4_above 29 = .ok (.getfield 23, 3) := by decide +kernel
theorem dX4_above_32 : decode cX4_above 32 = .ok (.iload_n 1, 1) := by decide +kernel
theorem dX4_above_33 : decode cX4_above 33 = .ok (.laload, 1) := by decide +kernel
theorem dX4_above_34 : decode cX4_above 34 = .ok (.lsub, 1) := by decide +kernel
theorem dX4_above_35 : decode cX4_above 35 = .ok (.lmul, 1) := by decide +kernel
theorem dX4_above_36 : decode cX4_above 36 = .ok (.ladd, 1) := by decide +kernel
theorem dX4_above_37 : decode cX4_above 37 = .ok (.aload_n 0, 1) := by decide +kernel
theorem dX4_above_38 : decode cX4_above 38 = .ok (.getfield 88, 3) := by decide +kernel
theorem dX4_above_41 : decode cX4_above 41 = .ok (.aload_n 0, 1) := by decide +kernel
theorem dX4_above_42 : decode cX4_above 42 = .ok (.getfield 26, 3) := by decide +kernel
theorem dX4_above_45 : decode cX4_above 45 = .ok (.iload_n 2, 1) := by decide +kernel
theorem dX4_above_46 : decode cX4_above 46 = .ok (.laload, 1) := by decide +kernel
theorem dX4_above_47 : decode cX4_above 47 = .ok (.aload_n 0, 1) := by decide +kernel
theorem dX4_above_48 : decode cX4_above 48 = .ok (.getfield 26, 3) := by decide +kernel
theorem dX4_above_51 : decode cX4_above 51 = .ok (.iload_n 1, 1) := by decide +kernel
theorem dX4_above_52 : decode cX4_above 52 = .ok (.laload, 1) := by decide +kernel
theorem dX4_above_53 : decode cX4_above 53 = .ok (.lsub, 1) := by decide +kernel
theorem dX4_above_54 : decode cX4_above 54 = .ok (.lmul, 1) := by decide +kernel
theorem dX4_above_55 : decode cX4_above 55 = .ok (.ladd, 1) := by decide +kernel
theorem dX4_above_56 : decode cX4_above 56 = .ok (.lreturn, 1) := by decide +kernel
theorem dX4_common_0 : decode cX4_common 0 = .ok (.lload_n 0, 1) := by decide +kernel
theorem dX4_common_1 : decode cX4_common 1 = .ok (.lconst 0, 1) := by decide +kernel
theorem dX4_common_2 : decode cX4_common 2 = .ok (.lcmp, 1) := by decide +kernel
theorem dX4_common_3 : decode cX4_common 3 = .ok (.ifCond .ge 9, 3) := by decide +kernel
theorem dX4_common_6 : decode cX4_common 6 = .ok (.lconst 0, 1) := by decide +kernel
theorem dX4_common_7 : decode cX4_common 7 = .ok (.lload_n 0, 1) := by decide +kernel
theorem dX4_common_8 : decode cX4_common 8 = .ok (.lsub, 1) := by decide +kernel
theorem dX4_common_9 : decode cX4_common 9 = .ok (.goto 4, 3) := by decide +kernel
theorem dX4_common_12 : decode cX4_common 12 = .ok (.lload_n 0, 1) := by decide +kernel
theorem dX4_common_13 : decode cX4_common 13 = .ok (.lstore 4, 2) := by decide +kernel
theorem dX4_common_15 : decode cX4_common 15 = .ok (.lload_n 2, 1) := by decide +kernel
theorem dX4_common_16 : decode cX4_common 16 = .ok (.lconst 0, 1) := by decide +kernel
theorem dX4_common_17 : decode cX4_common 17 = .ok (.lcmp, 1) := by decide +kernel
theorem dX4_common_18 : decode cX4_common 18 = .ok (.ifCond .ge 9, 3) := by decide +kernel
theorem dX4_common_21 : decode cX4_common 21 = .ok (.lconst 0, 1) := by decide +kernel
theorem dX4_common_22 : decode cX4_common 22 = .ok (.lload_n 2, 1) := by decide +kernel
theorem dX4_common_23 : decode cX4_common 23 = .ok (.lsub, 1) := by decide +kernel
theorem dX4_common_24 : decode cX4_common 24 = .ok (.goto 4, 3) := by decide +kernel
theorem dX4_common_27 : decode cX4_common 27 = .ok (.lload_n 2, 1) := by decide +kernel
theorem dX4_common_28 : decode cX4_common 28 = .ok (.lstore 6, 2) := by decide +kernel
theorem dX4_common_30 : decode cX4_common 30 = .ok (.iconst 0, 1) := by decide +kernel
theorem dX4_common_31 : decode cX4_common 31 = .ok (.istore 8, 2) := by decide +kernel
theorem dX4_common_33 : decode cX4_common 33 = .ok (.iload 8, 2) := by decide +kernel
theorem dX4_common_35 : decode cX4_common 35 = .ok (.bipush 64, 2) := by decide +kernel
theorem dX4_common_37 : decode cX4_common 37 = .ok (.if_icmp .ge 31, 3) := by decide +kernel
theorem dX4_common_40 : decode cX4_common 40 = .ok (.lload 6, 2) := by decide +kernel
theorem dX4_common_42 : decode cX4_common 42 = .ok (.lconst 0, 1) := by decide +kernel
theorem dX4_common_43 : decode cX4_common 43 = .ok (.lcmp, 1) := by decide +kernel
theorem dX4_common_44 : decode cX4_common 44 = .ok (.ifCond .le 24, 3) := by decide +kernel
theorem dX4_common_47 : decode cX4_common 47 = .ok (.lload 4, 2) := by decide +kernel
theorem dX4_common_49 : decode cX4_common 49 = .ok (.lload 6, 2) := by decide +kernel
theorem dX4_common_51 : decode cX4_common 51 = .ok (.lrem, 1) := by decide +kernel
theorem dX4_common_52 : decode cX4_common 52 = .ok (.lstore 9, 2) := by decide +kernel
theorem dX4_common_54 : decode cX4_common 54 = .ok (.lload 6, 2) := by decide +kernel
theorem dX4_common_56 : decode cX4_common 56 = .ok (.lstore 4, 2) := by decide +kernel
theorem dX4_common_58 : decode cX4_common 58 = .ok (.lload 9, 2) := by decide +kernel
theorem dX4_common_60 : decode cX4_common 60 = .ok (.lstore 6, 2) := by decide +kernel
theorem dX4_common_62 : decode cX4_common 62 = .ok (.iinc 8 1, 3) := by decide +kernel
theorem dX4_common_65 : decode cX4_common 65 = .ok (.goto (-32), 3) := by decide +kernel
theorem dX4_common_68 : decode cX4_common 68 = .ok (.lload 4, 2) := by decide +kernel
theorem dX4_common_70 : decode cX4_common 70 = .ok (.lreturn, 1) := by decide +kernel
theorem dX4_knownFace_0 : decode cX4_knownFace 0 = .ok (.iconst 0, 1) := by decide +kernel
theorem dX4_knownFace_1 : decode cX4_knownFace 1 = .ok (.istore_n 3, 1) := by decide +kernel
theorem dX4_knownFace_2 : decode cX4_knownFace 2 = .ok (.iconst 0, 1) := by decide +kernel
theorem dX4_knownFace_3 : decode cX4_knownFace 3 = .ok (.istore 4, 2) := by decide +kernel
theorem dX4_knownFace_5 : decode cX4_knownFace 5 = .ok (.iload 4, 2) := by decide +kernel
theorem dX4_knownFace_7 : decode cX4_knownFace 7 = .ok (.aload_n 0, 1) := by decide +kernel
theorem dX4_knownFace_8 : decode cX4_knownFace 8 = .ok (.getfield 91, 3) := by decide +kernel
theorem dX4_knownFace_11 : decode cX4_knownFace 11 = .ok (.if_icmp .ge 76, 3) := by decide +kernel
theorem dX4_knownFace_14 : decode cX4_knownFace 14 = .ok (.iload_n 3, 1) := by decide +kernel
theorem dX4_knownFace_15 : decode cX4_knownFace 15 = .ok (.ifCond .ne 60, 3) := by decide +kernel
theorem dX4_knownFace_18 : decode cX4_knownFace 18 = .ok (.aload_n 0, 1) := by decide +kernel
theorem dX4_knownFace_19 : decode cX4_knownFace 19 = .ok (.getfield 29, 3) := by decide +kernel
theorem dX4_knownFace_22 : decode cX4_knownFace 22 = .ok (.iload 4, 2) := by decide +kernel
theorem dX4_knownFace_24 : decode cX4_knownFace 24 = .ok (.laload, 1) := by decide +kernel
theorem dX4_knownFace_25 : decode cX4_knownFace 25 = .ok (.aload_n 0, 1) := by decide +kernel
theorem dX4_knownFace_26 : decode cX4_knownFace 26 = .ok (.getfield 81, 3) := by decide +kernel
theorem dX4_knownFace_29 : decode cX4_knownFace 29 = .ok (.lcmp, 1) := by decide +kernel
theorem dX4_knownFace_30 : decode cX4_knownFace 30 = .ok (.ifCond .ne 49, 3) := by decide +kernel
theorem dX4_knownFace_33 : decode cX4_knownFace 33 = .ok (.aload_n 0, 1) := by decide +kernel
theorem dX4_knownFace_34 : decode cX4_knownFace 34 = .ok (.getfield 32, 3) := by decide +kernel
theorem dX4_knownFace_37 : decode cX4_knownFace 37 = .ok (.iload 4, 2) := by decide +kernel
theorem dX4_knownFace_39 : decode cX4_knownFace 39 = .ok (.laload, 1) := by decide +kernel
theorem dX4_knownFace_40 : decode cX4_knownFace 40 = .ok (.aload_n 0, 1) := by decide +kernel
theorem dX4_knownFace_41 : decode cX4_knownFace 41 = .ok (.getfield 85, 3) := by decide +kernel
theorem dX4_knownFace_44 : decode cX4_knownFace 44 = .ok (.lcmp, 1) := by decide +kernel
theorem dX4_knownFace_45 : decode cX4_knownFace 45 = .ok (.ifCond .ne 34, 3) := by decide +kernel
theorem dX4_knownFace_48 : decode cX4_knownFace 48 = .ok (.aload_n 0, 1) := by decide +kernel
theorem dX4_knownFace_49 : decode cX4_knownFace 49 = .ok (.getfield 35, 3) := by decide +kernel
theorem dX4_knownFace_52 : decode cX4_knownFace 52 = .ok (.iload 4, 2) := by decide +kernel
theorem dX4_knownFace_54 : decode cX4_knownFace 54 = .ok (.laload, 1) := by decide +kernel
theorem dX4_knownFace_55 : decode cX4_knownFace 55 = .ok (.aload_n 0, 1) := by decide +kernel
theorem dX4_knownFace_56 : decode cX4_knownFace 56 = .ok (.getfield 88, 3) := by decide +kernel
theorem dX4_knownFace_59 : decode cX4_knownFace 59 = .ok (.lcmp, 1) := by decide +kernel
theorem dX4_knownFace_60 : decode cX4_knownFace 60 = .ok (.ifCond .ne 19, 3) := by decide +kernel
theorem dX4_knownFace_63 : decode cX4_knownFace 63 = .ok (.aload_n 0, 1) := by decide +kernel
theorem dX4_knownFace_64 : decode cX4_knownFace 64 = .ok (.getfield 38, 3) := by decide +kernel
theorem dX4_knownFace_67 : decode cX4_knownFace 67 = .ok (.iload 4, 2) := by decide +kernel
theorem dX4_knownFace_69 : decode cX4_knownFace 69 = .ok (.laload, 1) := by decide +kernel
theorem dX4_knownFace_70 : decode cX4_knownFace 70 = .ok (.lload_n 1, 1) := by decide +kernel
theorem dX4_knownFace_71 : decode cX4_knownFace 71 = .ok (.lcmp, 1) := by decide +kernel
theorem dX4_knownFace_72 : decode cX4_knownFace 72 = .ok (.ifCond .ne 7, 3) := by decide +kernel
theorem dX4_knownFace_75 : decode cX4_knownFace 75 = .ok (.iconst 1, 1) := by decide +kernel
theorem dX4_knownFace_76 : decode cX4_knownFace 76 = .ok (.goto 4, 3) := by decide +kernel
theorem dX4_knownFace_79 : decode cX4_knownFace 79 = .ok (.iconst 0, 1) := by decide +kernel
theorem dX4_knownFace_80 : decode cX4_knownFace 80 = .ok (.istore_n 3, 1) := by decide +kernel
theorem dX4_knownFace_81 : decode cX4_knownFace 81 = .ok (.iinc 4 1, 3) := by decide +kernel
theorem dX4_knownFace_84 : decode cX4_knownFace 84 = .ok (.goto (-79), 3) := by decide +kernel
theorem dX4_knownFace_87 : decode cX4_knownFace 87 = .ok (.iload_n 3, 1) := by decide +kernel
theorem dX4_knownFace_88 : decode cX4_knownFace 88 = .ok (.ireturn, 1) := by decide +kernel
set_option maxRecDepth 20000 in
theorem ggX4_tries_X4_across : GoodIn wsX4_tries wsX4_across := goodIn_r _ [13, 6, 7, 8, 1, 2, 3, 34, 35, 36, 37, 38, 39, 40, 41, 42, 43, 44, 45, 46, 47, 48, 49, 50, 51, 52, 53, 54, 55, 56, 57, 58, 59, 60] (by decide +kernel) (by decide +kernel)
set_option maxRecDepth 20000 in
theorem gX4_tries_X4_across : GoodIn wsX4_tries (wsV RX4 94 RX4 yX4_across wsX4_across) := goodIn_app (goodIn_of _ (by decide +kernel)) ggX4_tries_X4_across
set_option maxRecDepth 20000 in
theorem ggX4_tries_X4_above : GoodIn wsX4_tries wsX4_above := goodIn_r _ [17, 1, 6, 2, 7, 3, 8, 34, 35, 36, 37, 38, 39, 40, 41, 42, 43, 44, 45, 46, 47, 48, 49, 50, 51, 52, 53, 54, 55, 56, 57, 58, 59, 60] (by decide +kernel) (by decide +kernel)
set_option maxRecDepth 20000 in
theorem gX4_tries_X4_above : GoodIn wsX4_tries (wsV RX4 101 RX4 yX4_above wsX4_above) := goodIn_app (goodIn_of _ (by decide +kernel)) ggX4_tries_X4_above
set_option maxRecDepth 20000 in
theorem ggX4_tries_X4_common : GoodIn wsX4_tries wsX4_common := goodIn_r _ [20] (by decide +kernel) (by decide +kernel)
set_option maxRecDepth 20000 in
theorem gX4_tries_X4_common : GoodIn wsX4_tries (va_wsS RX4 107 yX4_common wsX4_common) := goodIn_app (goodIn_of _ (by decide +kernel)) ggX4_tries_X4_common
set_option maxRecDepth 20000 in
theorem ggX4_tries_X4_addFace : GoodIn wsX4_tries wsX4_addFace := goodIn_r _ [24, 25, 26, 1, 27, 2, 28, 3, 29, 30, 31, 32, 12, 33, 34, 35, 36, 37, 38, 39, 40, 41, 42, 43, 44, 45, 46, 47, 48, 49, 50, 51, 52, 53, 54, 55, 56, 57, 58, 59, 60] (by decide +kernel) (by decide +kernel)
set_option maxRecDepth 20000 in
theorem gX4_tries_X4_addFace : GoodIn wsX4_tries (wsV RX4 111 RX4 yX4_addFace wsX4_addFace) := goodIn_app (goodIn_of _ (by decide +kernel)) ggX4_tries_X4_addFace
theorem dX4_tries_0 : decode cX4_tries 0 = .ok (.aload_n 0, 1) := by decide +kernel
theorem dX4_tries_1 : decode cX4_tries 1 = .ok (.iload_n 1, 1) := by decide +kernel
theorem dX4_tries_2 : decode cX4_tries 2 = .ok (.iload_n 2, 1) := by decide +kernel
theorem dX4_tries_3 : decode cX4_tries 3 = .ok (.iload_n 3, 1) := by decide +kernel
theorem dX4_tries_4 : decode cX4_tries 4 = .ok (.invokevirtual 94, 3) := by decide +kernel
theorem dX4_tries_7 : decode cX4_tries 7 = .ok (.aload_n 0, 1) := by decide +kernel
theorem dX4_tries_8 : decode cX4_tries 8 = .ok (.getfield 81, 3) := by decide +kernel
theorem dX4_tries_11 : decode cX4_tries 11 = .ok (.lconst 0, 1) := by decide +kernel
theorem dX4_tries_12 : decode cX4_tries 12 = .ok (.lcmp, 1) := by decide +kernel
theorem dX4_tries_13 : decode cX4_tries 13 = .ok (.ifCond .ne 23, 3) := by decide +kernel
theorem dX4_tries_16 : decode cX4_tries 16 = .ok (.aload_n 0, 1) := by decide +kernel
theorem dX4_tries_17 : decode cX4_tries 17 = .ok (.getfield 85, 3) := by decide +kernel
theorem dX4_tries_20 : decode cX4_tries 20 = .ok (.lconst 0, 1) := by decide +kernel
theorem dX4_tries_21 : decode cX4_tries 21 = .ok (.lcmp, 1) := by decide +kernel
theorem dX4_tries_22 : decode cX4_tries 22 = .ok (.ifCond .ne 14, 3) := by decide +kernel
theorem dX4_tries_25 : decode cX4_tries 25 = .ok (.aload_n 0, 1) := by decide +kernel
theorem dX4_tries_26 : decode cX4_tries 26 = .ok (.getfield 88, 3) := by decide +kernel
theorem dX4_tries_29 : decode cX4_tries 29 = .ok (.lconst 0, 1) := by decide +kernel
theorem dX4_tries_30 : decode cX4_tries 30 = .ok (.lcmp, 1) := by decide +kernel
theorem dX4_tries_31 : decode cX4_tries 31 = .ok (.ifCond .ne 5, 3) := by decide +kernel
theorem dX4_tries_34 : decode cX4_tries 34 = .ok (.iconst 0, 1) := by decide +kernel
theorem dX4_tries_35 : decode cX4_tries 35 = .ok (.ireturn, 1) := by decide +kernel
theorem dX4_tries_36 : decode cX4_tries 36 = .ok (.iconst 0, 1) := by decide +kernel
theorem dX4_tries_37 : decode cX4_tries 37 = .ok (.istore 4, 2) := by decide +kernel
theorem dX4_tries_39 : decode cX4_tries 39 = .ok (.iconst 0, 1) := by decide +kernel
theorem dX4_tries_40 : decode cX4_tries 40 = .ok (.istore 5, 2) := by decide +kernel
theorem dX4_tries_42 : decode cX4_tries 42 = .ok (.iconst 0, 1) := by decide +kernel
theorem dX4_tries_43 : decode cX4_tries 43 = .ok (.istore 6, 2) := by decide +kernel
theorem dX4_tries_45 : decode cX4_tries 45 = .ok (.iload 6, 2) := by decide +kernel
theorem dX4_tries_47 : decode cX4_tries 47 = .ok (.aload_n 0, 1) := by decide +kernel
theorem dX4_tries_48 : decode cX4_tries 48 = .ok (.getfield 98, 3) := by decide +kernel
theorem dX4_tries_51 : decode cX4_tries 51 = .ok (.if_icmp .ge 54, 3) := by decide +kernel
theorem dX4_tries_54 : decode cX4_tries 54 = .ok (.aload_n 0, 1) := by decide +kernel
theorem dX4_tries_55 : decode cX4_tries 55 = .ok (.iload_n 1, 1) := by decide +kernel
theorem dX4_tries_56 : decode cX4_tries 56 = .ok (.iload 6, 2) := by decide +kernel
theorem dX4_tries_58 : decode cX4_tries 58 = .ok (.invokevirtual 101, 3) := by decide +kernel
theorem dX4_tries_61 : decode cX4_tries 61 = .ok (.lstore 7, 2) := by decide +kernel
theorem dX4_tries_63 : decode cX4_tries 63 = .ok (.lload 7, 2) := by decide +kernel
theorem dX4_tries_65 : decode cX4_tries 65 = .ok (.lconst 0, 1) := by decide +kernel
theorem dX4_tries_66 : decode cX4_tries 66 = .ok (.lcmp, 1) := by decide +kernel
theorem dX4_tries_67 : decode cX4_tries 67 = .ok (.ifCond .le 10, 3) := by decide +kernel
theorem dX4_tries_70 : decode cX4_tries 70 = .ok (.iload 4, 2) := by decide +kernel
theorem dX4_tries_72 : decode cX4_tries 72 = .ok (.iconst 1, 1) := by decide +kernel
theorem dX4_tries_73 : decode cX4_tries 73 = .ok (.iadd, 1) := by decide +kernel
theorem dX4_tries_74 : decode cX4_tries 74 = .ok (.goto 5, 3) := by decide +kernel
theorem dX4_tries_77 : decode cX4_tries 77 = .ok (.iload 4, 2) := by decide +kernel
theorem dX4_tries_79 : decode cX4_tries 79 = .ok (.istore 4, 2) := by decide +kernel
theorem dX4_tries_81 : decode cX4_tries 81 = .ok (.lload 7, 2) := by decide +kernel
theorem dX4_tries_83 : decode cX4_tries 83 = .ok (.lconst 0, 1) := by decide +kernel
theorem dX4_tries_84 : decode cX4_tries 84 = .ok (.lcmp, 1) := by decide +kernel
theorem dX4_tries_85 : decode cX4_tries 85 = .ok (.ifCond .ge 10, 3) := by decide +kernel
theorem dX4_tries_88 : decode cX4_tries 88 = .ok (.iload 5, 2) := by decide +kernel
theorem dX4_tries_90 : decode cX4_tries 90 = .ok (.iconst 1, 1) := by decide +kernel
theorem dX4_tries_91 : decode cX4_tries 91 = .ok (.iadd, 1) := by decide +kernel
theorem dX4_tries_92 : decode cX4_tries 92 = .ok (.goto 5, 3) := by decide +kernel
theorem dX4_tries_95 : decode cX4_tries 95 = .ok (.iload 5, 2) := by decide +kernel
theorem dX4_tries_97 : decode cX4_tries 97 = .ok (.istore 5, 2) := by decide +kernel
theorem dX4_tries_99 : decode cX4_tries 99 = .ok (.iinc 6 1, 3) := by decide +kernel
theorem dX4_tries_102 : decode cX4_tries 102 = .ok (.goto (-57), 3) := by decide +kernel
theorem dX4_tries_105 : decode cX4_tries 105 = .ok (.iload 4, 2) := by decide +kernel
theorem dX4_tries_107 : decode cX4_tries 107 = .ok (.ifCond .ne 10, 3) := by decide +kernel
theorem dX4_tries_110 : decode cX4_tries 110 = .ok (.iload 5, 2) := by decide +kernel
theorem dX4_tries_112 : decode cX4_tries 112 = .ok (.ifCond .ne 5, 3) := by decide +kernel
theorem dX4_tries_115 : decode cX4_tries 115 = .ok (.iconst 1, 1) := by decide +kernel
theorem dX4_tries_116 : decode cX4_tries 116 = .ok (.ireturn, 1) := by decide +kernel
theorem dX4_tries_117 : decode cX4_tries 117 = .ok (.iload 4, 2) := by decide +kernel
theorem dX4_tries_119 : decode cX4_tries 119 = .ok (.ifCond .eq 8, 3) := by decide +kernel
theorem dX4_tries_122 : decode cX4_tries 122 = .ok (.iload 5, 2) := by decide +kernel
theorem dX4_tries_124 : decode cX4_tries 124 = .ok (.ifCond .ne 112, 3) := by decide +kernel
theorem dX4_tries_127 : decode cX4_tries 127 = .ok (.iload 4, 2) := by decide +kernel
theorem dX4_tries_129 : decode cX4_tries 129 = .ok (.ifCond .ne 7, 3) := by decide +kernel
theorem dX4_tries_132 : decode cX4_tries 132 = .ok (.lconst 1, 1) := by decide +kernel
theorem dX4_tries_133 : decode cX4_tries 133 = .ok (.goto 6, 3) := by decide +kernel
theorem dX4_tries_136 : decode cX4_tries 136 = .ok (.ldc2_w 105, 3) := by decide +kernel
theorem dX4_tries_139 : decode cX4_tries 139 = .ok (.lstore 6, 2) := by decide +kernel
theorem dX4_tries_141 : decode cX4_tries 141 = .ok (.lload 6, 2) := by decide +kernel
theorem dX4_tries_143 : decode cX4_tries 143 = .ok (.aload_n 0, 1) := by decide +kernel
theorem dX4_tries_144 : decode cX4_tries 144 = .ok (.getfield 81, 3) := by decide +kernel
theorem dX4_tries_147 : decode cX4_tries 147 = .ok (.aload_n 0, 1) := by decide +kernel
theorem dX4_tries_148 : decode cX4_tries 148 = .ok (.getfield 85, 3) := by decide +kernel
theorem dX4_tries_151 : decode cX4_tries 151 = .ok (.invokestatic 107, 3) := by decide +kernel
theorem dX4_tries_154 : decode cX4_tries 154 = .ok (.aload_n 0, 1) := by decide +kernel
theorem dX4_tries_155 : decode cX4_tries 155 = .ok (.getfield 88, 3) := by decide +kernel
theorem dX4_tries_158 : decode cX4_tries 158 = .ok (.invokestatic 107, 3) := by decide +kernel
theorem dX4_tries_161 : decode cX4_tries 161 = .ok (.lmul, 1) := by decide +kernel
theorem dX4_tries_162 : decode cX4_tries 162 = .ok (.lstore 8, 2) := by decide +kernel
theorem dX4_tries_164 : decode cX4_tries 164 = .ok (.aload_n 0, 1) := by decide +kernel
theorem dX4_tries_165 : decode cX4_tries 165 = .ok (.aload_n 0, 1) := by decide +kernel
theorem dX4_tries_166 : decode cX4_tries 166 = .ok (.getfield 81, 3) := by decide +kernel
theorem dX4_tries_169 : decode cX4_tries 169 = .ok (.lload 8, 2) := by decide +kernel
theorem dX4_tries_171 : decode cX4_tries 171 = .ok (.ldiv, 1) := by decide +kernel
theorem dX4_tries_172 : decode cX4_tries 172 = .ok (.putfield 81, 3) := by decide +kernel
theorem dX4_tries_175 : decode cX4_tries 175 = .ok (.aload_n 0, 1) := by decide +kernel
theorem dX4_tries_176 : decode cX4_tries 176 = .ok (.aload_n 0, 1) := by decide +kernel
theorem dX4_tries_177 : decode cX4_tries 177 = .ok (.getfield 85, 3) := by decide +kernel
theorem dX4_tries_180 : decode cX4_tries 180 = .ok (.lload 8, 2) := by decide +kernel
theorem dX4_tries_182 : decode cX4_tries 182 = .ok (.ldiv, 1) := by decide +kernel
theorem dX4_tries_183 : decode cX4_tries 183 = .ok (.putfield 85, 3) := by decide +kernel
theorem dX4_tries_186 : decode cX4_tries 186 = .ok (.aload_n 0, 1) := by decide +kernel
theorem dX4_tries_187 : decode cX4_tries 187 = .ok (.aload_n 0, 1) := by decide +kernel
theorem dX4_tries_188 : decode cX4_tries 188 = .ok (.getfield 88, 3) := by decide +kernel
theorem dX4_tries_191 : decode cX4_tries 191 = .ok (.lload 8, 2) := by decide +kernel
theorem dX4_tries_193 : decode cX4_tries 193 = .ok (.ldiv, 1) := by decide +kernel
theorem dX4_tries_194 : decode cX4_tries 194 = .ok (.putfield 88, 3) := by decide +kernel
theorem dX4_tries_197 : decode cX4_tries 197 = .ok (.aload_n 0, 1) := by decide +kernel
theorem dX4_tries_198 : decode cX4_tries 198 = .ok (.aload_n 0, 1) := by decide +kernel
theorem dX4_tries_199 : decode cX4_tries 199 = .ok (.getfield 81, 3) := by decide +kernel
theorem dX4_tries_202 : decode cX4_tries 202 = .ok (.aload_n 0, 1) := by decide +kernel
theorem dX4_tries_203 : decode cX4_tries 203 = .ok (.getfield 19, 3) := by decide +kernel
theorem dX4_tries_206 : decode cX4_tries 206 = .ok (.iload_n 1, 1) := by decide +kernel
theorem dX4_tries_207 : decode cX4_tries 207 = .ok (.laload, 1) := by decide +kernel
theorem dX4_tries_208 : decode cX4_tries 208 = .ok (.lmul, 1) := by decide +kernel
theorem dX4_tries_209 : decode cX4_tries 209 = .ok (.aload_n 0, 1) := by decide +kernel
theorem dX4_tries_210 : decode cX4_tries 210 = .ok (.getfield 85, 3) := by decide +kernel
theorem dX4_tries_213 : decode cX4_tries 213 = .ok (.aload_n 0, 1) := by decide +kernel
theorem dX4_tries_214 : decode cX4_tries 214 = .ok (.getfield 23, 3) := by decide +kernel
theorem dX4_tries_217 : decode cX4_tries 217 = .ok (.iload_n 1, 1) := by decide +kernel
theorem dX4_tries_218 : decode cX4_tries 218 = .ok (.laload, 1) := by decide +kernel
theorem dX4_tries_219 : decode cX4_tries 219 = .ok (.lmul, 1) := by decide +kernel
theorem dX4_tries_220 : decode cX4_tries 220 = .ok (.ladd, 1) := by decide +kernel
theorem dX4_tries_221 : decode cX4_tries 221 = .ok (.aload_n 0, 1) := by decide +kernel
theorem dX4_tries_222 : decode cX4_tries 222 = .ok (.getfield 88, 3) := by decide +kernel
theorem dX4_tries_225 : decode cX4_tries 225 = .ok (.aload_n 0, 1) := by decide +kernel
theorem dX4_tries_226 : decode cX4_tries 226 = .ok (.getfield 26, 3) := by decide +kernel
end
section
theorem dX4_tries_229 : decode cX4_tries 229 = .ok (.iload_n 1, 1) := by decide +kernel
theorem dX4_tries_230 : decode cX4_tries 230 = .ok (.laload, 1) := by decide +kernel
theorem dX4_tries_231 : decode cX4_tries 231 = .ok (.lmul, 1) := by decide +kernel
theorem dX4_tries_232 : decode cX4_tries 232 = .ok (.ladd, 1) := by decide +kernel
theorem dX4_tries_233 : decode cX4_tries 233 = .ok (.invokevirtual 111, 3) := by decide +kernel
theorem dX4_tries_236 : decode cX4_tries 236 = .ok (.iconst 0, 1) := by decide +kernel
theorem dX4_tries_237 : decode cX4_tries 237 = .ok (.ireturn, 1) := by decide +kernel
set_option maxRecDepth 20000 in
theorem ggX4_addFace_X4_knownFace : GoodIn wsX4_addFace wsX4_knownFace := goodIn_r _ [13, 2, 1, 3, 4, 5, 6, 7, 8, 14, 15, 16, 17, 18, 19, 20, 21, 22, 23, 24, 25, 26, 27, 28, 29, 30, 31, 32, 33, 34, 35, 36, 37, 38, 39, 40] (by decide +kernel) (by decide +kernel)
set_option maxRecDepth 20000 in
theorem gX4_addFace_X4_knownFace : GoodIn wsX4_addFace (wsV RX4 115 RX4 yX4_knownFace wsX4_knownFace) := goodIn_app (goodIn_of _ (by decide +kernel)) ggX4_addFace_X4_knownFace
theorem dX4_addFace_0 : decode cX4_addFace 0 = .ok (.aload_n 0, 1) := by decide +kernel
theorem dX4_addFace_1 : decode cX4_addFace 1 = .ok (.lload_n 1, 1) := by decide +kernel
theorem dX4_addFace_2 : decode cX4_addFace 2 = .ok (.invokevirtual 115, 3) := by decide +kernel
theorem dX4_addFace_5 : decode cX4_addFace 5 = .ok (.ifCond .ne 62, 3) := by decide +kernel
theorem dX4_addFace_8 : decode cX4_addFace 8 = .ok (.aload_n 0, 1) := by decide +kernel
theorem dX4_addFace_9 : decode cX4_addFace 9 = .ok (.getfield 29, 3) := by decide +kernel
theorem dX4_addFace_12 : decode cX4_addFace 12 = .ok (.aload_n 0, 1) := by decide +kernel
theorem dX4_addFace_13 : decode cX4_addFace 13 = .ok (.getfield 91, 3) := by decide +kernel
theorem dX4_addFace_16 : decode cX4_addFace 16 = .ok (.aload_n 0, 1) := by decide +kernel
theorem dX4_addFace_17 : decode cX4_addFace 17 = .ok (.getfield 81, 3) := by decide +kernel
theorem dX4_addFace_20 : decode cX4_addFace 20 = .ok (.lastore, 1) := by decide +kernel
theorem dX4_addFace_21 : decode cX4_addFace 21 = .ok (.aload_n 0, 1) := by decide +kernel
theorem dX4_addFace_22 : decode cX4_addFace 22 = .ok (.getfield 32, 3) := by decide +kernel
theorem dX4_addFace_25 : decode cX4_addFace 25 = .ok (.aload_n 0, 1) := by decide +kernel
theorem dX4_addFace_26 : decode cX4_addFace 26 = .ok (.getfield 91, 3) := by decide +kernel
theorem dX4_addFace_29 : decode cX4_addFace 29 = .ok (.aload_n 0, 1) := by decide +kernel
theorem dX4_addFace_30 : decode cX4_addFace 30 = .ok (.getfield 85, 3) := by decide +kernel
theorem dX4_addFace_33 : decode cX4_addFace 33 = .ok (.lastore, 1) := by decide +kernel
theorem dX4_addFace_34 : decode cX4_addFace 34 = .ok (.aload_n 0, 1) := by decide +kernel
theorem dX4_addFace_35 : decode cX4_addFace 35 = .ok (.getfield 35, 3) := by decide +kernel
theorem dX4_addFace_38 : decode cX4_addFace 38 = .ok (.aload_n 0, 1) := by decide +kernel
theorem dX4_addFace_39 : decode cX4_addFace 39 = .ok (.getfield 91, 3) := by decide +kernel
theorem dX4_addFace_42 : decode cX4_addFace 42 = .ok (.aload_n 0, 1) := by decide +kernel
theorem dX4_addFace_43 : decode cX4_addFace 43 = .ok (.getfield 88, 3) := by decide +kernel
theorem dX4_addFace_46 : decode cX4_addFace 46 = .ok (.lastore, 1) := by decide +kernel
theorem dX4_addFace_47 : decode cX4_addFace 47 = .ok (.aload_n 0, 1) := by decide +kernel
theorem dX4_addFace_48 : decode cX4_addFace 48 = .ok (.getfield 38, 3) := by decide +kernel
theorem dX4_addFace_51 : decode cX4_addFace 51 = .ok (.aload_n 0, 1) := by decide +kernel
theorem dX4_addFace_52 : decode cX4_addFace 52 = .ok (.getfield 91, 3) := by decide +kernel
theorem dX4_addFace_55 : decode cX4_addFace 55 = .ok (.lload_n 1, 1) := by decide +kernel
theorem dX4_addFace_56 : decode cX4_addFace 56 = .ok (.lastore, 1) := by decide +kernel
theorem dX4_addFace_57 : decode cX4_addFace 57 = .ok (.aload_n 0, 1) := by decide +kernel
theorem dX4_addFace_58 : decode cX4_addFace 58 = .ok (.dup, 1) := by decide +kernel
theorem dX4_addFace_59 : decode cX4_addFace 59 = .ok (.getfield 91, 3) := by decide +kernel
theorem dX4_addFace_62 : decode cX4_addFace 62 = .ok (.iconst 1, 1) := by decide +kernel
theorem dX4_addFace_63 : decode cX4_addFace 63 = .ok (.iadd, 1) := by decide +kernel
theorem dX4_addFace_64 : decode cX4_addFace 64 = .ok (.putfield 91, 3) := by decide +kernel
theorem dX4_addFace_67 : decode cX4_addFace 67 = .ok (.return_, 1) := by decide +kernel
theorem dX4_in_0 : decode cX4_in 0 = .ok (.aload_n 0, 1) := by decide +kernel
theorem dX4_in_1 : decode cX4_in 1 = .ok (.getfield 29, 3) := by decide +kernel
theorem dX4_in_4 : decode cX4_in 4 = .ok (.iload_n 1, 1) := by decide +kernel
theorem dX4_in_5 : decode cX4_in 5 = .ok (.laload, 1) := by decide +kernel
theorem dX4_in_6 : decode cX4_in 6 = .ok (.aload_n 0, 1) := by decide +kernel
theorem dX4_in_7 : decode cX4_in 7 = .ok (.getfield 19, 3) := by decide +kernel
theorem dX4_in_10 : decode cX4_in 10 = .ok (.iload_n 2, 1) := by decide +kernel
theorem dX4_in_11 : decode cX4_in 11 = .ok (.laload, 1) := by decide +kernel
theorem dX4_in_12 : decode cX4_in 12 = .ok (.lmul, 1) := by decide +kernel
theorem dX4_in_13 : decode cX4_in 13 = .ok (.aload_n 0, 1) := by decide +kernel
theorem dX4_in_14 : decode cX4_in 14 = .ok (.getfield 32, 3) := by decide +kernel
theorem dX4_in_17 : decode cX4_in 17 = .ok (.iload_n 1, 1) := by decide +kernel
theorem dX4_in_18 : decode cX4_in 18 = .ok (.laload, 1) := by decide +kernel
theorem dX4_in_19 : decode cX4_in 19 = .ok (.aload_n 0, 1) := by decide +kernel
theorem dX4_in_20 : decode cX4_in 20 = .ok (.getfield 23, 3) := by decide +kernel
theorem dX4_in_23 : decode cX4_in 23 = .ok (.iload_n 2, 1) := by decide +kernel
theorem dX4_in_24 : decode cX4_in 24 = .ok (.laload, 1) := by decide +kernel
theorem dX4_in_25 : decode cX4_in 25 = .ok (.lmul, 1) := by decide +kernel
theorem dX4_in_26 : decode cX4_in 26 = .ok (.ladd, 1) := by decide +kernel
theorem dX4_in_27 : decode cX4_in 27 = .ok (.aload_n 0, 1) := by decide +kernel
theorem dX4_in_28 : decode cX4_in 28 = .ok (.getfield 35, 3) := by decide +kernel
theorem dX4_in_31 : decode cX4_in 31 = .ok (.iload_n 1, 1) := by decide +kernel
theorem dX4_in_32 : decode cX4_in 32 = .ok (.laload, 1) := by decide +kernel
theorem dX4_in_33 : decode cX4_in 33 = .ok (.aload_n 0, 1) := by decide +kernel
theorem dX4_in_34 : decode cX4_in 34 = .ok (.getfield 26, 3) := by decide +kernel
theorem dX4_in_37 : decode cX4_in 37 = .ok (.iload_n 2, 1) := by decide +kernel
theorem dX4_in_38 : decode cX4_in 38 = .ok (.laload, 1) := by decide +kernel
theorem dX4_in_39 : decode cX4_in 39 = .ok (.lmul, 1) := by decide +kernel
theorem dX4_in_40 : decode cX4_in 40 = .ok (.ladd, 1) := by decide +kernel
theorem dX4_in_41 : decode cX4_in 41 = .ok (.aload_n 0, 1) := by decide +kernel
theorem dX4_in_42 : decode cX4_in 42 = .ok (.getfield 38, 3) := by decide +kernel
theorem dX4_in_45 : decode cX4_in 45 = .ok (.iload_n 1, 1) := by decide +kernel
theorem dX4_in_46 : decode cX4_in 46 = .ok (.laload, 1) := by decide +kernel
theorem dX4_in_47 : decode cX4_in 47 = .ok (.lcmp, 1) := by decide +kernel
theorem dX4_in_48 : decode cX4_in 48 = .ok (.ifCond .ne 7, 3) := by decide +kernel
theorem dX4_in_51 : decode cX4_in 51 = .ok (.iconst 1, 1) := by decide +kernel
theorem dX4_in_52 : decode cX4_in 52 = .ok (.goto 4, 3) := by decide +kernel
theorem dX4_in_55 : decode cX4_in 55 = .ok (.iconst 0, 1) := by decide +kernel
theorem dX4_in_56 : decode cX4_in 56 = .ok (.ireturn, 1) := by decide +kernel
set_option maxRecDepth 20000 in
theorem ggX4_goesOn_X4_in : GoodIn wsX4_goesOn wsX4_in := goodIn_r _ [15, 3, 8, 5, 9, 7, 10, 16, 21, 22, 23, 24, 25, 26, 27, 28, 29, 30, 31, 32, 33, 34, 35, 36, 37, 38, 39, 40, 41, 42, 43, 44, 45, 46, 47] (by decide +kernel) (by decide +kernel)
set_option maxRecDepth 20000 in
theorem gX4_goesOn_X4_in : GoodIn wsX4_goesOn (wsV RX4 119 RX4 yX4_in wsX4_in) := goodIn_app (goodIn_of _ (by decide +kernel)) ggX4_goesOn_X4_in
set_option maxRecDepth 20000 in
theorem ggX4_goesOn_X4_across : GoodIn wsX4_goesOn wsX4_across := goodIn_r _ [20, 8, 9, 10, 2, 4, 6, 21, 22, 23, 24, 25, 26, 27, 28, 29, 30, 31, 32, 33, 34, 35, 36, 37, 38, 39, 40, 41, 42, 43, 44, 45, 46, 47] (by decide +kernel) (by decide +kernel)
set_option maxRecDepth 20000 in
theorem gX4_goesOn_X4_across : GoodIn wsX4_goesOn (wsV RX4 94 RX4 yX4_across wsX4_across) := goodIn_app (goodIn_of _ (by decide +kernel)) ggX4_goesOn_X4_across
theorem dX4_goesOn_0 : decode cX4_goesOn 0 = .ok (.iload_n 2, 1) := by decide +kernel
theorem dX4_goesOn_1 : decode cX4_goesOn 1 = .ok (.iload_n 3, 1) := by decide +kernel
theorem dX4_goesOn_2 : decode cX4_goesOn 2 = .ok (.if_icmp .eq 7, 3) := by decide +kernel
theorem dX4_goesOn_5 : decode cX4_goesOn 5 = .ok (.iconst 1, 1) := by decide +kernel
theorem dX4_goesOn_6 : decode cX4_goesOn 6 = .ok (.goto 4, 3) := by decide +kernel
theorem dX4_goesOn_9 : decode cX4_goesOn 9 = .ok (.iconst 0, 1) := by decide +kernel
theorem dX4_goesOn_10 : decode cX4_goesOn 10 = .ok (.istore 4, 2) := by decide +kernel
theorem dX4_goesOn_12 : decode cX4_goesOn 12 = .ok (.iconst 0, 1) := by decide +kernel
theorem dX4_goesOn_13 : decode cX4_goesOn 13 = .ok (.istore 5, 2) := by decide +kernel
theorem dX4_goesOn_15 : decode cX4_goesOn 15 = .ok (.iload 5, 2) := by decide +kernel
theorem dX4_goesOn_17 : decode cX4_goesOn 17 = .ok (.aload_n 0, 1) := by decide +kernel
theorem dX4_goesOn_18 : decode cX4_goesOn 18 = .ok (.getfield 98, 3) := by decide +kernel
theorem dX4_goesOn_21 : decode cX4_goesOn 21 = .ok (.if_icmp .ge 200, 3) := by decide +kernel
theorem dX4_goesOn_24 : decode cX4_goesOn 24 = .ok (.iload 4, 2) := by decide +kernel
theorem dX4_goesOn_26 : decode cX4_goesOn 26 = .ok (.ifCond .eq 195, 3) := by decide +kernel
theorem dX4_goesOn_29 : decode cX4_goesOn 29 = .ok (.iload 5, 2) := by decide +kernel
theorem dX4_goesOn_31 : decode cX4_goesOn 31 = .ok (.iload_n 2, 1) := by decide +kernel
theorem dX4_goesOn_32 : decode cX4_goesOn 32 = .ok (.if_icmp .eq 183, 3) := by decide +kernel
theorem dX4_goesOn_35 : decode cX4_goesOn 35 = .ok (.iload 5, 2) := by decide +kernel
theorem dX4_goesOn_37 : decode cX4_goesOn 37 = .ok (.iload_n 3, 1) := by decide +kernel
theorem dX4_goesOn_38 : decode cX4_goesOn 38 = .ok (.if_icmp .eq 177, 3) := by decide +kernel
theorem dX4_goesOn_41 : decode cX4_goesOn 41 = .ok (.aload_n 0, 1) := by decide +kernel
theorem dX4_goesOn_42 : decode cX4_goesOn 42 = .ok (.iload_n 1, 1) := by decide +kernel
theorem dX4_goesOn_43 : decode cX4_goesOn 43 = .ok (.iload 5, 2) := by decide +kernel
theorem dX4_goesOn_45 : decode cX4_goesOn 45 = .ok (.invokevirtual 119, 3) := by decide +kernel
theorem dX4_goesOn_48 : decode cX4_goesOn 48 = .ok (.ifCond .eq 167, 3) := by decide +kernel
theorem dX4_goesOn_51 : decode cX4_goesOn 51 = .ok (.aload_n 0, 1) := by decide +kernel
theorem dX4_goesOn_52 : decode cX4_goesOn 52 = .ok (.iload_n 2, 1) := by decide +kernel
theorem dX4_goesOn_53 : decode cX4_goesOn 53 = .ok (.iload_n 3, 1) := by decide +kernel
theorem dX4_goesOn_54 : decode cX4_goesOn 54 = .ok (.iload 5, 2) := by decide +kernel
theorem dX4_goesOn_56 : decode cX4_goesOn 56 = .ok (.invokevirtual 94, 3) := by decide +kernel
theorem dX4_goesOn_59 : decode cX4_goesOn 59 = .ok (.aload_n 0, 1) := by decide +kernel
theorem dX4_goesOn_60 : decode cX4_goesOn 60 = .ok (.getfield 81, 3) := by decide +kernel
theorem dX4_goesOn_63 : decode cX4_goesOn 63 = .ok (.aload_n 0, 1) := by decide +kernel
theorem dX4_goesOn_64 : decode cX4_goesOn 64 = .ok (.getfield 29, 3) := by decide +kernel
theorem dX4_goesOn_67 : decode cX4_goesOn 67 = .ok (.iload_n 1, 1) := by decide +kernel
theorem dX4_goesOn_68 : decode cX4_goesOn 68 = .ok (.laload, 1) := by decide +kernel
theorem dX4_goesOn_69 : decode cX4_goesOn 69 = .ok (.lmul, 1) := by decide +kernel
theorem dX4_goesOn_70 : decode cX4_goesOn 70 = .ok (.aload_n 0, 1) := by decide +kernel
theorem dX4_goesOn_71 : decode cX4_goesOn 71 = .ok (.getfield 85, 3) := by decide +kernel
theorem dX4_goesOn_74 : decode cX4_goesOn 74 = .ok (.aload_n 0, 1) := by decide +kernel
theorem dX4_goesOn_75 : decode cX4_goesOn 75 = .ok (.getfield 32, 3) := by decide +kernel
theorem dX4_goesOn_78 : decode cX4_goesOn 78 = .ok (.iload_n 1, 1) := by decide +kernel
theorem dX4_goesOn_79 : decode cX4_goesOn 79 = .ok (.laload, 1) := by decide +kernel
theorem dX4_goesOn_80 : decode cX4_goesOn 80 = .ok (.lmul, 1) := by decide +kernel
theorem dX4_goesOn_81 : decode cX4_goesOn 81 = .ok (.ladd, 1) := by decide +kernel
theorem dX4_goesOn_82 : decode cX4_goesOn 82 = .ok (.aload_n 0, 1) := by decide +kernel
theorem dX4_goesOn_83 : decode cX4_goesOn 83 = .ok (.getfield 88, 3) := by decide +kernel
theorem dX4_goesOn_86 : decode cX4_goesOn 86 = .ok (.aload_n 0, 1) := by decide +kernel
theorem dX4_goesOn_87 : decode cX4_goesOn 87 = .ok (.getfield 35, 3) := by decide +kernel
theorem dX4_goesOn_90 : decode cX4_goesOn 90 = .ok (.iload_n 1, 1) := by decide +kernel
theorem dX4_goesOn_91 : decode cX4_goesOn 91 = .ok (.laload, 1) := by decide +kernel
theorem dX4_goesOn_92 : decode cX4_goesOn 92 = .ok (.lmul, 1) := by decide +kernel
theorem dX4_goesOn_93 : decode cX4_goesOn 93 = .ok (.ladd, 1) := by decide +kernel
theorem dX4_goesOn_94 : decode cX4_goesOn 94 = .ok (.lstore 6, 2) := by decide +kernel
theorem dX4_goesOn_96 : decode cX4_goesOn 96 = .ok (.aload_n 0, 1) := by decide +kernel
theorem dX4_goesOn_97 : decode cX4_goesOn 97 = .ok (.getfield 19, 3) := by decide +kernel
theorem dX4_goesOn_100 : decode cX4_goesOn 100 = .ok (.iload 5, 2) := by decide +kernel
theorem dX4_goesOn_102 : decode cX4_goesOn 102 = .ok (.laload, 1) := by decide +kernel
theorem dX4_goesOn_103 : decode cX4_goesOn 103 = .ok (.aload_n 0, 1) := by decide +kernel
theorem dX4_goesOn_104 : decode cX4_goesOn 104 = .ok (.getfield 19, 3) := by decide +kernel
theorem dX4_goesOn_107 : decode cX4_goesOn 107 = .ok (.iload_n 2, 1) := by decide +kernel
theorem dX4_goesOn_108 : decode cX4_goesOn 108 = .ok (.laload, 1) := by decide +kernel
theorem dX4_goesOn_109 : decode cX4_goesOn 109 = .ok (.lsub, 1) := by decide +kernel
theorem dX4_goesOn_110 : decode cX4_goesOn 110 = .ok (.aload_n 0, 1) := by decide +kernel
theorem dX4_goesOn_111 : decode cX4_goesOn 111 = .ok (.getfield 19, 3) := by decide +kernel
theorem dX4_goesOn_114 : decode cX4_goesOn 114 = .ok (.iload 5, 2) := by decide +kernel
theorem dX4_goesOn_116 : decode cX4_goesOn 116 = .ok (.laload, 1) := by decide +kernel
theorem dX4_goesOn_117 : decode cX4_goesOn 117 = .ok (.aload_n 0, 1) := by decide +kernel
theorem dX4_goesOn_118 : decode cX4_goesOn 118 = .ok (.getfield 19, 3) := by decide +kernel
theorem dX4_goesOn_121 : decode cX4_goesOn 121 = .ok (.iload_n 3, 1) := by decide +kernel
theorem dX4_goesOn_122 : decode cX4_goesOn 122 = .ok (.laload, 1) := by decide +kernel
theorem dX4_goesOn_123 : decode cX4_goesOn 123 = .ok (.lsub, 1) := by decide +kernel
theorem dX4_goesOn_124 : decode cX4_goesOn 124 = .ok (.lmul, 1) := by decide +kernel
theorem dX4_goesOn_125 : decode cX4_goesOn 125 = .ok (.aload_n 0, 1) := by decide +kernel
theorem dX4_goesOn_126 : decode cX4_goesOn 126 = .ok (.getfield 23, 3) := by decide +kernel
theorem dX4_goesOn_129 : decode cX4_goesOn 129 = .ok (.iload 5, 2) := by decide +kernel
theorem dX4_goesOn_131 : decode cX4_goesOn 131 = .ok (.laload, 1) := by decide +kernel
theorem dX4_goesOn_132 : decode cX4_goesOn 132 = .ok (.aload_n 0, 1) := by decide +kernel
theorem dX4_goesOn_133 : decode cX4_goesOn 133 = .ok (.getfield 23, 3) := by decide +kernel
theorem dX4_goesOn_136 : decode cX4_goesOn 136 = .ok (.iload_n 2, 1) := by decide +kernel
theorem dX4_goesOn_137 : decode cX4_goesOn 137 = .ok (.laload, 1) := by decide +kernel
theorem dX4_goesOn_138 : decode cX4_goesOn 138 = .ok (.lsub, 1) := by decide +kernel
theorem dX4_goesOn_139 : decode cX4_goesOn 139 = .ok (.aload_n 0, 1) := by decide +kernel
theorem dX4_goesOn_140 : decode cX4_goesOn 140 = .ok (.getfield 23, 3) := by decide +kernel
theorem dX4_goesOn_143 : decode cX4_goesOn 143 = .ok (.iload 5, 2) := by decide +kernel
theorem dX4_goesOn_145 : decode cX4_goesOn 145 = .ok (.laload, 1) := by decide +kernel
theorem dX4_goesOn_146 : decode cX4_goesOn 146 = .ok (.aload_n 0, 1) := by decide +kernel
theorem dX4_goesOn_147 : decode cX4_goesOn 147 = .ok (.getfield 23, 3) := by decide +kernel
theorem dX4_goesOn_150 : decode cX4_goesOn 150 = .ok (.iload_n 3, 1) := by decide +kernel
theorem dX4_goesOn_151 : decode cX4_goesOn 151 = .ok (.laload, 1) := by decide +kernel
theorem dX4_goesOn_152 : decode cX4_goesOn 152 = .ok (.lsub, 1) := by decide +kernel
theorem dX4_goesOn_153 : decode cX4_goesOn 153 = .ok (.lmul, 1) := by decide +kernel
theorem dX4_goesOn_154 : decode cX4_goesOn 154 = .ok (.ladd, 1) := by decide +kernel
theorem dX4_goesOn_155 : decode cX4_goesOn 155 = .ok (.aload_n 0, 1) := by decide +kernel
theorem dX4_goesOn_156 : decode cX4_goesOn 156 = .ok (.getfield 26, 3) := by decide +kernel
theorem dX4_goesOn_159 : decode cX4_goesOn 159 = .ok (.iload 5, 2) := by decide +kernel
theorem dX4_goesOn_161 : decode cX4_goesOn 161 = .ok (.laload, 1) := by decide +kernel
theorem dX4_goesOn_162 : decode cX4_goesOn 162 = .ok (.aload_n 0, 1) := by decide +kernel
theorem dX4_goesOn_163 : decode cX4_goesOn 163 = .ok (.getfield 26, 3) := by decide +kernel
theorem dX4_goesOn_166 : decode cX4_goesOn 166 = .ok (.iload_n 2, 1) := by decide +kernel
theorem dX4_goesOn_167 : decode cX4_goesOn 167 = .ok (.laload, 1) := by decide +kernel
theorem dX4_goesOn_168 : decode cX4_goesOn 168 = .ok (.lsub, 1) := by decide +kernel
theorem dX4_goesOn_169 : decode cX4_goesOn 169 = .ok (.aload_n 0, 1) := by decide +kernel
theorem dX4_goesOn_170 : decode cX4_goesOn 170 = .ok (.getfield 26, 3) := by decide +kernel
theorem dX4_goesOn_173 : decode cX4_goesOn 173 = .ok (.iload 5, 2) := by decide +kernel
theorem dX4_goesOn_175 : decode cX4_goesOn 175 = .ok (.laload, 1) := by decide +kernel
theorem dX4_goesOn_176 : decode cX4_goesOn 176 = .ok (.aload_n 0, 1) := by decide +kernel
theorem dX4_goesOn_177 : decode cX4_goesOn 177 = .ok (.getfield 26, 3) := by decide +kernel
theorem dX4_goesOn_180 : decode cX4_goesOn 180 = .ok (.iload_n 3, 1) := by decide +kernel
theorem dX4_goesOn_181 : decode cX4_goesOn 181 = .ok (.laload, 1) := by decide +kernel
theorem dX4_goesOn_182 : decode cX4_goesOn 182 = .ok (.lsub, 1) := by decide +kernel
theorem dX4_goesOn_183 : decode cX4_goesOn 183 = .ok (.lmul, 1) := by decide +kernel
theorem dX4_goesOn_184 : decode cX4_goesOn 184 = .ok (.ladd, 1) := by decide +kernel
theorem dX4_goesOn_185 : decode cX4_goesOn 185 = .ok (.lstore 8, 2) := by decide +kernel
theorem dX4_goesOn_187 : decode cX4_goesOn 187 = .ok (.lload 6, 2) := by decide +kernel
theorem dX4_goesOn_189 : decode cX4_goesOn 189 = .ok (.lconst 0, 1) := by decide +kernel
theorem dX4_goesOn_190 : decode cX4_goesOn 190 = .ok (.lcmp, 1) := by decide +kernel
theorem dX4_goesOn_191 : decode cX4_goesOn 191 = .ok (.ifCond .gt 17, 3) := by decide +kernel
theorem dX4_goesOn_194 : decode cX4_goesOn 194 = .ok (.lload 6, 2) := by decide +kernel
theorem dX4_goesOn_196 : decode cX4_goesOn 196 = .ok (.lconst 0, 1) := by decide +kernel
theorem dX4_goesOn_197 : decode cX4_goesOn 197 = .ok (.lcmp, 1) := by decide +kernel
theorem dX4_goesOn_198 : decode cX4_goesOn 198 = .ok (.ifCond .ne 14, 3) := by decide +kernel
theorem dX4_goesOn_201 : decode cX4_goesOn 201 = .ok (.lload 8, 2) := by decide +kernel
theorem dX4_goesOn_203 : decode cX4_goesOn 203 = .ok (.lconst 0, 1) := by decide +kernel
theorem dX4_goesOn_204 : decode cX4_goesOn 204 = .ok (.lcmp, 1) := by decide +kernel
theorem dX4_goesOn_205 : decode cX4_goesOn 205 = .ok (.ifCond .ge 7, 3) := by decide +kernel
theorem dX4_goesOn_208 : decode cX4_goesOn 208 = .ok (.iconst 1, 1) := by decide +kernel
theorem dX4_goesOn_209 : decode cX4_goesOn 209 = .ok (.goto 4, 3) := by decide +kernel
theorem dX4_goesOn_212 : decode cX4_goesOn 212 = .ok (.iconst 0, 1) := by decide +kernel
theorem dX4_goesOn_213 : decode cX4_goesOn 213 = .ok (.istore 4, 2) := by decide +kernel
theorem dX4_goesOn_215 : decode cX4_goesOn 215 = .ok (.iinc 5 1, 3) := by decide +kernel
theorem dX4_goesOn_218 : decode cX4_goesOn 218 = .ok (.goto (-203), 3) := by decide +kernel
theorem dX4_goesOn_221 : decode cX4_goesOn 221 = .ok (.iload 4, 2) := by decide +kernel
theorem dX4_goesOn_223 : decode cX4_goesOn 223 = .ok (.ireturn, 1) := by decide +kernel
set_option maxRecDepth 20000 in
theorem ggX4_behind_X4_in : GoodIn wsX4_behind wsX4_in := goodIn_r _ [6, 7, 8, 9, 10, 11, 12, 13, 25, 26, 27, 28, 29, 30, 31, 32, 33, 34, 35, 36, 37, 38, 39, 40, 41, 42, 43, 44, 45, 46, 47, 48, 49, 50, 51] (by decide +kernel) (by decide +kernel)
set_option maxRecDepth 20000 in
theorem gX4_behind_X4_in : GoodIn wsX4_behind (wsV RX4 119 RX4 yX4_in wsX4_in) := goodIn_app (goodIn_of _ (by decide +kernel)) ggX4_behind_X4_in
set_option maxRecDepth 20000 in
theorem ggX4_behind_X4_goesOn : GoodIn wsX4_behind wsX4_goesOn := goodIn_r _ [17, 1, 18, 7, 19, 9, 20, 11, 8, 10, 12, 2, 3, 4, 5, 6, 13, 21, 22, 23, 24, 25, 26, 27, 28, 29, 30, 31, 32, 33, 34, 35, 36, 37, 38, 39, 40, 41, 42, 43, 44, 45, 46, 47, 48, 49, 50, 51] (by decide +kernel) (by decide +kernel)
set_option maxRecDepth 20000 in
theorem gX4_behind_X4_goesOn : GoodIn wsX4_behind (wsV RX4 122 RX4 yX4_goesOn wsX4_goesOn) := goodIn_app (goodIn_of _ (by decide +kernel)) ggX4_behind_X4_goesOn
theorem dX4_behind_0 : decode cX4_behind 0 = .ok (.iconst 0, 1) := by decide +kernel
theorem dX4_behind_1 : decode cX4_behind 1 = .ok (.istore_n 3, 1) := by decide +kernel
theorem dX4_behind_2 : decode cX4_behind 2 = .ok (.iload_n 3, 1) := by decide +kernel
theorem dX4_behind_3 : decode cX4_behind 3 = .ok (.aload_n 0, 1) := by decide +kernel
theorem dX4_behind_4 : decode cX4_behind 4 = .ok (.getfield 98, 3) := by decide +kernel
theorem dX4_behind_7 : decode cX4_behind 7 = .ok (.if_icmp .ge 30, 3) := by decide +kernel
theorem dX4_behind_10 : decode cX4_behind 10 = .ok (.aload_n 0, 1) := by decide +kernel
theorem dX4_behind_11 : decode cX4_behind 11 = .ok (.iload_n 1, 1) := by decide +kernel
theorem dX4_behind_12 : decode cX4_behind 12 = .ok (.iload_n 3, 1) := by decide +kernel
theorem dX4_behind_13 : decode cX4_behind 13 = .ok (.invokevirtual 119, 3) := by decide +kernel
theorem dX4_behind_16 : decode cX4_behind 16 = .ok (.ifCond .eq 15, 3) := by decide +kernel
theorem dX4_behind_19 : decode cX4_behind 19 = .ok (.aload_n 0, 1) := by decide +kernel
theorem dX4_behind_20 : decode cX4_behind 20 = .ok (.iload_n 1, 1) := by decide +kernel
theorem dX4_behind_21 : decode cX4_behind 21 = .ok (.iload_n 2, 1) := by decide +kernel
theorem dX4_behind_22 : decode cX4_behind 22 = .ok (.iload_n 3, 1) := by decide +kernel
theorem dX4_behind_23 : decode cX4_behind 23 = .ok (.invokevirtual 122, 3) := by decide +kernel
theorem dX4_behind_26 : decode cX4_behind 26 = .ok (.ifCond .eq 5, 3) := by decide +kernel
theorem dX4_behind_29 : decode cX4_behind 29 = .ok (.iload_n 3, 1) := by decide +kernel
theorem dX4_behind_30 : decode cX4_behind 30 = .ok (.ireturn, 1) := by decide +kernel
theorem dX4_behind_31 : decode cX4_behind 31 = .ok (.iinc 3 1, 3) := by decide +kernel
theorem dX4_behind_34 : decode cX4_behind 34 = .ok (.goto (-32), 3) := by decide +kernel
theorem dX4_behind_37 : decode cX4_behind 37 = .ok (.iconst (-1), 1) := by decide +kernel
theorem dX4_behind_38 : decode cX4_behind 38 = .ok (.ireturn, 1) := by decide +kernel
set_option maxRecDepth 20000 in
theorem ggX4_walk_X4_in : GoodIn wsX4_walk wsX4_in := goodIn_r _ [7, 8, 9, 10, 11, 12, 13, 14, 31, 32, 33, 34, 35, 36, 37, 38, 39, 40, 41, 42, 43, 44, 45, 46, 47, 48, 49, 50, 51, 52, 53, 54, 55, 56, 57] (by decide +kernel) (by decide +kernel)
set_option maxRecDepth 20000 in
theorem gX4_walk_X4_in : GoodIn wsX4_walk (wsV RX4 119 RX4 yX4_in wsX4_in) := goodIn_app (goodIn_of _ (by decide +kernel)) ggX4_walk_X4_in
set_option maxRecDepth 20000 in
theorem ggX4_walk_X4_behind : GoodIn wsX4_walk wsX4_behind := goodIn_r _ [18, 19, 3, 4, 5, 6, 7, 8, 9, 10, 11, 12, 13, 14, 20, 21, 22, 23, 24, 25, 26, 27, 28, 29, 30, 31, 32, 33, 34, 35, 36, 37, 38, 39, 40, 41, 42, 43, 44, 45, 46, 47, 48, 49, 50, 51, 52, 53, 54, 55, 56, 57] (by decide +kernel) (by decide +kernel)
set_option maxRecDepth 20000 in
theorem gX4_walk_X4_behind : GoodIn wsX4_walk (wsV RX4 125 RX4 yX4_behind wsX4_behind) := goodIn_app (goodIn_of _ (by decide +kernel)) ggX4_walk_X4_behind
theorem dX4_walk_0 : decode cX4_walk 0 = .ok (.iconst 0, 1) := by decide +kernel
theorem dX4_walk_1 : decode cX4_walk 1 = .ok (.istore_n 2, 1) := by decide +kernel
theorem dX4_walk_2 : decode cX4_walk 2 = .ok (.aload_n 0, 1) := by decide +kernel
theorem dX4_walk_3 : decode cX4_walk 3 = .ok (.iload_n 1, 1) := by decide +kernel
theorem dX4_walk_4 : decode cX4_walk 4 = .ok (.iload_n 2, 1) := by decide +kernel
theorem dX4_walk_5 : decode cX4_walk 5 = .ok (.invokevirtual 119, 3) := by decide +kernel
theorem dX4_walk_8 : decode cX4_walk 8 = .ok (.ifCond .eq 12, 3) := by decide +kernel
theorem dX4_walk_11 : decode cX4_walk 11 = .ok (.aload_n 0, 1) := by decide +kernel
theorem dX4_walk_12 : decode cX4_walk 12 = .ok (.iload_n 1, 1) := by decide +kernel
theorem dX4_walk_13 : decode cX4_walk 13 = .ok (.iload_n 2, 1) := by decide +kernel
theorem dX4_walk_14 : decode cX4_walk 14 = .ok (.invokevirtual 125, 3) := by decide +kernel
theorem dX4_walk_17 : decode cX4_walk 17 = .ok (.ifCond .ge 9, 3) := by decide +kernel
theorem dX4_walk_20 : decode cX4_walk 20 = .ok (.iinc 2 1, 3) := by decide +kernel
theorem dX4_walk_23 : decode cX4_walk 23 = .ok (.goto (-21), 3) := by decide +kernel
theorem dX4_walk_26 : decode cX4_walk 26 = .ok (.iconst 0, 1) := by decide +kernel
theorem dX4_walk_27 : decode cX4_walk 27 = .ok (.istore_n 3, 1) := by decide +kernel
theorem dX4_walk_28 : decode cX4_walk 28 = .ok (.iload_n 2, 1) := by decide +kernel
theorem dX4_walk_29 : decode cX4_walk 29 = .ok (.istore 4, 2) := by decide +kernel
theorem dX4_walk_31 : decode cX4_walk 31 = .ok (.iconst 0, 1) := by decide +kernel
theorem dX4_walk_32 : decode cX4_walk 32 = .ok (.istore 5, 2) := by decide +kernel
theorem dX4_walk_34 : decode cX4_walk 34 = .ok (.iload 5, 2) := by decide +kernel
theorem dX4_walk_36 : decode cX4_walk 36 = .ok (.bipush 24, 2) := by decide +kernel
theorem dX4_walk_38 : decode cX4_walk 38 = .ok (.if_icmp .ge 44, 3) := by decide +kernel
theorem dX4_walk_41 : decode cX4_walk 41 = .ok (.iload_n 3, 1) := by decide +kernel
theorem dX4_walk_42 : decode cX4_walk 42 = .ok (.ifCond .eq 9, 3) := by decide +kernel
theorem dX4_walk_45 : decode cX4_walk 45 = .ok (.iload 4, 2) := by decide +kernel
theorem dX4_walk_47 : decode cX4_walk 47 = .ok (.iload_n 2, 1) := by decide +kernel
theorem dX4_walk_48 : decode cX4_walk 48 = .ok (.if_icmp .eq 34, 3) := by decide +kernel
theorem dX4_walk_51 : decode cX4_walk 51 = .ok (.aload_n 0, 1) := by decide +kernel
theorem dX4_walk_52 : decode cX4_walk 52 = .ok (.getfield 44, 3) := by decide +kernel
theorem dX4_walk_55 : decode cX4_walk 55 = .ok (.bipush 24, 2) := by decide +kernel
theorem dX4_walk_57 : decode cX4_walk 57 = .ok (.iload_n 1, 1) := by decide +kernel
theorem dX4_walk_58 : decode cX4_walk 58 = .ok (.imul, 1) := by decide +kernel
theorem dX4_walk_59 : decode cX4_walk 59 = .ok (.iload_n 3, 1) := by decide +kernel
theorem dX4_walk_60 : decode cX4_walk 60 = .ok (.iadd, 1) := by decide +kernel
theorem dX4_walk_61 : decode cX4_walk 61 = .ok (.iload 4, 2) := by decide +kernel
theorem dX4_walk_63 : decode cX4_walk 63 = .ok (.iastore, 1) := by decide +kernel
theorem dX4_walk_64 : decode cX4_walk 64 = .ok (.iinc 3 1, 3) := by decide +kernel
theorem dX4_walk_67 : decode cX4_walk 67 = .ok (.aload_n 0, 1) := by decide +kernel
theorem dX4_walk_68 : decode cX4_walk 68 = .ok (.iload_n 1, 1) := by decide +kernel
theorem dX4_walk_69 : decode cX4_walk 69 = .ok (.iload 4, 2) := by decide +kernel
theorem dX4_walk_71 : decode cX4_walk 71 = .ok (.invokevirtual 125, 3) := by decide +kernel
theorem dX4_walk_74 : decode cX4_walk 74 = .ok (.istore 4, 2) := by decide +kernel
theorem dX4_walk_76 : decode cX4_walk 76 = .ok (.iinc 5 1, 3) := by decide +kernel
theorem dX4_walk_79 : decode cX4_walk 79 = .ok (.goto (-45), 3) := by decide +kernel
theorem dX4_walk_82 : decode cX4_walk 82 = .ok (.aload_n 0, 1) := by decide +kernel
theorem dX4_walk_83 : decode cX4_walk 83 = .ok (.getfield 41, 3) := by decide +kernel
theorem dX4_walk_86 : decode cX4_walk 86 = .ok (.iload_n 1, 1) := by decide +kernel
theorem dX4_walk_87 : decode cX4_walk 87 = .ok (.iload_n 3, 1) := by decide +kernel
theorem dX4_walk_88 : decode cX4_walk 88 = .ok (.iastore, 1) := by decide +kernel
theorem dX4_walk_89 : decode cX4_walk 89 = .ok (.return_, 1) := by decide +kernel
theorem dX4_earlier_0 : decode cX4_earlier 0 = .ok (.bipush 32, 2) := by decide +kernel
theorem dX4_earlier_2 : decode cX4_earlier 2 = .ok (.aload_n 0, 1) := by decide +kernel
theorem dX4_earlier_3 : decode cX4_earlier 3 = .ok (.getfield 44, 3) := by decide +kernel
theorem dX4_earlier_6 : decode cX4_earlier 6 = .ok (.bipush 24, 2) := by decide +kernel
theorem dX4_earlier_8 : decode cX4_earlier 8 = .ok (.iload_n 1, 1) := by decide +kernel
theorem dX4_earlier_9 : decode cX4_earlier 9 = .ok (.imul, 1) := by decide +kernel
theorem dX4_earlier_10 : decode cX4_earlier 10 = .ok (.iaload, 1) := by decide +kernel
theorem dX4_earlier_11 : decode cX4_earlier 11 = .ok (.imul, 1) := by decide +kernel
theorem dX4_earlier_12 : decode cX4_earlier 12 = .ok (.aload_n 0, 1) := by decide +kernel
theorem dX4_earlier_13 : decode cX4_earlier 13 = .ok (.getfield 44, 3) := by decide +kernel
theorem dX4_earlier_16 : decode cX4_earlier 16 = .ok (.bipush 24, 2) := by decide +kernel
theorem dX4_earlier_18 : decode cX4_earlier 18 = .ok (.iload_n 1, 1) := by decide +kernel
theorem dX4_earlier_19 : decode cX4_earlier 19 = .ok (.imul, 1) := by decide +kernel
theorem dX4_earlier_20 : decode cX4_earlier 20 = .ok (.iconst 1, 1) := by decide +kernel
theorem dX4_earlier_21 : decode cX4_earlier 21 = .ok (.iadd, 1) := by decide +kernel
theorem dX4_earlier_22 : decode cX4_earlier 22 = .ok (.iaload, 1) := by decide +kernel
theorem dX4_earlier_23 : decode cX4_earlier 23 = .ok (.iadd, 1) := by decide +kernel
theorem dX4_earlier_24 : decode cX4_earlier 24 = .ok (.istore_n 3, 1) := by decide +kernel
theorem dX4_earlier_25 : decode cX4_earlier 25 = .ok (.bipush 32, 2) := by decide +kernel
theorem dX4_earlier_27 : decode cX4_earlier 27 = .ok (.aload_n 0, 1) := by decide +kernel
theorem dX4_earlier_28 : decode cX4_earlier 28 = .ok (.getfield 44, 3) := by decide +kernel
theorem dX4_earlier_31 : decode cX4_earlier 31 = .ok (.bipush 24, 2) := by decide +kernel
theorem dX4_earlier_33 : decode cX4_earlier 33 = .ok (.iload_n 2, 1) := by decide +kernel
theorem dX4_earlier_34 : decode cX4_earlier 34 = .ok (.imul, 1) := by decide +kernel
theorem dX4_earlier_35 : decode cX4_earlier 35 = .ok (.iaload, 1) := by decide +kernel
theorem dX4_earlier_36 : decode cX4_earlier 36 = .ok (.imul, 1) := by decide +kernel
theorem dX4_earlier_37 : decode cX4_earlier 37 = .ok (.aload_n 0, 1) := by decide +kernel
theorem dX4_earlier_38 : decode cX4_earlier 38 = .ok (.getfield 44, 3) := by decide +kernel
theorem dX4_earlier_41 : decode cX4_earlier 41 = .ok (.bipush 24, 2) := by decide +kernel
theorem dX4_earlier_43 : decode cX4_earlier 43 = .ok (.iload_n 2, 1) := by decide +kernel
theorem dX4_earlier_44 : decode cX4_earlier 44 = .ok (.imul, 1) := by decide +kernel
theorem dX4_earlier_45 : decode cX4_earlier 45 = .ok (.iconst 1, 1) := by decide +kernel
theorem dX4_earlier_46 : decode cX4_earlier 46 = .ok (.iadd, 1) := by decide +kernel
theorem dX4_earlier_47 : decode cX4_earlier 47 = .ok (.iaload, 1) := by decide +kernel
theorem dX4_earlier_48 : decode cX4_earlier 48 = .ok (.iadd, 1) := by decide +kernel
theorem dX4_earlier_49 : decode cX4_earlier 49 = .ok (.istore 4, 2) := by decide +kernel
theorem dX4_earlier_51 : decode cX4_earlier 51 = .ok (.iload_n 3, 1) := by decide +kernel
theorem dX4_earlier_52 : decode cX4_earlier 52 = .ok (.iload 4, 2) := by decide +kernel
theorem dX4_earlier_54 : decode cX4_earlier 54 = .ok (.if_icmp .ge 7, 3) := by decide +kernel
theorem dX4_earlier_57 : decode cX4_earlier 57 = .ok (.iconst 1, 1) := by decide +kernel
theorem dX4_earlier_58 : decode cX4_earlier 58 = .ok (.goto 4, 3) := by decide +kernel
theorem dX4_earlier_61 : decode cX4_earlier 61 = .ok (.iconst 0, 1) := by decide +kernel
theorem dX4_earlier_62 : decode cX4_earlier 62 = .ok (.ireturn, 1) := by decide +kernel
set_option maxRecDepth 20000 in
theorem ggX4_orderFaces_X4_earlier : GoodIn wsX4_orderFaces wsX4_earlier := goodIn_r _ [7, 8, 9, 10, 11, 12, 13, 14, 15, 16, 17, 18, 19, 20, 21, 22, 23, 24, 25, 26, 27, 28, 29, 30, 31, 32, 33, 34, 35] (by decide +kernel) (by decide +kernel)
set_option maxRecDepth 20000 in
theorem gX4_orderFaces_X4_earlier : GoodIn wsX4_orderFaces (wsV RX4 129 RX4 yX4_earlier wsX4_earlier) := goodIn_app (goodIn_of _ (by decide +kernel)) ggX4_orderFaces_X4_earlier
theorem dX4_orderFaces_0 : decode cX4_orderFaces 0 = .ok (.iconst 0, 1) := by decide +kernel
theorem dX4_orderFaces_1 : decode cX4_orderFaces 1 = .ok (.istore_n 1, 1) := by decide +kernel
theorem dX4_orderFaces_2 : decode cX4_orderFaces 2 = .ok (.iload_n 1, 1) := by decide +kernel
theorem dX4_orderFaces_3 : decode cX4_orderFaces 3 = .ok (.aload_n 0, 1) := by decide +kernel
theorem dX4_orderFaces_4 : decode cX4_orderFaces 4 = .ok (.getfield 91, 3) := by decide +kernel
theorem dX4_orderFaces_7 : decode cX4_orderFaces 7 = .ok (.if_icmp .ge 58, 3) := by decide +kernel
theorem dX4_orderFaces_10 : decode cX4_orderFaces 10 = .ok (.iload_n 1, 1) := by decide +kernel
theorem dX4_orderFaces_11 : decode cX4_orderFaces 11 = .ok (.istore_n 2, 1) := by decide +kernel
theorem dX4_orderFaces_12 : decode cX4_orderFaces 12 = .ok (.iload_n 2, 1) := by decide +kernel
theorem dX4_orderFaces_13 : decode cX4_orderFaces 13 = .ok (.ifCond .le 39, 3) := by decide +kernel
theorem dX4_orderFaces_16 : decode cX4_orderFaces 16 = .ok (.aload_n 0, 1) := by decide +kernel
theorem dX4_orderFaces_17 : decode cX4_orderFaces 17 = .ok (.iload_n 1, 1) := by decide +kernel
theorem dX4_orderFaces_18 : decode cX4_orderFaces 18 = .ok (.aload_n 0, 1) := by decide +kernel
theorem dX4_orderFaces_19 : decode cX4_orderFaces 19 = .ok (.getfield 47, 3) := by decide +kernel
theorem dX4_orderFaces_22 : decode cX4_orderFaces 22 = .ok (.iload_n 2, 1) := by decide +kernel
theorem dX4_orderFaces_23 : decode cX4_orderFaces 23 = .ok (.iconst 1, 1) := by decide +kernel
theorem dX4_orderFaces_24 : decode cX4_orderFaces 24 = .ok (.isub, 1) := by decide +kernel
theorem dX4_orderFaces_25 : decode cX4_orderFaces 25 = .ok (.iaload, 1) := by decide +kernel
theorem dX4_orderFaces_26 : decode cX4_orderFaces 26 = .ok (.invokevirtual 129, 3) := by decide +kernel
theorem dX4_orderFaces_29 : decode cX4_orderFaces 29 = .ok (.ifCond .eq 23, 3) := by decide +kernel
theorem dX4_orderFaces_32 : decode cX4_orderFaces 32 = .ok (.aload_n 0, 1) := by decide +kernel
theorem dX4_orderFaces_33 : decode cX4_orderFaces 33 = .ok (.getfield 47, 3) := by decide +kernel
theorem dX4_orderFaces_36 : decode cX4_orderFaces 36 = .ok (.iload_n 2, 1) := by decide +kernel
theorem dX4_orderFaces_37 : decode cX4_orderFaces 37 = .ok (.aload_n 0, 1) := by decide +kernel
theorem dX4_orderFaces_38 : decode cX4_orderFaces 38 = .ok (.getfield 47, 3) := by decide +kernel
theorem dX4_orderFaces_41 : decode cX4_orderFaces 41 = .ok (.iload_n 2, 1) := by decide +kernel
theorem dX4_orderFaces_42 : decode cX4_orderFaces 42 = .ok (.iconst 1, 1) := by decide +kernel
theorem dX4_orderFaces_43 : decode cX4_orderFaces 43 = .ok (.isub, 1) := by decide +kernel
theorem dX4_orderFaces_44 : decode cX4_orderFaces 44 = .ok (.iaload, 1) := by decide +kernel
theorem dX4_orderFaces_45 : decode cX4_orderFaces 45 = .ok (.iastore, 1) := by decide +kernel
theorem dX4_orderFaces_46 : decode cX4_orderFaces 46 = .ok (.iinc 2 (-1), 3) := by decide +kernel
theorem dX4_orderFaces_49 : decode cX4_orderFaces 49 = .ok (.goto (-37), 3) := by decide +kernel
theorem dX4_orderFaces_52 : decode cX4_orderFaces 52 = .ok (.aload_n 0, 1) := by decide +kernel
theorem dX4_orderFaces_53 : decode cX4_orderFaces 53 = .ok (.getfield 47, 3) := by decide +kernel
theorem dX4_orderFaces_56 : decode cX4_orderFaces 56 = .ok (.iload_n 2, 1) := by decide +kernel
theorem dX4_orderFaces_57 : decode cX4_orderFaces 57 = .ok (.iload_n 1, 1) := by decide +kernel
theorem dX4_orderFaces_58 : decode cX4_orderFaces 58 = .ok (.iastore, 1) := by decide +kernel
theorem dX4_orderFaces_59 : decode cX4_orderFaces 59 = .ok (.iinc 1 1, 3) := by decide +kernel
theorem dX4_orderFaces_62 : decode cX4_orderFaces 62 = .ok (.goto (-60), 3) := by decide +kernel
theorem dX4_orderFaces_65 : decode cX4_orderFaces 65 = .ok (.return_, 1) := by decide +kernel
theorem dX4_faceFrom_0 : decode cX4_faceFrom 0 = .ok (.iconst (-1), 1) := by decide +kernel
theorem dX4_faceFrom_1 : decode cX4_faceFrom 1 = .ok (.istore_n 3, 1) := by decide +kernel
theorem dX4_faceFrom_2 : decode cX4_faceFrom 2 = .ok (.iconst 0, 1) := by decide +kernel
theorem dX4_faceFrom_3 : decode cX4_faceFrom 3 = .ok (.istore 4, 2) := by decide +kernel
theorem dX4_faceFrom_5 : decode cX4_faceFrom 5 = .ok (.iload 4, 2) := by decide +kernel
theorem dX4_faceFrom_7 : decode cX4_faceFrom 7 = .ok (.aload_n 0, 1) := by decide +kernel
theorem dX4_faceFrom_8 : decode cX4_faceFrom 8 = .ok (.getfield 91, 3) := by decide +kernel
theorem dX4_faceFrom_11 : decode cX4_faceFrom 11 = .ok (.if_icmp .ge 102, 3) := by decide +kernel
theorem dX4_faceFrom_14 : decode cX4_faceFrom 14 = .ok (.aload_n 0, 1) := by decide +kernel
theorem dX4_faceFrom_15 : decode cX4_faceFrom 15 = .ok (.getfield 47, 3) := by decide +kernel
theorem dX4_faceFrom_18 : decode cX4_faceFrom 18 = .ok (.iload 4, 2) := by decide +kernel
theorem dX4_faceFrom_20 : decode cX4_faceFrom 20 = .ok (.iaload, 1) := by decide +kernel
theorem dX4_faceFrom_21 : decode cX4_faceFrom 21 = .ok (.istore 5, 2) := by decide +kernel
theorem dX4_faceFrom_23 : decode cX4_faceFrom 23 = .ok (.iconst 0, 1) := by decide +kernel
theorem dX4_faceFrom_24 : decode cX4_faceFrom 24 = .ok (.istore 6, 2) := by decide +kernel
theorem dX4_faceFrom_26 : decode cX4_faceFrom 26 = .ok (.iload 6, 2) := by decide +kernel
theorem dX4_faceFrom_28 : decode cX4_faceFrom 28 = .ok (.aload_n 0, 1) := by decide +kernel
theorem dX4_faceFrom_29 : decode cX4_faceFrom 29 = .ok (.getfield 41, 3) := by decide +kernel
theorem dX4_faceFrom_32 : decode cX4_faceFrom 32 = .ok (.iload 5, 2) := by decide +kernel
theorem dX4_faceFrom_34 : decode cX4_faceFrom 34 = .ok (.iaload, 1) := by decide +kernel
theorem dX4_faceFrom_35 : decode cX4_faceFrom 35 = .ok (.if_icmp .ge 72, 3) := by decide +kernel
theorem dX4_faceFrom_38 : decode cX4_faceFrom 38 = .ok (.aload_n 0, 1) := by decide +kernel
theorem dX4_faceFrom_39 : decode cX4_faceFrom 39 = .ok (.getfield 44, 3) := by decide +kernel
theorem dX4_faceFrom_42 : decode cX4_faceFrom 42 = .ok (.bipush 24, 2) := by decide +kernel
theorem dX4_faceFrom_44 : decode cX4_faceFrom 44 = .ok (.iload 5, 2) := by decide +kernel
theorem dX4_faceFrom_46 : decode cX4_faceFrom 46 = .ok (.imul, 1) := by decide +kernel
theorem dX4_faceFrom_47 : decode cX4_faceFrom 47 = .ok (.iload 6, 2) := by decide +kernel
theorem dX4_faceFrom_49 : decode cX4_faceFrom 49 = .ok (.iadd, 1) := by decide +kernel
theorem dX4_faceFrom_50 : decode cX4_faceFrom 50 = .ok (.iaload, 1) := by decide +kernel
theorem dX4_faceFrom_51 : decode cX4_faceFrom 51 = .ok (.iload_n 1, 1) := by decide +kernel
theorem dX4_faceFrom_52 : decode cX4_faceFrom 52 = .ok (.if_icmp .ne 34, 3) := by decide +kernel
theorem dX4_faceFrom_55 : decode cX4_faceFrom 55 = .ok (.aload_n 0, 1) := by decide +kernel
theorem dX4_faceFrom_56 : decode cX4_faceFrom 56 = .ok (.getfield 44, 3) := by decide +kernel
theorem dX4_faceFrom_59 : decode cX4_faceFrom 59 = .ok (.bipush 24, 2) := by decide +kernel
theorem dX4_faceFrom_61 : decode cX4_faceFrom 61 = .ok (.iload 5, 2) := by decide +kernel
theorem dX4_faceFrom_63 : decode cX4_faceFrom 63 = .ok (.imul, 1) := by decide +kernel
theorem dX4_faceFrom_64 : decode cX4_faceFrom 64 = .ok (.iload 6, 2) := by decide +kernel
theorem dX4_faceFrom_66 : decode cX4_faceFrom 66 = .ok (.iconst 1, 1) := by decide +kernel
theorem dX4_faceFrom_67 : decode cX4_faceFrom 67 = .ok (.iadd, 1) := by decide +kernel
theorem dX4_faceFrom_68 : decode cX4_faceFrom 68 = .ok (.aload_n 0, 1) := by decide +kernel
theorem dX4_faceFrom_69 : decode cX4_faceFrom 69 = .ok (.getfield 41, 3) := by decide +kernel
theorem dX4_faceFrom_72 : decode cX4_faceFrom 72 = .ok (.iload 5, 2) := by decide +kernel
theorem dX4_faceFrom_74 : decode cX4_faceFrom 74 = .ok (.iaload, 1) := by decide +kernel
theorem dX4_faceFrom_75 : decode cX4_faceFrom 75 = .ok (.irem, 1) := by decide +kernel
theorem dX4_faceFrom_76 : decode cX4_faceFrom 76 = .ok (.iadd, 1) := by decide +kernel
theorem dX4_faceFrom_77 : decode cX4_faceFrom 77 = .ok (.iaload, 1) := by decide +kernel
theorem dX4_faceFrom_78 : decode cX4_faceFrom 78 = .ok (.iload_n 2, 1) := by decide +kernel
theorem dX4_faceFrom_79 : decode cX4_faceFrom 79 = .ok (.if_icmp .ne 7, 3) := by decide +kernel
theorem dX4_faceFrom_82 : decode cX4_faceFrom 82 = .ok (.iconst 1, 1) := by decide +kernel
theorem dX4_faceFrom_83 : decode cX4_faceFrom 83 = .ok (.goto 4, 3) := by decide +kernel
theorem dX4_faceFrom_86 : decode cX4_faceFrom 86 = .ok (.iconst 0, 1) := by decide +kernel
theorem dX4_faceFrom_87 : decode cX4_faceFrom 87 = .ok (.istore 7, 2) := by decide +kernel
theorem dX4_faceFrom_89 : decode cX4_faceFrom 89 = .ok (.iload 7, 2) := by decide +kernel
theorem dX4_faceFrom_91 : decode cX4_faceFrom 91 = .ok (.ifCond .eq 8, 3) := by decide +kernel
theorem dX4_faceFrom_94 : decode cX4_faceFrom 94 = .ok (.iload 4, 2) := by decide +kernel
theorem dX4_faceFrom_96 : decode cX4_faceFrom 96 = .ok (.goto 4, 3) := by decide +kernel
theorem dX4_faceFrom_99 : decode cX4_faceFrom 99 = .ok (.iload_n 3, 1) := by decide +kernel
theorem dX4_faceFrom_100 : decode cX4_faceFrom 100 = .ok (.istore_n 3, 1) := by decide +kernel
theorem dX4_faceFrom_101 : decode cX4_faceFrom 101 = .ok (.iinc 6 1, 3) := by decide +kernel
theorem dX4_faceFrom_104 : decode cX4_faceFrom 104 = .ok (.goto (-78), 3) := by decide +kernel
theorem dX4_faceFrom_107 : decode cX4_faceFrom 107 = .ok (.iinc 4 1, 3) := by decide +kernel
theorem dX4_faceFrom_110 : decode cX4_faceFrom 110 = .ok (.goto (-105), 3) := by decide +kernel
theorem dX4_faceFrom_113 : decode cX4_faceFrom 113 = .ok (.iload_n 3, 1) := by decide +kernel
theorem dX4_faceFrom_114 : decode cX4_faceFrom 114 = .ok (.ireturn, 1) := by decide +kernel
set_option maxRecDepth 20000 in
theorem ggX4_findEdges_X4_faceFrom : GoodIn wsX4_findEdges wsX4_faceFrom := goodIn_r _ [10, 11, 12, 13, 14, 15, 16, 17, 18, 19, 20, 21, 22, 23, 24, 25, 26, 27, 28, 29, 30, 31, 32, 33, 34, 35, 36, 37, 38, 39, 40, 41] (by decide +kernel) (by decide +kernel)
set_option maxRecDepth 20000 in
theorem gX4_findEdges_X4_faceFrom : GoodIn wsX4_findEdges (wsV RX4 135 RX4 yX4_faceFrom wsX4_faceFrom) := goodIn_app (goodIn_of _ (by decide +kernel)) ggX4_findEdges_X4_faceFrom
theorem dX4_findEdges_0 : decode cX4_findEdges 0 = .ok (.aload_n 0, 1) := by decide +kernel
theorem dX4_findEdges_1 : decode cX4_findEdges 1 = .ok (.iconst 0, 1) := by decide +kernel
theorem dX4_findEdges_2 : decode cX4_findEdges 2 = .ok (.putfield 132, 3) := by decide +kernel
theorem dX4_findEdges_5 : decode cX4_findEdges 5 = .ok (.iconst 0, 1) := by decide +kernel
theorem dX4_findEdges_6 : decode cX4_findEdges 6 = .ok (.istore_n 1, 1) := by decide +kernel
theorem dX4_findEdges_7 : decode cX4_findEdges 7 = .ok (.iload_n 1, 1) := by decide +kernel
theorem dX4_findEdges_8 : decode cX4_findEdges 8 = .ok (.aload_n 0, 1) := by decide +kernel
theorem dX4_findEdges_9 : decode cX4_findEdges 9 = .ok (.getfield 98, 3) := by decide +kernel
theorem dX4_findEdges_12 : decode cX4_findEdges 12 = .ok (.if_icmp .ge 88, 3) := by decide +kernel
theorem dX4_findEdges_15 : decode cX4_findEdges 15 = .ok (.iload_n 1, 1) := by decide +kernel
theorem dX4_findEdges_16 : decode cX4_findEdges 16 = .ok (.iconst 1, 1) := by decide +kernel
theorem dX4_findEdges_17 : decode cX4_findEdges 17 = .ok (.iadd, 1) := by decide +kernel
theorem dX4_findEdges_18 : decode cX4_findEdges 18 = .ok (.istore_n 2, 1) := by decide +kernel
theorem dX4_findEdges_19 : decode cX4_findEdges 19 = .ok (.iload_n 2, 1) := by decide +kernel
theorem dX4_findEdges_20 : decode cX4_findEdges 20 = .ok (.aload_n 0, 1) := by decide +kernel
theorem dX4_findEdges_21 : decode cX4_findEdges 21 = .ok (.getfield 98, 3) := by decide +kernel
theorem dX4_findEdges_24 : decode cX4_findEdges 24 = .ok (.if_icmp .ge 70, 3) := by decide +kernel
theorem dX4_findEdges_27 : decode cX4_findEdges 27 = .ok (.aload_n 0, 1) := by decide +kernel
theorem dX4_findEdges_28 : decode cX4_findEdges 28 = .ok (.iload_n 1, 1) := by decide +kernel
theorem dX4_findEdges_29 : decode cX4_findEdges 29 = .ok (.iload_n 2, 1) := by decide +kernel
theorem dX4_findEdges_30 : decode cX4_findEdges 30 = .ok (.invokevirtual 135, 3) := by decide +kernel
theorem dX4_findEdges_33 : decode cX4_findEdges 33 = .ok (.istore_n 3, 1) := by decide +kernel
theorem dX4_findEdges_34 : decode cX4_findEdges 34 = .ok (.iload_n 3, 1) := by decide +kernel
theorem dX4_findEdges_35 : decode cX4_findEdges 35 = .ok (.ifCond .lt 53, 3) := by decide +kernel
theorem dX4_findEdges_38 : decode cX4_findEdges 38 = .ok (.aload_n 0, 1) := by decide +kernel
theorem dX4_findEdges_39 : decode cX4_findEdges 39 = .ok (.getfield 50, 3) := by decide +kernel
theorem dX4_findEdges_42 : decode cX4_findEdges 42 = .ok (.aload_n 0, 1) := by decide +kernel
theorem dX4_findEdges_43 : decode cX4_findEdges 43 = .ok (.getfield 132, 3) := by decide +kernel
theorem dX4_findEdges_46 : decode cX4_findEdges 46 = .ok (.bipush 32, 2) := by decide +kernel
theorem dX4_findEdges_48 : decode cX4_findEdges 48 = .ok (.iload_n 1, 1) := by decide +kernel
theorem dX4_findEdges_49 : decode cX4_findEdges 49 = .ok (.imul, 1) := by decide +kernel
theorem dX4_findEdges_50 : decode cX4_findEdges 50 = .ok (.iload_n 2, 1) := by decide +kernel
theorem dX4_findEdges_51 : decode cX4_findEdges 51 = .ok (.iadd, 1) := by decide +kernel
theorem dX4_findEdges_52 : decode cX4_findEdges 52 = .ok (.iastore, 1) := by decide +kernel
theorem dX4_findEdges_53 : decode cX4_findEdges 53 = .ok (.aload_n 0, 1) := by decide +kernel
theorem dX4_findEdges_54 : decode cX4_findEdges 54 = .ok (.getfield 53, 3) := by decide +kernel
theorem dX4_findEdges_57 : decode cX4_findEdges 57 = .ok (.aload_n 0, 1) := by decide +kernel
theorem dX4_findEdges_58 : decode cX4_findEdges 58 = .ok (.getfield 132, 3) := by decide +kernel
theorem dX4_findEdges_61 : decode cX4_findEdges 61 = .ok (.iload_n 3, 1) := by decide +kernel
theorem dX4_findEdges_62 : decode cX4_findEdges 62 = .ok (.iastore, 1) := by decide +kernel
theorem dX4_findEdges_63 : decode cX4_findEdges 63 = .ok (.aload_n 0, 1) := by decide +kernel
theorem dX4_findEdges_64 : decode cX4_findEdges 64 = .ok (.getfield 56, 3) := by decide +kernel
theorem dX4_findEdges_67 : decode cX4_findEdges 67 = .ok (.aload_n 0, 1) := by decide +kernel
theorem dX4_findEdges_68 : decode cX4_findEdges 68 = .ok (.getfield 132, 3) := by decide +kernel
theorem dX4_findEdges_71 : decode cX4_findEdges 71 = .ok (.aload_n 0, 1) := by decide +kernel
theorem dX4_findEdges_72 : decode cX4_findEdges 72 = .ok (.iload_n 2, 1) := by decide +kernel
theorem dX4_findEdges_73 : decode cX4_findEdges 73 = .ok (.iload_n 1, 1) := by decide +kernel
theorem dX4_findEdges_74 : decode cX4_findEdges 74 = .ok (.invokevirtual 135, 3) := by decide +kernel
theorem dX4_findEdges_77 : decode cX4_findEdges 77 = .ok (.iastore, 1) := by decide +kernel
theorem dX4_findEdges_78 : decode cX4_findEdges 78 = .ok (.aload_n 0, 1) := by decide +kernel
theorem dX4_findEdges_79 : decode cX4_findEdges 79 = .ok (.dup, 1) := by decide +kernel
theorem dX4_findEdges_80 : decode cX4_findEdges 80 = .ok (.getfield 132, 3) := by decide +kernel
theorem dX4_findEdges_83 : decode cX4_findEdges 83 = .ok (.iconst 1, 1) := by decide +kernel
theorem dX4_findEdges_84 : decode cX4_findEdges 84 = .ok (.iadd, 1) := by decide +kernel
theorem dX4_findEdges_85 : decode cX4_findEdges 85 = .ok (.putfield 132, 3) := by decide +kernel
theorem dX4_findEdges_88 : decode cX4_findEdges 88 = .ok (.iinc 2 1, 3) := by decide +kernel
theorem dX4_findEdges_91 : decode cX4_findEdges 91 = .ok (.goto (-72), 3) := by decide +kernel
theorem dX4_findEdges_94 : decode cX4_findEdges 94 = .ok (.iinc 1 1, 3) := by decide +kernel
theorem dX4_findEdges_97 : decode cX4_findEdges 97 = .ok (.goto (-90), 3) := by decide +kernel
theorem dX4_findEdges_100 : decode cX4_findEdges 100 = .ok (.return_, 1) := by decide +kernel
set_option maxRecDepth 20000 in
theorem ggX4_solid_X4_volumeOf : GoodIn wsX4_solid wsX4_volumeOf := goodIn_r _ [6, 7, 8, 9, 10, 11, 12, 13, 14, 15, 16, 17, 18, 19, 20, 21, 22, 23, 24, 25, 26, 27, 28, 29, 30, 31, 32, 33, 34, 35, 36] (by decide +kernel) (by decide +kernel)
set_option maxRecDepth 20000 in
theorem gX4_solid_X4_volumeOf : GoodIn wsX4_solid (wsV RX4 138 RX4 yX4_volumeOf wsX4_volumeOf) := goodIn_app (goodIn_of _ (by decide +kernel)) ggX4_solid_X4_volumeOf
theorem dX4_solid_0 : decode cX4_solid 0 = .ok (.iconst 0, 1) := by decide +kernel
theorem dX4_solid_1 : decode cX4_solid 1 = .ok (.istore_n 1, 1) := by decide +kernel
theorem dX4_solid_2 : decode cX4_solid 2 = .ok (.iconst 0, 1) := by decide +kernel
theorem dX4_solid_3 : decode cX4_solid 3 = .ok (.istore_n 2, 1) := by decide +kernel
theorem dX4_solid_4 : decode cX4_solid 4 = .ok (.iload_n 2, 1) := by decide +kernel
theorem dX4_solid_5 : decode cX4_solid 5 = .ok (.aload_n 0, 1) := by decide +kernel
theorem dX4_solid_6 : decode cX4_solid 6 = .ok (.getfield 66, 3) := by decide +kernel
theorem dX4_solid_9 : decode cX4_solid 9 = .ok (.if_icmp .ge 93, 3) := by decide +kernel
theorem dX4_solid_12 : decode cX4_solid 12 = .ok (.iload_n 2, 1) := by decide +kernel
theorem dX4_solid_13 : decode cX4_solid 13 = .ok (.iconst 1, 1) := by decide +kernel
theorem dX4_solid_14 : decode cX4_solid 14 = .ok (.iadd, 1) := by decide +kernel
theorem dX4_solid_15 : decode cX4_solid 15 = .ok (.istore_n 3, 1) := by decide +kernel
theorem dX4_solid_16 : decode cX4_solid 16 = .ok (.iload_n 3, 1) := by decide +kernel
theorem dX4_solid_17 : decode cX4_solid 17 = .ok (.aload_n 0, 1) := by decide +kernel
theorem dX4_solid_18 : decode cX4_solid 18 = .ok (.getfield 66, 3) := by decide +kernel
theorem dX4_solid_21 : decode cX4_solid 21 = .ok (.if_icmp .ge 75, 3) := by decide +kernel
theorem dX4_solid_24 : decode cX4_solid 24 = .ok (.iload_n 3, 1) := by decide +kernel
theorem dX4_solid_25 : decode cX4_solid 25 = .ok (.iconst 1, 1) := by decide +kernel
theorem dX4_solid_26 : decode cX4_solid 26 = .ok (.iadd, 1) := by decide +kernel
theorem dX4_solid_27 : decode cX4_solid 27 = .ok (.istore 4, 2) := by decide +kernel
theorem dX4_solid_29 : decode cX4_solid 29 = .ok (.iload 4, 2) := by decide +kernel
theorem dX4_solid_31 : decode cX4_solid 31 = .ok (.aload_n 0, 1) := by decide +kernel
theorem dX4_solid_32 : decode cX4_solid 32 = .ok (.getfield 66, 3) := by decide +kernel
theorem dX4_solid_35 : decode cX4_solid 35 = .ok (.if_icmp .ge 55, 3) := by decide +kernel
theorem dX4_solid_38 : decode cX4_solid 38 = .ok (.iload 4, 2) := by decide +kernel
theorem dX4_solid_40 : decode cX4_solid 40 = .ok (.iconst 1, 1) := by decide +kernel
theorem dX4_solid_41 : decode cX4_solid 41 = .ok (.iadd, 1) := by decide +kernel
theorem dX4_solid_42 : decode cX4_solid 42 = .ok (.istore 5, 2) := by decide +kernel
theorem dX4_solid_44 : decode cX4_solid 44 = .ok (.iload 5, 2) := by decide +kernel
theorem dX4_solid_46 : decode cX4_solid 46 = .ok (.aload_n 0, 1) := by decide +kernel
theorem dX4_solid_47 : decode cX4_solid 47 = .ok (.getfield 66, 3) := by decide +kernel
theorem dX4_solid_50 : decode cX4_solid 50 = .ok (.if_icmp .ge 34, 3) := by decide +kernel
theorem dX4_solid_53 : decode cX4_solid 53 = .ok (.iload_n 1, 1) := by decide +kernel
theorem dX4_solid_54 : decode cX4_solid 54 = .ok (.ifCond .ne 30, 3) := by decide +kernel
theorem dX4_solid_57 : decode cX4_solid 57 = .ok (.aload_n 0, 1) := by decide +kernel
theorem dX4_solid_58 : decode cX4_solid 58 = .ok (.iload_n 2, 1) := by decide +kernel
theorem dX4_solid_59 : decode cX4_solid 59 = .ok (.iload_n 3, 1) := by decide +kernel
theorem dX4_solid_60 : decode cX4_solid 60 = .ok (.iload 4, 2) := by decide +kernel
theorem dX4_solid_62 : decode cX4_solid 62 = .ok (.iload 5, 2) := by decide +kernel
theorem dX4_solid_64 : decode cX4_solid 64 = .ok (.invokevirtual 138, 3) := by decide +kernel
theorem dX4_solid_67 : decode cX4_solid 67 = .ok (.lconst 0, 1) := by decide +kernel
theorem dX4_solid_68 : decode cX4_solid 68 = .ok (.lcmp, 1) := by decide +kernel
theorem dX4_solid_69 : decode cX4_solid 69 = .ok (.ifCond .eq 7, 3) := by decide +kernel
theorem dX4_solid_72 : decode cX4_solid 72 = .ok (.iconst 1, 1) := by decide +kernel
theorem dX4_solid_73 : decode cX4_solid 73 = .ok (.goto 4, 3) := by decide +kernel
theorem dX4_solid_76 : decode cX4_solid 76 = .ok (.iconst 0, 1) := by decide +kernel
theorem dX4_solid_77 : decode cX4_solid 77 = .ok (.istore_n 1, 1) := by decide +kernel
theorem dX4_solid_78 : decode cX4_solid 78 = .ok (.iinc 5 1, 3) := by decide +kernel
theorem dX4_solid_81 : decode cX4_solid 81 = .ok (.goto (-37), 3) := by decide +kernel
theorem dX4_solid_84 : decode cX4_solid 84 = .ok (.iinc 4 1, 3) := by decide +kernel
theorem dX4_solid_87 : decode cX4_solid 87 = .ok (.goto (-58), 3) := by decide +kernel
theorem dX4_solid_90 : decode cX4_solid 90 = .ok (.iinc 3 1, 3) := by decide +kernel
theorem dX4_solid_93 : decode cX4_solid 93 = .ok (.goto (-77), 3) := by decide +kernel
theorem dX4_solid_96 : decode cX4_solid 96 = .ok (.iinc 2 1, 3) := by decide +kernel
theorem dX4_solid_99 : decode cX4_solid 99 = .ok (.goto (-95), 3) := by decide +kernel
theorem dX4_solid_102 : decode cX4_solid 102 = .ok (.iload_n 1, 1) := by decide +kernel
theorem dX4_solid_103 : decode cX4_solid 103 = .ok (.ireturn, 1) := by decide +kernel
theorem dX4_volumeOf_0 : decode cX4_volumeOf 0 = .ok (.aload_n 0, 1) := by decide +kernel
theorem dX4_volumeOf_1 : decode cX4_volumeOf 1 = .ok (.getfield 7, 3) := by decide +kernel
theorem dX4_volumeOf_4 : decode cX4_volumeOf 4 = .ok (.iload_n 2, 1) := by decide +kernel
theorem dX4_volumeOf_5 : decode cX4_volumeOf 5 = .ok (.iaload, 1) := by decide +kernel
theorem dX4_volumeOf_6 : decode cX4_volumeOf 6 = .ok (.aload_n 0, 1) := by decide +kernel
theorem dX4_volumeOf_7 : decode cX4_volumeOf 7 = .ok (.getfield 7, 3) := by decide +kernel
theorem dX4_volumeOf_10 : decode cX4_volumeOf 10 = .ok (.iload_n 1, 1) := by decide +kernel
theorem dX4_volumeOf_11 : decode cX4_volumeOf 11 = .ok (.iaload, 1) := by decide +kernel
theorem dX4_volumeOf_12 : decode cX4_volumeOf 12 = .ok (.isub, 1) := by decide +kernel
theorem dX4_volumeOf_13 : decode cX4_volumeOf 13 = .ok (.i2l, 1) := by decide +kernel
theorem dX4_volumeOf_14 : decode cX4_volumeOf 14 = .ok (.lstore 5, 2) := by decide +kernel
theorem dX4_volumeOf_16 : decode cX4_volumeOf 16 = .ok (.aload_n 0, 1) := by decide +kernel
theorem dX4_volumeOf_17 : decode cX4_volumeOf 17 = .ok (.getfield 13, 3) := by decide +kernel
theorem dX4_volumeOf_20 : decode cX4_volumeOf 20 = .ok (.iload_n 2, 1) := by decide +kernel
theorem dX4_volumeOf_21 : decode cX4_volumeOf 21 = .ok (.iaload, 1) := by decide +kernel
theorem dX4_volumeOf_22 : decode cX4_volumeOf 22 = .ok (.aload_n 0, 1) := by decide +kernel
theorem dX4_volumeOf_23 : decode cX4_volumeOf 23 = .ok (.getfield 13, 3) := by decide +kernel
theorem dX4_volumeOf_26 : decode cX4_volumeOf 26 = .ok (.iload_n 1, 1) := by decide +kernel
theorem dX4_volumeOf_27 : decode cX4_volumeOf 27 = .ok (.iaload, 1) := by decide +kernel
theorem dX4_volumeOf_28 : decode cX4_volumeOf 28 = .ok (.isub, 1) := by decide +kernel
theorem dX4_volumeOf_29 : decode cX4_volumeOf 29 = .ok (.i2l, 1) := by decide +kernel
theorem dX4_volumeOf_30 : decode cX4_volumeOf 30 = .ok (.lstore 7, 2) := by decide +kernel
theorem dX4_volumeOf_32 : decode cX4_volumeOf 32 = .ok (.aload_n 0, 1) := by decide +kernel
theorem dX4_volumeOf_33 : decode cX4_volumeOf 33 = .ok (.getfield 16, 3) := by decide +kernel
theorem dX4_volumeOf_36 : decode cX4_volumeOf 36 = .ok (.iload_n 2, 1) := by decide +kernel
theorem dX4_volumeOf_37 : decode cX4_volumeOf 37 = .ok (.iaload, 1) := by decide +kernel
theorem dX4_volumeOf_38 : decode cX4_volumeOf 38 = .ok (.aload_n 0, 1) := by decide +kernel
theorem dX4_volumeOf_39 : decode cX4_volumeOf 39 = .ok (.getfield 16, 3) := by decide +kernel
theorem dX4_volumeOf_42 : decode cX4_volumeOf 42 = .ok (.iload_n 1, 1) := by decide +kernel
theorem dX4_volumeOf_43 : decode cX4_volumeOf 43 = .ok (.iaload, 1) := by decide +kernel
theorem dX4_volumeOf_44 : decode cX4_volumeOf 44 = .ok (.isub, 1) := by decide +kernel
theorem dX4_volumeOf_45 : decode cX4_volumeOf 45 = .ok (.i2l, 1) := by decide +kernel
theorem dX4_volumeOf_46 : decode cX4_volumeOf 46 = .ok (.lstore 9, 2) := by decide +kernel
theorem dX4_volumeOf_48 : decode cX4_volumeOf 48 = .ok (.aload_n 0, 1) := by decide +kernel
theorem dX4_volumeOf_49 : decode cX4_volumeOf 49 = .ok (.getfield 7, 3) := by decide +kernel
theorem dX4_volumeOf_52 : decode cX4_volumeOf 52 = .ok (.iload_n 3, 1) := by decide +kernel
theorem dX4_volumeOf_53 : decode cX4_volumeOf 53 = .ok (.iaload, 1) := by decide +kernel
theorem dX4_volumeOf_54 : decode cX4_volumeOf 54 = .ok (.aload_n 0, 1) := by decide +kernel
theorem dX4_volumeOf_55 : decode cX4_volumeOf 55 = .ok (.getfield 7, 3) := by decide +kernel
theorem dX4_volumeOf_58 : decode cX4_volumeOf 58 = .ok (.iload_n 1, 1) := by decide +kernel
theorem dX4_volumeOf_59 : decode cX4_volumeOf 59 = .ok (.iaload, 1) := by decide +kernel
theorem dX4_volumeOf_60 : decode cX4_volumeOf 60 = .ok (.isub, 1) := by decide +kernel
theorem dX4_volumeOf_61 : decode cX4_volumeOf 61 = .ok (.i2l, 1) := by decide +kernel
theorem dX4_volumeOf_62 : decode cX4_volumeOf 62 = .ok (.lstore 11, 2) := by decide +kernel
theorem dX4_volumeOf_64 : decode cX4_volumeOf 64 = .ok (.aload_n 0, 1) := by decide +kernel
theorem dX4_volumeOf_65 : decode cX4_volumeOf 65 = .ok (.getfield 13, 3) := by decide +kernel
theorem dX4_volumeOf_68 : decode cX4_volumeOf 68 = .ok (.iload_n 3, 1) := by decide +kernel
theorem dX4_volumeOf_69 : decode cX4_volumeOf 69 = .ok (.iaload, 1) := by decide +kernel
theorem dX4_volumeOf_70 : decode cX4_volumeOf 70 = .ok (.aload_n 0, 1) := by decide +kernel
theorem dX4_volumeOf_71 : decode cX4_volumeOf 71 = .ok (.getfield 13, 3) := by decide +kernel
theorem dX4_volumeOf_74 : decode cX4_volumeOf 74 = .ok (.iload_n 1, 1) := by decide +kernel
theorem dX4_volumeOf_75 : decode cX4_volumeOf 75 = .ok (.iaload, 1) := by decide +kernel
theorem dX4_volumeOf_76 : decode cX4_volumeOf 76 = .ok (.isub, 1) := by decide +kernel
theorem dX4_volumeOf_77 : decode cX4_volumeOf 77 = .ok (.i2l, 1) := by decide +kernel
theorem dX4_volumeOf_78 : decode cX4_volumeOf 78 = .ok (.lstore 13, 2) := by decide +kernel
theorem dX4_volumeOf_80 : decode cX4_volumeOf 80 = .ok (.aload_n 0, 1) := by decide +kernel
theorem dX4_volumeOf_81 : decode cX4_volumeOf 81 = .ok (.getfield 16, 3) := by decide +kernel
theorem dX4_volumeOf_84 : decode cX4_volumeOf 84 = .ok (.iload_n 3, 1) := by decide +kernel
theorem dX4_volumeOf_85 : decode cX4_volumeOf 85 = .ok (.iaload, 1) := by decide +kernel
theorem dX4_volumeOf_86 : decode cX4_volumeOf 86 = .ok (.aload_n 0, 1) := by decide +kernel
theorem dX4_volumeOf_87 : decode cX4_volumeOf 87 = .ok (.getfield 16, 3) := by decide +kernel
theorem dX4_volumeOf_90 : decode cX4_volumeOf 90 = .ok (.iload_n 1, 1) := by decide +kernel
theorem dX4_volumeOf_91 : decode cX4_volumeOf 91 = .ok (.iaload, 1) := by decide +kernel
theorem dX4_volumeOf_92 : decode cX4_volumeOf 92 = .ok (.isub, 1) := by decide +kernel
theorem dX4_volumeOf_93 : decode cX4_volumeOf 93 = .ok (.i2l, 1) := by decide +kernel
theorem dX4_volumeOf_94 : decode cX4_volumeOf 94 = .ok (.lstore 15, 2) := by decide +kernel
theorem dX4_volumeOf_96 : decode cX4_volumeOf 96 = .ok (.aload_n 0, 1) := by decide +kernel
theorem dX4_volumeOf_97 : decode cX4_volumeOf 97 = .ok (.getfield 7, 3) := by decide +kernel
theorem dX4_volumeOf_100 : decode cX4_volumeOf 100 = .ok (.iload 4, 2) := by decide +kernel
theorem dX4_volumeOf_102 : decode cX4_volumeOf 102 = .ok (.iaload, 1) := by decide +kernel
theorem dX4_volumeOf_103 : decode cX4_volumeOf 103 = .ok (.aload_n 0, 1) := by decide +kernel
theorem dX4_volumeOf_104 : decode cX4_volumeOf 104 = .ok (.getfield 7, 3) := by decide +kernel
theorem dX4_volumeOf_107 : decode cX4_volumeOf 107 = .ok (.iload_n 1, 1) := by decide +kernel
theorem dX4_volumeOf_108 : decode cX4_volumeOf 108 = .ok (.iaload, 1) := by decide +kernel
theorem dX4_volumeOf_109 : decode cX4_volumeOf 109 = .ok (.isub, 1) := by decide +kernel
theorem dX4_volumeOf_110 : decode cX4_volumeOf 110 = .ok (.i2l, 1) := by decide +kernel
theorem dX4_volumeOf_111 : decode cX4_volumeOf 111 = .ok (.lstore 17, 2) := by decide +kernel
theorem dX4_volumeOf_113 : decode cX4_volumeOf 113 = .ok (.aload_n 0, 1) := by decide +kernel
theorem dX4_volumeOf_114 : decode cX4_volumeOf 114 = .ok (.getfield 13, 3) := by decide +kernel
theorem dX4_volumeOf_117 : decode cX4_volumeOf 117 = .ok (.iload 4, 2) := by decide +kernel
theorem dX4_volumeOf_119 : decode cX4_volumeOf 119 = .ok (.iaload, 1) := by decide +kernel
theorem dX4_volumeOf_120 : decode cX4_volumeOf 120 = .ok (.aload_n 0, 1) := by decide +kernel
theorem dX4_volumeOf_121 : decode cX4_volumeOf 121 = .ok (.getfield 13, 3) := by decide +kernel
theorem dX4_volumeOf_124 : decode cX4_volumeOf 124 = .ok (.iload_n 1, 1) := by decide +kernel
theorem dX4_volumeOf_125 : decode cX4_volumeOf 125 = .ok (.iaload, 1) := by decide +kernel
theorem dX4_volumeOf_126 : decode cX4_volumeOf 126 = .ok (.isub, 1) := by decide +kernel
theorem dX4_volumeOf_127 : decode cX4_volumeOf 127 = .ok (.i2l, 1) := by decide +kernel
theorem dX4_volumeOf_128 : decode cX4_volumeOf 128 = .ok (.lstore 19, 2) := by decide +kernel
theorem dX4_volumeOf_130 : decode cX4_volumeOf 130 = .ok (.aload_n 0, 1) := by decide +kernel
theorem dX4_volumeOf_131 : decode cX4_volumeOf 131 = .ok (.getfield 16, 3) := by decide +kernel
theorem dX4_volumeOf_134 : decode cX4_volumeOf 134 = .ok (.iload 4, 2) := by decide +kernel
theorem dX4_volumeOf_136 : decode cX4_volumeOf 136 = .ok (.iaload, 1) := by decide +kernel
theorem dX4_volumeOf_137 : decode cX4_volumeOf 137 = .ok (.aload_n 0, 1) := by decide +kernel
theorem dX4_volumeOf_138 : decode cX4_volumeOf 138 = .ok (.getfield 16, 3) := by decide +kernel
theorem dX4_volumeOf_141 : decode cX4_volumeOf 141 = .ok (.iload_n 1, 1) := by decide +kernel
theorem dX4_volumeOf_142 : decode cX4_volumeOf 142 = .ok (.iaload, 1) := by decide +kernel
theorem dX4_volumeOf_143 : decode cX4_volumeOf 143 = .ok (.isub, 1) := by decide +kernel
theorem dX4_volumeOf_144 : decode cX4_volumeOf 144 = .ok (.i2l, 1) := by decide +kernel
theorem dX4_volumeOf_145 : decode cX4_volumeOf 145 = .ok (.lstore 21, 2) := by decide +kernel
theorem dX4_volumeOf_147 : decode cX4_volumeOf 147 = .ok (.lload 7, 2) := by decide +kernel
theorem dX4_volumeOf_149 : decode cX4_volumeOf 149 = .ok (.lload 15, 2) := by decide +kernel
theorem dX4_volumeOf_151 : decode cX4_volumeOf 151 = .ok (.lmul, 1) := by decide +kernel
theorem dX4_volumeOf_152 : decode cX4_volumeOf 152 = .ok (.lload 9, 2) := by decide +kernel
theorem dX4_volumeOf_154 : decode cX4_volumeOf 154 = .ok (.lload 13, 2) := by decide +kernel
theorem dX4_volumeOf_156 : decode cX4_volumeOf 156 = .ok (.lmul, 1) := by decide +kernel
theorem dX4_volumeOf_157 : decode cX4_volumeOf 157 = .ok (.lsub, 1) := by decide +kernel
theorem dX4_volumeOf_158 : decode cX4_volumeOf 158 = .ok (.lload 17, 2) := by decide +kernel
theorem dX4_volumeOf_160 : decode cX4_volumeOf 160 = .ok (.lmul, 1) := by decide +kernel
theorem dX4_volumeOf_161 : decode cX4_volumeOf 161 = .ok (.lload 9, 2) := by decide +kernel
theorem dX4_volumeOf_163 : decode cX4_volumeOf 163 = .ok (.lload 11, 2) := by decide +kernel
theorem dX4_volumeOf_165 : decode cX4_volumeOf 165 = .ok (.lmul, 1) := by decide +kernel
theorem dX4_volumeOf_166 : decode cX4_volumeOf 166 = .ok (.lload 5, 2) := by decide +kernel
theorem dX4_volumeOf_168 : decode cX4_volumeOf 168 = .ok (.lload 15, 2) := by decide +kernel
theorem dX4_volumeOf_170 : decode cX4_volumeOf 170 = .ok (.lmul, 1) := by decide +kernel
theorem dX4_volumeOf_171 : decode cX4_volumeOf 171 = .ok (.lsub, 1) := by decide +kernel
theorem dX4_volumeOf_172 : decode cX4_volumeOf 172 = .ok (.lload 19, 2) := by decide +kernel
theorem dX4_volumeOf_174 : decode cX4_volumeOf 174 = .ok (.lmul, 1) := by decide +kernel
theorem dX4_volumeOf_175 : decode cX4_volumeOf 175 = .ok (.ladd, 1) := by decide +kernel
theorem dX4_volumeOf_176 : decode cX4_volumeOf 176 = .ok (.lload 5, 2) := by decide +kernel
theorem dX4_volumeOf_178 : decode cX4_volumeOf 178 = .ok (.lload 13, 2) := by decide +kernel
theorem dX4_volumeOf_180 : decode cX4_volumeOf 180 = .ok (.lmul, 1) := by decide +kernel
theorem dX4_volumeOf_181 : decode cX4_volumeOf 181 = .ok (.lload 7, 2) := by decide +kernel
theorem dX4_volumeOf_183 : decode cX4_volumeOf 183 = .ok (.lload 11, 2) := by decide +kernel
theorem dX4_volumeOf_185 : decode cX4_volumeOf 185 = .ok (.lmul, 1) := by decide +kernel
theorem dX4_volumeOf_186 : decode cX4_volumeOf 186 = .ok (.lsub, 1) := by decide +kernel
theorem dX4_volumeOf_187 : decode cX4_volumeOf 187 = .ok (.lload 21, 2) := by decide +kernel
theorem dX4_volumeOf_189 : decode cX4_volumeOf 189 = .ok (.lmul, 1) := by decide +kernel
theorem dX4_volumeOf_190 : decode cX4_volumeOf 190 = .ok (.ladd, 1) := by decide +kernel
theorem dX4_volumeOf_191 : decode cX4_volumeOf 191 = .ok (.lreturn, 1) := by decide +kernel
set_option maxRecDepth 20000 in
theorem ggX4_build_X4_solid : GoodIn wsX4_build wsX4_solid := goodIn_r _ [16, 1, 17, 18, 19, 15, 20, 4, 6, 8, 96, 97, 98, 99, 100, 101, 102, 103, 104, 105, 106, 107, 108, 109, 110, 111, 112, 113, 114, 115, 116, 117, 118, 119, 120, 121, 122] (by decide +kernel) (by decide +kernel)
set_option maxRecDepth 20000 in
theorem gX4_build_X4_solid : GoodIn wsX4_build (wsV RX4 142 RX4 yX4_solid wsX4_solid) := goodIn_app (goodIn_of _ (by decide +kernel)) ggX4_build_X4_solid
set_option maxRecDepth 20000 in
theorem ggX4_build_X4_goes : GoodIn wsX4_build wsX4_goes := goodIn_r _ [24, 25, 96, 97, 98, 99, 100, 101, 102, 103, 104, 105, 106, 107, 108, 109, 110, 111, 112, 113, 114, 115, 116, 117, 118, 119, 120, 121, 122] (by decide +kernel) (by decide +kernel)
set_option maxRecDepth 20000 in
theorem gX4_build_X4_goes : GoodIn wsX4_build (wsV RX4 77 RX4 yX4_goes wsX4_goes) := goodIn_app (goodIn_of _ (by decide +kernel)) ggX4_build_X4_goes
set_option maxRecDepth 20000 in
theorem ggX4_build_X4_tries : GoodIn wsX4_build wsX4_tries := goodIn_r _ [29, 30, 31, 32, 2, 33, 3, 5, 7, 34, 35, 36, 15, 37, 38, 39, 40, 41, 42, 43, 44, 45, 46, 47, 48, 49, 9, 50, 51, 52, 53, 54, 55, 56, 96, 97, 98, 99, 100, 101, 102, 103, 104, 105, 106, 107, 108, 109, 110, 111, 112, 113, 114, 115, 116, 117, 118, 119, 120, 121, 122] (by decide +kernel) (by decide +kernel)
set_option maxRecDepth 20000 in
theorem gX4_build_X4_tries : GoodIn wsX4_build (wsV RX4 146 RX4 yX4_tries wsX4_tries) := goodIn_app (goodIn_of _ (by decide +kernel)) ggX4_build_X4_tries
set_option maxRecDepth 20000 in
theorem ggX4_build_X4_walk : GoodIn wsX4_build wsX4_walk := goodIn_r _ [60, 61, 62, 63, 64, 65, 15, 66, 49, 3, 50, 5, 51, 7, 52, 67, 68, 69, 70, 2, 71, 72, 73, 74, 30, 31, 32, 34, 35, 36, 37, 96, 97, 98, 99, 100, 101, 102, 103, 104, 105, 106, 107, 108, 109, 110, 111, 112, 113, 114, 115, 116, 117, 118, 119, 120, 121, 122] (by decide +kernel) (by decide +kernel)
set_option maxRecDepth 20000 in
theorem gX4_build_X4_walk : GoodIn wsX4_build (wsV RX4 149 RX4 yX4_walk wsX4_walk) := goodIn_app (goodIn_of _ (by decide +kernel)) ggX4_build_X4_walk
set_option maxRecDepth 20000 in
theorem ggX4_build_X4_orderFaces : GoodIn wsX4_build wsX4_orderFaces := goodIn_r _ [78, 9, 79, 80, 81, 82, 15, 83, 61, 96, 97, 98, 99, 100, 101, 102, 103, 104, 105, 106, 107, 108, 109, 110, 111, 112, 113, 114, 115, 116, 117, 118, 119, 120, 121, 122] (by decide +kernel) (by decide +kernel)
set_option maxRecDepth 20000 in
theorem gX4_build_X4_orderFaces : GoodIn wsX4_build (wsV RX4 153 RX4 yX4_orderFaces wsX4_orderFaces) := goodIn_app (goodIn_of _ (by decide +kernel)) ggX4_build_X4_orderFaces
set_option maxRecDepth 20000 in
theorem ggX4_build_X4_findEdges : GoodIn wsX4_build wsX4_findEdges := goodIn_r _ [87, 88, 2, 89, 90, 91, 92, 93, 94, 15, 95, 9, 79, 62, 61, 96, 97, 98, 99, 100, 101, 102, 103, 104, 105, 106, 107, 108, 109, 110, 111, 112, 113, 114, 115, 116, 117, 118, 119, 120, 121, 122] (by decide +kernel) (by decide +kernel)
set_option maxRecDepth 20000 in
theorem gX4_build_X4_findEdges : GoodIn wsX4_build (wsV RX4 156 RX4 yX4_findEdges wsX4_findEdges) := goodIn_app (goodIn_of _ (by decide +kernel)) ggX4_build_X4_findEdges
theorem dX4_build_0 : decode cX4_build 0 = .ok (.aload_n 0, 1) := by decide +kernel
theorem dX4_build_1 : decode cX4_build 1 = .ok (.aload_n 0, 1) := by decide +kernel
theorem dX4_build_2 : decode cX4_build 2 = .ok (.invokevirtual 142, 3) := by decide +kernel
theorem dX4_build_5 : decode cX4_build 5 = .ok (.iconst 1, 1) := by decide +kernel
theorem dX4_build_6 : decode cX4_build 6 = .ok (.invokevirtual 77, 3) := by decide +kernel
theorem dX4_build_9 : decode cX4_build 9 = .ok (.ifCond .ne 5, 3) := by decide +kernel
theorem dX4_build_12 : decode cX4_build 12 = .ok (.iconst 0, 1) := by decide +kernel
theorem dX4_build_13 : decode cX4_build 13 = .ok (.ireturn, 1) := by decide +kernel
theorem dX4_build_14 : decode cX4_build 14 = .ok (.aload_n 0, 1) := by decide +kernel
theorem dX4_build_15 : decode cX4_build 15 = .ok (.aload_n 0, 1) := by decide +kernel
theorem dX4_build_16 : decode cX4_build 16 = .ok (.getfield 66, 3) := by decide +kernel
theorem dX4_build_19 : decode cX4_build 19 = .ok (.putfield 98, 3) := by decide +kernel
theorem dX4_build_22 : decode cX4_build 22 = .ok (.iconst 0, 1) := by decide +kernel
theorem dX4_build_23 : decode cX4_build 23 = .ok (.istore_n 1, 1) := by decide +kernel
theorem dX4_build_24 : decode cX4_build 24 = .ok (.iload_n 1, 1) := by decide +kernel
theorem dX4_build_25 : decode cX4_build 25 = .ok (.aload_n 0, 1) := by decide +kernel
theorem dX4_build_26 : decode cX4_build 26 = .ok (.getfield 66, 3) := by decide +kernel
theorem dX4_build_29 : decode cX4_build 29 = .ok (.if_icmp .ge 48, 3) := by decide +kernel
theorem dX4_build_32 : decode cX4_build 32 = .ok (.aload_n 0, 1) := by decide +kernel
theorem dX4_build_33 : decode cX4_build 33 = .ok (.getfield 19, 3) := by decide +kernel
theorem dX4_build_36 : decode cX4_build 36 = .ok (.iload_n 1, 1) := by decide +kernel
theorem dX4_build_37 : decode cX4_build 37 = .ok (.aload_n 0, 1) := by decide +kernel
theorem dX4_build_38 : decode cX4_build 38 = .ok (.getfield 7, 3) := by decide +kernel
theorem dX4_build_41 : decode cX4_build 41 = .ok (.iload_n 1, 1) := by decide +kernel
theorem dX4_build_42 : decode cX4_build 42 = .ok (.iaload, 1) := by decide +kernel
theorem dX4_build_43 : decode cX4_build 43 = .ok (.i2l, 1) := by decide +kernel
theorem dX4_build_44 : decode cX4_build 44 = .ok (.lastore, 1) := by decide +kernel
theorem dX4_build_45 : decode cX4_build 45 = .ok (.aload_n 0, 1) := by decide +kernel
theorem dX4_build_46 : decode cX4_build 46 = .ok (.getfield 23, 3) := by decide +kernel
theorem dX4_build_49 : decode cX4_build 49 = .ok (.iload_n 1, 1) := by decide +kernel
theorem dX4_build_50 : decode cX4_build 50 = .ok (.aload_n 0, 1) := by decide +kernel
theorem dX4_build_51 : decode cX4_build 51 = .ok (.getfield 13, 3) := by decide +kernel
theorem dX4_build_54 : decode cX4_build 54 = .ok (.iload_n 1, 1) := by decide +kernel
theorem dX4_build_55 : decode cX4_build 55 = .ok (.iaload, 1) := by decide +kernel
theorem dX4_build_56 : decode cX4_build 56 = .ok (.i2l, 1) := by decide +kernel
theorem dX4_build_57 : decode cX4_build 57 = .ok (.lastore, 1) := by decide +kernel
theorem dX4_build_58 : decode cX4_build 58 = .ok (.aload_n 0, 1) := by decide +kernel
theorem dX4_build_59 : decode cX4_build 59 = .ok (.getfield 26, 3) := by decide +kernel
theorem dX4_build_62 : decode cX4_build 62 = .ok (.iload_n 1, 1) := by decide +kernel
theorem dX4_build_63 : decode cX4_build 63 = .ok (.aload_n 0, 1) := by decide +kernel
theorem dX4_build_64 : decode cX4_build 64 = .ok (.getfield 16, 3) := by decide +kernel
theorem dX4_build_67 : decode cX4_build 67 = .ok (.iload_n 1, 1) := by decide +kernel
theorem dX4_build_68 : decode cX4_build 68 = .ok (.iaload, 1) := by decide +kernel
theorem dX4_build_69 : decode cX4_build 69 = .ok (.i2l, 1) := by decide +kernel
theorem dX4_build_70 : decode cX4_build 70 = .ok (.lastore, 1) := by decide +kernel
theorem dX4_build_71 : decode cX4_build 71 = .ok (.iinc 1 1, 3) := by decide +kernel
theorem dX4_build_74 : decode cX4_build 74 = .ok (.goto (-50), 3) := by decide +kernel
theorem dX4_build_77 : decode cX4_build 77 = .ok (.aload_n 0, 1) := by decide +kernel
theorem dX4_build_78 : decode cX4_build 78 = .ok (.iconst 0, 1) := by decide +kernel
theorem dX4_build_79 : decode cX4_build 79 = .ok (.putfield 91, 3) := by decide +kernel
theorem dX4_build_82 : decode cX4_build 82 = .ok (.iconst 0, 1) := by decide +kernel
theorem dX4_build_83 : decode cX4_build 83 = .ok (.istore_n 1, 1) := by decide +kernel
theorem dX4_build_84 : decode cX4_build 84 = .ok (.iload_n 1, 1) := by decide +kernel
theorem dX4_build_85 : decode cX4_build 85 = .ok (.aload_n 0, 1) := by decide +kernel
theorem dX4_build_86 : decode cX4_build 86 = .ok (.getfield 98, 3) := by decide +kernel
theorem dX4_build_89 : decode cX4_build 89 = .ok (.if_icmp .ge 54, 3) := by decide +kernel
theorem dX4_build_92 : decode cX4_build 92 = .ok (.iload_n 1, 1) := by decide +kernel
theorem dX4_build_93 : decode cX4_build 93 = .ok (.iconst 1, 1) := by decide +kernel
theorem dX4_build_94 : decode cX4_build 94 = .ok (.iadd, 1) := by decide +kernel
theorem dX4_build_95 : decode cX4_build 95 = .ok (.istore_n 2, 1) := by decide +kernel
theorem dX4_build_96 : decode cX4_build 96 = .ok (.iload_n 2, 1) := by decide +kernel
theorem dX4_build_97 : decode cX4_build 97 = .ok (.aload_n 0, 1) := by decide +kernel
theorem dX4_build_98 : decode cX4_build 98 = .ok (.getfield 98, 3) := by decide +kernel
theorem dX4_build_101 : decode cX4_build 101 = .ok (.if_icmp .ge 36, 3) := by decide +kernel
theorem dX4_build_104 : decode cX4_build 104 = .ok (.iload_n 2, 1) := by decide +kernel
theorem dX4_build_105 : decode cX4_build 105 = .ok (.iconst 1, 1) := by decide +kernel
theorem dX4_build_106 : decode cX4_build 106 = .ok (.iadd, 1) := by decide +kernel
theorem dX4_build_107 : decode cX4_build 107 = .ok (.istore_n 3, 1) := by decide +kernel
theorem dX4_build_108 : decode cX4_build 108 = .ok (.iload_n 3, 1) := by decide +kernel
theorem dX4_build_109 : decode cX4_build 109 = .ok (.aload_n 0, 1) := by decide +kernel
theorem dX4_build_110 : decode cX4_build 110 = .ok (.getfield 98, 3) := by decide +kernel
theorem dX4_build_113 : decode cX4_build 113 = .ok (.if_icmp .ge 18, 3) := by decide +kernel
theorem dX4_build_116 : decode cX4_build 116 = .ok (.aload_n 0, 1) := by decide +kernel
theorem dX4_build_117 : decode cX4_build 117 = .ok (.iload_n 1, 1) := by decide +kernel
theorem dX4_build_118 : decode cX4_build 118 = .ok (.iload_n 2, 1) := by decide +kernel
theorem dX4_build_119 : decode cX4_build 119 = .ok (.iload_n 3, 1) := by decide +kernel
theorem dX4_build_120 : decode cX4_build 120 = .ok (.invokevirtual 146, 3) := by decide +kernel
theorem dX4_build_123 : decode cX4_build 123 = .ok (.istore 4, 2) := by decide +kernel
theorem dX4_build_125 : decode cX4_build 125 = .ok (.iinc 3 1, 3) := by decide +kernel
theorem dX4_build_128 : decode cX4_build 128 = .ok (.goto (-20), 3) := by decide +kernel
theorem dX4_build_131 : decode cX4_build 131 = .ok (.iinc 2 1, 3) := by decide +kernel
theorem dX4_build_134 : decode cX4_build 134 = .ok (.goto (-38), 3) := by decide +kernel
theorem dX4_build_137 : decode cX4_build 137 = .ok (.iinc 1 1, 3) := by decide +kernel
theorem dX4_build_140 : decode cX4_build 140 = .ok (.goto (-56), 3) := by decide +kernel
theorem dX4_build_143 : decode cX4_build 143 = .ok (.iconst 0, 1) := by decide +kernel
theorem dX4_build_144 : decode cX4_build 144 = .ok (.istore_n 1, 1) := by decide +kernel
theorem dX4_build_145 : decode cX4_build 145 = .ok (.iload_n 1, 1) := by decide +kernel
theorem dX4_build_146 : decode cX4_build 146 = .ok (.aload_n 0, 1) := by decide +kernel
theorem dX4_build_147 : decode cX4_build 147 = .ok (.getfield 91, 3) := by decide +kernel
theorem dX4_build_150 : decode cX4_build 150 = .ok (.if_icmp .ge 14, 3) := by decide +kernel
theorem dX4_build_153 : decode cX4_build 153 = .ok (.aload_n 0, 1) := by decide +kernel
theorem dX4_build_154 : decode cX4_build 154 = .ok (.iload_n 1, 1) := by decide +kernel
theorem dX4_build_155 : decode cX4_build 155 = .ok (.invokevirtual 149, 3) := by decide +kernel
theorem dX4_build_158 : decode cX4_build 158 = .ok (.iinc 1 1, 3) := by decide +kernel
theorem dX4_build_161 : decode cX4_build 161 = .ok (.goto (-16), 3) := by decide +kernel
theorem dX4_build_164 : decode cX4_build 164 = .ok (.aload_n 0, 1) := by decide +kernel
theorem dX4_build_165 : decode cX4_build 165 = .ok (.invokevirtual 153, 3) := by decide +kernel
theorem dX4_build_168 : decode cX4_build 168 = .ok (.aload_n 0, 1) := by decide +kernel
theorem dX4_build_169 : decode cX4_build 169 = .ok (.invokevirtual 156, 3) := by decide +kernel
theorem dX4_build_172 : decode cX4_build 172 = .ok (.aload_n 0, 1) := by decide +kernel
theorem dX4_build_173 : decode cX4_build 173 = .ok (.iconst 1, 1) := by decide +kernel
theorem dX4_build_174 : decode cX4_build 174 = .ok (.putfield 159, 3) := by decide +kernel
theorem dX4_build_177 : decode cX4_build 177 = .ok (.aload_n 0, 1) := by decide +kernel
theorem dX4_build_178 : decode cX4_build 178 = .ok (.dup, 1) := by decide +kernel
theorem dX4_build_179 : decode cX4_build 179 = .ok (.getfield 163, 3) := by decide +kernel
theorem dX4_build_182 : decode cX4_build 182 = .ok (.iconst 1, 1) := by decide +kernel
theorem dX4_build_183 : decode cX4_build 183 = .ok (.iadd, 1) := by decide +kernel
theorem dX4_build_184 : decode cX4_build 184 = .ok (.putfield 163, 3) := by decide +kernel
theorem dX4_build_187 : decode cX4_build 187 = .ok (.aload_n 0, 1) := by decide +kernel
theorem dX4_build_188 : decode cX4_build 188 = .ok (.getfield 91, 3) := by decide +kernel
theorem dX4_build_191 : decode cX4_build 191 = .ok (.ireturn, 1) := by decide +kernel
set_option maxRecDepth 20000 in
theorem ggX4_of_X4_goes : GoodIn wsX4_of wsX4_goes := goodIn_r _ [9, 10, 11, 12, 13, 14, 15, 16, 17, 18, 19, 20, 21, 22, 23, 24, 25, 26, 27, 28, 29, 30, 31, 32, 33, 34, 35, 36, 37] (by decide +kernel) (by decide +kernel)
set_option maxRecDepth 20000 in
theorem gX4_of_X4_goes : GoodIn wsX4_of (wsV RX4 77 RX4 yX4_goes wsX4_goes) := goodIn_app (goodIn_of _ (by decide +kernel)) ggX4_of_X4_goes
theorem dX4_of_0 : decode cX4_of 0 = .ok (.aload_n 0, 1) := by decide +kernel
theorem dX4_of_1 : decode cX4_of 1 = .ok (.iload_n 1, 1) := by decide +kernel
theorem dX4_of_2 : decode cX4_of 2 = .ok (.ifCond .lt 24, 3) := by decide +kernel
theorem dX4_of_5 : decode cX4_of 5 = .ok (.iload_n 1, 1) := by decide +kernel
theorem dX4_of_6 : decode cX4_of 6 = .ok (.aload_n 0, 1) := by decide +kernel
theorem dX4_of_7 : decode cX4_of 7 = .ok (.getfield 66, 3) := by decide +kernel
theorem dX4_of_10 : decode cX4_of 10 = .ok (.if_icmp .ge 16, 3) := by decide +kernel
theorem dX4_of_13 : decode cX4_of 13 = .ok (.iload_n 2, 1) := by decide +kernel
theorem dX4_of_14 : decode cX4_of 14 = .ok (.ifCond .lt 12, 3) := by decide +kernel
theorem dX4_of_17 : decode cX4_of 17 = .ok (.iload_n 2, 1) := by decide +kernel
theorem dX4_of_18 : decode cX4_of 18 = .ok (.iconst 2, 1) := by decide +kernel
theorem dX4_of_19 : decode cX4_of 19 = .ok (.if_icmp .gt 7, 3) := by decide +kernel
theorem dX4_of_22 : decode cX4_of 22 = .ok (.iconst 1, 1) := by decide +kernel
theorem dX4_of_23 : decode cX4_of 23 = .ok (.goto 4, 3) := by decide +kernel
theorem dX4_of_26 : decode cX4_of 26 = .ok (.iconst 0, 1) := by decide +kernel
theorem dX4_of_27 : decode cX4_of 27 = .ok (.iconst 1, 1) := by decide +kernel
theorem dX4_of_28 : decode cX4_of 28 = .ok (.invokevirtual 77, 3) := by decide +kernel
theorem dX4_of_31 : decode cX4_of 31 = .ok (.ifCond .ne 5, 3) := by decide +kernel
theorem dX4_of_34 : decode cX4_of 34 = .ok (.iconst 0, 1) := by decide +kernel
theorem dX4_of_35 : decode cX4_of 35 = .ok (.ireturn, 1) := by decide +kernel
theorem dX4_of_36 : decode cX4_of 36 = .ok (.iload_n 2, 1) := by decide +kernel
theorem dX4_of_37 : decode cX4_of 37 = .ok (.ifCond .ne 12, 3) := by decide +kernel
theorem dX4_of_40 : decode cX4_of 40 = .ok (.aload_n 0, 1) := by decide +kernel
theorem dX4_of_41 : decode cX4_of 41 = .ok (.getfield 7, 3) := by decide +kernel
theorem dX4_of_44 : decode cX4_of 44 = .ok (.iload_n 1, 1) := by decide +kernel
theorem dX4_of_45 : decode cX4_of 45 = .ok (.iaload, 1) := by decide +kernel
theorem dX4_of_46 : decode cX4_of 46 = .ok (.goto 23, 3) := by decide +kernel
theorem dX4_of_49 : decode cX4_of 49 = .ok (.iload_n 2, 1) := by decide +kernel
theorem dX4_of_50 : decode cX4_of 50 = .ok (.iconst 1, 1) := by decide +kernel
theorem dX4_of_51 : decode cX4_of 51 = .ok (.if_icmp .ne 12, 3) := by decide +kernel
theorem dX4_of_54 : decode cX4_of 54 = .ok (.aload_n 0, 1) := by decide +kernel
theorem dX4_of_55 : decode cX4_of 55 = .ok (.getfield 13, 3) := by decide +kernel
theorem dX4_of_58 : decode cX4_of 58 = .ok (.iload_n 1, 1) := by decide +kernel
theorem dX4_of_59 : decode cX4_of 59 = .ok (.iaload, 1) := by decide +kernel
theorem dX4_of_60 : decode cX4_of 60 = .ok (.goto 9, 3) := by decide +kernel
theorem dX4_of_63 : decode cX4_of 63 = .ok (.aload_n 0, 1) := by decide +kernel
theorem dX4_of_64 : decode cX4_of 64 = .ok (.getfield 16, 3) := by decide +kernel
theorem dX4_of_67 : decode cX4_of 67 = .ok (.iload_n 1, 1) := by decide +kernel
theorem dX4_of_68 : decode cX4_of 68 = .ok (.iaload, 1) := by decide +kernel
theorem dX4_of_69 : decode cX4_of 69 = .ok (.ireturn, 1) := by decide +kernel
theorem dX4_there_0 : decode cX4_there 0 = .ok (.iload_n 1, 1) := by decide +kernel
theorem dX4_there_1 : decode cX4_there 1 = .ok (.ifCond .lt 15, 3) := by decide +kernel
theorem dX4_there_4 : decode cX4_there 4 = .ok (.iload_n 1, 1) := by decide +kernel
theorem dX4_there_5 : decode cX4_there 5 = .ok (.aload_n 0, 1) := by decide +kernel
theorem dX4_there_6 : decode cX4_there 6 = .ok (.getfield 91, 3) := by decide +kernel
theorem dX4_there_9 : decode cX4_there 9 = .ok (.if_icmp .ge 7, 3) := by decide +kernel
theorem dX4_there_12 : decode cX4_there 12 = .ok (.iconst 1, 1) := by decide +kernel
theorem dX4_there_13 : decode cX4_there 13 = .ok (.goto 4, 3) := by decide +kernel
theorem dX4_there_16 : decode cX4_there 16 = .ok (.iconst 0, 1) := by decide +kernel
theorem dX4_there_17 : decode cX4_there 17 = .ok (.ireturn, 1) := by decide +kernel
set_option maxRecDepth 20000 in
theorem ggX4_face_X4_there : GoodIn wsX4_face wsX4_there := goodIn_r _ [11, 12, 18, 19, 20, 21, 22, 23, 24, 25, 26, 27, 28, 29, 30, 31, 32, 33, 34, 35, 36, 37, 38, 39, 40, 41, 42, 43, 44] (by decide +kernel) (by decide +kernel)
set_option maxRecDepth 20000 in
theorem gX4_face_X4_there : GoodIn wsX4_face (wsV RX4 166 RX4 yX4_there wsX4_there) := goodIn_app (goodIn_of _ (by decide +kernel)) ggX4_face_X4_there
set_option maxRecDepth 20000 in
theorem ggX4_face_X4_goes : GoodIn wsX4_face wsX4_goes := goodIn_r _ [16, 17, 18, 19, 20, 21, 22, 23, 24, 25, 26, 27, 28, 29, 30, 31, 32, 33, 34, 35, 36, 37, 38, 39, 40, 41, 42, 43, 44] (by decide +kernel) (by decide +kernel)
set_option maxRecDepth 20000 in
theorem gX4_face_X4_goes : GoodIn wsX4_face (wsV RX4 77 RX4 yX4_goes wsX4_goes) := goodIn_app (goodIn_of _ (by decide +kernel)) ggX4_face_X4_goes
theorem dX4_face_0 : decode cX4_face 0 = .ok (.aload_n 0, 1) := by decide +kernel
theorem dX4_face_1 : decode cX4_face 1 = .ok (.aload_n 0, 1) := by decide +kernel
theorem dX4_face_2 : decode cX4_face 2 = .ok (.getfield 159, 3) := by decide +kernel
theorem dX4_face_5 : decode cX4_face 5 = .ok (.aload_n 0, 1) := by decide +kernel
theorem dX4_face_6 : decode cX4_face 6 = .ok (.iload_n 1, 1) := by decide +kernel
theorem dX4_face_7 : decode cX4_face 7 = .ok (.invokevirtual 166, 3) := by decide +kernel
theorem dX4_face_10 : decode cX4_face 10 = .ok (.ifCond .eq 16, 3) := by decide +kernel
theorem dX4_face_13 : decode cX4_face 13 = .ok (.iload_n 2, 1) := by decide +kernel
theorem dX4_face_14 : decode cX4_face 14 = .ok (.ifCond .lt 12, 3) := by decide +kernel
theorem dX4_face_17 : decode cX4_face 17 = .ok (.iload_n 2, 1) := by decide +kernel
theorem dX4_face_18 : decode cX4_face 18 = .ok (.iconst 3, 1) := by decide +kernel
theorem dX4_face_19 : decode cX4_face 19 = .ok (.if_icmp .gt 7, 3) := by decide +kernel
theorem dX4_face_22 : decode cX4_face 22 = .ok (.iconst 1, 1) := by decide +kernel
theorem dX4_face_23 : decode cX4_face 23 = .ok (.goto 4, 3) := by decide +kernel
theorem dX4_face_26 : decode cX4_face 26 = .ok (.iconst 0, 1) := by decide +kernel
theorem dX4_face_27 : decode cX4_face 27 = .ok (.invokevirtual 77, 3) := by decide +kernel
theorem dX4_face_30 : decode cX4_face 30 = .ok (.ifCond .ne 5, 3) := by decide +kernel
theorem dX4_face_33 : decode cX4_face 33 = .ok (.iconst 0, 1) := by decide +kernel
theorem dX4_face_34 : decode cX4_face 34 = .ok (.ireturn, 1) := by decide +kernel
theorem dX4_face_35 : decode cX4_face 35 = .ok (.aload_n 0, 1) := by decide +kernel
theorem dX4_face_36 : decode cX4_face 36 = .ok (.getfield 47, 3) := by decide +kernel
theorem dX4_face_39 : decode cX4_face 39 = .ok (.iload_n 1, 1) := by decide +kernel
theorem dX4_face_40 : decode cX4_face 40 = .ok (.iaload, 1) := by decide +kernel
theorem dX4_face_41 : decode cX4_face 41 = .ok (.istore_n 3, 1) := by decide +kernel
theorem dX4_face_42 : decode cX4_face 42 = .ok (.iload_n 2, 1) := by decide +kernel
theorem dX4_face_43 : decode cX4_face 43 = .ok (.ifCond .ne 12, 3) := by decide +kernel
theorem dX4_face_46 : decode cX4_face 46 = .ok (.aload_n 0, 1) := by decide +kernel
theorem dX4_face_47 : decode cX4_face 47 = .ok (.getfield 41, 3) := by decide +kernel
theorem dX4_face_50 : decode cX4_face 50 = .ok (.iload_n 3, 1) := by decide +kernel
theorem dX4_face_51 : decode cX4_face 51 = .ok (.iaload, 1) := by decide +kernel
theorem dX4_face_52 : decode cX4_face 52 = .ok (.goto 38, 3) := by decide +kernel
theorem dX4_face_55 : decode cX4_face 55 = .ok (.iload_n 2, 1) := by decide +kernel
theorem dX4_face_56 : decode cX4_face 56 = .ok (.iconst 1, 1) := by decide +kernel
theorem dX4_face_57 : decode cX4_face 57 = .ok (.if_icmp .ne 12, 3) := by decide +kernel
theorem dX4_face_60 : decode cX4_face 60 = .ok (.aload_n 0, 1) := by decide +kernel
theorem dX4_face_61 : decode cX4_face 61 = .ok (.getfield 29, 3) := by decide +kernel
theorem dX4_face_64 : decode cX4_face 64 = .ok (.iload_n 3, 1) := by decide +kernel
theorem dX4_face_65 : decode cX4_face 65 = .ok (.laload, 1) := by decide +kernel
theorem dX4_face_66 : decode cX4_face 66 = .ok (.goto 23, 3) := by decide +kernel
theorem dX4_face_69 : decode cX4_face 69 = .ok (.iload_n 2, 1) := by decide +kernel
theorem dX4_face_70 : decode cX4_face 70 = .ok (.iconst 2, 1) := by decide +kernel
theorem dX4_face_71 : decode cX4_face 71 = .ok (.if_icmp .ne 12, 3) := by decide +kernel
theorem dX4_face_74 : decode cX4_face 74 = .ok (.aload_n 0, 1) := by decide +kernel
theorem dX4_face_75 : decode cX4_face 75 = .ok (.getfield 32, 3) := by decide +kernel
theorem dX4_face_78 : decode cX4_face 78 = .ok (.iload_n 3, 1) := by decide +kernel
theorem dX4_face_79 : decode cX4_face 79 = .ok (.laload, 1) := by decide +kernel
theorem dX4_face_80 : decode cX4_face 80 = .ok (.goto 9, 3) := by decide +kernel
theorem dX4_face_83 : decode cX4_face 83 = .ok (.aload_n 0, 1) := by decide +kernel
theorem dX4_face_84 : decode cX4_face 84 = .ok (.getfield 35, 3) := by decide +kernel
theorem dX4_face_87 : decode cX4_face 87 = .ok (.iload_n 3, 1) := by decide +kernel
theorem dX4_face_88 : decode cX4_face 88 = .ok (.laload, 1) := by decide +kernel
theorem dX4_face_89 : decode cX4_face 89 = .ok (.l2i, 1) := by decide +kernel
theorem dX4_face_90 : decode cX4_face 90 = .ok (.ireturn, 1) := by decide +kernel
set_option maxRecDepth 20000 in
theorem ggX4_offset_X4_there : GoodIn wsX4_offset wsX4_there := goodIn_r _ [8, 9, 15, 16, 17, 18, 19, 20, 21, 22, 23, 24, 25, 26, 27, 28, 29, 30, 31, 32, 33, 34, 35, 36, 37, 38, 39, 40, 41] (by decide +kernel) (by decide +kernel)
set_option maxRecDepth 20000 in
theorem gX4_offset_X4_there : GoodIn wsX4_offset (wsV RX4 166 RX4 yX4_there wsX4_there) := goodIn_app (goodIn_of _ (by decide +kernel)) ggX4_offset_X4_there
set_option maxRecDepth 20000 in
theorem ggX4_offset_X4_goes : GoodIn wsX4_offset wsX4_goes := goodIn_r _ [13, 14, 15, 16, 17, 18, 19, 20, 21, 22, 23, 24, 25, 26, 27, 28, 29, 30, 31, 32, 33, 34, 35, 36, 37, 38, 39, 40, 41] (by decide +kernel) (by decide +kernel)
set_option maxRecDepth 20000 in
theorem gX4_offset_X4_goes : GoodIn wsX4_offset (wsV RX4 77 RX4 yX4_goes wsX4_goes) := goodIn_app (goodIn_of _ (by decide +kernel)) ggX4_offset_X4_goes
theorem dX4_offset_0 : decode cX4_offset 0 = .ok (.aload_n 0, 1) := by decide +kernel
theorem dX4_offset_1 : decode cX4_offset 1 = .ok (.aload_n 0, 1) := by decide +kernel
theorem dX4_offset_2 : decode cX4_offset 2 = .ok (.getfield 159, 3) := by decide +kernel
theorem dX4_offset_5 : decode cX4_offset 5 = .ok (.aload_n 0, 1) := by decide +kernel
theorem dX4_offset_6 : decode cX4_offset 6 = .ok (.iload_n 1, 1) := by decide +kernel
theorem dX4_offset_7 : decode cX4_offset 7 = .ok (.invokevirtual 166, 3) := by decide +kernel
theorem dX4_offset_10 : decode cX4_offset 10 = .ok (.invokevirtual 77, 3) := by decide +kernel
theorem dX4_offset_13 : decode cX4_offset 13 = .ok (.ifCond .eq 17, 3) := by decide +kernel
theorem dX4_offset_16 : decode cX4_offset 16 = .ok (.aload_n 0, 1) := by decide +kernel
theorem dX4_offset_17 : decode cX4_offset 17 = .ok (.getfield 38, 3) := by decide +kernel
theorem dX4_offset_20 : decode cX4_offset 20 = .ok (.aload_n 0, 1) := by decide +kernel
theorem dX4_offset_21 : decode cX4_offset 21 = .ok (.getfield 47, 3) := by decide +kernel
theorem dX4_offset_24 : decode cX4_offset 24 = .ok (.iload_n 1, 1) := by decide +kernel
theorem dX4_offset_25 : decode cX4_offset 25 = .ok (.iaload, 1) := by decide +kernel
theorem dX4_offset_26 : decode cX4_offset 26 = .ok (.laload, 1) := by decide +kernel
theorem dX4_offset_27 : decode cX4_offset 27 = .ok (.goto 4, 3) := by decide +kernel
theorem dX4_offset_30 : decode cX4_offset 30 = .ok (.lconst 0, 1) := by decide +kernel
theorem dX4_offset_31 : decode cX4_offset 31 = .ok (.lreturn, 1) := by decide +kernel
set_option maxRecDepth 20000 in
theorem ggX4_corner_X4_there : GoodIn wsX4_corner wsX4_there := goodIn_r _ [9, 10, 16, 17, 18, 19, 20, 21, 22, 23, 24, 25, 26, 27, 28, 29, 30, 31, 32, 33, 34, 35, 36, 37, 38, 39, 40, 41, 42] (by decide +kernel) (by decide +kernel)
set_option maxRecDepth 20000 in
theorem gX4_corner_X4_there : GoodIn wsX4_corner (wsV RX4 166 RX4 yX4_there wsX4_there) := goodIn_app (goodIn_of _ (by decide +kernel)) ggX4_corner_X4_there
set_option maxRecDepth 20000 in
theorem ggX4_corner_X4_goes : GoodIn wsX4_corner wsX4_goes := goodIn_r _ [14, 15, 16, 17, 18, 19, 20, 21, 22, 23, 24, 25, 26, 27, 28, 29, 30, 31, 32, 33, 34, 35, 36, 37, 38, 39, 40, 41, 42] (by decide +kernel) (by decide +kernel)
set_option maxRecDepth 20000 in
theorem gX4_corner_X4_goes : GoodIn wsX4_corner (wsV RX4 77 RX4 yX4_goes wsX4_goes) := goodIn_app (goodIn_of _ (by decide +kernel)) ggX4_corner_X4_goes
theorem dX4_corner_0 : decode cX4_corner 0 = .ok (.aload_n 0, 1) := by decide +kernel
theorem dX4_corner_1 : decode cX4_corner 1 = .ok (.aload_n 0, 1) := by decide +kernel
theorem dX4_corner_2 : decode cX4_corner 2 = .ok (.getfield 159, 3) := by decide +kernel
theorem dX4_corner_5 : decode cX4_corner 5 = .ok (.aload_n 0, 1) := by decide +kernel
theorem dX4_corner_6 : decode cX4_corner 6 = .ok (.iload_n 1, 1) := by decide +kernel
theorem dX4_corner_7 : decode cX4_corner 7 = .ok (.invokevirtual 166, 3) := by decide +kernel
theorem dX4_corner_10 : decode cX4_corner 10 = .ok (.ifCond .eq 26, 3) := by decide +kernel
theorem dX4_corner_13 : decode cX4_corner 13 = .ok (.iload_n 2, 1) := by decide +kernel
theorem dX4_corner_14 : decode cX4_corner 14 = .ok (.ifCond .lt 22, 3) := by decide +kernel
theorem dX4_corner_17 : decode cX4_corner 17 = .ok (.iload_n 2, 1) := by decide +kernel
theorem dX4_corner_18 : decode cX4_corner 18 = .ok (.aload_n 0, 1) := by decide +kernel
theorem dX4_corner_19 : decode cX4_corner 19 = .ok (.getfield 41, 3) := by decide +kernel
theorem dX4_corner_22 : decode cX4_corner 22 = .ok (.aload_n 0, 1) := by decide +kernel
theorem dX4_corner_23 : decode cX4_corner 23 = .ok (.getfield 47, 3) := by decide +kernel
theorem dX4_corner_26 : decode cX4_corner 26 = .ok (.iload_n 1, 1) := by decide +kernel
theorem dX4_corner_27 : decode cX4_corner 27 = .ok (.iaload, 1) := by decide +kernel
theorem dX4_corner_28 : decode cX4_corner 28 = .ok (.iaload, 1) := by decide +kernel
theorem dX4_corner_29 : decode cX4_corner 29 = .ok (.if_icmp .ge 7, 3) := by decide +kernel
theorem dX4_corner_32 : decode cX4_corner 32 = .ok (.iconst 1, 1) := by decide +kernel
theorem dX4_corner_33 : decode cX4_corner 33 = .ok (.goto 4, 3) := by decide +kernel
theorem dX4_corner_36 : decode cX4_corner 36 = .ok (.iconst 0, 1) := by decide +kernel
theorem dX4_corner_37 : decode cX4_corner 37 = .ok (.invokevirtual 77, 3) := by decide +kernel
theorem dX4_corner_40 : decode cX4_corner 40 = .ok (.ifCond .ne 5, 3) := by decide +kernel
theorem dX4_corner_43 : decode cX4_corner 43 = .ok (.iconst 0, 1) := by decide +kernel
theorem dX4_corner_44 : decode cX4_corner 44 = .ok (.ireturn, 1) := by decide +kernel
theorem dX4_corner_45 : decode cX4_corner 45 = .ok (.aload_n 0, 1) := by decide +kernel
theorem dX4_corner_46 : decode cX4_corner 46 = .ok (.getfield 44, 3) := by decide +kernel
theorem dX4_corner_49 : decode cX4_corner 49 = .ok (.bipush 24, 2) := by decide +kernel
theorem dX4_corner_51 : decode cX4_corner 51 = .ok (.aload_n 0, 1) := by decide +kernel
theorem dX4_corner_52 : decode cX4_corner 52 = .ok (.getfield 47, 3) := by decide +kernel
theorem dX4_corner_55 : decode cX4_corner 55 = .ok (.iload_n 1, 1) := by decide +kernel
theorem dX4_corner_56 : decode cX4_corner 56 = .ok (.iaload, 1) := by decide +kernel
theorem dX4_corner_57 : decode cX4_corner 57 = .ok (.imul, 1) := by decide +kernel
theorem dX4_corner_58 : decode cX4_corner 58 = .ok (.iload_n 2, 1) := by decide +kernel
theorem dX4_corner_59 : decode cX4_corner 59 = .ok (.iadd, 1) := by decide +kernel
theorem dX4_corner_60 : decode cX4_corner 60 = .ok (.iaload, 1) := by decide +kernel
theorem dX4_corner_61 : decode cX4_corner 61 = .ok (.ireturn, 1) := by decide +kernel
set_option maxRecDepth 20000 in
theorem ggX4_edge_X4_goes : GoodIn wsX4_edge wsX4_goes := goodIn_r _ [10, 11, 12, 13, 14, 15, 16, 17, 18, 19, 20, 21, 22, 23, 24, 25, 26, 27, 28, 29, 30, 31, 32, 33, 34, 35, 36, 37, 38] (by decide +kernel) (by decide +kernel)
set_option maxRecDepth 20000 in
theorem gX4_edge_X4_goes : GoodIn wsX4_edge (wsV RX4 77 RX4 yX4_goes wsX4_goes) := goodIn_app (goodIn_of _ (by decide +kernel)) ggX4_edge_X4_goes
theorem dX4_edge_0 : decode cX4_edge 0 = .ok (.aload_n 0, 1) := by decide +kernel
theorem dX4_edge_1 : decode cX4_edge 1 = .ok (.aload_n 0, 1) := by decide +kernel
theorem dX4_edge_2 : decode cX4_edge 2 = .ok (.getfield 159, 3) := by decide +kernel
theorem dX4_edge_5 : decode cX4_edge 5 = .ok (.iload_n 1, 1) := by decide +kernel
theorem dX4_edge_6 : decode cX4_edge 6 = .ok (.ifCond .lt 24, 3) := by decide +kernel
theorem dX4_edge_9 : decode cX4_edge 9 = .ok (.iload_n 1, 1) := by decide +kernel
theorem dX4_edge_10 : decode cX4_edge 10 = .ok (.aload_n 0, 1) := by decide +kernel
theorem dX4_edge_11 : decode cX4_edge 11 = .ok (.getfield 132, 3) := by decide +kernel
theorem dX4_edge_14 : decode cX4_edge 14 = .ok (.if_icmp .ge 16, 3) := by decide +kernel
theorem dX4_edge_17 : decode cX4_edge 17 = .ok (.iload_n 2, 1) := by decide +kernel
theorem dX4_edge_18 : decode cX4_edge 18 = .ok (.ifCond .lt 12, 3) := by decide +kernel
theorem dX4_edge_21 : decode cX4_edge 21 = .ok (.iload_n 2, 1) := by decide +kernel
theorem dX4_edge_22 : decode cX4_edge 22 = .ok (.iconst 3, 1) := by decide +kernel
theorem dX4_edge_23 : decode cX4_edge 23 = .ok (.if_icmp .gt 7, 3) := by decide +kernel
theorem dX4_edge_26 : decode cX4_edge 26 = .ok (.iconst 1, 1) := by decide +kernel
theorem dX4_edge_27 : decode cX4_edge 27 = .ok (.goto 4, 3) := by decide +kernel
theorem dX4_edge_30 : decode cX4_edge 30 = .ok (.iconst 0, 1) := by decide +kernel
theorem dX4_edge_31 : decode cX4_edge 31 = .ok (.invokevirtual 77, 3) := by decide +kernel
theorem dX4_edge_34 : decode cX4_edge 34 = .ok (.ifCond .ne 5, 3) := by decide +kernel
theorem dX4_edge_37 : decode cX4_edge 37 = .ok (.iconst 0, 1) := by decide +kernel
theorem dX4_edge_38 : decode cX4_edge 38 = .ok (.ireturn, 1) := by decide +kernel
theorem dX4_edge_39 : decode cX4_edge 39 = .ok (.iload_n 2, 1) := by decide +kernel
theorem dX4_edge_40 : decode cX4_edge 40 = .ok (.ifCond .ne 15, 3) := by decide +kernel
theorem dX4_edge_43 : decode cX4_edge 43 = .ok (.aload_n 0, 1) := by decide +kernel
theorem dX4_edge_44 : decode cX4_edge 44 = .ok (.getfield 50, 3) := by decide +kernel
theorem dX4_edge_47 : decode cX4_edge 47 = .ok (.iload_n 1, 1) := by decide +kernel
theorem dX4_edge_48 : decode cX4_edge 48 = .ok (.iaload, 1) := by decide +kernel
theorem dX4_edge_49 : decode cX4_edge 49 = .ok (.bipush 32, 2) := by decide +kernel
theorem dX4_edge_51 : decode cX4_edge 51 = .ok (.idiv, 1) := by decide +kernel
theorem dX4_edge_52 : decode cX4_edge 52 = .ok (.goto 40, 3) := by decide +kernel
theorem dX4_edge_55 : decode cX4_edge 55 = .ok (.iload_n 2, 1) := by decide +kernel
theorem dX4_edge_56 : decode cX4_edge 56 = .ok (.iconst 1, 1) := by decide +kernel
theorem dX4_edge_57 : decode cX4_edge 57 = .ok (.if_icmp .ne 15, 3) := by decide +kernel
theorem dX4_edge_60 : decode cX4_edge 60 = .ok (.aload_n 0, 1) := by decide +kernel
theorem dX4_edge_61 : decode cX4_edge 61 = .ok (.getfield 50, 3) := by decide +kernel
theorem dX4_edge_64 : decode cX4_edge 64 = .ok (.iload_n 1, 1) := by decide +kernel
theorem dX4_edge_65 : decode cX4_edge 65 = .ok (.iaload, 1) := by decide +kernel
theorem dX4_edge_66 : decode cX4_edge 66 = .ok (.bipush 32, 2) := by decide +kernel
theorem dX4_edge_68 : decode cX4_edge 68 = .ok (.irem, 1) := by decide +kernel
theorem dX4_edge_69 : decode cX4_edge 69 = .ok (.goto 23, 3) := by decide +kernel
theorem dX4_edge_72 : decode cX4_edge 72 = .ok (.iload_n 2, 1) := by decide +kernel
theorem dX4_edge_73 : decode cX4_edge 73 = .ok (.iconst 2, 1) := by decide +kernel
theorem dX4_edge_74 : decode cX4_edge 74 = .ok (.if_icmp .ne 12, 3) := by decide +kernel
theorem dX4_edge_77 : decode cX4_edge 77 = .ok (.aload_n 0, 1) := by decide +kernel
theorem dX4_edge_78 : decode cX4_edge 78 = .ok (.getfield 53, 3) := by decide +kernel
theorem dX4_edge_81 : decode cX4_edge 81 = .ok (.iload_n 1, 1) := by decide +kernel
theorem dX4_edge_82 : decode cX4_edge 82 = .ok (.iaload, 1) := by decide +kernel
theorem dX4_edge_83 : decode cX4_edge 83 = .ok (.goto 9, 3) := by decide +kernel
theorem dX4_edge_86 : decode cX4_edge 86 = .ok (.aload_n 0, 1) := by decide +kernel
theorem dX4_edge_87 : decode cX4_edge 87 = .ok (.getfield 56, 3) := by decide +kernel
theorem dX4_edge_90 : decode cX4_edge 90 = .ok (.iload_n 1, 1) := by decide +kernel
theorem dX4_edge_91 : decode cX4_edge 91 = .ok (.iaload, 1) := by decide +kernel
theorem dX4_edge_92 : decode cX4_edge 92 = .ok (.ireturn, 1) := by decide +kernel
theorem dX4_isCorner_0 : decode cX4_isCorner 0 = .ok (.iconst 0, 1) := by decide +kernel
theorem dX4_isCorner_1 : decode cX4_isCorner 1 = .ok (.istore_n 2, 1) := by decide +kernel
theorem dX4_isCorner_2 : decode cX4_isCorner 2 = .ok (.iconst 0, 1) := by decide +kernel
theorem dX4_isCorner_3 : decode cX4_isCorner 3 = .ok (.istore_n 3, 1) := by decide +kernel
theorem dX4_isCorner_4 : decode cX4_isCorner 4 = .ok (.iload_n 3, 1) := by decide +kernel
theorem dX4_isCorner_5 : decode cX4_isCorner 5 = .ok (.aload_n 0, 1) := by decide +kernel
theorem dX4_isCorner_6 : decode cX4_isCorner 6 = .ok (.getfield 132, 3) := by decide +kernel
theorem dX4_isCorner_9 : decode cX4_isCorner 9 = .ok (.if_icmp .ge 45, 3) := by decide +kernel
theorem dX4_isCorner_12 : decode cX4_isCorner 12 = .ok (.iload_n 2, 1) := by decide +kernel
theorem dX4_isCorner_13 : decode cX4_isCorner 13 = .ok (.ifCond .ne 29, 3) := by decide +kernel
theorem dX4_isCorner_16 : decode cX4_isCorner 16 = .ok (.aload_n 0, 1) := by decide +kernel
theorem dX4_isCorner_17 : decode cX4_isCorner 17 = .ok (.getfield 50, 3) := by decide +kernel
theorem dX4_isCorner_20 : decode cX4_isCorner 20 = .ok (.iload_n 3, 1) := by decide +kernel
theorem dX4_isCorner_21 : decode cX4_isCorner 21 = .ok (.iaload, 1) := by decide +kernel
theorem dX4_isCorner_22 : decode cX4_isCorner 22 = .ok (.bipush 32, 2) := by decide +kernel
theorem dX4_isCorner_24 : decode cX4_isCorner 24 = .ok (.idiv, 1) := by decide +kernel
theorem dX4_isCorner_25 : decode cX4_isCorner 25 = .ok (.iload_n 1, 1) := by decide +kernel
theorem dX4_isCorner_26 : decode cX4_isCorner 26 = .ok (.if_icmp .eq 16, 3) := by decide +kernel
theorem dX4_isCorner_29 : decode cX4_isCorner 29 = .ok (.aload_n 0, 1) := by decide +kernel
theorem dX4_isCorner_30 : decode cX4_isCorner 30 = .ok (.getfield 50, 3) := by decide +kernel
theorem dX4_isCorner_33 : decode cX4_isCorner 33 = .ok (.iload_n 3, 1) := by decide +kernel
theorem dX4_isCorner_34 : decode cX4_isCorner 34 = .ok (.iaload, 1) := by decide +kernel
theorem dX4_isCorner_35 : decode cX4_isCorner 35 = .ok (.bipush 32, 2) := by decide +kernel
theorem dX4_isCorner_37 : decode cX4_isCorner 37 = .ok (.irem, 1) := by decide +kernel
theorem dX4_isCorner_38 : decode cX4_isCorner 38 = .ok (.iload_n 1, 1) := by decide +kernel
theorem dX4_isCorner_39 : decode cX4_isCorner 39 = .ok (.if_icmp .ne 7, 3) := by decide +kernel
theorem dX4_isCorner_42 : decode cX4_isCorner 42 = .ok (.iconst 1, 1) := by decide +kernel
theorem dX4_isCorner_43 : decode cX4_isCorner 43 = .ok (.goto 4, 3) := by decide +kernel
theorem dX4_isCorner_46 : decode cX4_isCorner 46 = .ok (.iconst 0, 1) := by decide +kernel
theorem dX4_isCorner_47 : decode cX4_isCorner 47 = .ok (.istore_n 2, 1) := by decide +kernel
theorem dX4_isCorner_48 : decode cX4_isCorner 48 = .ok (.iinc 3 1, 3) := by decide +kernel
theorem dX4_isCorner_51 : decode cX4_isCorner 51 = .ok (.goto (-47), 3) := by decide +kernel
theorem dX4_isCorner_54 : decode cX4_isCorner 54 = .ok (.iload_n 2, 1) := by decide +kernel
theorem dX4_isCorner_55 : decode cX4_isCorner 55 = .ok (.ireturn, 1) := by decide +kernel
set_option maxRecDepth 20000 in
theorem ggX4_support_X4_within : GoodIn wsX4_support wsX4_within := goodIn_r _ [10] (by decide +kernel) (by decide +kernel)
set_option maxRecDepth 20000 in
theorem gX4_support_X4_within : GoodIn wsX4_support (va_wsS RX4 69 yX4_within wsX4_within) := goodIn_app (goodIn_of _ (by decide +kernel)) ggX4_support_X4_within
set_option maxRecDepth 20000 in
theorem ggX4_support_X4_goes : GoodIn wsX4_support wsX4_goes := goodIn_r _ [14, 15, 22, 23, 24, 25, 26, 27, 28, 29, 30, 31, 32, 33, 34, 35, 36, 37, 38, 39, 40, 41, 42, 43, 44, 45, 46, 47, 48] (by decide +kernel) (by decide +kernel)
set_option maxRecDepth 20000 in
theorem gX4_support_X4_goes : GoodIn wsX4_support (wsV RX4 77 RX4 yX4_goes wsX4_goes) := goodIn_app (goodIn_of _ (by decide +kernel)) ggX4_support_X4_goes
set_option maxRecDepth 20000 in
theorem ggX4_support_X4_isCorner : GoodIn wsX4_support wsX4_isCorner := goodIn_r _ [19, 20, 21, 22, 23, 24, 25, 26, 27, 28, 29, 30, 31, 32, 33, 34, 35, 36, 37, 38, 39, 40, 41, 42, 43, 44, 45, 46, 47, 48] (by decide +kernel) (by decide +kernel)
set_option maxRecDepth 20000 in
theorem gX4_support_X4_isCorner : GoodIn wsX4_support (wsV RX4 171 RX4 yX4_isCorner wsX4_isCorner) := goodIn_app (goodIn_of _ (by decide +kernel)) ggX4_support_X4_isCorner
theorem dX4_support_0 : decode cX4_support 0 = .ok (.aload_n 0, 1) := by decide +kernel
theorem dX4_support_1 : decode cX4_support 1 = .ok (.aload_n 0, 1) := by decide +kernel
theorem dX4_support_2 : decode cX4_support 2 = .ok (.getfield 159, 3) := by decide +kernel
theorem dX4_support_5 : decode cX4_support 5 = .ok (.iload_n 1, 1) := by decide +kernel
theorem dX4_support_6 : decode cX4_support 6 = .ok (.ldc 170, 2) := by decide +kernel
theorem dX4_support_8 : decode cX4_support 8 = .ok (.invokestatic 69, 3) := by decide +kernel
theorem dX4_support_11 : decode cX4_support 11 = .ok (.ifCond .eq 25, 3) := by decide +kernel
theorem dX4_support_14 : decode cX4_support 14 = .ok (.iload_n 2, 1) := by decide +kernel
theorem dX4_support_15 : decode cX4_support 15 = .ok (.ldc 170, 2) := by decide +kernel
theorem dX4_support_17 : decode cX4_support 17 = .ok (.invokestatic 69, 3) := by decide +kernel
theorem dX4_support_20 : decode cX4_support 20 = .ok (.ifCond .eq 16, 3) := by decide +kernel
theorem dX4_support_23 : decode cX4_support 23 = .ok (.iload_n 3, 1) := by decide +kernel
theorem dX4_support_24 : decode cX4_support 24 = .ok (.ldc 170, 2) := by decide +kernel
theorem dX4_support_26 : decode cX4_support 26 = .ok (.invokestatic 69, 3) := by decide +kernel
theorem dX4_support_29 : decode cX4_support 29 = .ok (.ifCond .eq 7, 3) := by decide +kernel
theorem dX4_support_32 : decode cX4_support 32 = .ok (.iconst 1, 1) := by decide +kernel
theorem dX4_support_33 : decode cX4_support 33 = .ok (.goto 4, 3) := by decide +kernel
theorem dX4_support_36 : decode cX4_support 36 = .ok (.iconst 0, 1) := by decide +kernel
theorem dX4_support_37 : decode cX4_support 37 = .ok (.invokevirtual 77, 3) := by decide +kernel
theorem dX4_support_40 : decode cX4_support 40 = .ok (.ifCond .ne 5, 3) := by decide +kernel
theorem dX4_support_43 : decode cX4_support 43 = .ok (.iconst 0, 1) := by decide +kernel
theorem dX4_support_44 : decode cX4_support 44 = .ok (.ireturn, 1) := by decide +kernel
theorem dX4_support_45 : decode cX4_support 45 = .ok (.iconst (-1), 1) := by decide +kernel
theorem dX4_support_46 : decode cX4_support 46 = .ok (.istore 4, 2) := by decide +kernel
theorem dX4_support_48 : decode cX4_support 48 = .ok (.lconst 0, 1) := by decide +kernel
theorem dX4_support_49 : decode cX4_support 49 = .ok (.lstore 5, 2) := by decide +kernel
theorem dX4_support_51 : decode cX4_support 51 = .ok (.iconst 0, 1) := by decide +kernel
theorem dX4_support_52 : decode cX4_support 52 = .ok (.istore 7, 2) := by decide +kernel
theorem dX4_support_54 : decode cX4_support 54 = .ok (.iload 7, 2) := by decide +kernel
theorem dX4_support_56 : decode cX4_support 56 = .ok (.aload_n 0, 1) := by decide +kernel
theorem dX4_support_57 : decode cX4_support 57 = .ok (.getfield 98, 3) := by decide +kernel
theorem dX4_support_60 : decode cX4_support 60 = .ok (.if_icmp .ge 73, 3) := by decide +kernel
theorem dX4_support_63 : decode cX4_support 63 = .ok (.iload_n 1, 1) := by decide +kernel
theorem dX4_support_64 : decode cX4_support 64 = .ok (.i2l, 1) := by decide +kernel
theorem dX4_support_65 : decode cX4_support 65 = .ok (.aload_n 0, 1) := by decide +kernel
theorem dX4_support_66 : decode cX4_support 66 = .ok (.getfield 19, 3) := by decide +kernel
theorem dX4_support_69 : decode cX4_support 69 = .ok (.iload 7, 2) := by decide +kernel
theorem dX4_support_71 : decode cX4_support 71 = .ok (.laload, 1) := by decide +kernel
theorem dX4_support_72 : decode cX4_support 72 = .ok (.lmul, 1) := by decide +kernel
theorem dX4_support_73 : decode cX4_support 73 = .ok (.iload_n 2, 1) := by decide +kernel
theorem dX4_support_74 : decode cX4_support 74 = .ok (.i2l, 1) := by decide +kernel
theorem dX4_support_75 : decode cX4_support 75 = .ok (.aload_n 0, 1) := by decide +kernel
theorem dX4_support_76 : decode cX4_support 76 = .ok (.getfield 23, 3) := by decide +kernel
theorem dX4_support_79 : decode cX4_support 79 = .ok (.iload 7, 2) := by decide +kernel
theorem dX4_support_81 : decode cX4_support 81 = .ok (.laload, 1) := by decide +kernel
theorem dX4_support_82 : decode cX4_support 82 = .ok (.lmul, 1) := by decide +kernel
theorem dX4_support_83 : decode cX4_support 83 = .ok (.ladd, 1) := by decide +kernel
theorem dX4_support_84 : decode cX4_support 84 = .ok (.iload_n 3, 1) := by decide +kernel
theorem dX4_support_85 : decode cX4_support 85 = .ok (.i2l, 1) := by decide +kernel
theorem dX4_support_86 : decode cX4_support 86 = .ok (.aload_n 0, 1) := by decide +kernel
theorem dX4_support_87 : decode cX4_support 87 = .ok (.getfield 26, 3) := by decide +kernel
theorem dX4_support_90 : decode cX4_support 90 = .ok (.iload 7, 2) := by decide +kernel
theorem dX4_support_92 : decode cX4_support 92 = .ok (.laload, 1) := by decide +kernel
theorem dX4_support_93 : decode cX4_support 93 = .ok (.lmul, 1) := by decide +kernel
theorem dX4_support_94 : decode cX4_support 94 = .ok (.ladd, 1) := by decide +kernel
theorem dX4_support_95 : decode cX4_support 95 = .ok (.lstore 8, 2) := by decide +kernel
theorem dX4_support_97 : decode cX4_support 97 = .ok (.aload_n 0, 1) := by decide +kernel
theorem dX4_support_98 : decode cX4_support 98 = .ok (.iload 7, 2) := by decide +kernel
theorem dX4_support_100 : decode cX4_support 100 = .ok (.invokevirtual 171, 3) := by decide +kernel
theorem dX4_support_103 : decode cX4_support 103 = .ok (.ifCond .eq 24, 3) := by decide +kernel
theorem dX4_support_106 : decode cX4_support 106 = .ok (.iload 4, 2) := by decide +kernel
theorem dX4_support_108 : decode cX4_support 108 = .ok (.ifCond .lt 11, 3) := by decide +kernel
theorem dX4_support_111 : decode cX4_support 111 = .ok (.lload 8, 2) := by decide +kernel
theorem dX4_support_113 : decode cX4_support 113 = .ok (.lload 5, 2) := by decide +kernel
theorem dX4_support_115 : decode cX4_support 115 = .ok (.lcmp, 1) := by decide +kernel
theorem dX4_support_116 : decode cX4_support 116 = .ok (.ifCond .le 11, 3) := by decide +kernel
theorem dX4_support_119 : decode cX4_support 119 = .ok (.iload 7, 2) := by decide +kernel
theorem dX4_support_121 : decode cX4_support 121 = .ok (.istore 4, 2) := by decide +kernel
theorem dX4_support_123 : decode cX4_support 123 = .ok (.lload 8, 2) := by decide +kernel
theorem dX4_support_125 : decode cX4_support 125 = .ok (.lstore 5, 2) := by decide +kernel
theorem dX4_support_127 : decode cX4_support 127 = .ok (.iinc 7 1, 3) := by decide +kernel
theorem dX4_support_130 : decode cX4_support 130 = .ok (.goto (-76), 3) := by decide +kernel
theorem dX4_support_133 : decode cX4_support 133 = .ok (.iload 4, 2) := by decide +kernel
theorem dX4_support_135 : decode cX4_support 135 = .ok (.ireturn, 1) := by decide +kernel
set_option maxRecDepth 20000 in
theorem ggX4_steps_X4_isCorner : GoodIn wsX4_steps wsX4_isCorner := goodIn_r _ [10, 4, 5, 16, 17, 18, 19, 20, 21, 22, 23, 24, 25, 26, 27, 28, 29, 30, 31, 32, 33, 34, 35, 36, 37, 38, 39, 40, 41, 42] (by decide +kernel) (by decide +kernel)
set_option maxRecDepth 20000 in
theorem gX4_steps_X4_isCorner : GoodIn wsX4_steps (wsV RX4 171 RX4 yX4_isCorner wsX4_isCorner) := goodIn_app (goodIn_of _ (by decide +kernel)) ggX4_steps_X4_isCorner
set_option maxRecDepth 20000 in
theorem ggX4_steps_X4_goes : GoodIn wsX4_steps wsX4_goes := goodIn_r _ [14, 15, 16, 17, 18, 19, 20, 21, 22, 23, 24, 25, 26, 27, 28, 29, 30, 31, 32, 33, 34, 35, 36, 37, 38, 39, 40, 41, 42] (by decide +kernel) (by decide +kernel)
set_option maxRecDepth 20000 in
theorem gX4_steps_X4_goes : GoodIn wsX4_steps (wsV RX4 77 RX4 yX4_goes wsX4_goes) := goodIn_app (goodIn_of _ (by decide +kernel)) ggX4_steps_X4_goes
theorem dX4_steps_0 : decode cX4_steps 0 = .ok (.aload_n 0, 1) := by decide +kernel
theorem dX4_steps_1 : decode cX4_steps 1 = .ok (.getfield 159, 3) := by decide +kernel
theorem dX4_steps_4 : decode cX4_steps 4 = .ok (.ifCond .eq 47, 3) := by decide +kernel
theorem dX4_steps_7 : decode cX4_steps 7 = .ok (.iload_n 1, 1) := by decide +kernel
theorem dX4_steps_8 : decode cX4_steps 8 = .ok (.ifCond .lt 43, 3) := by decide +kernel
theorem dX4_steps_11 : decode cX4_steps 11 = .ok (.iload_n 1, 1) := by decide +kernel
theorem dX4_steps_12 : decode cX4_steps 12 = .ok (.aload_n 0, 1) := by decide +kernel
theorem dX4_steps_13 : decode cX4_steps 13 = .ok (.getfield 98, 3) := by decide +kernel
theorem dX4_steps_16 : decode cX4_steps 16 = .ok (.if_icmp .ge 35, 3) := by decide +kernel
theorem dX4_steps_19 : decode cX4_steps 19 = .ok (.iload_n 2, 1) := by decide +kernel
theorem dX4_steps_20 : decode cX4_steps 20 = .ok (.ifCond .lt 31, 3) := by decide +kernel
theorem dX4_steps_23 : decode cX4_steps 23 = .ok (.iload_n 2, 1) := by decide +kernel
theorem dX4_steps_24 : decode cX4_steps 24 = .ok (.aload_n 0, 1) := by decide +kernel
theorem dX4_steps_25 : decode cX4_steps 25 = .ok (.getfield 98, 3) := by decide +kernel
theorem dX4_steps_28 : decode cX4_steps 28 = .ok (.if_icmp .ge 23, 3) := by decide +kernel
theorem dX4_steps_31 : decode cX4_steps 31 = .ok (.aload_n 0, 1) := by decide +kernel
theorem dX4_steps_32 : decode cX4_steps 32 = .ok (.iload_n 1, 1) := by decide +kernel
theorem dX4_steps_33 : decode cX4_steps 33 = .ok (.invokevirtual 171, 3) := by decide +kernel
theorem dX4_steps_36 : decode cX4_steps 36 = .ok (.ifCond .eq 15, 3) := by decide +kernel
theorem dX4_steps_39 : decode cX4_steps 39 = .ok (.aload_n 0, 1) := by decide +kernel
theorem dX4_steps_40 : decode cX4_steps 40 = .ok (.iload_n 2, 1) := by decide +kernel
theorem dX4_steps_41 : decode cX4_steps 41 = .ok (.invokevirtual 171, 3) := by decide +kernel
theorem dX4_steps_44 : decode cX4_steps 44 = .ok (.ifCond .eq 7, 3) := by decide +kernel
theorem dX4_steps_47 : decode cX4_steps 47 = .ok (.iconst 1, 1) := by decide +kernel
theorem dX4_steps_48 : decode cX4_steps 48 = .ok (.goto 4, 3) := by decide +kernel
theorem dX4_steps_51 : decode cX4_steps 51 = .ok (.iconst 0, 1) := by decide +kernel
theorem dX4_steps_52 : decode cX4_steps 52 = .ok (.istore_n 3, 1) := by decide +kernel
theorem dX4_steps_53 : decode cX4_steps 53 = .ok (.aload_n 0, 1) := by decide +kernel
theorem dX4_steps_54 : decode cX4_steps 54 = .ok (.aload_n 0, 1) := by decide +kernel
theorem dX4_steps_55 : decode cX4_steps 55 = .ok (.getfield 159, 3) := by decide +kernel
theorem dX4_steps_58 : decode cX4_steps 58 = .ok (.iload_n 3, 1) := by decide +kernel
theorem dX4_steps_59 : decode cX4_steps 59 = .ok (.invokevirtual 77, 3) := by decide +kernel
theorem dX4_steps_62 : decode cX4_steps 62 = .ok (.ifCond .ne 5, 3) := by decide +kernel
theorem dX4_steps_65 : decode cX4_steps 65 = .ok (.iconst 0, 1) := by decide +kernel
theorem dX4_steps_66 : decode cX4_steps 66 = .ok (.ireturn, 1) := by decide +kernel
theorem dX4_steps_67 : decode cX4_steps 67 = .ok (.iconst 0, 1) := by decide +kernel
theorem dX4_steps_68 : decode cX4_steps 68 = .ok (.istore 4, 2) := by decide +kernel
theorem dX4_steps_70 : decode cX4_steps 70 = .ok (.iload 4, 2) := by decide +kernel
theorem dX4_steps_72 : decode cX4_steps 72 = .ok (.aload_n 0, 1) := by decide +kernel
theorem dX4_steps_73 : decode cX4_steps 73 = .ok (.getfield 98, 3) := by decide +kernel
theorem dX4_steps_76 : decode cX4_steps 76 = .ok (.if_icmp .ge 28, 3) := by decide +kernel
theorem dX4_steps_79 : decode cX4_steps 79 = .ok (.aload_n 0, 1) := by decide +kernel
theorem dX4_steps_80 : decode cX4_steps 80 = .ok (.getfield 59, 3) := by decide +kernel
theorem dX4_steps_83 : decode cX4_steps 83 = .ok (.iload 4, 2) := by decide +kernel
theorem dX4_steps_85 : decode cX4_steps 85 = .ok (.iload 4, 2) := by decide +kernel
theorem dX4_steps_87 : decode cX4_steps 87 = .ok (.iload_n 1, 1) := by decide +kernel
theorem dX4_steps_88 : decode cX4_steps 88 = .ok (.if_icmp .ne 7, 3) := by decide +kernel
theorem dX4_steps_91 : decode cX4_steps 91 = .ok (.iconst 0, 1) := by decide +kernel
theorem dX4_steps_92 : decode cX4_steps 92 = .ok (.goto 5, 3) := by decide +kernel
theorem dX4_steps_95 : decode cX4_steps 95 = .ok (.bipush 99, 2) := by decide +kernel
theorem dX4_steps_97 : decode cX4_steps 97 = .ok (.iastore, 1) := by decide +kernel
theorem dX4_steps_98 : decode cX4_steps 98 = .ok (.iinc 4 1, 3) := by decide +kernel
theorem dX4_steps_101 : decode cX4_steps 101 = .ok (.goto (-31), 3) := by decide +kernel
theorem dX4_steps_104 : decode cX4_steps 104 = .ok (.iconst 0, 1) := by decide +kernel
theorem dX4_steps_105 : decode cX4_steps 105 = .ok (.istore 4, 2) := by decide +kernel
theorem dX4_steps_107 : decode cX4_steps 107 = .ok (.iload 4, 2) := by decide +kernel
theorem dX4_steps_109 : decode cX4_steps 109 = .ok (.aload_n 0, 1) := by decide +kernel
theorem dX4_steps_110 : decode cX4_steps 110 = .ok (.getfield 98, 3) := by decide +kernel
theorem dX4_steps_113 : decode cX4_steps 113 = .ok (.if_icmp .ge 141, 3) := by decide +kernel
theorem dX4_steps_116 : decode cX4_steps 116 = .ok (.iconst 0, 1) := by decide +kernel
theorem dX4_steps_117 : decode cX4_steps 117 = .ok (.istore 5, 2) := by decide +kernel
theorem dX4_steps_119 : decode cX4_steps 119 = .ok (.iload 5, 2) := by decide +kernel
theorem dX4_steps_121 : decode cX4_steps 121 = .ok (.aload_n 0, 1) := by decide +kernel
theorem dX4_steps_122 : decode cX4_steps 122 = .ok (.getfield 132, 3) := by decide +kernel
theorem dX4_steps_125 : decode cX4_steps 125 = .ok (.if_icmp .ge 123, 3) := by decide +kernel
theorem dX4_steps_128 : decode cX4_steps 128 = .ok (.aload_n 0, 1) := by decide +kernel
theorem dX4_steps_129 : decode cX4_steps 129 = .ok (.getfield 50, 3) := by decide +kernel
theorem dX4_steps_132 : decode cX4_steps 132 = .ok (.iload 5, 2) := by decide +kernel
theorem dX4_steps_134 : decode cX4_steps 134 = .ok (.iaload, 1) := by decide +kernel
theorem dX4_steps_135 : decode cX4_steps 135 = .ok (.bipush 32, 2) := by decide +kernel
theorem dX4_steps_137 : decode cX4_steps 137 = .ok (.idiv, 1) := by decide +kernel
theorem dX4_steps_138 : decode cX4_steps 138 = .ok (.istore 6, 2) := by decide +kernel
theorem dX4_steps_140 : decode cX4_steps 140 = .ok (.aload_n 0, 1) := by decide +kernel
theorem dX4_steps_141 : decode cX4_steps 141 = .ok (.getfield 50, 3) := by decide +kernel
theorem dX4_steps_144 : decode cX4_steps 144 = .ok (.iload 5, 2) := by decide +kernel
theorem dX4_steps_146 : decode cX4_steps 146 = .ok (.iaload, 1) := by decide +kernel
theorem dX4_steps_147 : decode cX4_steps 147 = .ok (.bipush 32, 2) := by decide +kernel
theorem dX4_steps_149 : decode cX4_steps 149 = .ok (.irem, 1) := by decide +kernel
theorem dX4_steps_150 : decode cX4_steps 150 = .ok (.istore 7, 2) := by decide +kernel
theorem dX4_steps_152 : decode cX4_steps 152 = .ok (.aload_n 0, 1) := by decide +kernel
theorem dX4_steps_153 : decode cX4_steps 153 = .ok (.getfield 59, 3) := by decide +kernel
theorem dX4_steps_156 : decode cX4_steps 156 = .ok (.iload 6, 2) := by decide +kernel
theorem dX4_steps_158 : decode cX4_steps 158 = .ok (.aload_n 0, 1) := by decide +kernel
theorem dX4_steps_159 : decode cX4_steps 159 = .ok (.getfield 59, 3) := by decide +kernel
theorem dX4_steps_162 : decode cX4_steps 162 = .ok (.iload 7, 2) := by decide +kernel
theorem dX4_steps_164 : decode cX4_steps 164 = .ok (.iaload, 1) := by decide +kernel
theorem dX4_steps_165 : decode cX4_steps 165 = .ok (.iconst 1, 1) := by decide +kernel
theorem dX4_steps_166 : decode cX4_steps 166 = .ok (.iadd, 1) := by decide +kernel
theorem dX4_steps_167 : decode cX4_steps 167 = .ok (.aload_n 0, 1) := by decide +kernel
theorem dX4_steps_168 : decode cX4_steps 168 = .ok (.getfield 59, 3) := by decide +kernel
theorem dX4_steps_171 : decode cX4_steps 171 = .ok (.iload 6, 2) := by decide +kernel
theorem dX4_steps_173 : decode cX4_steps 173 = .ok (.iaload, 1) := by decide +kernel
theorem dX4_steps_174 : decode cX4_steps 174 = .ok (.if_icmp .ge 15, 3) := by decide +kernel
theorem dX4_steps_177 : decode cX4_steps 177 = .ok (.aload_n 0, 1) := by decide +kernel
theorem dX4_steps_178 : decode cX4_steps 178 = .ok (.getfield 59, 3) := by decide +kernel
theorem dX4_steps_181 : decode cX4_steps 181 = .ok (.iload 7, 2) := by decide +kernel
theorem dX4_steps_183 : decode cX4_steps 183 = .ok (.iaload, 1) := by decide +kernel
theorem dX4_steps_184 : decode cX4_steps 184 = .ok (.iconst 1, 1) := by decide +kernel
theorem dX4_steps_185 : decode cX4_steps 185 = .ok (.iadd, 1) := by decide +kernel
theorem dX4_steps_186 : decode cX4_steps 186 = .ok (.goto 10, 3) := by decide +kernel
theorem dX4_steps_189 : decode cX4_steps 189 = .ok (.aload_n 0, 1) := by decide +kernel
theorem dX4_steps_190 : decode cX4_steps 190 = .ok (.getfield 59, 3) := by decide +kernel
theorem dX4_steps_193 : decode cX4_steps 193 = .ok (.iload 6, 2) := by decide +kernel
theorem dX4_steps_195 : decode cX4_steps 195 = .ok (.iaload, 1) := by decide +kernel
theorem dX4_steps_196 : decode cX4_steps 196 = .ok (.iastore, 1) := by decide +kernel
theorem dX4_steps_197 : decode cX4_steps 197 = .ok (.aload_n 0, 1) := by decide +kernel
theorem dX4_steps_198 : decode cX4_steps 198 = .ok (.getfield 59, 3) := by decide +kernel
theorem dX4_steps_201 : decode cX4_steps 201 = .ok (.iload 7, 2) := by decide +kernel
theorem dX4_steps_203 : decode cX4_steps 203 = .ok (.aload_n 0, 1) := by decide +kernel
theorem dX4_steps_204 : decode cX4_steps 204 = .ok (.getfield 59, 3) := by decide +kernel
theorem dX4_steps_207 : decode cX4_steps 207 = .ok (.iload 6, 2) := by decide +kernel
theorem dX4_steps_209 : decode cX4_steps 209 = .ok (.iaload, 1) := by decide +kernel
theorem dX4_steps_210 : decode cX4_steps 210 = .ok (.iconst 1, 1) := by decide +kernel
theorem dX4_steps_211 : decode cX4_steps 211 = .ok (.iadd, 1) := by decide +kernel
theorem dX4_steps_212 : decode cX4_steps 212 = .ok (.aload_n 0, 1) := by decide +kernel
theorem dX4_steps_213 : decode cX4_steps 213 = .ok (.getfield 59, 3) := by decide +kernel
theorem dX4_steps_216 : decode cX4_steps 216 = .ok (.iload 7, 2) := by decide +kernel
theorem dX4_steps_218 : decode cX4_steps 218 = .ok (.iaload, 1) := by decide +kernel
theorem dX4_steps_219 : decode cX4_steps 219 = .ok (.if_icmp .ge 15, 3) := by decide +kernel
theorem dX4_steps_222 : decode cX4_steps 222 = .ok (.aload_n 0, 1) := by decide +kernel
theorem dX4_steps_223 : decode cX4_steps 223 = .ok (.getfield 59, 3) := by decide +kernel
theorem dX4_steps_226 : decode cX4_steps 226 = .ok (.iload 6, 2) := by decide +kernel
theorem dX4_steps_228 : decode cX4_steps 228 = .ok (.iaload, 1) := by decide +kernel
theorem dX4_steps_229 : decode cX4_steps 229 = .ok (.iconst 1, 1) := by decide +kernel
theorem dX4_steps_230 : decode cX4_steps 230 = .ok (.iadd, 1) := by decide +kernel
theorem dX4_steps_231 : decode cX4_steps 231 = .ok (.goto 10, 3) := by decide +kernel
theorem dX4_steps_234 : decode cX4_steps 234 = .ok (.aload_n 0, 1) := by decide +kernel
theorem dX4_steps_235 : decode cX4_steps 235 = .ok (.getfield 59, 3) := by decide +kernel
theorem dX4_steps_238 : decode cX4_steps 238 = .ok (.iload 7, 2) := by decide +kernel
theorem dX4_steps_240 : decode cX4_steps 240 = .ok (.iaload, 1) := by decide +kernel
theorem dX4_steps_241 : decode cX4_steps 241 = .ok (.iastore, 1) := by decide +kernel
theorem dX4_steps_242 : decode cX4_steps 242 = .ok (.iinc 5 1, 3) := by decide +kernel
theorem dX4_steps_245 : decode cX4_steps 245 = .ok (.goto (-126), 3) := by decide +kernel
theorem dX4_steps_248 : decode cX4_steps 248 = .ok (.iinc 4 1, 3) := by decide +kernel
theorem dX4_steps_251 : decode cX4_steps 251 = .ok (.goto (-144), 3) := by decide +kernel
theorem dX4_steps_254 : decode cX4_steps 254 = .ok (.aload_n 0, 1) := by decide +kernel
theorem dX4_steps_255 : decode cX4_steps 255 = .ok (.getfield 59, 3) := by decide +kernel
theorem dX4_steps_258 : decode cX4_steps 258 = .ok (.iload_n 2, 1) := by decide +kernel
theorem dX4_steps_259 : decode cX4_steps 259 = .ok (.iaload, 1) := by decide +kernel
theorem dX4_steps_260 : decode cX4_steps 260 = .ok (.ireturn, 1) := by decide +kernel
set_option maxRecDepth 20000 in
theorem ggX4_side_X4_within : GoodIn wsX4_side wsX4_within := goodIn_r _ [11] (by decide +kernel) (by decide +kernel)
set_option maxRecDepth 20000 in
theorem gX4_side_X4_within : GoodIn wsX4_side (va_wsS RX4 69 yX4_within wsX4_within) := goodIn_app (goodIn_of _ (by decide +kernel)) ggX4_side_X4_within
set_option maxRecDepth 20000 in
theorem ggX4_side_X4_goes : GoodIn wsX4_side wsX4_goes := goodIn_r _ [15, 16, 17, 18, 19, 20, 21, 22, 23, 24, 25, 26, 27, 28, 29, 30, 31, 32, 33, 34, 35, 36, 37, 38, 39, 40, 41, 42, 43] (by decide +kernel) (by decide +kernel)
set_option maxRecDepth 20000 in
theorem gX4_side_X4_goes : GoodIn wsX4_side (wsV RX4 77 RX4 yX4_goes wsX4_goes) := goodIn_app (goodIn_of _ (by decide +kernel)) ggX4_side_X4_goes
theorem dX4_side_0 : decode cX4_side 0 = .ok (.aload_n 0, 1) := by decide +kernel
theorem dX4_side_1 : decode cX4_side 1 = .ok (.aload_n 0, 1) := by decide +kernel
theorem dX4_side_2 : decode cX4_side 2 = .ok (.getfield 159, 3) := by decide +kernel
theorem dX4_side_5 : decode cX4_side 5 = .ok (.iload_n 1, 1) := by decide +kernel
theorem dX4_side_6 : decode cX4_side 6 = .ok (.ldc 170, 2) := by decide +kernel
theorem dX4_side_8 : decode cX4_side 8 = .ok (.invokestatic 69, 3) := by decide +kernel
theorem dX4_side_11 : decode cX4_side 11 = .ok (.ifCond .eq 25, 3) := by decide +kernel
theorem dX4_side_14 : decode cX4_side 14 = .ok (.iload_n 2, 1) := by decide +kernel
theorem dX4_side_15 : decode cX4_side 15 = .ok (.ldc 170, 2) := by decide +kernel
theorem dX4_side_17 : decode cX4_side 17 = .ok (.invokestatic 69, 3) := by decide +kernel
theorem dX4_side_20 : decode cX4_side 20 = .ok (.ifCond .eq 16, 3) := by decide +kernel
theorem dX4_side_23 : decode cX4_side 23 = .ok (.iload_n 3, 1) := by decide +kernel
theorem dX4_side_24 : decode cX4_side 24 = .ok (.ldc 170, 2) := by decide +kernel
theorem dX4_side_26 : decode cX4_side 26 = .ok (.invokestatic 69, 3) := by decide +kernel
theorem dX4_side_29 : decode cX4_side 29 = .ok (.ifCond .eq 7, 3) := by decide +kernel
theorem dX4_side_32 : decode cX4_side 32 = .ok (.iconst 1, 1) := by decide +kernel
theorem dX4_side_33 : decode cX4_side 33 = .ok (.goto 4, 3) := by decide +kernel
theorem dX4_side_36 : decode cX4_side 36 = .ok (.iconst 0, 1) := by decide +kernel
theorem dX4_side_37 : decode cX4_side 37 = .ok (.invokevirtual 77, 3) := by decide +kernel
theorem dX4_side_40 : decode cX4_side 40 = .ok (.ifCond .ne 5, 3) := by decide +kernel
theorem dX4_side_43 : decode cX4_side 43 = .ok (.iconst 0, 1) := by decide +kernel
theorem dX4_side_44 : decode cX4_side 44 = .ok (.ireturn, 1) := by decide +kernel
theorem dX4_side_45 : decode cX4_side 45 = .ok (.iconst 1, 1) := by decide +kernel
theorem dX4_side_46 : decode cX4_side 46 = .ok (.istore 4, 2) := by decide +kernel
theorem dX4_side_48 : decode cX4_side 48 = .ok (.iconst 0, 1) := by decide +kernel
theorem dX4_side_49 : decode cX4_side 49 = .ok (.istore 5, 2) := by decide +kernel
theorem dX4_side_51 : decode cX4_side 51 = .ok (.iload 5, 2) := by decide +kernel
theorem dX4_side_53 : decode cX4_side 53 = .ok (.aload_n 0, 1) := by decide +kernel
theorem dX4_side_54 : decode cX4_side 54 = .ok (.getfield 91, 3) := by decide +kernel
theorem dX4_side_57 : decode cX4_side 57 = .ok (.if_icmp .ge 83, 3) := by decide +kernel
theorem dX4_side_60 : decode cX4_side 60 = .ok (.aload_n 0, 1) := by decide +kernel
theorem dX4_side_61 : decode cX4_side 61 = .ok (.getfield 29, 3) := by decide +kernel
theorem dX4_side_64 : decode cX4_side 64 = .ok (.iload 5, 2) := by decide +kernel
theorem dX4_side_66 : decode cX4_side 66 = .ok (.laload, 1) := by decide +kernel
theorem dX4_side_67 : decode cX4_side 67 = .ok (.iload_n 1, 1) := by decide +kernel
theorem dX4_side_68 : decode cX4_side 68 = .ok (.i2l, 1) := by decide +kernel
theorem dX4_side_69 : decode cX4_side 69 = .ok (.lmul, 1) := by decide +kernel
theorem dX4_side_70 : decode cX4_side 70 = .ok (.aload_n 0, 1) := by decide +kernel
theorem dX4_side_71 : decode cX4_side 71 = .ok (.getfield 32, 3) := by decide +kernel
theorem dX4_side_74 : decode cX4_side 74 = .ok (.iload 5, 2) := by decide +kernel
theorem dX4_side_76 : decode cX4_side 76 = .ok (.laload, 1) := by decide +kernel
theorem dX4_side_77 : decode cX4_side 77 = .ok (.iload_n 2, 1) := by decide +kernel
theorem dX4_side_78 : decode cX4_side 78 = .ok (.i2l, 1) := by decide +kernel
theorem dX4_side_79 : decode cX4_side 79 = .ok (.lmul, 1) := by decide +kernel
theorem dX4_side_80 : decode cX4_side 80 = .ok (.ladd, 1) := by decide +kernel
theorem dX4_side_81 : decode cX4_side 81 = .ok (.aload_n 0, 1) := by decide +kernel
theorem dX4_side_82 : decode cX4_side 82 = .ok (.getfield 35, 3) := by decide +kernel
theorem dX4_side_85 : decode cX4_side 85 = .ok (.iload 5, 2) := by decide +kernel
theorem dX4_side_87 : decode cX4_side 87 = .ok (.laload, 1) := by decide +kernel
theorem dX4_side_88 : decode cX4_side 88 = .ok (.iload_n 3, 1) := by decide +kernel
theorem dX4_side_89 : decode cX4_side 89 = .ok (.i2l, 1) := by decide +kernel
theorem dX4_side_90 : decode cX4_side 90 = .ok (.lmul, 1) := by decide +kernel
theorem dX4_side_91 : decode cX4_side 91 = .ok (.ladd, 1) := by decide +kernel
theorem dX4_side_92 : decode cX4_side 92 = .ok (.aload_n 0, 1) := by decide +kernel
theorem dX4_side_93 : decode cX4_side 93 = .ok (.getfield 38, 3) := by decide +kernel
theorem dX4_side_96 : decode cX4_side 96 = .ok (.iload 5, 2) := by decide +kernel
theorem dX4_side_98 : decode cX4_side 98 = .ok (.laload, 1) := by decide +kernel
theorem dX4_side_99 : decode cX4_side 99 = .ok (.lsub, 1) := by decide +kernel
theorem dX4_side_100 : decode cX4_side 100 = .ok (.lstore 6, 2) := by decide +kernel
theorem dX4_side_102 : decode cX4_side 102 = .ok (.lload 6, 2) := by decide +kernel
theorem dX4_side_104 : decode cX4_side 104 = .ok (.lconst 0, 1) := by decide +kernel
theorem dX4_side_105 : decode cX4_side 105 = .ok (.lcmp, 1) := by decide +kernel
theorem dX4_side_106 : decode cX4_side 106 = .ok (.ifCond .le 7, 3) := by decide +kernel
theorem dX4_side_109 : decode cX4_side 109 = .ok (.iconst (-1), 1) := by decide +kernel
theorem dX4_side_110 : decode cX4_side 110 = .ok (.goto 22, 3) := by decide +kernel
theorem dX4_side_113 : decode cX4_side 113 = .ok (.lload 6, 2) := by decide +kernel
theorem dX4_side_115 : decode cX4_side 115 = .ok (.lconst 0, 1) := by decide +kernel
theorem dX4_side_116 : decode cX4_side 116 = .ok (.lcmp, 1) := by decide +kernel
theorem dX4_side_117 : decode cX4_side 117 = .ok (.ifCond .ne 13, 3) := by decide +kernel
theorem dX4_side_120 : decode cX4_side 120 = .ok (.iload 4, 2) := by decide +kernel
theorem dX4_side_122 : decode cX4_side 122 = .ok (.iconst 1, 1) := by decide +kernel
theorem dX4_side_123 : decode cX4_side 123 = .ok (.if_icmp .ne 7, 3) := by decide +kernel
theorem dX4_side_126 : decode cX4_side 126 = .ok (.iconst 0, 1) := by decide +kernel
theorem dX4_side_127 : decode cX4_side 127 = .ok (.goto 5, 3) := by decide +kernel
theorem dX4_side_130 : decode cX4_side 130 = .ok (.iload 4, 2) := by decide +kernel
theorem dX4_side_132 : decode cX4_side 132 = .ok (.istore 4, 2) := by decide +kernel
theorem dX4_side_134 : decode cX4_side 134 = .ok (.iinc 5 1, 3) := by decide +kernel
theorem dX4_side_137 : decode cX4_side 137 = .ok (.goto (-86), 3) := by decide +kernel
theorem dX4_side_140 : decode cX4_side 140 = .ok (.iload 4, 2) := by decide +kernel
theorem dX4_side_142 : decode cX4_side 142 = .ok (.ireturn, 1) := by decide +kernel
theorem dX4_sum_0 : decode cX4_sum 0 = .ok (.lconst 0, 1) := by decide +kernel
theorem dX4_sum_1 : decode cX4_sum 1 = .ok (.lstore_n 2, 1) := by decide +kernel
theorem dX4_sum_2 : decode cX4_sum 2 = .ok (.iconst 0, 1) := by decide +kernel
theorem dX4_sum_3 : decode cX4_sum 3 = .ok (.istore 4, 2) := by decide +kernel
theorem dX4_sum_5 : decode cX4_sum 5 = .ok (.iload 4, 2) := by decide +kernel
theorem dX4_sum_7 : decode cX4_sum 7 = .ok (.aload_n 0, 1) := by decide +kernel
theorem dX4_sum_8 : decode cX4_sum 8 = .ok (.getfield 91, 3) := by decide +kernel
theorem dX4_sum_11 : decode cX4_sum 11 = .ok (.if_icmp .ge 299, 3) := by decide +kernel
theorem dX4_sum_14 : decode cX4_sum 14 = .ok (.aload_n 0, 1) := by decide +kernel
theorem dX4_sum_15 : decode cX4_sum 15 = .ok (.getfield 44, 3) := by decide +kernel
theorem dX4_sum_18 : decode cX4_sum 18 = .ok (.bipush 24, 2) := by decide +kernel
theorem dX4_sum_20 : decode cX4_sum 20 = .ok (.iload 4, 2) := by decide +kernel
theorem dX4_sum_22 : decode cX4_sum 22 = .ok (.imul, 1) := by decide +kernel
theorem dX4_sum_23 : decode cX4_sum 23 = .ok (.iaload, 1) := by decide +kernel
theorem dX4_sum_24 : decode cX4_sum 24 = .ok (.istore 5, 2) := by decide +kernel
theorem dX4_sum_26 : decode cX4_sum 26 = .ok (.iconst 1, 1) := by decide +kernel
theorem dX4_sum_27 : decode cX4_sum 27 = .ok (.istore 6, 2) := by decide +kernel
theorem dX4_sum_29 : decode cX4_sum 29 = .ok (.iload 6, 2) := by decide +kernel
theorem dX4_sum_31 : decode cX4_sum 31 = .ok (.iconst 1, 1) := by decide +kernel
theorem dX4_sum_32 : decode cX4_sum 32 = .ok (.iadd, 1) := by decide +kernel
theorem dX4_sum_33 : decode cX4_sum 33 = .ok (.aload_n 0, 1) := by decide +kernel
theorem dX4_sum_34 : decode cX4_sum 34 = .ok (.getfield 41, 3) := by decide +kernel
theorem dX4_sum_37 : decode cX4_sum 37 = .ok (.iload 4, 2) := by decide +kernel
theorem dX4_sum_39 : decode cX4_sum 39 = .ok (.iaload, 1) := by decide +kernel
theorem dX4_sum_40 : decode cX4_sum 40 = .ok (.if_icmp .ge 264, 3) := by decide +kernel
theorem dX4_sum_43 : decode cX4_sum 43 = .ok (.aload_n 0, 1) := by decide +kernel
theorem dX4_sum_44 : decode cX4_sum 44 = .ok (.getfield 44, 3) := by decide +kernel
theorem dX4_sum_47 : decode cX4_sum 47 = .ok (.bipush 24, 2) := by decide +kernel
theorem dX4_sum_49 : decode cX4_sum 49 = .ok (.iload 4, 2) := by decide +kernel
theorem dX4_sum_51 : decode cX4_sum 51 = .ok (.imul, 1) := by decide +kernel
theorem dX4_sum_52 : decode cX4_sum 52 = .ok (.iload 6, 2) := by decide +kernel
theorem dX4_sum_54 : decode cX4_sum 54 = .ok (.iadd, 1) := by decide +kernel
theorem dX4_sum_55 : decode cX4_sum 55 = .ok (.iaload, 1) := by decide +kernel
theorem dX4_sum_56 : decode cX4_sum 56 = .ok (.istore 7, 2) := by decide +kernel
theorem dX4_sum_58 : decode cX4_sum 58 = .ok (.aload_n 0, 1) := by decide +kernel
theorem dX4_sum_59 : decode cX4_sum 59 = .ok (.getfield 44, 3) := by decide +kernel
theorem dX4_sum_62 : decode cX4_sum 62 = .ok (.bipush 24, 2) := by decide +kernel
theorem dX4_sum_64 : decode cX4_sum 64 = .ok (.iload 4, 2) := by decide +kernel
theorem dX4_sum_66 : decode cX4_sum 66 = .ok (.imul, 1) := by decide +kernel
theorem dX4_sum_67 : decode cX4_sum 67 = .ok (.iload 6, 2) := by decide +kernel
theorem dX4_sum_69 : decode cX4_sum 69 = .ok (.iadd, 1) := by decide +kernel
theorem dX4_sum_70 : decode cX4_sum 70 = .ok (.iconst 1, 1) := by decide +kernel
theorem dX4_sum_71 : decode cX4_sum 71 = .ok (.iadd, 1) := by decide +kernel
theorem dX4_sum_72 : decode cX4_sum 72 = .ok (.iaload, 1) := by decide +kernel
theorem dX4_sum_73 : decode cX4_sum 73 = .ok (.istore 8, 2) := by decide +kernel
theorem dX4_sum_75 : decode cX4_sum 75 = .ok (.aload_n 0, 1) := by decide +kernel
theorem dX4_sum_76 : decode cX4_sum 76 = .ok (.getfield 19, 3) := by decide +kernel
theorem dX4_sum_79 : decode cX4_sum 79 = .ok (.iload 5, 2) := by decide +kernel
theorem dX4_sum_81 : decode cX4_sum 81 = .ok (.laload, 1) := by decide +kernel
theorem dX4_sum_82 : decode cX4_sum 82 = .ok (.aload_n 0, 1) := by decide +kernel
theorem dX4_sum_83 : decode cX4_sum 83 = .ok (.getfield 23, 3) := by decide +kernel
theorem dX4_sum_86 : decode cX4_sum 86 = .ok (.iload 7, 2) := by decide +kernel
theorem dX4_sum_88 : decode cX4_sum 88 = .ok (.laload, 1) := by decide +kernel
theorem dX4_sum_89 : decode cX4_sum 89 = .ok (.aload_n 0, 1) := by decide +kernel
theorem dX4_sum_90 : decode cX4_sum 90 = .ok (.getfield 26, 3) := by decide +kernel
theorem dX4_sum_93 : decode cX4_sum 93 = .ok (.iload 8, 2) := by decide +kernel
theorem dX4_sum_95 : decode cX4_sum 95 = .ok (.laload, 1) := by decide +kernel
theorem dX4_sum_96 : decode cX4_sum 96 = .ok (.lmul, 1) := by decide +kernel
theorem dX4_sum_97 : decode cX4_sum 97 = .ok (.aload_n 0, 1) := by decide +kernel
theorem dX4_sum_98 : decode cX4_sum 98 = .ok (.getfield 26, 3) := by decide +kernel
theorem dX4_sum_101 : decode cX4_sum 101 = .ok (.iload 7, 2) := by decide +kernel
theorem dX4_sum_103 : decode cX4_sum 103 = .ok (.laload, 1) := by decide +kernel
theorem dX4_sum_104 : decode cX4_sum 104 = .ok (.aload_n 0, 1) := by decide +kernel
theorem dX4_sum_105 : decode cX4_sum 105 = .ok (.getfield 23, 3) := by decide +kernel
theorem dX4_sum_108 : decode cX4_sum 108 = .ok (.iload 8, 2) := by decide +kernel
theorem dX4_sum_110 : decode cX4_sum 110 = .ok (.laload, 1) := by decide +kernel
theorem dX4_sum_111 : decode cX4_sum 111 = .ok (.lmul, 1) := by decide +kernel
theorem dX4_sum_112 : decode cX4_sum 112 = .ok (.lsub, 1) := by decide +kernel
theorem dX4_sum_113 : decode cX4_sum 113 = .ok (.lmul, 1) := by decide +kernel
theorem dX4_sum_114 : decode cX4_sum 114 = .ok (.aload_n 0, 1) := by decide +kernel
theorem dX4_sum_115 : decode cX4_sum 115 = .ok (.getfield 23, 3) := by decide +kernel
theorem dX4_sum_118 : decode cX4_sum 118 = .ok (.iload 5, 2) := by decide +kernel
theorem dX4_sum_120 : decode cX4_sum 120 = .ok (.laload, 1) := by decide +kernel
theorem dX4_sum_121 : decode cX4_sum 121 = .ok (.aload_n 0, 1) := by decide +kernel
theorem dX4_sum_122 : decode cX4_sum 122 = .ok (.getfield 26, 3) := by decide +kernel
theorem dX4_sum_125 : decode cX4_sum 125 = .ok (.iload 7, 2) := by decide +kernel
theorem dX4_sum_127 : decode cX4_sum 127 = .ok (.laload, 1) := by decide +kernel
theorem dX4_sum_128 : decode cX4_sum 128 = .ok (.aload_n 0, 1) := by decide +kernel
theorem dX4_sum_129 : decode cX4_sum 129 = .ok (.getfield 19, 3) := by decide +kernel
theorem dX4_sum_132 : decode cX4_sum 132 = .ok (.iload 8, 2) := by decide +kernel
theorem dX4_sum_134 : decode cX4_sum 134 = .ok (.laload, 1) := by decide +kernel
theorem dX4_sum_135 : decode cX4_sum 135 = .ok (.lmul, 1) := by decide +kernel
theorem dX4_sum_136 : decode cX4_sum 136 = .ok (.aload_n 0, 1) := by decide +kernel
theorem dX4_sum_137 : decode cX4_sum 137 = .ok (.getfield 19, 3) := by decide +kernel
theorem dX4_sum_140 : decode cX4_sum 140 = .ok (.iload 7, 2) := by decide +kernel
theorem dX4_sum_142 : decode cX4_sum 142 = .ok (.laload, 1) := by decide +kernel
theorem dX4_sum_143 : decode cX4_sum 143 = .ok (.aload_n 0, 1) := by decide +kernel
theorem dX4_sum_144 : decode cX4_sum 144 = .ok (.getfield 26, 3) := by decide +kernel
theorem dX4_sum_147 : decode cX4_sum 147 = .ok (.iload 8, 2) := by decide +kernel
theorem dX4_sum_149 : decode cX4_sum 149 = .ok (.laload, 1) := by decide +kernel
theorem dX4_sum_150 : decode cX4_sum 150 = .ok (.lmul, 1) := by decide +kernel
theorem dX4_sum_151 : decode cX4_sum 151 = .ok (.lsub, 1) := by decide +kernel
theorem dX4_sum_152 : decode cX4_sum 152 = .ok (.lmul, 1) := by decide +kernel
theorem dX4_sum_153 : decode cX4_sum 153 = .ok (.ladd, 1) := by decide +kernel
theorem dX4_sum_154 : decode cX4_sum 154 = .ok (.aload_n 0, 1) := by decide +kernel
theorem dX4_sum_155 : decode cX4_sum 155 = .ok (.getfield 26, 3) := by decide +kernel
theorem dX4_sum_158 : decode cX4_sum 158 = .ok (.iload 5, 2) := by decide +kernel
theorem dX4_sum_160 : decode cX4_sum 160 = .ok (.laload, 1) := by decide +kernel
theorem dX4_sum_161 : decode cX4_sum 161 = .ok (.aload_n 0, 1) := by decide +kernel
theorem dX4_sum_162 : decode cX4_sum 162 = .ok (.getfield 19, 3) := by decide +kernel
theorem dX4_sum_165 : decode cX4_sum 165 = .ok (.iload 7, 2) := by decide +kernel
theorem dX4_sum_167 : decode cX4_sum 167 = .ok (.laload, 1) := by decide +kernel
theorem dX4_sum_168 : decode cX4_sum 168 = .ok (.aload_n 0, 1) := by decide +kernel
theorem dX4_sum_169 : decode cX4_sum 169 = .ok (.getfield 23, 3) := by decide +kernel
theorem dX4_sum_172 : decode cX4_sum 172 = .ok (.iload 8, 2) := by decide +kernel
theorem dX4_sum_174 : decode cX4_sum 174 = .ok (.laload, 1) := by decide +kernel
theorem dX4_sum_175 : decode cX4_sum 175 = .ok (.lmul, 1) := by decide +kernel
theorem dX4_sum_176 : decode cX4_sum 176 = .ok (.aload_n 0, 1) := by decide +kernel
theorem dX4_sum_177 : decode cX4_sum 177 = .ok (.getfield 23, 3) := by decide +kernel
theorem dX4_sum_180 : decode cX4_sum 180 = .ok (.iload 7, 2) := by decide +kernel
theorem dX4_sum_182 : decode cX4_sum 182 = .ok (.laload, 1) := by decide +kernel
theorem dX4_sum_183 : decode cX4_sum 183 = .ok (.aload_n 0, 1) := by decide +kernel
theorem dX4_sum_184 : decode cX4_sum 184 = .ok (.getfield 19, 3) := by decide +kernel
theorem dX4_sum_187 : decode cX4_sum 187 = .ok (.iload 8, 2) := by decide +kernel
theorem dX4_sum_189 : decode cX4_sum 189 = .ok (.laload, 1) := by decide +kernel
theorem dX4_sum_190 : decode cX4_sum 190 = .ok (.lmul, 1) := by decide +kernel
theorem dX4_sum_191 : decode cX4_sum 191 = .ok (.lsub, 1) := by decide +kernel
theorem dX4_sum_192 : decode cX4_sum 192 = .ok (.lmul, 1) := by decide +kernel
theorem dX4_sum_193 : decode cX4_sum 193 = .ok (.ladd, 1) := by decide +kernel
theorem dX4_sum_194 : decode cX4_sum 194 = .ok (.lstore 9, 2) := by decide +kernel
theorem dX4_sum_196 : decode cX4_sum 196 = .ok (.iload_n 1, 1) := by decide +kernel
theorem dX4_sum_197 : decode cX4_sum 197 = .ok (.ifCond .ge 7, 3) := by decide +kernel
theorem dX4_sum_200 : decode cX4_sum 200 = .ok (.lconst 1, 1) := by decide +kernel
theorem dX4_sum_201 : decode cX4_sum 201 = .ok (.goto 87, 3) := by decide +kernel
theorem dX4_sum_204 : decode cX4_sum 204 = .ok (.iload_n 1, 1) := by decide +kernel
theorem dX4_sum_205 : decode cX4_sum 205 = .ok (.ifCond .ne 29, 3) := by decide +kernel
theorem dX4_sum_208 : decode cX4_sum 208 = .ok (.aload_n 0, 1) := by decide +kernel
theorem dX4_sum_209 : decode cX4_sum 209 = .ok (.getfield 19, 3) := by decide +kernel
theorem dX4_sum_212 : decode cX4_sum 212 = .ok (.iload 5, 2) := by decide +kernel
theorem dX4_sum_214 : decode cX4_sum 214 = .ok (.laload, 1) := by decide +kernel
theorem dX4_sum_215 : decode cX4_sum 215 = .ok (.aload_n 0, 1) := by decide +kernel
theorem dX4_sum_216 : decode cX4_sum 216 = .ok (.getfield 19, 3) := by decide +kernel
theorem dX4_sum_219 : decode cX4_sum 219 = .ok (.iload 7, 2) := by decide +kernel
theorem dX4_sum_221 : decode cX4_sum 221 = .ok (.laload, 1) := by decide +kernel
theorem dX4_sum_222 : decode cX4_sum 222 = .ok (.ladd, 1) := by decide +kernel
theorem dX4_sum_223 : decode cX4_sum 223 = .ok (.aload_n 0, 1) := by decide +kernel
theorem dX4_sum_224 : decode cX4_sum 224 = .ok (.getfield 19, 3) := by decide +kernel
theorem dX4_sum_227 : decode cX4_sum 227 = .ok (.iload 8, 2) := by decide +kernel
theorem dX4_sum_229 : decode cX4_sum 229 = .ok (.laload, 1) := by decide +kernel
theorem dX4_sum_230 : decode cX4_sum 230 = .ok (.ladd, 1) := by decide +kernel
theorem dX4_sum_231 : decode cX4_sum 231 = .ok (.goto 57, 3) := by decide +kernel
theorem dX4_sum_234 : decode cX4_sum 234 = .ok (.iload_n 1, 1) := by decide +kernel
theorem dX4_sum_235 : decode cX4_sum 235 = .ok (.iconst 1, 1) := by decide +kernel
theorem dX4_sum_236 : decode cX4_sum 236 = .ok (.if_icmp .ne 29, 3) := by decide +kernel
theorem dX4_sum_239 : decode cX4_sum 239 = .ok (.aload_n 0, 1) := by decide +kernel
theorem dX4_sum_240 : decode cX4_sum 240 = .ok (.getfield 23, 3) := by decide +kernel
theorem dX4_sum_243 : decode cX4_sum 243 = .ok (.iload 5, 2) := by decide +kernel
theorem dX4_sum_245 : decode cX4_sum 245 = .ok (.laload, 1) := by decide +kernel
theorem dX4_sum_246 : decode cX4_sum 246 = .ok (.aload_n 0, 1) := by decide +kernel
theorem dX4_sum_247 : decode cX4_sum 247 = .ok (.getfield 23, 3) := by decide +kernel
theorem dX4_sum_250 : decode cX4_sum 250 = .ok (.iload 7, 2) := by decide +kernel
theorem dX4_sum_252 : decode cX4_sum 252 = .ok (.laload, 1) := by decide +kernel
theorem dX4_sum_253 : decode cX4_sum 253 = .ok (.ladd, 1) := by decide +kernel
theorem dX4_sum_254 : decode cX4_sum 254 = .ok (.aload_n 0, 1) := by decide +kernel
theorem dX4_sum_255 : decode cX4_sum 255 = .ok (.getfield 23, 3) := by decide +kernel
theorem dX4_sum_258 : decode cX4_sum 258 = .ok (.iload 8, 2) := by decide +kernel
theorem dX4_sum_260 : decode cX4_sum 260 = .ok (.laload, 1) := by decide +kernel
theorem dX4_sum_261 : decode cX4_sum 261 = .ok (.ladd, 1) := by decide +kernel
theorem dX4_sum_262 : decode cX4_sum 262 = .ok (.goto 26, 3) := by decide +kernel
theorem dX4_sum_265 : decode cX4_sum 265 = .ok (.aload_n 0, 1) := by decide +kernel
theorem dX4_sum_266 : decode cX4_sum 266 = .ok (.getfield 26, 3) := by decide +kernel
theorem dX4_sum_269 : decode cX4_sum 269 = .ok (.iload 5, 2) := by decide +kernel
theorem dX4_sum_271 : decode cX4_sum 271 = .ok (.laload, 1) := by decide +kernel
theorem dX4_sum_272 : decode cX4_sum 272 = .ok (.aload_n 0, 1) := by decide +kernel
theorem dX4_sum_273 : decode cX4_sum 273 = .ok (.getfield 26, 3) := by decide +kernel
theorem dX4_sum_276 : decode cX4_sum 276 = .ok (.iload 7, 2) := by decide +kernel
theorem dX4_sum_278 : decode cX4_sum 278 = .ok (.laload, 1) := by decide +kernel
theorem dX4_sum_279 : decode cX4_sum 279 = .ok (.ladd, 1) := by decide +kernel
theorem dX4_sum_280 : decode cX4_sum 280 = .ok (.aload_n 0, 1) := by decide +kernel
theorem dX4_sum_281 : decode cX4_sum 281 = .ok (.getfield 26, 3) := by decide +kernel
theorem dX4_sum_284 : decode cX4_sum 284 = .ok (.iload 8, 2) := by decide +kernel
theorem dX4_sum_286 : decode cX4_sum 286 = .ok (.laload, 1) := by decide +kernel
theorem dX4_sum_287 : decode cX4_sum 287 = .ok (.ladd, 1) := by decide +kernel
theorem dX4_sum_288 : decode cX4_sum 288 = .ok (.lstore 11, 2) := by decide +kernel
theorem dX4_sum_290 : decode cX4_sum 290 = .ok (.lload_n 2, 1) := by decide +kernel
theorem dX4_sum_291 : decode cX4_sum 291 = .ok (.lload 9, 2) := by decide +kernel
theorem dX4_sum_293 : decode cX4_sum 293 = .ok (.lload 11, 2) := by decide +kernel
theorem dX4_sum_295 : decode cX4_sum 295 = .ok (.lmul, 1) := by decide +kernel
theorem dX4_sum_296 : decode cX4_sum 296 = .ok (.ladd, 1) := by decide +kernel
theorem dX4_sum_297 : decode cX4_sum 297 = .ok (.lstore_n 2, 1) := by decide +kernel
theorem dX4_sum_298 : decode cX4_sum 298 = .ok (.iinc 6 1, 3) := by decide +kernel
theorem dX4_sum_301 : decode cX4_sum 301 = .ok (.goto (-272), 3) := by decide +kernel
theorem dX4_sum_304 : decode cX4_sum 304 = .ok (.iinc 4 1, 3) := by decide +kernel
theorem dX4_sum_307 : decode cX4_sum 307 = .ok (.goto (-302), 3) := by decide +kernel
theorem dX4_sum_310 : decode cX4_sum 310 = .ok (.lload_n 2, 1) := by decide +kernel
theorem dX4_sum_311 : decode cX4_sum 311 = .ok (.lreturn, 1) := by decide +kernel
set_option maxRecDepth 20000 in
theorem ggX4_volume_X4_goes : GoodIn wsX4_volume wsX4_goes := goodIn_r _ [6, 7, 18, 19, 20, 21, 22, 23, 24, 25, 26, 27, 28, 29, 30, 31, 32, 33, 34, 35, 36, 37, 38, 39, 40, 41, 42, 43, 44] (by decide +kernel) (by decide +kernel)
set_option maxRecDepth 20000 in
theorem gX4_volume_X4_goes : GoodIn wsX4_volume (wsV RX4 77 RX4 yX4_goes wsX4_goes) := goodIn_app (goodIn_of _ (by decide +kernel)) ggX4_volume_X4_goes
set_option maxRecDepth 20000 in
theorem ggX4_volume_X4_sum : GoodIn wsX4_volume wsX4_sum := goodIn_r _ [11, 12, 13, 14, 15, 16, 17, 18, 19, 20, 21, 22, 23, 24, 25, 26, 27, 28, 29, 30, 31, 32, 33, 34, 35, 36, 37, 38, 39, 40, 41, 42, 43, 44] (by decide +kernel) (by decide +kernel)
set_option maxRecDepth 20000 in
theorem gX4_volume_X4_sum : GoodIn wsX4_volume (wsV RX4 174 RX4 yX4_sum wsX4_sum) := goodIn_app (goodIn_of _ (by decide +kernel)) ggX4_volume_X4_sum
theorem dX4_volume_0 : decode cX4_volume 0 = .ok (.aload_n 0, 1) := by decide +kernel
theorem dX4_volume_1 : decode cX4_volume 1 = .ok (.aload_n 0, 1) := by decide +kernel
theorem dX4_volume_2 : decode cX4_volume 2 = .ok (.getfield 159, 3) := by decide +kernel
theorem dX4_volume_5 : decode cX4_volume 5 = .ok (.iconst 1, 1) := by decide +kernel
theorem dX4_volume_6 : decode cX4_volume 6 = .ok (.invokevirtual 77, 3) := by decide +kernel
theorem dX4_volume_9 : decode cX4_volume 9 = .ok (.ifCond .eq 11, 3) := by decide +kernel
theorem dX4_volume_12 : decode cX4_volume 12 = .ok (.aload_n 0, 1) := by decide +kernel
theorem dX4_volume_13 : decode cX4_volume 13 = .ok (.iconst (-1), 1) := by decide +kernel
theorem dX4_volume_14 : decode cX4_volume 14 = .ok (.invokevirtual 174, 3) := by decide +kernel
theorem dX4_volume_17 : decode cX4_volume 17 = .ok (.goto 4, 3) := by decide +kernel
theorem dX4_volume_20 : decode cX4_volume 20 = .ok (.lconst 0, 1) := by decide +kernel
theorem dX4_volume_21 : decode cX4_volume 21 = .ok (.lreturn, 1) := by decide +kernel
set_option maxRecDepth 20000 in
theorem ggX4_centre_X4_goes : GoodIn wsX4_centre wsX4_goes := goodIn_r _ [6, 7, 18, 19, 20, 21, 22, 23, 24, 25, 26, 27, 28, 29, 30, 31, 32, 33, 34, 35, 36, 37, 38, 39, 40, 41, 42, 43, 44] (by decide +kernel) (by decide +kernel)
set_option maxRecDepth 20000 in
theorem gX4_centre_X4_goes : GoodIn wsX4_centre (wsV RX4 77 RX4 yX4_goes wsX4_goes) := goodIn_app (goodIn_of _ (by decide +kernel)) ggX4_centre_X4_goes
set_option maxRecDepth 20000 in
theorem ggX4_centre_X4_sum : GoodIn wsX4_centre wsX4_sum := goodIn_r _ [11, 12, 13, 14, 15, 16, 17, 18, 19, 20, 21, 22, 23, 24, 25, 26, 27, 28, 29, 30, 31, 32, 33, 34, 35, 36, 37, 38, 39, 40, 41, 42, 43, 44] (by decide +kernel) (by decide +kernel)
set_option maxRecDepth 20000 in
theorem gX4_centre_X4_sum : GoodIn wsX4_centre (wsV RX4 174 RX4 yX4_sum wsX4_sum) := goodIn_app (goodIn_of _ (by decide +kernel)) ggX4_centre_X4_sum
theorem dX4_centre_0 : decode cX4_centre 0 = .ok (.aload_n 0, 1) := by decide +kernel
theorem dX4_centre_1 : decode cX4_centre 1 = .ok (.aload_n 0, 1) := by decide +kernel
theorem dX4_centre_2 : decode cX4_centre 2 = .ok (.getfield 159, 3) := by decide +kernel
theorem dX4_centre_5 : decode cX4_centre 5 = .ok (.iload_n 1, 1) := by decide +kernel
theorem dX4_centre_6 : decode cX4_centre 6 = .ok (.ifCond .lt 12, 3) := by decide +kernel
theorem dX4_centre_9 : decode cX4_centre 9 = .ok (.iload_n 1, 1) := by decide +kernel
theorem dX4_centre_10 : decode cX4_centre 10 = .ok (.iconst 2, 1) := by decide +kernel
theorem dX4_centre_11 : decode cX4_centre 11 = .ok (.if_icmp .gt 7, 3) := by decide +kernel
theorem dX4_centre_14 : decode cX4_centre 14 = .ok (.iconst 1, 1) := by decide +kernel
theorem dX4_centre_15 : decode cX4_centre 15 = .ok (.goto 4, 3) := by decide +kernel
theorem dX4_centre_18 : decode cX4_centre 18 = .ok (.iconst 0, 1) := by decide +kernel
theorem dX4_centre_19 : decode cX4_centre 19 = .ok (.invokevirtual 77, 3) := by decide +kernel
theorem dX4_centre_22 : decode cX4_centre 22 = .ok (.ifCond .eq 11, 3) := by decide +kernel
theorem dX4_centre_25 : decode cX4_centre 25 = .ok (.aload_n 0, 1) := by decide +kernel
theorem dX4_centre_26 : decode cX4_centre 26 = .ok (.iload_n 1, 1) := by decide +kernel
theorem dX4_centre_27 : decode cX4_centre 27 = .ok (.invokevirtual 174, 3) := by decide +kernel
theorem dX4_centre_30 : decode cX4_centre 30 = .ok (.goto 4, 3) := by decide +kernel
theorem dX4_centre_33 : decode cX4_centre 33 = .ok (.lconst 0, 1) := by decide +kernel
theorem dX4_centre_34 : decode cX4_centre 34 = .ok (.lreturn, 1) := by decide +kernel
set_option maxRecDepth 20000 in
theorem ggX4_middle_X4_goes : GoodIn wsX4_middle wsX4_goes := goodIn_r _ [7, 8, 19, 20, 21, 22, 23, 24, 25, 26, 27, 28, 29, 30, 31, 32, 33, 34, 35, 36, 37, 38, 39, 40, 41, 42, 43, 44, 45] (by decide +kernel) (by decide +kernel)
set_option maxRecDepth 20000 in
theorem gX4_middle_X4_goes : GoodIn wsX4_middle (wsV RX4 77 RX4 yX4_goes wsX4_goes) := goodIn_app (goodIn_of _ (by decide +kernel)) ggX4_middle_X4_goes
set_option maxRecDepth 20000 in
theorem ggX4_middle_X4_sum : GoodIn wsX4_middle wsX4_sum := goodIn_r _ [12, 13, 14, 15, 16, 17, 18, 19, 20, 21, 22, 23, 24, 25, 26, 27, 28, 29, 30, 31, 32, 33, 34, 35, 36, 37, 38, 39, 40, 41, 42, 43, 44, 45] (by decide +kernel) (by decide +kernel)
set_option maxRecDepth 20000 in
theorem gX4_middle_X4_sum : GoodIn wsX4_middle (wsV RX4 174 RX4 yX4_sum wsX4_sum) := goodIn_app (goodIn_of _ (by decide +kernel)) ggX4_middle_X4_sum
theorem dX4_middle_0 : decode cX4_middle 0 = .ok (.aload_n 0, 1) := by decide +kernel
end
section
theorem dX4_middle_1 : decode cX4_middle 1 = .ok (.aload_n 0, 1) := by decide +kernel
theorem dX4_middle_2 : decode cX4_middle 2 = .ok (.getfield 159, 3) := by decide +kernel
theorem dX4_middle_5 : decode cX4_middle 5 = .ok (.iload_n 1, 1) := by decide +kernel
theorem dX4_middle_6 : decode cX4_middle 6 = .ok (.ifCond .lt 12, 3) := by decide +kernel
theorem dX4_middle_9 : decode cX4_middle 9 = .ok (.iload_n 1, 1) := by decide +kernel
theorem dX4_middle_10 : decode cX4_middle 10 = .ok (.iconst 2, 1) := by decide +kernel
theorem dX4_middle_11 : decode cX4_middle 11 = .ok (.if_icmp .gt 7, 3) := by decide +kernel
theorem dX4_middle_14 : decode cX4_middle 14 = .ok (.iconst 1, 1) := by decide +kernel
theorem dX4_middle_15 : decode cX4_middle 15 = .ok (.goto 4, 3) := by decide +kernel
theorem dX4_middle_18 : decode cX4_middle 18 = .ok (.iconst 0, 1) := by decide +kernel
theorem dX4_middle_19 : decode cX4_middle 19 = .ok (.invokevirtual 77, 3) := by decide +kernel
theorem dX4_middle_22 : decode cX4_middle 22 = .ok (.ifCond .ne 5, 3) := by decide +kernel
theorem dX4_middle_25 : decode cX4_middle 25 = .ok (.dconst 0, 1) := by decide +kernel
theorem dX4_middle_26 : decode cX4_middle 26 = .ok (.dreturn, 1) := by decide +kernel
theorem dX4_middle_27 : decode cX4_middle 27 = .ok (.aload_n 0, 1) := by decide +kernel
theorem dX4_middle_28 : decode cX4_middle 28 = .ok (.iload_n 1, 1) := by decide +kernel
theorem dX4_middle_29 : decode cX4_middle 29 = .ok (.invokevirtual 174, 3) := by decide +kernel
theorem dX4_middle_32 : decode cX4_middle 32 = .ok (.l2d, 1) := by decide +kernel
theorem dX4_middle_33 : decode cX4_middle 33 = .ok (.dstore_n 2, 1) := by decide +kernel
theorem dX4_middle_34 : decode cX4_middle 34 = .ok (.ldc2_w 178, 3) := by decide +kernel
theorem dX4_middle_37 : decode cX4_middle 37 = .ok (.aload_n 0, 1) := by decide +kernel
theorem dX4_middle_38 : decode cX4_middle 38 = .ok (.iconst (-1), 1) := by decide +kernel
theorem dX4_middle_39 : decode cX4_middle 39 = .ok (.invokevirtual 174, 3) := by decide +kernel
theorem dX4_middle_42 : decode cX4_middle 42 = .ok (.lmul, 1) := by decide +kernel
theorem dX4_middle_43 : decode cX4_middle 43 = .ok (.l2d, 1) := by decide +kernel
theorem dX4_middle_44 : decode cX4_middle 44 = .ok (.dstore 4, 2) := by decide +kernel
theorem dX4_middle_46 : decode cX4_middle 46 = .ok (.dload_n 2, 1) := by decide +kernel
theorem dX4_middle_47 : decode cX4_middle 47 = .ok (.dload 4, 2) := by decide +kernel
theorem dX4_middle_49 : decode cX4_middle 49 = .ok (.ddiv, 1) := by decide +kernel
theorem dX4_middle_50 : decode cX4_middle 50 = .ok (.dreturn, 1) := by decide +kernel
set_option maxRecDepth 20000 in
theorem ggX4_count_X4_goes : GoodIn wsX4_count wsX4_goes := goodIn_r _ [11, 12, 18, 19, 20, 21, 22, 23, 24, 25, 26, 27, 28, 29, 30, 31, 32, 33, 34, 35, 36, 37, 38, 39, 40, 41, 42, 43, 44] (by decide +kernel) (by decide +kernel)
set_option maxRecDepth 20000 in
theorem gX4_count_X4_goes : GoodIn wsX4_count (wsV RX4 77 RX4 yX4_goes wsX4_goes) := goodIn_app (goodIn_of _ (by decide +kernel)) ggX4_count_X4_goes
set_option maxRecDepth 20000 in
theorem ggX4_count_X4_isCorner : GoodIn wsX4_count wsX4_isCorner := goodIn_r _ [16, 5, 17, 18, 19, 20, 21, 22, 23, 24, 25, 26, 27, 28, 29, 30, 31, 32, 33, 34, 35, 36, 37, 38, 39, 40, 41, 42, 43, 44] (by decide +kernel) (by decide +kernel)
set_option maxRecDepth 20000 in
theorem gX4_count_X4_isCorner : GoodIn wsX4_count (wsV RX4 171 RX4 yX4_isCorner wsX4_isCorner) := goodIn_app (goodIn_of _ (by decide +kernel)) ggX4_count_X4_isCorner
theorem dX4_count_0 : decode cX4_count 0 = .ok (.aload_n 0, 1) := by decide +kernel
theorem dX4_count_1 : decode cX4_count 1 = .ok (.iload_n 1, 1) := by decide +kernel
theorem dX4_count_2 : decode cX4_count 2 = .ok (.ifCond .lt 12, 3) := by decide +kernel
theorem dX4_count_5 : decode cX4_count 5 = .ok (.iload_n 1, 1) := by decide +kernel
theorem dX4_count_6 : decode cX4_count 6 = .ok (.iconst 4, 1) := by decide +kernel
theorem dX4_count_7 : decode cX4_count 7 = .ok (.if_icmp .gt 7, 3) := by decide +kernel
theorem dX4_count_10 : decode cX4_count 10 = .ok (.iconst 1, 1) := by decide +kernel
theorem dX4_count_11 : decode cX4_count 11 = .ok (.goto 4, 3) := by decide +kernel
theorem dX4_count_14 : decode cX4_count 14 = .ok (.iconst 0, 1) := by decide +kernel
theorem dX4_count_15 : decode cX4_count 15 = .ok (.iconst 1, 1) := by decide +kernel
theorem dX4_count_16 : decode cX4_count 16 = .ok (.invokevirtual 77, 3) := by decide +kernel
theorem dX4_count_19 : decode cX4_count 19 = .ok (.ifCond .ne 5, 3) := by decide +kernel
theorem dX4_count_22 : decode cX4_count 22 = .ok (.iconst 0, 1) := by decide +kernel
theorem dX4_count_23 : decode cX4_count 23 = .ok (.ireturn, 1) := by decide +kernel
theorem dX4_count_24 : decode cX4_count 24 = .ok (.iconst 0, 1) := by decide +kernel
theorem dX4_count_25 : decode cX4_count 25 = .ok (.istore_n 2, 1) := by decide +kernel
theorem dX4_count_26 : decode cX4_count 26 = .ok (.iconst 0, 1) := by decide +kernel
theorem dX4_count_27 : decode cX4_count 27 = .ok (.istore_n 3, 1) := by decide +kernel
theorem dX4_count_28 : decode cX4_count 28 = .ok (.iload_n 3, 1) := by decide +kernel
theorem dX4_count_29 : decode cX4_count 29 = .ok (.aload_n 0, 1) := by decide +kernel
theorem dX4_count_30 : decode cX4_count 30 = .ok (.getfield 98, 3) := by decide +kernel
theorem dX4_count_33 : decode cX4_count 33 = .ok (.if_icmp .ge 25, 3) := by decide +kernel
theorem dX4_count_36 : decode cX4_count 36 = .ok (.aload_n 0, 1) := by decide +kernel
theorem dX4_count_37 : decode cX4_count 37 = .ok (.iload_n 3, 1) := by decide +kernel
theorem dX4_count_38 : decode cX4_count 38 = .ok (.invokevirtual 171, 3) := by decide +kernel
theorem dX4_count_41 : decode cX4_count 41 = .ok (.ifCond .eq 9, 3) := by decide +kernel
theorem dX4_count_44 : decode cX4_count 44 = .ok (.iload_n 2, 1) := by decide +kernel
theorem dX4_count_45 : decode cX4_count 45 = .ok (.iconst 1, 1) := by decide +kernel
theorem dX4_count_46 : decode cX4_count 46 = .ok (.iadd, 1) := by decide +kernel
theorem dX4_count_47 : decode cX4_count 47 = .ok (.goto 4, 3) := by decide +kernel
theorem dX4_count_50 : decode cX4_count 50 = .ok (.iload_n 2, 1) := by decide +kernel
theorem dX4_count_51 : decode cX4_count 51 = .ok (.istore_n 2, 1) := by decide +kernel
theorem dX4_count_52 : decode cX4_count 52 = .ok (.iinc 3 1, 3) := by decide +kernel
theorem dX4_count_55 : decode cX4_count 55 = .ok (.goto (-27), 3) := by decide +kernel
theorem dX4_count_58 : decode cX4_count 58 = .ok (.iload_n 1, 1) := by decide +kernel
theorem dX4_count_59 : decode cX4_count 59 = .ok (.tableswitch 79 0 3 #[29, 34, 50, 66], 29) := by decide +kernel
theorem dX4_count_88 : decode cX4_count 88 = .ok (.aload_n 0, 1) := by decide +kernel
theorem dX4_count_89 : decode cX4_count 89 = .ok (.getfield 66, 3) := by decide +kernel
theorem dX4_count_92 : decode cX4_count 92 = .ok (.ireturn, 1) := by decide +kernel
theorem dX4_count_93 : decode cX4_count 93 = .ok (.aload_n 0, 1) := by decide +kernel
theorem dX4_count_94 : decode cX4_count 94 = .ok (.getfield 159, 3) := by decide +kernel
theorem dX4_count_97 : decode cX4_count 97 = .ok (.ifCond .eq 10, 3) := by decide +kernel
theorem dX4_count_100 : decode cX4_count 100 = .ok (.aload_n 0, 1) := by decide +kernel
theorem dX4_count_101 : decode cX4_count 101 = .ok (.getfield 91, 3) := by decide +kernel
theorem dX4_count_104 : decode cX4_count 104 = .ok (.goto 4, 3) := by decide +kernel
theorem dX4_count_107 : decode cX4_count 107 = .ok (.iconst 0, 1) := by decide +kernel
theorem dX4_count_108 : decode cX4_count 108 = .ok (.ireturn, 1) := by decide +kernel
theorem dX4_count_109 : decode cX4_count 109 = .ok (.aload_n 0, 1) := by decide +kernel
theorem dX4_count_110 : decode cX4_count 110 = .ok (.getfield 159, 3) := by decide +kernel
theorem dX4_count_113 : decode cX4_count 113 = .ok (.ifCond .eq 10, 3) := by decide +kernel
theorem dX4_count_116 : decode cX4_count 116 = .ok (.aload_n 0, 1) := by decide +kernel
theorem dX4_count_117 : decode cX4_count 117 = .ok (.getfield 132, 3) := by decide +kernel
theorem dX4_count_120 : decode cX4_count 120 = .ok (.goto 4, 3) := by decide +kernel
theorem dX4_count_123 : decode cX4_count 123 = .ok (.iconst 0, 1) := by decide +kernel
theorem dX4_count_124 : decode cX4_count 124 = .ok (.ireturn, 1) := by decide +kernel
theorem dX4_count_125 : decode cX4_count 125 = .ok (.aload_n 0, 1) := by decide +kernel
theorem dX4_count_126 : decode cX4_count 126 = .ok (.getfield 159, 3) := by decide +kernel
theorem dX4_count_129 : decode cX4_count 129 = .ok (.ifCond .eq 7, 3) := by decide +kernel
theorem dX4_count_132 : decode cX4_count 132 = .ok (.iload_n 2, 1) := by decide +kernel
theorem dX4_count_133 : decode cX4_count 133 = .ok (.goto 4, 3) := by decide +kernel
theorem dX4_count_136 : decode cX4_count 136 = .ok (.iconst 0, 1) := by decide +kernel
theorem dX4_count_137 : decode cX4_count 137 = .ok (.ireturn, 1) := by decide +kernel
theorem dX4_count_138 : decode cX4_count 138 = .ok (.aload_n 0, 1) := by decide +kernel
theorem dX4_count_139 : decode cX4_count 139 = .ok (.getfield 163, 3) := by decide +kernel
theorem dX4_count_142 : decode cX4_count 142 = .ok (.ireturn, 1) := by decide +kernel
theorem dJ6_numberOfTrailingZeros_0f7a4_0 : decode cJ6_numberOfTrailingZeros_0f7a4 0 = .ok (.iload_n 0, 1) := by decide +kernel
theorem dJ6_numberOfTrailingZeros_0f7a4_1 : decode cJ6_numberOfTrailingZeros_0f7a4 1 = .ok (.iconst (-1), 1) := by decide +kernel
theorem dJ6_numberOfTrailingZeros_0f7a4_2 : decode cJ6_numberOfTrailingZeros_0f7a4 2 = .ok (.ixor, 1) := by decide +kernel
theorem dJ6_numberOfTrailingZeros_0f7a4_3 : decode cJ6_numberOfTrailingZeros_0f7a4 3 = .ok (.iload_n 0, 1) := by decide +kernel
theorem dJ6_numberOfTrailingZeros_0f7a4_4 : decode cJ6_numberOfTrailingZeros_0f7a4 4 = .ok (.iconst 1, 1) := by decide +kernel
theorem dJ6_numberOfTrailingZeros_0f7a4_5 : decode cJ6_numberOfTrailingZeros_0f7a4 5 = .ok (.isub, 1) := by decide +kernel
theorem dJ6_numberOfTrailingZeros_0f7a4_6 : decode cJ6_numberOfTrailingZeros_0f7a4 6 = .ok (.iand, 1) := by decide +kernel
theorem dJ6_numberOfTrailingZeros_0f7a4_7 : decode cJ6_numberOfTrailingZeros_0f7a4 7 = .ok (.istore_n 0, 1) := by decide +kernel
theorem dJ6_numberOfTrailingZeros_0f7a4_8 : decode cJ6_numberOfTrailingZeros_0f7a4 8 = .ok (.iload_n 0, 1) := by decide +kernel
theorem dJ6_numberOfTrailingZeros_0f7a4_9 : decode cJ6_numberOfTrailingZeros_0f7a4 9 = .ok (.ifCond .gt 8, 3) := by decide +kernel
theorem dJ6_numberOfTrailingZeros_0f7a4_12 : decode cJ6_numberOfTrailingZeros_0f7a4 12 = .ok (.iload_n 0, 1) := by decide +kernel
theorem dJ6_numberOfTrailingZeros_0f7a4_13 : decode cJ6_numberOfTrailingZeros_0f7a4 13 = .ok (.bipush 32, 2) := by decide +kernel
theorem dJ6_numberOfTrailingZeros_0f7a4_15 : decode cJ6_numberOfTrailingZeros_0f7a4 15 = .ok (.iand, 1) := by decide +kernel
theorem dJ6_numberOfTrailingZeros_0f7a4_16 : decode cJ6_numberOfTrailingZeros_0f7a4 16 = .ok (.ireturn, 1) := by decide +kernel
theorem dJ6_numberOfTrailingZeros_0f7a4_17 : decode cJ6_numberOfTrailingZeros_0f7a4 17 = .ok (.iconst 1, 1) := by decide +kernel
theorem dJ6_numberOfTrailingZeros_0f7a4_18 : decode cJ6_numberOfTrailingZeros_0f7a4 18 = .ok (.istore_n 1, 1) := by decide +kernel
theorem dJ6_numberOfTrailingZeros_0f7a4_19 : decode cJ6_numberOfTrailingZeros_0f7a4 19 = .ok (.iload_n 0, 1) := by decide +kernel
theorem dJ6_numberOfTrailingZeros_0f7a4_20 : decode cJ6_numberOfTrailingZeros_0f7a4 20 = .ok (.ldc_w 264, 3) := by decide +kernel
theorem dJ6_numberOfTrailingZeros_0f7a4_23 : decode cJ6_numberOfTrailingZeros_0f7a4 23 = .ok (.if_icmp .le 11, 3) := by decide +kernel
theorem dJ6_numberOfTrailingZeros_0f7a4_26 : decode cJ6_numberOfTrailingZeros_0f7a4 26 = .ok (.iinc 1 16, 3) := by decide +kernel
theorem dJ6_numberOfTrailingZeros_0f7a4_29 : decode cJ6_numberOfTrailingZeros_0f7a4 29 = .ok (.iload_n 0, 1) := by decide +kernel
theorem dJ6_numberOfTrailingZeros_0f7a4_30 : decode cJ6_numberOfTrailingZeros_0f7a4 30 = .ok (.bipush 16, 2) := by decide +kernel
theorem dJ6_numberOfTrailingZeros_0f7a4_32 : decode cJ6_numberOfTrailingZeros_0f7a4 32 = .ok (.iushr, 1) := by decide +kernel
theorem dJ6_numberOfTrailingZeros_0f7a4_33 : decode cJ6_numberOfTrailingZeros_0f7a4 33 = .ok (.istore_n 0, 1) := by decide +kernel
theorem dJ6_numberOfTrailingZeros_0f7a4_34 : decode cJ6_numberOfTrailingZeros_0f7a4 34 = .ok (.iload_n 0, 1) := by decide +kernel
theorem dJ6_numberOfTrailingZeros_0f7a4_35 : decode cJ6_numberOfTrailingZeros_0f7a4 35 = .ok (.sipush 256, 3) := by decide +kernel
theorem dJ6_numberOfTrailingZeros_0f7a4_38 : decode cJ6_numberOfTrailingZeros_0f7a4 38 = .ok (.if_icmp .le 11, 3) := by decide +kernel
theorem dJ6_numberOfTrailingZeros_0f7a4_41 : decode cJ6_numberOfTrailingZeros_0f7a4 41 = .ok (.iinc 1 8, 3) := by decide +kernel
theorem dJ6_numberOfTrailingZeros_0f7a4_44 : decode cJ6_numberOfTrailingZeros_0f7a4 44 = .ok (.iload_n 0, 1) := by decide +kernel
theorem dJ6_numberOfTrailingZeros_0f7a4_45 : decode cJ6_numberOfTrailingZeros_0f7a4 45 = .ok (.bipush 8, 2) := by decide +kernel
theorem dJ6_numberOfTrailingZeros_0f7a4_47 : decode cJ6_numberOfTrailingZeros_0f7a4 47 = .ok (.iushr, 1) := by decide +kernel
theorem dJ6_numberOfTrailingZeros_0f7a4_48 : decode cJ6_numberOfTrailingZeros_0f7a4 48 = .ok (.istore_n 0, 1) := by decide +kernel
theorem dJ6_numberOfTrailingZeros_0f7a4_49 : decode cJ6_numberOfTrailingZeros_0f7a4 49 = .ok (.iload_n 0, 1) := by decide +kernel
theorem dJ6_numberOfTrailingZeros_0f7a4_50 : decode cJ6_numberOfTrailingZeros_0f7a4 50 = .ok (.bipush 16, 2) := by decide +kernel
theorem dJ6_numberOfTrailingZeros_0f7a4_52 : decode cJ6_numberOfTrailingZeros_0f7a4 52 = .ok (.if_icmp .le 10, 3) := by decide +kernel
theorem dJ6_numberOfTrailingZeros_0f7a4_55 : decode cJ6_numberOfTrailingZeros_0f7a4 55 = .ok (.iinc 1 4, 3) := by decide +kernel
theorem dJ6_numberOfTrailingZeros_0f7a4_58 : decode cJ6_numberOfTrailingZeros_0f7a4 58 = .ok (.iload_n 0, 1) := by decide +kernel
theorem dJ6_numberOfTrailingZeros_0f7a4_59 : decode cJ6_numberOfTrailingZeros_0f7a4 59 = .ok (.iconst 4, 1) := by decide +kernel
theorem dJ6_numberOfTrailingZeros_0f7a4_60 : decode cJ6_numberOfTrailingZeros_0f7a4 60 = .ok (.iushr, 1) := by decide +kernel
theorem dJ6_numberOfTrailingZeros_0f7a4_61 : decode cJ6_numberOfTrailingZeros_0f7a4 61 = .ok (.istore_n 0, 1) := by decide +kernel
theorem dJ6_numberOfTrailingZeros_0f7a4_62 : decode cJ6_numberOfTrailingZeros_0f7a4 62 = .ok (.iload_n 0, 1) := by decide +kernel
theorem dJ6_numberOfTrailingZeros_0f7a4_63 : decode cJ6_numberOfTrailingZeros_0f7a4 63 = .ok (.iconst 4, 1) := by decide +kernel
theorem dJ6_numberOfTrailingZeros_0f7a4_64 : decode cJ6_numberOfTrailingZeros_0f7a4 64 = .ok (.if_icmp .le 10, 3) := by decide +kernel
theorem dJ6_numberOfTrailingZeros_0f7a4_67 : decode cJ6_numberOfTrailingZeros_0f7a4 67 = .ok (.iinc 1 2, 3) := by decide +kernel
theorem dJ6_numberOfTrailingZeros_0f7a4_70 : decode cJ6_numberOfTrailingZeros_0f7a4 70 = .ok (.iload_n 0, 1) := by decide +kernel
theorem dJ6_numberOfTrailingZeros_0f7a4_71 : decode cJ6_numberOfTrailingZeros_0f7a4 71 = .ok (.iconst 2, 1) := by decide +kernel
theorem dJ6_numberOfTrailingZeros_0f7a4_72 : decode cJ6_numberOfTrailingZeros_0f7a4 72 = .ok (.iushr, 1) := by decide +kernel
theorem dJ6_numberOfTrailingZeros_0f7a4_73 : decode cJ6_numberOfTrailingZeros_0f7a4 73 = .ok (.istore_n 0, 1) := by decide +kernel
theorem dJ6_numberOfTrailingZeros_0f7a4_74 : decode cJ6_numberOfTrailingZeros_0f7a4 74 = .ok (.iload_n 1, 1) := by decide +kernel
theorem dJ6_numberOfTrailingZeros_0f7a4_75 : decode cJ6_numberOfTrailingZeros_0f7a4 75 = .ok (.iload_n 0, 1) := by decide +kernel
theorem dJ6_numberOfTrailingZeros_0f7a4_76 : decode cJ6_numberOfTrailingZeros_0f7a4 76 = .ok (.iconst 1, 1) := by decide +kernel
theorem dJ6_numberOfTrailingZeros_0f7a4_77 : decode cJ6_numberOfTrailingZeros_0f7a4 77 = .ok (.iushr, 1) := by decide +kernel
theorem dJ6_numberOfTrailingZeros_0f7a4_78 : decode cJ6_numberOfTrailingZeros_0f7a4 78 = .ok (.iadd, 1) := by decide +kernel
theorem dJ6_numberOfTrailingZeros_0f7a4_79 : decode cJ6_numberOfTrailingZeros_0f7a4 79 = .ok (.ireturn, 1) := by decide +kernel
theorem dJ6_bitCount_0f7a4_0 : decode cJ6_bitCount_0f7a4 0 = .ok (.iload_n 0, 1) := by decide +kernel
theorem dJ6_bitCount_0f7a4_1 : decode cJ6_bitCount_0f7a4 1 = .ok (.iload_n 0, 1) := by decide +kernel
theorem dJ6_bitCount_0f7a4_2 : decode cJ6_bitCount_0f7a4 2 = .ok (.iconst 1, 1) := by decide +kernel
theorem dJ6_bitCount_0f7a4_3 : decode cJ6_bitCount_0f7a4 3 = .ok (.iushr, 1) := by decide +kernel
theorem dJ6_bitCount_0f7a4_4 : decode cJ6_bitCount_0f7a4 4 = .ok (.ldc_w 265, 3) := by decide +kernel
theorem dJ6_bitCount_0f7a4_7 : decode cJ6_bitCount_0f7a4 7 = .ok (.iand, 1) := by decide +kernel
theorem dJ6_bitCount_0f7a4_8 : decode cJ6_bitCount_0f7a4 8 = .ok (.isub, 1) := by decide +kernel
theorem dJ6_bitCount_0f7a4_9 : decode cJ6_bitCount_0f7a4 9 = .ok (.istore_n 0, 1) := by decide +kernel
theorem dJ6_bitCount_0f7a4_10 : decode cJ6_bitCount_0f7a4 10 = .ok (.iload_n 0, 1) := by decide +kernel
theorem dJ6_bitCount_0f7a4_11 : decode cJ6_bitCount_0f7a4 11 = .ok (.ldc_w 266, 3) := by decide +kernel
theorem dJ6_bitCount_0f7a4_14 : decode cJ6_bitCount_0f7a4 14 = .ok (.iand, 1) := by decide +kernel
theorem dJ6_bitCount_0f7a4_15 : decode cJ6_bitCount_0f7a4 15 = .ok (.iload_n 0, 1) := by decide +kernel
theorem dJ6_bitCount_0f7a4_16 : decode cJ6_bitCount_0f7a4 16 = .ok (.iconst 2, 1) := by decide +kernel
theorem dJ6_bitCount_0f7a4_17 : decode cJ6_bitCount_0f7a4 17 = .ok (.iushr, 1) := by decide +kernel
theorem dJ6_bitCount_0f7a4_18 : decode cJ6_bitCount_0f7a4 18 = .ok (.ldc_w 266, 3) := by decide +kernel
theorem dJ6_bitCount_0f7a4_21 : decode cJ6_bitCount_0f7a4 21 = .ok (.iand, 1) := by decide +kernel
theorem dJ6_bitCount_0f7a4_22 : decode cJ6_bitCount_0f7a4 22 = .ok (.iadd, 1) := by decide +kernel
theorem dJ6_bitCount_0f7a4_23 : decode cJ6_bitCount_0f7a4 23 = .ok (.istore_n 0, 1) := by decide +kernel
theorem dJ6_bitCount_0f7a4_24 : decode cJ6_bitCount_0f7a4 24 = .ok (.iload_n 0, 1) := by decide +kernel
theorem dJ6_bitCount_0f7a4_25 : decode cJ6_bitCount_0f7a4 25 = .ok (.iload_n 0, 1) := by decide +kernel
theorem dJ6_bitCount_0f7a4_26 : decode cJ6_bitCount_0f7a4 26 = .ok (.iconst 4, 1) := by decide +kernel
theorem dJ6_bitCount_0f7a4_27 : decode cJ6_bitCount_0f7a4 27 = .ok (.iushr, 1) := by decide +kernel
theorem dJ6_bitCount_0f7a4_28 : decode cJ6_bitCount_0f7a4 28 = .ok (.iadd, 1) := by decide +kernel
theorem dJ6_bitCount_0f7a4_29 : decode cJ6_bitCount_0f7a4 29 = .ok (.ldc_w 267, 3) := by decide +kernel
theorem dJ6_bitCount_0f7a4_32 : decode cJ6_bitCount_0f7a4 32 = .ok (.iand, 1) := by decide +kernel
theorem dJ6_bitCount_0f7a4_33 : decode cJ6_bitCount_0f7a4 33 = .ok (.istore_n 0, 1) := by decide +kernel
theorem dJ6_bitCount_0f7a4_34 : decode cJ6_bitCount_0f7a4 34 = .ok (.iload_n 0, 1) := by decide +kernel
theorem dJ6_bitCount_0f7a4_35 : decode cJ6_bitCount_0f7a4 35 = .ok (.iload_n 0, 1) := by decide +kernel
theorem dJ6_bitCount_0f7a4_36 : decode cJ6_bitCount_0f7a4 36 = .ok (.bipush 8, 2) := by decide +kernel
theorem dJ6_bitCount_0f7a4_38 : decode cJ6_bitCount_0f7a4 38 = .ok (.iushr, 1) := by decide +kernel
theorem dJ6_bitCount_0f7a4_39 : decode cJ6_bitCount_0f7a4 39 = .ok (.iadd, 1) := by decide +kernel
theorem dJ6_bitCount_0f7a4_40 : decode cJ6_bitCount_0f7a4 40 = .ok (.istore_n 0, 1) := by decide +kernel
theorem dJ6_bitCount_0f7a4_41 : decode cJ6_bitCount_0f7a4 41 = .ok (.iload_n 0, 1) := by decide +kernel
theorem dJ6_bitCount_0f7a4_42 : decode cJ6_bitCount_0f7a4 42 = .ok (.iload_n 0, 1) := by decide +kernel
theorem dJ6_bitCount_0f7a4_43 : decode cJ6_bitCount_0f7a4 43 = .ok (.bipush 16, 2) := by decide +kernel
theorem dJ6_bitCount_0f7a4_45 : decode cJ6_bitCount_0f7a4 45 = .ok (.iushr, 1) := by decide +kernel
theorem dJ6_bitCount_0f7a4_46 : decode cJ6_bitCount_0f7a4 46 = .ok (.iadd, 1) := by decide +kernel
theorem dJ6_bitCount_0f7a4_47 : decode cJ6_bitCount_0f7a4 47 = .ok (.istore_n 0, 1) := by decide +kernel
theorem dJ6_bitCount_0f7a4_48 : decode cJ6_bitCount_0f7a4 48 = .ok (.iload_n 0, 1) := by decide +kernel
theorem dJ6_bitCount_0f7a4_49 : decode cJ6_bitCount_0f7a4 49 = .ok (.bipush 63, 2) := by decide +kernel
theorem dJ6_bitCount_0f7a4_51 : decode cJ6_bitCount_0f7a4 51 = .ok (.iand, 1) := by decide +kernel
theorem dJ6_bitCount_0f7a4_52 : decode cJ6_bitCount_0f7a4 52 = .ok (.ireturn, 1) := by decide +kernel
theorem dJ7_fill_d0a16_0 : decode cJ7_fill_d0a16 0 = .ok (.iconst 0, 1) := by decide +kernel
theorem dJ7_fill_d0a16_1 : decode cJ7_fill_d0a16 1 = .ok (.istore_n 3, 1) := by decide +kernel
theorem dJ7_fill_d0a16_2 : decode cJ7_fill_d0a16 2 = .ok (.aload_n 0, 1) := by decide +kernel
theorem dJ7_fill_d0a16_3 : decode cJ7_fill_d0a16 3 = .ok (.arraylength, 1) := by decide +kernel
theorem dJ7_fill_d0a16_4 : decode cJ7_fill_d0a16 4 = .ok (.istore 4, 2) := by decide +kernel
theorem dJ7_fill_d0a16_6 : decode cJ7_fill_d0a16 6 = .ok (.iload_n 3, 1) := by decide +kernel
theorem dJ7_fill_d0a16_7 : decode cJ7_fill_d0a16 7 = .ok (.iload 4, 2) := by decide +kernel
theorem dJ7_fill_d0a16_9 : decode cJ7_fill_d0a16 9 = .ok (.if_icmp .ge 13, 3) := by decide +kernel
theorem dJ7_fill_d0a16_12 : decode cJ7_fill_d0a16 12 = .ok (.aload_n 0, 1) := by decide +kernel
theorem dJ7_fill_d0a16_13 : decode cJ7_fill_d0a16 13 = .ok (.iload_n 3, 1) := by decide +kernel
theorem dJ7_fill_d0a16_14 : decode cJ7_fill_d0a16 14 = .ok (.lload_n 1, 1) := by decide +kernel
theorem dJ7_fill_d0a16_15 : decode cJ7_fill_d0a16 15 = .ok (.lastore, 1) := by decide +kernel
theorem dJ7_fill_d0a16_16 : decode cJ7_fill_d0a16 16 = .ok (.iinc 3 1, 3) := by decide +kernel
theorem dJ7_fill_d0a16_19 : decode cJ7_fill_d0a16 19 = .ok (.goto (-13), 3) := by decide +kernel
theorem dJ7_fill_d0a16_22 : decode cJ7_fill_d0a16 22 = .ok (.return_, 1) := by decide +kernel
theorem dJ7_fill_53178_0 : decode cJ7_fill_53178 0 = .ok (.iconst 0, 1) := by decide +kernel
theorem dJ7_fill_53178_1 : decode cJ7_fill_53178 1 = .ok (.istore_n 2, 1) := by decide +kernel
theorem dJ7_fill_53178_2 : decode cJ7_fill_53178 2 = .ok (.aload_n 0, 1) := by decide +kernel
theorem dJ7_fill_53178_3 : decode cJ7_fill_53178 3 = .ok (.arraylength, 1) := by decide +kernel
theorem dJ7_fill_53178_4 : decode cJ7_fill_53178 4 = .ok (.istore_n 3, 1) := by decide +kernel
theorem dJ7_fill_53178_5 : decode cJ7_fill_53178 5 = .ok (.iload_n 2, 1) := by decide +kernel
theorem dJ7_fill_53178_6 : decode cJ7_fill_53178 6 = .ok (.iload_n 3, 1) := by decide +kernel
theorem dJ7_fill_53178_7 : decode cJ7_fill_53178 7 = .ok (.if_icmp .ge 13, 3) := by decide +kernel
theorem dJ7_fill_53178_10 : decode cJ7_fill_53178 10 = .ok (.aload_n 0, 1) := by decide +kernel
theorem dJ7_fill_53178_11 : decode cJ7_fill_53178 11 = .ok (.iload_n 2, 1) := by decide +kernel
theorem dJ7_fill_53178_12 : decode cJ7_fill_53178 12 = .ok (.iload_n 1, 1) := by decide +kernel
theorem dJ7_fill_53178_13 : decode cJ7_fill_53178 13 = .ok (.iastore, 1) := by decide +kernel
theorem dJ7_fill_53178_14 : decode cJ7_fill_53178 14 = .ok (.iinc 2 1, 3) := by decide +kernel
theorem dJ7_fill_53178_17 : decode cJ7_fill_53178 17 = .ok (.goto (-12), 3) := by decide +kernel
theorem dJ7_fill_53178_20 : decode cJ7_fill_53178 20 = .ok (.return_, 1) := by decide +kernel
set_option maxRecDepth 20000 in
theorem ggL_point_X3_point : GoodIn wsL_point wsX3_point := goodIn_ca (goodIn_ca (goodIn_r _ [7, 8, 9, 10, 11, 12, 13, 14, 6, 15, 16, 17, 18, 19, 20, 21, 22, 23, 24, 25, 26, 27, 28, 29, 30, 31, 32, 33, 34, 35, 36] (by decide +kernel) (by decide +kernel)) (goodIn_sub (fun _ h => List.mem_cons_of_mem _ (List.mem_append_left _ (List.mem_append_right _ h))) (by decide +kernel))) (goodIn_sub (fun _ h => List.mem_cons_of_mem _ (List.mem_append_right _ h)) (by decide +kernel))
set_option maxRecDepth 20000 in
theorem gL_point_X3_point : GoodIn wsL_point (wsV RL 7 RX3 yX3_point wsX3_point) := goodIn_app (goodIn_of _ (by decide +kernel)) ggL_point_X3_point
theorem dL_point_0 : decode cL_point 0 = .ok (.aload 4, 2) := by decide +kernel
theorem dL_point_2 : decode cL_point 2 = .ok (.iconst 0, 1) := by decide +kernel
theorem dL_point_3 : decode cL_point 3 = .ok (.aload_n 0, 1) := by decide +kernel
theorem dL_point_4 : decode cL_point 4 = .ok (.iload_n 1, 1) := by decide +kernel
theorem dL_point_5 : decode cL_point 5 = .ok (.iload_n 2, 1) := by decide +kernel
theorem dL_point_6 : decode cL_point 6 = .ok (.iload_n 3, 1) := by decide +kernel
theorem dL_point_7 : decode cL_point 7 = .ok (.invokevirtual 7, 3) := by decide +kernel
theorem dL_point_10 : decode cL_point 10 = .ok (.i2l, 1) := by decide +kernel
theorem dL_point_11 : decode cL_point 11 = .ok (.lastore, 1) := by decide +kernel
theorem dL_point_12 : decode cL_point 12 = .ok (.goto 11, 3) := by decide +kernel
theorem dL_point_15 : decode cL_point 15 = .ok (.astore 5, 2) := by decide +kernel
theorem dL_point_17 : decode cL_point 17 = .ok (.iconst 1, 1) := by decide +kernel
theorem dL_point_18 : decode cL_point 18 = .ok (.ireturn, 1) := by decide +kernel
theorem dL_point_19 : decode cL_point 19 = .ok (.astore 5, 2) := by decide +kernel
theorem dL_point_21 : decode cL_point 21 = .ok (.iconst 2, 1) := by decide +kernel
theorem dL_point_22 : decode cL_point 22 = .ok (.ireturn, 1) := by decide +kernel
theorem dL_point_23 : decode cL_point 23 = .ok (.iconst 0, 1) := by decide +kernel
theorem dL_point_24 : decode cL_point 24 = .ok (.ireturn, 1) := by decide +kernel
set_option maxRecDepth 20000 in
theorem ggL_take_X3_take : GoodIn wsL_take wsX3_take := goodIn_ca (goodIn_r _ [6, 7, 8, 9, 5, 10, 11, 12, 13, 14, 15, 16, 17, 18, 19, 20, 21, 22, 23, 24, 25, 26, 27] (by decide +kernel) (by decide +kernel)) (goodIn_sub (fun _ h => List.mem_cons_of_mem _ (List.mem_append_right _ h)) (by decide +kernel))
set_option maxRecDepth 20000 in
theorem gL_take_X3_take : GoodIn wsL_take (wsV RL 17 RX3 yX3_take wsX3_take) := goodIn_app (goodIn_of _ (by decide +kernel)) ggL_take_X3_take
theorem dL_take_0 : decode cL_take 0 = .ok (.aload_n 2, 1) := by decide +kernel
theorem dL_take_1 : decode cL_take 1 = .ok (.iconst 0, 1) := by decide +kernel
theorem dL_take_2 : decode cL_take 2 = .ok (.aload_n 0, 1) := by decide +kernel
theorem dL_take_3 : decode cL_take 3 = .ok (.iload_n 1, 1) := by decide +kernel
theorem dL_take_4 : decode cL_take 4 = .ok (.invokevirtual 17, 3) := by decide +kernel
theorem dL_take_7 : decode cL_take 7 = .ok (.i2l, 1) := by decide +kernel
theorem dL_take_8 : decode cL_take 8 = .ok (.lastore, 1) := by decide +kernel
theorem dL_take_9 : decode cL_take 9 = .ok (.goto 6, 3) := by decide +kernel
theorem dL_take_12 : decode cL_take 12 = .ok (.astore_n 3, 1) := by decide +kernel
theorem dL_take_13 : decode cL_take 13 = .ok (.iconst 1, 1) := by decide +kernel
theorem dL_take_14 : decode cL_take 14 = .ok (.ireturn, 1) := by decide +kernel
theorem dL_take_15 : decode cL_take 15 = .ok (.iconst 0, 1) := by decide +kernel
theorem dL_take_16 : decode cL_take 16 = .ok (.ireturn, 1) := by decide +kernel
set_option maxRecDepth 20000 in
theorem ggL_build_X3_build : GoodIn wsL_build wsX3_build := goodIn_ca (goodIn_r _ [6, 7, 8, 9, 10, 11, 12, 13, 14, 15, 16, 17, 18, 19, 20, 21, 22, 23, 24, 25, 5, 26, 27, 28, 29, 30, 31, 32, 33, 34, 35, 36, 37, 38, 39, 40, 41, 42, 43, 44, 45, 46, 47, 48, 49, 50, 51, 52, 53, 54, 55, 56, 57, 58, 59, 60, 61, 62, 63, 64, 65, 66, 67, 68, 69, 70, 71, 72, 73, 74, 75, 76, 77, 78, 79, 80, 81, 82, 83, 84, 85, 86, 87, 88, 89, 90, 91, 92, 93, 94, 95, 96, 97, 98, 99, 100, 101, 102, 103, 104, 105, 106, 107, 108, 109, 110, 111, 112, 113, 114, 115, 116, 117, 118, 119, 120, 121, 122, 123, 124, 125, 126, 127, 128, 129, 130, 131, 132, 133, 134, 135, 136, 137, 138, 139, 140, 141, 142, 143, 144, 145, 146, 147, 148, 149, 150, 151, 152, 153, 154, 155, 156, 157, 158, 159, 160, 161, 162] (by decide +kernel) (by decide +kernel)) (goodIn_sub (fun _ h => List.mem_cons_of_mem _ (List.mem_append_right _ h)) (by decide +kernel))
set_option maxRecDepth 20000 in
theorem gL_build_X3_build : GoodIn wsL_build (wsV RL 23 RX3 yX3_build wsX3_build) := goodIn_app (goodIn_of _ (by decide +kernel)) ggL_build_X3_build
theorem dL_build_0 : decode cL_build 0 = .ok (.aload_n 1, 1) := by decide +kernel
theorem dL_build_1 : decode cL_build 1 = .ok (.iconst 0, 1) := by decide +kernel
theorem dL_build_2 : decode cL_build 2 = .ok (.aload_n 0, 1) := by decide +kernel
theorem dL_build_3 : decode cL_build 3 = .ok (.invokevirtual 23, 3) := by decide +kernel
theorem dL_build_6 : decode cL_build 6 = .ok (.i2l, 1) := by decide +kernel
theorem dL_build_7 : decode cL_build 7 = .ok (.lastore, 1) := by decide +kernel
theorem dL_build_8 : decode cL_build 8 = .ok (.goto 6, 3) := by decide +kernel
theorem dL_build_11 : decode cL_build 11 = .ok (.astore_n 2, 1) := by decide +kernel
theorem dL_build_12 : decode cL_build 12 = .ok (.iconst 1, 1) := by decide +kernel
theorem dL_build_13 : decode cL_build 13 = .ok (.ireturn, 1) := by decide +kernel
theorem dL_build_14 : decode cL_build 14 = .ok (.iconst 0, 1) := by decide +kernel
theorem dL_build_15 : decode cL_build 15 = .ok (.ireturn, 1) := by decide +kernel
set_option maxRecDepth 20000 in
theorem ggL_of_X3_of : GoodIn wsL_of wsX3_of := goodIn_ca (goodIn_r _ [6, 7, 8, 9, 5, 10, 11, 12, 13, 14, 15, 16, 17, 18, 19, 20, 21, 22, 23, 24, 25, 26] (by decide +kernel) (by decide +kernel)) (goodIn_sub (fun _ h => List.mem_cons_of_mem _ (List.mem_append_right _ h)) (by decide +kernel))
set_option maxRecDepth 20000 in
theorem gL_of_X3_of : GoodIn wsL_of (wsV RL 27 RX3 yX3_of wsX3_of) := goodIn_app (goodIn_of _ (by decide +kernel)) ggL_of_X3_of
theorem dL_of_0 : decode cL_of 0 = .ok (.aload_n 3, 1) := by decide +kernel
theorem dL_of_1 : decode cL_of 1 = .ok (.iconst 0, 1) := by decide +kernel
theorem dL_of_2 : decode cL_of 2 = .ok (.aload_n 0, 1) := by decide +kernel
theorem dL_of_3 : decode cL_of 3 = .ok (.iload_n 1, 1) := by decide +kernel
theorem dL_of_4 : decode cL_of 4 = .ok (.iload_n 2, 1) := by decide +kernel
theorem dL_of_5 : decode cL_of 5 = .ok (.invokevirtual 27, 3) := by decide +kernel
theorem dL_of_8 : decode cL_of 8 = .ok (.i2l, 1) := by decide +kernel
theorem dL_of_9 : decode cL_of 9 = .ok (.lastore, 1) := by decide +kernel
theorem dL_of_10 : decode cL_of 10 = .ok (.goto 7, 3) := by decide +kernel
theorem dL_of_13 : decode cL_of 13 = .ok (.astore 4, 2) := by decide +kernel
theorem dL_of_15 : decode cL_of 15 = .ok (.iconst 1, 1) := by decide +kernel
theorem dL_of_16 : decode cL_of 16 = .ok (.ireturn, 1) := by decide +kernel
theorem dL_of_17 : decode cL_of 17 = .ok (.iconst 0, 1) := by decide +kernel
theorem dL_of_18 : decode cL_of 18 = .ok (.ireturn, 1) := by decide +kernel
set_option maxRecDepth 20000 in
theorem ggL_face_X3_face : GoodIn wsL_face wsX3_face := goodIn_ca (goodIn_ca (goodIn_r _ [7, 8, 9, 10, 11, 6, 12, 13, 14, 15, 16, 17, 18, 19, 20, 21, 22, 23, 24, 25, 26, 27, 28, 29, 30, 31, 32, 33, 34, 35, 36, 37, 38, 39, 40] (by decide +kernel) (by decide +kernel)) (goodIn_sub (fun _ h => List.mem_cons_of_mem _ (List.mem_append_left _ (List.mem_append_right _ h))) (by decide +kernel))) (goodIn_sub (fun _ h => List.mem_cons_of_mem _ (List.mem_append_right _ h)) (by decide +kernel))
set_option maxRecDepth 20000 in
theorem gL_face_X3_face : GoodIn wsL_face (wsV RL 31 RX3 yX3_face wsX3_face) := goodIn_app (goodIn_of _ (by decide +kernel)) ggL_face_X3_face
theorem dL_face_0 : decode cL_face 0 = .ok (.aload_n 3, 1) := by decide +kernel
theorem dL_face_1 : decode cL_face 1 = .ok (.iconst 0, 1) := by decide +kernel
theorem dL_face_2 : decode cL_face 2 = .ok (.aload_n 0, 1) := by decide +kernel
theorem dL_face_3 : decode cL_face 3 = .ok (.iload_n 1, 1) := by decide +kernel
theorem dL_face_4 : decode cL_face 4 = .ok (.iload_n 2, 1) := by decide +kernel
theorem dL_face_5 : decode cL_face 5 = .ok (.invokevirtual 31, 3) := by decide +kernel
theorem dL_face_8 : decode cL_face 8 = .ok (.i2l, 1) := by decide +kernel
theorem dL_face_9 : decode cL_face 9 = .ok (.lastore, 1) := by decide +kernel
theorem dL_face_10 : decode cL_face 10 = .ok (.goto 11, 3) := by decide +kernel
theorem dL_face_13 : decode cL_face 13 = .ok (.astore 4, 2) := by decide +kernel
theorem dL_face_15 : decode cL_face 15 = .ok (.iconst 1, 1) := by decide +kernel
theorem dL_face_16 : decode cL_face 16 = .ok (.ireturn, 1) := by decide +kernel
theorem dL_face_17 : decode cL_face 17 = .ok (.astore 4, 2) := by decide +kernel
theorem dL_face_19 : decode cL_face 19 = .ok (.iconst 2, 1) := by decide +kernel
theorem dL_face_20 : decode cL_face 20 = .ok (.ireturn, 1) := by decide +kernel
theorem dL_face_21 : decode cL_face 21 = .ok (.iconst 0, 1) := by decide +kernel
theorem dL_face_22 : decode cL_face 22 = .ok (.ireturn, 1) := by decide +kernel
set_option maxRecDepth 20000 in
theorem ggL_offset_X3_offset : GoodIn wsL_offset wsX3_offset := goodIn_ca (goodIn_ca (goodIn_r _ [7, 8, 9, 10, 11, 6, 12, 13, 14, 15, 16, 17, 18, 19, 20, 21, 22, 23, 24, 25, 26, 27, 28, 29, 30, 31, 32, 33, 34, 35, 36, 37, 38, 39, 40] (by decide +kernel) (by decide +kernel)) (goodIn_sub (fun _ h => List.mem_cons_of_mem _ (List.mem_append_left _ (List.mem_append_right _ h))) (by decide +kernel))) (goodIn_sub (fun _ h => List.mem_cons_of_mem _ (List.mem_append_right _ h)) (by decide +kernel))
set_option maxRecDepth 20000 in
theorem gL_offset_X3_offset : GoodIn wsL_offset (wsV RL 34 RX3 yX3_offset wsX3_offset) := goodIn_app (goodIn_of _ (by decide +kernel)) ggL_offset_X3_offset
theorem dL_offset_0 : decode cL_offset 0 = .ok (.aload_n 2, 1) := by decide +kernel
theorem dL_offset_1 : decode cL_offset 1 = .ok (.iconst 0, 1) := by decide +kernel
theorem dL_offset_2 : decode cL_offset 2 = .ok (.aload_n 0, 1) := by decide +kernel
theorem dL_offset_3 : decode cL_offset 3 = .ok (.iload_n 1, 1) := by decide +kernel
theorem dL_offset_4 : decode cL_offset 4 = .ok (.invokevirtual 34, 3) := by decide +kernel
theorem dL_offset_7 : decode cL_offset 7 = .ok (.lastore, 1) := by decide +kernel
theorem dL_offset_8 : decode cL_offset 8 = .ok (.goto 9, 3) := by decide +kernel
theorem dL_offset_11 : decode cL_offset 11 = .ok (.astore_n 3, 1) := by decide +kernel
theorem dL_offset_12 : decode cL_offset 12 = .ok (.iconst 1, 1) := by decide +kernel
theorem dL_offset_13 : decode cL_offset 13 = .ok (.ireturn, 1) := by decide +kernel
theorem dL_offset_14 : decode cL_offset 14 = .ok (.astore_n 3, 1) := by decide +kernel
theorem dL_offset_15 : decode cL_offset 15 = .ok (.iconst 2, 1) := by decide +kernel
theorem dL_offset_16 : decode cL_offset 16 = .ok (.ireturn, 1) := by decide +kernel
theorem dL_offset_17 : decode cL_offset 17 = .ok (.iconst 0, 1) := by decide +kernel
theorem dL_offset_18 : decode cL_offset 18 = .ok (.ireturn, 1) := by decide +kernel
set_option maxRecDepth 20000 in
theorem ggL_corner_X3_corner : GoodIn wsL_corner wsX3_corner := goodIn_ca (goodIn_ca (goodIn_r _ [7, 8, 9, 10, 11, 6, 12, 13, 14, 15, 16, 17, 18, 19, 20, 21, 22, 23, 24, 25, 26, 27, 28, 29, 30, 31, 32, 33, 34, 35, 36, 37, 38, 39, 40] (by decide +kernel) (by decide +kernel)) (goodIn_sub (fun _ h => List.mem_cons_of_mem _ (List.mem_append_left _ (List.mem_append_right _ h))) (by decide +kernel))) (goodIn_sub (fun _ h => List.mem_cons_of_mem _ (List.mem_append_right _ h)) (by decide +kernel))
set_option maxRecDepth 20000 in
theorem gL_corner_X3_corner : GoodIn wsL_corner (wsV RL 38 RX3 yX3_corner wsX3_corner) := goodIn_app (goodIn_of _ (by decide +kernel)) ggL_corner_X3_corner
theorem dL_corner_0 : decode cL_corner 0 = .ok (.aload_n 3, 1) := by decide +kernel
theorem dL_corner_1 : decode cL_corner 1 = .ok (.iconst 0, 1) := by decide +kernel
theorem dL_corner_2 : decode cL_corner 2 = .ok (.aload_n 0, 1) := by decide +kernel
theorem dL_corner_3 : decode cL_corner 3 = .ok (.iload_n 1, 1) := by decide +kernel
theorem dL_corner_4 : decode cL_corner 4 = .ok (.iload_n 2, 1) := by decide +kernel
theorem dL_corner_5 : decode cL_corner 5 = .ok (.invokevirtual 38, 3) := by decide +kernel
theorem dL_corner_8 : decode cL_corner 8 = .ok (.i2l, 1) := by decide +kernel
theorem dL_corner_9 : decode cL_corner 9 = .ok (.lastore, 1) := by decide +kernel
theorem dL_corner_10 : decode cL_corner 10 = .ok (.goto 11, 3) := by decide +kernel
theorem dL_corner_13 : decode cL_corner 13 = .ok (.astore 4, 2) := by decide +kernel
theorem dL_corner_15 : decode cL_corner 15 = .ok (.iconst 1, 1) := by decide +kernel
theorem dL_corner_16 : decode cL_corner 16 = .ok (.ireturn, 1) := by decide +kernel
theorem dL_corner_17 : decode cL_corner 17 = .ok (.astore 4, 2) := by decide +kernel
theorem dL_corner_19 : decode cL_corner 19 = .ok (.iconst 2, 1) := by decide +kernel
theorem dL_corner_20 : decode cL_corner 20 = .ok (.ireturn, 1) := by decide +kernel
theorem dL_corner_21 : decode cL_corner 21 = .ok (.iconst 0, 1) := by decide +kernel
theorem dL_corner_22 : decode cL_corner 22 = .ok (.ireturn, 1) := by decide +kernel
set_option maxRecDepth 20000 in
theorem ggL_edge_X3_edge : GoodIn wsL_edge wsX3_edge := goodIn_ca (goodIn_ca (goodIn_r _ [7, 8, 9, 10, 11, 6, 12, 13, 14, 15, 16, 17, 18, 19, 20, 21, 22, 23, 24, 25, 26, 27, 28, 29, 30, 31, 32, 33, 34, 35, 36] (by decide +kernel) (by decide +kernel)) (goodIn_sub (fun _ h => List.mem_cons_of_mem _ (List.mem_append_left _ (List.mem_append_right _ h))) (by decide +kernel))) (goodIn_sub (fun _ h => List.mem_cons_of_mem _ (List.mem_append_right _ h)) (by decide +kernel))
set_option maxRecDepth 20000 in
theorem gL_edge_X3_edge : GoodIn wsL_edge (wsV RL 41 RX3 yX3_edge wsX3_edge) := goodIn_app (goodIn_of _ (by decide +kernel)) ggL_edge_X3_edge
theorem dL_edge_0 : decode cL_edge 0 = .ok (.aload_n 3, 1) := by decide +kernel
theorem dL_edge_1 : decode cL_edge 1 = .ok (.iconst 0, 1) := by decide +kernel
theorem dL_edge_2 : decode cL_edge 2 = .ok (.aload_n 0, 1) := by decide +kernel
theorem dL_edge_3 : decode cL_edge 3 = .ok (.iload_n 1, 1) := by decide +kernel
theorem dL_edge_4 : decode cL_edge 4 = .ok (.iload_n 2, 1) := by decide +kernel
theorem dL_edge_5 : decode cL_edge 5 = .ok (.invokevirtual 41, 3) := by decide +kernel
theorem dL_edge_8 : decode cL_edge 8 = .ok (.i2l, 1) := by decide +kernel
theorem dL_edge_9 : decode cL_edge 9 = .ok (.lastore, 1) := by decide +kernel
theorem dL_edge_10 : decode cL_edge 10 = .ok (.goto 11, 3) := by decide +kernel
theorem dL_edge_13 : decode cL_edge 13 = .ok (.astore 4, 2) := by decide +kernel
theorem dL_edge_15 : decode cL_edge 15 = .ok (.iconst 1, 1) := by decide +kernel
theorem dL_edge_16 : decode cL_edge 16 = .ok (.ireturn, 1) := by decide +kernel
theorem dL_edge_17 : decode cL_edge 17 = .ok (.astore 4, 2) := by decide +kernel
theorem dL_edge_19 : decode cL_edge 19 = .ok (.iconst 2, 1) := by decide +kernel
theorem dL_edge_20 : decode cL_edge 20 = .ok (.ireturn, 1) := by decide +kernel
theorem dL_edge_21 : decode cL_edge 21 = .ok (.iconst 0, 1) := by decide +kernel
theorem dL_edge_22 : decode cL_edge 22 = .ok (.ireturn, 1) := by decide +kernel
set_option maxRecDepth 20000 in
theorem ggL_support_X3_support : GoodIn wsL_support wsX3_support := goodIn_ca (goodIn_ca (goodIn_r _ [7, 8, 9, 10, 11, 12, 6, 13, 14, 15, 16, 17, 18, 19, 20, 21, 22, 23, 24, 25, 26, 27, 28, 29, 30, 31, 32, 33, 34, 35, 36, 37, 38, 39, 40, 41, 42, 43, 44, 45, 46, 47, 48, 49] (by decide +kernel) (by decide +kernel)) (goodIn_sub (fun _ h => List.mem_cons_of_mem _ (List.mem_append_left _ (List.mem_append_right _ h))) (by decide +kernel))) (goodIn_sub (fun _ h => List.mem_cons_of_mem _ (List.mem_append_right _ h)) (by decide +kernel))
set_option maxRecDepth 20000 in
theorem gL_support_X3_support : GoodIn wsL_support (wsV RL 44 RX3 yX3_support wsX3_support) := goodIn_app (goodIn_of _ (by decide +kernel)) ggL_support_X3_support
theorem dL_support_0 : decode cL_support 0 = .ok (.aload 4, 2) := by decide +kernel
theorem dL_support_2 : decode cL_support 2 = .ok (.iconst 0, 1) := by decide +kernel
theorem dL_support_3 : decode cL_support 3 = .ok (.aload_n 0, 1) := by decide +kernel
theorem dL_support_4 : decode cL_support 4 = .ok (.iload_n 1, 1) := by decide +kernel
theorem dL_support_5 : decode cL_support 5 = .ok (.iload_n 2, 1) := by decide +kernel
theorem dL_support_6 : decode cL_support 6 = .ok (.iload_n 3, 1) := by decide +kernel
theorem dL_support_7 : decode cL_support 7 = .ok (.invokevirtual 44, 3) := by decide +kernel
theorem dL_support_10 : decode cL_support 10 = .ok (.i2l, 1) := by decide +kernel
theorem dL_support_11 : decode cL_support 11 = .ok (.lastore, 1) := by decide +kernel
theorem dL_support_12 : decode cL_support 12 = .ok (.goto 11, 3) := by decide +kernel
theorem dL_support_15 : decode cL_support 15 = .ok (.astore 5, 2) := by decide +kernel
theorem dL_support_17 : decode cL_support 17 = .ok (.iconst 1, 1) := by decide +kernel
theorem dL_support_18 : decode cL_support 18 = .ok (.ireturn, 1) := by decide +kernel
theorem dL_support_19 : decode cL_support 19 = .ok (.astore 5, 2) := by decide +kernel
theorem dL_support_21 : decode cL_support 21 = .ok (.iconst 2, 1) := by decide +kernel
theorem dL_support_22 : decode cL_support 22 = .ok (.ireturn, 1) := by decide +kernel
theorem dL_support_23 : decode cL_support 23 = .ok (.iconst 0, 1) := by decide +kernel
theorem dL_support_24 : decode cL_support 24 = .ok (.ireturn, 1) := by decide +kernel
set_option maxRecDepth 20000 in
theorem ggL_steps_X3_steps : GoodIn wsL_steps wsX3_steps := goodIn_ca (goodIn_ca (goodIn_r _ [7, 8, 9, 10, 11, 6, 12, 13, 14, 15, 16, 17, 18, 19, 20, 21, 22, 23, 24, 25, 26, 27, 28, 29, 30, 31, 32, 33, 34, 35, 36, 37, 38, 39, 40, 41, 42, 43, 44, 45, 46, 47, 48, 49, 50, 51] (by decide +kernel) (by decide +kernel)) (goodIn_sub (fun _ h => List.mem_cons_of_mem _ (List.mem_append_left _ (List.mem_append_right _ h))) (by decide +kernel))) (goodIn_sub (fun _ h => List.mem_cons_of_mem _ (List.mem_append_right _ h)) (by decide +kernel))
set_option maxRecDepth 20000 in
theorem gL_steps_X3_steps : GoodIn wsL_steps (wsV RL 47 RX3 yX3_steps wsX3_steps) := goodIn_app (goodIn_of _ (by decide +kernel)) ggL_steps_X3_steps
theorem dL_steps_0 : decode cL_steps 0 = .ok (.aload_n 3, 1) := by decide +kernel
theorem dL_steps_1 : decode cL_steps 1 = .ok (.iconst 0, 1) := by decide +kernel
theorem dL_steps_2 : decode cL_steps 2 = .ok (.aload_n 0, 1) := by decide +kernel
theorem dL_steps_3 : decode cL_steps 3 = .ok (.iload_n 1, 1) := by decide +kernel
theorem dL_steps_4 : decode cL_steps 4 = .ok (.iload_n 2, 1) := by decide +kernel
theorem dL_steps_5 : decode cL_steps 5 = .ok (.invokevirtual 47, 3) := by decide +kernel
theorem dL_steps_8 : decode cL_steps 8 = .ok (.i2l, 1) := by decide +kernel
theorem dL_steps_9 : decode cL_steps 9 = .ok (.lastore, 1) := by decide +kernel
theorem dL_steps_10 : decode cL_steps 10 = .ok (.goto 11, 3) := by decide +kernel
theorem dL_steps_13 : decode cL_steps 13 = .ok (.astore 4, 2) := by decide +kernel
theorem dL_steps_15 : decode cL_steps 15 = .ok (.iconst 1, 1) := by decide +kernel
theorem dL_steps_16 : decode cL_steps 16 = .ok (.ireturn, 1) := by decide +kernel
theorem dL_steps_17 : decode cL_steps 17 = .ok (.astore 4, 2) := by decide +kernel
theorem dL_steps_19 : decode cL_steps 19 = .ok (.iconst 2, 1) := by decide +kernel
theorem dL_steps_20 : decode cL_steps 20 = .ok (.ireturn, 1) := by decide +kernel
theorem dL_steps_21 : decode cL_steps 21 = .ok (.iconst 0, 1) := by decide +kernel
theorem dL_steps_22 : decode cL_steps 22 = .ok (.ireturn, 1) := by decide +kernel
set_option maxRecDepth 20000 in
theorem ggL_side_X3_side : GoodIn wsL_side wsX3_side := goodIn_ca (goodIn_ca (goodIn_r _ [7, 8, 9, 10, 11, 12, 6, 13, 14, 15, 16, 17, 18, 19, 20, 21, 22, 23, 24, 25, 26, 27, 28, 29, 30, 31, 32, 33, 34, 35, 36, 37, 38, 39, 40, 41, 42, 43, 44, 45, 46, 47, 48, 49, 50, 51, 52, 53, 54, 55, 56, 57, 58] (by decide +kernel) (by decide +kernel)) (goodIn_sub (fun _ h => List.mem_cons_of_mem _ (List.mem_append_left _ (List.mem_append_right _ h))) (by decide +kernel))) (goodIn_sub (fun _ h => List.mem_cons_of_mem _ (List.mem_append_right _ h)) (by decide +kernel))
set_option maxRecDepth 20000 in
theorem gL_side_X3_side : GoodIn wsL_side (wsV RL 50 RX3 yX3_side wsX3_side) := goodIn_app (goodIn_of _ (by decide +kernel)) ggL_side_X3_side
theorem dL_side_0 : decode cL_side 0 = .ok (.aload 4, 2) := by decide +kernel
theorem dL_side_2 : decode cL_side 2 = .ok (.iconst 0, 1) := by decide +kernel
theorem dL_side_3 : decode cL_side 3 = .ok (.aload_n 0, 1) := by decide +kernel
theorem dL_side_4 : decode cL_side 4 = .ok (.iload_n 1, 1) := by decide +kernel
theorem dL_side_5 : decode cL_side 5 = .ok (.iload_n 2, 1) := by decide +kernel
theorem dL_side_6 : decode cL_side 6 = .ok (.iload_n 3, 1) := by decide +kernel
theorem dL_side_7 : decode cL_side 7 = .ok (.invokevirtual 50, 3) := by decide +kernel
theorem dL_side_10 : decode cL_side 10 = .ok (.i2l, 1) := by decide +kernel
theorem dL_side_11 : decode cL_side 11 = .ok (.lastore, 1) := by decide +kernel
theorem dL_side_12 : decode cL_side 12 = .ok (.goto 11, 3) := by decide +kernel
theorem dL_side_15 : decode cL_side 15 = .ok (.astore 5, 2) := by decide +kernel
theorem dL_side_17 : decode cL_side 17 = .ok (.iconst 1, 1) := by decide +kernel
theorem dL_side_18 : decode cL_side 18 = .ok (.ireturn, 1) := by decide +kernel
theorem dL_side_19 : decode cL_side 19 = .ok (.astore 5, 2) := by decide +kernel
theorem dL_side_21 : decode cL_side 21 = .ok (.iconst 2, 1) := by decide +kernel
theorem dL_side_22 : decode cL_side 22 = .ok (.ireturn, 1) := by decide +kernel
theorem dL_side_23 : decode cL_side 23 = .ok (.iconst 0, 1) := by decide +kernel
theorem dL_side_24 : decode cL_side 24 = .ok (.ireturn, 1) := by decide +kernel
set_option maxRecDepth 20000 in
theorem ggL_volume_X3_volume : GoodIn wsL_volume wsX3_volume := goodIn_ca (goodIn_r _ [6, 7, 8, 9, 10, 5, 11, 12, 13, 14, 15, 16, 17, 18, 19, 20, 21, 22, 23, 24, 25, 26, 27] (by decide +kernel) (by decide +kernel)) (goodIn_sub (fun _ h => List.mem_cons_of_mem _ (List.mem_append_right _ h)) (by decide +kernel))
set_option maxRecDepth 20000 in
theorem gL_volume_X3_volume : GoodIn wsL_volume (wsV RL 53 RX3 yX3_volume wsX3_volume) := goodIn_app (goodIn_of _ (by decide +kernel)) ggL_volume_X3_volume
theorem dL_volume_0 : decode cL_volume 0 = .ok (.aload_n 1, 1) := by decide +kernel
theorem dL_volume_1 : decode cL_volume 1 = .ok (.iconst 0, 1) := by decide +kernel
theorem dL_volume_2 : decode cL_volume 2 = .ok (.aload_n 0, 1) := by decide +kernel
theorem dL_volume_3 : decode cL_volume 3 = .ok (.invokevirtual 53, 3) := by decide +kernel
theorem dL_volume_6 : decode cL_volume 6 = .ok (.lastore, 1) := by decide +kernel
theorem dL_volume_7 : decode cL_volume 7 = .ok (.goto 6, 3) := by decide +kernel
theorem dL_volume_10 : decode cL_volume 10 = .ok (.astore_n 2, 1) := by decide +kernel
theorem dL_volume_11 : decode cL_volume 11 = .ok (.iconst 1, 1) := by decide +kernel
theorem dL_volume_12 : decode cL_volume 12 = .ok (.ireturn, 1) := by decide +kernel
theorem dL_volume_13 : decode cL_volume 13 = .ok (.iconst 0, 1) := by decide +kernel
theorem dL_volume_14 : decode cL_volume 14 = .ok (.ireturn, 1) := by decide +kernel
set_option maxRecDepth 20000 in
theorem ggL_centre_X3_centre : GoodIn wsL_centre wsX3_centre := goodIn_ca (goodIn_ca (goodIn_r _ [7, 8, 9, 10, 11, 6, 12, 13, 14, 15, 16, 17, 18, 19, 20, 21, 22, 23, 24, 25, 26, 27, 28, 29, 30, 31, 32, 33] (by decide +kernel) (by decide +kernel)) (goodIn_sub (fun _ h => List.mem_cons_of_mem _ (List.mem_append_left _ (List.mem_append_right _ h))) (by decide +kernel))) (goodIn_sub (fun _ h => List.mem_cons_of_mem _ (List.mem_append_right _ h)) (by decide +kernel))
set_option maxRecDepth 20000 in
theorem gL_centre_X3_centre : GoodIn wsL_centre (wsV RL 57 RX3 yX3_centre wsX3_centre) := goodIn_app (goodIn_of _ (by decide +kernel)) ggL_centre_X3_centre
theorem dL_centre_0 : decode cL_centre 0 = .ok (.aload_n 2, 1) := by decide +kernel
theorem dL_centre_1 : decode cL_centre 1 = .ok (.iconst 0, 1) := by decide +kernel
theorem dL_centre_2 : decode cL_centre 2 = .ok (.aload_n 0, 1) := by decide +kernel
theorem dL_centre_3 : decode cL_centre 3 = .ok (.iload_n 1, 1) := by decide +kernel
theorem dL_centre_4 : decode cL_centre 4 = .ok (.invokevirtual 57, 3) := by decide +kernel
theorem dL_centre_7 : decode cL_centre 7 = .ok (.lastore, 1) := by decide +kernel
theorem dL_centre_8 : decode cL_centre 8 = .ok (.goto 9, 3) := by decide +kernel
theorem dL_centre_11 : decode cL_centre 11 = .ok (.astore_n 3, 1) := by decide +kernel
theorem dL_centre_12 : decode cL_centre 12 = .ok (.iconst 1, 1) := by decide +kernel
theorem dL_centre_13 : decode cL_centre 13 = .ok (.ireturn, 1) := by decide +kernel
theorem dL_centre_14 : decode cL_centre 14 = .ok (.astore_n 3, 1) := by decide +kernel
theorem dL_centre_15 : decode cL_centre 15 = .ok (.iconst 2, 1) := by decide +kernel
theorem dL_centre_16 : decode cL_centre 16 = .ok (.ireturn, 1) := by decide +kernel
theorem dL_centre_17 : decode cL_centre 17 = .ok (.iconst 0, 1) := by decide +kernel
theorem dL_centre_18 : decode cL_centre 18 = .ok (.ireturn, 1) := by decide +kernel
set_option maxRecDepth 20000 in
theorem ggL_middle_X3_middle : GoodIn wsL_middle wsX3_middle := goodIn_ca (goodIn_ca (goodIn_r _ [7, 8, 9, 10, 11, 12, 6, 13, 14, 15, 16, 17, 18, 19, 20, 21, 22, 23, 24, 25, 26, 27, 28, 29, 30, 31, 32, 33, 34] (by decide +kernel) (by decide +kernel)) (goodIn_sub (fun _ h => List.mem_cons_of_mem _ (List.mem_append_left _ (List.mem_append_right _ h))) (by decide +kernel))) (goodIn_sub (fun _ h => List.mem_cons_of_mem _ (List.mem_append_right _ h)) (by decide +kernel))
set_option maxRecDepth 20000 in
theorem gL_middle_X3_middle : GoodIn wsL_middle (wsV RL 60 RX3 yX3_middle wsX3_middle) := goodIn_app (goodIn_of _ (by decide +kernel)) ggL_middle_X3_middle
theorem dL_middle_0 : decode cL_middle 0 = .ok (.aload_n 2, 1) := by decide +kernel
theorem dL_middle_1 : decode cL_middle 1 = .ok (.iconst 0, 1) := by decide +kernel
theorem dL_middle_2 : decode cL_middle 2 = .ok (.aload_n 0, 1) := by decide +kernel
theorem dL_middle_3 : decode cL_middle 3 = .ok (.iload_n 1, 1) := by decide +kernel
theorem dL_middle_4 : decode cL_middle 4 = .ok (.invokevirtual 60, 3) := by decide +kernel
theorem dL_middle_7 : decode cL_middle 7 = .ok (.dastore, 1) := by decide +kernel
theorem dL_middle_8 : decode cL_middle 8 = .ok (.goto 9, 3) := by decide +kernel
theorem dL_middle_11 : decode cL_middle 11 = .ok (.astore_n 3, 1) := by decide +kernel
theorem dL_middle_12 : decode cL_middle 12 = .ok (.iconst 1, 1) := by decide +kernel
theorem dL_middle_13 : decode cL_middle 13 = .ok (.ireturn, 1) := by decide +kernel
theorem dL_middle_14 : decode cL_middle 14 = .ok (.astore_n 3, 1) := by decide +kernel
theorem dL_middle_15 : decode cL_middle 15 = .ok (.iconst 2, 1) := by decide +kernel
theorem dL_middle_16 : decode cL_middle 16 = .ok (.ireturn, 1) := by decide +kernel
theorem dL_middle_17 : decode cL_middle 17 = .ok (.iconst 0, 1) := by decide +kernel
theorem dL_middle_18 : decode cL_middle 18 = .ok (.ireturn, 1) := by decide +kernel
set_option maxRecDepth 20000 in
theorem ggL_count_X3_count : GoodIn wsL_count wsX3_count := goodIn_ca (goodIn_r _ [6, 7, 8, 9, 10, 11, 12, 13, 14, 15, 16, 17, 18, 19, 20, 21, 22, 23, 24, 25, 26, 27, 28, 29, 30, 31, 32, 33, 34, 35, 36] (by decide +kernel) (by decide +kernel)) (goodIn_sub (fun _ h => List.mem_cons_of_mem _ (List.mem_append_right _ h)) (by decide +kernel))
set_option maxRecDepth 20000 in
theorem gL_count_X3_count : GoodIn wsL_count (wsV RL 64 RX3 yX3_count wsX3_count) := goodIn_app (goodIn_of _ (by decide +kernel)) ggL_count_X3_count
theorem dL_count_0 : decode cL_count 0 = .ok (.aload_n 2, 1) := by decide +kernel
theorem dL_count_1 : decode cL_count 1 = .ok (.iconst 0, 1) := by decide +kernel
theorem dL_count_2 : decode cL_count 2 = .ok (.aload_n 0, 1) := by decide +kernel
theorem dL_count_3 : decode cL_count 3 = .ok (.iload_n 1, 1) := by decide +kernel
theorem dL_count_4 : decode cL_count 4 = .ok (.invokevirtual 64, 3) := by decide +kernel
theorem dL_count_7 : decode cL_count 7 = .ok (.i2l, 1) := by decide +kernel
theorem dL_count_8 : decode cL_count 8 = .ok (.lastore, 1) := by decide +kernel
theorem dL_count_9 : decode cL_count 9 = .ok (.goto 6, 3) := by decide +kernel
theorem dL_count_12 : decode cL_count 12 = .ok (.astore_n 3, 1) := by decide +kernel
theorem dL_count_13 : decode cL_count 13 = .ok (.iconst 1, 1) := by decide +kernel
theorem dL_count_14 : decode cL_count 14 = .ok (.ireturn, 1) := by decide +kernel
theorem dL_count_15 : decode cL_count 15 = .ok (.iconst 0, 1) := by decide +kernel
theorem dL_count_16 : decode cL_count 16 = .ok (.ireturn, 1) := by decide +kernel
set_option maxRecDepth 20000 in
theorem ggL_law_X3_init : GoodIn wsL_law wsX3_init := goodIn_r _ [10, 11, 12, 13, 14, 15, 16, 17, 18, 19, 20, 21, 22, 23, 24, 25, 26, 27, 28, 29, 30, 31, 32, 33, 34, 35, 36, 37, 38, 39, 40, 41, 42, 43, 6, 44, 45, 46, 47, 48, 536, 537, 538, 539, 506, 507, 508, 540, 541, 542, 543, 544, 545, 546, 547, 548, 549, 550, 551, 552, 553, 554, 555, 556, 557] (by decide +kernel) (by decide +kernel)
set_option maxRecDepth 20000 in
theorem gL_law_X3_init : GoodIn wsL_law (wsX3_init) := ggL_law_X3_init
set_option maxRecDepth 20000 in
theorem ggL_law_X4_init : GoodIn wsL_law wsX4_init := goodIn_r _ [51, 52, 12, 13, 26, 53, 54, 55, 6, 56, 57, 58, 59, 60, 61, 62, 63, 64, 65, 66, 67, 68, 69, 509, 510, 511, 512, 513, 514, 515, 516, 517, 518, 519, 520, 521, 522, 523, 524, 525, 526, 527, 528, 529, 530, 531, 532, 533, 534, 535] (by decide +kernel) (by decide +kernel)
set_option maxRecDepth 20000 in
theorem gL_law_X4_init : GoodIn wsL_law (wsX4_init) := ggL_law_X4_init
set_option maxRecDepth 20000 in
theorem ggL_law_L_point : GoodIn wsL_law wsL_point := goodIn_ca (goodIn_ca (goodIn_r _ [73, 74, 75, 76, 77, 78, 2, 79, 80, 81, 82, 83, 17, 84, 85, 86, 87, 88, 89, 90, 16, 91, 92, 30, 27, 28, 29, 93, 94, 95, 506, 507, 508, 536, 537, 538, 539] (by decide +kernel) (by decide +kernel)) (goodIn_sub (fun _ h => List.mem_append_left _ (List.mem_append_left _ (List.mem_append_right _ h))) (by decide +kernel))) (goodIn_sub (fun _ h => List.mem_append_left _ (List.mem_append_right _ h)) (by decide +kernel))
set_option maxRecDepth 20000 in
theorem gL_law_L_point : GoodIn wsL_law (va_wsS RL 71 yL_point wsL_point) := goodIn_app (goodIn_of _ (by decide +kernel)) ggL_law_L_point
set_option maxRecDepth 20000 in
theorem ggL_law_X4_point : GoodIn wsL_law wsX4_point := goodIn_r _ [99, 100, 53, 54, 55, 101, 102, 5, 103, 104, 105, 106, 107, 108, 109, 110, 111, 112, 509, 510, 511, 512, 513, 514, 515, 516, 517, 518, 519, 520, 521, 522, 523, 524, 525, 526, 527, 528, 529, 530, 531, 532, 533, 534, 535] (by decide +kernel) (by decide +kernel)
set_option maxRecDepth 20000 in
theorem gL_law_X4_point : GoodIn wsL_law (wsV RL 76 RX4 yX4_point wsX4_point) := goodIn_app (goodIn_of _ (by decide +kernel)) ggL_law_X4_point
set_option maxRecDepth 20000 in
theorem ggL_law_X4_thrown : GoodIn wsL_law wsX4_thrown := goodIn_r _ [116, 112, 509, 510, 511, 512, 513, 514, 515, 516, 517, 518, 519, 520, 521, 522, 523, 524, 525, 526, 527, 528, 529, 530, 531, 532, 533, 534, 535] (by decide +kernel) (by decide +kernel)
set_option maxRecDepth 20000 in
theorem gL_law_X4_thrown : GoodIn wsL_law (wsV RL 77 RX4 yX4_thrown wsX4_thrown) := goodIn_app (goodIn_of _ (by decide +kernel)) ggL_law_X4_thrown
set_option maxRecDepth 20000 in
theorem ggL_law_L_take : GoodIn wsL_law wsL_take := goodIn_ca (goodIn_r _ [119, 120, 121, 122, 123, 2, 124, 17, 125, 126, 127, 128, 129, 130, 16, 131, 132, 30, 27, 28, 29, 506, 507, 508, 536, 537, 538, 539] (by decide +kernel) (by decide +kernel)) (goodIn_sub (fun _ h => List.mem_append_right _ h) (by decide +kernel))
set_option maxRecDepth 20000 in
theorem gL_law_L_take : GoodIn wsL_law (va_wsS RL 80 yL_take wsL_take) := goodIn_app (goodIn_of _ (by decide +kernel)) ggL_law_L_take
set_option maxRecDepth 20000 in
theorem ggL_law_X4_take : GoodIn wsL_law wsX4_take := goodIn_r _ [136, 100, 53, 54, 55, 108, 109, 110, 5, 111, 112, 509, 510, 511, 512, 513, 514, 515, 516, 517, 518, 519, 520, 521, 522, 523, 524, 525, 526, 527, 528, 529, 530, 531, 532, 533, 534, 535] (by decide +kernel) (by decide +kernel)
set_option maxRecDepth 20000 in
theorem gL_law_X4_take : GoodIn wsL_law (wsV RL 83 RX4 yX4_take wsX4_take) := goodIn_app (goodIn_of _ (by decide +kernel)) ggL_law_X4_take
set_option maxRecDepth 20000 in
theorem ggL_law_L_build : GoodIn wsL_law wsL_build := goodIn_ca (goodIn_r _ [139, 75, 140, 141, 142, 2, 143, 82, 83, 21, 17, 22, 144, 20, 145, 146, 40, 147, 39, 148, 149, 150, 151, 152, 153, 154, 155, 156, 157, 158, 159, 160, 161, 162, 163, 164, 165, 35, 166, 37, 167, 168, 16, 169, 170, 30, 27, 28, 29, 171, 172, 173, 174, 175, 176, 177, 178, 179, 180, 181, 182, 183, 184, 185, 186, 187, 188, 189, 190, 191, 192, 193, 194, 195, 196, 197, 198, 199, 200, 201, 48, 202, 203, 204, 205, 206, 207, 208, 209, 210, 211, 212, 213, 214, 215, 216, 217, 218, 219, 220, 221, 222, 223, 224, 225, 226, 227, 228, 229, 230, 231, 232, 233, 234, 41, 42, 43, 235, 236, 237, 238, 239, 240, 241, 242, 243, 244, 245, 246, 247, 44, 248, 249, 250, 251, 252, 253, 254, 506, 507, 508, 540, 541, 542, 543, 544, 545, 546, 547, 548, 549, 550, 536, 537, 538, 539, 551, 552, 553, 554, 555, 556, 557] (by decide +kernel) (by decide +kernel)) (goodIn_sub (fun _ h => List.mem_append_left _ (List.mem_append_right _ h)) (by decide +kernel))
set_option maxRecDepth 20000 in
theorem gL_law_L_build : GoodIn wsL_law (va_wsS RL 84 yL_build wsL_build) := goodIn_app (goodIn_of _ (by decide +kernel)) ggL_law_L_build
set_option maxRecDepth 20000 in
theorem ggL_law_X4_build : GoodIn wsL_law wsX4_build := goodIn_r _ [258, 100, 259, 56, 53, 57, 54, 58, 55, 260, 261, 262, 263, 264, 265, 5, 266, 267, 268, 269, 270, 108, 109, 110, 111, 112, 271, 272, 273, 274, 275, 276, 277, 278, 279, 280, 281, 282, 283, 284, 285, 286, 287, 288, 289, 290, 291, 292, 293, 59, 60, 61, 62, 294, 295, 296, 297, 298, 299, 300, 301, 64, 63, 302, 303, 304, 305, 306, 307, 308, 309, 310, 311, 312, 313, 314, 315, 316, 317, 65, 318, 319, 320, 321, 322, 323, 324, 325, 326, 66, 67, 68, 327, 328, 329, 330, 509, 510, 511, 512, 513, 514, 515, 516, 517, 518, 519, 520, 521, 522, 523, 524, 525, 526, 527, 528, 529, 530, 531, 532, 533, 534, 535] (by decide +kernel) (by decide +kernel)
set_option maxRecDepth 20000 in
theorem gL_law_X4_build : GoodIn wsL_law (wsV RL 87 RX4 yX4_build wsX4_build) := goodIn_app (goodIn_of _ (by decide +kernel)) ggL_law_X4_build
set_option maxRecDepth 20000 in
theorem ggL_law_L_of : GoodIn wsL_law wsL_of := goodIn_ca (goodIn_r _ [333, 120, 334, 335, 336, 2, 337, 17, 125, 126, 127, 128, 129, 338, 16, 339, 340, 27, 28, 29, 506, 507, 508, 536, 537, 538, 539] (by decide +kernel) (by decide +kernel)) (goodIn_sub (fun _ h => List.mem_append_right _ h) (by decide +kernel))
set_option maxRecDepth 20000 in
theorem gL_law_L_of : GoodIn wsL_law (va_wsS RL 88 yL_of wsL_of) := goodIn_app (goodIn_of _ (by decide +kernel)) ggL_law_L_of
set_option maxRecDepth 20000 in
theorem ggL_law_X4_of : GoodIn wsL_law wsX4_of := goodIn_r _ [344, 100, 53, 54, 55, 108, 109, 110, 5, 111, 112, 509, 510, 511, 512, 513, 514, 515, 516, 517, 518, 519, 520, 521, 522, 523, 524, 525, 526, 527, 528, 529, 530, 531, 532, 533, 534, 535] (by decide +kernel) (by decide +kernel)
set_option maxRecDepth 20000 in
theorem gL_law_X4_of : GoodIn wsL_law (wsV RL 91 RX4 yX4_of wsX4_of) := goodIn_app (goodIn_of _ (by decide +kernel)) ggL_law_X4_of
set_option maxRecDepth 20000 in
theorem ggL_law_L_face : GoodIn wsL_law wsL_face := goodIn_ca (goodIn_ca (goodIn_r _ [347, 75, 120, 348, 349, 350, 2, 351, 21, 352, 353, 354, 355, 82, 83, 125, 126, 127, 128, 129, 506, 507, 508, 540, 541, 542, 543, 544, 545, 546, 547, 548, 549, 550, 551, 552, 553, 554, 555, 556, 557] (by decide +kernel) (by decide +kernel)) (goodIn_sub (fun _ h => List.mem_append_left _ (List.mem_append_right _ h)) (by decide +kernel))) (goodIn_sub (fun _ h => List.mem_append_right _ h) (by decide +kernel))
set_option maxRecDepth 20000 in
theorem gL_law_L_face : GoodIn wsL_law (va_wsS RL 92 yL_face wsL_face) := goodIn_app (goodIn_of _ (by decide +kernel)) ggL_law_L_face
set_option maxRecDepth 20000 in
theorem ggL_law_X4_face : GoodIn wsL_law wsX4_face := goodIn_r _ [359, 261, 65, 63, 59, 60, 61, 360, 361, 362, 5, 363, 260, 108, 109, 110, 111, 112, 509, 510, 511, 512, 513, 514, 515, 516, 517, 518, 519, 520, 521, 522, 523, 524, 525, 526, 527, 528, 529, 530, 531, 532, 533, 534, 535] (by decide +kernel) (by decide +kernel)
set_option maxRecDepth 20000 in
theorem gL_law_X4_face : GoodIn wsL_law (wsV RL 94 RX4 yX4_face wsX4_face) := goodIn_app (goodIn_of _ (by decide +kernel)) ggL_law_X4_face
set_option maxRecDepth 20000 in
theorem ggL_law_L_offset : GoodIn wsL_law wsL_offset := goodIn_ca (goodIn_ca (goodIn_r _ [366, 75, 120, 367, 368, 369, 2, 370, 21, 352, 353, 354, 355, 82, 83, 125, 126, 127, 128, 129, 506, 507, 508, 540, 541, 542, 543, 544, 545, 546, 547, 548, 549, 550, 551, 552, 553, 554, 555, 556, 557] (by decide +kernel) (by decide +kernel)) (goodIn_sub (fun _ h => List.mem_append_left _ (List.mem_append_right _ h)) (by decide +kernel))) (goodIn_sub (fun _ h => List.mem_append_right _ h) (by decide +kernel))
set_option maxRecDepth 20000 in
theorem gL_law_L_offset : GoodIn wsL_law (va_wsS RL 95 yL_offset wsL_offset) := goodIn_app (goodIn_of _ (by decide +kernel)) ggL_law_L_offset
set_option maxRecDepth 20000 in
theorem ggL_law_X4_offset : GoodIn wsL_law wsX4_offset := goodIn_r _ [374, 261, 62, 65, 360, 361, 362, 5, 363, 260, 108, 109, 110, 111, 112, 509, 510, 511, 512, 513, 514, 515, 516, 517, 518, 519, 520, 521, 522, 523, 524, 525, 526, 527, 528, 529, 530, 531, 532, 533, 534, 535] (by decide +kernel) (by decide +kernel)
set_option maxRecDepth 20000 in
theorem gL_law_X4_offset : GoodIn wsL_law (wsV RL 97 RX4 yX4_offset wsX4_offset) := goodIn_app (goodIn_of _ (by decide +kernel)) ggL_law_X4_offset
set_option maxRecDepth 20000 in
theorem ggL_law_L_corner : GoodIn wsL_law wsL_corner := goodIn_ca (goodIn_ca (goodIn_r _ [377, 75, 120, 378, 379, 380, 2, 381, 21, 352, 353, 354, 355, 82, 83, 125, 126, 127, 128, 129, 506, 507, 508, 540, 541, 542, 543, 544, 545, 546, 547, 548, 549, 550, 551, 552, 553, 554, 555, 556, 557] (by decide +kernel) (by decide +kernel)) (goodIn_sub (fun _ h => List.mem_append_left _ (List.mem_append_right _ h)) (by decide +kernel))) (goodIn_sub (fun _ h => List.mem_append_right _ h) (by decide +kernel))
set_option maxRecDepth 20000 in
theorem gL_law_L_corner : GoodIn wsL_law (va_wsS RL 98 yL_corner wsL_corner) := goodIn_app (goodIn_of _ (by decide +kernel)) ggL_law_L_corner
set_option maxRecDepth 20000 in
theorem ggL_law_X4_corner : GoodIn wsL_law wsX4_corner := goodIn_r _ [385, 261, 63, 65, 64, 360, 361, 362, 5, 363, 260, 108, 109, 110, 111, 112, 509, 510, 511, 512, 513, 514, 515, 516, 517, 518, 519, 520, 521, 522, 523, 524, 525, 526, 527, 528, 529, 530, 531, 532, 533, 534, 535] (by decide +kernel) (by decide +kernel)
set_option maxRecDepth 20000 in
theorem gL_law_X4_corner : GoodIn wsL_law (wsV RL 100 RX4 yX4_corner wsX4_corner) := goodIn_app (goodIn_of _ (by decide +kernel)) ggL_law_X4_corner
set_option maxRecDepth 20000 in
theorem ggL_law_L_edge : GoodIn wsL_law wsL_edge := goodIn_ca (goodIn_ca (goodIn_r _ [388, 75, 120, 389, 390, 391, 2, 392, 21, 352, 353, 354, 355, 82, 83, 125, 126, 127, 128, 129, 393, 228, 229, 506, 507, 508, 540, 541, 542, 543, 544, 545, 546, 547, 548, 549, 550] (by decide +kernel) (by decide +kernel)) (goodIn_sub (fun _ h => List.mem_append_left _ (List.mem_append_right _ h)) (by decide +kernel))) (goodIn_sub (fun _ h => List.mem_append_right _ h) (by decide +kernel))
set_option maxRecDepth 20000 in
theorem gL_law_L_edge : GoodIn wsL_law (va_wsS RL 101 yL_edge wsL_edge) := goodIn_app (goodIn_of _ (by decide +kernel)) ggL_law_L_edge
set_option maxRecDepth 20000 in
theorem ggL_law_X4_edge : GoodIn wsL_law wsX4_edge := goodIn_r _ [397, 261, 326, 66, 67, 68, 108, 109, 110, 5, 111, 112, 509, 510, 511, 512, 513, 514, 515, 516, 517, 518, 519, 520, 521, 522, 523, 524, 525, 526, 527, 528, 529, 530, 531, 532, 533, 534, 535] (by decide +kernel) (by decide +kernel)
set_option maxRecDepth 20000 in
theorem gL_law_X4_edge : GoodIn wsL_law (wsV RL 103 RX4 yX4_edge wsX4_edge) := goodIn_app (goodIn_of _ (by decide +kernel)) ggL_law_X4_edge
set_option maxRecDepth 20000 in
theorem ggL_law_L_support : GoodIn wsL_law wsL_support := goodIn_ca (goodIn_ca (goodIn_r _ [400, 75, 74, 401, 402, 403, 2, 404, 405, 21, 352, 353, 354, 355, 82, 83, 84, 85, 86, 80, 81, 87, 88, 89, 406, 20, 407, 408, 35, 167, 196, 197, 506, 507, 508, 540, 541, 542, 543, 544, 545, 546, 547, 548, 549, 550, 536, 537, 538, 539] (by decide +kernel) (by decide +kernel)) (goodIn_sub (fun _ h => List.mem_append_left _ (List.mem_append_right _ h)) (by decide +kernel))) (goodIn_sub (fun _ h => List.mem_append_left _ (List.mem_append_left _ (List.mem_append_right _ h))) (by decide +kernel))
set_option maxRecDepth 20000 in
theorem gL_law_L_support : GoodIn wsL_law (va_wsS RL 104 yL_support wsL_support) := goodIn_app (goodIn_of _ (by decide +kernel)) ggL_law_L_support
set_option maxRecDepth 20000 in
theorem ggL_law_X4_support : GoodIn wsL_law wsX4_support := goodIn_r _ [412, 261, 413, 259, 56, 57, 58, 101, 102, 5, 103, 108, 109, 110, 111, 112, 414, 415, 416, 417, 326, 66, 509, 510, 511, 512, 513, 514, 515, 516, 517, 518, 519, 520, 521, 522, 523, 524, 525, 526, 527, 528, 529, 530, 531, 532, 533, 534, 535] (by decide +kernel) (by decide +kernel)
set_option maxRecDepth 20000 in
theorem gL_law_X4_support : GoodIn wsL_law (wsV RL 106 RX4 yX4_support wsX4_support) := goodIn_app (goodIn_of _ (by decide +kernel)) ggL_law_X4_support
set_option maxRecDepth 20000 in
theorem ggL_law_L_steps : GoodIn wsL_law wsL_steps := goodIn_ca (goodIn_ca (goodIn_r _ [420, 75, 120, 421, 422, 423, 2, 424, 21, 352, 353, 354, 355, 82, 83, 425, 426, 427, 428, 128, 129, 125, 126, 127, 429, 196, 197, 430, 20, 431, 432, 433, 434, 435, 436, 234, 42, 43, 506, 507, 508, 540, 541, 542, 543, 544, 545, 546, 547, 548, 549, 550] (by decide +kernel) (by decide +kernel)) (goodIn_sub (fun _ h => List.mem_append_left _ (List.mem_append_right _ h)) (by decide +kernel))) (goodIn_sub (fun _ h => List.mem_append_right _ h) (by decide +kernel))
set_option maxRecDepth 20000 in
theorem gL_law_L_steps : GoodIn wsL_law (va_wsS RL 107 yL_steps wsL_steps) := goodIn_app (goodIn_of _ (by decide +kernel)) ggL_law_L_steps
set_option maxRecDepth 20000 in
theorem ggL_law_X4_steps : GoodIn wsL_law wsX4_steps := goodIn_r _ [440, 261, 259, 69, 326, 66, 414, 415, 416, 5, 417, 108, 109, 110, 111, 112, 509, 510, 511, 512, 513, 514, 515, 516, 517, 518, 519, 520, 521, 522, 523, 524, 525, 526, 527, 528, 529, 530, 531, 532, 533, 534, 535] (by decide +kernel) (by decide +kernel)
set_option maxRecDepth 20000 in
theorem gL_law_X4_steps : GoodIn wsL_law (wsV RL 109 RX4 yX4_steps wsX4_steps) := goodIn_app (goodIn_of _ (by decide +kernel)) ggL_law_X4_steps
set_option maxRecDepth 20000 in
theorem ggL_law_L_side : GoodIn wsL_law wsL_side := goodIn_ca (goodIn_ca (goodIn_r _ [443, 75, 74, 444, 445, 446, 2, 447, 405, 21, 352, 353, 354, 355, 82, 83, 84, 85, 86, 80, 81, 87, 88, 89, 448, 20, 449, 450, 166, 37, 160, 39, 161, 162, 150, 151, 152, 153, 506, 507, 508, 540, 541, 542, 543, 544, 545, 546, 547, 548, 549, 550, 551, 552, 553, 554, 555, 556, 557] (by decide +kernel) (by decide +kernel)) (goodIn_sub (fun _ h => List.mem_append_left _ (List.mem_append_right _ h)) (by decide +kernel))) (goodIn_sub (fun _ h => List.mem_append_left _ (List.mem_append_left _ (List.mem_append_right _ h))) (by decide +kernel))
set_option maxRecDepth 20000 in
theorem gL_law_L_side : GoodIn wsL_law (va_wsS RL 110 yL_side wsL_side) := goodIn_app (goodIn_of _ (by decide +kernel)) ggL_law_L_side
set_option maxRecDepth 20000 in
theorem ggL_law_X4_side : GoodIn wsL_law wsX4_side := goodIn_r _ [454, 261, 413, 260, 59, 60, 61, 62, 101, 102, 5, 103, 108, 109, 110, 111, 112, 509, 510, 511, 512, 513, 514, 515, 516, 517, 518, 519, 520, 521, 522, 523, 524, 525, 526, 527, 528, 529, 530, 531, 532, 533, 534, 535] (by decide +kernel) (by decide +kernel)
set_option maxRecDepth 20000 in
theorem gL_law_X4_side : GoodIn wsL_law (wsV RL 112 RX4 yX4_side wsX4_side) := goodIn_app (goodIn_of _ (by decide +kernel)) ggL_law_X4_side
set_option maxRecDepth 20000 in
theorem ggL_law_L_volume : GoodIn wsL_law wsL_volume := goodIn_ca (goodIn_r _ [457, 75, 458, 459, 460, 2, 461, 21, 352, 353, 354, 355, 82, 83, 506, 507, 508, 540, 541, 542, 543, 544, 545, 546, 547, 548, 549, 550] (by decide +kernel) (by decide +kernel)) (goodIn_sub (fun _ h => List.mem_append_left _ (List.mem_append_right _ h)) (by decide +kernel))
set_option maxRecDepth 20000 in
theorem gL_law_L_volume : GoodIn wsL_law (va_wsS RL 113 yL_volume wsL_volume) := goodIn_app (goodIn_of _ (by decide +kernel)) ggL_law_L_volume
set_option maxRecDepth 20000 in
theorem ggL_law_X4_volume : GoodIn wsL_law wsX4_volume := goodIn_r _ [465, 261, 108, 109, 110, 5, 111, 112, 466, 467, 468, 469, 260, 64, 63, 56, 57, 58, 509, 510, 511, 512, 513, 514, 515, 516, 517, 518, 519, 520, 521, 522, 523, 524, 525, 526, 527, 528, 529, 530, 531, 532, 533, 534, 535] (by decide +kernel) (by decide +kernel)
set_option maxRecDepth 20000 in
theorem gL_law_X4_volume : GoodIn wsL_law (wsV RL 115 RX4 yX4_volume wsX4_volume) := goodIn_app (goodIn_of _ (by decide +kernel)) ggL_law_X4_volume
set_option maxRecDepth 20000 in
theorem ggL_law_L_centre : GoodIn wsL_law wsL_centre := goodIn_ca (goodIn_ca (goodIn_r _ [472, 75, 120, 473, 474, 475, 2, 476, 21, 352, 353, 354, 355, 82, 83, 125, 126, 127, 128, 129, 506, 507, 508, 540, 541, 542, 543, 544, 545, 546, 547, 548, 549, 550] (by decide +kernel) (by decide +kernel)) (goodIn_sub (fun _ h => List.mem_append_left _ (List.mem_append_right _ h)) (by decide +kernel))) (goodIn_sub (fun _ h => List.mem_append_right _ h) (by decide +kernel))
set_option maxRecDepth 20000 in
theorem gL_law_L_centre : GoodIn wsL_law (va_wsS RL 116 yL_centre wsL_centre) := goodIn_app (goodIn_of _ (by decide +kernel)) ggL_law_L_centre
set_option maxRecDepth 20000 in
theorem ggL_law_X4_centre : GoodIn wsL_law wsX4_centre := goodIn_r _ [480, 261, 108, 109, 110, 5, 111, 112, 466, 467, 468, 469, 260, 64, 63, 56, 57, 58, 509, 510, 511, 512, 513, 514, 515, 516, 517, 518, 519, 520, 521, 522, 523, 524, 525, 526, 527, 528, 529, 530, 531, 532, 533, 534, 535] (by decide +kernel) (by decide +kernel)
set_option maxRecDepth 20000 in
theorem gL_law_X4_centre : GoodIn wsL_law (wsV RL 118 RX4 yX4_centre wsX4_centre) := goodIn_app (goodIn_of _ (by decide +kernel)) ggL_law_X4_centre
set_option maxRecDepth 20000 in
theorem ggL_law_L_middle : GoodIn wsL_law wsL_middle := goodIn_ca (goodIn_ca (goodIn_r _ [483, 75, 120, 484, 485, 486, 2, 487, 488, 21, 352, 353, 354, 355, 82, 83, 125, 126, 127, 128, 129, 506, 507, 508, 540, 541, 542, 543, 544, 545, 546, 547, 548, 549, 550] (by decide +kernel) (by decide +kernel)) (goodIn_sub (fun _ h => List.mem_append_left _ (List.mem_append_right _ h)) (by decide +kernel))) (goodIn_sub (fun _ h => List.mem_append_right _ h) (by decide +kernel))
set_option maxRecDepth 20000 in
theorem gL_law_L_middle : GoodIn wsL_law (va_wsS RL 119 yL_middle wsL_middle) := goodIn_app (goodIn_of _ (by decide +kernel)) ggL_law_L_middle
set_option maxRecDepth 20000 in
theorem ggL_law_X4_middle : GoodIn wsL_law wsX4_middle := goodIn_r _ [492, 261, 493, 108, 109, 110, 5, 111, 112, 466, 467, 468, 469, 260, 64, 63, 56, 57, 58, 509, 510, 511, 512, 513, 514, 515, 516, 517, 518, 519, 520, 521, 522, 523, 524, 525, 526, 527, 528, 529, 530, 531, 532, 533, 534, 535] (by decide +kernel) (by decide +kernel)
set_option maxRecDepth 20000 in
theorem gL_law_X4_middle : GoodIn wsL_law (wsV RL 122 RX4 yX4_middle wsX4_middle) := goodIn_app (goodIn_of _ (by decide +kernel)) ggL_law_X4_middle
set_option maxRecDepth 20000 in
theorem ggL_law_L_count : GoodIn wsL_law wsL_count := goodIn_ca (goodIn_r _ [496, 120, 497, 498, 499, 2, 500, 128, 129, 17, 21, 22, 501, 208, 204, 209, 210, 211, 212, 506, 507, 508, 536, 537, 538, 539, 540, 541, 542, 543, 544, 545, 546, 547, 548, 549, 550] (by decide +kernel) (by decide +kernel)) (goodIn_sub (fun _ h => List.mem_append_right _ h) (by decide +kernel))
set_option maxRecDepth 20000 in
theorem gL_law_L_count : GoodIn wsL_law (va_wsS RL 123 yL_count wsL_count) := goodIn_app (goodIn_of _ (by decide +kernel)) ggL_law_L_count
set_option maxRecDepth 20000 in
theorem ggL_law_X4_count : GoodIn wsL_law wsX4_count := goodIn_r _ [505, 259, 100, 261, 260, 326, 262, 108, 109, 110, 5, 111, 112, 414, 415, 416, 417, 66, 509, 510, 511, 512, 513, 514, 515, 516, 517, 518, 519, 520, 521, 522, 523, 524, 525, 526, 527, 528, 529, 530, 531, 532, 533, 534, 535] (by decide +kernel) (by decide +kernel)
set_option maxRecDepth 20000 in
theorem gL_law_X4_count : GoodIn wsL_law (wsV RL 125 RX4 yX4_count wsX4_count) := goodIn_app (goodIn_of _ (by decide +kernel)) ggL_law_X4_count
theorem dL_law_0 : decode cL_law 0 = .ok (.new 8, 3) := by decide +kernel
theorem dL_law_3 : decode cL_law 3 = .ok (.dup, 1) := by decide +kernel
theorem dL_law_4 : decode cL_law 4 = .ok (.invokespecial 67, 3) := by decide +kernel
theorem dL_law_7 : decode cL_law 7 = .ok (.astore_n 1, 1) := by decide +kernel
theorem dL_law_8 : decode cL_law 8 = .ok (.new 68, 3) := by decide +kernel
theorem dL_law_11 : decode cL_law 11 = .ok (.dup, 1) := by decide +kernel
theorem dL_law_12 : decode cL_law 12 = .ok (.invokespecial 70, 3) := by decide +kernel
theorem dL_law_15 : decode cL_law 15 = .ok (.astore_n 2, 1) := by decide +kernel
theorem dL_law_16 : decode cL_law 16 = .ok (.iconst 1, 1) := by decide +kernel
theorem dL_law_17 : decode cL_law 17 = .ok (.newarray .long, 2) := by decide +kernel
theorem dL_law_19 : decode cL_law 19 = .ok (.astore_n 3, 1) := by decide +kernel
theorem dL_law_20 : decode cL_law 20 = .ok (.iconst 1, 1) := by decide +kernel
theorem dL_law_21 : decode cL_law 21 = .ok (.newarray .double, 2) := by decide +kernel
theorem dL_law_23 : decode cL_law 23 = .ok (.astore 4, 2) := by decide +kernel
theorem dL_law_25 : decode cL_law 25 = .ok (.iconst 0, 1) := by decide +kernel
theorem dL_law_26 : decode cL_law 26 = .ok (.istore 5, 2) := by decide +kernel
theorem dL_law_28 : decode cL_law 28 = .ok (.iload 5, 2) := by decide +kernel
theorem dL_law_30 : decode cL_law 30 = .ok (.aload_n 0, 1) := by decide +kernel
theorem dL_law_31 : decode cL_law 31 = .ok (.arraylength, 1) := by decide +kernel
theorem dL_law_32 : decode cL_law 32 = .ok (.iconst 4, 1) := by decide +kernel
theorem dL_law_33 : decode cL_law 33 = .ok (.isub, 1) := by decide +kernel
theorem dL_law_34 : decode cL_law 34 = .ok (.if_icmp .gt 1058, 3) := by decide +kernel
theorem dL_law_37 : decode cL_law 37 = .ok (.aload_n 0, 1) := by decide +kernel
theorem dL_law_38 : decode cL_law 38 = .ok (.iload 5, 2) := by decide +kernel
theorem dL_law_40 : decode cL_law 40 = .ok (.iaload, 1) := by decide +kernel
theorem dL_law_41 : decode cL_law 41 = .ok (.bipush 15, 2) := by decide +kernel
theorem dL_law_43 : decode cL_law 43 = .ok (.iand, 1) := by decide +kernel
theorem dL_law_44 : decode cL_law 44 = .ok (.tableswitch 1042 0 14 #[76, 156, 212, 256, 324, 392, 447, 515, 583, 663, 731, 811, 854, 909, 986], 76) := by decide +kernel
theorem dL_law_120 : decode cL_law 120 = .ok (.aload_n 1, 1) := by decide +kernel
theorem dL_law_121 : decode cL_law 121 = .ok (.aload_n 0, 1) := by decide +kernel
theorem dL_law_122 : decode cL_law 122 = .ok (.iload 5, 2) := by decide +kernel
theorem dL_law_124 : decode cL_law 124 = .ok (.iconst 1, 1) := by decide +kernel
theorem dL_law_125 : decode cL_law 125 = .ok (.iadd, 1) := by decide +kernel
theorem dL_law_126 : decode cL_law 126 = .ok (.iaload, 1) := by decide +kernel
theorem dL_law_127 : decode cL_law 127 = .ok (.aload_n 0, 1) := by decide +kernel
theorem dL_law_128 : decode cL_law 128 = .ok (.iload 5, 2) := by decide +kernel
theorem dL_law_130 : decode cL_law 130 = .ok (.iconst 2, 1) := by decide +kernel
theorem dL_law_131 : decode cL_law 131 = .ok (.iadd, 1) := by decide +kernel
theorem dL_law_132 : decode cL_law 132 = .ok (.iaload, 1) := by decide +kernel
theorem dL_law_133 : decode cL_law 133 = .ok (.aload_n 0, 1) := by decide +kernel
theorem dL_law_134 : decode cL_law 134 = .ok (.iload 5, 2) := by decide +kernel
theorem dL_law_136 : decode cL_law 136 = .ok (.iconst 3, 1) := by decide +kernel
theorem dL_law_137 : decode cL_law 137 = .ok (.iadd, 1) := by decide +kernel
theorem dL_law_138 : decode cL_law 138 = .ok (.iaload, 1) := by decide +kernel
theorem dL_law_139 : decode cL_law 139 = .ok (.aload_n 3, 1) := by decide +kernel
theorem dL_law_140 : decode cL_law 140 = .ok (.invokestatic 71, 3) := by decide +kernel
theorem dL_law_143 : decode cL_law 143 = .ok (.istore 6, 2) := by decide +kernel
theorem dL_law_145 : decode cL_law 145 = .ok (.aload_n 2, 1) := by decide +kernel
theorem dL_law_146 : decode cL_law 146 = .ok (.aload_n 0, 1) := by decide +kernel
theorem dL_law_147 : decode cL_law 147 = .ok (.iload 5, 2) := by decide +kernel
theorem dL_law_149 : decode cL_law 149 = .ok (.iconst 1, 1) := by decide +kernel
theorem dL_law_150 : decode cL_law 150 = .ok (.iadd, 1) := by decide +kernel
theorem dL_law_151 : decode cL_law 151 = .ok (.iaload, 1) := by decide +kernel
theorem dL_law_152 : decode cL_law 152 = .ok (.aload_n 0, 1) := by decide +kernel
theorem dL_law_153 : decode cL_law 153 = .ok (.iload 5, 2) := by decide +kernel
theorem dL_law_155 : decode cL_law 155 = .ok (.iconst 2, 1) := by decide +kernel
theorem dL_law_156 : decode cL_law 156 = .ok (.iadd, 1) := by decide +kernel
theorem dL_law_157 : decode cL_law 157 = .ok (.iaload, 1) := by decide +kernel
theorem dL_law_158 : decode cL_law 158 = .ok (.aload_n 0, 1) := by decide +kernel
theorem dL_law_159 : decode cL_law 159 = .ok (.iload 5, 2) := by decide +kernel
theorem dL_law_161 : decode cL_law 161 = .ok (.iconst 3, 1) := by decide +kernel
theorem dL_law_162 : decode cL_law 162 = .ok (.iadd, 1) := by decide +kernel
theorem dL_law_163 : decode cL_law 163 = .ok (.iaload, 1) := by decide +kernel
theorem dL_law_164 : decode cL_law 164 = .ok (.invokevirtual 76, 3) := by decide +kernel
theorem dL_law_167 : decode cL_law 167 = .ok (.istore 7, 2) := by decide +kernel
theorem dL_law_169 : decode cL_law 169 = .ok (.aload_n 2, 1) := by decide +kernel
theorem dL_law_170 : decode cL_law 170 = .ok (.invokevirtual 77, 3) := by decide +kernel
theorem dL_law_173 : decode cL_law 173 = .ok (.iload 6, 2) := by decide +kernel
theorem dL_law_175 : decode cL_law 175 = .ok (.if_icmp .eq 5, 3) := by decide +kernel
theorem dL_law_178 : decode cL_law 178 = .ok (.iconst 0, 1) := by decide +kernel
theorem dL_law_179 : decode cL_law 179 = .ok (.ireturn, 1) := by decide +kernel
theorem dL_law_180 : decode cL_law 180 = .ok (.iload 6, 2) := by decide +kernel
theorem dL_law_182 : decode cL_law 182 = .ok (.ifCond .ne 15, 3) := by decide +kernel
theorem dL_law_185 : decode cL_law 185 = .ok (.aload_n 3, 1) := by decide +kernel
theorem dL_law_186 : decode cL_law 186 = .ok (.iconst 0, 1) := by decide +kernel
theorem dL_law_187 : decode cL_law 187 = .ok (.laload, 1) := by decide +kernel
theorem dL_law_188 : decode cL_law 188 = .ok (.iload 7, 2) := by decide +kernel
theorem dL_law_190 : decode cL_law 190 = .ok (.i2l, 1) := by decide +kernel
theorem dL_law_191 : decode cL_law 191 = .ok (.lcmp, 1) := by decide +kernel
theorem dL_law_192 : decode cL_law 192 = .ok (.ifCond .eq 5, 3) := by decide +kernel
theorem dL_law_195 : decode cL_law 195 = .ok (.iconst 0, 1) := by decide +kernel
theorem dL_law_196 : decode cL_law 196 = .ok (.ireturn, 1) := by decide +kernel
theorem dL_law_197 : decode cL_law 197 = .ok (.goto 889, 3) := by decide +kernel
theorem dL_law_200 : decode cL_law 200 = .ok (.aload_n 1, 1) := by decide +kernel
theorem dL_law_201 : decode cL_law 201 = .ok (.aload_n 0, 1) := by decide +kernel
theorem dL_law_202 : decode cL_law 202 = .ok (.iload 5, 2) := by decide +kernel
theorem dL_law_204 : decode cL_law 204 = .ok (.iconst 1, 1) := by decide +kernel
theorem dL_law_205 : decode cL_law 205 = .ok (.iadd, 1) := by decide +kernel
theorem dL_law_206 : decode cL_law 206 = .ok (.iaload, 1) := by decide +kernel
theorem dL_law_207 : decode cL_law 207 = .ok (.aload_n 3, 1) := by decide +kernel
theorem dL_law_208 : decode cL_law 208 = .ok (.invokestatic 80, 3) := by decide +kernel
theorem dL_law_211 : decode cL_law 211 = .ok (.istore 6, 2) := by decide +kernel
theorem dL_law_213 : decode cL_law 213 = .ok (.aload_n 2, 1) := by decide +kernel
theorem dL_law_214 : decode cL_law 214 = .ok (.aload_n 0, 1) := by decide +kernel
theorem dL_law_215 : decode cL_law 215 = .ok (.iload 5, 2) := by decide +kernel
theorem dL_law_217 : decode cL_law 217 = .ok (.iconst 1, 1) := by decide +kernel
theorem dL_law_218 : decode cL_law 218 = .ok (.iadd, 1) := by decide +kernel
theorem dL_law_219 : decode cL_law 219 = .ok (.iaload, 1) := by decide +kernel
theorem dL_law_220 : decode cL_law 220 = .ok (.invokevirtual 83, 3) := by decide +kernel
theorem dL_law_223 : decode cL_law 223 = .ok (.istore 7, 2) := by decide +kernel
theorem dL_law_225 : decode cL_law 225 = .ok (.aload_n 2, 1) := by decide +kernel
theorem dL_law_226 : decode cL_law 226 = .ok (.invokevirtual 77, 3) := by decide +kernel
theorem dL_law_229 : decode cL_law 229 = .ok (.iload 6, 2) := by decide +kernel
theorem dL_law_231 : decode cL_law 231 = .ok (.if_icmp .eq 5, 3) := by decide +kernel
theorem dL_law_234 : decode cL_law 234 = .ok (.iconst 0, 1) := by decide +kernel
theorem dL_law_235 : decode cL_law 235 = .ok (.ireturn, 1) := by decide +kernel
theorem dL_law_236 : decode cL_law 236 = .ok (.iload 6, 2) := by decide +kernel
theorem dL_law_238 : decode cL_law 238 = .ok (.ifCond .ne 15, 3) := by decide +kernel
theorem dL_law_241 : decode cL_law 241 = .ok (.aload_n 3, 1) := by decide +kernel
theorem dL_law_242 : decode cL_law 242 = .ok (.iconst 0, 1) := by decide +kernel
theorem dL_law_243 : decode cL_law 243 = .ok (.laload, 1) := by decide +kernel
theorem dL_law_244 : decode cL_law 244 = .ok (.iload 7, 2) := by decide +kernel
theorem dL_law_246 : decode cL_law 246 = .ok (.i2l, 1) := by decide +kernel
theorem dL_law_247 : decode cL_law 247 = .ok (.lcmp, 1) := by decide +kernel
theorem dL_law_248 : decode cL_law 248 = .ok (.ifCond .eq 5, 3) := by decide +kernel
theorem dL_law_251 : decode cL_law 251 = .ok (.iconst 0, 1) := by decide +kernel
theorem dL_law_252 : decode cL_law 252 = .ok (.ireturn, 1) := by decide +kernel
theorem dL_law_253 : decode cL_law 253 = .ok (.goto 833, 3) := by decide +kernel
theorem dL_law_256 : decode cL_law 256 = .ok (.aload_n 1, 1) := by decide +kernel
theorem dL_law_257 : decode cL_law 257 = .ok (.aload_n 3, 1) := by decide +kernel
theorem dL_law_258 : decode cL_law 258 = .ok (.invokestatic 84, 3) := by decide +kernel
theorem dL_law_261 : decode cL_law 261 = .ok (.istore 6, 2) := by decide +kernel
theorem dL_law_263 : decode cL_law 263 = .ok (.aload_n 2, 1) := by decide +kernel
theorem dL_law_264 : decode cL_law 264 = .ok (.invokevirtual 87, 3) := by decide +kernel
theorem dL_law_267 : decode cL_law 267 = .ok (.istore 7, 2) := by decide +kernel
theorem dL_law_269 : decode cL_law 269 = .ok (.aload_n 2, 1) := by decide +kernel
theorem dL_law_270 : decode cL_law 270 = .ok (.invokevirtual 77, 3) := by decide +kernel
theorem dL_law_273 : decode cL_law 273 = .ok (.iload 6, 2) := by decide +kernel
theorem dL_law_275 : decode cL_law 275 = .ok (.if_icmp .eq 5, 3) := by decide +kernel
theorem dL_law_278 : decode cL_law 278 = .ok (.iconst 0, 1) := by decide +kernel
theorem dL_law_279 : decode cL_law 279 = .ok (.ireturn, 1) := by decide +kernel
theorem dL_law_280 : decode cL_law 280 = .ok (.iload 6, 2) := by decide +kernel
theorem dL_law_282 : decode cL_law 282 = .ok (.ifCond .ne 15, 3) := by decide +kernel
theorem dL_law_285 : decode cL_law 285 = .ok (.aload_n 3, 1) := by decide +kernel
theorem dL_law_286 : decode cL_law 286 = .ok (.iconst 0, 1) := by decide +kernel
theorem dL_law_287 : decode cL_law 287 = .ok (.laload, 1) := by decide +kernel
theorem dL_law_288 : decode cL_law 288 = .ok (.iload 7, 2) := by decide +kernel
theorem dL_law_290 : decode cL_law 290 = .ok (.i2l, 1) := by decide +kernel
theorem dL_law_291 : decode cL_law 291 = .ok (.lcmp, 1) := by decide +kernel
theorem dL_law_292 : decode cL_law 292 = .ok (.ifCond .eq 5, 3) := by decide +kernel
theorem dL_law_295 : decode cL_law 295 = .ok (.iconst 0, 1) := by decide +kernel
theorem dL_law_296 : decode cL_law 296 = .ok (.ireturn, 1) := by decide +kernel
theorem dL_law_297 : decode cL_law 297 = .ok (.goto 789, 3) := by decide +kernel
theorem dL_law_300 : decode cL_law 300 = .ok (.aload_n 1, 1) := by decide +kernel
theorem dL_law_301 : decode cL_law 301 = .ok (.aload_n 0, 1) := by decide +kernel
theorem dL_law_302 : decode cL_law 302 = .ok (.iload 5, 2) := by decide +kernel
theorem dL_law_304 : decode cL_law 304 = .ok (.iconst 1, 1) := by decide +kernel
theorem dL_law_305 : decode cL_law 305 = .ok (.iadd, 1) := by decide +kernel
theorem dL_law_306 : decode cL_law 306 = .ok (.iaload, 1) := by decide +kernel
theorem dL_law_307 : decode cL_law 307 = .ok (.aload_n 0, 1) := by decide +kernel
theorem dL_law_308 : decode cL_law 308 = .ok (.iload 5, 2) := by decide +kernel
theorem dL_law_310 : decode cL_law 310 = .ok (.iconst 2, 1) := by decide +kernel
theorem dL_law_311 : decode cL_law 311 = .ok (.iadd, 1) := by decide +kernel
theorem dL_law_312 : decode cL_law 312 = .ok (.iaload, 1) := by decide +kernel
theorem dL_law_313 : decode cL_law 313 = .ok (.aload_n 3, 1) := by decide +kernel
theorem dL_law_314 : decode cL_law 314 = .ok (.invokestatic 88, 3) := by decide +kernel
theorem dL_law_317 : decode cL_law 317 = .ok (.istore 6, 2) := by decide +kernel
theorem dL_law_319 : decode cL_law 319 = .ok (.aload_n 2, 1) := by decide +kernel
theorem dL_law_320 : decode cL_law 320 = .ok (.aload_n 0, 1) := by decide +kernel
theorem dL_law_321 : decode cL_law 321 = .ok (.iload 5, 2) := by decide +kernel
theorem dL_law_323 : decode cL_law 323 = .ok (.iconst 1, 1) := by decide +kernel
theorem dL_law_324 : decode cL_law 324 = .ok (.iadd, 1) := by decide +kernel
theorem dL_law_325 : decode cL_law 325 = .ok (.iaload, 1) := by decide +kernel
theorem dL_law_326 : decode cL_law 326 = .ok (.aload_n 0, 1) := by decide +kernel
theorem dL_law_327 : decode cL_law 327 = .ok (.iload 5, 2) := by decide +kernel
theorem dL_law_329 : decode cL_law 329 = .ok (.iconst 2, 1) := by decide +kernel
theorem dL_law_330 : decode cL_law 330 = .ok (.iadd, 1) := by decide +kernel
theorem dL_law_331 : decode cL_law 331 = .ok (.iaload, 1) := by decide +kernel
theorem dL_law_332 : decode cL_law 332 = .ok (.invokevirtual 91, 3) := by decide +kernel
theorem dL_law_335 : decode cL_law 335 = .ok (.istore 7, 2) := by decide +kernel
theorem dL_law_337 : decode cL_law 337 = .ok (.aload_n 2, 1) := by decide +kernel
theorem dL_law_338 : decode cL_law 338 = .ok (.invokevirtual 77, 3) := by decide +kernel
theorem dL_law_341 : decode cL_law 341 = .ok (.iload 6, 2) := by decide +kernel
theorem dL_law_343 : decode cL_law 343 = .ok (.if_icmp .eq 5, 3) := by decide +kernel
theorem dL_law_346 : decode cL_law 346 = .ok (.iconst 0, 1) := by decide +kernel
theorem dL_law_347 : decode cL_law 347 = .ok (.ireturn, 1) := by decide +kernel
theorem dL_law_348 : decode cL_law 348 = .ok (.iload 6, 2) := by decide +kernel
theorem dL_law_350 : decode cL_law 350 = .ok (.ifCond .ne 15, 3) := by decide +kernel
theorem dL_law_353 : decode cL_law 353 = .ok (.aload_n 3, 1) := by decide +kernel
theorem dL_law_354 : decode cL_law 354 = .ok (.iconst 0, 1) := by decide +kernel
theorem dL_law_355 : decode cL_law 355 = .ok (.laload, 1) := by decide +kernel
theorem dL_law_356 : decode cL_law 356 = .ok (.iload 7, 2) := by decide +kernel
theorem dL_law_358 : decode cL_law 358 = .ok (.i2l, 1) := by decide +kernel
theorem dL_law_359 : decode cL_law 359 = .ok (.lcmp, 1) := by decide +kernel
theorem dL_law_360 : decode cL_law 360 = .ok (.ifCond .eq 5, 3) := by decide +kernel
theorem dL_law_363 : decode cL_law 363 = .ok (.iconst 0, 1) := by decide +kernel
theorem dL_law_364 : decode cL_law 364 = .ok (.ireturn, 1) := by decide +kernel
theorem dL_law_365 : decode cL_law 365 = .ok (.goto 721, 3) := by decide +kernel
theorem dL_law_368 : decode cL_law 368 = .ok (.aload_n 1, 1) := by decide +kernel
theorem dL_law_369 : decode cL_law 369 = .ok (.aload_n 0, 1) := by decide +kernel
theorem dL_law_370 : decode cL_law 370 = .ok (.iload 5, 2) := by decide +kernel
theorem dL_law_372 : decode cL_law 372 = .ok (.iconst 1, 1) := by decide +kernel
theorem dL_law_373 : decode cL_law 373 = .ok (.iadd, 1) := by decide +kernel
theorem dL_law_374 : decode cL_law 374 = .ok (.iaload, 1) := by decide +kernel
theorem dL_law_375 : decode cL_law 375 = .ok (.aload_n 0, 1) := by decide +kernel
theorem dL_law_376 : decode cL_law 376 = .ok (.iload 5, 2) := by decide +kernel
theorem dL_law_378 : decode cL_law 378 = .ok (.iconst 2, 1) := by decide +kernel
theorem dL_law_379 : decode cL_law 379 = .ok (.iadd, 1) := by decide +kernel
theorem dL_law_380 : decode cL_law 380 = .ok (.iaload, 1) := by decide +kernel
theorem dL_law_381 : decode cL_law 381 = .ok (.aload_n 3, 1) := by decide +kernel
theorem dL_law_382 : decode cL_law 382 = .ok (.invokestatic 92, 3) := by decide +kernel
theorem dL_law_385 : decode cL_law 385 = .ok (.istore 6, 2) := by decide +kernel
theorem dL_law_387 : decode cL_law 387 = .ok (.aload_n 2, 1) := by decide +kernel
theorem dL_law_388 : decode cL_law 388 = .ok (.aload_n 0, 1) := by decide +kernel
theorem dL_law_389 : decode cL_law 389 = .ok (.iload 5, 2) := by decide +kernel
theorem dL_law_391 : decode cL_law 391 = .ok (.iconst 1, 1) := by decide +kernel
theorem dL_law_392 : decode cL_law 392 = .ok (.iadd, 1) := by decide +kernel
theorem dL_law_393 : decode cL_law 393 = .ok (.iaload, 1) := by decide +kernel
theorem dL_law_394 : decode cL_law 394 = .ok (.aload_n 0, 1) := by decide +kernel
theorem dL_law_395 : decode cL_law 395 = .ok (.iload 5, 2) := by decide +kernel
theorem dL_law_397 : decode cL_law 397 = .ok (.iconst 2, 1) := by decide +kernel
theorem dL_law_398 : decode cL_law 398 = .ok (.iadd, 1) := by decide +kernel
theorem dL_law_399 : decode cL_law 399 = .ok (.iaload, 1) := by decide +kernel
theorem dL_law_400 : decode cL_law 400 = .ok (.invokevirtual 94, 3) := by decide +kernel
theorem dL_law_403 : decode cL_law 403 = .ok (.istore 7, 2) := by decide +kernel
theorem dL_law_405 : decode cL_law 405 = .ok (.aload_n 2, 1) := by decide +kernel
theorem dL_law_406 : decode cL_law 406 = .ok (.invokevirtual 77, 3) := by decide +kernel
theorem dL_law_409 : decode cL_law 409 = .ok (.iload 6, 2) := by decide +kernel
theorem dL_law_411 : decode cL_law 411 = .ok (.if_icmp .eq 5, 3) := by decide +kernel
theorem dL_law_414 : decode cL_law 414 = .ok (.iconst 0, 1) := by decide +kernel
theorem dL_law_415 : decode cL_law 415 = .ok (.ireturn, 1) := by decide +kernel
theorem dL_law_416 : decode cL_law 416 = .ok (.iload 6, 2) := by decide +kernel
theorem dL_law_418 : decode cL_law 418 = .ok (.ifCond .ne 15, 3) := by decide +kernel
theorem dL_law_421 : decode cL_law 421 = .ok (.aload_n 3, 1) := by decide +kernel
theorem dL_law_422 : decode cL_law 422 = .ok (.iconst 0, 1) := by decide +kernel
theorem dL_law_423 : decode cL_law 423 = .ok (.laload, 1) := by decide +kernel
theorem dL_law_424 : decode cL_law 424 = .ok (.iload 7, 2) := by decide +kernel
theorem dL_law_426 : decode cL_law 426 = .ok (.i2l, 1) := by decide +kernel
theorem dL_law_427 : decode cL_law 427 = .ok (.lcmp, 1) := by decide +kernel
theorem dL_law_428 : decode cL_law 428 = .ok (.ifCond .eq 5, 3) := by decide +kernel
theorem dL_law_431 : decode cL_law 431 = .ok (.iconst 0, 1) := by decide +kernel
theorem dL_law_432 : decode cL_law 432 = .ok (.ireturn, 1) := by decide +kernel
theorem dL_law_433 : decode cL_law 433 = .ok (.goto 653, 3) := by decide +kernel
theorem dL_law_436 : decode cL_law 436 = .ok (.aload_n 1, 1) := by decide +kernel
theorem dL_law_437 : decode cL_law 437 = .ok (.aload_n 0, 1) := by decide +kernel
theorem dL_law_438 : decode cL_law 438 = .ok (.iload 5, 2) := by decide +kernel
theorem dL_law_440 : decode cL_law 440 = .ok (.iconst 1, 1) := by decide +kernel
theorem dL_law_441 : decode cL_law 441 = .ok (.iadd, 1) := by decide +kernel
theorem dL_law_442 : decode cL_law 442 = .ok (.iaload, 1) := by decide +kernel
theorem dL_law_443 : decode cL_law 443 = .ok (.aload_n 3, 1) := by decide +kernel
theorem dL_law_444 : decode cL_law 444 = .ok (.invokestatic 95, 3) := by decide +kernel
theorem dL_law_447 : decode cL_law 447 = .ok (.istore 6, 2) := by decide +kernel
theorem dL_law_449 : decode cL_law 449 = .ok (.aload_n 2, 1) := by decide +kernel
theorem dL_law_450 : decode cL_law 450 = .ok (.aload_n 0, 1) := by decide +kernel
theorem dL_law_451 : decode cL_law 451 = .ok (.iload 5, 2) := by decide +kernel
theorem dL_law_453 : decode cL_law 453 = .ok (.iconst 1, 1) := by decide +kernel
theorem dL_law_454 : decode cL_law 454 = .ok (.iadd, 1) := by decide +kernel
theorem dL_law_455 : decode cL_law 455 = .ok (.iaload, 1) := by decide +kernel
theorem dL_law_456 : decode cL_law 456 = .ok (.invokevirtual 97, 3) := by decide +kernel
theorem dL_law_459 : decode cL_law 459 = .ok (.lstore 7, 2) := by decide +kernel
theorem dL_law_461 : decode cL_law 461 = .ok (.aload_n 2, 1) := by decide +kernel
theorem dL_law_462 : decode cL_law 462 = .ok (.invokevirtual 77, 3) := by decide +kernel
theorem dL_law_465 : decode cL_law 465 = .ok (.iload 6, 2) := by decide +kernel
theorem dL_law_467 : decode cL_law 467 = .ok (.if_icmp .eq 5, 3) := by decide +kernel
theorem dL_law_470 : decode cL_law 470 = .ok (.iconst 0, 1) := by decide +kernel
theorem dL_law_471 : decode cL_law 471 = .ok (.ireturn, 1) := by decide +kernel
theorem dL_law_472 : decode cL_law 472 = .ok (.iload 6, 2) := by decide +kernel
theorem dL_law_474 : decode cL_law 474 = .ok (.ifCond .ne 14, 3) := by decide +kernel
theorem dL_law_477 : decode cL_law 477 = .ok (.aload_n 3, 1) := by decide +kernel
theorem dL_law_478 : decode cL_law 478 = .ok (.iconst 0, 1) := by decide +kernel
theorem dL_law_479 : decode cL_law 479 = .ok (.laload, 1) := by decide +kernel
theorem dL_law_480 : decode cL_law 480 = .ok (.lload 7, 2) := by decide +kernel
theorem dL_law_482 : decode cL_law 482 = .ok (.lcmp, 1) := by decide +kernel
theorem dL_law_483 : decode cL_law 483 = .ok (.ifCond .eq 5, 3) := by decide +kernel
theorem dL_law_486 : decode cL_law 486 = .ok (.iconst 0, 1) := by decide +kernel
theorem dL_law_487 : decode cL_law 487 = .ok (.ireturn, 1) := by decide +kernel
theorem dL_law_488 : decode cL_law 488 = .ok (.goto 598, 3) := by decide +kernel
theorem dL_law_491 : decode cL_law 491 = .ok (.aload_n 1, 1) := by decide +kernel
theorem dL_law_492 : decode cL_law 492 = .ok (.aload_n 0, 1) := by decide +kernel
theorem dL_law_493 : decode cL_law 493 = .ok (.iload 5, 2) := by decide +kernel
theorem dL_law_495 : decode cL_law 495 = .ok (.iconst 1, 1) := by decide +kernel
theorem dL_law_496 : decode cL_law 496 = .ok (.iadd, 1) := by decide +kernel
theorem dL_law_497 : decode cL_law 497 = .ok (.iaload, 1) := by decide +kernel
theorem dL_law_498 : decode cL_law 498 = .ok (.aload_n 0, 1) := by decide +kernel
theorem dL_law_499 : decode cL_law 499 = .ok (.iload 5, 2) := by decide +kernel
theorem dL_law_501 : decode cL_law 501 = .ok (.iconst 2, 1) := by decide +kernel
theorem dL_law_502 : decode cL_law 502 = .ok (.iadd, 1) := by decide +kernel
theorem dL_law_503 : decode cL_law 503 = .ok (.iaload, 1) := by decide +kernel
theorem dL_law_504 : decode cL_law 504 = .ok (.aload_n 3, 1) := by decide +kernel
theorem dL_law_505 : decode cL_law 505 = .ok (.invokestatic 98, 3) := by decide +kernel
theorem dL_law_508 : decode cL_law 508 = .ok (.istore 6, 2) := by decide +kernel
theorem dL_law_510 : decode cL_law 510 = .ok (.aload_n 2, 1) := by decide +kernel
theorem dL_law_511 : decode cL_law 511 = .ok (.aload_n 0, 1) := by decide +kernel
theorem dL_law_512 : decode cL_law 512 = .ok (.iload 5, 2) := by decide +kernel
theorem dL_law_514 : decode cL_law 514 = .ok (.iconst 1, 1) := by decide +kernel
theorem dL_law_515 : decode cL_law 515 = .ok (.iadd, 1) := by decide +kernel
theorem dL_law_516 : decode cL_law 516 = .ok (.iaload, 1) := by decide +kernel
theorem dL_law_517 : decode cL_law 517 = .ok (.aload_n 0, 1) := by decide +kernel
theorem dL_law_518 : decode cL_law 518 = .ok (.iload 5, 2) := by decide +kernel
theorem dL_law_520 : decode cL_law 520 = .ok (.iconst 2, 1) := by decide +kernel
theorem dL_law_521 : decode cL_law 521 = .ok (.iadd, 1) := by decide +kernel
theorem dL_law_522 : decode cL_law 522 = .ok (.iaload, 1) := by decide +kernel
theorem dL_law_523 : decode cL_law 523 = .ok (.invokevirtual 100, 3) := by decide +kernel
theorem dL_law_526 : decode cL_law 526 = .ok (.istore 7, 2) := by decide +kernel
theorem dL_law_528 : decode cL_law 528 = .ok (.aload_n 2, 1) := by decide +kernel
theorem dL_law_529 : decode cL_law 529 = .ok (.invokevirtual 77, 3) := by decide +kernel
theorem dL_law_532 : decode cL_law 532 = .ok (.iload 6, 2) := by decide +kernel
theorem dL_law_534 : decode cL_law 534 = .ok (.if_icmp .eq 5, 3) := by decide +kernel
theorem dL_law_537 : decode cL_law 537 = .ok (.iconst 0, 1) := by decide +kernel
theorem dL_law_538 : decode cL_law 538 = .ok (.ireturn, 1) := by decide +kernel
theorem dL_law_539 : decode cL_law 539 = .ok (.iload 6, 2) := by decide +kernel
theorem dL_law_541 : decode cL_law 541 = .ok (.ifCond .ne 15, 3) := by decide +kernel
theorem dL_law_544 : decode cL_law 544 = .ok (.aload_n 3, 1) := by decide +kernel
theorem dL_law_545 : decode cL_law 545 = .ok (.iconst 0, 1) := by decide +kernel
theorem dL_law_546 : decode cL_law 546 = .ok (.laload, 1) := by decide +kernel
theorem dL_law_547 : decode cL_law 547 = .ok (.iload 7, 2) := by decide +kernel
theorem dL_law_549 : decode cL_law 549 = .ok (.i2l, 1) := by decide +kernel
theorem dL_law_550 : decode cL_law 550 = .ok (.lcmp, 1) := by decide +kernel
theorem dL_law_551 : decode cL_law 551 = .ok (.ifCond .eq 5, 3) := by decide +kernel
theorem dL_law_554 : decode cL_law 554 = .ok (.iconst 0, 1) := by decide +kernel
theorem dL_law_555 : decode cL_law 555 = .ok (.ireturn, 1) := by decide +kernel
theorem dL_law_556 : decode cL_law 556 = .ok (.goto 530, 3) := by decide +kernel
theorem dL_law_559 : decode cL_law 559 = .ok (.aload_n 1, 1) := by decide +kernel
theorem dL_law_560 : decode cL_law 560 = .ok (.aload_n 0, 1) := by decide +kernel
theorem dL_law_561 : decode cL_law 561 = .ok (.iload 5, 2) := by decide +kernel
theorem dL_law_563 : decode cL_law 563 = .ok (.iconst 1, 1) := by decide +kernel
theorem dL_law_564 : decode cL_law 564 = .ok (.iadd, 1) := by decide +kernel
theorem dL_law_565 : decode cL_law 565 = .ok (.iaload, 1) := by decide +kernel
theorem dL_law_566 : decode cL_law 566 = .ok (.aload_n 0, 1) := by decide +kernel
theorem dL_law_567 : decode cL_law 567 = .ok (.iload 5, 2) := by decide +kernel
theorem dL_law_569 : decode cL_law 569 = .ok (.iconst 2, 1) := by decide +kernel
theorem dL_law_570 : decode cL_law 570 = .ok (.iadd, 1) := by decide +kernel
theorem dL_law_571 : decode cL_law 571 = .ok (.iaload, 1) := by decide +kernel
theorem dL_law_572 : decode cL_law 572 = .ok (.aload_n 3, 1) := by decide +kernel
theorem dL_law_573 : decode cL_law 573 = .ok (.invokestatic 101, 3) := by decide +kernel
theorem dL_law_576 : decode cL_law 576 = .ok (.istore 6, 2) := by decide +kernel
theorem dL_law_578 : decode cL_law 578 = .ok (.aload_n 2, 1) := by decide +kernel
theorem dL_law_579 : decode cL_law 579 = .ok (.aload_n 0, 1) := by decide +kernel
theorem dL_law_580 : decode cL_law 580 = .ok (.iload 5, 2) := by decide +kernel
theorem dL_law_582 : decode cL_law 582 = .ok (.iconst 1, 1) := by decide +kernel
theorem dL_law_583 : decode cL_law 583 = .ok (.iadd, 1) := by decide +kernel
theorem dL_law_584 : decode cL_law 584 = .ok (.iaload, 1) := by decide +kernel
theorem dL_law_585 : decode cL_law 585 = .ok (.aload_n 0, 1) := by decide +kernel
theorem dL_law_586 : decode cL_law 586 = .ok (.iload 5, 2) := by decide +kernel
theorem dL_law_588 : decode cL_law 588 = .ok (.iconst 2, 1) := by decide +kernel
theorem dL_law_589 : decode cL_law 589 = .ok (.iadd, 1) := by decide +kernel
theorem dL_law_590 : decode cL_law 590 = .ok (.iaload, 1) := by decide +kernel
theorem dL_law_591 : decode cL_law 591 = .ok (.invokevirtual 103, 3) := by decide +kernel
theorem dL_law_594 : decode cL_law 594 = .ok (.istore 7, 2) := by decide +kernel
theorem dL_law_596 : decode cL_law 596 = .ok (.aload_n 2, 1) := by decide +kernel
theorem dL_law_597 : decode cL_law 597 = .ok (.invokevirtual 77, 3) := by decide +kernel
theorem dL_law_600 : decode cL_law 600 = .ok (.iload 6, 2) := by decide +kernel
theorem dL_law_602 : decode cL_law 602 = .ok (.if_icmp .eq 5, 3) := by decide +kernel
theorem dL_law_605 : decode cL_law 605 = .ok (.iconst 0, 1) := by decide +kernel
theorem dL_law_606 : decode cL_law 606 = .ok (.ireturn, 1) := by decide +kernel
theorem dL_law_607 : decode cL_law 607 = .ok (.iload 6, 2) := by decide +kernel
theorem dL_law_609 : decode cL_law 609 = .ok (.ifCond .ne 15, 3) := by decide +kernel
theorem dL_law_612 : decode cL_law 612 = .ok (.aload_n 3, 1) := by decide +kernel
theorem dL_law_613 : decode cL_law 613 = .ok (.iconst 0, 1) := by decide +kernel
theorem dL_law_614 : decode cL_law 614 = .ok (.laload, 1) := by decide +kernel
theorem dL_law_615 : decode cL_law 615 = .ok (.iload 7, 2) := by decide +kernel
theorem dL_law_617 : decode cL_law 617 = .ok (.i2l, 1) := by decide +kernel
theorem dL_law_618 : decode cL_law 618 = .ok (.lcmp, 1) := by decide +kernel
theorem dL_law_619 : decode cL_law 619 = .ok (.ifCond .eq 5, 3) := by decide +kernel
theorem dL_law_622 : decode cL_law 622 = .ok (.iconst 0, 1) := by decide +kernel
theorem dL_law_623 : decode cL_law 623 = .ok (.ireturn, 1) := by decide +kernel
theorem dL_law_624 : decode cL_law 624 = .ok (.goto 462, 3) := by decide +kernel
theorem dL_law_627 : decode cL_law 627 = .ok (.aload_n 1, 1) := by decide +kernel
theorem dL_law_628 : decode cL_law 628 = .ok (.aload_n 0, 1) := by decide +kernel
theorem dL_law_629 : decode cL_law 629 = .ok (.iload 5, 2) := by decide +kernel
theorem dL_law_631 : decode cL_law 631 = .ok (.iconst 1, 1) := by decide +kernel
theorem dL_law_632 : decode cL_law 632 = .ok (.iadd, 1) := by decide +kernel
theorem dL_law_633 : decode cL_law 633 = .ok (.iaload, 1) := by decide +kernel
theorem dL_law_634 : decode cL_law 634 = .ok (.aload_n 0, 1) := by decide +kernel
theorem dL_law_635 : decode cL_law 635 = .ok (.iload 5, 2) := by decide +kernel
theorem dL_law_637 : decode cL_law 637 = .ok (.iconst 2, 1) := by decide +kernel
theorem dL_law_638 : decode cL_law 638 = .ok (.iadd, 1) := by decide +kernel
theorem dL_law_639 : decode cL_law 639 = .ok (.iaload, 1) := by decide +kernel
theorem dL_law_640 : decode cL_law 640 = .ok (.aload_n 0, 1) := by decide +kernel
theorem dL_law_641 : decode cL_law 641 = .ok (.iload 5, 2) := by decide +kernel
theorem dL_law_643 : decode cL_law 643 = .ok (.iconst 3, 1) := by decide +kernel
theorem dL_law_644 : decode cL_law 644 = .ok (.iadd, 1) := by decide +kernel
theorem dL_law_645 : decode cL_law 645 = .ok (.iaload, 1) := by decide +kernel
theorem dL_law_646 : decode cL_law 646 = .ok (.aload_n 3, 1) := by decide +kernel
theorem dL_law_647 : decode cL_law 647 = .ok (.invokestatic 104, 3) := by decide +kernel
theorem dL_law_650 : decode cL_law 650 = .ok (.istore 6, 2) := by decide +kernel
theorem dL_law_652 : decode cL_law 652 = .ok (.aload_n 2, 1) := by decide +kernel
theorem dL_law_653 : decode cL_law 653 = .ok (.aload_n 0, 1) := by decide +kernel
theorem dL_law_654 : decode cL_law 654 = .ok (.iload 5, 2) := by decide +kernel
theorem dL_law_656 : decode cL_law 656 = .ok (.iconst 1, 1) := by decide +kernel
theorem dL_law_657 : decode cL_law 657 = .ok (.iadd, 1) := by decide +kernel
theorem dL_law_658 : decode cL_law 658 = .ok (.iaload, 1) := by decide +kernel
theorem dL_law_659 : decode cL_law 659 = .ok (.aload_n 0, 1) := by decide +kernel
theorem dL_law_660 : decode cL_law 660 = .ok (.iload 5, 2) := by decide +kernel
theorem dL_law_662 : decode cL_law 662 = .ok (.iconst 2, 1) := by decide +kernel
theorem dL_law_663 : decode cL_law 663 = .ok (.iadd, 1) := by decide +kernel
theorem dL_law_664 : decode cL_law 664 = .ok (.iaload, 1) := by decide +kernel
theorem dL_law_665 : decode cL_law 665 = .ok (.aload_n 0, 1) := by decide +kernel
theorem dL_law_666 : decode cL_law 666 = .ok (.iload 5, 2) := by decide +kernel
theorem dL_law_668 : decode cL_law 668 = .ok (.iconst 3, 1) := by decide +kernel
theorem dL_law_669 : decode cL_law 669 = .ok (.iadd, 1) := by decide +kernel
theorem dL_law_670 : decode cL_law 670 = .ok (.iaload, 1) := by decide +kernel
theorem dL_law_671 : decode cL_law 671 = .ok (.invokevirtual 106, 3) := by decide +kernel
theorem dL_law_674 : decode cL_law 674 = .ok (.istore 7, 2) := by decide +kernel
theorem dL_law_676 : decode cL_law 676 = .ok (.aload_n 2, 1) := by decide +kernel
theorem dL_law_677 : decode cL_law 677 = .ok (.invokevirtual 77, 3) := by decide +kernel
theorem dL_law_680 : decode cL_law 680 = .ok (.iload 6, 2) := by decide +kernel
theorem dL_law_682 : decode cL_law 682 = .ok (.if_icmp .eq 5, 3) := by decide +kernel
theorem dL_law_685 : decode cL_law 685 = .ok (.iconst 0, 1) := by decide +kernel
theorem dL_law_686 : decode cL_law 686 = .ok (.ireturn, 1) := by decide +kernel
theorem dL_law_687 : decode cL_law 687 = .ok (.iload 6, 2) := by decide +kernel
theorem dL_law_689 : decode cL_law 689 = .ok (.ifCond .ne 15, 3) := by decide +kernel
theorem dL_law_692 : decode cL_law 692 = .ok (.aload_n 3, 1) := by decide +kernel
theorem dL_law_693 : decode cL_law 693 = .ok (.iconst 0, 1) := by decide +kernel
theorem dL_law_694 : decode cL_law 694 = .ok (.laload, 1) := by decide +kernel
theorem dL_law_695 : decode cL_law 695 = .ok (.iload 7, 2) := by decide +kernel
theorem dL_law_697 : decode cL_law 697 = .ok (.i2l, 1) := by decide +kernel
theorem dL_law_698 : decode cL_law 698 = .ok (.lcmp, 1) := by decide +kernel
theorem dL_law_699 : decode cL_law 699 = .ok (.ifCond .eq 5, 3) := by decide +kernel
theorem dL_law_702 : decode cL_law 702 = .ok (.iconst 0, 1) := by decide +kernel
theorem dL_law_703 : decode cL_law 703 = .ok (.ireturn, 1) := by decide +kernel
theorem dL_law_704 : decode cL_law 704 = .ok (.goto 382, 3) := by decide +kernel
theorem dL_law_707 : decode cL_law 707 = .ok (.aload_n 1, 1) := by decide +kernel
theorem dL_law_708 : decode cL_law 708 = .ok (.aload_n 0, 1) := by decide +kernel
theorem dL_law_709 : decode cL_law 709 = .ok (.iload 5, 2) := by decide +kernel
theorem dL_law_711 : decode cL_law 711 = .ok (.iconst 1, 1) := by decide +kernel
theorem dL_law_712 : decode cL_law 712 = .ok (.iadd, 1) := by decide +kernel
theorem dL_law_713 : decode cL_law 713 = .ok (.iaload, 1) := by decide +kernel
theorem dL_law_714 : decode cL_law 714 = .ok (.aload_n 0, 1) := by decide +kernel
theorem dL_law_715 : decode cL_law 715 = .ok (.iload 5, 2) := by decide +kernel
theorem dL_law_717 : decode cL_law 717 = .ok (.iconst 2, 1) := by decide +kernel
theorem dL_law_718 : decode cL_law 718 = .ok (.iadd, 1) := by decide +kernel
theorem dL_law_719 : decode cL_law 719 = .ok (.iaload, 1) := by decide +kernel
theorem dL_law_720 : decode cL_law 720 = .ok (.aload_n 3, 1) := by decide +kernel
theorem dL_law_721 : decode cL_law 721 = .ok (.invokestatic 107, 3) := by decide +kernel
theorem dL_law_724 : decode cL_law 724 = .ok (.istore 6, 2) := by decide +kernel
theorem dL_law_726 : decode cL_law 726 = .ok (.aload_n 2, 1) := by decide +kernel
theorem dL_law_727 : decode cL_law 727 = .ok (.aload_n 0, 1) := by decide +kernel
theorem dL_law_728 : decode cL_law 728 = .ok (.iload 5, 2) := by decide +kernel
theorem dL_law_730 : decode cL_law 730 = .ok (.iconst 1, 1) := by decide +kernel
theorem dL_law_731 : decode cL_law 731 = .ok (.iadd, 1) := by decide +kernel
theorem dL_law_732 : decode cL_law 732 = .ok (.iaload, 1) := by decide +kernel
theorem dL_law_733 : decode cL_law 733 = .ok (.aload_n 0, 1) := by decide +kernel
theorem dL_law_734 : decode cL_law 734 = .ok (.iload 5, 2) := by decide +kernel
theorem dL_law_736 : decode cL_law 736 = .ok (.iconst 2, 1) := by decide +kernel
theorem dL_law_737 : decode cL_law 737 = .ok (.iadd, 1) := by decide +kernel
theorem dL_law_738 : decode cL_law 738 = .ok (.iaload, 1) := by decide +kernel
theorem dL_law_739 : decode cL_law 739 = .ok (.invokevirtual 109, 3) := by decide +kernel
theorem dL_law_742 : decode cL_law 742 = .ok (.istore 7, 2) := by decide +kernel
theorem dL_law_744 : decode cL_law 744 = .ok (.aload_n 2, 1) := by decide +kernel
theorem dL_law_745 : decode cL_law 745 = .ok (.invokevirtual 77, 3) := by decide +kernel
theorem dL_law_748 : decode cL_law 748 = .ok (.iload 6, 2) := by decide +kernel
theorem dL_law_750 : decode cL_law 750 = .ok (.if_icmp .eq 5, 3) := by decide +kernel
theorem dL_law_753 : decode cL_law 753 = .ok (.iconst 0, 1) := by decide +kernel
theorem dL_law_754 : decode cL_law 754 = .ok (.ireturn, 1) := by decide +kernel
theorem dL_law_755 : decode cL_law 755 = .ok (.iload 6, 2) := by decide +kernel
theorem dL_law_757 : decode cL_law 757 = .ok (.ifCond .ne 15, 3) := by decide +kernel
theorem dL_law_760 : decode cL_law 760 = .ok (.aload_n 3, 1) := by decide +kernel
theorem dL_law_761 : decode cL_law 761 = .ok (.iconst 0, 1) := by decide +kernel
theorem dL_law_762 : decode cL_law 762 = .ok (.laload, 1) := by decide +kernel
theorem dL_law_763 : decode cL_law 763 = .ok (.iload 7, 2) := by decide +kernel
theorem dL_law_765 : decode cL_law 765 = .ok (.i2l, 1) := by decide +kernel
theorem dL_law_766 : decode cL_law 766 = .ok (.lcmp, 1) := by decide +kernel
theorem dL_law_767 : decode cL_law 767 = .ok (.ifCond .eq 5, 3) := by decide +kernel
theorem dL_law_770 : decode cL_law 770 = .ok (.iconst 0, 1) := by decide +kernel
theorem dL_law_771 : decode cL_law 771 = .ok (.ireturn, 1) := by decide +kernel
theorem dL_law_772 : decode cL_law 772 = .ok (.goto 314, 3) := by decide +kernel
theorem dL_law_775 : decode cL_law 775 = .ok (.aload_n 1, 1) := by decide +kernel
theorem dL_law_776 : decode cL_law 776 = .ok (.aload_n 0, 1) := by decide +kernel
theorem dL_law_777 : decode cL_law 777 = .ok (.iload 5, 2) := by decide +kernel
theorem dL_law_779 : decode cL_law 779 = .ok (.iconst 1, 1) := by decide +kernel
theorem dL_law_780 : decode cL_law 780 = .ok (.iadd, 1) := by decide +kernel
theorem dL_law_781 : decode cL_law 781 = .ok (.iaload, 1) := by decide +kernel
theorem dL_law_782 : decode cL_law 782 = .ok (.aload_n 0, 1) := by decide +kernel
theorem dL_law_783 : decode cL_law 783 = .ok (.iload 5, 2) := by decide +kernel
theorem dL_law_785 : decode cL_law 785 = .ok (.iconst 2, 1) := by decide +kernel
theorem dL_law_786 : decode cL_law 786 = .ok (.iadd, 1) := by decide +kernel
theorem dL_law_787 : decode cL_law 787 = .ok (.iaload, 1) := by decide +kernel
theorem dL_law_788 : decode cL_law 788 = .ok (.aload_n 0, 1) := by decide +kernel
theorem dL_law_789 : decode cL_law 789 = .ok (.iload 5, 2) := by decide +kernel
theorem dL_law_791 : decode cL_law 791 = .ok (.iconst 3, 1) := by decide +kernel
theorem dL_law_792 : decode cL_law 792 = .ok (.iadd, 1) := by decide +kernel
theorem dL_law_793 : decode cL_law 793 = .ok (.iaload, 1) := by decide +kernel
theorem dL_law_794 : decode cL_law 794 = .ok (.aload_n 3, 1) := by decide +kernel
theorem dL_law_795 : decode cL_law 795 = .ok (.invokestatic 110, 3) := by decide +kernel
theorem dL_law_798 : decode cL_law 798 = .ok (.istore 6, 2) := by decide +kernel
theorem dL_law_800 : decode cL_law 800 = .ok (.aload_n 2, 1) := by decide +kernel
theorem dL_law_801 : decode cL_law 801 = .ok (.aload_n 0, 1) := by decide +kernel
theorem dL_law_802 : decode cL_law 802 = .ok (.iload 5, 2) := by decide +kernel
theorem dL_law_804 : decode cL_law 804 = .ok (.iconst 1, 1) := by decide +kernel
theorem dL_law_805 : decode cL_law 805 = .ok (.iadd, 1) := by decide +kernel
theorem dL_law_806 : decode cL_law 806 = .ok (.iaload, 1) := by decide +kernel
theorem dL_law_807 : decode cL_law 807 = .ok (.aload_n 0, 1) := by decide +kernel
theorem dL_law_808 : decode cL_law 808 = .ok (.iload 5, 2) := by decide +kernel
theorem dL_law_810 : decode cL_law 810 = .ok (.iconst 2, 1) := by decide +kernel
theorem dL_law_811 : decode cL_law 811 = .ok (.iadd, 1) := by decide +kernel
theorem dL_law_812 : decode cL_law 812 = .ok (.iaload, 1) := by decide +kernel
theorem dL_law_813 : decode cL_law 813 = .ok (.aload_n 0, 1) := by decide +kernel
theorem dL_law_814 : decode cL_law 814 = .ok (.iload 5, 2) := by decide +kernel
theorem dL_law_816 : decode cL_law 816 = .ok (.iconst 3, 1) := by decide +kernel
theorem dL_law_817 : decode cL_law 817 = .ok (.iadd, 1) := by decide +kernel
theorem dL_law_818 : decode cL_law 818 = .ok (.iaload, 1) := by decide +kernel
theorem dL_law_819 : decode cL_law 819 = .ok (.invokevirtual 112, 3) := by decide +kernel
theorem dL_law_822 : decode cL_law 822 = .ok (.istore 7, 2) := by decide +kernel
theorem dL_law_824 : decode cL_law 824 = .ok (.aload_n 2, 1) := by decide +kernel
theorem dL_law_825 : decode cL_law 825 = .ok (.invokevirtual 77, 3) := by decide +kernel
theorem dL_law_828 : decode cL_law 828 = .ok (.iload 6, 2) := by decide +kernel
theorem dL_law_830 : decode cL_law 830 = .ok (.if_icmp .eq 5, 3) := by decide +kernel
theorem dL_law_833 : decode cL_law 833 = .ok (.iconst 0, 1) := by decide +kernel
theorem dL_law_834 : decode cL_law 834 = .ok (.ireturn, 1) := by decide +kernel
theorem dL_law_835 : decode cL_law 835 = .ok (.iload 6, 2) := by decide +kernel
theorem dL_law_837 : decode cL_law 837 = .ok (.ifCond .ne 15, 3) := by decide +kernel
theorem dL_law_840 : decode cL_law 840 = .ok (.aload_n 3, 1) := by decide +kernel
theorem dL_law_841 : decode cL_law 841 = .ok (.iconst 0, 1) := by decide +kernel
theorem dL_law_842 : decode cL_law 842 = .ok (.laload, 1) := by decide +kernel
theorem dL_law_843 : decode cL_law 843 = .ok (.iload 7, 2) := by decide +kernel
theorem dL_law_845 : decode cL_law 845 = .ok (.i2l, 1) := by decide +kernel
theorem dL_law_846 : decode cL_law 846 = .ok (.lcmp, 1) := by decide +kernel
theorem dL_law_847 : decode cL_law 847 = .ok (.ifCond .eq 5, 3) := by decide +kernel
theorem dL_law_850 : decode cL_law 850 = .ok (.iconst 0, 1) := by decide +kernel
theorem dL_law_851 : decode cL_law 851 = .ok (.ireturn, 1) := by decide +kernel
theorem dL_law_852 : decode cL_law 852 = .ok (.goto 234, 3) := by decide +kernel
theorem dL_law_855 : decode cL_law 855 = .ok (.aload_n 1, 1) := by decide +kernel
theorem dL_law_856 : decode cL_law 856 = .ok (.aload_n 3, 1) := by decide +kernel
theorem dL_law_857 : decode cL_law 857 = .ok (.invokestatic 113, 3) := by decide +kernel
theorem dL_law_860 : decode cL_law 860 = .ok (.istore 6, 2) := by decide +kernel
theorem dL_law_862 : decode cL_law 862 = .ok (.aload_n 2, 1) := by decide +kernel
theorem dL_law_863 : decode cL_law 863 = .ok (.invokevirtual 115, 3) := by decide +kernel
theorem dL_law_866 : decode cL_law 866 = .ok (.lstore 7, 2) := by decide +kernel
theorem dL_law_868 : decode cL_law 868 = .ok (.aload_n 2, 1) := by decide +kernel
theorem dL_law_869 : decode cL_law 869 = .ok (.invokevirtual 77, 3) := by decide +kernel
theorem dL_law_872 : decode cL_law 872 = .ok (.iload 6, 2) := by decide +kernel
theorem dL_law_874 : decode cL_law 874 = .ok (.if_icmp .eq 5, 3) := by decide +kernel
theorem dL_law_877 : decode cL_law 877 = .ok (.iconst 0, 1) := by decide +kernel
theorem dL_law_878 : decode cL_law 878 = .ok (.ireturn, 1) := by decide +kernel
theorem dL_law_879 : decode cL_law 879 = .ok (.iload 6, 2) := by decide +kernel
theorem dL_law_881 : decode cL_law 881 = .ok (.ifCond .ne 14, 3) := by decide +kernel
theorem dL_law_884 : decode cL_law 884 = .ok (.aload_n 3, 1) := by decide +kernel
theorem dL_law_885 : decode cL_law 885 = .ok (.iconst 0, 1) := by decide +kernel
theorem dL_law_886 : decode cL_law 886 = .ok (.laload, 1) := by decide +kernel
theorem dL_law_887 : decode cL_law 887 = .ok (.lload 7, 2) := by decide +kernel
theorem dL_law_889 : decode cL_law 889 = .ok (.lcmp, 1) := by decide +kernel
theorem dL_law_890 : decode cL_law 890 = .ok (.ifCond .eq 5, 3) := by decide +kernel
theorem dL_law_893 : decode cL_law 893 = .ok (.iconst 0, 1) := by decide +kernel
theorem dL_law_894 : decode cL_law 894 = .ok (.ireturn, 1) := by decide +kernel
theorem dL_law_895 : decode cL_law 895 = .ok (.goto 191, 3) := by decide +kernel
theorem dL_law_898 : decode cL_law 898 = .ok (.aload_n 1, 1) := by decide +kernel
theorem dL_law_899 : decode cL_law 899 = .ok (.aload_n 0, 1) := by decide +kernel
theorem dL_law_900 : decode cL_law 900 = .ok (.iload 5, 2) := by decide +kernel
theorem dL_law_902 : decode cL_law 902 = .ok (.iconst 1, 1) := by decide +kernel
theorem dL_law_903 : decode cL_law 903 = .ok (.iadd, 1) := by decide +kernel
theorem dL_law_904 : decode cL_law 904 = .ok (.iaload, 1) := by decide +kernel
theorem dL_law_905 : decode cL_law 905 = .ok (.aload_n 3, 1) := by decide +kernel
theorem dL_law_906 : decode cL_law 906 = .ok (.invokestatic 116, 3) := by decide +kernel
theorem dL_law_909 : decode cL_law 909 = .ok (.istore 6, 2) := by decide +kernel
theorem dL_law_911 : decode cL_law 911 = .ok (.aload_n 2, 1) := by decide +kernel
theorem dL_law_912 : decode cL_law 912 = .ok (.aload_n 0, 1) := by decide +kernel
theorem dL_law_913 : decode cL_law 913 = .ok (.iload 5, 2) := by decide +kernel
theorem dL_law_915 : decode cL_law 915 = .ok (.iconst 1, 1) := by decide +kernel
theorem dL_law_916 : decode cL_law 916 = .ok (.iadd, 1) := by decide +kernel
theorem dL_law_917 : decode cL_law 917 = .ok (.iaload, 1) := by decide +kernel
theorem dL_law_918 : decode cL_law 918 = .ok (.invokevirtual 118, 3) := by decide +kernel
theorem dL_law_921 : decode cL_law 921 = .ok (.lstore 7, 2) := by decide +kernel
theorem dL_law_923 : decode cL_law 923 = .ok (.aload_n 2, 1) := by decide +kernel
theorem dL_law_924 : decode cL_law 924 = .ok (.invokevirtual 77, 3) := by decide +kernel
theorem dL_law_927 : decode cL_law 927 = .ok (.iload 6, 2) := by decide +kernel
theorem dL_law_929 : decode cL_law 929 = .ok (.if_icmp .eq 5, 3) := by decide +kernel
theorem dL_law_932 : decode cL_law 932 = .ok (.iconst 0, 1) := by decide +kernel
theorem dL_law_933 : decode cL_law 933 = .ok (.ireturn, 1) := by decide +kernel
theorem dL_law_934 : decode cL_law 934 = .ok (.iload 6, 2) := by decide +kernel
theorem dL_law_936 : decode cL_law 936 = .ok (.ifCond .ne 14, 3) := by decide +kernel
theorem dL_law_939 : decode cL_law 939 = .ok (.aload_n 3, 1) := by decide +kernel
theorem dL_law_940 : decode cL_law 940 = .ok (.iconst 0, 1) := by decide +kernel
theorem dL_law_941 : decode cL_law 941 = .ok (.laload, 1) := by decide +kernel
theorem dL_law_942 : decode cL_law 942 = .ok (.lload 7, 2) := by decide +kernel
theorem dL_law_944 : decode cL_law 944 = .ok (.lcmp, 1) := by decide +kernel
theorem dL_law_945 : decode cL_law 945 = .ok (.ifCond .eq 5, 3) := by decide +kernel
theorem dL_law_948 : decode cL_law 948 = .ok (.iconst 0, 1) := by decide +kernel
theorem dL_law_949 : decode cL_law 949 = .ok (.ireturn, 1) := by decide +kernel
theorem dL_law_950 : decode cL_law 950 = .ok (.goto 136, 3) := by decide +kernel
theorem dL_law_953 : decode cL_law 953 = .ok (.aload_n 1, 1) := by decide +kernel
theorem dL_law_954 : decode cL_law 954 = .ok (.aload_n 0, 1) := by decide +kernel
theorem dL_law_955 : decode cL_law 955 = .ok (.iload 5, 2) := by decide +kernel
theorem dL_law_957 : decode cL_law 957 = .ok (.iconst 1, 1) := by decide +kernel
theorem dL_law_958 : decode cL_law 958 = .ok (.iadd, 1) := by decide +kernel
theorem dL_law_959 : decode cL_law 959 = .ok (.iaload, 1) := by decide +kernel
theorem dL_law_960 : decode cL_law 960 = .ok (.aload 4, 2) := by decide +kernel
theorem dL_law_962 : decode cL_law 962 = .ok (.invokestatic 119, 3) := by decide +kernel
theorem dL_law_965 : decode cL_law 965 = .ok (.istore 6, 2) := by decide +kernel
theorem dL_law_967 : decode cL_law 967 = .ok (.aload_n 2, 1) := by decide +kernel
theorem dL_law_968 : decode cL_law 968 = .ok (.aload_n 0, 1) := by decide +kernel
theorem dL_law_969 : decode cL_law 969 = .ok (.iload 5, 2) := by decide +kernel
theorem dL_law_971 : decode cL_law 971 = .ok (.iconst 1, 1) := by decide +kernel
theorem dL_law_972 : decode cL_law 972 = .ok (.iadd, 1) := by decide +kernel
theorem dL_law_973 : decode cL_law 973 = .ok (.iaload, 1) := by decide +kernel
theorem dL_law_974 : decode cL_law 974 = .ok (.invokevirtual 122, 3) := by decide +kernel
theorem dL_law_977 : decode cL_law 977 = .ok (.dstore 7, 2) := by decide +kernel
theorem dL_law_979 : decode cL_law 979 = .ok (.aload_n 2, 1) := by decide +kernel
theorem dL_law_980 : decode cL_law 980 = .ok (.invokevirtual 77, 3) := by decide +kernel
theorem dL_law_983 : decode cL_law 983 = .ok (.iload 6, 2) := by decide +kernel
theorem dL_law_985 : decode cL_law 985 = .ok (.if_icmp .eq 5, 3) := by decide +kernel
theorem dL_law_988 : decode cL_law 988 = .ok (.iconst 0, 1) := by decide +kernel
theorem dL_law_989 : decode cL_law 989 = .ok (.ireturn, 1) := by decide +kernel
theorem dL_law_990 : decode cL_law 990 = .ok (.iload 6, 2) := by decide +kernel
theorem dL_law_992 : decode cL_law 992 = .ok (.ifCond .ne 35, 3) := by decide +kernel
theorem dL_law_995 : decode cL_law 995 = .ok (.aload 4, 2) := by decide +kernel
theorem dL_law_997 : decode cL_law 997 = .ok (.iconst 0, 1) := by decide +kernel
theorem dL_law_998 : decode cL_law 998 = .ok (.daload, 1) := by decide +kernel
theorem dL_law_999 : decode cL_law 999 = .ok (.dload 7, 2) := by decide +kernel
theorem dL_law_1001 : decode cL_law 1001 = .ok (.dcmp .l, 1) := by decide +kernel
theorem dL_law_1002 : decode cL_law 1002 = .ok (.ifCond .eq 25, 3) := by decide +kernel
theorem dL_law_1005 : decode cL_law 1005 = .ok (.aload 4, 2) := by decide +kernel
theorem dL_law_1007 : decode cL_law 1007 = .ok (.iconst 0, 1) := by decide +kernel
theorem dL_law_1008 : decode cL_law 1008 = .ok (.daload, 1) := by decide +kernel
theorem dL_law_1009 : decode cL_law 1009 = .ok (.aload 4, 2) := by decide +kernel
theorem dL_law_1011 : decode cL_law 1011 = .ok (.iconst 0, 1) := by decide +kernel
theorem dL_law_1012 : decode cL_law 1012 = .ok (.daload, 1) := by decide +kernel
theorem dL_law_1013 : decode cL_law 1013 = .ok (.dcmp .l, 1) := by decide +kernel
theorem dL_law_1014 : decode cL_law 1014 = .ok (.ifCond .eq 11, 3) := by decide +kernel
theorem dL_law_1017 : decode cL_law 1017 = .ok (.dload 7, 2) := by decide +kernel
theorem dL_law_1019 : decode cL_law 1019 = .ok (.dload 7, 2) := by decide +kernel
theorem dL_law_1021 : decode cL_law 1021 = .ok (.dcmp .l, 1) := by decide +kernel
theorem dL_law_1022 : decode cL_law 1022 = .ok (.ifCond .ne 5, 3) := by decide +kernel
theorem dL_law_1025 : decode cL_law 1025 = .ok (.iconst 0, 1) := by decide +kernel
theorem dL_law_1026 : decode cL_law 1026 = .ok (.ireturn, 1) := by decide +kernel
theorem dL_law_1027 : decode cL_law 1027 = .ok (.goto 59, 3) := by decide +kernel
theorem dL_law_1030 : decode cL_law 1030 = .ok (.aload_n 1, 1) := by decide +kernel
theorem dL_law_1031 : decode cL_law 1031 = .ok (.aload_n 0, 1) := by decide +kernel
theorem dL_law_1032 : decode cL_law 1032 = .ok (.iload 5, 2) := by decide +kernel
theorem dL_law_1034 : decode cL_law 1034 = .ok (.iconst 1, 1) := by decide +kernel
theorem dL_law_1035 : decode cL_law 1035 = .ok (.iadd, 1) := by decide +kernel
theorem dL_law_1036 : decode cL_law 1036 = .ok (.iaload, 1) := by decide +kernel
theorem dL_law_1037 : decode cL_law 1037 = .ok (.aload_n 3, 1) := by decide +kernel
theorem dL_law_1038 : decode cL_law 1038 = .ok (.invokestatic 123, 3) := by decide +kernel
theorem dL_law_1041 : decode cL_law 1041 = .ok (.istore 6, 2) := by decide +kernel
theorem dL_law_1043 : decode cL_law 1043 = .ok (.aload_n 2, 1) := by decide +kernel
theorem dL_law_1044 : decode cL_law 1044 = .ok (.aload_n 0, 1) := by decide +kernel
theorem dL_law_1045 : decode cL_law 1045 = .ok (.iload 5, 2) := by decide +kernel
theorem dL_law_1047 : decode cL_law 1047 = .ok (.iconst 1, 1) := by decide +kernel
theorem dL_law_1048 : decode cL_law 1048 = .ok (.iadd, 1) := by decide +kernel
theorem dL_law_1049 : decode cL_law 1049 = .ok (.iaload, 1) := by decide +kernel
theorem dL_law_1050 : decode cL_law 1050 = .ok (.invokevirtual 125, 3) := by decide +kernel
theorem dL_law_1053 : decode cL_law 1053 = .ok (.istore 7, 2) := by decide +kernel
theorem dL_law_1055 : decode cL_law 1055 = .ok (.aload_n 2, 1) := by decide +kernel
theorem dL_law_1056 : decode cL_law 1056 = .ok (.invokevirtual 77, 3) := by decide +kernel
theorem dL_law_1059 : decode cL_law 1059 = .ok (.iload 6, 2) := by decide +kernel
theorem dL_law_1061 : decode cL_law 1061 = .ok (.if_icmp .eq 5, 3) := by decide +kernel
theorem dL_law_1064 : decode cL_law 1064 = .ok (.iconst 0, 1) := by decide +kernel
theorem dL_law_1065 : decode cL_law 1065 = .ok (.ireturn, 1) := by decide +kernel
theorem dL_law_1066 : decode cL_law 1066 = .ok (.iload 6, 2) := by decide +kernel
theorem dL_law_1068 : decode cL_law 1068 = .ok (.ifCond .ne 15, 3) := by decide +kernel
theorem dL_law_1071 : decode cL_law 1071 = .ok (.aload_n 3, 1) := by decide +kernel
theorem dL_law_1072 : decode cL_law 1072 = .ok (.iconst 0, 1) := by decide +kernel
theorem dL_law_1073 : decode cL_law 1073 = .ok (.laload, 1) := by decide +kernel
theorem dL_law_1074 : decode cL_law 1074 = .ok (.iload 7, 2) := by decide +kernel
theorem dL_law_1076 : decode cL_law 1076 = .ok (.i2l, 1) := by decide +kernel
theorem dL_law_1077 : decode cL_law 1077 = .ok (.lcmp, 1) := by decide +kernel
theorem dL_law_1078 : decode cL_law 1078 = .ok (.ifCond .eq 5, 3) := by decide +kernel
theorem dL_law_1081 : decode cL_law 1081 = .ok (.iconst 0, 1) := by decide +kernel
theorem dL_law_1082 : decode cL_law 1082 = .ok (.ireturn, 1) := by decide +kernel
theorem dL_law_1083 : decode cL_law 1083 = .ok (.goto 3, 3) := by decide +kernel
theorem dL_law_1086 : decode cL_law 1086 = .ok (.iinc 5 4, 3) := by decide +kernel
theorem dL_law_1089 : decode cL_law 1089 = .ok (.goto (-1061), 3) := by decide +kernel
theorem dL_law_1092 : decode cL_law 1092 = .ok (.iconst 1, 1) := by decide +kernel
theorem dL_law_1093 : decode cL_law 1093 = .ok (.ireturn, 1) := by decide +kernel
abbrev vwCl : List vw_C := [(RX0, TX0, 7), (RX1, TX1, 11), (RX2, TX2, 4), (RX3, TX3, 3), (RX4, TX4, 27)]
end
section
/-! ===== the judgement Kw: a frame of a method over a world; its rows ===== -/
abbrev XT : Type := Program × Launch × Env × Room × State × MethodId × Array Value × List Frame × Method × Code × (State → Prop) × va_G × (Nat → Prop) × Heap × Nat
abbrev kxP (X : XT) : Program := X.1
abbrev kxL (X : XT) : Launch := X.2.1
abbrev kxE (X : XT) : Env := X.2.2.1
abbrev kxR (X : XT) : Room := X.2.2.2.1
abbrev kxS (X : XT) : State := X.2.2.2.2.1
abbrev kxM (X : XT) : MethodId := X.2.2.2.2.2.1
abbrev kxA (X : XT) : Array Value := X.2.2.2.2.2.2.1
abbrev kxB (X : XT) : List Frame := X.2.2.2.2.2.2.2.1
abbrev kxH (X : XT) : Method := X.2.2.2.2.2.2.2.2.1
abbrev kxC (X : XT) : Code := X.2.2.2.2.2.2.2.2.2.1
abbrev kxQ (X : XT) : State → Prop := X.2.2.2.2.2.2.2.2.2.2.1
abbrev kxD (X : XT) : va_G := X.2.2.2.2.2.2.2.2.2.2.2.1
abbrev kxF (X : XT) : Nat → Prop := X.2.2.2.2.2.2.2.2.2.2.2.2.1
abbrev kxO (X : XT) : Heap := X.2.2.2.2.2.2.2.2.2.2.2.2.2.1
abbrev kxN (X : XT) : Nat := X.2.2.2.2.2.2.2.2.2.2.2.2.2.2
/-- the machine at this pc, with these locals, this stack, and any heap that holds the world, comes to its end -/
def Kw (X : XT) (k n : Nat) (ws : va_W) (pc : Nat) (lv : List (Nat × Value)) (st : List Value) : Prop :=
  ∀ (H : Heap) (locs : List Loc) (ls : Array Slot), va_P (kxD X) vwCl ws H → va_D (kxF X) ws → va_S (kxF X) (kxO X) H locs → lv_has ls (kxN X) lv → W (kxP X) (kxL X) (kxE X) (kxR X) (kxS X) (kxM X) (kxA X) (kxB X) (kxH X) (kxC X) H locs k n (kxQ X) (F0 (kxM X) pc ls st)
/-- the links between nest mates, out of the tables -/
def kNW : List Cond := [.fieldLinkNest "HullBuilder" 102 "HullBuilder$Face" "ring" "[I" "HullBuilder", .fieldLinkNest "HullBuilder" 106 "HullBuilder$Hull" "edgeCount" "I" "HullBuilder", .fieldLinkNest "HullBuilder" 109 "HullBuilder$Hull" "edgeLow" "[I" "HullBuilder", .fieldLinkNest "HullBuilder" 112 "HullBuilder$Hull" "edgeHigh" "[I" "HullBuilder", .fieldLinkNest "HullBuilder" 115 "HullBuilder$Hull" "faceAlong" "[I" "HullBuilder", .fieldLinkNest "HullBuilder" 135 "HullBuilder$Hull" "sixVolumes" "J" "HullBuilder", .fieldLinkNest "HullBuilder" 138 "HullBuilder$Hull" "moments" "[J" "HullBuilder", .fieldLinkNest "HullBuilder" 144 "HullBuilder$Hull" "corners" "I" "HullBuilder", .fieldLinkNest "HullBuilder" 42 "HullBuilder$Points" "size" "I" "HullBuilder", .fieldLinkNest "HullBuilder" 72 "HullBuilder$Hull" "faceCount" "I" "HullBuilder", .fieldLinkNest "HullBuilder" 82 "HullBuilder$Hull" "faces" "[LHullBuilder$Face;" "HullBuilder", .fieldLinkNest "HullBuilder" 86 "HullBuilder$Face" "size" "I" "HullBuilder", .fieldLinkNest "HullBuilder" 89 "HullBuilder$Face" "nx" "J" "HullBuilder", .fieldLinkNest "HullBuilder" 93 "HullBuilder$Face" "ny" "J" "HullBuilder", .fieldLinkNest "HullBuilder" 96 "HullBuilder$Face" "nz" "J" "HullBuilder", .fieldLinkNest "HullBuilder" 99 "HullBuilder$Face" "distance" "J" "HullBuilder", .fieldLinkNest "HullBuilder$Face" 15 "HullBuilder$Points" "ys" "[I" "HullBuilder", .fieldLinkNest "HullBuilder$Face" 20 "HullBuilder$Points" "zs" "[I" "HullBuilder", .fieldLinkNest "HullBuilder$Face" 31 "HullBuilder$Points" "xs" "[I" "HullBuilder", .fieldLinkNest "HullBuilder$Face" 43 "HullBuilder$Points" "size" "I" "HullBuilder", .fieldLinkNest "HullBuilder$Hull" 125 "HullBuilder$Face" "size" "I" "HullBuilder", .fieldLinkNest "HullBuilder$Hull" 126 "HullBuilder$Face" "ring" "[I" "HullBuilder", .fieldLinkNest "HullBuilder$Hull" 139 "HullBuilder$Points" "xs" "[I" "HullBuilder", .fieldLinkNest "HullBuilder$Hull" 142 "HullBuilder$Points" "ys" "[I" "HullBuilder", .fieldLinkNest "HullBuilder$Hull" 145 "HullBuilder$Points" "zs" "[I" "HullBuilder", .fieldLinkNest "HullBuilder$Hull" 43 "HullBuilder$Points" "size" "I" "HullBuilder", .fieldLinkNest "HullBuilder$Hull" 98 "HullBuilder$Face" "held" "I" "HullBuilder", .methodLinkNest "HullBuilder" 11 ⟨"HullBuilder$Points", "<init>", "()V"⟩ "HullBuilder", .methodLinkNest "HullBuilder" 122 ⟨"HullBuilder$Hull", "furthest", "(JJJ)I"⟩ "HullBuilder", .methodLinkNest "HullBuilder" 129 ⟨"HullBuilder$Hull", "walk", "(II)I"⟩ "HullBuilder", .methodLinkNest "HullBuilder" 132 ⟨"HullBuilder$Hull", "locate", "(III)I"⟩ "HullBuilder", .methodLinkNest "HullBuilder" 18 ⟨"HullBuilder$Hull", "<init>", "()V"⟩ "HullBuilder", .methodLinkNest "HullBuilder" 31 ⟨"HullBuilder$Points", "isTaken", "(III)Z"⟩ "HullBuilder", .methodLinkNest "HullBuilder" 50 ⟨"HullBuilder$Points", "append", "(III)I"⟩ "HullBuilder", .methodLinkNest "HullBuilder" 58 ⟨"HullBuilder$Points", "remove", "(I)V"⟩ "HullBuilder", .methodLinkNest "HullBuilder" 62 ⟨"HullBuilder$Hull", "wouldBeFlat", "(LHullBuilder$Points;)Z"⟩ "HullBuilder", .methodLinkNest "HullBuilder" 68 ⟨"HullBuilder$Hull", "wrap", "(LHullBuilder$Points;)V"⟩ "HullBuilder", .methodLinkNest "HullBuilder" 75 ⟨"HullBuilder$Points", "coordinate", "(II)I"⟩ "HullBuilder", .methodLinkNest "HullBuilder$Face" 23 ⟨"HullBuilder", "across", "([I[IIII)J"⟩ "HullBuilder", .methodLinkNest "HullBuilder$Face" 54 ⟨"HullBuilder", "commonFactor", "(JJ)J"⟩ "HullBuilder", .methodLinkNest "HullBuilder$Face" 72 ⟨"HullBuilder", "holds", "(II)Z"⟩ "HullBuilder", .methodLinkNest "HullBuilder$Face" 80 ⟨"HullBuilder", "way", "(II)I"⟩ "HullBuilder", .methodLinkNest "HullBuilder$Hull" 101 ⟨"HullBuilder", "holds", "(II)Z"⟩ "HullBuilder", .methodLinkNest "HullBuilder$Hull" 105 ⟨"HullBuilder$Face", "rank", "()I"⟩ "HullBuilder", .methodLinkNest "HullBuilder$Hull" 11 ⟨"HullBuilder$Points", "<init>", "()V"⟩ "HullBuilder", .methodLinkNest "HullBuilder$Hull" 115 ⟨"HullBuilder", "way", "(II)I"⟩ "HullBuilder", .methodLinkNest "HullBuilder$Hull" 152 ⟨"HullBuilder$Face", "heightOf", "(JJJ)J"⟩ "HullBuilder", .methodLinkNest "HullBuilder$Hull" 24 ⟨"HullBuilder$Face", "<init>", "()V"⟩ "HullBuilder", .methodLinkNest "HullBuilder$Hull" 47 ⟨"HullBuilder$Face", "layThrough", "(LHullBuilder$Points;III)Z"⟩ "HullBuilder", .methodLinkNest "HullBuilder$Hull" 51 ⟨"HullBuilder$Face", "holdsAll", "(LHullBuilder$Points;)Z"⟩ "HullBuilder", .methodLinkNest "HullBuilder$Hull" 55 ⟨"HullBuilder$Points", "copyFrom", "(LHullBuilder$Points;)V"⟩ "HullBuilder", .methodLinkNest "HullBuilder$Hull" 71 ⟨"HullBuilder$Face", "goRound", "(LHullBuilder$Points;I)V"⟩ "HullBuilder", .methodLinkNest "HullBuilder$Hull" 92 ⟨"HullBuilder$Face", "turnOutside", "(LHullBuilder$Points;)Z"⟩ "HullBuilder", .methodLinkNest "HullBuilder$Hull" 95 ⟨"HullBuilder$Face", "shortenNormal", "()V"⟩ "HullBuilder"]
theorem kNW_in : ∀ w ∈ kNW, w ∈ tables_1 := by decide +kernel
def kIsNest (w : Cond) : Prop := (∃ a i b n d h, w = .fieldLinkNest a i b n d h) ∨ (∃ a i x h, w = .methodLinkNest a i x h)
theorem kNW_kind : ∀ w ∈ kNW, kIsNest w := by
  intro w hw
  simp only [kNW, List.mem_cons, List.not_mem_nil, or_false] at hw
  rcases hw with rfl | rfl | rfl | rfl | rfl | rfl | rfl | rfl | rfl | rfl | rfl | rfl | rfl | rfl | rfl | rfl | rfl | rfl | rfl | rfl | rfl | rfl | rfl | rfl | rfl | rfl | rfl | rfl | rfl | rfl | rfl | rfl | rfl | rfl | rfl | rfl | rfl | rfl | rfl | rfl | rfl | rfl | rfl | rfl | rfl | rfl | rfl | rfl | rfl | rfl | rfl | rfl | rfl | rfl
  · exact Or.inl ⟨_, _, _, _, _, _, rfl⟩
  · exact Or.inl ⟨_, _, _, _, _, _, rfl⟩
  · exact Or.inl ⟨_, _, _, _, _, _, rfl⟩
  · exact Or.inl ⟨_, _, _, _, _, _, rfl⟩
  · exact Or.inl ⟨_, _, _, _, _, _, rfl⟩
  · exact Or.inl ⟨_, _, _, _, _, _, rfl⟩
  · exact Or.inl ⟨_, _, _, _, _, _, rfl⟩
  · exact Or.inl ⟨_, _, _, _, _, _, rfl⟩
  · exact Or.inl ⟨_, _, _, _, _, _, rfl⟩
  · exact Or.inl ⟨_, _, _, _, _, _, rfl⟩
  · exact Or.inl ⟨_, _, _, _, _, _, rfl⟩
  · exact Or.inl ⟨_, _, _, _, _, _, rfl⟩
  · exact Or.inl ⟨_, _, _, _, _, _, rfl⟩
  · exact Or.inl ⟨_, _, _, _, _, _, rfl⟩
  · exact Or.inl ⟨_, _, _, _, _, _, rfl⟩
  · exact Or.inl ⟨_, _, _, _, _, _, rfl⟩
  · exact Or.inl ⟨_, _, _, _, _, _, rfl⟩
  · exact Or.inl ⟨_, _, _, _, _, _, rfl⟩
  · exact Or.inl ⟨_, _, _, _, _, _, rfl⟩
  · exact Or.inl ⟨_, _, _, _, _, _, rfl⟩
  · exact Or.inl ⟨_, _, _, _, _, _, rfl⟩
  · exact Or.inl ⟨_, _, _, _, _, _, rfl⟩
  · exact Or.inl ⟨_, _, _, _, _, _, rfl⟩
  · exact Or.inl ⟨_, _, _, _, _, _, rfl⟩
  · exact Or.inl ⟨_, _, _, _, _, _, rfl⟩
  · exact Or.inl ⟨_, _, _, _, _, _, rfl⟩
  · exact Or.inl ⟨_, _, _, _, _, _, rfl⟩
  · exact Or.inr ⟨_, _, _, _, rfl⟩
  · exact Or.inr ⟨_, _, _, _, rfl⟩
  · exact Or.inr ⟨_, _, _, _, rfl⟩
  · exact Or.inr ⟨_, _, _, _, rfl⟩
  · exact Or.inr ⟨_, _, _, _, rfl⟩
  · exact Or.inr ⟨_, _, _, _, rfl⟩
  · exact Or.inr ⟨_, _, _, _, rfl⟩
  · exact Or.inr ⟨_, _, _, _, rfl⟩
  · exact Or.inr ⟨_, _, _, _, rfl⟩
  · exact Or.inr ⟨_, _, _, _, rfl⟩
  · exact Or.inr ⟨_, _, _, _, rfl⟩
  · exact Or.inr ⟨_, _, _, _, rfl⟩
  · exact Or.inr ⟨_, _, _, _, rfl⟩
  · exact Or.inr ⟨_, _, _, _, rfl⟩
  · exact Or.inr ⟨_, _, _, _, rfl⟩
  · exact Or.inr ⟨_, _, _, _, rfl⟩
  · exact Or.inr ⟨_, _, _, _, rfl⟩
  · exact Or.inr ⟨_, _, _, _, rfl⟩
  · exact Or.inr ⟨_, _, _, _, rfl⟩
  · exact Or.inr ⟨_, _, _, _, rfl⟩
  · exact Or.inr ⟨_, _, _, _, rfl⟩
  · exact Or.inr ⟨_, _, _, _, rfl⟩
  · exact Or.inr ⟨_, _, _, _, rfl⟩
  · exact Or.inr ⟨_, _, _, _, rfl⟩
  · exact Or.inr ⟨_, _, _, _, rfl⟩
  · exact Or.inr ⟨_, _, _, _, rfl⟩
  · exact Or.inr ⟨_, _, _, _, rfl⟩
def kNWs (U : State) : Prop := ∀ w ∈ kNW, va_Nw w U
theorem kNWs.warm {s U : State} (hW : s.WarmedH U.vm) (h : kNWs s) : kNWs U := by
  intro w hw
  rcases kNW_kind w hw with ⟨a, i, b, n, d, g, rfl⟩ | ⟨a, i, x, g, rfl⟩
  · exact va_Nw.warmF hW (h _ hw)
  · exact va_Nw.warmM hW (h _ hw)
theorem kNWs.same {s U : State} (e : s.vm = U.vm) (h : kNWs s) : kNWs U := by
  intro w hw
  rcases kNW_kind w hw with ⟨a, i, b, n, d, g, rfl⟩ | ⟨a, i, x, g, rfl⟩
  · exact va_Nw.same rfl e (h _ hw)
  · exact va_Nw.same rfl e (h _ hw)
/-- what stands fast in a method's walk -/
def Cx (X : XT) (cc : ByteArray) (own : String) (Ts : List Cond) (rm : Room) (tys : List (ClassId × FieldType)) (nL : Nat) : Prop :=
  kxN X = nL ∧ (kxP X).tables.exec = Jvm.exec ∧ (kxC X).code = cc ∧ (kxC X).maxLocals = kxN X ∧ (kxS X).vm.findClass own = some (kxM X).cls ∧ (∀ w ∈ Ts, w.before (kxA X) (kxS X) = true) ∧ va_K (kxD X) vwCl tys (kxS X) ∧ kxR X = rm ∧ (∀ q, (kxO X).size ≤ q → kxF X q) ∧ kNWs (kxS X)
section KRows
variable {X : XT} {cc : ByteArray} {own : String} {Ts : List Cond} {rm : Room} {tys : List (ClassId × FieldType)} {nL k n pc : Nat} {ws : va_W} {lv : List (Nat × Value)} {st : List Value}
theorem Cx.hn (C : Cx X cc own Ts rm tys nL) : kxN X = nL := C.1
theorem Cx.hx (C : Cx X cc own Ts rm tys nL) : (kxP X).tables.exec = Jvm.exec := C.2.1
theorem Cx.hb (C : Cx X cc own Ts rm tys nL) : (kxC X).code = cc := C.2.2.1
theorem Cx.hml (C : Cx X cc own Ts rm tys nL) : (kxC X).maxLocals = kxN X := C.2.2.2.1
theorem Cx.hown (C : Cx X cc own Ts rm tys nL) : (kxS X).vm.findClass own = some (kxM X).cls := C.2.2.2.2.1
theorem Cx.hts (C : Cx X cc own Ts rm tys nL) : ∀ w ∈ Ts, w.before (kxA X) (kxS X) = true := C.2.2.2.2.2.1
theorem Cx.hK (C : Cx X cc own Ts rm tys nL) : va_K (kxD X) vwCl tys (kxS X) := C.2.2.2.2.2.2.1
theorem Cx.hR (C : Cx X cc own Ts rm tys nL) : kxR X = rm := C.2.2.2.2.2.2.2.1
theorem Cx.hA (C : Cx X cc own Ts rm tys nL) : ∀ q, (kxO X).size ≤ q → kxF X q := C.2.2.2.2.2.2.2.2.1
theorem Cx.hN (C : Cx X cc own Ts rm tys nL) : kNWs (kxS X) := C.2.2.2.2.2.2.2.2.2
/-- locals in another order, or fewer -/
theorem k_lv {lv' : List (Nat × Value)} (ks : List Nat) (h : lv_pick lv ks = lv') (K : Kw X k n ws pc lv' st) : Kw X k n ws pc lv st := fun H locs ls hP hD hS hl => K H locs ls hP hD hS (lv_sub hl ks h)
theorem k_topi {x : Int32} (y : Int32) (h : x = y) (K : Kw X k n ws pc lv (.int y :: st)) : Kw X k n ws pc lv (.int x :: st) := by rw [h]; exact K
theorem k_topl {x : Int64} (y : Int64) (h : x = y) (K : Kw X k n ws pc lv (.long y :: st)) : Kw X k n ws pc lv (.long x :: st) := by rw [h]; exact K
theorem k_ws {ws' : va_W} (h : ws = ws') (K : Kw X k n ws' pc lv st) : Kw X k n ws pc lv st := by rw [h]; exact K
theorem k_widen {k' n' : Nat} (h1 : k ≤ k') (h2 : n ≤ n') (K : Kw X k' n' ws pc lv st) : Kw X k n ws pc lv st := fun H locs ls hP hD hS hl => W.widen h1 h2 (K H locs ls hP hD hS hl)
theorem k_iconst (C : Cx X cc own Ts rm tys nL) {j : Int} {v : Int32} (hd : decode cc pc = .ok (.iconst j, 1)) (hv : Int32.ofInt j = v) (K : Kw X k n ws (pc + 1) lv (.int v :: st)) : Kw X k n ws pc lv st := fun H locs ls hP hD hS hl => lv_iconst C.hx C.hb hd hv (K H locs ls hP hD hS hl)
theorem k_bipush (C : Cx X cc own Ts rm tys nL) {j : Int} {v : Int32} (hd : decode cc pc = .ok (.bipush j, 2)) (hv : (Int8.ofInt j).toInt32 = v) (K : Kw X k n ws (pc + 2) lv (.int v :: st)) : Kw X k n ws pc lv st := fun H locs ls hP hD hS hl => lv_bipush C.hx C.hb hd hv (K H locs ls hP hD hS hl)
theorem k_sipush (C : Cx X cc own Ts rm tys nL) {j : Int} {v : Int32} (hd : decode cc pc = .ok (.sipush j, 3)) (hv : (Int16.ofInt j).toInt32 = v) (K : Kw X k n ws (pc + 3) lv (.int v :: st)) : Kw X k n ws pc lv st := fun H locs ls hP hD hS hl => lv_sipush C.hx C.hb hd hv (K H locs ls hP hD hS hl)
theorem k_lconst (C : Cx X cc own Ts rm tys nL) {j : Fin 2} {v : Int64} (hd : decode cc pc = .ok (.lconst j, 1)) (hv : Int64.ofNat (j : Nat) = v) (K : Kw X k n ws (pc + 1) lv (.long v :: st)) : Kw X k n ws pc lv st := fun H locs ls hP hD hS hl => lv_lconst C.hx C.hb hd hv (K H locs ls hP hD hS hl)
theorem k_dconst0 (C : Cx X cc own Ts rm tys nL)  (hd : decode cc pc = .ok (.dconst 0, 1)) (K : Kw X k n ws (pc + 1) lv (.double FP.dconst0 :: st)) : Kw X k n ws pc lv st := fun H locs ls hP hD hS hl => lv_dconst0 C.hx C.hb hd (K H locs ls hP hD hS hl)
theorem k_iload_n (C : Cx X cc own Ts rm tys nL) {j : Fin 4} {i : Nat} {x : Int32} (a : Nat) (hd : decode cc pc = .ok (.iload_n j, 1)) (hi : (j : Nat) = i) (hk : lv[a]? = some (i, .int x)) (K : Kw X k n ws (pc + 1) lv (.int x :: st)) : Kw X k n ws pc lv st := fun H locs ls hP hD hS hl => lv_iload_n C.hx C.hb hd hi (lv_at hl a hk) (K H locs ls hP hD hS hl)
theorem k_iload (C : Cx X cc own Ts rm tys nL) {i : Nat} {x : Int32} (a : Nat) (hd : decode cc pc = .ok (.iload i, 2)) (hk : lv[a]? = some (i, .int x)) (K : Kw X k n ws (pc + 2) lv (.int x :: st)) : Kw X k n ws pc lv st := fun H locs ls hP hD hS hl => lv_iload C.hx C.hb hd (lv_at hl a hk) (K H locs ls hP hD hS hl)
theorem k_istore_n (C : Cx X cc own Ts rm tys nL) {j : Fin 4} {i : Nat} {x : Int32} {lv' : List (Nat × Value)} (hd : decode cc pc = .ok (.istore_n j, 1)) (hi : (j : Nat) = i) (hn : i < nL) (hv : (i, Value.int x) :: lv.filter (fun q => !(q.1 == i) && !(q.1 + 1 == i && q.2.category == 2)) = lv') (K : Kw X k n ws (pc + 1) lv' st) : Kw X k n ws pc lv (.int x :: st) := fun H locs ls hP hD hS hl => lv_istore_n C.hx C.hb hd hi hl (by rw [C.hn]; exact hn) hv (fun ls hl => K H locs ls hP hD hS hl)
theorem k_istore (C : Cx X cc own Ts rm tys nL) {i : Nat} {x : Int32} {lv' : List (Nat × Value)} (hd : decode cc pc = .ok (.istore i, 2)) (hn : i < nL) (hv : (i, Value.int x) :: lv.filter (fun q => !(q.1 == i) && !(q.1 + 1 == i && q.2.category == 2)) = lv') (K : Kw X k n ws (pc + 2) lv' st) : Kw X k n ws pc lv (.int x :: st) := fun H locs ls hP hD hS hl => lv_istore C.hx C.hb hd hl (by rw [C.hn]; exact hn) hv (fun ls hl => K H locs ls hP hD hS hl)
theorem k_lload_n (C : Cx X cc own Ts rm tys nL) {j : Fin 4} {i : Nat} {x : Int64} (a : Nat) (hd : decode cc pc = .ok (.lload_n j, 1)) (hi : (j : Nat) = i) (hk : lv[a]? = some (i, .long x)) (K : Kw X k n ws (pc + 1) lv (.long x :: st)) : Kw X k n ws pc lv st := fun H locs ls hP hD hS hl => lv_lload_n C.hx C.hb hd hi (lv_at hl a hk) (K H locs ls hP hD hS hl)
theorem k_lload (C : Cx X cc own Ts rm tys nL) {i : Nat} {x : Int64} (a : Nat) (hd : decode cc pc = .ok (.lload i, 2)) (hk : lv[a]? = some (i, .long x)) (K : Kw X k n ws (pc + 2) lv (.long x :: st)) : Kw X k n ws pc lv st := fun H locs ls hP hD hS hl => lv_lload C.hx C.hb hd (lv_at hl a hk) (K H locs ls hP hD hS hl)
theorem k_lstore_n (C : Cx X cc own Ts rm tys nL) {j : Fin 4} {i : Nat} {x : Int64} {lv' : List (Nat × Value)} (hd : decode cc pc = .ok (.lstore_n j, 1)) (hi : (j : Nat) = i) (hn : i + 1 < nL) (hv : (i, Value.long x) :: lv.filter (fun q => !(q.1 == i) && (!(q.1 == i + 1) && !(q.1 + 1 == i && q.2.category == 2))) = lv') (K : Kw X k n ws (pc + 1) lv' st) : Kw X k n ws pc lv (.long x :: st) := fun H locs ls hP hD hS hl => lv_lstore_n C.hx C.hb hd hi hl (by rw [C.hn]; exact hn) hv (fun ls hl => K H locs ls hP hD hS hl)
theorem k_lstore (C : Cx X cc own Ts rm tys nL) {i : Nat} {x : Int64} {lv' : List (Nat × Value)} (hd : decode cc pc = .ok (.lstore i, 2)) (hn : i + 1 < nL) (hv : (i, Value.long x) :: lv.filter (fun q => !(q.1 == i) && (!(q.1 == i + 1) && !(q.1 + 1 == i && q.2.category == 2))) = lv') (K : Kw X k n ws (pc + 2) lv' st) : Kw X k n ws pc lv (.long x :: st) := fun H locs ls hP hD hS hl => lv_lstore C.hx C.hb hd hl (by rw [C.hn]; exact hn) hv (fun ls hl => K H locs ls hP hD hS hl)
theorem k_dload_n (C : Cx X cc own Ts rm tys nL) {j : Fin 4} {i : Nat} {x : UInt64} (a : Nat) (hd : decode cc pc = .ok (.dload_n j, 1)) (hi : (j : Nat) = i) (hk : lv[a]? = some (i, .double x)) (K : Kw X k n ws (pc + 1) lv (.double x :: st)) : Kw X k n ws pc lv st := fun H locs ls hP hD hS hl => lv_dload_n C.hx C.hb hd hi (lv_at hl a hk) (K H locs ls hP hD hS hl)
theorem k_dload (C : Cx X cc own Ts rm tys nL) {i : Nat} {x : UInt64} (a : Nat) (hd : decode cc pc = .ok (.dload i, 2)) (hk : lv[a]? = some (i, .double x)) (K : Kw X k n ws (pc + 2) lv (.double x :: st)) : Kw X k n ws pc lv st := fun H locs ls hP hD hS hl => lv_dload C.hx C.hb hd (lv_at hl a hk) (K H locs ls hP hD hS hl)
theorem k_dstore_n (C : Cx X cc own Ts rm tys nL) {j : Fin 4} {i : Nat} {x : UInt64} {lv' : List (Nat × Value)} (hd : decode cc pc = .ok (.dstore_n j, 1)) (hi : (j : Nat) = i) (hn : i + 1 < nL) (hv : (i, Value.double x) :: lv.filter (fun q => !(q.1 == i) && (!(q.1 == i + 1) && !(q.1 + 1 == i && q.2.category == 2))) = lv') (K : Kw X k n ws (pc + 1) lv' st) : Kw X k n ws pc lv (.double x :: st) := fun H locs ls hP hD hS hl => lv_dstore_n C.hx C.hb hd hi hl (by rw [C.hn]; exact hn) hv (fun ls hl => K H locs ls hP hD hS hl)
theorem k_dstore (C : Cx X cc own Ts rm tys nL) {i : Nat} {x : UInt64} {lv' : List (Nat × Value)} (hd : decode cc pc = .ok (.dstore i, 2)) (hn : i + 1 < nL) (hv : (i, Value.double x) :: lv.filter (fun q => !(q.1 == i) && (!(q.1 == i + 1) && !(q.1 + 1 == i && q.2.category == 2))) = lv') (K : Kw X k n ws (pc + 2) lv' st) : Kw X k n ws pc lv (.double x :: st) := fun H locs ls hP hD hS hl => lv_dstore C.hx C.hb hd hl (by rw [C.hn]; exact hn) hv (fun ls hl => K H locs ls hP hD hS hl)
theorem k_aload_n (C : Cx X cc own Ts rm tys nL) {j : Fin 4} {i : Nat} {x : Nat} (a : Nat) (hd : decode cc pc = .ok (.aload_n j, 1)) (hi : (j : Nat) = i) (hk : lv[a]? = some (i, .ref x)) (K : Kw X k n ws (pc + 1) lv (.ref x :: st)) : Kw X k n ws pc lv st := fun H locs ls hP hD hS hl => lv_aload_n C.hx C.hb hd hi (lv_at hl a hk) (K H locs ls hP hD hS hl)
theorem k_aload (C : Cx X cc own Ts rm tys nL) {i : Nat} {x : Nat} (a : Nat) (hd : decode cc pc = .ok (.aload i, 2)) (hk : lv[a]? = some (i, .ref x)) (K : Kw X k n ws (pc + 2) lv (.ref x :: st)) : Kw X k n ws pc lv st := fun H locs ls hP hD hS hl => lv_aload C.hx C.hb hd (lv_at hl a hk) (K H locs ls hP hD hS hl)
theorem k_astore_n (C : Cx X cc own Ts rm tys nL) {j : Fin 4} {i : Nat} {x : Nat} {lv' : List (Nat × Value)} (hd : decode cc pc = .ok (.astore_n j, 1)) (hi : (j : Nat) = i) (hn : i < nL) (hv : (i, Value.ref x) :: lv.filter (fun q => !(q.1 == i) && !(q.1 + 1 == i && q.2.category == 2)) = lv') (K : Kw X k n ws (pc + 1) lv' st) : Kw X k n ws pc lv (.ref x :: st) := fun H locs ls hP hD hS hl => lv_astore_n C.hx C.hb hd hi hl (by rw [C.hn]; exact hn) hv (fun ls hl => K H locs ls hP hD hS hl)
theorem k_astore (C : Cx X cc own Ts rm tys nL) {i : Nat} {x : Nat} {lv' : List (Nat × Value)} (hd : decode cc pc = .ok (.astore i, 2)) (hn : i < nL) (hv : (i, Value.ref x) :: lv.filter (fun q => !(q.1 == i) && !(q.1 + 1 == i && q.2.category == 2)) = lv') (K : Kw X k n ws (pc + 2) lv' st) : Kw X k n ws pc lv (.ref x :: st) := fun H locs ls hP hD hS hl => lv_astore C.hx C.hb hd hl (by rw [C.hn]; exact hn) hv (fun ls hl => K H locs ls hP hD hS hl)
theorem k_iinc (C : Cx X cc own Ts rm tys nL) {i : Nat} {j : Int} {x v : Int32} {lv' : List (Nat × Value)} (a : Nat) (hd : decode cc pc = .ok (.iinc i j, 3)) (hk : lv[a]? = some (i, .int x)) (hx : x + Int32.ofInt j = v) (hn : i < nL) (hv : (i, Value.int v) :: lv.filter (fun q => !(q.1 == i) && !(q.1 + 1 == i && q.2.category == 2)) = lv') (K : Kw X k n ws (pc + 3) lv' st) : Kw X k n ws pc lv st := fun H locs ls hP hD hS hl => lv_iinc C.hx C.hb hd hl hk hx (by rw [C.hn]; exact hn) hv (fun ls hl => K H locs ls hP hD hS hl)
theorem k_iadd (C : Cx X cc own Ts rm tys nL) {x y : Int32} (hd : decode cc pc = .ok (.iadd, 1)) (K : Kw X k n ws (pc + 1) lv (.int (x + y) :: st)) : Kw X k n ws pc lv (.int y :: .int x :: st) := fun H locs ls hP hD hS hl => lv_iadd C.hx C.hb hd (K H locs ls hP hD hS hl)
theorem k_isub (C : Cx X cc own Ts rm tys nL) {x y : Int32} (hd : decode cc pc = .ok (.isub, 1)) (K : Kw X k n ws (pc + 1) lv (.int (x - y) :: st)) : Kw X k n ws pc lv (.int y :: .int x :: st) := fun H locs ls hP hD hS hl => lv_isub C.hx C.hb hd (K H locs ls hP hD hS hl)
theorem k_imul (C : Cx X cc own Ts rm tys nL) {x y : Int32} (hd : decode cc pc = .ok (.imul, 1)) (K : Kw X k n ws (pc + 1) lv (.int (x * y) :: st)) : Kw X k n ws pc lv (.int y :: .int x :: st) := fun H locs ls hP hD hS hl => lv_imul C.hx C.hb hd (K H locs ls hP hD hS hl)
theorem k_iand (C : Cx X cc own Ts rm tys nL) {x y : Int32} (hd : decode cc pc = .ok (.iand, 1)) (K : Kw X k n ws (pc + 1) lv (.int (x &&& y) :: st)) : Kw X k n ws pc lv (.int y :: .int x :: st) := fun H locs ls hP hD hS hl => lv_iand C.hx C.hb hd (K H locs ls hP hD hS hl)
theorem k_ior (C : Cx X cc own Ts rm tys nL) {x y : Int32} (hd : decode cc pc = .ok (.ior, 1)) (K : Kw X k n ws (pc + 1) lv (.int (x ||| y) :: st)) : Kw X k n ws pc lv (.int y :: .int x :: st) := fun H locs ls hP hD hS hl => lv_ior C.hx C.hb hd (K H locs ls hP hD hS hl)
theorem k_ixor (C : Cx X cc own Ts rm tys nL) {x y : Int32} (hd : decode cc pc = .ok (.ixor, 1)) (K : Kw X k n ws (pc + 1) lv (.int (x ^^^ y) :: st)) : Kw X k n ws pc lv (.int y :: .int x :: st) := fun H locs ls hP hD hS hl => lv_ixor C.hx C.hb hd (K H locs ls hP hD hS hl)
theorem k_ishl (C : Cx X cc own Ts rm tys nL) {x y : Int32} (hd : decode cc pc = .ok (.ishl, 1)) (K : Kw X k n ws (pc + 1) lv (.int (x <<< (y &&& 31)) :: st)) : Kw X k n ws pc lv (.int y :: .int x :: st) := fun H locs ls hP hD hS hl => lv_ishl C.hx C.hb hd (K H locs ls hP hD hS hl)
theorem k_ladd (C : Cx X cc own Ts rm tys nL) {x y : Int64} (hd : decode cc pc = .ok (.ladd, 1)) (K : Kw X k n ws (pc + 1) lv (.long (x + y) :: st)) : Kw X k n ws pc lv (.long y :: .long x :: st) := fun H locs ls hP hD hS hl => lv_ladd C.hx C.hb hd (K H locs ls hP hD hS hl)
theorem k_lsub (C : Cx X cc own Ts rm tys nL) {x y : Int64} (hd : decode cc pc = .ok (.lsub, 1)) (K : Kw X k n ws (pc + 1) lv (.long (x - y) :: st)) : Kw X k n ws pc lv (.long y :: .long x :: st) := fun H locs ls hP hD hS hl => lv_lsub C.hx C.hb hd (K H locs ls hP hD hS hl)
theorem k_lmul (C : Cx X cc own Ts rm tys nL) {x y : Int64} (hd : decode cc pc = .ok (.lmul, 1)) (K : Kw X k n ws (pc + 1) lv (.long (x * y) :: st)) : Kw X k n ws pc lv (.long y :: .long x :: st) := fun H locs ls hP hD hS hl => lv_lmul C.hx C.hb hd (K H locs ls hP hD hS hl)
theorem k_idiv (C : Cx X cc own Ts rm tys nL) {x y : Int32} (hd : decode cc pc = .ok (.idiv, 1)) (hne : ¬ y = 0) (K : Kw X k n ws (pc + 1) lv (.int (x / y) :: st)) : Kw X k n ws pc lv (.int y :: .int x :: st) := fun H locs ls hP hD hS hl => lv_idiv C.hx C.hb hd hne (K H locs ls hP hD hS hl)
theorem k_irem (C : Cx X cc own Ts rm tys nL) {x y : Int32} (hd : decode cc pc = .ok (.irem, 1)) (hne : ¬ y = 0) (K : Kw X k n ws (pc + 1) lv (.int (x - x / y * y) :: st)) : Kw X k n ws pc lv (.int y :: .int x :: st) := fun H locs ls hP hD hS hl => lv_irem C.hx C.hb hd hne (K H locs ls hP hD hS hl)
theorem k_ldiv (C : Cx X cc own Ts rm tys nL) {x y : Int64} (hd : decode cc pc = .ok (.ldiv, 1)) (hne : ¬ y = 0) (K : Kw X k n ws (pc + 1) lv (.long (x / y) :: st)) : Kw X k n ws pc lv (.long y :: .long x :: st) := fun H locs ls hP hD hS hl => lv_ldiv C.hx C.hb hd hne (K H locs ls hP hD hS hl)
theorem k_lrem (C : Cx X cc own Ts rm tys nL) {x y : Int64} (hd : decode cc pc = .ok (.lrem, 1)) (hne : ¬ y = 0) (K : Kw X k n ws (pc + 1) lv (.long (x - x / y * y) :: st)) : Kw X k n ws pc lv (.long y :: .long x :: st) := fun H locs ls hP hD hS hl => lv_lrem C.hx C.hb hd hne (K H locs ls hP hD hS hl)
theorem k_ineg (C : Cx X cc own Ts rm tys nL) {x : Int32} (hd : decode cc pc = .ok (.ineg, 1)) (K : Kw X k n ws (pc + 1) lv (.int (-x) :: st)) : Kw X k n ws pc lv (.int x :: st) := fun H locs ls hP hD hS hl => lv_ineg C.hx C.hb hd (K H locs ls hP hD hS hl)
theorem k_lneg (C : Cx X cc own Ts rm tys nL) {x : Int64} (hd : decode cc pc = .ok (.lneg, 1)) (K : Kw X k n ws (pc + 1) lv (.long (-x) :: st)) : Kw X k n ws pc lv (.long x :: st) := fun H locs ls hP hD hS hl => lv_lneg C.hx C.hb hd (K H locs ls hP hD hS hl)
theorem k_i2l (C : Cx X cc own Ts rm tys nL) {x : Int32} (hd : decode cc pc = .ok (.i2l, 1)) (K : Kw X k n ws (pc + 1) lv (.long x.toInt64 :: st)) : Kw X k n ws pc lv (.int x :: st) := fun H locs ls hP hD hS hl => lv_i2l C.hx C.hb hd rfl (K H locs ls hP hD hS hl)
theorem k_l2i (C : Cx X cc own Ts rm tys nL) {x : Int64} (hd : decode cc pc = .ok (.l2i, 1)) (K : Kw X k n ws (pc + 1) lv (.int x.toInt32 :: st)) : Kw X k n ws pc lv (.long x :: st) := fun H locs ls hP hD hS hl => lv_l2i C.hx C.hb hd rfl (K H locs ls hP hD hS hl)
theorem k_l2d (C : Cx X cc own Ts rm tys nL) {x : Int64} (hd : decode cc pc = .ok (.l2d, 1)) (K : Kw X k n ws (pc + 1) lv (.double (FP.l2d x) :: st)) : Kw X k n ws pc lv (.long x :: st) := fun H locs ls hP hD hS hl => lv_l2d C.hx C.hb hd (K H locs ls hP hD hS hl)
theorem k_iushr (C : Cx X cc own Ts rm tys nL) {x y : Int32} (hd : decode cc pc = .ok (.iushr, 1)) (K : Kw X k n ws (pc + 1) lv (.int ((x.toUInt32 >>> (y.toUInt32 &&& Int32.toUInt32 31)).toInt32) :: st)) : Kw X k n ws pc lv (.int y :: .int x :: st) := fun H locs ls hP hD hS hl => lv_iushr C.hx C.hb hd rfl (K H locs ls hP hD hS hl)
theorem k_dmul (C : Cx X cc own Ts rm tys nL) {x y : UInt64} (hd : decode cc pc = .ok (.dmul, 1)) (hne : vf_n64 (FP.dmul x y)) (K : Kw X k n ws (pc + 1) lv (.double (FP.dmul x y) :: st)) : Kw X k n ws pc lv (.double y :: .double x :: st) := fun H locs ls hP hD hS hl => lv_dmul C.hx C.hb hd hne (K H locs ls hP hD hS hl)
theorem k_ddiv (C : Cx X cc own Ts rm tys nL) {x y : UInt64} (hd : decode cc pc = .ok (.ddiv, 1)) (hne : vf_n64 (FP.ddiv x y)) (K : Kw X k n ws (pc + 1) lv (.double (FP.ddiv x y) :: st)) : Kw X k n ws pc lv (.double y :: .double x :: st) := fun H locs ls hP hD hS hl => lv_ddiv C.hx C.hb hd hne (K H locs ls hP hD hS hl)
theorem k_dcmp (C : Cx X cc own Ts rm tys nL) {x y : UInt64} {op : CmpOp} (hd : decode cc pc = .ok (.dcmp op, 1)) (K : Kw X k n ws (pc + 1) lv (.int (Op.cmpValue (FP.dcmp x y) op) :: st)) : Kw X k n ws pc lv (.double y :: .double x :: st) := fun H locs ls hP hD hS hl => lv_dcmp C.hx C.hb hd (K H locs ls hP hD hS hl)
theorem k_lcmp (C : Cx X cc own Ts rm tys nL) {x y : Int64} (hd : decode cc pc = .ok (.lcmp, 1)) (K : Kw X k n ws (pc + 1) lv (.int (lg_cmp x y) :: st)) : Kw X k n ws pc lv (.long y :: .long x :: st) := fun H locs ls hP hD hS hl => W.lcmp C.hx C.hb hd (K H locs ls hP hD hS hl)
theorem k_dup (C : Cx X cc own Ts rm tys nL) {v : Value} (hd : decode cc pc = .ok (.dup, 1)) (hv : v.category = 1) (K : Kw X k n ws (pc + 1) lv (v :: v :: st)) : Kw X k n ws pc lv (v :: st) := fun H locs ls hP hD hS hl => lv_dup C.hx C.hb hd hv (K H locs ls hP hD hS hl)
theorem k_pop (C : Cx X cc own Ts rm tys nL) {v : Value} (hd : decode cc pc = .ok (.pop, 1)) (hv : v.category = 1) (K : Kw X k n ws (pc + 1) lv st) : Kw X k n ws pc lv (v :: st) := fun H locs ls hP hD hS hl => lv_pop C.hx C.hb hd hv (K H locs ls hP hD hS hl)
theorem k_dup2 (C : Cx X cc own Ts rm tys nL) {v w : Value} (hd : decode cc pc = .ok (.dup2, 1)) (hv : v.category = 1) (hw : w.category = 1) (K : Kw X k n ws (pc + 1) lv (v :: w :: v :: w :: st)) : Kw X k n ws pc lv (v :: w :: st) := fun H locs ls hP hD hS hl => lv_dup2_11 C.hx C.hb hd hv hw (K H locs ls hP hD hS hl)
theorem k_ldc (C : Cx X cc own Ts rm tys nL) {i : Nat} {v : Int32} (hd : decode cc pc = .ok (.ldc i, 2)) (hc : Cond.constant own i v ∈ Ts) (K : Kw X k n ws (pc + 2) lv (.int v :: st)) : Kw X k n ws pc lv st := fun H locs ls hP hD hS hl => lv_ldc C.hx C.hb C.hown (C.hts _ hc) hd (K H locs ls hP hD hS hl)
theorem k_ldc2 (C : Cx X cc own Ts rm tys nL) {i : Nat} {v : Int64} (hd : decode cc pc = .ok (.ldc2_w i, 3)) (hc : Cond.constantLong own i v ∈ Ts) (K : Kw X k n ws (pc + 3) lv (.long v :: st)) : Kw X k n ws pc lv st := fun H locs ls hP hD hS hl => lv_ldc2 C.hx C.hb C.hown (C.hts _ hc) hd (K H locs ls hP hD hS hl)
theorem k_ldc2d (C : Cx X cc own Ts rm tys nL) {i : Nat} {v : UInt64} (hd : decode cc pc = .ok (.ldc2_w i, 3)) (hc : Cond.constantDouble own i v ∈ Ts) (K : Kw X k n ws (pc + 3) lv (.double v :: st)) : Kw X k n ws pc lv st := fun H locs ls hP hD hS hl => lv_ldc2d C.hx C.hb C.hown (C.hts _ hc) hd (K H locs ls hP hD hS hl)
theorem k_if_eq (C : Cx X cc own Ts rm tys nL) {x : Int32} {off : Int} (tgt : Nat) (hd : decode cc pc = .ok (.ifCond .eq off, 3)) (ht : (pc : Int) + off = (tgt : Int)) (kt : x = 0 → Kw X k n ws tgt lv st) (kf : ¬ x = 0 → Kw X k n ws (pc + 3) lv st) : Kw X k n ws pc lv (.int x :: st) := fun H locs ls hP hD hS hl => lv_if_eq C.hx C.hb hd ht (fun h => kt h H locs ls hP hD hS hl) (fun h => kf h H locs ls hP hD hS hl)
theorem k_if_ne (C : Cx X cc own Ts rm tys nL) {x : Int32} {off : Int} (tgt : Nat) (hd : decode cc pc = .ok (.ifCond .ne off, 3)) (ht : (pc : Int) + off = (tgt : Int)) (kt : ¬ x = 0 → Kw X k n ws tgt lv st) (kf : ¬ ¬ x = 0 → Kw X k n ws (pc + 3) lv st) : Kw X k n ws pc lv (.int x :: st) := fun H locs ls hP hD hS hl => lv_if_ne C.hx C.hb hd ht (fun h => kt h H locs ls hP hD hS hl) (fun h => kf h H locs ls hP hD hS hl)
theorem k_if_lt (C : Cx X cc own Ts rm tys nL) {x : Int32} {off : Int} (tgt : Nat) (hd : decode cc pc = .ok (.ifCond .lt off, 3)) (ht : (pc : Int) + off = (tgt : Int)) (kt : x < 0 → Kw X k n ws tgt lv st) (kf : ¬ x < 0 → Kw X k n ws (pc + 3) lv st) : Kw X k n ws pc lv (.int x :: st) := fun H locs ls hP hD hS hl => lv_if_lt C.hx C.hb hd ht (fun h => kt h H locs ls hP hD hS hl) (fun h => kf h H locs ls hP hD hS hl)
theorem k_if_ge (C : Cx X cc own Ts rm tys nL) {x : Int32} {off : Int} (tgt : Nat) (hd : decode cc pc = .ok (.ifCond .ge off, 3)) (ht : (pc : Int) + off = (tgt : Int)) (kt : 0 ≤ x → Kw X k n ws tgt lv st) (kf : ¬ 0 ≤ x → Kw X k n ws (pc + 3) lv st) : Kw X k n ws pc lv (.int x :: st) := fun H locs ls hP hD hS hl => lv_if_ge C.hx C.hb hd ht (fun h => kt h H locs ls hP hD hS hl) (fun h => kf h H locs ls hP hD hS hl)
theorem k_if_gt (C : Cx X cc own Ts rm tys nL) {x : Int32} {off : Int} (tgt : Nat) (hd : decode cc pc = .ok (.ifCond .gt off, 3)) (ht : (pc : Int) + off = (tgt : Int)) (kt : 0 < x → Kw X k n ws tgt lv st) (kf : ¬ 0 < x → Kw X k n ws (pc + 3) lv st) : Kw X k n ws pc lv (.int x :: st) := fun H locs ls hP hD hS hl => lv_if_gt C.hx C.hb hd ht (fun h => kt h H locs ls hP hD hS hl) (fun h => kf h H locs ls hP hD hS hl)
theorem k_if_le (C : Cx X cc own Ts rm tys nL) {x : Int32} {off : Int} (tgt : Nat) (hd : decode cc pc = .ok (.ifCond .le off, 3)) (ht : (pc : Int) + off = (tgt : Int)) (kt : x ≤ 0 → Kw X k n ws tgt lv st) (kf : ¬ x ≤ 0 → Kw X k n ws (pc + 3) lv st) : Kw X k n ws pc lv (.int x :: st) := fun H locs ls hP hD hS hl => lv_if_le C.hx C.hb hd ht (fun h => kt h H locs ls hP hD hS hl) (fun h => kf h H locs ls hP hD hS hl)
theorem k_icmp_eq (C : Cx X cc own Ts rm tys nL) {x y : Int32} {off : Int} (tgt : Nat) (hd : decode cc pc = .ok (.if_icmp .eq off, 3)) (ht : (pc : Int) + off = (tgt : Int)) (kt : x = y → Kw X k n ws tgt lv st) (kf : ¬ x = y → Kw X k n ws (pc + 3) lv st) : Kw X k n ws pc lv (.int y :: .int x :: st) := fun H locs ls hP hD hS hl => lv_icmp_eq C.hx C.hb hd ht (fun h => kt h H locs ls hP hD hS hl) (fun h => kf h H locs ls hP hD hS hl)
theorem k_icmp_ne (C : Cx X cc own Ts rm tys nL) {x y : Int32} {off : Int} (tgt : Nat) (hd : decode cc pc = .ok (.if_icmp .ne off, 3)) (ht : (pc : Int) + off = (tgt : Int)) (kt : ¬ x = y → Kw X k n ws tgt lv st) (kf : ¬ ¬ x = y → Kw X k n ws (pc + 3) lv st) : Kw X k n ws pc lv (.int y :: .int x :: st) := fun H locs ls hP hD hS hl => lv_icmp_ne C.hx C.hb hd ht (fun h => kt h H locs ls hP hD hS hl) (fun h => kf h H locs ls hP hD hS hl)
theorem k_icmp_lt (C : Cx X cc own Ts rm tys nL) {x y : Int32} {off : Int} (tgt : Nat) (hd : decode cc pc = .ok (.if_icmp .lt off, 3)) (ht : (pc : Int) + off = (tgt : Int)) (kt : x < y → Kw X k n ws tgt lv st) (kf : ¬ x < y → Kw X k n ws (pc + 3) lv st) : Kw X k n ws pc lv (.int y :: .int x :: st) := fun H locs ls hP hD hS hl => lv_icmp_lt C.hx C.hb hd ht (fun h => kt h H locs ls hP hD hS hl) (fun h => kf h H locs ls hP hD hS hl)
theorem k_icmp_ge (C : Cx X cc own Ts rm tys nL) {x y : Int32} {off : Int} (tgt : Nat) (hd : decode cc pc = .ok (.if_icmp .ge off, 3)) (ht : (pc : Int) + off = (tgt : Int)) (kt : y ≤ x → Kw X k n ws tgt lv st) (kf : ¬ y ≤ x → Kw X k n ws (pc + 3) lv st) : Kw X k n ws pc lv (.int y :: .int x :: st) := fun H locs ls hP hD hS hl => lv_icmp_ge C.hx C.hb hd ht (fun h => kt h H locs ls hP hD hS hl) (fun h => kf h H locs ls hP hD hS hl)
theorem k_icmp_gt (C : Cx X cc own Ts rm tys nL) {x y : Int32} {off : Int} (tgt : Nat) (hd : decode cc pc = .ok (.if_icmp .gt off, 3)) (ht : (pc : Int) + off = (tgt : Int)) (kt : y < x → Kw X k n ws tgt lv st) (kf : ¬ y < x → Kw X k n ws (pc + 3) lv st) : Kw X k n ws pc lv (.int y :: .int x :: st) := fun H locs ls hP hD hS hl => lv_icmp_gt C.hx C.hb hd ht (fun h => kt h H locs ls hP hD hS hl) (fun h => kf h H locs ls hP hD hS hl)
theorem k_icmp_le (C : Cx X cc own Ts rm tys nL) {x y : Int32} {off : Int} (tgt : Nat) (hd : decode cc pc = .ok (.if_icmp .le off, 3)) (ht : (pc : Int) + off = (tgt : Int)) (kt : x ≤ y → Kw X k n ws tgt lv st) (kf : ¬ x ≤ y → Kw X k n ws (pc + 3) lv st) : Kw X k n ws pc lv (.int y :: .int x :: st) := fun H locs ls hP hD hS hl => lv_icmp_le C.hx C.hb hd ht (fun h => kt h H locs ls hP hD hS hl) (fun h => kf h H locs ls hP hD hS hl)
theorem k_goto (C : Cx X cc own Ts rm tys nL) {off : Int} (tgt : Nat) (hd : decode cc pc = .ok (.goto off, 3)) (ht : (pc : Int) + off = (tgt : Int)) (K : Kw X k n ws tgt lv st) : Kw X k n ws pc lv st := fun H locs ls hP hD hS hl => lv_goto C.hx C.hb hd ht (K H locs ls hP hD hS hl)
theorem k_tableIn (C : Cx X cc own Ts rm tys nL) {dflt lo hi : Int} {offs : Array Int} {len : Nat} {x : Int32} {off : Int} (tgt : Nat) (hd : decode cc pc = .ok (.tableswitch dflt lo hi offs, len)) (h1 : ¬ x.toInt < lo) (h2 : ¬ hi < x.toInt) (ho : offs[(x.toInt - lo).toNat]? = some off) (ht : (pc : Int) + off = (tgt : Int)) (K : Kw X k n ws tgt lv st) : Kw X k n ws pc lv (.int x :: st) := fun H locs ls hP hD hS hl => lv_tableIn C.hx C.hb hd h1 h2 ho ht (K H locs ls hP hD hS hl)
theorem k_tableOut (C : Cx X cc own Ts rm tys nL) {dflt lo hi : Int} {offs : Array Int} {len : Nat} {x : Int32} (tgt : Nat) (hd : decode cc pc = .ok (.tableswitch dflt lo hi offs, len)) (h : x.toInt < lo ∨ hi < x.toInt) (ht : (pc : Int) + dflt = (tgt : Int)) (K : Kw X k n ws tgt lv st) : Kw X k n ws pc lv (.int x :: st) := fun H locs ls hP hD hS hl => lv_tableOut C.hx C.hb hd h ht (K H locs ls hP hD hS hl)
theorem k_get (C : Cx X cc own Ts rm tys nL) {ref C0 : String} {T : u_T} {N ci index a : Nat} {fs : List Value} {v : Value} (hin : ∀ w ∈ u_ws C0 T N, w ∈ Ts) (q0 : Nat) (f : Nat) (he : ws[q0]? = some (a, .inr (ci, fs))) (hc : vwCl[ci]? = some (C0, T, N)) (hk : f < N) (hlink : Cond.fieldLink own index ref (T f).2.1 (T f).2.2.1 ∈ Ts) (href : (T f).1 = ref) (hv : fs[f]? = some v) (hd : decode cc pc = .ok (.getfield index, 3)) (K : Kw X k n ws (pc + 3) lv (v :: st)) : Kw X k n ws pc lv (.ref a :: st) := fun H locs ls hP hD hS hl => va_get C.hx C.hb C.hts hin C.hown C.hK hP q0 he hc f hk (C.hts _ hlink) (fun _ h => by rw [← href]; exact h) hv hd (K H locs ls hP hD hS hl)
theorem k_getN (C : Cx X cc own Ts rm tys nL) {ref C0 host : String} {T : u_T} {N ci index a : Nat} {fs : List Value} {v : Value} (hin : ∀ w ∈ u_ws C0 T N, w ∈ Ts) (q0 : Nat) (f : Nat) (he : ws[q0]? = some (a, .inr (ci, fs))) (hc : vwCl[ci]? = some (C0, T, N)) (hk : f < N) (hlink : Cond.fieldLinkNest own index ref (T f).2.1 (T f).2.2.1 host ∈ kNW) (href : (T f).1 = ref) (hv : fs[f]? = some v) (hd : decode cc pc = .ok (.getfield index, 3)) (K : Kw X k n ws (pc + 3) lv (v :: st)) : Kw X k n ws pc lv (.ref a :: st) := fun H locs ls hP hD hS hl => va_getN C.hx C.hb C.hts hin C.hown C.hK hP q0 he hc f hk (va_Nw.use rfl (C.hN _ hlink)) (fun _ h => by rw [← href]; exact h) hv hd (K H locs ls hP hD hS hl)
theorem k_put (C : Cx X cc own Ts rm tys nL) {ref C0 : String} {T : u_T} {N ci index a : Nat} {fs : List Value} {v : Value} {ws' : va_W} (hin : ∀ w ∈ u_ws C0 T N, w ∈ Ts) (ty0 : Nat → FieldType) (hty : ∀ k, k < N → parseFieldDescriptor (T k).2.2.1 = some (ty0 k)) (hnm : ∀ a, a < N → ∀ b, b < N → a ≠ b → (T a).2.1 ≠ (T b).2.1) (q0 : Nat) (f : Nat) (he : ws[q0]? = some (a, .inr (ci, fs))) (hc : vwCl[ci]? = some (C0, T, N)) (hk : f < N) (hlink : Cond.fieldLink own index ref (T f).2.1 (T f).2.2.1 ∈ Ts) (href : (T f).1 = ref) (hfin : (T f).2.2.2 = false) (hn : narrow (ty0 f) v = v) (hfit : fits (ty0 f) v = true) (hl' : f < fs.length) (hw : ws.set q0 (a, .inr (ci, fs.set f v)) = ws') (hd : decode cc pc = .ok (.putfield index, 3)) (K : Kw X k n ws' (pc + 3) lv st) : Kw X k n ws pc lv (v :: .ref a :: st) := fun H locs ls hP hD hS hl => va_put C.hx C.hb C.hts hin ty0 hty hnm C.hown C.hK hP hD hS q0 he hc f hk (C.hts _ hlink) (fun _ h => by rw [← href]; exact h) hfin (hty f hk) hn hfit hl' hd (fun H1 locs1 hP1 hD1 hS1 => K H1 locs1 ls (hw ▸ hP1) (hw ▸ hD1) hS1 hl)
theorem k_putN (C : Cx X cc own Ts rm tys nL) {ref C0 host : String} {T : u_T} {N ci index a : Nat} {fs : List Value} {v : Value} {ws' : va_W} (hin : ∀ w ∈ u_ws C0 T N, w ∈ Ts) (ty0 : Nat → FieldType) (hty : ∀ k, k < N → parseFieldDescriptor (T k).2.2.1 = some (ty0 k)) (hnm : ∀ a, a < N → ∀ b, b < N → a ≠ b → (T a).2.1 ≠ (T b).2.1) (q0 : Nat) (f : Nat) (he : ws[q0]? = some (a, .inr (ci, fs))) (hc : vwCl[ci]? = some (C0, T, N)) (hk : f < N) (hlink : Cond.fieldLinkNest own index ref (T f).2.1 (T f).2.2.1 host ∈ kNW) (href : (T f).1 = ref) (hfin : (T f).2.2.2 = false) (hn : narrow (ty0 f) v = v) (hfit : fits (ty0 f) v = true) (hl' : f < fs.length) (hw : ws.set q0 (a, .inr (ci, fs.set f v)) = ws') (hd : decode cc pc = .ok (.putfield index, 3)) (K : Kw X k n ws' (pc + 3) lv st) : Kw X k n ws pc lv (v :: .ref a :: st) := fun H locs ls hP hD hS hl => va_putN C.hx C.hb C.hts hin ty0 hty hnm C.hown C.hK hP hD hS q0 he hc f hk (va_Nw.use rfl (C.hN _ hlink)) (fun _ h => by rw [← href]; exact h) hfin (hty f hk) hn hfit hl' hd (fun H1 locs1 hP1 hD1 hS1 => K H1 locs1 ls (hw ▸ hP1) (hw ▸ hD1) hS1 hl)
theorem k_putF (C : Cx X cc own Ts rm tys nL) {ref C0 : String} {T : u_T} {N ci index a : Nat} {fs : List Value} {v : Value} {ws' : va_W} (hin : ∀ w ∈ u_ws C0 T N, w ∈ Ts) (ty0 : Nat → FieldType) (hty : ∀ k, k < N → parseFieldDescriptor (T k).2.2.1 = some (ty0 k)) (hnm : ∀ a, a < N → ∀ b, b < N → a ≠ b → (T a).2.1 ≠ (T b).2.1) (q0 : Nat) (f : Nat) (he : ws[q0]? = some (a, .inr (ci, fs))) (hc : vwCl[ci]? = some (C0, T, N)) (hk : f < N) (hlink : Cond.fieldLink own index ref (T f).2.1 (T f).2.2.1 ∈ Ts) (href : (T f).1 = ref) (hfin : (T f).2.2.2 = true) (hin2 : (kxH X).name = "<init>") (hdecl : (T f).1 = own) (hn : narrow (ty0 f) v = v) (hfit : fits (ty0 f) v = true) (hl' : f < fs.length) (hw : ws.set q0 (a, .inr (ci, fs.set f v)) = ws') (hd : decode cc pc = .ok (.putfield index, 3)) (K : Kw X k n ws' (pc + 3) lv st) : Kw X k n ws pc lv (v :: .ref a :: st) := fun H locs ls hP hD hS hl => va_putF C.hx C.hb C.hts hin ty0 hty hnm C.hown C.hK hP hD hS q0 he hc f hk (C.hts _ hlink) (fun _ h => by rw [← href]; exact h) hfin hin2 hdecl (hty f hk) hn hfit hl' hd (fun H1 locs1 hP1 hD1 hS1 => K H1 locs1 ls (hw ▸ hP1) (hw ▸ hD1) hS1 hl)
theorem k_iald (C : Cx X cc own Ts rm tys nL) {a : Nat} {cA : ClassId} {N j : Nat} {f : Nat → Int32} (q0 t0 : Nat) (ha : ws[q0]? = some (a, .inl (cA, N, .inl f))) (ht : tys[t0]? = some (cA, .int)) (hj : j < N) (hN : N < 2 ^ 31) (hd : decode cc pc = .ok (.iaload, 1)) (K : Kw X k n ws (pc + 1) lv (.int (f j) :: st)) : Kw X k n ws pc lv (.int (nI j) :: .ref a :: st) := fun H locs ls hP hD hS hl => va_iald C.hx C.hb C.hK hP q0 t0 ha ht (vp_in_nI hj hN) hd (by rw [nI_clamp (Nat.lt_trans hj hN)]; exact K H locs ls hP hD hS hl)
theorem k_iast (C : Cx X cc own Ts rm tys nL) {a : Nat} {cA : ClassId} {N j : Nat} {f : Nat → Int32} {x : Int32} {ws' : va_W} (q0 t0 : Nat) (ha : ws[q0]? = some (a, .inl (cA, N, .inl f))) (ht : tys[t0]? = some (cA, .int)) (hj : j < N) (hN : N < 2 ^ 31) (hw : ws.set q0 (a, .inl (cA, N, .inl (upd f j x))) = ws') (hd : decode cc pc = .ok (.iastore, 1)) (K : Kw X k n ws' (pc + 1) lv st) : Kw X k n ws pc lv (.int x :: .int (nI j) :: .ref a :: st) := fun H locs ls hP hD hS hl => va_iast C.hx C.hb C.hK hP hD hS q0 t0 ha ht (vp_in_nI hj hN) hd (by rw [nI_clamp (Nat.lt_trans hj hN)]; exact fun H1 locs1 hP1 hD1 hS1 => K H1 locs1 ls (hw ▸ hP1) (hw ▸ hD1) hS1 hl)
theorem k_lald (C : Cx X cc own Ts rm tys nL) {a : Nat} {cA : ClassId} {N j : Nat} {f : Nat → Int64} (q0 t0 : Nat) (ha : ws[q0]? = some (a, .inl (cA, N, .inr (.inl f)))) (ht : tys[t0]? = some (cA, .long)) (hj : j < N) (hN : N < 2 ^ 31) (hd : decode cc pc = .ok (.laload, 1)) (K : Kw X k n ws (pc + 1) lv (.long (f j) :: st)) : Kw X k n ws pc lv (.int (nI j) :: .ref a :: st) := fun H locs ls hP hD hS hl => va_lald C.hx C.hb C.hK hP q0 t0 ha ht (vp_in_nI hj hN) hd (by rw [nI_clamp (Nat.lt_trans hj hN)]; exact K H locs ls hP hD hS hl)
theorem k_last (C : Cx X cc own Ts rm tys nL) {a : Nat} {cA : ClassId} {N j : Nat} {f : Nat → Int64} {x : Int64} {ws' : va_W} (q0 t0 : Nat) (ha : ws[q0]? = some (a, .inl (cA, N, .inr (.inl f)))) (ht : tys[t0]? = some (cA, .long)) (hj : j < N) (hN : N < 2 ^ 31) (hw : ws.set q0 (a, .inl (cA, N, .inr (.inl (vp_updL f j x)))) = ws') (hd : decode cc pc = .ok (.lastore, 1)) (K : Kw X k n ws' (pc + 1) lv st) : Kw X k n ws pc lv (.long x :: .int (nI j) :: .ref a :: st) := fun H locs ls hP hD hS hl => va_last C.hx C.hb C.hK hP hD hS q0 t0 ha ht (vp_in_nI hj hN) hd (by rw [nI_clamp (Nat.lt_trans hj hN)]; exact fun H1 locs1 hP1 hD1 hS1 => K H1 locs1 ls (hw ▸ hP1) (hw ▸ hD1) hS1 hl)
theorem k_dald (C : Cx X cc own Ts rm tys nL) {a : Nat} {cA : ClassId} {N j : Nat} {f : Nat → UInt64} (q0 t0 : Nat) (ha : ws[q0]? = some (a, .inl (cA, N, .inr (.inr (.inr (.inl f)))))) (ht : tys[t0]? = some (cA, .double)) (hj : j < N) (hN : N < 2 ^ 31) (hd : decode cc pc = .ok (.daload, 1)) (K : Kw X k n ws (pc + 1) lv (.double (f j) :: st)) : Kw X k n ws pc lv (.int (nI j) :: .ref a :: st) := fun H locs ls hP hD hS hl => va_dald C.hx C.hb C.hK hP q0 t0 ha ht (vp_in_nI hj hN) hd (by rw [nI_clamp (Nat.lt_trans hj hN)]; exact K H locs ls hP hD hS hl)
theorem k_dast (C : Cx X cc own Ts rm tys nL) {a : Nat} {cA : ClassId} {N j : Nat} {f : Nat → UInt64} {x : UInt64} {ws' : va_W} (q0 t0 : Nat) (ha : ws[q0]? = some (a, .inl (cA, N, .inr (.inr (.inr (.inl f)))))) (ht : tys[t0]? = some (cA, .double)) (hj : j < N) (hN : N < 2 ^ 31) (hw : ws.set q0 (a, .inl (cA, N, .inr (.inr (.inr (.inl (vf_upd f j x)))))) = ws') (hd : decode cc pc = .ok (.dastore, 1)) (K : Kw X k n ws' (pc + 1) lv st) : Kw X k n ws pc lv (.double x :: .int (nI j) :: .ref a :: st) := fun H locs ls hP hD hS hl => va_dast C.hx C.hb C.hK hP hD hS q0 t0 ha ht (vp_in_nI hj hN) hd (by rw [nI_clamp (Nat.lt_trans hj hN)]; exact fun H1 locs1 hP1 hD1 hS1 => K H1 locs1 ls (hw ▸ hP1) (hw ▸ hD1) hS1 hl)
theorem k_aald (C : Cx X cc own Ts rm tys nL) {a b : Nat} {cA : ClassId} {C0 : String} {N j : Nat} {f : Nat → Option Nat} (q0 t0 : Nat) (ha : ws[q0]? = some (a, .inl (cA, N, .inr (.inr (.inr (.inr f)))))) (ht : tys[t0]? = some (cA, .object C0)) (hj : j < N) (hN : N < 2 ^ 31) (hf : f j = some b) (hd : decode cc pc = .ok (.aaload, 1)) (K : Kw X k n ws (pc + 1) lv (.ref b :: st)) : Kw X k n ws pc lv (.int (nI j) :: .ref a :: st) := fun H locs ls hP hD hS hl => va_aldq C.hx C.hb C.hK hP q0 t0 ha ht (vp_in_nI hj hN) hd (by rw [nI_clamp (Nat.lt_trans hj hN), hf]; exact K H locs ls hP hD hS hl)
theorem k_aast (C : Cx X cc own Ts rm tys nL) {a v : Nat} {cA : ClassId} {r : vw_C} {vs : List Value} {N j ci : Nat} {f : Nat → Option Nat} {ws' : va_W} (q0 t0 qk : Nat) (ha : ws[q0]? = some (a, .inl (cA, N, .inr (.inr (.inr (.inr f)))))) (ht : tys[t0]? = some (cA, .object r.1)) (hv : ws[qk]? = some (v, .inr (ci, vs))) (hc : vwCl[ci]? = some r) (hj : j < N) (hN : N < 2 ^ 31) (hw : ws.set q0 (a, .inl (cA, N, .inr (.inr (.inr (.inr (va_up f j (some v))))))) = ws') (hd : decode cc pc = .ok (.aastore, 1)) (K : Kw X k n ws' (pc + 1) lv st) : Kw X k n ws pc lv (.ref v :: .int (nI j) :: .ref a :: st) := fun H locs ls hP hD hS hl => va_astq C.hx C.hb C.hK hP hD hS q0 t0 qk ci ha ht hv hc (vp_in_nI hj hN) hd (by rw [nI_clamp (Nat.lt_trans hj hN)]; exact fun H1 locs1 hP1 hD1 hS1 => K H1 locs1 ls (hw ▸ hP1) (hw ▸ hD1) hS1 hl)
theorem k_alen (C : Cx X cc own Ts rm tys nL) {a : Nat} {cA : ClassId} {x : vp_A} {ty : FieldType} (q0 t0 : Nat) (ha : ws[q0]? = some (a, .inl (cA, x))) (ht : tys[t0]? = some (cA, ty)) (hd : decode cc pc = .ok (.arraylength, 1)) (K : Kw X k n ws (pc + 1) lv (.int (nI x.1) :: st)) : Kw X k n ws pc lv (.ref a :: st) := fun H locs ls hP hD hS hl => va_alen C.hx C.hb C.hK hP q0 t0 ha ht rfl hd (K H locs ls hP hD hS hl)
def b2i (b : Bool) : Int32 := if b then 1 else 0
theorem b2i_0 {b : Bool} : b2i b = 0 ↔ b = false := by cases b <;> decide
theorem b2i_1 {b : Bool} : ¬ b2i b = 0 ↔ b = true := by cases b <;> decide
theorem k_iaddN (C : Cx X cc own Ts rm tys nL) {x y : Nat} (hd : decode cc pc = .ok (.iadd, 1)) (K : Kw X k n ws (pc + 1) lv (.int (nI (x + y)) :: st)) : Kw X k n ws pc lv (.int (nI y) :: .int (nI x) :: st) := k_iadd C hd (by rw [nI_add]; exact K)
theorem k_isubN (C : Cx X cc own Ts rm tys nL) {x y : Nat} (h : y ≤ x) (hd : decode cc pc = .ok (.isub, 1)) (K : Kw X k n ws (pc + 1) lv (.int (nI (x - y)) :: st)) : Kw X k n ws pc lv (.int (nI y) :: .int (nI x) :: st) := k_isub C hd (by rw [pk_sub h]; exact K)
theorem k_imulN (C : Cx X cc own Ts rm tys nL) {x y : Nat} (hd : decode cc pc = .ok (.imul, 1)) (K : Kw X k n ws (pc + 1) lv (.int (nI (x * y)) :: st)) : Kw X k n ws pc lv (.int (nI y) :: .int (nI x) :: st) := k_imul C hd (by rw [pk_mul]; exact K)
theorem k_idivN (C : Cx X cc own Ts rm tys nL) {x y : Nat} (hx : x < 2 ^ 31) (h0 : 0 < y) (hy : y < 2 ^ 31) (hd : decode cc pc = .ok (.idiv, 1)) (K : Kw X k n ws (pc + 1) lv (.int (nI (x / y)) :: st)) : Kw X k n ws pc lv (.int (nI y) :: .int (nI x) :: st) := k_idiv C hd (nI_ne0 h0 hy) (by rw [pk_div hx h0 hy]; exact K)
theorem k_iremN (C : Cx X cc own Ts rm tys nL) {x y : Nat} (hx : x < 2 ^ 31) (h0 : 0 < y) (hy : y < 2 ^ 31) (hd : decode cc pc = .ok (.irem, 1)) (K : Kw X k n ws (pc + 1) lv (.int (nI (x % y)) :: st)) : Kw X k n ws pc lv (.int (nI y) :: .int (nI x) :: st) := k_irem C hd (nI_ne0 h0 hy) (by rw [pk_rem hx h0 hy]; exact K)
theorem k_if_eqB (C : Cx X cc own Ts rm tys nL) {x : Bool} {off : Int} (tgt : Nat) (hd : decode cc pc = .ok (.ifCond .eq off, 3)) (ht : (pc : Int) + off = (tgt : Int)) (kt : x = false → Kw X k n ws tgt lv st) (kf : x = true → Kw X k n ws (pc + 3) lv st) : Kw X k n ws pc lv (.int (b2i x) :: st) := k_if_eq C tgt hd ht (fun h => kt (b2i_0.mp h)) (fun h => kf (b2i_1.mp h))
theorem k_if_neB (C : Cx X cc own Ts rm tys nL) {x : Bool} {off : Int} (tgt : Nat) (hd : decode cc pc = .ok (.ifCond .ne off, 3)) (ht : (pc : Int) + off = (tgt : Int)) (kt : x = true → Kw X k n ws tgt lv st) (kf : x = false → Kw X k n ws (pc + 3) lv st) : Kw X k n ws pc lv (.int (b2i x) :: st) := k_if_ne C tgt hd ht (fun h => kt (b2i_1.mp h)) (fun h => kf (Classical.byContradiction fun h2 => h (by intro h3; exact h2 (b2i_0.mp h3))))
theorem k_icmp_eqN (C : Cx X cc own Ts rm tys nL) {x y : Nat} (hx : x < 2 ^ 31) (hy : y < 2 ^ 31) {off : Int} (tgt : Nat) (hd : decode cc pc = .ok (.if_icmp .eq off, 3)) (ht : (pc : Int) + off = (tgt : Int)) (kt : x = y → Kw X k n ws tgt lv st) (kf : ¬ x = y → Kw X k n ws (pc + 3) lv st) : Kw X k n ws pc lv (.int (nI y) :: .int (nI x) :: st) := k_icmp_eq C tgt hd ht (fun h => kt ((nI_eq hx hy).mp h)) (fun h => kf (fun h2 => h ((nI_eq hx hy).mpr h2)))
theorem k_icmp_neN (C : Cx X cc own Ts rm tys nL) {x y : Nat} (hx : x < 2 ^ 31) (hy : y < 2 ^ 31) {off : Int} (tgt : Nat) (hd : decode cc pc = .ok (.if_icmp .ne off, 3)) (ht : (pc : Int) + off = (tgt : Int)) (kt : ¬ x = y → Kw X k n ws tgt lv st) (kf : x = y → Kw X k n ws (pc + 3) lv st) : Kw X k n ws pc lv (.int (nI y) :: .int (nI x) :: st) := k_icmp_ne C tgt hd ht (fun h => kt (fun h2 => h ((nI_eq hx hy).mpr h2))) (fun h => kf (Classical.byContradiction fun h2 => h (fun h3 => h2 ((nI_eq hx hy).mp h3))))
theorem k_icmp_ltN (C : Cx X cc own Ts rm tys nL) {x y : Nat} (hx : x < 2 ^ 31) (hy : y < 2 ^ 31) {off : Int} (tgt : Nat) (hd : decode cc pc = .ok (.if_icmp .lt off, 3)) (ht : (pc : Int) + off = (tgt : Int)) (kt : x < y → Kw X k n ws tgt lv st) (kf : y ≤ x → Kw X k n ws (pc + 3) lv st) : Kw X k n ws pc lv (.int (nI y) :: .int (nI x) :: st) := k_icmp_lt C tgt hd ht (fun h => kt ((nI_ltI hx hy).mp h)) (fun h => kf (Nat.le_of_not_lt fun h2 => h ((nI_ltI hx hy).mpr h2)))
theorem k_icmp_geN (C : Cx X cc own Ts rm tys nL) {x y : Nat} (hx : x < 2 ^ 31) (hy : y < 2 ^ 31) {off : Int} (tgt : Nat) (hd : decode cc pc = .ok (.if_icmp .ge off, 3)) (ht : (pc : Int) + off = (tgt : Int)) (kt : y ≤ x → Kw X k n ws tgt lv st) (kf : x < y → Kw X k n ws (pc + 3) lv st) : Kw X k n ws pc lv (.int (nI y) :: .int (nI x) :: st) := k_icmp_ge C tgt hd ht (fun h => kt ((nI_leI hy hx).mp h)) (fun h => kf (Nat.lt_of_not_le fun h2 => h ((nI_leI hy hx).mpr h2)))
theorem k_icmp_gtN (C : Cx X cc own Ts rm tys nL) {x y : Nat} (hx : x < 2 ^ 31) (hy : y < 2 ^ 31) {off : Int} (tgt : Nat) (hd : decode cc pc = .ok (.if_icmp .gt off, 3)) (ht : (pc : Int) + off = (tgt : Int)) (kt : y < x → Kw X k n ws tgt lv st) (kf : x ≤ y → Kw X k n ws (pc + 3) lv st) : Kw X k n ws pc lv (.int (nI y) :: .int (nI x) :: st) := k_icmp_gt C tgt hd ht (fun h => kt ((nI_ltI hy hx).mp h)) (fun h => kf (Nat.le_of_not_lt fun h2 => h ((nI_ltI hy hx).mpr h2)))
theorem k_icmp_leN (C : Cx X cc own Ts rm tys nL) {x y : Nat} (hx : x < 2 ^ 31) (hy : y < 2 ^ 31) {off : Int} (tgt : Nat) (hd : decode cc pc = .ok (.if_icmp .le off, 3)) (ht : (pc : Int) + off = (tgt : Int)) (kt : x ≤ y → Kw X k n ws tgt lv st) (kf : y < x → Kw X k n ws (pc + 3) lv st) : Kw X k n ws pc lv (.int (nI y) :: .int (nI x) :: st) := k_icmp_le C tgt hd ht (fun h => kt ((nI_leI hx hy).mp h)) (fun h => kf (Nat.lt_of_not_le fun h2 => h ((nI_leI hx hy).mpr h2)))
theorem k_lc_eq (C : Cx X cc own Ts rm tys nL) {x y : Int64} {off : Int} (tgt : Nat) (hd : decode cc pc = .ok (.lcmp, 1)) (hd2 : decode cc (pc + 1) = .ok (.ifCond .eq off, 3)) (ht : ((pc + 1 : Nat) : Int) + off = (tgt : Int)) (kt : x = y → Kw X k n ws tgt lv st) (kf : ¬ x = y → Kw X k n ws (pc + 1 + 3) lv st) : Kw X k n ws pc lv (.long y :: .long x :: st) := k_lcmp C hd (k_if_eq C tgt hd2 ht (fun h => kt (by revert h; unfold lg_cmp; (repeat' split) <;> simp_all <;> (first | omega | (try decide) | skip))) (fun h => kf (by revert h; unfold lg_cmp; (repeat' split) <;> simp_all <;> (first | omega | (try decide) | skip))))
theorem k_lc_ne (C : Cx X cc own Ts rm tys nL) {x y : Int64} {off : Int} (tgt : Nat) (hd : decode cc pc = .ok (.lcmp, 1)) (hd2 : decode cc (pc + 1) = .ok (.ifCond .ne off, 3)) (ht : ((pc + 1 : Nat) : Int) + off = (tgt : Int)) (kt : ¬ x = y → Kw X k n ws tgt lv st) (kf : x = y → Kw X k n ws (pc + 1 + 3) lv st) : Kw X k n ws pc lv (.long y :: .long x :: st) := k_lcmp C hd (k_if_ne C tgt hd2 ht (fun h => kt (by revert h; unfold lg_cmp; (repeat' split) <;> simp_all <;> (first | omega | (try decide) | skip))) (fun h => kf (by revert h; unfold lg_cmp; (repeat' split) <;> simp_all <;> (first | omega | (try decide) | skip))))
theorem k_lc_lt (C : Cx X cc own Ts rm tys nL) {x y : Int64} {off : Int} (tgt : Nat) (hd : decode cc pc = .ok (.lcmp, 1)) (hd2 : decode cc (pc + 1) = .ok (.ifCond .lt off, 3)) (ht : ((pc + 1 : Nat) : Int) + off = (tgt : Int)) (kt : x < y → Kw X k n ws tgt lv st) (kf : ¬ x < y → Kw X k n ws (pc + 1 + 3) lv st) : Kw X k n ws pc lv (.long y :: .long x :: st) := k_lcmp C hd (k_if_lt C tgt hd2 ht (fun h => kt (by revert h; unfold lg_cmp; (repeat' split) <;> simp_all <;> (first | omega | (try decide) | skip))) (fun h => kf (by revert h; unfold lg_cmp; (repeat' split) <;> simp_all <;> (first | omega | (try decide) | skip))))
theorem k_lc_ge (C : Cx X cc own Ts rm tys nL) {x y : Int64} {off : Int} (tgt : Nat) (hd : decode cc pc = .ok (.lcmp, 1)) (hd2 : decode cc (pc + 1) = .ok (.ifCond .ge off, 3)) (ht : ((pc + 1 : Nat) : Int) + off = (tgt : Int)) (kt : ¬ x < y → Kw X k n ws tgt lv st) (kf : x < y → Kw X k n ws (pc + 1 + 3) lv st) : Kw X k n ws pc lv (.long y :: .long x :: st) := k_lcmp C hd (k_if_ge C tgt hd2 ht (fun h => kt (by revert h; unfold lg_cmp; (repeat' split) <;> simp_all <;> (first | omega | (try decide) | skip))) (fun h => kf (by revert h; unfold lg_cmp; (repeat' split) <;> simp_all <;> (first | omega | (try decide) | skip))))
theorem k_lc_gt (C : Cx X cc own Ts rm tys nL) {x y : Int64} {off : Int} (tgt : Nat) (hd : decode cc pc = .ok (.lcmp, 1)) (hd2 : decode cc (pc + 1) = .ok (.ifCond .gt off, 3)) (ht : ((pc + 1 : Nat) : Int) + off = (tgt : Int)) (kt : y < x → Kw X k n ws tgt lv st) (kf : ¬ y < x → Kw X k n ws (pc + 1 + 3) lv st) : Kw X k n ws pc lv (.long y :: .long x :: st) := k_lcmp C hd (k_if_gt C tgt hd2 ht (fun h => kt (by revert h; unfold lg_cmp; (repeat' split) <;> simp_all <;> (first | omega | (try decide) | skip))) (fun h => kf (by revert h; unfold lg_cmp; (repeat' split) <;> simp_all <;> (first | omega | (try decide) | skip))))
theorem k_lc_le (C : Cx X cc own Ts rm tys nL) {x y : Int64} {off : Int} (tgt : Nat) (hd : decode cc pc = .ok (.lcmp, 1)) (hd2 : decode cc (pc + 1) = .ok (.ifCond .le off, 3)) (ht : ((pc + 1 : Nat) : Int) + off = (tgt : Int)) (kt : ¬ y < x → Kw X k n ws tgt lv st) (kf : y < x → Kw X k n ws (pc + 1 + 3) lv st) : Kw X k n ws pc lv (.long y :: .long x :: st) := k_lcmp C hd (k_if_le C tgt hd2 ht (fun h => kt (by revert h; unfold lg_cmp; (repeat' split) <;> simp_all <;> (first | omega | (try decide) | skip))) (fun h => kf (by revert h; unfold lg_cmp; (repeat' split) <;> simp_all <;> (first | omega | (try decide) | skip))))
end KRows
end
section
/-! ===== contracts over worlds; the entry of a method; calls ===== -/
theorem kFree {A : Nat → Prop} {ws : va_W} {H0 H : Heap} {locs : List Loc} (hD : va_D A ws) (hS : va_S A H0 H locs) (hA : ∀ q, H0.size ≤ q → A q) : ∀ q, va_A ws H.size q → A q := by
  intro q h
  rcases h with ⟨k, e, h⟩ | h
  · exact hD.2 k _ h
  · exact hA q (Nat.le_trans hS.1 h)
theorem kAll {A : Nat → Prop} {ws : va_W} (hD : va_D A ws) : va_D (fun _ => True) ws := ⟨hD.1, fun _ _ _ => trivial⟩
abbrev kPc (D : va_G) (tys : List (ClassId × FieldType)) (as : List Value) (ws : va_W) (sz : Nat) : Array Value → State → Prop := va_Pc as (fun U => U.heap.size = sz ∧ va_P D vwCl ws U.heap ∧ va_K D vwCl tys U ∧ va_D (fun _ => True) ws ∧ kNWs U)
theorem kBlind (D : va_G) (tys : List (ClassId × FieldType)) (as : List Value) (ws : va_W) (sz : Nat) : FrameBlind (kPc D tys as ws sz) := fun a U g mk q => by
  obtain ⟨q0, q1, qP, qK, qD, qN⟩ := q
  exact ⟨q0, q1, qP, va_K.moved (u := U) (U := U.calling g mk a) (Vm.Alike.refl U.vm) qK, qD, kNWs.same (s := U) (U := U.calling g mk a) rfl qN⟩
abbrev kB (D : va_G) (ws : va_W) (sz : Nat) (w : va_W) (t : State) : Prop := va_P D vwCl w t.heap ∧ va_D (va_A ws sz) w
def CtI (l : Launch) (D : va_G) (tys : List (ClassId × FieldType)) (y : MethodName) (wy : List Cond) (rm : Room) (as : List Value) (ws : va_W) (post : Int32 → va_W → Prop) : Prop := ∀ sz : Nat, Met l y wy rm (kPc D tys as ws sz) (va_Qi post (kB D ws sz) (va_A ws sz)) 0 0 (va_A ws sz)
theorem ctI_of {l : Launch} {D : va_G} {tys : List (ClassId × FieldType)} {y : MethodName} {wy wy' : List Cond} {rm : Room} {as : List Value} {ws : va_W} {post : Int32 → va_W → Prop} {cc : ByteArray} {maxL : Nat} (hy : plainName y.cls = true) (hw : wy = Cond.code y cc maxL (some .int) :: wy') (hl : (lg_sl as).length ≤ maxL)
    (body : ∀ X : XT, kxL X = l → kxD X = D → Cx X cc y.cls wy rm tys maxL → (∀ (r : Int32) (w : va_W) (pc : Nat) (lv : List (Nat × Value)) (st : List Value), post r w → decode cc pc = .ok (.ireturn, 1) → Kw X 0 0 w pc lv (.int r :: st)) → Kw X 0 0 ws 0 (lv_args 0 as) []) : CtI l D tys y wy rm as ws post := by
  intro sz
  refine Met.ofW (cc := cc) (maxL := maxL) (ret := some .int) hy hw ?_
  intro p e s m args below meth c s₁ B hml hv
  obtain ⟨rfl, hsz, hP, hK, hD0, hNW⟩ := hv
  subst hsz
  have K := body (p, l, e, (headSpec wy rm).room, s, m, as.toArray, below, meth, c, MQ below (va_Qi post (kB D ws s.heap.size) (va_A ws s.heap.size)) as.toArray s 0 0 (va_A ws s.heap.size), D, va_A ws s.heap.size, s.heap, maxL) rfl rfl ⟨rfl, B.exec, B.bytes, hml, findClass_of_methodNamed B.named, atoms_spec (ws := wy) B.pre, hK, rfl, fun q h => Or.inr h, hNW⟩
    (fun r w pc lv st hp hd H locs ls hP1 hD1 hS1 hl1 => W.iret (v := r) B.exec B.bytes B.returns (fun t ht hW => ⟨⟨r, w, rfl, hp, by rw [ht]; exact hP1, hD1⟩, hS1.F ht⟩) hS1.2.2 hd)
  rw [lg_entry_eq]
  exact K s.heap [] _ hP (hD0.self (sz := s.heap.size)) va_S.rf (lv_entry as hl)
theorem ctZ_of {l : Launch} {D : va_G} {tys : List (ClassId × FieldType)} {y : MethodName} {wy wy' : List Cond} {rm : Room} {as : List Value} {ws : va_W} {post : Int32 → va_W → Prop} {cc : ByteArray} {maxL : Nat} (hy : plainName y.cls = true) (hw : wy = Cond.code y cc maxL (some .boolean) :: wy') (hl : (lg_sl as).length ≤ maxL) (hb : ∀ r w, post r w → r = 0 ∨ r = 1)
    (body : ∀ X : XT, kxL X = l → kxD X = D → Cx X cc y.cls wy rm tys maxL → (∀ (r : Int32) (w : va_W) (pc : Nat) (lv : List (Nat × Value)) (st : List Value), post r w → decode cc pc = .ok (.ireturn, 1) → Kw X 0 0 w pc lv (.int r :: st)) → Kw X 0 0 ws 0 (lv_args 0 as) []) : CtI l D tys y wy rm as ws post := by
  intro sz
  refine Met.ofW (cc := cc) (maxL := maxL) (ret := some .boolean) hy hw ?_
  intro p e s m args below meth c s₁ B hml hv
  obtain ⟨rfl, hsz, hP, hK, hD0, hNW⟩ := hv
  subst hsz
  have K := body (p, l, e, (headSpec wy rm).room, s, m, as.toArray, below, meth, c, MQ below (va_Qi post (kB D ws s.heap.size) (va_A ws s.heap.size)) as.toArray s 0 0 (va_A ws s.heap.size), D, va_A ws s.heap.size, s.heap, maxL) rfl rfl ⟨rfl, B.exec, B.bytes, hml, findClass_of_methodNamed B.named, atoms_spec (ws := wy) B.pre, hK, rfl, fun q h => Or.inr h, hNW⟩
    (fun r w pc lv st hp hd H locs ls hP1 hD1 hS1 hl1 => W.zret (v := r) (ty := .boolean) B.exec B.bytes B.returns (by rcases hb r w hp with h | h <;> rw [h] <;> rfl) (fun t ht hW => ⟨⟨r, w, rfl, hp, by rw [ht]; exact hP1, hD1⟩, hS1.F ht⟩) hS1.2.2 hd)
  rw [lg_entry_eq]
  exact K s.heap [] _ hP (hD0.self (sz := s.heap.size)) va_S.rf (lv_entry as hl)
def CtL (l : Launch) (D : va_G) (tys : List (ClassId × FieldType)) (y : MethodName) (wy : List Cond) (rm : Room) (as : List Value) (ws : va_W) (post : Int64 → va_W → Prop) : Prop := ∀ sz : Nat, Met l y wy rm (kPc D tys as ws sz) (va_Ql post (kB D ws sz) (va_A ws sz)) 0 0 (va_A ws sz)
theorem ctL_of {l : Launch} {D : va_G} {tys : List (ClassId × FieldType)} {y : MethodName} {wy wy' : List Cond} {rm : Room} {as : List Value} {ws : va_W} {post : Int64 → va_W → Prop} {cc : ByteArray} {maxL : Nat} (hy : plainName y.cls = true) (hw : wy = Cond.code y cc maxL (some .long) :: wy') (hl : (lg_sl as).length ≤ maxL)
    (body : ∀ X : XT, kxL X = l → kxD X = D → Cx X cc y.cls wy rm tys maxL → (∀ (r : Int64) (w : va_W) (pc : Nat) (lv : List (Nat × Value)) (st : List Value), post r w → decode cc pc = .ok (.lreturn, 1) → Kw X 0 0 w pc lv (.long r :: st)) → Kw X 0 0 ws 0 (lv_args 0 as) []) : CtL l D tys y wy rm as ws post := by
  intro sz
  refine Met.ofW (cc := cc) (maxL := maxL) (ret := some .long) hy hw ?_
  intro p e s m args below meth c s₁ B hml hv
  obtain ⟨rfl, hsz, hP, hK, hD0, hNW⟩ := hv
  subst hsz
  have K := body (p, l, e, (headSpec wy rm).room, s, m, as.toArray, below, meth, c, MQ below (va_Ql post (kB D ws s.heap.size) (va_A ws s.heap.size)) as.toArray s 0 0 (va_A ws s.heap.size), D, va_A ws s.heap.size, s.heap, maxL) rfl rfl ⟨rfl, B.exec, B.bytes, hml, findClass_of_methodNamed B.named, atoms_spec (ws := wy) B.pre, hK, rfl, fun q h => Or.inr h, hNW⟩
    (fun r w pc lv st hp hd H locs ls hP1 hD1 hS1 hl1 => W.lret (v := r) B.exec B.bytes B.returns (fun t ht hW => ⟨⟨r, w, rfl, hp, by rw [ht]; exact hP1, hD1⟩, hS1.F ht⟩) hS1.2.2 hd)
  rw [lg_entry_eq]
  exact K s.heap [] _ hP (hD0.self (sz := s.heap.size)) va_S.rf (lv_entry as hl)
def CtD (l : Launch) (D : va_G) (tys : List (ClassId × FieldType)) (y : MethodName) (wy : List Cond) (rm : Room) (as : List Value) (ws : va_W) (post : UInt64 → va_W → Prop) : Prop := ∀ sz : Nat, Met l y wy rm (kPc D tys as ws sz) (va_Qd post (kB D ws sz) (va_A ws sz)) 0 0 (va_A ws sz)
theorem ctD_of {l : Launch} {D : va_G} {tys : List (ClassId × FieldType)} {y : MethodName} {wy wy' : List Cond} {rm : Room} {as : List Value} {ws : va_W} {post : UInt64 → va_W → Prop} {cc : ByteArray} {maxL : Nat} (hy : plainName y.cls = true) (hw : wy = Cond.code y cc maxL (some .double) :: wy') (hl : (lg_sl as).length ≤ maxL)
    (body : ∀ X : XT, kxL X = l → kxD X = D → Cx X cc y.cls wy rm tys maxL → (∀ (r : UInt64) (w : va_W) (pc : Nat) (lv : List (Nat × Value)) (st : List Value), post r w → decode cc pc = .ok (.dreturn, 1) → Kw X 0 0 w pc lv (.double r :: st)) → Kw X 0 0 ws 0 (lv_args 0 as) []) : CtD l D tys y wy rm as ws post := by
  intro sz
  refine Met.ofW (cc := cc) (maxL := maxL) (ret := some .double) hy hw ?_
  intro p e s m args below meth c s₁ B hml hv
  obtain ⟨rfl, hsz, hP, hK, hD0, hNW⟩ := hv
  subst hsz
  have K := body (p, l, e, (headSpec wy rm).room, s, m, as.toArray, below, meth, c, MQ below (va_Qd post (kB D ws s.heap.size) (va_A ws s.heap.size)) as.toArray s 0 0 (va_A ws s.heap.size), D, va_A ws s.heap.size, s.heap, maxL) rfl rfl ⟨rfl, B.exec, B.bytes, hml, findClass_of_methodNamed B.named, atoms_spec (ws := wy) B.pre, hK, rfl, fun q h => Or.inr h, hNW⟩
    (fun r w pc lv st hp hd H locs ls hP1 hD1 hS1 hl1 => W.dret (v := r) B.exec B.bytes B.returns (fun t ht hW => ⟨⟨r, w, rfl, hp, by rw [ht]; exact hP1, hD1⟩, hS1.F ht⟩) hS1.2.2 hd)
  rw [lg_entry_eq]
  exact K s.heap [] _ hP (hD0.self (sz := s.heap.size)) va_S.rf (lv_entry as hl)
def CtV (l : Launch) (D : va_G) (tys : List (ClassId × FieldType)) (y : MethodName) (wy : List Cond) (rm : Room) (as : List Value) (ws : va_W) (post : va_W → Prop) : Prop := ∀ sz : Nat, Met l y wy rm (kPc D tys as ws sz) (va_Qv post (kB D ws sz) (va_A ws sz)) 0 0 (va_A ws sz)
theorem ctV_of {l : Launch} {D : va_G} {tys : List (ClassId × FieldType)} {y : MethodName} {wy wy' : List Cond} {rm : Room} {as : List Value} {ws : va_W} {post : va_W → Prop} {cc : ByteArray} {maxL : Nat} (hy : plainName y.cls = true) (hw : wy = Cond.code y cc maxL (none) :: wy') (hl : (lg_sl as).length ≤ maxL)
    (body : ∀ X : XT, kxL X = l → kxD X = D → Cx X cc y.cls wy rm tys maxL → (∀ (w : va_W) (pc : Nat) (lv : List (Nat × Value)) (st : List Value), post w → decode cc pc = .ok (.return_, 1) → Kw X 0 0 w pc lv []) → Kw X 0 0 ws 0 (lv_args 0 as) []) : CtV l D tys y wy rm as ws post := by
  intro sz
  refine Met.ofW (cc := cc) (maxL := maxL) (ret := none) hy hw ?_
  intro p e s m args below meth c s₁ B hml hv
  obtain ⟨rfl, hsz, hP, hK, hD0, hNW⟩ := hv
  subst hsz
  have K := body (p, l, e, (headSpec wy rm).room, s, m, as.toArray, below, meth, c, MQ below (va_Qv post (kB D ws s.heap.size) (va_A ws s.heap.size)) as.toArray s 0 0 (va_A ws s.heap.size), D, va_A ws s.heap.size, s.heap, maxL) rfl rfl ⟨rfl, B.exec, B.bytes, hml, findClass_of_methodNamed B.named, atoms_spec (ws := wy) B.pre, hK, rfl, fun q h => Or.inr h, hNW⟩
    (fun w pc lv st hp hd H locs ls hP1 hD1 hS1 hl1 => W.vret B.exec B.bytes B.returns (fun t ht hW => ⟨⟨w, rfl, hp, by rw [ht]; exact hP1, hD1⟩, hS1.F ht⟩) hS1.2.2 hd)
  rw [lg_entry_eq]
  exact K s.heap [] _ hP (hD0.self (sz := s.heap.size)) va_S.rf (lv_entry as hl)
section KCalls
variable {X : XT} {cc : ByteArray} {own : String} {Ts : List Cond} {rm : Room} {tys : List (ClassId × FieldType)} {nL k n pc : Nat} {ws : va_W} {lv : List (Nat × Value)} {st0 rest : List Value}
variable {y : MethodName} {wy wy' : List Cond} {rmc : Room} {bytes : ByteArray} {maxL index ar : Nat} {ret : Option FieldType} {b : Addr} {As : List Value} {C0 : String} {T0 : u_T} {N0 ci : Nat} {fs : List Value} {host : String}
theorem k_callVI (C : Cx X cc own Ts rm tys nL) {post : Int32 → va_W → Prop} (M : CtI (kxL X) (kxD X) tys y wy rmc (.ref b :: As) ws post) (hT : GoodIn Ts (wsV own index C0 y wy)) (hw : wy = Cond.code y bytes maxL ret :: wy') (hrc : rmc.cells = 0) (hrs : rmc.slots = 0) (hd1 : y.cls = C0 ∧ y.cls ≠ "java/lang/invoke/MethodHandle" ∧ y.cls ≠ "java/lang/invoke/VarHandle" ∧ (parseMethodDescriptor y.desc).map (fun d => d.parameters.length) = some ar) (hR : rmc.frames + 1 ≤ rm.frames ∧ 8 + (maxL + 11) + rmc.locals ≤ rm.locals) (q0 : Nat) (he : ws[q0]? = some (b, .inr (ci, fs))) (hc : vwCl[ci]? = some (C0, T0, N0)) (hn : As.length = ar) (hst : st0 = As.reverse ++ .ref b :: rest) (hroom : (rest.map fun v => v.category).sum ≤ 8) (hd : decode cc pc = .ok (.invokevirtual index, 3)) (hk : k ≤ rm.cells) (hs : n ≤ rm.slots)
    (K : ∀ (r : Int32) (w : va_W), post r w → Kw X k n w (pc + 3) lv (.int r :: rest)) : Kw X k n ws pc lv st0 := by
  intro H locs ls hP hD hS hl
  have hF := kFree hD hS C.hA
  exact va_calli (va_runV (As := As) (rest := rest) ⟨C.hx, C.hb, C.hml, C.hown, C.hts⟩ (M H.size) (cwV ar C.hts hT hw hrc hrs hd1 (by rw [C.hR]; exact hR)) ⟨kBlind _ _ _ _ _, va_recv C.hK hP hc he, fun U hU hW => ⟨rfl, by rw [hU], by rw [hU]; exact hP, va_K.moved hW.alike C.hK, kAll hD, C.hN.warm hW⟩⟩ rfl hn hl.1 hst (lv_room hroom) hd ⟨by rw [C.hR]; exact hk, by rw [C.hR]; exact hs⟩) hS (fun q _ h => hF q h) hF (fun r w t H1 locs1 ht hvm hp hB hz1 hk1 hS1 => K r w hp H1 locs1 ls (by rw [← ht]; exact hB.1) ⟨hB.2.1, fun j q h => hF _ (hB.2.2 j q h)⟩ hS1 hl)
theorem k_callVL (C : Cx X cc own Ts rm tys nL) {post : Int64 → va_W → Prop} (M : CtL (kxL X) (kxD X) tys y wy rmc (.ref b :: As) ws post) (hT : GoodIn Ts (wsV own index C0 y wy)) (hw : wy = Cond.code y bytes maxL ret :: wy') (hrc : rmc.cells = 0) (hrs : rmc.slots = 0) (hd1 : y.cls = C0 ∧ y.cls ≠ "java/lang/invoke/MethodHandle" ∧ y.cls ≠ "java/lang/invoke/VarHandle" ∧ (parseMethodDescriptor y.desc).map (fun d => d.parameters.length) = some ar) (hR : rmc.frames + 1 ≤ rm.frames ∧ 8 + (maxL + 11) + rmc.locals ≤ rm.locals) (q0 : Nat) (he : ws[q0]? = some (b, .inr (ci, fs))) (hc : vwCl[ci]? = some (C0, T0, N0)) (hn : As.length = ar) (hst : st0 = As.reverse ++ .ref b :: rest) (hroom : (rest.map fun v => v.category).sum ≤ 8) (hd : decode cc pc = .ok (.invokevirtual index, 3)) (hk : k ≤ rm.cells) (hs : n ≤ rm.slots)
    (K : ∀ (r : Int64) (w : va_W), post r w → Kw X k n w (pc + 3) lv (.long r :: rest)) : Kw X k n ws pc lv st0 := by
  intro H locs ls hP hD hS hl
  have hF := kFree hD hS C.hA
  exact va_calll (va_runV (As := As) (rest := rest) ⟨C.hx, C.hb, C.hml, C.hown, C.hts⟩ (M H.size) (cwV ar C.hts hT hw hrc hrs hd1 (by rw [C.hR]; exact hR)) ⟨kBlind _ _ _ _ _, va_recv C.hK hP hc he, fun U hU hW => ⟨rfl, by rw [hU], by rw [hU]; exact hP, va_K.moved hW.alike C.hK, kAll hD, C.hN.warm hW⟩⟩ rfl hn hl.1 hst (lv_room hroom) hd ⟨by rw [C.hR]; exact hk, by rw [C.hR]; exact hs⟩) hS (fun q _ h => hF q h) hF (fun r w t H1 locs1 ht hvm hp hB hz1 hk1 hS1 => K r w hp H1 locs1 ls (by rw [← ht]; exact hB.1) ⟨hB.2.1, fun j q h => hF _ (hB.2.2 j q h)⟩ hS1 hl)
theorem k_callVD (C : Cx X cc own Ts rm tys nL) {post : UInt64 → va_W → Prop} (M : CtD (kxL X) (kxD X) tys y wy rmc (.ref b :: As) ws post) (hT : GoodIn Ts (wsV own index C0 y wy)) (hw : wy = Cond.code y bytes maxL ret :: wy') (hrc : rmc.cells = 0) (hrs : rmc.slots = 0) (hd1 : y.cls = C0 ∧ y.cls ≠ "java/lang/invoke/MethodHandle" ∧ y.cls ≠ "java/lang/invoke/VarHandle" ∧ (parseMethodDescriptor y.desc).map (fun d => d.parameters.length) = some ar) (hR : rmc.frames + 1 ≤ rm.frames ∧ 8 + (maxL + 11) + rmc.locals ≤ rm.locals) (q0 : Nat) (he : ws[q0]? = some (b, .inr (ci, fs))) (hc : vwCl[ci]? = some (C0, T0, N0)) (hn : As.length = ar) (hst : st0 = As.reverse ++ .ref b :: rest) (hroom : (rest.map fun v => v.category).sum ≤ 8) (hd : decode cc pc = .ok (.invokevirtual index, 3)) (hk : k ≤ rm.cells) (hs : n ≤ rm.slots)
    (K : ∀ (r : UInt64) (w : va_W), post r w → Kw X k n w (pc + 3) lv (.double r :: rest)) : Kw X k n ws pc lv st0 := by
  intro H locs ls hP hD hS hl
  have hF := kFree hD hS C.hA
  exact va_calld (va_runV (As := As) (rest := rest) ⟨C.hx, C.hb, C.hml, C.hown, C.hts⟩ (M H.size) (cwV ar C.hts hT hw hrc hrs hd1 (by rw [C.hR]; exact hR)) ⟨kBlind _ _ _ _ _, va_recv C.hK hP hc he, fun U hU hW => ⟨rfl, by rw [hU], by rw [hU]; exact hP, va_K.moved hW.alike C.hK, kAll hD, C.hN.warm hW⟩⟩ rfl hn hl.1 hst (lv_room hroom) hd ⟨by rw [C.hR]; exact hk, by rw [C.hR]; exact hs⟩) hS (fun q _ h => hF q h) hF (fun r w t H1 locs1 ht hvm hp hB hz1 hk1 hS1 => K r w hp H1 locs1 ls (by rw [← ht]; exact hB.1) ⟨hB.2.1, fun j q h => hF _ (hB.2.2 j q h)⟩ hS1 hl)
theorem k_callVV (C : Cx X cc own Ts rm tys nL) {post : va_W → Prop} (M : CtV (kxL X) (kxD X) tys y wy rmc (.ref b :: As) ws post) (hT : GoodIn Ts (wsV own index C0 y wy)) (hw : wy = Cond.code y bytes maxL ret :: wy') (hrc : rmc.cells = 0) (hrs : rmc.slots = 0) (hd1 : y.cls = C0 ∧ y.cls ≠ "java/lang/invoke/MethodHandle" ∧ y.cls ≠ "java/lang/invoke/VarHandle" ∧ (parseMethodDescriptor y.desc).map (fun d => d.parameters.length) = some ar) (hR : rmc.frames + 1 ≤ rm.frames ∧ 8 + (maxL + 11) + rmc.locals ≤ rm.locals) (q0 : Nat) (he : ws[q0]? = some (b, .inr (ci, fs))) (hc : vwCl[ci]? = some (C0, T0, N0)) (hn : As.length = ar) (hst : st0 = As.reverse ++ .ref b :: rest) (hroom : (rest.map fun v => v.category).sum ≤ 8) (hd : decode cc pc = .ok (.invokevirtual index, 3)) (hk : k ≤ rm.cells) (hs : n ≤ rm.slots)
    (K : ∀ (w : va_W), post w → Kw X k n w (pc + 3) lv rest) : Kw X k n ws pc lv st0 := by
  intro H locs ls hP hD hS hl
  have hF := kFree hD hS C.hA
  exact va_callv (va_runV (As := As) (rest := rest) ⟨C.hx, C.hb, C.hml, C.hown, C.hts⟩ (M H.size) (cwV ar C.hts hT hw hrc hrs hd1 (by rw [C.hR]; exact hR)) ⟨kBlind _ _ _ _ _, va_recv C.hK hP hc he, fun U hU hW => ⟨rfl, by rw [hU], by rw [hU]; exact hP, va_K.moved hW.alike C.hK, kAll hD, C.hN.warm hW⟩⟩ rfl hn hl.1 hst (lv_room hroom) hd ⟨by rw [C.hR]; exact hk, by rw [C.hR]; exact hs⟩) hS (fun q _ h => hF q h) hF (fun w t H1 locs1 ht hvm hp hB hz1 hk1 hS1 => K w hp H1 locs1 ls (by rw [← ht]; exact hB.1) ⟨hB.2.1, fun j q h => hF _ (hB.2.2 j q h)⟩ hS1 hl)
theorem k_callVNI (C : Cx X cc own Ts rm tys nL) {post : Int32 → va_W → Prop} (M : CtI (kxL X) (kxD X) tys y wy rmc (.ref b :: As) ws post) (hG : GoodIn Ts wy) (hw : wy = Cond.code y bytes maxL ret :: wy') (hrc : rmc.cells = 0) (hrs : rmc.slots = 0) (hl1 : Cond.methodLinkNest own index y host ∈ kNW) (hi1 : Cond.initialized y.cls ∈ Ts) (hi2 : Cond.instanceMethod y ∈ Ts) (hi3 : Cond.selects C0 y y ∈ Ts) (hd1 : y.cls ≠ "java/lang/invoke/MethodHandle" ∧ y.cls ≠ "java/lang/invoke/VarHandle" ∧ (parseMethodDescriptor y.desc).map (fun d => d.parameters.length) = some ar) (hR : rmc.frames + 1 ≤ rm.frames ∧ 8 + (maxL + 11) + rmc.locals ≤ rm.locals) (q0 : Nat) (he : ws[q0]? = some (b, .inr (ci, fs))) (hc : vwCl[ci]? = some (C0, T0, N0)) (hn : As.length = ar) (hst : st0 = As.reverse ++ .ref b :: rest) (hroom : (rest.map fun v => v.category).sum ≤ 8) (hd : decode cc pc = .ok (.invokevirtual index, 3)) (hk : k ≤ rm.cells) (hs : n ≤ rm.slots)
    (K : ∀ (r : Int32) (w : va_W), post r w → Kw X k n w (pc + 3) lv (.int r :: rest)) : Kw X k n ws pc lv st0 := by
  intro H locs ls hP hD hS hl
  have hF := kFree hD hS C.hA
  exact va_calli (va_runVN (As := As) (rest := rest) ⟨C.hx, C.hb, C.hml, C.hown, C.hts⟩ (M H.size) ⟨va_cnB ar C.hts hG hw hrc hrs (C.hN _ hl1) (C.hts _ hi1) hd1 (by rw [C.hR]; exact hR), C.hts _ hi2, C.hts _ hi3⟩ ⟨kBlind _ _ _ _ _, va_recv C.hK hP hc he, fun U hU hW => ⟨rfl, by rw [hU], by rw [hU]; exact hP, va_K.moved hW.alike C.hK, kAll hD, C.hN.warm hW⟩⟩ rfl hn hl.1 hst (lv_room hroom) hd ⟨by rw [C.hR]; exact hk, by rw [C.hR]; exact hs⟩) hS (fun q _ h => hF q h) hF (fun r w t H1 locs1 ht hvm hp hB hz1 hk1 hS1 => K r w hp H1 locs1 ls (by rw [← ht]; exact hB.1) ⟨hB.2.1, fun j q h => hF _ (hB.2.2 j q h)⟩ hS1 hl)
theorem k_callVNL (C : Cx X cc own Ts rm tys nL) {post : Int64 → va_W → Prop} (M : CtL (kxL X) (kxD X) tys y wy rmc (.ref b :: As) ws post) (hG : GoodIn Ts wy) (hw : wy = Cond.code y bytes maxL ret :: wy') (hrc : rmc.cells = 0) (hrs : rmc.slots = 0) (hl1 : Cond.methodLinkNest own index y host ∈ kNW) (hi1 : Cond.initialized y.cls ∈ Ts) (hi2 : Cond.instanceMethod y ∈ Ts) (hi3 : Cond.selects C0 y y ∈ Ts) (hd1 : y.cls ≠ "java/lang/invoke/MethodHandle" ∧ y.cls ≠ "java/lang/invoke/VarHandle" ∧ (parseMethodDescriptor y.desc).map (fun d => d.parameters.length) = some ar) (hR : rmc.frames + 1 ≤ rm.frames ∧ 8 + (maxL + 11) + rmc.locals ≤ rm.locals) (q0 : Nat) (he : ws[q0]? = some (b, .inr (ci, fs))) (hc : vwCl[ci]? = some (C0, T0, N0)) (hn : As.length = ar) (hst : st0 = As.reverse ++ .ref b :: rest) (hroom : (rest.map fun v => v.category).sum ≤ 8) (hd : decode cc pc = .ok (.invokevirtual index, 3)) (hk : k ≤ rm.cells) (hs : n ≤ rm.slots)
    (K : ∀ (r : Int64) (w : va_W), post r w → Kw X k n w (pc + 3) lv (.long r :: rest)) : Kw X k n ws pc lv st0 := by
  intro H locs ls hP hD hS hl
  have hF := kFree hD hS C.hA
  exact va_calll (va_runVN (As := As) (rest := rest) ⟨C.hx, C.hb, C.hml, C.hown, C.hts⟩ (M H.size) ⟨va_cnB ar C.hts hG hw hrc hrs (C.hN _ hl1) (C.hts _ hi1) hd1 (by rw [C.hR]; exact hR), C.hts _ hi2, C.hts _ hi3⟩ ⟨kBlind _ _ _ _ _, va_recv C.hK hP hc he, fun U hU hW => ⟨rfl, by rw [hU], by rw [hU]; exact hP, va_K.moved hW.alike C.hK, kAll hD, C.hN.warm hW⟩⟩ rfl hn hl.1 hst (lv_room hroom) hd ⟨by rw [C.hR]; exact hk, by rw [C.hR]; exact hs⟩) hS (fun q _ h => hF q h) hF (fun r w t H1 locs1 ht hvm hp hB hz1 hk1 hS1 => K r w hp H1 locs1 ls (by rw [← ht]; exact hB.1) ⟨hB.2.1, fun j q h => hF _ (hB.2.2 j q h)⟩ hS1 hl)
theorem k_callVND (C : Cx X cc own Ts rm tys nL) {post : UInt64 → va_W → Prop} (M : CtD (kxL X) (kxD X) tys y wy rmc (.ref b :: As) ws post) (hG : GoodIn Ts wy) (hw : wy = Cond.code y bytes maxL ret :: wy') (hrc : rmc.cells = 0) (hrs : rmc.slots = 0) (hl1 : Cond.methodLinkNest own index y host ∈ kNW) (hi1 : Cond.initialized y.cls ∈ Ts) (hi2 : Cond.instanceMethod y ∈ Ts) (hi3 : Cond.selects C0 y y ∈ Ts) (hd1 : y.cls ≠ "java/lang/invoke/MethodHandle" ∧ y.cls ≠ "java/lang/invoke/VarHandle" ∧ (parseMethodDescriptor y.desc).map (fun d => d.parameters.length) = some ar) (hR : rmc.frames + 1 ≤ rm.frames ∧ 8 + (maxL + 11) + rmc.locals ≤ rm.locals) (q0 : Nat) (he : ws[q0]? = some (b, .inr (ci, fs))) (hc : vwCl[ci]? = some (C0, T0, N0)) (hn : As.length = ar) (hst : st0 = As.reverse ++ .ref b :: rest) (hroom : (rest.map fun v => v.category).sum ≤ 8) (hd : decode cc pc = .ok (.invokevirtual index, 3)) (hk : k ≤ rm.cells) (hs : n ≤ rm.slots)
    (K : ∀ (r : UInt64) (w : va_W), post r w → Kw X k n w (pc + 3) lv (.double r :: rest)) : Kw X k n ws pc lv st0 := by
  intro H locs ls hP hD hS hl
  have hF := kFree hD hS C.hA
  exact va_calld (va_runVN (As := As) (rest := rest) ⟨C.hx, C.hb, C.hml, C.hown, C.hts⟩ (M H.size) ⟨va_cnB ar C.hts hG hw hrc hrs (C.hN _ hl1) (C.hts _ hi1) hd1 (by rw [C.hR]; exact hR), C.hts _ hi2, C.hts _ hi3⟩ ⟨kBlind _ _ _ _ _, va_recv C.hK hP hc he, fun U hU hW => ⟨rfl, by rw [hU], by rw [hU]; exact hP, va_K.moved hW.alike C.hK, kAll hD, C.hN.warm hW⟩⟩ rfl hn hl.1 hst (lv_room hroom) hd ⟨by rw [C.hR]; exact hk, by rw [C.hR]; exact hs⟩) hS (fun q _ h => hF q h) hF (fun r w t H1 locs1 ht hvm hp hB hz1 hk1 hS1 => K r w hp H1 locs1 ls (by rw [← ht]; exact hB.1) ⟨hB.2.1, fun j q h => hF _ (hB.2.2 j q h)⟩ hS1 hl)
theorem k_callVNV (C : Cx X cc own Ts rm tys nL) {post : va_W → Prop} (M : CtV (kxL X) (kxD X) tys y wy rmc (.ref b :: As) ws post) (hG : GoodIn Ts wy) (hw : wy = Cond.code y bytes maxL ret :: wy') (hrc : rmc.cells = 0) (hrs : rmc.slots = 0) (hl1 : Cond.methodLinkNest own index y host ∈ kNW) (hi1 : Cond.initialized y.cls ∈ Ts) (hi2 : Cond.instanceMethod y ∈ Ts) (hi3 : Cond.selects C0 y y ∈ Ts) (hd1 : y.cls ≠ "java/lang/invoke/MethodHandle" ∧ y.cls ≠ "java/lang/invoke/VarHandle" ∧ (parseMethodDescriptor y.desc).map (fun d => d.parameters.length) = some ar) (hR : rmc.frames + 1 ≤ rm.frames ∧ 8 + (maxL + 11) + rmc.locals ≤ rm.locals) (q0 : Nat) (he : ws[q0]? = some (b, .inr (ci, fs))) (hc : vwCl[ci]? = some (C0, T0, N0)) (hn : As.length = ar) (hst : st0 = As.reverse ++ .ref b :: rest) (hroom : (rest.map fun v => v.category).sum ≤ 8) (hd : decode cc pc = .ok (.invokevirtual index, 3)) (hk : k ≤ rm.cells) (hs : n ≤ rm.slots)
    (K : ∀ (w : va_W), post w → Kw X k n w (pc + 3) lv rest) : Kw X k n ws pc lv st0 := by
  intro H locs ls hP hD hS hl
  have hF := kFree hD hS C.hA
  exact va_callv (va_runVN (As := As) (rest := rest) ⟨C.hx, C.hb, C.hml, C.hown, C.hts⟩ (M H.size) ⟨va_cnB ar C.hts hG hw hrc hrs (C.hN _ hl1) (C.hts _ hi1) hd1 (by rw [C.hR]; exact hR), C.hts _ hi2, C.hts _ hi3⟩ ⟨kBlind _ _ _ _ _, va_recv C.hK hP hc he, fun U hU hW => ⟨rfl, by rw [hU], by rw [hU]; exact hP, va_K.moved hW.alike C.hK, kAll hD, C.hN.warm hW⟩⟩ rfl hn hl.1 hst (lv_room hroom) hd ⟨by rw [C.hR]; exact hk, by rw [C.hR]; exact hs⟩) hS (fun q _ h => hF q h) hF (fun w t H1 locs1 ht hvm hp hB hz1 hk1 hS1 => K w hp H1 locs1 ls (by rw [← ht]; exact hB.1) ⟨hB.2.1, fun j q h => hF _ (hB.2.2 j q h)⟩ hS1 hl)
theorem k_callSI (C : Cx X cc own Ts rm tys nL) {post : Int32 → va_W → Prop} (M : CtI (kxL X) (kxD X) tys y wy rmc As ws post) (hT : GoodIn Ts (va_wsS own index y wy)) (hw : wy = Cond.code y bytes maxL ret :: wy') (hrc : rmc.cells = 0) (hrs : rmc.slots = 0) (hd1 : y.cls ≠ "java/lang/invoke/MethodHandle" ∧ y.cls ≠ "java/lang/invoke/VarHandle" ∧ (parseMethodDescriptor y.desc).map (fun d => d.parameters.length) = some ar) (hR : rmc.frames + 1 ≤ rm.frames ∧ 8 + (maxL + 11) + rmc.locals ≤ rm.locals) (hn : As.length = ar) (hst : st0 = As.reverse ++ rest) (hroom : (rest.map fun v => v.category).sum ≤ 8) (hd : decode cc pc = .ok (.invokestatic index, 3)) (hk : k ≤ rm.cells) (hs : n ≤ rm.slots)
    (K : ∀ (r : Int32) (w : va_W), post r w → Kw X k n w (pc + 3) lv (.int r :: rest)) : Kw X k n ws pc lv st0 := by
  intro H locs ls hP hD hS hl
  have hF := kFree hD hS C.hA
  exact va_calli (va_runS (As := As) (rest := rest) ⟨C.hx, C.hb, C.hml, C.hown, C.hts⟩ (M H.size) (va_cwS ar C.hts hT hw hrc hrs hd1 (by rw [C.hR]; exact hR)) ⟨kBlind _ _ _ _ _, fun U hU hW => ⟨rfl, by rw [hU], by rw [hU]; exact hP, va_K.moved hW.alike C.hK, kAll hD, C.hN.warm hW⟩⟩ rfl hn hl.1 hst (lv_room hroom) hd ⟨by rw [C.hR]; exact hk, by rw [C.hR]; exact hs⟩) hS (fun q _ h => hF q h) hF (fun r w t H1 locs1 ht hvm hp hB hz1 hk1 hS1 => K r w hp H1 locs1 ls (by rw [← ht]; exact hB.1) ⟨hB.2.1, fun j q h => hF _ (hB.2.2 j q h)⟩ hS1 hl)
theorem k_callSL (C : Cx X cc own Ts rm tys nL) {post : Int64 → va_W → Prop} (M : CtL (kxL X) (kxD X) tys y wy rmc As ws post) (hT : GoodIn Ts (va_wsS own index y wy)) (hw : wy = Cond.code y bytes maxL ret :: wy') (hrc : rmc.cells = 0) (hrs : rmc.slots = 0) (hd1 : y.cls ≠ "java/lang/invoke/MethodHandle" ∧ y.cls ≠ "java/lang/invoke/VarHandle" ∧ (parseMethodDescriptor y.desc).map (fun d => d.parameters.length) = some ar) (hR : rmc.frames + 1 ≤ rm.frames ∧ 8 + (maxL + 11) + rmc.locals ≤ rm.locals) (hn : As.length = ar) (hst : st0 = As.reverse ++ rest) (hroom : (rest.map fun v => v.category).sum ≤ 8) (hd : decode cc pc = .ok (.invokestatic index, 3)) (hk : k ≤ rm.cells) (hs : n ≤ rm.slots)
    (K : ∀ (r : Int64) (w : va_W), post r w → Kw X k n w (pc + 3) lv (.long r :: rest)) : Kw X k n ws pc lv st0 := by
  intro H locs ls hP hD hS hl
  have hF := kFree hD hS C.hA
  exact va_calll (va_runS (As := As) (rest := rest) ⟨C.hx, C.hb, C.hml, C.hown, C.hts⟩ (M H.size) (va_cwS ar C.hts hT hw hrc hrs hd1 (by rw [C.hR]; exact hR)) ⟨kBlind _ _ _ _ _, fun U hU hW => ⟨rfl, by rw [hU], by rw [hU]; exact hP, va_K.moved hW.alike C.hK, kAll hD, C.hN.warm hW⟩⟩ rfl hn hl.1 hst (lv_room hroom) hd ⟨by rw [C.hR]; exact hk, by rw [C.hR]; exact hs⟩) hS (fun q _ h => hF q h) hF (fun r w t H1 locs1 ht hvm hp hB hz1 hk1 hS1 => K r w hp H1 locs1 ls (by rw [← ht]; exact hB.1) ⟨hB.2.1, fun j q h => hF _ (hB.2.2 j q h)⟩ hS1 hl)
theorem k_callSD (C : Cx X cc own Ts rm tys nL) {post : UInt64 → va_W → Prop} (M : CtD (kxL X) (kxD X) tys y wy rmc As ws post) (hT : GoodIn Ts (va_wsS own index y wy)) (hw : wy = Cond.code y bytes maxL ret :: wy') (hrc : rmc.cells = 0) (hrs : rmc.slots = 0) (hd1 : y.cls ≠ "java/lang/invoke/MethodHandle" ∧ y.cls ≠ "java/lang/invoke/VarHandle" ∧ (parseMethodDescriptor y.desc).map (fun d => d.parameters.length) = some ar) (hR : rmc.frames + 1 ≤ rm.frames ∧ 8 + (maxL + 11) + rmc.locals ≤ rm.locals) (hn : As.length = ar) (hst : st0 = As.reverse ++ rest) (hroom : (rest.map fun v => v.category).sum ≤ 8) (hd : decode cc pc = .ok (.invokestatic index, 3)) (hk : k ≤ rm.cells) (hs : n ≤ rm.slots)
    (K : ∀ (r : UInt64) (w : va_W), post r w → Kw X k n w (pc + 3) lv (.double r :: rest)) : Kw X k n ws pc lv st0 := by
  intro H locs ls hP hD hS hl
  have hF := kFree hD hS C.hA
  exact va_calld (va_runS (As := As) (rest := rest) ⟨C.hx, C.hb, C.hml, C.hown, C.hts⟩ (M H.size) (va_cwS ar C.hts hT hw hrc hrs hd1 (by rw [C.hR]; exact hR)) ⟨kBlind _ _ _ _ _, fun U hU hW => ⟨rfl, by rw [hU], by rw [hU]; exact hP, va_K.moved hW.alike C.hK, kAll hD, C.hN.warm hW⟩⟩ rfl hn hl.1 hst (lv_room hroom) hd ⟨by rw [C.hR]; exact hk, by rw [C.hR]; exact hs⟩) hS (fun q _ h => hF q h) hF (fun r w t H1 locs1 ht hvm hp hB hz1 hk1 hS1 => K r w hp H1 locs1 ls (by rw [← ht]; exact hB.1) ⟨hB.2.1, fun j q h => hF _ (hB.2.2 j q h)⟩ hS1 hl)
theorem k_callSV (C : Cx X cc own Ts rm tys nL) {post : va_W → Prop} (M : CtV (kxL X) (kxD X) tys y wy rmc As ws post) (hT : GoodIn Ts (va_wsS own index y wy)) (hw : wy = Cond.code y bytes maxL ret :: wy') (hrc : rmc.cells = 0) (hrs : rmc.slots = 0) (hd1 : y.cls ≠ "java/lang/invoke/MethodHandle" ∧ y.cls ≠ "java/lang/invoke/VarHandle" ∧ (parseMethodDescriptor y.desc).map (fun d => d.parameters.length) = some ar) (hR : rmc.frames + 1 ≤ rm.frames ∧ 8 + (maxL + 11) + rmc.locals ≤ rm.locals) (hn : As.length = ar) (hst : st0 = As.reverse ++ rest) (hroom : (rest.map fun v => v.category).sum ≤ 8) (hd : decode cc pc = .ok (.invokestatic index, 3)) (hk : k ≤ rm.cells) (hs : n ≤ rm.slots)
    (K : ∀ (w : va_W), post w → Kw X k n w (pc + 3) lv rest) : Kw X k n ws pc lv st0 := by
  intro H locs ls hP hD hS hl
  have hF := kFree hD hS C.hA
  exact va_callv (va_runS (As := As) (rest := rest) ⟨C.hx, C.hb, C.hml, C.hown, C.hts⟩ (M H.size) (va_cwS ar C.hts hT hw hrc hrs hd1 (by rw [C.hR]; exact hR)) ⟨kBlind _ _ _ _ _, fun U hU hW => ⟨rfl, by rw [hU], by rw [hU]; exact hP, va_K.moved hW.alike C.hK, kAll hD, C.hN.warm hW⟩⟩ rfl hn hl.1 hst (lv_room hroom) hd ⟨by rw [C.hR]; exact hk, by rw [C.hR]; exact hs⟩) hS (fun q _ h => hF q h) hF (fun w t H1 locs1 ht hvm hp hB hz1 hk1 hS1 => K w hp H1 locs1 ls (by rw [← ht]; exact hB.1) ⟨hB.2.1, fun j q h => hF _ (hB.2.2 j q h)⟩ hS1 hl)
theorem k_callSNI (C : Cx X cc own Ts rm tys nL) {post : Int32 → va_W → Prop} (M : CtI (kxL X) (kxD X) tys y wy rmc As ws post) (hG : GoodIn Ts wy) (hw : wy = Cond.code y bytes maxL ret :: wy') (hrc : rmc.cells = 0) (hrs : rmc.slots = 0) (hl1 : Cond.methodLinkNest own index y host ∈ kNW) (hi1 : Cond.initialized y.cls ∈ Ts) (hi2 : Cond.static y ∈ Ts) (hd1 : y.cls ≠ "java/lang/invoke/MethodHandle" ∧ y.cls ≠ "java/lang/invoke/VarHandle" ∧ (parseMethodDescriptor y.desc).map (fun d => d.parameters.length) = some ar) (hR : rmc.frames + 1 ≤ rm.frames ∧ 8 + (maxL + 11) + rmc.locals ≤ rm.locals) (hn : As.length = ar) (hst : st0 = As.reverse ++ rest) (hroom : (rest.map fun v => v.category).sum ≤ 8) (hd : decode cc pc = .ok (.invokestatic index, 3)) (hk : k ≤ rm.cells) (hs : n ≤ rm.slots)
    (K : ∀ (r : Int32) (w : va_W), post r w → Kw X k n w (pc + 3) lv (.int r :: rest)) : Kw X k n ws pc lv st0 := by
  intro H locs ls hP hD hS hl
  have hF := kFree hD hS C.hA
  exact va_calli (va_runSN (As := As) (rest := rest) ⟨C.hx, C.hb, C.hml, C.hown, C.hts⟩ (M H.size) ⟨va_cnB ar C.hts hG hw hrc hrs (C.hN _ hl1) (C.hts _ hi1) hd1 (by rw [C.hR]; exact hR), C.hts _ hi2, trivial⟩ ⟨kBlind _ _ _ _ _, fun U hU hW => ⟨rfl, by rw [hU], by rw [hU]; exact hP, va_K.moved hW.alike C.hK, kAll hD, C.hN.warm hW⟩⟩ rfl hn hl.1 hst (lv_room hroom) hd ⟨by rw [C.hR]; exact hk, by rw [C.hR]; exact hs⟩) hS (fun q _ h => hF q h) hF (fun r w t H1 locs1 ht hvm hp hB hz1 hk1 hS1 => K r w hp H1 locs1 ls (by rw [← ht]; exact hB.1) ⟨hB.2.1, fun j q h => hF _ (hB.2.2 j q h)⟩ hS1 hl)
theorem k_callSNL (C : Cx X cc own Ts rm tys nL) {post : Int64 → va_W → Prop} (M : CtL (kxL X) (kxD X) tys y wy rmc As ws post) (hG : GoodIn Ts wy) (hw : wy = Cond.code y bytes maxL ret :: wy') (hrc : rmc.cells = 0) (hrs : rmc.slots = 0) (hl1 : Cond.methodLinkNest own index y host ∈ kNW) (hi1 : Cond.initialized y.cls ∈ Ts) (hi2 : Cond.static y ∈ Ts) (hd1 : y.cls ≠ "java/lang/invoke/MethodHandle" ∧ y.cls ≠ "java/lang/invoke/VarHandle" ∧ (parseMethodDescriptor y.desc).map (fun d => d.parameters.length) = some ar) (hR : rmc.frames + 1 ≤ rm.frames ∧ 8 + (maxL + 11) + rmc.locals ≤ rm.locals) (hn : As.length = ar) (hst : st0 = As.reverse ++ rest) (hroom : (rest.map fun v => v.category).sum ≤ 8) (hd : decode cc pc = .ok (.invokestatic index, 3)) (hk : k ≤ rm.cells) (hs : n ≤ rm.slots)
    (K : ∀ (r : Int64) (w : va_W), post r w → Kw X k n w (pc + 3) lv (.long r :: rest)) : Kw X k n ws pc lv st0 := by
  intro H locs ls hP hD hS hl
  have hF := kFree hD hS C.hA
  exact va_calll (va_runSN (As := As) (rest := rest) ⟨C.hx, C.hb, C.hml, C.hown, C.hts⟩ (M H.size) ⟨va_cnB ar C.hts hG hw hrc hrs (C.hN _ hl1) (C.hts _ hi1) hd1 (by rw [C.hR]; exact hR), C.hts _ hi2, trivial⟩ ⟨kBlind _ _ _ _ _, fun U hU hW => ⟨rfl, by rw [hU], by rw [hU]; exact hP, va_K.moved hW.alike C.hK, kAll hD, C.hN.warm hW⟩⟩ rfl hn hl.1 hst (lv_room hroom) hd ⟨by rw [C.hR]; exact hk, by rw [C.hR]; exact hs⟩) hS (fun q _ h => hF q h) hF (fun r w t H1 locs1 ht hvm hp hB hz1 hk1 hS1 => K r w hp H1 locs1 ls (by rw [← ht]; exact hB.1) ⟨hB.2.1, fun j q h => hF _ (hB.2.2 j q h)⟩ hS1 hl)
theorem k_callSND (C : Cx X cc own Ts rm tys nL) {post : UInt64 → va_W → Prop} (M : CtD (kxL X) (kxD X) tys y wy rmc As ws post) (hG : GoodIn Ts wy) (hw : wy = Cond.code y bytes maxL ret :: wy') (hrc : rmc.cells = 0) (hrs : rmc.slots = 0) (hl1 : Cond.methodLinkNest own index y host ∈ kNW) (hi1 : Cond.initialized y.cls ∈ Ts) (hi2 : Cond.static y ∈ Ts) (hd1 : y.cls ≠ "java/lang/invoke/MethodHandle" ∧ y.cls ≠ "java/lang/invoke/VarHandle" ∧ (parseMethodDescriptor y.desc).map (fun d => d.parameters.length) = some ar) (hR : rmc.frames + 1 ≤ rm.frames ∧ 8 + (maxL + 11) + rmc.locals ≤ rm.locals) (hn : As.length = ar) (hst : st0 = As.reverse ++ rest) (hroom : (rest.map fun v => v.category).sum ≤ 8) (hd : decode cc pc = .ok (.invokestatic index, 3)) (hk : k ≤ rm.cells) (hs : n ≤ rm.slots)
    (K : ∀ (r : UInt64) (w : va_W), post r w → Kw X k n w (pc + 3) lv (.double r :: rest)) : Kw X k n ws pc lv st0 := by
  intro H locs ls hP hD hS hl
  have hF := kFree hD hS C.hA
  exact va_calld (va_runSN (As := As) (rest := rest) ⟨C.hx, C.hb, C.hml, C.hown, C.hts⟩ (M H.size) ⟨va_cnB ar C.hts hG hw hrc hrs (C.hN _ hl1) (C.hts _ hi1) hd1 (by rw [C.hR]; exact hR), C.hts _ hi2, trivial⟩ ⟨kBlind _ _ _ _ _, fun U hU hW => ⟨rfl, by rw [hU], by rw [hU]; exact hP, va_K.moved hW.alike C.hK, kAll hD, C.hN.warm hW⟩⟩ rfl hn hl.1 hst (lv_room hroom) hd ⟨by rw [C.hR]; exact hk, by rw [C.hR]; exact hs⟩) hS (fun q _ h => hF q h) hF (fun r w t H1 locs1 ht hvm hp hB hz1 hk1 hS1 => K r w hp H1 locs1 ls (by rw [← ht]; exact hB.1) ⟨hB.2.1, fun j q h => hF _ (hB.2.2 j q h)⟩ hS1 hl)
theorem k_callSNV (C : Cx X cc own Ts rm tys nL) {post : va_W → Prop} (M : CtV (kxL X) (kxD X) tys y wy rmc As ws post) (hG : GoodIn Ts wy) (hw : wy = Cond.code y bytes maxL ret :: wy') (hrc : rmc.cells = 0) (hrs : rmc.slots = 0) (hl1 : Cond.methodLinkNest own index y host ∈ kNW) (hi1 : Cond.initialized y.cls ∈ Ts) (hi2 : Cond.static y ∈ Ts) (hd1 : y.cls ≠ "java/lang/invoke/MethodHandle" ∧ y.cls ≠ "java/lang/invoke/VarHandle" ∧ (parseMethodDescriptor y.desc).map (fun d => d.parameters.length) = some ar) (hR : rmc.frames + 1 ≤ rm.frames ∧ 8 + (maxL + 11) + rmc.locals ≤ rm.locals) (hn : As.length = ar) (hst : st0 = As.reverse ++ rest) (hroom : (rest.map fun v => v.category).sum ≤ 8) (hd : decode cc pc = .ok (.invokestatic index, 3)) (hk : k ≤ rm.cells) (hs : n ≤ rm.slots)
    (K : ∀ (w : va_W), post w → Kw X k n w (pc + 3) lv rest) : Kw X k n ws pc lv st0 := by
  intro H locs ls hP hD hS hl
  have hF := kFree hD hS C.hA
  exact va_callv (va_runSN (As := As) (rest := rest) ⟨C.hx, C.hb, C.hml, C.hown, C.hts⟩ (M H.size) ⟨va_cnB ar C.hts hG hw hrc hrs (C.hN _ hl1) (C.hts _ hi1) hd1 (by rw [C.hR]; exact hR), C.hts _ hi2, trivial⟩ ⟨kBlind _ _ _ _ _, fun U hU hW => ⟨rfl, by rw [hU], by rw [hU]; exact hP, va_K.moved hW.alike C.hK, kAll hD, C.hN.warm hW⟩⟩ rfl hn hl.1 hst (lv_room hroom) hd ⟨by rw [C.hR]; exact hk, by rw [C.hR]; exact hs⟩) hS (fun q _ h => hF q h) hF (fun w t H1 locs1 ht hvm hp hB hz1 hk1 hS1 => K w hp H1 locs1 ls (by rw [← ht]; exact hB.1) ⟨hB.2.1, fun j q h => hF _ (hB.2.2 j q h)⟩ hS1 hl)
end KCalls
end
