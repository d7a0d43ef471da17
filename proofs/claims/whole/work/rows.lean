section
-- ===== PART A: goes FIRST, ahead of the names: the tables' words, and 'selects' of the private methods out of them =====
/-- a private method of a class that the tables say can be made, by its rows of tables_1 -/
def lw_okq (q : MethodName × Nat) : Prop := (q.1.cls ≠ "java/lang/invoke/MethodHandle" ∧ q.1.cls ≠ "java/lang/invoke/VarHandle") ∧ Cond.instantiable q.1.cls q.2 ∈ tables_1 ∧ Cond.privateMethod q.1 ∈ tables_1 ∧ Cond.instanceMethod q.1 ∈ tables_1
theorem lw_p0 : lw_okq (⟨"LeastTeaches$Reader", "advance", "()V"⟩, 8) := ⟨⟨by decide +kernel, by decide +kernel⟩, List.mem_of_getElem? (i := 25) (by decide +kernel), List.mem_of_getElem? (i := 289) (by decide +kernel), List.mem_of_getElem? (i := 290) (by decide +kernel)⟩
theorem lw_p1 : lw_okq (⟨"LeastTeaches$Reader", "kindAt", "(I)I"⟩, 8) := ⟨⟨by decide +kernel, by decide +kernel⟩, List.mem_of_getElem? (i := 25) (by decide +kernel), List.mem_of_getElem? (i := 293) (by decide +kernel), List.mem_of_getElem? (i := 294) (by decide +kernel)⟩
theorem lw_p2 : lw_okq (⟨"LeastTeaches$Reader", "isWord", "(Ljava/lang/String;)Z"⟩, 8) := ⟨⟨by decide +kernel, by decide +kernel⟩, List.mem_of_getElem? (i := 25) (by decide +kernel), List.mem_of_getElem? (i := 298) (by decide +kernel), List.mem_of_getElem? (i := 299) (by decide +kernel)⟩
theorem lw_p3 : lw_okq (⟨"LeastTeaches$Reader", "readThing", "()V"⟩, 8) := ⟨⟨by decide +kernel, by decide +kernel⟩, List.mem_of_getElem? (i := 25) (by decide +kernel), List.mem_of_getElem? (i := 350) (by decide +kernel), List.mem_of_getElem? (i := 351) (by decide +kernel)⟩
theorem lw_p4 : lw_okq (⟨"LeastTeaches$Reader", "refuse", "(II)V"⟩, 8) := ⟨⟨by decide +kernel, by decide +kernel⟩, List.mem_of_getElem? (i := 25) (by decide +kernel), List.mem_of_getElem? (i := 354) (by decide +kernel), List.mem_of_getElem? (i := 355) (by decide +kernel)⟩
theorem lw_p5 : lw_okq (⟨"LeastTeaches$Reader", "readLeaning", "()I"⟩, 8) := ⟨⟨by decide +kernel, by decide +kernel⟩, List.mem_of_getElem? (i := 25) (by decide +kernel), List.mem_of_getElem? (i := 359) (by decide +kernel), List.mem_of_getElem? (i := 360) (by decide +kernel)⟩
theorem lw_p6 : lw_okq (⟨"LeastTeaches$Reader", "takeNumber", "(II)I"⟩, 8) := ⟨⟨by decide +kernel, by decide +kernel⟩, List.mem_of_getElem? (i := 25) (by decide +kernel), List.mem_of_getElem? (i := 363) (by decide +kernel), List.mem_of_getElem? (i := 364) (by decide +kernel)⟩
theorem lw_p7 : lw_okq (⟨"LeastTeaches$Reader", "isSign", "(I)Z"⟩, 8) := ⟨⟨by decide +kernel, by decide +kernel⟩, List.mem_of_getElem? (i := 25) (by decide +kernel), List.mem_of_getElem? (i := 367) (by decide +kernel), List.mem_of_getElem? (i := 368) (by decide +kernel)⟩
theorem lw_p8 : lw_okq (⟨"LeastTeaches$Reader", "takeSign", "(I)V"⟩, 8) := ⟨⟨by decide +kernel, by decide +kernel⟩, List.mem_of_getElem? (i := 25) (by decide +kernel), List.mem_of_getElem? (i := 371) (by decide +kernel), List.mem_of_getElem? (i := 372) (by decide +kernel)⟩
theorem lw_p9 : lw_okq (⟨"LeastTeaches$Reader", "readPupil", "()V"⟩, 8) := ⟨⟨by decide +kernel, by decide +kernel⟩, List.mem_of_getElem? (i := 25) (by decide +kernel), List.mem_of_getElem? (i := 376) (by decide +kernel), List.mem_of_getElem? (i := 377) (by decide +kernel)⟩
theorem lw_p10 : lw_okq (⟨"LeastTeaches", "isPupil", "(I)Z"⟩, 16) := ⟨⟨by decide +kernel, by decide +kernel⟩, List.mem_of_getElem? (i := 17) (by decide +kernel), List.mem_of_getElem? (i := 403) (by decide +kernel), List.mem_of_getElem? (i := 404) (by decide +kernel)⟩
theorem lw_p11 : lw_okq (⟨"LeastTeaches", "knownThings", "(I)I"⟩, 16) := ⟨⟨by decide +kernel, by decide +kernel⟩, List.mem_of_getElem? (i := 17) (by decide +kernel), List.mem_of_getElem? (i := 408) (by decide +kernel), List.mem_of_getElem? (i := 409) (by decide +kernel)⟩
theorem lw_p12 : lw_okq (⟨"LeastTeaches", "allLevels", "(I)I"⟩, 16) := ⟨⟨by decide +kernel, by decide +kernel⟩, List.mem_of_getElem? (i := 17) (by decide +kernel), List.mem_of_getElem? (i := 412) (by decide +kernel), List.mem_of_getElem? (i := 413) (by decide +kernel)⟩
theorem lw_p13 : lw_okq (⟨"LeastTeaches", "isThing", "(I)Z"⟩, 16) := ⟨⟨by decide +kernel, by decide +kernel⟩, List.mem_of_getElem? (i := 17) (by decide +kernel), List.mem_of_getElem? (i := 420) (by decide +kernel), List.mem_of_getElem? (i := 421) (by decide +kernel)⟩
theorem lw_p14 : lw_okq (⟨"LeastTeaches", "sitAll", "(I)V"⟩, 16) := ⟨⟨by decide +kernel, by decide +kernel⟩, List.mem_of_getElem? (i := 17) (by decide +kernel), List.mem_of_getElem? (i := 432) (by decide +kernel), List.mem_of_getElem? (i := 433) (by decide +kernel)⟩
theorem lw_p15 : lw_okq (⟨"LeastTeaches$Bench", "comes", "(IZ)Z"⟩, 11) := ⟨⟨by decide +kernel, by decide +kernel⟩, List.mem_of_getElem? (i := 130) (by decide +kernel), List.mem_of_getElem? (i := 467) (by decide +kernel), List.mem_of_getElem? (i := 468) (by decide +kernel)⟩
def lw_privs_1 : List (MethodName × Nat) := [(⟨"LeastTeaches$Reader", "advance", "()V"⟩, 8), (⟨"LeastTeaches$Reader", "kindAt", "(I)I"⟩, 8), (⟨"LeastTeaches$Reader", "isWord", "(Ljava/lang/String;)Z"⟩, 8), (⟨"LeastTeaches$Reader", "readThing", "()V"⟩, 8), (⟨"LeastTeaches$Reader", "refuse", "(II)V"⟩, 8), (⟨"LeastTeaches$Reader", "readLeaning", "()I"⟩, 8), (⟨"LeastTeaches$Reader", "takeNumber", "(II)I"⟩, 8), (⟨"LeastTeaches$Reader", "isSign", "(I)Z"⟩, 8), (⟨"LeastTeaches$Reader", "takeSign", "(I)V"⟩, 8), (⟨"LeastTeaches$Reader", "readPupil", "()V"⟩, 8), (⟨"LeastTeaches", "isPupil", "(I)Z"⟩, 16), (⟨"LeastTeaches", "knownThings", "(I)I"⟩, 16), (⟨"LeastTeaches", "allLevels", "(I)I"⟩, 16), (⟨"LeastTeaches", "isThing", "(I)Z"⟩, 16), (⟨"LeastTeaches", "sitAll", "(I)V"⟩, 16), (⟨"LeastTeaches$Bench", "comes", "(IZ)Z"⟩, 11)]
theorem lw_r1 : ∀ q ∈ lw_privs_1, lw_okq q := List.forall_mem_cons.mpr ⟨lw_p0, List.forall_mem_cons.mpr ⟨lw_p1, List.forall_mem_cons.mpr ⟨lw_p2, List.forall_mem_cons.mpr ⟨lw_p3, List.forall_mem_cons.mpr ⟨lw_p4, List.forall_mem_cons.mpr ⟨lw_p5, List.forall_mem_cons.mpr ⟨lw_p6, List.forall_mem_cons.mpr ⟨lw_p7, List.forall_mem_cons.mpr ⟨lw_p8, List.forall_mem_cons.mpr ⟨lw_p9, List.forall_mem_cons.mpr ⟨lw_p10, List.forall_mem_cons.mpr ⟨lw_p11, List.forall_mem_cons.mpr ⟨lw_p12, List.forall_mem_cons.mpr ⟨lw_p13, List.forall_mem_cons.mpr ⟨lw_p14, List.forall_mem_cons.mpr ⟨lw_p15, fun _ h => absurd h List.not_mem_nil⟩⟩⟩⟩⟩⟩⟩⟩⟩⟩⟩⟩⟩⟩⟩⟩
theorem lw_p16 : lw_okq (⟨"LeastTeaches$Bench", "endShaken", "(IZ)I"⟩, 11) := ⟨⟨by decide +kernel, by decide +kernel⟩, List.mem_of_getElem? (i := 130) (by decide +kernel), List.mem_of_getElem? (i := 487) (by decide +kernel), List.mem_of_getElem? (i := 488) (by decide +kernel)⟩
theorem lw_p17 : lw_okq (⟨"LeastTeaches$Bench", "endAgreed", "(I)I"⟩, 11) := ⟨⟨by decide +kernel, by decide +kernel⟩, List.mem_of_getElem? (i := 130) (by decide +kernel), List.mem_of_getElem? (i := 491) (by decide +kernel), List.mem_of_getElem? (i := 492) (by decide +kernel)⟩
theorem lw_p18 : lw_okq (⟨"LeastTeaches$Bench", "rise", "(II)V"⟩, 11) := ⟨⟨by decide +kernel, by decide +kernel⟩, List.mem_of_getElem? (i := 130) (by decide +kernel), List.mem_of_getElem? (i := 495) (by decide +kernel), List.mem_of_getElem? (i := 496) (by decide +kernel)⟩
theorem lw_p19 : lw_okq (⟨"LeastTeaches$Bench", "endCorrected", "(I)I"⟩, 11) := ⟨⟨by decide +kernel, by decide +kernel⟩, List.mem_of_getElem? (i := 130) (by decide +kernel), List.mem_of_getElem? (i := 499) (by decide +kernel), List.mem_of_getElem? (i := 500) (by decide +kernel)⟩
theorem lw_p20 : lw_okq (⟨"LeastTeaches$Bench", "endMisled", "(IZ)I"⟩, 11) := ⟨⟨by decide +kernel, by decide +kernel⟩, List.mem_of_getElem? (i := 130) (by decide +kernel), List.mem_of_getElem? (i := 503) (by decide +kernel), List.mem_of_getElem? (i := 504) (by decide +kernel)⟩
theorem lw_p21 : lw_okq (⟨"LeastTeaches$Bench", "share", "(JII)J"⟩, 11) := ⟨⟨by decide +kernel, by decide +kernel⟩, List.mem_of_getElem? (i := 130) (by decide +kernel), List.mem_of_getElem? (i := 535) (by decide +kernel), List.mem_of_getElem? (i := 536) (by decide +kernel)⟩
theorem lw_p22 : lw_okq (⟨"LeastTeaches", "isRule", "(I)Z"⟩, 16) := ⟨⟨by decide +kernel, by decide +kernel⟩, List.mem_of_getElem? (i := 17) (by decide +kernel), List.mem_of_getElem? (i := 545) (by decide +kernel), List.mem_of_getElem? (i := 546) (by decide +kernel)⟩
theorem lw_p23 : lw_okq (⟨"LeastTeaches$Bench", "greatestBelow", "(I)I"⟩, 11) := ⟨⟨by decide +kernel, by decide +kernel⟩, List.mem_of_getElem? (i := 130) (by decide +kernel), List.mem_of_getElem? (i := 575) (by decide +kernel), List.mem_of_getElem? (i := 576) (by decide +kernel)⟩
theorem lw_p24 : lw_okq (⟨"LeastTeaches$Odds", "teach", "(LLeastTeaches$Bench;II)V"⟩, 6) := ⟨⟨by decide +kernel, by decide +kernel⟩, List.mem_of_getElem? (i := 181) (by decide +kernel), List.mem_of_getElem? (i := 579) (by decide +kernel), List.mem_of_getElem? (i := 580) (by decide +kernel)⟩
theorem lw_p25 : lw_okq (⟨"LeastTeaches$Odds", "partByNo", "(LLeastTeaches$Bench;IJZ)V"⟩, 6) := ⟨⟨by decide +kernel, by decide +kernel⟩, List.mem_of_getElem? (i := 181) (by decide +kernel), List.mem_of_getElem? (i := 585) (by decide +kernel), List.mem_of_getElem? (i := 586) (by decide +kernel)⟩
theorem lw_p26 : lw_okq (⟨"LeastTeaches$Odds", "begin", "(J)V"⟩, 6) := ⟨⟨by decide +kernel, by decide +kernel⟩, List.mem_of_getElem? (i := 181) (by decide +kernel), List.mem_of_getElem? (i := 589) (by decide +kernel), List.mem_of_getElem? (i := 590) (by decide +kernel)⟩
theorem lw_p27 : lw_okq (⟨"LeastTeaches$Odds", "split", "(II)V"⟩, 6) := ⟨⟨by decide +kernel, by decide +kernel⟩, List.mem_of_getElem? (i := 181) (by decide +kernel), List.mem_of_getElem? (i := 595) (by decide +kernel), List.mem_of_getElem? (i := 596) (by decide +kernel)⟩
theorem lw_p28 : lw_okq (⟨"LeastTeaches$Odds", "endRight", "(LLeastTeaches$Bench;II)V"⟩, 6) := ⟨⟨by decide +kernel, by decide +kernel⟩, List.mem_of_getElem? (i := 181) (by decide +kernel), List.mem_of_getElem? (i := 600) (by decide +kernel), List.mem_of_getElem? (i := 601) (by decide +kernel)⟩
theorem lw_p29 : lw_okq (⟨"LeastTeaches$Odds", "endWrong", "(LLeastTeaches$Bench;II)V"⟩, 6) := ⟨⟨by decide +kernel, by decide +kernel⟩, List.mem_of_getElem? (i := 181) (by decide +kernel), List.mem_of_getElem? (i := 605) (by decide +kernel), List.mem_of_getElem? (i := 606) (by decide +kernel)⟩
theorem lw_p30 : lw_okq (⟨"LeastTeaches$Odds", "endMisled", "(LLeastTeaches$Bench;II)V"⟩, 6) := ⟨⟨by decide +kernel, by decide +kernel⟩, List.mem_of_getElem? (i := 181) (by decide +kernel), List.mem_of_getElem? (i := 610) (by decide +kernel), List.mem_of_getElem? (i := 611) (by decide +kernel)⟩
theorem lw_p31 : lw_okq (⟨"LeastTeaches", "fewestOfAll", "(LLeastTeaches$Standing;IZ)I"⟩, 16) := ⟨⟨by decide +kernel, by decide +kernel⟩, List.mem_of_getElem? (i := 17) (by decide +kernel), List.mem_of_getElem? (i := 667) (by decide +kernel), List.mem_of_getElem? (i := 668) (by decide +kernel)⟩
def lw_privs_2 : List (MethodName × Nat) := [(⟨"LeastTeaches$Bench", "endShaken", "(IZ)I"⟩, 11), (⟨"LeastTeaches$Bench", "endAgreed", "(I)I"⟩, 11), (⟨"LeastTeaches$Bench", "rise", "(II)V"⟩, 11), (⟨"LeastTeaches$Bench", "endCorrected", "(I)I"⟩, 11), (⟨"LeastTeaches$Bench", "endMisled", "(IZ)I"⟩, 11), (⟨"LeastTeaches$Bench", "share", "(JII)J"⟩, 11), (⟨"LeastTeaches", "isRule", "(I)Z"⟩, 16), (⟨"LeastTeaches$Bench", "greatestBelow", "(I)I"⟩, 11), (⟨"LeastTeaches$Odds", "teach", "(LLeastTeaches$Bench;II)V"⟩, 6), (⟨"LeastTeaches$Odds", "partByNo", "(LLeastTeaches$Bench;IJZ)V"⟩, 6), (⟨"LeastTeaches$Odds", "begin", "(J)V"⟩, 6), (⟨"LeastTeaches$Odds", "split", "(II)V"⟩, 6), (⟨"LeastTeaches$Odds", "endRight", "(LLeastTeaches$Bench;II)V"⟩, 6), (⟨"LeastTeaches$Odds", "endWrong", "(LLeastTeaches$Bench;II)V"⟩, 6), (⟨"LeastTeaches$Odds", "endMisled", "(LLeastTeaches$Bench;II)V"⟩, 6), (⟨"LeastTeaches", "fewestOfAll", "(LLeastTeaches$Standing;IZ)I"⟩, 16)]
theorem lw_r2 : ∀ q ∈ lw_privs_2, lw_okq q := List.forall_mem_cons.mpr ⟨lw_p16, List.forall_mem_cons.mpr ⟨lw_p17, List.forall_mem_cons.mpr ⟨lw_p18, List.forall_mem_cons.mpr ⟨lw_p19, List.forall_mem_cons.mpr ⟨lw_p20, List.forall_mem_cons.mpr ⟨lw_p21, List.forall_mem_cons.mpr ⟨lw_p22, List.forall_mem_cons.mpr ⟨lw_p23, List.forall_mem_cons.mpr ⟨lw_p24, List.forall_mem_cons.mpr ⟨lw_p25, List.forall_mem_cons.mpr ⟨lw_p26, List.forall_mem_cons.mpr ⟨lw_p27, List.forall_mem_cons.mpr ⟨lw_p28, List.forall_mem_cons.mpr ⟨lw_p29, List.forall_mem_cons.mpr ⟨lw_p30, List.forall_mem_cons.mpr ⟨lw_p31, fun _ h => absurd h List.not_mem_nil⟩⟩⟩⟩⟩⟩⟩⟩⟩⟩⟩⟩⟩⟩⟩⟩
theorem lw_p32 : lw_okq (⟨"LeastTeaches", "searchFor", "(Z)LLeastTeaches$Search;"⟩, 16) := ⟨⟨by decide +kernel, by decide +kernel⟩, List.mem_of_getElem? (i := 17) (by decide +kernel), List.mem_of_getElem? (i := 675) (by decide +kernel), List.mem_of_getElem? (i := 676) (by decide +kernel)⟩
theorem lw_p33 : lw_okq (⟨"LeastTeaches$Search", "look", "(LLeastTeaches$Bench;II)I"⟩, 2) := ⟨⟨by decide +kernel, by decide +kernel⟩, List.mem_of_getElem? (i := 207) (by decide +kernel), List.mem_of_getElem? (i := 690) (by decide +kernel), List.mem_of_getElem? (i := 691) (by decide +kernel)⟩
theorem lw_p34 : lw_okq (⟨"LeastTeaches", "levelBehind", "(IIII)I"⟩, 16) := ⟨⟨by decide +kernel, by decide +kernel⟩, List.mem_of_getElem? (i := 17) (by decide +kernel), List.mem_of_getElem? (i := 721) (by decide +kernel), List.mem_of_getElem? (i := 722) (by decide +kernel)⟩
theorem lw_p35 : lw_okq (⟨"LeastTeaches", "findOrder", "()I"⟩, 16) := ⟨⟨by decide +kernel, by decide +kernel⟩, List.mem_of_getElem? (i := 17) (by decide +kernel), List.mem_of_getElem? (i := 730) (by decide +kernel), List.mem_of_getElem? (i := 731) (by decide +kernel)⟩
theorem lw_p36 : lw_okq (⟨"LeastTeaches", "leastOpen", "(I)I"⟩, 16) := ⟨⟨by decide +kernel, by decide +kernel⟩, List.mem_of_getElem? (i := 17) (by decide +kernel), List.mem_of_getElem? (i := 738) (by decide +kernel), List.mem_of_getElem? (i := 739) (by decide +kernel)⟩
theorem lw_p37 : lw_okq (⟨"LeastTeaches", "fewestOfPart", "(II)I"⟩, 16) := ⟨⟨by decide +kernel, by decide +kernel⟩, List.mem_of_getElem? (i := 17) (by decide +kernel), List.mem_of_getElem? (i := 746) (by decide +kernel), List.mem_of_getElem? (i := 747) (by decide +kernel)⟩
theorem lw_p38 : lw_okq (⟨"LeastTeaches", "imageOf", "(I)LLeastTeaches$Standing;"⟩, 16) := ⟨⟨by decide +kernel, by decide +kernel⟩, List.mem_of_getElem? (i := 17) (by decide +kernel), List.mem_of_getElem? (i := 771) (by decide +kernel), List.mem_of_getElem? (i := 772) (by decide +kernel)⟩
theorem lw_p39 : lw_okq (⟨"LeastTeachesModel", "here", "()I"⟩, 41) := ⟨⟨by decide +kernel, by decide +kernel⟩, List.mem_of_getElem? (i := 779) (by decide +kernel), List.mem_of_getElem? (i := 925) (by decide +kernel), List.mem_of_getElem? (i := 926) (by decide +kernel)⟩
theorem lw_p40 : lw_okq (⟨"LeastTeachesModel", "takeClause", "()I"⟩, 41) := ⟨⟨by decide +kernel, by decide +kernel⟩, List.mem_of_getElem? (i := 779) (by decide +kernel), List.mem_of_getElem? (i := 929) (by decide +kernel), List.mem_of_getElem? (i := 930) (by decide +kernel)⟩
theorem lw_p41 : lw_okq (⟨"LeastTeachesModel", "readWord", "()V"⟩, 41) := ⟨⟨by decide +kernel, by decide +kernel⟩, List.mem_of_getElem? (i := 779) (by decide +kernel), List.mem_of_getElem? (i := 933) (by decide +kernel), List.mem_of_getElem? (i := 934) (by decide +kernel)⟩
theorem lw_p42 : lw_okq (⟨"LeastTeachesModel", "fails", "(II)I"⟩, 41) := ⟨⟨by decide +kernel, by decide +kernel⟩, List.mem_of_getElem? (i := 779) (by decide +kernel), List.mem_of_getElem? (i := 946) (by decide +kernel), List.mem_of_getElem? (i := 947) (by decide +kernel)⟩
theorem lw_p43 : lw_okq (⟨"LeastTeachesModel", "takeThing", "()I"⟩, 41) := ⟨⟨by decide +kernel, by decide +kernel⟩, List.mem_of_getElem? (i := 779) (by decide +kernel), List.mem_of_getElem? (i := 950) (by decide +kernel), List.mem_of_getElem? (i := 951) (by decide +kernel)⟩
theorem lw_p44 : lw_okq (⟨"LeastTeachesModel", "takeNumber", "(II)I"⟩, 41) := ⟨⟨by decide +kernel, by decide +kernel⟩, List.mem_of_getElem? (i := 779) (by decide +kernel), List.mem_of_getElem? (i := 955) (by decide +kernel), List.mem_of_getElem? (i := 956) (by decide +kernel)⟩
theorem lw_p45 : lw_okq (⟨"LeastTeachesModel", "isComma", "()Z"⟩, 41) := ⟨⟨by decide +kernel, by decide +kernel⟩, List.mem_of_getElem? (i := 779) (by decide +kernel), List.mem_of_getElem? (i := 964) (by decide +kernel), List.mem_of_getElem? (i := 965) (by decide +kernel)⟩
theorem lw_p46 : lw_okq (⟨"LeastTeachesModel", "takePupil", "()I"⟩, 41) := ⟨⟨by decide +kernel, by decide +kernel⟩, List.mem_of_getElem? (i := 779) (by decide +kernel), List.mem_of_getElem? (i := 968) (by decide +kernel), List.mem_of_getElem? (i := 969) (by decide +kernel)⟩
theorem lw_p47 : lw_okq (⟨"LeastTeachesModel", "isPupil", "(I)Z"⟩, 41) := ⟨⟨by decide +kernel, by decide +kernel⟩, List.mem_of_getElem? (i := 779) (by decide +kernel), List.mem_of_getElem? (i := 984) (by decide +kernel), List.mem_of_getElem? (i := 985) (by decide +kernel)⟩
def lw_privs_3 : List (MethodName × Nat) := [(⟨"LeastTeaches", "searchFor", "(Z)LLeastTeaches$Search;"⟩, 16), (⟨"LeastTeaches$Search", "look", "(LLeastTeaches$Bench;II)I"⟩, 2), (⟨"LeastTeaches", "levelBehind", "(IIII)I"⟩, 16), (⟨"LeastTeaches", "findOrder", "()I"⟩, 16), (⟨"LeastTeaches", "leastOpen", "(I)I"⟩, 16), (⟨"LeastTeaches", "fewestOfPart", "(II)I"⟩, 16), (⟨"LeastTeaches", "imageOf", "(I)LLeastTeaches$Standing;"⟩, 16), (⟨"LeastTeachesModel", "here", "()I"⟩, 41), (⟨"LeastTeachesModel", "takeClause", "()I"⟩, 41), (⟨"LeastTeachesModel", "readWord", "()V"⟩, 41), (⟨"LeastTeachesModel", "fails", "(II)I"⟩, 41), (⟨"LeastTeachesModel", "takeThing", "()I"⟩, 41), (⟨"LeastTeachesModel", "takeNumber", "(II)I"⟩, 41), (⟨"LeastTeachesModel", "isComma", "()Z"⟩, 41), (⟨"LeastTeachesModel", "takePupil", "()I"⟩, 41), (⟨"LeastTeachesModel", "isPupil", "(I)Z"⟩, 41)]
theorem lw_r3 : ∀ q ∈ lw_privs_3, lw_okq q := List.forall_mem_cons.mpr ⟨lw_p32, List.forall_mem_cons.mpr ⟨lw_p33, List.forall_mem_cons.mpr ⟨lw_p34, List.forall_mem_cons.mpr ⟨lw_p35, List.forall_mem_cons.mpr ⟨lw_p36, List.forall_mem_cons.mpr ⟨lw_p37, List.forall_mem_cons.mpr ⟨lw_p38, List.forall_mem_cons.mpr ⟨lw_p39, List.forall_mem_cons.mpr ⟨lw_p40, List.forall_mem_cons.mpr ⟨lw_p41, List.forall_mem_cons.mpr ⟨lw_p42, List.forall_mem_cons.mpr ⟨lw_p43, List.forall_mem_cons.mpr ⟨lw_p44, List.forall_mem_cons.mpr ⟨lw_p45, List.forall_mem_cons.mpr ⟨lw_p46, List.forall_mem_cons.mpr ⟨lw_p47, fun _ h => absurd h List.not_mem_nil⟩⟩⟩⟩⟩⟩⟩⟩⟩⟩⟩⟩⟩⟩⟩⟩
theorem lw_p48 : lw_okq (⟨"LeastTeachesModel", "isThing", "(I)Z"⟩, 41) := ⟨⟨by decide +kernel, by decide +kernel⟩, List.mem_of_getElem? (i := 779) (by decide +kernel), List.mem_of_getElem? (i := 994) (by decide +kernel), List.mem_of_getElem? (i := 995) (by decide +kernel)⟩
theorem lw_p49 : lw_okq (⟨"LeastTeachesModel", "capOf", "(III)I"⟩, 41) := ⟨⟨by decide +kernel, by decide +kernel⟩, List.mem_of_getElem? (i := 779) (by decide +kernel), List.mem_of_getElem? (i := 1006) (by decide +kernel), List.mem_of_getElem? (i := 1007) (by decide +kernel)⟩
theorem lw_p50 : lw_okq (⟨"LeastTeachesModel", "take", "(II)V"⟩, 41) := ⟨⟨by decide +kernel, by decide +kernel⟩, List.mem_of_getElem? (i := 779) (by decide +kernel), List.mem_of_getElem? (i := 1018) (by decide +kernel), List.mem_of_getElem? (i := 1019) (by decide +kernel)⟩
theorem lw_p51 : lw_okq (⟨"LeastTeachesModel", "everybody", "()I"⟩, 41) := ⟨⟨by decide +kernel, by decide +kernel⟩, List.mem_of_getElem? (i := 779) (by decide +kernel), List.mem_of_getElem? (i := 1022) (by decide +kernel), List.mem_of_getElem? (i := 1023) (by decide +kernel)⟩
theorem lw_p52 : lw_okq (⟨"LeastTeachesModel", "teach", "(IIZZ)I"⟩, 41) := ⟨⟨by decide +kernel, by decide +kernel⟩, List.mem_of_getElem? (i := 779) (by decide +kernel), List.mem_of_getElem? (i := 1026) (by decide +kernel), List.mem_of_getElem? (i := 1027) (by decide +kernel)⟩
theorem lw_p53 : lw_okq (⟨"LeastTeachesModel", "isSo", "(IZ)Z"⟩, 41) := ⟨⟨by decide +kernel, by decide +kernel⟩, List.mem_of_getElem? (i := 779) (by decide +kernel), List.mem_of_getElem? (i := 1030) (by decide +kernel), List.mem_of_getElem? (i := 1031) (by decide +kernel)⟩
theorem lw_p54 : lw_okq (⟨"LeastTeachesModel", "draw", "(I)I"⟩, 41) := ⟨⟨by decide +kernel, by decide +kernel⟩, List.mem_of_getElem? (i := 779) (by decide +kernel), List.mem_of_getElem? (i := 1034) (by decide +kernel), List.mem_of_getElem? (i := 1035) (by decide +kernel)⟩
theorem lw_p55 : lw_okq (⟨"LeastTeachesModel", "rise", "(II)V"⟩, 41) := ⟨⟨by decide +kernel, by decide +kernel⟩, List.mem_of_getElem? (i := 779) (by decide +kernel), List.mem_of_getElem? (i := 1045) (by decide +kernel), List.mem_of_getElem? (i := 1046) (by decide +kernel)⟩
theorem lw_p56 : lw_okq (⟨"LeastTeachesModel", "believe", "(IIZ)V"⟩, 41) := ⟨⟨by decide +kernel, by decide +kernel⟩, List.mem_of_getElem? (i := 779) (by decide +kernel), List.mem_of_getElem? (i := 1049) (by decide +kernel), List.mem_of_getElem? (i := 1050) (by decide +kernel)⟩
theorem lw_p57 : lw_okq (⟨"LeastTeachesModel", "follow", "(II)V"⟩, 41) := ⟨⟨by decide +kernel, by decide +kernel⟩, List.mem_of_getElem? (i := 779) (by decide +kernel), List.mem_of_getElem? (i := 1054) (by decide +kernel), List.mem_of_getElem? (i := 1055) (by decide +kernel)⟩
theorem lw_p58 : lw_okq (⟨"LeastTeachesModel", "put", "(I)V"⟩, 41) := ⟨⟨by decide +kernel, by decide +kernel⟩, List.mem_of_getElem? (i := 779) (by decide +kernel), List.mem_of_getElem? (i := 1058) (by decide +kernel), List.mem_of_getElem? (i := 1059) (by decide +kernel)⟩
theorem lw_p59 : lw_okq (⟨"LeastTeachesModel", "noOdds", "(IIZ)I"⟩, 41) := ⟨⟨by decide +kernel, by decide +kernel⟩, List.mem_of_getElem? (i := 779) (by decide +kernel), List.mem_of_getElem? (i := 1067) (by decide +kernel), List.mem_of_getElem? (i := 1068) (by decide +kernel)⟩
theorem lw_p60 : lw_okq (⟨"LeastTeachesModel", "upBy", "(II)I"⟩, 41) := ⟨⟨by decide +kernel, by decide +kernel⟩, List.mem_of_getElem? (i := 779) (by decide +kernel), List.mem_of_getElem? (i := 1088) (by decide +kernel), List.mem_of_getElem? (i := 1089) (by decide +kernel)⟩
theorem lw_p61 : lw_okq (⟨"LeastTeachesModel", "leastOf", "(II)I"⟩, 41) := ⟨⟨by decide +kernel, by decide +kernel⟩, List.mem_of_getElem? (i := 779) (by decide +kernel), List.mem_of_getElem? (i := 1092) (by decide +kernel), List.mem_of_getElem? (i := 1093) (by decide +kernel)⟩
theorem lw_p62 : lw_okq (⟨"LeastTeachesModel", "greatestBelow", "()I"⟩, 41) := ⟨⟨by decide +kernel, by decide +kernel⟩, List.mem_of_getElem? (i := 779) (by decide +kernel), List.mem_of_getElem? (i := 1096) (by decide +kernel), List.mem_of_getElem? (i := 1097) (by decide +kernel)⟩
theorem lw_p63 : lw_okq (⟨"LeastTeachesModel", "knownNow", "()I"⟩, 41) := ⟨⟨by decide +kernel, by decide +kernel⟩, List.mem_of_getElem? (i := 779) (by decide +kernel), List.mem_of_getElem? (i := 1105) (by decide +kernel), List.mem_of_getElem? (i := 1106) (by decide +kernel)⟩
def lw_privs_4 : List (MethodName × Nat) := [(⟨"LeastTeachesModel", "isThing", "(I)Z"⟩, 41), (⟨"LeastTeachesModel", "capOf", "(III)I"⟩, 41), (⟨"LeastTeachesModel", "take", "(II)V"⟩, 41), (⟨"LeastTeachesModel", "everybody", "()I"⟩, 41), (⟨"LeastTeachesModel", "teach", "(IIZZ)I"⟩, 41), (⟨"LeastTeachesModel", "isSo", "(IZ)Z"⟩, 41), (⟨"LeastTeachesModel", "draw", "(I)I"⟩, 41), (⟨"LeastTeachesModel", "rise", "(II)V"⟩, 41), (⟨"LeastTeachesModel", "believe", "(IIZ)V"⟩, 41), (⟨"LeastTeachesModel", "follow", "(II)V"⟩, 41), (⟨"LeastTeachesModel", "put", "(I)V"⟩, 41), (⟨"LeastTeachesModel", "noOdds", "(IIZ)I"⟩, 41), (⟨"LeastTeachesModel", "upBy", "(II)I"⟩, 41), (⟨"LeastTeachesModel", "leastOf", "(II)I"⟩, 41), (⟨"LeastTeachesModel", "greatestBelow", "()I"⟩, 41), (⟨"LeastTeachesModel", "knownNow", "()I"⟩, 41)]
theorem lw_r4 : ∀ q ∈ lw_privs_4, lw_okq q := List.forall_mem_cons.mpr ⟨lw_p48, List.forall_mem_cons.mpr ⟨lw_p49, List.forall_mem_cons.mpr ⟨lw_p50, List.forall_mem_cons.mpr ⟨lw_p51, List.forall_mem_cons.mpr ⟨lw_p52, List.forall_mem_cons.mpr ⟨lw_p53, List.forall_mem_cons.mpr ⟨lw_p54, List.forall_mem_cons.mpr ⟨lw_p55, List.forall_mem_cons.mpr ⟨lw_p56, List.forall_mem_cons.mpr ⟨lw_p57, List.forall_mem_cons.mpr ⟨lw_p58, List.forall_mem_cons.mpr ⟨lw_p59, List.forall_mem_cons.mpr ⟨lw_p60, List.forall_mem_cons.mpr ⟨lw_p61, List.forall_mem_cons.mpr ⟨lw_p62, List.forall_mem_cons.mpr ⟨lw_p63, fun _ h => absurd h List.not_mem_nil⟩⟩⟩⟩⟩⟩⟩⟩⟩⟩⟩⟩⟩⟩⟩⟩
theorem lw_p64 : lw_okq (⟨"LeastTeachesModel", "tellNow", "()I"⟩, 41) := ⟨⟨by decide +kernel, by decide +kernel⟩, List.mem_of_getElem? (i := 779) (by decide +kernel), List.mem_of_getElem? (i := 1113) (by decide +kernel), List.mem_of_getElem? (i := 1114) (by decide +kernel)⟩
theorem lw_p65 : lw_okq (⟨"LeastTeachesModel", "isSmall", "()Z"⟩, 41) := ⟨⟨by decide +kernel, by decide +kernel⟩, List.mem_of_getElem? (i := 779) (by decide +kernel), List.mem_of_getElem? (i := 1130) (by decide +kernel), List.mem_of_getElem? (i := 1131) (by decide +kernel)⟩
theorem lw_p66 : lw_okq (⟨"LeastTeachesModel", "fewestOf", "(IIZ)I"⟩, 41) := ⟨⟨by decide +kernel, by decide +kernel⟩, List.mem_of_getElem? (i := 779) (by decide +kernel), List.mem_of_getElem? (i := 1134) (by decide +kernel), List.mem_of_getElem? (i := 1135) (by decide +kernel)⟩
theorem lw_p67 : lw_okq (⟨"LeastTeachesModel", "spread", "(IZ)I"⟩, 41) := ⟨⟨by decide +kernel, by decide +kernel⟩, List.mem_of_getElem? (i := 779) (by decide +kernel), List.mem_of_getElem? (i := 1138) (by decide +kernel), List.mem_of_getElem? (i := 1139) (by decide +kernel)⟩
theorem lw_p68 : lw_okq (⟨"LeastTeachesModel", "goal", "(I)I"⟩, 41) := ⟨⟨by decide +kernel, by decide +kernel⟩, List.mem_of_getElem? (i := 779) (by decide +kernel), List.mem_of_getElem? (i := 1142) (by decide +kernel), List.mem_of_getElem? (i := 1143) (by decide +kernel)⟩
theorem lw_p69 : lw_okq (⟨"LeastTeachesModel", "stateNow", "(I)I"⟩, 41) := ⟨⟨by decide +kernel, by decide +kernel⟩, List.mem_of_getElem? (i := 779) (by decide +kernel), List.mem_of_getElem? (i := 1149) (by decide +kernel), List.mem_of_getElem? (i := 1150) (by decide +kernel)⟩
theorem lw_p70 : lw_okq (⟨"LeastTeachesModel", "next", "(IZII)I"⟩, 41) := ⟨⟨by decide +kernel, by decide +kernel⟩, List.mem_of_getElem? (i := 779) (by decide +kernel), List.mem_of_getElem? (i := 1153) (by decide +kernel), List.mem_of_getElem? (i := 1154) (by decide +kernel)⟩
theorem lw_p71 : lw_okq (⟨"LeastTeachesModel", "setState", "(II)V"⟩, 41) := ⟨⟨by decide +kernel, by decide +kernel⟩, List.mem_of_getElem? (i := 779) (by decide +kernel), List.mem_of_getElem? (i := 1157) (by decide +kernel), List.mem_of_getElem? (i := 1158) (by decide +kernel)⟩
theorem lw_p72 : lw_okq (⟨"LeastTeachesModel", "levelBehind", "(IIII)I"⟩, 41) := ⟨⟨by decide +kernel, by decide +kernel⟩, List.mem_of_getElem? (i := 779) (by decide +kernel), List.mem_of_getElem? (i := 1181) (by decide +kernel), List.mem_of_getElem? (i := 1182) (by decide +kernel)⟩
theorem lw_p73 : lw_okq (⟨"LeastTeachesModel", "findOrder", "()V"⟩, 41) := ⟨⟨by decide +kernel, by decide +kernel⟩, List.mem_of_getElem? (i := 779) (by decide +kernel), List.mem_of_getElem? (i := 1189) (by decide +kernel), List.mem_of_getElem? (i := 1190) (by decide +kernel)⟩
theorem lw_p74 : lw_okq (⟨"LeastTeachesModel", "findOdds", "(III)V"⟩, 41) := ⟨⟨by decide +kernel, by decide +kernel⟩, List.mem_of_getElem? (i := 779) (by decide +kernel), List.mem_of_getElem? (i := 1202) (by decide +kernel), List.mem_of_getElem? (i := 1203) (by decide +kernel)⟩
theorem lw_p75 : lw_okq (⟨"LeastTeachesModel", "partAll", "(II)V"⟩, 41) := ⟨⟨by decide +kernel, by decide +kernel⟩, List.mem_of_getElem? (i := 779) (by decide +kernel), List.mem_of_getElem? (i := 1207) (by decide +kernel), List.mem_of_getElem? (i := 1208) (by decide +kernel)⟩
theorem lw_p76 : lw_okq (⟨"LeastTeachesModel", "partRight", "(IZJ)V"⟩, 41) := ⟨⟨by decide +kernel, by decide +kernel⟩, List.mem_of_getElem? (i := 779) (by decide +kernel), List.mem_of_getElem? (i := 1211) (by decide +kernel), List.mem_of_getElem? (i := 1212) (by decide +kernel)⟩
theorem lw_p77 : lw_okq (⟨"LeastTeachesModel", "listSurer", "(I)V"⟩, 41) := ⟨⟨by decide +kernel, by decide +kernel⟩, List.mem_of_getElem? (i := 779) (by decide +kernel), List.mem_of_getElem? (i := 1215) (by decide +kernel), List.mem_of_getElem? (i := 1216) (by decide +kernel)⟩
theorem lw_p78 : lw_okq (⟨"LeastTeachesModel", "chanceOf", "(IZ)I"⟩, 41) := ⟨⟨by decide +kernel, by decide +kernel⟩, List.mem_of_getElem? (i := 779) (by decide +kernel), List.mem_of_getElem? (i := 1219) (by decide +kernel), List.mem_of_getElem? (i := 1220) (by decide +kernel)⟩
theorem lw_p79 : lw_okq (⟨"LeastTeachesModel", "partNo", "(IZIJ)V"⟩, 41) := ⟨⟨by decide +kernel, by decide +kernel⟩, List.mem_of_getElem? (i := 779) (by decide +kernel), List.mem_of_getElem? (i := 1223) (by decide +kernel), List.mem_of_getElem? (i := 1224) (by decide +kernel)⟩
def lw_privs_5 : List (MethodName × Nat) := [(⟨"LeastTeachesModel", "tellNow", "()I"⟩, 41), (⟨"LeastTeachesModel", "isSmall", "()Z"⟩, 41), (⟨"LeastTeachesModel", "fewestOf", "(IIZ)I"⟩, 41), (⟨"LeastTeachesModel", "spread", "(IZ)I"⟩, 41), (⟨"LeastTeachesModel", "goal", "(I)I"⟩, 41), (⟨"LeastTeachesModel", "stateNow", "(I)I"⟩, 41), (⟨"LeastTeachesModel", "next", "(IZII)I"⟩, 41), (⟨"LeastTeachesModel", "setState", "(II)V"⟩, 41), (⟨"LeastTeachesModel", "levelBehind", "(IIII)I"⟩, 41), (⟨"LeastTeachesModel", "findOrder", "()V"⟩, 41), (⟨"LeastTeachesModel", "findOdds", "(III)V"⟩, 41), (⟨"LeastTeachesModel", "partAll", "(II)V"⟩, 41), (⟨"LeastTeachesModel", "partRight", "(IZJ)V"⟩, 41), (⟨"LeastTeachesModel", "listSurer", "(I)V"⟩, 41), (⟨"LeastTeachesModel", "chanceOf", "(IZ)I"⟩, 41), (⟨"LeastTeachesModel", "partNo", "(IZIJ)V"⟩, 41)]
theorem lw_r5 : ∀ q ∈ lw_privs_5, lw_okq q := List.forall_mem_cons.mpr ⟨lw_p64, List.forall_mem_cons.mpr ⟨lw_p65, List.forall_mem_cons.mpr ⟨lw_p66, List.forall_mem_cons.mpr ⟨lw_p67, List.forall_mem_cons.mpr ⟨lw_p68, List.forall_mem_cons.mpr ⟨lw_p69, List.forall_mem_cons.mpr ⟨lw_p70, List.forall_mem_cons.mpr ⟨lw_p71, List.forall_mem_cons.mpr ⟨lw_p72, List.forall_mem_cons.mpr ⟨lw_p73, List.forall_mem_cons.mpr ⟨lw_p74, List.forall_mem_cons.mpr ⟨lw_p75, List.forall_mem_cons.mpr ⟨lw_p76, List.forall_mem_cons.mpr ⟨lw_p77, List.forall_mem_cons.mpr ⟨lw_p78, List.forall_mem_cons.mpr ⟨lw_p79, fun _ h => absurd h List.not_mem_nil⟩⟩⟩⟩⟩⟩⟩⟩⟩⟩⟩⟩⟩⟩⟩⟩
theorem lw_p80 : lw_okq (⟨"LeastTeachesModel", "asNow", "()V"⟩, 41) := ⟨⟨by decide +kernel, by decide +kernel⟩, List.mem_of_getElem? (i := 779) (by decide +kernel), List.mem_of_getElem? (i := 1227) (by decide +kernel), List.mem_of_getElem? (i := 1228) (by decide +kernel)⟩
theorem lw_p81 : lw_okq (⟨"LeastTeachesModel", "come", "(J)V"⟩, 41) := ⟨⟨by decide +kernel, by decide +kernel⟩, List.mem_of_getElem? (i := 779) (by decide +kernel), List.mem_of_getElem? (i := 1231) (by decide +kernel), List.mem_of_getElem? (i := 1232) (by decide +kernel)⟩
theorem lw_p82 : lw_okq (⟨"LeastTeachesModel", "partBelief", "(IJ)V"⟩, 41) := ⟨⟨by decide +kernel, by decide +kernel⟩, List.mem_of_getElem? (i := 779) (by decide +kernel), List.mem_of_getElem? (i := 1235) (by decide +kernel), List.mem_of_getElem? (i := 1236) (by decide +kernel)⟩
theorem lw_p83 : lw_okq (⟨"LeastTeachesModel", "firstWrong", "()I"⟩, 41) := ⟨⟨by decide +kernel, by decide +kernel⟩, List.mem_of_getElem? (i := 779) (by decide +kernel), List.mem_of_getElem? (i := 1251) (by decide +kernel), List.mem_of_getElem? (i := 1252) (by decide +kernel)⟩
def lw_privs_6 : List (MethodName × Nat) := [(⟨"LeastTeachesModel", "asNow", "()V"⟩, 41), (⟨"LeastTeachesModel", "come", "(J)V"⟩, 41), (⟨"LeastTeachesModel", "partBelief", "(IJ)V"⟩, 41), (⟨"LeastTeachesModel", "firstWrong", "()I"⟩, 41)]
theorem lw_r6 : ∀ q ∈ lw_privs_6, lw_okq q := List.forall_mem_cons.mpr ⟨lw_p80, List.forall_mem_cons.mpr ⟨lw_p81, List.forall_mem_cons.mpr ⟨lw_p82, List.forall_mem_cons.mpr ⟨lw_p83, fun _ h => absurd h List.not_mem_nil⟩⟩⟩⟩
def lw_privs : List (MethodName × Nat) := lw_privs_1 ++ (lw_privs_2 ++ (lw_privs_3 ++ (lw_privs_4 ++ (lw_privs_5 ++ (lw_privs_6)))))
def lw_tbl : List Cond := k2_sels lw_privs ++ tables_1
theorem lw_privs_ok : ∀ q ∈ lw_privs, lw_okq q := by
  show ∀ q ∈ lw_privs_1 ++ (lw_privs_2 ++ (lw_privs_3 ++ (lw_privs_4 ++ (lw_privs_5 ++ (lw_privs_6))))), lw_okq q
  exact List.forall_mem_append.mpr ⟨lw_r1, List.forall_mem_append.mpr ⟨lw_r2, List.forall_mem_append.mpr ⟨lw_r3, List.forall_mem_append.mpr ⟨lw_r4, List.forall_mem_append.mpr ⟨lw_r5, lw_r6⟩⟩⟩⟩⟩
-- ===== end of PART A; then your names; then what follows =====
end
section
def RX0 : String := "LeastTeaches$Bench"
def TX0 : u_T := fun k => match k with
  | 0 => ("LeastTeaches$Bench", "size", "I", false)
  | 1 => ("LeastTeaches$Bench", "set", "I", false)
  | 2 => ("LeastTeaches$Bench", "visited", "Z", false)
  | 3 => ("LeastTeaches$Bench", "drawnFrom", "I", false)
  | 4 => ("LeastTeaches$Bench", "who", "[I", true)
  | 5 => ("LeastTeaches$Bench", "at", "[I", true)
  | 6 => ("LeastTeaches$Bench", "top", "[I", true)
  | 7 => ("LeastTeaches$Bench", "quick", "[I", true)
  | 8 => ("LeastTeaches$Bench", "belief", "[I", true)
  | 9 => ("LeastTeaches$Bench", "pride", "[I", true)
  | _ => ("LeastTeaches$Bench", "saidNo", "[Z", true)
def tyX0 : Nat → FieldType := fun k => match k with
  | 0 => .int
  | 1 => .int
  | 2 => .boolean
  | 3 => .int
  | 4 => .array .int
  | 5 => .array .int
  | 6 => .array .int
  | 7 => .array .int
  | 8 => .array .int
  | 9 => .array .int
  | _ => .array .boolean
abbrev wsX00 : List Cond := u_ws RX0 TX0 11
theorem nmX0 : ∀ a, a < 11 → ∀ b, b < 11 → a ≠ b → (TX0 a).2.1 ≠ (TX0 b).2.1 := by decide +kernel
theorem tyX0_ok : ∀ k, k < 11 → parseFieldDescriptor (TX0 k).2.2.1 = some (tyX0 k) := by decide +kernel
abbrev cX0_init : ByteArray := prog_2_method_1_code
def yX0_init : MethodName := ⟨RX0, "<init>", "()V"⟩
abbrev cX0_sit : ByteArray := prog_2_method_2_code
def yX0_sit : MethodName := ⟨RX0, "sit", "(LLeastTeaches$School;LLeastTeaches$Standing;II)V"⟩
abbrev cX0_leave : ByteArray := prog_2_method_3_code
def yX0_leave : MethodName := ⟨RX0, "leave", "(LLeastTeaches$Standing;I)V"⟩
abbrev cX0_code : ByteArray := prog_2_method_4_code
def yX0_code : MethodName := ⟨RX0, "code", "()I"⟩
abbrev cX0_setLevels : ByteArray := prog_2_method_5_code
def yX0_setLevels : MethodName := ⟨RX0, "setLevels", "(I)V"⟩
abbrev cX0_room : ByteArray := prog_2_method_6_code
def yX0_room : MethodName := ⟨RX0, "room", "(I)I"⟩
abbrev cX0_rise : ByteArray := prog_2_method_7_code
def yX0_rise : MethodName := ⟨RX0, "rise", "(II)V"⟩
abbrev cX0_knowing : ByteArray := prog_2_method_8_code
def yX0_knowing : MethodName := ⟨RX0, "knowing", "()I"⟩
abbrev cX0_isBarred : ByteArray := prog_2_method_9_code
def yX0_isBarred : MethodName := ⟨RX0, "isBarred", "()Z"⟩
abbrev cX0_after : ByteArray := prog_2_method_10_code
def yX0_after : MethodName := ⟨RX0, "after", "(I)I"⟩
abbrev cX0_chosen : ByteArray := prog_2_method_11_code
def yX0_chosen : MethodName := ⟨RX0, "chosen", "(II)I"⟩
abbrev cX0_least : ByteArray := prog_2_method_12_code
def yX0_least : MethodName := ⟨RX0, "least", "(II)I"⟩
abbrev cX0_greatestBelow : ByteArray := prog_2_method_13_code
def yX0_greatestBelow : MethodName := ⟨RX0, "greatestBelow", "(I)I"⟩
abbrev cX0_tell : ByteArray := prog_2_method_14_code
def yX0_tell : MethodName := ⟨RX0, "tell", "()I"⟩
abbrev cX0_rightChance : ByteArray := prog_2_method_15_code
def yX0_rightChance : MethodName := ⟨RX0, "rightChance", "(I)I"⟩
abbrev cX0_isSurer : ByteArray := prog_2_method_16_code
def yX0_isSurer : MethodName := ⟨RX0, "isSurer", "(II)Z"⟩
abbrev cX0_isGuestSurer : ByteArray := prog_2_method_17_code
def yX0_isGuestSurer : MethodName := ⟨RX0, "isGuestSurer", "(I)Z"⟩
abbrev cX0_noChance : ByteArray := prog_2_method_18_code
def yX0_noChance : MethodName := ⟨RX0, "noChance", "(IZ)I"⟩
abbrev cX0_mayBelieve : ByteArray := prog_2_method_19_code
def yX0_mayBelieve : MethodName := ⟨RX0, "mayBelieve", "(II)Z"⟩
abbrev cX0_comes : ByteArray := prog_2_method_20_code
def yX0_comes : MethodName := ⟨RX0, "comes", "(IZ)Z"⟩
abbrev cX0_hold : ByteArray := prog_2_method_21_code
def yX0_hold : MethodName := ⟨RX0, "hold", "(IZ)I"⟩
abbrev cX0_endCorrected : ByteArray := prog_2_method_22_code
def yX0_endCorrected : MethodName := ⟨RX0, "endCorrected", "(I)I"⟩
abbrev cX0_endMisled : ByteArray := prog_2_method_23_code
def yX0_endMisled : MethodName := ⟨RX0, "endMisled", "(IZ)I"⟩
abbrev cX0_endShaken : ByteArray := prog_2_method_24_code
def yX0_endShaken : MethodName := ⟨RX0, "endShaken", "(IZ)I"⟩
abbrev cX0_endAgreed : ByteArray := prog_2_method_25_code
def yX0_endAgreed : MethodName := ⟨RX0, "endAgreed", "(I)I"⟩
abbrev cX0_someNo : ByteArray := prog_2_method_26_code
def yX0_someNo : MethodName := ⟨RX0, "someNo", "(IZ)I"⟩
abbrev cX0_mean : ByteArray := prog_2_method_27_code
def yX0_mean : MethodName := ⟨RX0, "mean", "(I)I"⟩
abbrev cX0_share : ByteArray := prog_2_method_28_code
def yX0_share : MethodName := ⟨RX0, "share", "(JII)J"⟩
def RX1 : String := "LeastTeaches$Odds"
def TX1 : u_T := fun k => match k with
  | 0 => ("LeastTeaches$Odds", "here", "[J", false)
  | 1 => ("LeastTeaches$Odds", "next", "[J", false)
  | 2 => ("LeastTeaches$Odds", "parts", "[J", true)
  | 3 => ("LeastTeaches$Odds", "partCount", "I", false)
  | 4 => ("LeastTeaches$Odds", "splitBy", "[I", true)
  | _ => ("LeastTeaches$Odds", "splits", "I", false)
def tyX1 : Nat → FieldType := fun k => match k with
  | 0 => .array .long
  | 1 => .array .long
  | 2 => .array .long
  | 3 => .int
  | 4 => .array .int
  | _ => .int
abbrev wsX10 : List Cond := u_ws RX1 TX1 6
theorem nmX1 : ∀ a, a < 6 → ∀ b, b < 6 → a ≠ b → (TX1 a).2.1 ≠ (TX1 b).2.1 := by decide +kernel
theorem tyX1_ok : ∀ k, k < 6 → parseFieldDescriptor (TX1 k).2.2.1 = some (tyX1 k) := by decide +kernel
abbrev cX1_init : ByteArray := prog_3_method_1_code
def yX1_init : MethodName := ⟨RX1, "<init>", "()V"⟩
abbrev cX1_follow : ByteArray := prog_3_method_2_code
def yX1_follow : MethodName := ⟨RX1, "follow", "(LLeastTeaches$Bench;III)V"⟩
abbrev cX1_teach : ByteArray := prog_3_method_3_code
def yX1_teach : MethodName := ⟨RX1, "teach", "(LLeastTeaches$Bench;II)V"⟩
abbrev cX1_begin : ByteArray := prog_3_method_4_code
def yX1_begin : MethodName := ⟨RX1, "begin", "(J)V"⟩
abbrev cX1_split : ByteArray := prog_3_method_5_code
def yX1_split : MethodName := ⟨RX1, "split", "(II)V"⟩
abbrev cX1_partByNo : ByteArray := prog_3_method_6_code
def yX1_partByNo : MethodName := ⟨RX1, "partByNo", "(LLeastTeaches$Bench;IJZ)V"⟩
abbrev cX1_endRight : ByteArray := prog_3_method_7_code
def yX1_endRight : MethodName := ⟨RX1, "endRight", "(LLeastTeaches$Bench;II)V"⟩
abbrev cX1_endWrong : ByteArray := prog_3_method_8_code
def yX1_endWrong : MethodName := ⟨RX1, "endWrong", "(LLeastTeaches$Bench;II)V"⟩
abbrev cX1_endMisled : ByteArray := prog_3_method_9_code
def yX1_endMisled : MethodName := ⟨RX1, "endMisled", "(LLeastTeaches$Bench;II)V"⟩
abbrev cX1_thatAllKnow : ByteArray := prog_3_method_10_code
def yX1_thatAllKnow : MethodName := ⟨RX1, "thatAllKnow", "(I)I"⟩
abbrev cX1_thatNobodyKnows : ByteArray := prog_3_method_11_code
def yX1_thatNobodyKnows : MethodName := ⟨RX1, "thatNobodyKnows", "(I)I"⟩
abbrev cX1_meanLevel : ByteArray := prog_3_method_12_code
def yX1_meanLevel : MethodName := ⟨RX1, "meanLevel", "(II)I"⟩
def RX2 : String := "LeastTeaches$Reader"
def TX2 : u_T := fun k => match k with
  | 0 => ("LeastTeaches$Reader", "text", "[B", true)
  | 1 => ("LeastTeaches$Reader", "length", "I", false)
  | 2 => ("LeastTeaches$Reader", "faultAt", "I", false)
  | 3 => ("LeastTeaches$Reader", "faultNumber", "I", false)
  | 4 => ("LeastTeaches$Reader", "school", "LLeastTeaches$School;", false)
  | 5 => ("LeastTeaches$Reader", "place", "I", false)
  | 6 => ("LeastTeaches$Reader", "start", "I", false)
  | _ => ("LeastTeaches$Reader", "kind", "I", false)
def tyX2 : Nat → FieldType := fun k => match k with
  | 0 => .array .byte
  | 1 => .int
  | 2 => .int
  | 3 => .int
  | 4 => .object "LeastTeaches$School"
  | 5 => .int
  | 6 => .int
  | _ => .int
abbrev wsX20 : List Cond := u_ws RX2 TX2 8
theorem nmX2 : ∀ a, a < 8 → ∀ b, b < 8 → a ≠ b → (TX2 a).2.1 ≠ (TX2 b).2.1 := by decide +kernel
theorem tyX2_ok : ∀ k, k < 8 → parseFieldDescriptor (TX2 k).2.2.1 = some (tyX2 k) := by decide +kernel
abbrev cX2_init : ByteArray := prog_4_method_1_code
def yX2_init : MethodName := ⟨RX2, "<init>", "()V"⟩
abbrev cX2_add : ByteArray := prog_4_method_2_code
def yX2_add : MethodName := ⟨RX2, "add", "(I)V"⟩
abbrev cX2_read : ByteArray := prog_4_method_3_code
def yX2_read : MethodName := ⟨RX2, "read", "(LLeastTeaches$School;)I"⟩
abbrev cX2_readThing : ByteArray := prog_4_method_4_code
def yX2_readThing : MethodName := ⟨RX2, "readThing", "()V"⟩
abbrev cX2_readLeaning : ByteArray := prog_4_method_5_code
def yX2_readLeaning : MethodName := ⟨RX2, "readLeaning", "()I"⟩
abbrev cX2_readPupil : ByteArray := prog_4_method_6_code
def yX2_readPupil : MethodName := ⟨RX2, "readPupil", "()V"⟩
abbrev cX2_takeNumber : ByteArray := prog_4_method_7_code
def yX2_takeNumber : MethodName := ⟨RX2, "takeNumber", "(II)I"⟩
abbrev cX2_takeSign : ByteArray := prog_4_method_8_code
def yX2_takeSign : MethodName := ⟨RX2, "takeSign", "(I)V"⟩
abbrev cX2_isSign : ByteArray := prog_4_method_9_code
def yX2_isSign : MethodName := ⟨RX2, "isSign", "(I)Z"⟩
abbrev cX2_isWord : ByteArray := prog_4_method_10_code
def yX2_isWord : MethodName := ⟨RX2, "isWord", "(Ljava/lang/String;)Z"⟩
abbrev cX2_refuse : ByteArray := prog_4_method_11_code
def yX2_refuse : MethodName := ⟨RX2, "refuse", "(II)V"⟩
abbrev cX2_advance : ByteArray := prog_4_method_12_code
def yX2_advance : MethodName := ⟨RX2, "advance", "()V"⟩
abbrev cX2_kindAt : ByteArray := prog_4_method_13_code
def yX2_kindAt : MethodName := ⟨RX2, "kindAt", "(I)I"⟩
def RX3 : String := "LeastTeaches$School"
def TX3 : u_T := fun k => match k with
  | 0 => ("LeastTeaches$School", "things", "I", false)
  | 1 => ("LeastTeaches$School", "pupils", "I", false)
  | 2 => ("LeastTeaches$School", "leaning", "[I", true)
  | 3 => ("LeastTeaches$School", "quick", "[I", true)
  | 4 => ("LeastTeaches$School", "belief", "[I", true)
  | 5 => ("LeastTeaches$School", "pride", "[I", true)
  | _ => ("LeastTeaches$School", "first", "[I", true)
def tyX3 : Nat → FieldType := fun k => match k with
  | 0 => .int
  | 1 => .int
  | 2 => .array .int
  | 3 => .array .int
  | 4 => .array .int
  | 5 => .array .int
  | _ => .array .int
abbrev wsX30 : List Cond := u_ws RX3 TX3 7
theorem nmX3 : ∀ a, a < 7 → ∀ b, b < 7 → a ≠ b → (TX3 a).2.1 ≠ (TX3 b).2.1 := by decide +kernel
theorem tyX3_ok : ∀ k, k < 7 → parseFieldDescriptor (TX3 k).2.2.1 = some (tyX3 k) := by decide +kernel
abbrev cX3_init : ByteArray := prog_5_method_1_code
def yX3_init : MethodName := ⟨RX3, "<init>", "()V"⟩
abbrev cX3_topOf : ByteArray := prog_5_method_2_code
def yX3_topOf : MethodName := ⟨RX3, "topOf", "([III)I"⟩
def RX4 : String := "LeastTeaches$Search"
def TX4 : u_T := fun k => match k with
  | 0 => ("LeastTeaches$Search", "far", "[I", true)
  | _ => ("LeastTeaches$Search", "ofSet", "I", false)
def tyX4 : Nat → FieldType := fun k => match k with
  | 0 => .array .int
  | _ => .int
abbrev wsX40 : List Cond := u_ws RX4 TX4 2
theorem nmX4 : ∀ a, a < 2 → ∀ b, b < 2 → a ≠ b → (TX4 a).2.1 ≠ (TX4 b).2.1 := by decide +kernel
theorem tyX4_ok : ∀ k, k < 2 → parseFieldDescriptor (TX4 k).2.2.1 = some (tyX4 k) := by decide +kernel
abbrev cX4_init : ByteArray := prog_6_method_1_code
def yX4_init : MethodName := ⟨RX4, "<init>", "()V"⟩
abbrev cX4_forget : ByteArray := prog_6_method_2_code
def yX4_forget : MethodName := ⟨RX4, "forget", "()V"⟩
abbrev cX4_lessonsFrom : ByteArray := prog_6_method_3_code
def yX4_lessonsFrom : MethodName := ⟨RX4, "lessonsFrom", "(LLeastTeaches$Bench;)I"⟩
abbrev cX4_look : ByteArray := prog_6_method_4_code
def yX4_look : MethodName := ⟨RX4, "look", "(LLeastTeaches$Bench;II)I"⟩
abbrev cX4_standsUp : ByteArray := prog_6_method_5_code
def yX4_standsUp : MethodName := ⟨RX4, "standsUp", "(LLeastTeaches$Bench;I)I"⟩
def RX5 : String := "LeastTeaches$Standing"
def TX5 : u_T := fun k => match k with
  | 0 => ("LeastTeaches$Standing", "levels", "[I", true)
  | 1 => ("LeastTeaches$Standing", "visited", "Z", false)
  | 2 => ("LeastTeaches$Standing", "drawnFrom", "I", false)
  | _ => ("LeastTeaches$Standing", "turn", "I", false)
def tyX5 : Nat → FieldType := fun k => match k with
  | 0 => .array .int
  | 1 => .boolean
  | 2 => .int
  | _ => .int
abbrev wsX50 : List Cond := u_ws RX5 TX5 4
theorem nmX5 : ∀ a, a < 4 → ∀ b, b < 4 → a ≠ b → (TX5 a).2.1 ≠ (TX5 b).2.1 := by decide +kernel
theorem tyX5_ok : ∀ k, k < 4 → parseFieldDescriptor (TX5 k).2.2.1 = some (tyX5 k) := by decide +kernel
abbrev cX5_init : ByteArray := prog_7_method_1_code
def yX5_init : MethodName := ⟨RX5, "<init>", "()V"⟩
abbrev cX5_begin : ByteArray := prog_7_method_2_code
def yX5_begin : MethodName := ⟨RX5, "begin", "([I)V"⟩
abbrev cX5_take : ByteArray := prog_7_method_3_code
def yX5_take : MethodName := ⟨RX5, "take", "(LLeastTeaches$Standing;)V"⟩
def RX6 : String := "LeastTeaches"
def TX6 : u_T := fun k => match k with
  | 0 => ("LeastTeaches", "reader", "LLeastTeaches$Reader;", true)
  | 1 => ("LeastTeaches", "told", "LLeastTeaches$School;", false)
  | 2 => ("LeastTeaches", "draft", "LLeastTeaches$School;", false)
  | 3 => ("LeastTeaches", "now", "LLeastTeaches$Standing;", true)
  | 4 => ("LeastTeaches", "tried", "LLeastTeaches$Standing;", true)
  | 5 => ("LeastTeaches", "image0", "LLeastTeaches$Standing;", true)
  | 6 => ("LeastTeaches", "image1", "LLeastTeaches$Standing;", true)
  | 7 => ("LeastTeaches", "keptSet", "I", false)
  | 8 => ("LeastTeaches", "logged", "[I", true)
  | 9 => ("LeastTeaches", "logSize", "I", false)
  | 10 => ("LeastTeaches", "orderRow", "[I", true)
  | 11 => ("LeastTeaches", "bench", "LLeastTeaches$Bench;", true)
  | 12 => ("LeastTeaches", "odds", "LLeastTeaches$Odds;", true)
  | 13 => ("LeastTeaches", "alone", "LLeastTeaches$Search;", true)
  | 14 => ("LeastTeaches", "withGuest", "LLeastTeaches$Search;", true)
  | _ => ("LeastTeaches", "parted", "LLeastTeaches$Search;", true)
def tyX6 : Nat → FieldType := fun k => match k with
  | 0 => .object "LeastTeaches$Reader"
  | 1 => .object "LeastTeaches$School"
  | 2 => .object "LeastTeaches$School"
  | 3 => .object "LeastTeaches$Standing"
  | 4 => .object "LeastTeaches$Standing"
  | 5 => .object "LeastTeaches$Standing"
  | 6 => .object "LeastTeaches$Standing"
  | 7 => .int
  | 8 => .array .int
  | 9 => .int
  | 10 => .array .int
  | 11 => .object "LeastTeaches$Bench"
  | 12 => .object "LeastTeaches$Odds"
  | 13 => .object "LeastTeaches$Search"
  | 14 => .object "LeastTeaches$Search"
  | _ => .object "LeastTeaches$Search"
abbrev wsX60 : List Cond := u_ws RX6 TX6 16
theorem nmX6 : ∀ a, a < 16 → ∀ b, b < 16 → a ≠ b → (TX6 a).2.1 ≠ (TX6 b).2.1 := by decide +kernel
theorem tyX6_ok : ∀ k, k < 16 → parseFieldDescriptor (TX6 k).2.2.1 = some (tyX6 k) := by decide +kernel
abbrev cX6_init : ByteArray := prog_1_method_1_code
def yX6_init : MethodName := ⟨RX6, "<init>", "()V"⟩
abbrev cX6_feed : ByteArray := prog_1_method_2_code
def yX6_feed : MethodName := ⟨RX6, "feed", "(IJ)I"⟩
abbrev cX6_school : ByteArray := prog_1_method_3_code
def yX6_school : MethodName := ⟨RX6, "school", "()I"⟩
abbrev cX6_fault : ByteArray := prog_1_method_4_code
def yX6_fault : MethodName := ⟨RX6, "fault", "()I"⟩
abbrev cX6_count : ByteArray := prog_1_method_5_code
def yX6_count : MethodName := ⟨RX6, "count", "(I)I"⟩
abbrev cX6_pupil : ByteArray := prog_1_method_6_code
def yX6_pupil : MethodName := ⟨RX6, "pupil", "(II)I"⟩
abbrev cX6_leans : ByteArray := prog_1_method_7_code
def yX6_leans : MethodName := ⟨RX6, "leans", "(I)I"⟩
abbrev cX6_level : ByteArray := prog_1_method_8_code
def yX6_level : MethodName := ⟨RX6, "level", "(II)I"⟩
abbrev cX6_rises : ByteArray := prog_1_method_9_code
def yX6_rises : MethodName := ⟨RX6, "rises", "(II)I"⟩
abbrev cX6_guest : ByteArray := prog_1_method_10_code
def yX6_guest : MethodName := ⟨RX6, "guest", "(Z)I"⟩
abbrev cX6_lesson : ByteArray := prog_1_method_11_code
def yX6_lesson : MethodName := ⟨RX6, "lesson", "(IIZ)I"⟩
abbrev cX6_exact : ByteArray := prog_1_method_12_code
def yX6_exact : MethodName := ⟨RX6, "exact", "(III)I"⟩
abbrev cX6_behind : ByteArray := prog_1_method_13_code
def yX6_behind : MethodName := ⟨RX6, "behind", "(IIII)I"⟩
abbrev cX6_up : ByteArray := prog_1_method_14_code
def yX6_up : MethodName := ⟨RX6, "up", "(II)I"⟩
abbrev cX6_run : ByteArray := prog_1_method_15_code
def yX6_run : MethodName := ⟨RX6, "run", "(IIIZ)I"⟩
abbrev cX6_master : ByteArray := prog_1_method_16_code
def yX6_master : MethodName := ⟨RX6, "master", "(I)I"⟩
abbrev cX6_summer : ByteArray := prog_1_method_17_code
def yX6_summer : MethodName := ⟨RX6, "summer", "(I)I"⟩
abbrev cX6_hours : ByteArray := prog_1_method_18_code
def yX6_hours : MethodName := ⟨RX6, "hours", "(II)I"⟩
abbrev cX6_fewest : ByteArray := prog_1_method_19_code
def yX6_fewest : MethodName := ⟨RX6, "fewest", "(I)I"⟩
abbrev cX6_row : ByteArray := prog_1_method_20_code
def yX6_row : MethodName := ⟨RX6, "row", "(II)I"⟩
abbrev cX6_stuck : ByteArray := prog_1_method_21_code
def yX6_stuck : MethodName := ⟨RX6, "stuck", "(I)I"⟩
abbrev cX6_worth : ByteArray := prog_1_method_22_code
def yX6_worth : MethodName := ⟨RX6, "worth", "(I)I"⟩
abbrev cX6_mastered : ByteArray := prog_1_method_23_code
def yX6_mastered : MethodName := ⟨RX6, "mastered", "(I)I"⟩
abbrev cX6_pays : ByteArray := prog_1_method_24_code
def yX6_pays : MethodName := ⟨RX6, "pays", "(IIII)I"⟩
abbrev cX6_order : ByteArray := prog_1_method_25_code
def yX6_order : MethodName := ⟨RX6, "order", "(I)I"⟩
abbrev cX6_classes : ByteArray := prog_1_method_26_code
def yX6_classes : MethodName := ⟨RX6, "classes", "(II)I"⟩
abbrev cX6_log : ByteArray := prog_1_method_27_code
def yX6_log : MethodName := ⟨RX6, "log", "(II)I"⟩
abbrev cX6_clear : ByteArray := prog_1_method_28_code
def yX6_clear : MethodName := ⟨RX6, "clear", "()I"⟩
abbrev cX6_judge : ByteArray := prog_1_method_29_code
def yX6_judge : MethodName := ⟨RX6, "judge", "()I"⟩
abbrev cX6_seed : ByteArray := prog_1_method_30_code
def yX6_seed : MethodName := ⟨RX6, "seed", "(I)I"⟩
abbrev cX6_keep : ByteArray := prog_1_method_31_code
def yX6_keep : MethodName := ⟨RX6, "keep", "(I)I"⟩
abbrev cX6_goBack : ByteArray := prog_1_method_32_code
def yX6_goBack : MethodName := ⟨RX6, "goBack", "(I)I"⟩
abbrev cX6_isPupil : ByteArray := prog_1_method_33_code
def yX6_isPupil : MethodName := ⟨RX6, "isPupil", "(I)Z"⟩
abbrev cX6_isThing : ByteArray := prog_1_method_34_code
def yX6_isThing : MethodName := ⟨RX6, "isThing", "(I)Z"⟩
abbrev cX6_isRule : ByteArray := prog_1_method_35_code
def yX6_isRule : MethodName := ⟨RX6, "isRule", "(I)Z"⟩
abbrev cX6_knownThings : ByteArray := prog_1_method_36_code
def yX6_knownThings : MethodName := ⟨RX6, "knownThings", "(I)I"⟩
abbrev cX6_allLevels : ByteArray := prog_1_method_37_code
def yX6_allLevels : MethodName := ⟨RX6, "allLevels", "(I)I"⟩
abbrev cX6_imageOf : ByteArray := prog_1_method_38_code
def yX6_imageOf : MethodName := ⟨RX6, "imageOf", "(I)LLeastTeaches$Standing;"⟩
abbrev cX6_searchFor : ByteArray := prog_1_method_39_code
def yX6_searchFor : MethodName := ⟨RX6, "searchFor", "(Z)LLeastTeaches$Search;"⟩
abbrev cX6_sitAll : ByteArray := prog_1_method_40_code
def yX6_sitAll : MethodName := ⟨RX6, "sitAll", "(I)V"⟩
abbrev cX6_fewestOfAll : ByteArray := prog_1_method_41_code
def yX6_fewestOfAll : MethodName := ⟨RX6, "fewestOfAll", "(LLeastTeaches$Standing;IZ)I"⟩
abbrev cX6_fewestOfPart : ByteArray := prog_1_method_42_code
def yX6_fewestOfPart : MethodName := ⟨RX6, "fewestOfPart", "(II)I"⟩
abbrev cX6_levelBehind : ByteArray := prog_1_method_43_code
def yX6_levelBehind : MethodName := ⟨RX6, "levelBehind", "(IIII)I"⟩
abbrev cX6_findOrder : ByteArray := prog_1_method_44_code
def yX6_findOrder : MethodName := ⟨RX6, "findOrder", "()I"⟩
abbrev cX6_leastOpen : ByteArray := prog_1_method_45_code
def yX6_leastOpen : MethodName := ⟨RX6, "leastOpen", "(I)I"⟩
def RX7 : String := "LeastTeachesModel"
def TX7 : u_T := fun k => match k with
  | 0 => ("LeastTeachesModel", "things", "I", false)
  | 1 => ("LeastTeachesModel", "pupils", "I", false)
  | 2 => ("LeastTeachesModel", "leansOn", "[I", true)
  | 3 => ("LeastTeachesModel", "people", "[I", true)
  | 4 => ("LeastTeachesModel", "levels", "[I", true)
  | 5 => ("LeastTeachesModel", "hasGuest", "Z", false)
  | 6 => ("LeastTeachesModel", "turn", "I", false)
  | 7 => ("LeastTeachesModel", "text", "[I", true)
  | 8 => ("LeastTeachesModel", "texted", "I", false)
  | 9 => ("LeastTeachesModel", "faultPlace", "I", false)
  | 10 => ("LeastTeachesModel", "at0", "I", false)
  | 11 => ("LeastTeachesModel", "said", "J", false)
  | 12 => ("LeastTeachesModel", "wordEnd", "I", false)
  | 13 => ("LeastTeachesModel", "number", "I", false)
  | 14 => ("LeastTeachesModel", "numberAt", "I", false)
  | 15 => ("LeastTeachesModel", "readThings", "I", false)
  | 16 => ("LeastTeachesModel", "readPupils", "I", false)
  | 17 => ("LeastTeachesModel", "readLeans", "[I", true)
  | 18 => ("LeastTeachesModel", "readPeople", "[I", true)
  | 19 => ("LeastTeachesModel", "readLevels", "[I", true)
  | 20 => ("LeastTeachesModel", "now", "[I", true)
  | 21 => ("LeastTeachesModel", "cap", "[I", true)
  | 22 => ("LeastTeachesModel", "then", "[I", true)
  | 23 => ("LeastTeachesModel", "seed", "I", false)
  | 24 => ("LeastTeachesModel", "place", "[I", true)
  | 25 => ("LeastTeachesModel", "line", "[I", true)
  | 26 => ("LeastTeachesModel", "far", "[I", true)
  | 27 => ("LeastTeachesModel", "leads", "[Z", true)
  | 28 => ("LeastTeachesModel", "lined", "I", false)
  | 29 => ("LeastTeachesModel", "takes", "[I", true)
  | 30 => ("LeastTeachesModel", "rest", "[I", true)
  | 31 => ("LeastTeachesModel", "odds", "[J", true)
  | 32 => ("LeastTeachesModel", "comes", "[J", true)
  | 33 => ("LeastTeachesModel", "listed", "[I", true)
  | 34 => ("LeastTeachesModel", "many", "I", false)
  | 35 => ("LeastTeachesModel", "logged", "I", false)
  | 36 => ("LeastTeachesModel", "logWho", "[I", true)
  | 37 => ("LeastTeachesModel", "logThing", "[I", true)
  | 38 => ("LeastTeachesModel", "wereLevels", "[I", true)
  | 39 => ("LeastTeachesModel", "images", "[I", true)
  | _ => ("LeastTeachesModel", "isKept", "[Z", true)
def tyX7 : Nat → FieldType := fun k => match k with
  | 0 => .int
  | 1 => .int
  | 2 => .array .int
  | 3 => .array .int
  | 4 => .array .int
  | 5 => .boolean
  | 6 => .int
  | 7 => .array .int
  | 8 => .int
  | 9 => .int
  | 10 => .int
  | 11 => .long
  | 12 => .int
  | 13 => .int
  | 14 => .int
  | 15 => .int
  | 16 => .int
  | 17 => .array .int
  | 18 => .array .int
  | 19 => .array .int
  | 20 => .array .int
  | 21 => .array .int
  | 22 => .array .int
  | 23 => .int
  | 24 => .array .int
  | 25 => .array .int
  | 26 => .array .int
  | 27 => .array .boolean
  | 28 => .int
  | 29 => .array .int
  | 30 => .array .int
  | 31 => .array .long
  | 32 => .array .long
  | 33 => .array .int
  | 34 => .int
  | 35 => .int
  | 36 => .array .int
  | 37 => .array .int
  | 38 => .array .int
  | 39 => .array .int
  | _ => .array .boolean
abbrev wsX70 : List Cond := u_ws RX7 TX7 41
theorem nmX7 : ∀ a, a < 41 → ∀ b, b < 41 → a ≠ b → (TX7 a).2.1 ≠ (TX7 b).2.1 := by decide +kernel
theorem tyX7_ok : ∀ k, k < 41 → parseFieldDescriptor (TX7 k).2.2.1 = some (tyX7 k) := by decide +kernel
abbrev cX7_init : ByteArray := prog_9_method_1_code
def yX7_init : MethodName := ⟨RX7, "<init>", "()V"⟩
abbrev cX7_in : ByteArray := prog_9_method_3_code
def yX7_in : MethodName := ⟨RX7, "in", "(JJJ)Z"⟩
abbrev cX7_has : ByteArray := prog_9_method_4_code
def yX7_has : MethodName := ⟨RX7, "has", "(II)Z"⟩
abbrev cX7_isThing : ByteArray := prog_9_method_5_code
def yX7_isThing : MethodName := ⟨RX7, "isThing", "(I)Z"⟩
abbrev cX7_isPupil : ByteArray := prog_9_method_6_code
def yX7_isPupil : MethodName := ⟨RX7, "isPupil", "(I)Z"⟩
abbrev cX7_feed : ByteArray := prog_9_method_7_code
def yX7_feed : MethodName := ⟨RX7, "feed", "(IJ)I"⟩
abbrev cX7_here : ByteArray := prog_9_method_8_code
def yX7_here : MethodName := ⟨RX7, "here", "()I"⟩
abbrev cX7_fails : ByteArray := prog_9_method_9_code
def yX7_fails : MethodName := ⟨RX7, "fails", "(II)I"⟩
abbrev cX7_readWord : ByteArray := prog_9_method_10_code
def yX7_readWord : MethodName := ⟨RX7, "readWord", "()V"⟩
abbrev cX7_code : ByteArray := prog_9_method_11_code
def yX7_code : MethodName := ⟨RX7, "code", "(IIIII)J"⟩
abbrev cX7_takeNumber : ByteArray := prog_9_method_12_code
def yX7_takeNumber : MethodName := ⟨RX7, "takeNumber", "(II)I"⟩
abbrev cX7_isComma : ByteArray := prog_9_method_13_code
def yX7_isComma : MethodName := ⟨RX7, "isComma", "()Z"⟩
abbrev cX7_takeThing : ByteArray := prog_9_method_14_code
def yX7_takeThing : MethodName := ⟨RX7, "takeThing", "()I"⟩
abbrev cX7_takePupil : ByteArray := prog_9_method_15_code
def yX7_takePupil : MethodName := ⟨RX7, "takePupil", "()I"⟩
abbrev cX7_takeClause : ByteArray := prog_9_method_16_code
def yX7_takeClause : MethodName := ⟨RX7, "takeClause", "()I"⟩
abbrev cX7_school : ByteArray := prog_9_method_17_code
def yX7_school : MethodName := ⟨RX7, "school", "()I"⟩
abbrev cX7_fault : ByteArray := prog_9_method_18_code
def yX7_fault : MethodName := ⟨RX7, "fault", "()I"⟩
abbrev cX7_count : ByteArray := prog_9_method_19_code
def yX7_count : MethodName := ⟨RX7, "count", "(I)I"⟩
abbrev cX7_pupil : ByteArray := prog_9_method_20_code
def yX7_pupil : MethodName := ⟨RX7, "pupil", "(II)I"⟩
abbrev cX7_leans : ByteArray := prog_9_method_21_code
def yX7_leans : MethodName := ⟨RX7, "leans", "(I)I"⟩
abbrev cX7_level : ByteArray := prog_9_method_22_code
def yX7_level : MethodName := ⟨RX7, "level", "(II)I"⟩
abbrev cX7_capOf : ByteArray := prog_9_method_23_code
def yX7_capOf : MethodName := ⟨RX7, "capOf", "(III)I"⟩
abbrev cX7_rises : ByteArray := prog_9_method_24_code
def yX7_rises : MethodName := ⟨RX7, "rises", "(II)I"⟩
abbrev cX7_guest : ByteArray := prog_9_method_25_code
def yX7_guest : MethodName := ⟨RX7, "guest", "(Z)I"⟩
abbrev cX7_draw : ByteArray := prog_9_method_26_code
def yX7_draw : MethodName := ⟨RX7, "draw", "(I)I"⟩
abbrev cX7_isSo : ByteArray := prog_9_method_27_code
def yX7_isSo : MethodName := ⟨RX7, "isSo", "(IZ)Z"⟩
abbrev cX7_take : ByteArray := prog_9_method_28_code
def yX7_take : MethodName := ⟨RX7, "take", "(II)V"⟩
abbrev cX7_put : ByteArray := prog_9_method_29_code
def yX7_put : MethodName := ⟨RX7, "put", "(I)V"⟩
abbrev cX7_rise : ByteArray := prog_9_method_30_code
def yX7_rise : MethodName := ⟨RX7, "rise", "(II)V"⟩
abbrev cX7_noChance : ByteArray := prog_9_method_31_code
def yX7_noChance : MethodName := ⟨RX7, "noChance", "(IZ)I"⟩
abbrev cX7_teach : ByteArray := prog_9_method_32_code
def yX7_teach : MethodName := ⟨RX7, "teach", "(IIZZ)I"⟩
abbrev cX7_believe : ByteArray := prog_9_method_33_code
def yX7_believe : MethodName := ⟨RX7, "believe", "(IIZ)V"⟩
abbrev cX7_follow : ByteArray := prog_9_method_34_code
def yX7_follow : MethodName := ⟨RX7, "follow", "(II)V"⟩
abbrev cX7_everybody : ByteArray := prog_9_method_35_code
def yX7_everybody : MethodName := ⟨RX7, "everybody", "()I"⟩
abbrev cX7_lesson : ByteArray := prog_9_method_36_code
def yX7_lesson : MethodName := ⟨RX7, "lesson", "(IIZ)I"⟩
abbrev cX7_noOdds : ByteArray := prog_9_method_37_code
def yX7_noOdds : MethodName := ⟨RX7, "noOdds", "(IIZ)I"⟩
abbrev cX7_part : ByteArray := prog_9_method_38_code
def yX7_part : MethodName := ⟨RX7, "part", "(III)J"⟩
abbrev cX7_exact : ByteArray := prog_9_method_39_code
def yX7_exact : MethodName := ⟨RX7, "exact", "(III)I"⟩
abbrev cX7_leastOf : ByteArray := prog_9_method_40_code
def yX7_leastOf : MethodName := ⟨RX7, "leastOf", "(II)I"⟩
abbrev cX7_greatestBelow : ByteArray := prog_9_method_41_code
def yX7_greatestBelow : MethodName := ⟨RX7, "greatestBelow", "()I"⟩
abbrev cX7_upBy : ByteArray := prog_9_method_42_code
def yX7_upBy : MethodName := ⟨RX7, "upBy", "(II)I"⟩
abbrev cX7_isRule : ByteArray := prog_9_method_43_code
def yX7_isRule : MethodName := ⟨RX7, "isRule", "(I)Z"⟩
abbrev cX7_up : ByteArray := prog_9_method_44_code
def yX7_up : MethodName := ⟨RX7, "up", "(II)I"⟩
abbrev cX7_knownNow : ByteArray := prog_9_method_45_code
def yX7_knownNow : MethodName := ⟨RX7, "knownNow", "()I"⟩
abbrev cX7_run : ByteArray := prog_9_method_46_code
def yX7_run : MethodName := ⟨RX7, "run", "(IIIZ)I"⟩
abbrev cX7_tellNow : ByteArray := prog_9_method_47_code
def yX7_tellNow : MethodName := ⟨RX7, "tellNow", "()I"⟩
abbrev cX7_master : ByteArray := prog_9_method_48_code
def yX7_master : MethodName := ⟨RX7, "master", "(I)I"⟩
abbrev cX7_summer : ByteArray := prog_9_method_49_code
def yX7_summer : MethodName := ⟨RX7, "summer", "(I)I"⟩
abbrev cX7_hours : ByteArray := prog_9_method_50_code
def yX7_hours : MethodName := ⟨RX7, "hours", "(II)I"⟩
abbrev cX7_stateNow : ByteArray := prog_9_method_51_code
def yX7_stateNow : MethodName := ⟨RX7, "stateNow", "(I)I"⟩
abbrev cX7_setState : ByteArray := prog_9_method_52_code
def yX7_setState : MethodName := ⟨RX7, "setState", "(II)V"⟩
abbrev cX7_bits : ByteArray := prog_9_method_53_code
def yX7_bits : MethodName := ⟨RX7, "bits", "(I)I"⟩
abbrev cX7_goal : ByteArray := prog_9_method_54_code
def yX7_goal : MethodName := ⟨RX7, "goal", "(I)I"⟩
abbrev cX7_next : ByteArray := prog_9_method_55_code
def yX7_next : MethodName := ⟨RX7, "next", "(IZII)I"⟩
abbrev cX7_spread : ByteArray := prog_9_method_56_code
def yX7_spread : MethodName := ⟨RX7, "spread", "(IZ)I"⟩
abbrev cX7_fewestOf : ByteArray := prog_9_method_57_code
def yX7_fewestOf : MethodName := ⟨RX7, "fewestOf", "(IIZ)I"⟩
abbrev cX7_isSmall : ByteArray := prog_9_method_58_code
def yX7_isSmall : MethodName := ⟨RX7, "isSmall", "()Z"⟩
abbrev cX7_fewest : ByteArray := prog_9_method_59_code
def yX7_fewest : MethodName := ⟨RX7, "fewest", "(I)I"⟩
abbrev cX7_row : ByteArray := prog_9_method_60_code
def yX7_row : MethodName := ⟨RX7, "row", "(II)I"⟩
abbrev cX7_stuck : ByteArray := prog_9_method_61_code
def yX7_stuck : MethodName := ⟨RX7, "stuck", "(I)I"⟩
abbrev cX7_worth : ByteArray := prog_9_method_62_code
def yX7_worth : MethodName := ⟨RX7, "worth", "(I)I"⟩
abbrev cX7_mastered : ByteArray := prog_9_method_63_code
def yX7_mastered : MethodName := ⟨RX7, "mastered", "(I)I"⟩
abbrev cX7_levelBehind : ByteArray := prog_9_method_64_code
def yX7_levelBehind : MethodName := ⟨RX7, "levelBehind", "(IIII)I"⟩
abbrev cX7_pays : ByteArray := prog_9_method_65_code
def yX7_pays : MethodName := ⟨RX7, "pays", "(IIII)I"⟩
abbrev cX7_findOrder : ByteArray := prog_9_method_66_code
def yX7_findOrder : MethodName := ⟨RX7, "findOrder", "()V"⟩
abbrev cX7_order : ByteArray := prog_9_method_67_code
def yX7_order : MethodName := ⟨RX7, "order", "(I)I"⟩
abbrev cX7_classes : ByteArray := prog_9_method_68_code
def yX7_classes : MethodName := ⟨RX7, "classes", "(II)I"⟩
abbrev cX7_come : ByteArray := prog_9_method_69_code
def yX7_come : MethodName := ⟨RX7, "come", "(J)V"⟩
abbrev cX7_asNow : ByteArray := prog_9_method_70_code
def yX7_asNow : MethodName := ⟨RX7, "asNow", "()V"⟩
abbrev cX7_listSurer : ByteArray := prog_9_method_71_code
def yX7_listSurer : MethodName := ⟨RX7, "listSurer", "(I)V"⟩
abbrev cX7_chanceOf : ByteArray := prog_9_method_72_code
def yX7_chanceOf : MethodName := ⟨RX7, "chanceOf", "(IZ)I"⟩
abbrev cX7_partBelief : ByteArray := prog_9_method_73_code
def yX7_partBelief : MethodName := ⟨RX7, "partBelief", "(IJ)V"⟩
abbrev cX7_partNo : ByteArray := prog_9_method_74_code
def yX7_partNo : MethodName := ⟨RX7, "partNo", "(IZIJ)V"⟩
abbrev cX7_partRight : ByteArray := prog_9_method_75_code
def yX7_partRight : MethodName := ⟨RX7, "partRight", "(IZJ)V"⟩
abbrev cX7_partAll : ByteArray := prog_9_method_76_code
def yX7_partAll : MethodName := ⟨RX7, "partAll", "(II)V"⟩
abbrev cX7_findOdds : ByteArray := prog_9_method_77_code
def yX7_findOdds : MethodName := ⟨RX7, "findOdds", "(III)V"⟩
abbrev cX7_behind : ByteArray := prog_9_method_78_code
def yX7_behind : MethodName := ⟨RX7, "behind", "(IIII)I"⟩
abbrev cX7_log : ByteArray := prog_9_method_79_code
def yX7_log : MethodName := ⟨RX7, "log", "(II)I"⟩
abbrev cX7_clear : ByteArray := prog_9_method_80_code
def yX7_clear : MethodName := ⟨RX7, "clear", "()I"⟩
abbrev cX7_firstWrong : ByteArray := prog_9_method_81_code
def yX7_firstWrong : MethodName := ⟨RX7, "firstWrong", "()I"⟩
abbrev cX7_judge : ByteArray := prog_9_method_82_code
def yX7_judge : MethodName := ⟨RX7, "judge", "()I"⟩
abbrev cX7_seed : ByteArray := prog_9_method_83_code
def yX7_seed : MethodName := ⟨RX7, "seed", "(I)I"⟩
abbrev cX7_keep : ByteArray := prog_9_method_84_code
def yX7_keep : MethodName := ⟨RX7, "keep", "(I)I"⟩
abbrev cX7_goBack : ByteArray := prog_9_method_85_code
def yX7_goBack : MethodName := ⟨RX7, "goBack", "(I)I"⟩
def RJx145de : String := "java/io/Serializable"
def TJx145de : u_T := fun k => match k with
  | _ => ("", "", "", false)
def tyJx145de : Nat → FieldType := fun k => match k with
  | _ => .int
abbrev wsJx145de0 : List Cond := u_ws RJx145de TJx145de 0
theorem nmJx145de : ∀ a, a < 0 → ∀ b, b < 0 → a ≠ b → (TJx145de a).2.1 ≠ (TJx145de b).2.1 := by decide +kernel
theorem tyJx145de_ok : ∀ k, k < 0 → parseFieldDescriptor (TJx145de k).2.2.1 = some (tyJx145de k) := by decide +kernel
def RJx9f9b0 : String := "java/lang/CharSequence"
def TJx9f9b0 : u_T := fun k => match k with
  | _ => ("", "", "", false)
def tyJx9f9b0 : Nat → FieldType := fun k => match k with
  | _ => .int
abbrev wsJx9f9b00 : List Cond := u_ws RJx9f9b0 TJx9f9b0 0
theorem nmJx9f9b0 : ∀ a, a < 0 → ∀ b, b < 0 → a ≠ b → (TJx9f9b0 a).2.1 ≠ (TJx9f9b0 b).2.1 := by decide +kernel
theorem tyJx9f9b0_ok : ∀ k, k < 0 → parseFieldDescriptor (TJx9f9b0 k).2.2.1 = some (tyJx9f9b0 k) := by decide +kernel
def RJxb160c : String := "java/lang/Comparable"
def TJxb160c : u_T := fun k => match k with
  | _ => ("", "", "", false)
def tyJxb160c : Nat → FieldType := fun k => match k with
  | _ => .int
abbrev wsJxb160c0 : List Cond := u_ws RJxb160c TJxb160c 0
theorem nmJxb160c : ∀ a, a < 0 → ∀ b, b < 0 → a ≠ b → (TJxb160c a).2.1 ≠ (TJxb160c b).2.1 := by decide +kernel
theorem tyJxb160c_ok : ∀ k, k < 0 → parseFieldDescriptor (TJxb160c k).2.2.1 = some (tyJxb160c k) := by decide +kernel
def RJ9 : String := "java/lang/Math"
def TJ9 : u_T := fun k => match k with
  | _ => ("", "", "", false)
def tyJ9 : Nat → FieldType := fun k => match k with
  | _ => .int
abbrev wsJ90 : List Cond := u_ws RJ9 TJ9 0
theorem nmJ9 : ∀ a, a < 0 → ∀ b, b < 0 → a ≠ b → (TJ9 a).2.1 ≠ (TJ9 b).2.1 := by decide +kernel
theorem tyJ9_ok : ∀ k, k < 0 → parseFieldDescriptor (TJ9 k).2.2.1 = some (tyJ9 k) := by decide +kernel
abbrev cJ9_max_7cf53 : ByteArray := prog_10_method_65_code
def yJ9_max_7cf53 : MethodName := ⟨RJ9, "max", "(II)I"⟩
abbrev cJ9_min_7cf53 : ByteArray := prog_10_method_69_code
def yJ9_min_7cf53 : MethodName := ⟨RJ9, "min", "(II)I"⟩
def RJ0 : String := "java/lang/String"
def TJ0 : u_T := fun k => match k with
  | _ => ("", "", "", false)
def tyJ0 : Nat → FieldType := fun k => match k with
  | _ => .int
abbrev wsJ00 : List Cond := u_ws RJ0 TJ0 0
theorem nmJ0 : ∀ a, a < 0 → ∀ b, b < 0 → a ≠ b → (TJ0 a).2.1 ≠ (TJ0 b).2.1 := by decide +kernel
theorem tyJ0_ok : ∀ k, k < 0 → parseFieldDescriptor (TJ0 k).2.2.1 = some (tyJ0 k) := by decide +kernel
abbrev cJ0_length_8abf5 : ByteArray := prog_11_method_54_code
def yJ0_length_8abf5 : MethodName := ⟨RJ0, "length", "()I"⟩
abbrev cJ0_charAt_5068e : ByteArray := prog_11_method_56_code
def yJ0_charAt_5068e : MethodName := ⟨RJ0, "charAt", "(I)C"⟩
abbrev cJ0_coder_7d493 : ByteArray := prog_11_method_152_code
def yJ0_coder_7d493 : MethodName := ⟨RJ0, "coder", "()B"⟩
abbrev cJ0_isLatin1_aae02 : ByteArray := prog_11_method_154_code
def yJ0_isLatin1_aae02 : MethodName := ⟨RJ0, "isLatin1", "()Z"⟩
abbrev cJ0_checkIndex_df160 : ByteArray := prog_11_method_155_code
def yJ0_checkIndex_df160 : MethodName := ⟨RJ0, "checkIndex", "(II)V"⟩
def RJ1 : String := "java/lang/StringLatin1"
def TJ1 : u_T := fun k => match k with
  | _ => ("", "", "", false)
def tyJ1 : Nat → FieldType := fun k => match k with
  | _ => .int
abbrev wsJ10 : List Cond := u_ws RJ1 TJ1 0
theorem nmJ1 : ∀ a, a < 0 → ∀ b, b < 0 → a ≠ b → (TJ1 a).2.1 ≠ (TJ1 b).2.1 := by decide +kernel
theorem tyJ1_ok : ∀ k, k < 0 → parseFieldDescriptor (TJ1 k).2.2.1 = some (tyJ1 k) := by decide +kernel
abbrev cJ1_charAt_3b067 : ByteArray := prog_12_method_2_code
def yJ1_charAt_3b067 : MethodName := ⟨RJ1, "charAt", "([BI)C"⟩
def RJ2 : String := "java/lang/StringUTF16"
def TJ2 : u_T := fun k => match k with
  | _ => ("", "", "", false)
def tyJ2 : Nat → FieldType := fun k => match k with
  | _ => .int
abbrev wsJ20 : List Cond := u_ws RJ2 TJ2 0
theorem nmJ2 : ∀ a, a < 0 → ∀ b, b < 0 → a ≠ b → (TJ2 a).2.1 ≠ (TJ2 b).2.1 := by decide +kernel
theorem tyJ2_ok : ∀ k, k < 0 → parseFieldDescriptor (TJ2 k).2.2.1 = some (tyJ2 k) := by decide +kernel
abbrev cJ2_getChar_3b067 : ByteArray := prog_13_method_5_code
def yJ2_getChar_3b067 : MethodName := ⟨RJ2, "getChar", "([BI)C"⟩
abbrev cJ2_length_9d52b : ByteArray := prog_13_method_6_code
def yJ2_length_9d52b : MethodName := ⟨RJ2, "length", "([B)I"⟩
abbrev cJ2_charAt_3b067 : ByteArray := prog_13_method_83_code
def yJ2_charAt_3b067 : MethodName := ⟨RJ2, "charAt", "([BI)C"⟩
abbrev cJ2_checkIndex_2214a : ByteArray := prog_13_method_91_code
def yJ2_checkIndex_2214a : MethodName := ⟨RJ2, "checkIndex", "(I[B)V"⟩
def RJ10 : String := "java/lang/System"
def TJ10 : u_T := fun k => match k with
  | _ => ("", "", "", false)
def tyJ10 : Nat → FieldType := fun k => match k with
  | _ => .int
abbrev wsJ100 : List Cond := u_ws RJ10 TJ10 0
theorem nmJ10 : ∀ a, a < 0 → ∀ b, b < 0 → a ≠ b → (TJ10 a).2.1 ≠ (TJ10 b).2.1 := by decide +kernel
theorem tyJ10_ok : ∀ k, k < 0 → parseFieldDescriptor (TJ10 k).2.2.1 = some (tyJ10 k) := by decide +kernel
def RJxfd54e : String := "java/lang/constant/Constable"
def TJxfd54e : u_T := fun k => match k with
  | _ => ("", "", "", false)
def tyJxfd54e : Nat → FieldType := fun k => match k with
  | _ => .int
abbrev wsJxfd54e0 : List Cond := u_ws RJxfd54e TJxfd54e 0
theorem nmJxfd54e : ∀ a, a < 0 → ∀ b, b < 0 → a ≠ b → (TJxfd54e a).2.1 ≠ (TJxfd54e b).2.1 := by decide +kernel
theorem tyJxfd54e_ok : ∀ k, k < 0 → parseFieldDescriptor (TJxfd54e k).2.2.1 = some (tyJxfd54e k) := by decide +kernel
def RJx3cf43 : String := "java/lang/constant/ConstantDesc"
def TJx3cf43 : u_T := fun k => match k with
  | _ => ("", "", "", false)
def tyJx3cf43 : Nat → FieldType := fun k => match k with
  | _ => .int
abbrev wsJx3cf430 : List Cond := u_ws RJx3cf43 TJx3cf43 0
theorem nmJx3cf43 : ∀ a, a < 0 → ∀ b, b < 0 → a ≠ b → (TJx3cf43 a).2.1 ≠ (TJx3cf43 b).2.1 := by decide +kernel
theorem tyJx3cf43_ok : ∀ k, k < 0 → parseFieldDescriptor (TJx3cf43 k).2.2.1 = some (tyJx3cf43 k) := by decide +kernel
def RJ7 : String := "java/util/Arrays"
def TJ7 : u_T := fun k => match k with
  | _ => ("", "", "", false)
def tyJ7 : Nat → FieldType := fun k => match k with
  | _ => .int
abbrev wsJ70 : List Cond := u_ws RJ7 TJ7 0
theorem nmJ7 : ∀ a, a < 0 → ∀ b, b < 0 → a ≠ b → (TJ7 a).2.1 ≠ (TJ7 b).2.1 := by decide +kernel
theorem tyJ7_ok : ∀ k, k < 0 → parseFieldDescriptor (TJ7 k).2.2.1 = some (tyJ7 k) := by decide +kernel
abbrev cJ7_rangeCheck_23922 : ByteArray := prog_15_method_30_code
def yJ7_rangeCheck_23922 : MethodName := ⟨RJ7, "rangeCheck", "(III)V"⟩
abbrev cJ7_fill_d0a16 : ByteArray := prog_15_method_101_code
def yJ7_fill_d0a16 : MethodName := ⟨RJ7, "fill", "([JJ)V"⟩
abbrev cJ7_fill_fda19 : ByteArray := prog_15_method_104_code
def yJ7_fill_fda19 : MethodName := ⟨RJ7, "fill", "([IIII)V"⟩
def RJ3 : String := "jdk/internal/util/Preconditions"
def TJ3 : u_T := fun k => match k with
  | _ => ("", "", "", false)
def tyJ3 : Nat → FieldType := fun k => match k with
  | _ => .int
abbrev wsJ30 : List Cond := u_ws RJ3 TJ3 0
theorem nmJ3 : ∀ a, a < 0 → ∀ b, b < 0 → a ≠ b → (TJ3 a).2.1 ≠ (TJ3 b).2.1 := by decide +kernel
theorem tyJ3_ok : ∀ k, k < 0 → parseFieldDescriptor (TJ3 k).2.2.1 = some (tyJ3 k) := by decide +kernel
abbrev cJ3_checkIndex_8e157 : ByteArray := prog_16_method_11_code
def yJ3_checkIndex_8e157 : MethodName := ⟨RJ3, "checkIndex", "(IILjava/util/function/BiFunction;)I"⟩
def RL : String := "LeastTeachesLaw"
abbrev cL_law : ByteArray := code
def yL_law : MethodName := ⟨RL, "law", "([I)Z"⟩
abbrev vwCl : List vw_C := [(RX0, TX0, 11), (RX1, TX1, 6), (RX2, TX2, 8), (RX3, TX3, 7), (RX4, TX4, 2), (RX5, TX5, 4), (RX6, TX6, 16), (RX7, TX7, 41)]
end
section

/-! ===== the pure state, the world, the judgement V ===== -/
abbrev St : Type := (Nat → Nat → Int32) × (Nat → Nat → Int64) × (Nat → Nat → Nat)
def gN (S : St) (c j : Nat) : Int32 := S.1 c j
def gJ (S : St) (c j : Nat) : Int64 := S.2.1 c j
def gR (S : St) (c j : Nat) : Nat := S.2.2 c j
def sN (S : St) (c j : Nat) (v : Int32) : St := (va_up S.1 c (va_up (S.1 c) j v), S.2)
def sJ (S : St) (c j : Nat) (v : Int64) : St := (S.1, va_up S.2.1 c (va_up (S.2.1 c) j v), S.2.2)
def sR (S : St) (c j : Nat) (v : Nat) : St := (S.1, S.2.1, va_up S.2.2 c (va_up (S.2.2 c) j v))
/-- a whole row -/
def pN (S : St) (c : Nat) (f : Nat → Int32) : St := (va_up S.1 c f, S.2)
/-- the shapes: class number (or 8 byte, 9 int, 10 long, 11 boolean rows), length, fields (0 int, 1 fixed reference, 2 moving reference, 3 the same or null, 4 long) -/
def shL : List (Nat × Nat × List (Nat × Nat)) := [(6, 0, [(1, 1), (2, 0), (2, 0), (1, 15), (1, 17), (1, 19), (1, 21), (0, 0), (1, 23), (0, 0), (1, 24), (1, 25), (1, 33), (1, 38), (1, 40), (1, 42)]),
  (2, 0, [(1, 2), (0, 0), (0, 0), (0, 0), (3, 0), (0, 0), (0, 0), (0, 0)]),
  (8, 400, []),
  (3, 0, [(0, 0), (0, 0), (1, 4), (1, 5), (1, 6), (1, 7), (1, 8)]),
  (9, 6, []),
  (9, 6, []),
  (9, 6, []),
  (9, 6, []),
  (9, 36, []),
  (3, 0, [(0, 0), (0, 0), (1, 10), (1, 11), (1, 12), (1, 13), (1, 14)]),
  (9, 6, []),
  (9, 6, []),
  (9, 6, []),
  (9, 6, []),
  (9, 36, []),
  (5, 0, [(1, 16), (0, 0), (0, 0), (0, 0)]),
  (9, 36, []),
  (5, 0, [(1, 18), (0, 0), (0, 0), (0, 0)]),
  (9, 36, []),
  (5, 0, [(1, 20), (0, 0), (0, 0), (0, 0)]),
  (9, 36, []),
  (5, 0, [(1, 22), (0, 0), (0, 0), (0, 0)]),
  (9, 36, []),
  (9, 40, []),
  (9, 6, []),
  (0, 0, [(0, 0), (0, 0), (0, 0), (0, 0), (1, 26), (1, 27), (1, 28), (1, 29), (1, 30), (1, 31), (1, 32)]),
  (9, 6, []),
  (9, 6, []),
  (9, 6, []),
  (9, 6, []),
  (9, 6, []),
  (9, 6, []),
  (11, 6, []),
  (1, 0, [(2, 0), (2, 0), (1, 36), (0, 0), (1, 37), (0, 0)]),
  (10, 1000, []),
  (10, 1000, []),
  (10, 16, []),
  (9, 4, []),
  (4, 0, [(1, 39), (0, 0)]),
  (9, 10000, []),
  (4, 0, [(1, 41), (0, 0)]),
  (9, 10000, []),
  (4, 0, [(1, 43), (0, 0)]),
  (9, 10000, []),
  (7, 0, [(0, 0), (0, 0), (1, 45), (1, 46), (1, 47), (0, 0), (0, 0), (1, 48), (0, 0), (0, 0), (0, 0), (4, 0), (0, 0), (0, 0), (0, 0), (0, 0), (0, 0), (1, 49), (1, 50), (1, 51), (1, 52), (1, 53), (1, 54), (0, 0), (1, 55), (1, 56), (1, 57), (1, 58), (0, 0), (1, 59), (1, 60), (1, 61), (1, 62), (1, 63), (0, 0), (0, 0), (1, 64), (1, 65), (1, 66), (1, 67), (1, 68)]),
  (9, 6, []),
  (9, 18, []),
  (9, 36, []),
  (9, 400, []),
  (9, 6, []),
  (9, 18, []),
  (9, 36, []),
  (9, 6, []),
  (9, 6, []),
  (9, 6, []),
  (9, 100000, []),
  (9, 100000, []),
  (9, 100000, []),
  (11, 100000, []),
  (9, 384, []),
  (9, 64, []),
  (10, 1000, []),
  (10, 1000, []),
  (9, 4, []),
  (9, 40, []),
  (9, 40, []),
  (9, 36, []),
  (9, 80, []),
  (11, 2, [])]
def sh (c : Nat) : Nat × Nat × List (Nat × Nat) := shL.getD c (99, 0, [])
/-- class tables, addresses, row classes, the address of TENS, addresses of Strings and of their bytes -/
abbrev VG : Type := va_G × (Nat → Nat) × (Nat → ClassId) × Nat × (Nat → Nat) × (Nat → Nat)
def fvq (G : VG) (q : Nat × Nat) (x : Int32) (r : Nat) (y : Int64) : Value :=
  if q.1 = 0 then .int x else if q.1 = 1 then .ref (G.2.1 q.2) else if q.1 = 2 then .ref (G.2.1 r) else if q.1 = 3 then (if r = 99 then .null else .ref (G.2.1 r)) else .long y
def fv (G : VG) (S : St) (c j : Nat) (q : Nat × Nat) : Value := fvq G q (gN S c j) (gR S c j) (gJ S c j)
def cellOf (G : VG) (S : St) (c : Nat) : va_E :=
  if (sh c).1 < 8 then .inr ((sh c).1, (sh c).2.2.mapIdx (fun j q => fv G S c j q)) else .inl (G.2.2.1 (sh c).1, (sh c).2.1, if (sh c).1 = 10 then .inr (.inl (S.2.1 c)) else .inl (S.1 c))
def wld (G : VG) (S : St) : va_W := (List.range 69).map (fun c => (G.2.1 c, cellOf G S c))
/-- which cells may be written -/
def Aw (G : VG) : Nat → Prop := fun q => ∃ k, k < 69 ∧ q = G.2.1 k
def tysG (G : VG) : List (ClassId × FieldType) := [(G.2.2.1 8, .byte), (G.2.2.1 9, .int), (G.2.2.1 10, .long), (G.2.2.1 11, .boolean)]
theorem wld_get (G : VG) (S : St) {c : Nat} (h : c < 69) : (wld G S)[c]? = some (G.2.1 c, cellOf G S c) := by
  simp [wld, h]
theorem wld_set (G : VG) (S S' : St) {c : Nat} {e : va_E} (he : e = cellOf G S' c) (ho : ∀ k, k ≠ c → cellOf G S k = cellOf G S' k) : (wld G S).set c (G.2.1 c, e) = wld G S' := by
  apply List.ext_getElem?
  intro i
  by_cases hi : i < 69
  · by_cases hc : c = i
    · subst hc
      rw [List.getElem?_set_self (by simp [wld, hi]), wld_get G S' hi, he]
    · rw [List.getElem?_set_ne hc, wld_get G S hi, wld_get G S' hi, ho i (Ne.symm hc)]
  · rw [List.getElem?_eq_none (by simp [wld]; omega), List.getElem?_eq_none (by simp [wld]; omega)]
theorem cellOf_eq {G : VG} {S S' : St} {c : Nat} (h1 : S.1 c = S'.1 c) (h2 : S.2.1 c = S'.2.1 c) (h3 : S.2.2 c = S'.2.2 c) : cellOf G S c = cellOf G S' c := by
  have e : ∀ j q, fv G S c j q = fv G S' c j q := fun j q => by simp only [fv, gN, gJ, gR, h1, h2, h3]
  simp only [cellOf, h1, h2, e]
theorem up_ne {α : Type} {f : Nat → α} {k j : Nat} {v : α} (h : j ≠ k) : va_up f k v j = f j := by simp [va_up, h]
theorem up_eq {α : Type} {f : Nat → α} {k : Nat} {v : α} : va_up f k v k = v := by simp [va_up]
/-- field j of the object cell c, of class ci, has that tag -/
def FI (c j ci tag d : Nat) : Prop := c < 69 ∧ (sh c).1 = ci ∧ ci < 8 ∧ (sh c).2.2[j]? = some (tag, d)
/-- the cell c is a row of kind k and length n -/
def AI (c k n : Nat) : Prop := c < 69 ∧ (sh c).1 = k ∧ 8 ≤ k ∧ (sh c).2.1 = n
theorem cell_obj {G : VG} {S : St} {c j ci tag d : Nat} (h : FI c j ci tag d) : ∃ fs : List Value, cellOf G S c = .inr (ci, fs) ∧ fs[j]? = some (fv G S c j (tag, d)) ∧ j < fs.length := by
  obtain ⟨h1, h2, h3, h4⟩ := h
  refine ⟨(sh c).2.2.mapIdx (fun j q => fv G S c j q), by simp [cellOf, h2, h3], by simp [h4], ?_⟩
  have := (List.getElem?_eq_some_iff.mp h4).1
  simpa using this
theorem cell_put {G : VG} {S S' : St} {c j ci tag d : Nat} {fs : List Value} {v : Value} (h : FI c j ci tag d) (hf : cellOf G S c = .inr (ci, fs)) (hv : fv G S' c j (tag, d) = v) (ho : ∀ i q, i ≠ j → fv G S' c i q = fv G S c i q) : (.inr (ci, fs.set j v) : va_E) = cellOf G S' c := by
  obtain ⟨h1, h2, h3, h4⟩ := h
  have hf' : fs = (sh c).2.2.mapIdx (fun j q => fv G S c j q) := by
    simp only [cellOf, h2, h3, if_true] at hf
    injection hf with hf
    injection hf with _ hf
    exact hf.symm
  subst hf'
  simp only [cellOf, h2, h3, if_true]
  congr 2
  apply List.ext_getElem?
  intro i
  by_cases hi : j = i
  · subst hi
    rw [List.getElem?_set_self (by have := (List.getElem?_eq_some_iff.mp h4).1; simpa using this)]
    simp [h4, hv]
  · rw [List.getElem?_set_ne hi]
    simp only [List.getElem?_mapIdx]
    cases (sh c).2.2[i]? with
    | none => rfl
    | some q => simp only [Option.map_some, ho i q (Ne.symm hi)]
theorem cell_arrI {G : VG} {S : St} {c k n : Nat} (h : AI c k n) (hk : k ≠ 10) : cellOf G S c = .inl (G.2.2.1 k, n, .inl (S.1 c)) := by
  obtain ⟨h1, h2, h3, h4⟩ := h
  have : ¬ k < 8 := by omega
  simp [cellOf, h2, this, h4, hk]
theorem cell_arrJ {G : VG} {S : St} {c n : Nat} (h : AI c 10 n) : cellOf G S c = .inl (G.2.2.1 10, n, .inr (.inl (S.2.1 c))) := by
  obtain ⟨h1, h2, h3, h4⟩ := h
  simp [cellOf, h2, h4]
theorem cellN_ne {G : VG} {S : St} {c j k : Nat} {v : Int32} (h : k ≠ c) : cellOf G S k = cellOf G (sN S c j v) k := cellOf_eq (by simp [sN, up_ne h]) rfl rfl
theorem cellJ_ne {G : VG} {S : St} {c j k : Nat} {v : Int64} (h : k ≠ c) : cellOf G S k = cellOf G (sJ S c j v) k := cellOf_eq rfl (by simp [sJ, up_ne h]) rfl
theorem cellR_ne {G : VG} {S : St} {c j k : Nat} {v : Nat} (h : k ≠ c) : cellOf G S k = cellOf G (sR S c j v) k := cellOf_eq rfl rfl (by simp [sR, up_ne h])
theorem cellP_ne {G : VG} {S : St} {c k : Nat} {f : Nat → Int32} (h : k ≠ c) : cellOf G S k = cellOf G (pN S c f) k := cellOf_eq (by simp [pN, up_ne h]) rfl rfl
theorem fvN {G : VG} {S : St} {c j : Nat} {v : Int32} {d : Nat} : fv G (sN S c j v) c j (0, d) = .int v := by simp [fv, fvq, gN, sN, up_eq]
theorem fvN_ne {G : VG} {S : St} {c j i : Nat} {v : Int32} {q : Nat × Nat} (h : i ≠ j) : fv G (sN S c j v) c i q = fv G S c i q := by simp [fv, gN, gJ, gR, sN, up_eq, up_ne h]
theorem fvJ {G : VG} {S : St} {c j : Nat} {v : Int64} {d : Nat} : fv G (sJ S c j v) c j (4, d) = .long v := by simp [fv, fvq, gJ, sJ, up_eq]
theorem fvJ_ne {G : VG} {S : St} {c j i : Nat} {v : Int64} {q : Nat × Nat} (h : i ≠ j) : fv G (sJ S c j v) c i q = fv G S c i q := by simp [fv, gN, gJ, gR, sJ, up_eq, up_ne h]
theorem fvR {G : VG} {S : St} {c j : Nat} {v : Nat} {d : Nat} : fv G (sR S c j v) c j (2, d) = .ref (G.2.1 v) := by simp [fv, fvq, gR, sR, up_eq]
theorem fvR3 {G : VG} {S : St} {c j : Nat} {v : Nat} {d : Nat} (h : v ≠ 99) : fv G (sR S c j v) c j (3, d) = .ref (G.2.1 v) := by simp [fv, fvq, gR, sR, up_eq, h]
theorem fvR_ne {G : VG} {S : St} {c j i : Nat} {v : Nat} {q : Nat × Nat} (h : i ≠ j) : fv G (sR S c j v) c i q = fv G S c i q := by simp [fv, gN, gJ, gR, sR, up_eq, up_ne h]
/-! ===== what is outside the world, and stays ===== -/
def tensF (j : Nat) : Int32 := [1, 10, 100, 1000, 10000].getD j 0
def strL : List Nat := [5, 5, 2]
def strB : List (List Int32) := [[116, 104, 105, 110, 103], [112, 117, 112, 105, 108], [111, 110]]
def XT (G : VG) (U : State) (H : Heap) : Prop :=
  va_Z "LeastTeaches" "TENS" "[I" (.ref G.2.2.2.1) (Aw G) U H ∧ va_T .int G.2.2.2.1 5 (fun j => .int (tensF j)) (Aw G) U H ∧ vk_S 3 strL strB G.2.2.2.2.1 G.2.2.2.2.2 (Aw G) U H ∧ va_Z "java/lang/String" "COMPACT_STRINGS" "Z" (.int 1) (Aw G) U H ∧ va_Zq "jdk/internal/util/Preconditions" "SIOOBE_FORMATTER" "Ljava/util/function/BiFunction;" (Aw G) U H
/-- words that a use may change, but keep true -/
def nstL : List Cond := [.fieldLinkNest RX1 31 "LeastTeaches" "TENS" "[I" "LeastTeaches", .fieldLinkNest RX4 9 "LeastTeaches" "TENS" "[I" "LeastTeaches", .methodLinkNest RX6 11 yX2_init RX6, .methodLinkNest RX6 18 yX3_init RX6, .methodLinkNest RX6 28 yX5_init RX6, .methodLinkNest RX6 51 yX0_init RX6, .methodLinkNest RX6 58 yX1_init RX6, .methodLinkNest RX6 65 yX4_init RX6]
def XN (U : State) : Prop := ∀ w ∈ nstL, va_Nw w U
theorem XN.warm {s U : State} (hW : s.WarmedH U.vm) (h : XN s) : XN U := by
  intro w hw
  have := h w hw
  simp only [nstL, List.mem_cons, List.not_mem_nil, or_false] at hw
  rcases hw with rfl | rfl | rfl | rfl | rfl | rfl | rfl | rfl
  · exact va_Nw.warmF hW this
  · exact va_Nw.warmF hW this
  · exact va_Nw.warmM hW this
  · exact va_Nw.warmM hW this
  · exact va_Nw.warmM hW this
  · exact va_Nw.warmM hW this
  · exact va_Nw.warmM hW this
  · exact va_Nw.warmM hW this
theorem XN.same {u U : State} (hv : u.vm = U.vm) (h : XN u) : XN U := by
  intro w hw
  have := h w hw
  simp only [nstL, List.mem_cons, List.not_mem_nil, or_false] at hw
  rcases hw with rfl | rfl | rfl | rfl | rfl | rfl | rfl | rfl <;> exact va_Nw.same rfl hv this
def XR (G : VG) (U : State) : Prop := vk_R RX2 46 "thing" (G.2.2.2.2.1 0) U ∧ vk_R RX2 55 "pupil" (G.2.2.2.2.1 1) U ∧ vk_R RX2 67 "on" (G.2.2.2.2.1 2) U ∧ XN U
def EX (G : VG) (U : State) : Prop := va_K G.1 vwCl (tysG G) U ∧ (∀ i j : Nat, i < 69 → j < 69 → G.2.1 i = G.2.1 j → i = j) ∧ XT G U U.heap ∧ XR G U
theorem XT.moved {G : VG} {u U : State} {H : Heap} (hvm : u.vm.Alike U.vm) (h : XT G u H) : XT G U H :=
  ⟨h.1.moved hvm, h.2.1.moved hvm, h.2.2.1.moved hvm, h.2.2.2.1.moved hvm, h.2.2.2.2.moved hvm⟩
theorem XT.kept {G : VG} {U : State} {H H1 : Heap} (h : XT G U H) (hq : ∀ a : Nat, a < H.size → ¬ Aw G a → H1[a]? = H[a]?) : XT G U H1 :=
  ⟨h.1.kept hq, h.2.1.kept hq, h.2.2.1.kept hq, h.2.2.2.1.kept hq, h.2.2.2.2.kept hq⟩
theorem EX.go {G : VG} {s U : State} {H : Heap} {locs : List Loc} (h : EX G s) (hS : va_S (Aw G) s.heap H locs) (hU : U.heap = H) (hW : s.WarmedH U.vm) : EX G U := by
  subst hU
  exact ⟨va_K.moved hW.alike h.1, h.2.1, (h.2.2.1.kept hS.2.1).moved hW.alike, h.2.2.2.1.warm hW, h.2.2.2.2.1.warm hW, h.2.2.2.2.2.1.warm hW, h.2.2.2.2.2.2.warm hW⟩
theorem EX.blind {G : VG} {U : State} {g : JFrame} {mk : MethodId} {a : Array Value} (h : EX G U) : EX G (U.calling g mk a) :=
  ⟨va_K.moved (u := U) (U := U.calling g mk a) (Vm.Alike.refl U.vm) h.1, h.2.1, XT.moved (u := U) (U := U.calling g mk a) (Vm.Alike.refl U.vm) h.2.2.1, vk_R.same (u := U) (U := U.calling g mk a) rfl h.2.2.2.1, vk_R.same (u := U) (U := U.calling g mk a) rfl h.2.2.2.2.1, vk_R.same (u := U) (U := U.calling g mk a) rfl h.2.2.2.2.2.1, XN.same (u := U) (U := U.calling g mk a) rfl h.2.2.2.2.2.2⟩
theorem wld_D {G : VG} {S : St} (h : ∀ i j : Nat, i < 69 → j < 69 → G.2.1 i = G.2.1 j → i = j) : va_D (Aw G) (wld G S) := by
  have key : ∀ (k : Nat) (q : Nat × va_E), (wld G S)[k]? = some q → k < 69 ∧ q.1 = G.2.1 k := by
    intro k q hk
    have hl : k < 69 := by
      have := (List.getElem?_eq_some_iff.mp hk).1
      simpa [wld] using this
    rw [wld_get G S hl] at hk
    cases hk
    exact ⟨hl, rfl⟩
  refine ⟨fun i j x y hi hj hxy => ?_, fun k q hk => ?_⟩
  · obtain ⟨a1, a2⟩ := key i x hi
    obtain ⟨b1, b2⟩ := key j y hj
    exact h i j a1 b1 (by rw [← a2, ← b2, hxy])
  · obtain ⟨a1, a2⟩ := key k q hk
    exact ⟨k, a1, a2⟩
/-! ===== locals by their places ===== -/
def lvR (ls : Array Slot) (nL : Nat) (lv : List (Option Value)) : Prop := ls.size = nL ∧ lv_wf ls ∧ ∀ (i : Nat) (v : Value), lv[i]? = some (some v) → ls[i]? = some (.val v)
def lvp (lv : List (Option Value)) : List (Nat × Value) := (List.range lv.length).filterMap (fun i => (lv[i]?.join).map (fun v => (i, v)))
theorem lvp_mem {lv : List (Option Value)} {i : Nat} {v : Value} : (i, v) ∈ lvp lv ↔ lv[i]? = some (some v) := by
  simp only [lvp, List.mem_filterMap, List.mem_range, Option.map_eq_some_iff, Option.join_eq_some_iff]
  constructor
  · rintro ⟨a, _, b, hb, e⟩
    cases e
    exact hb
  · intro h
    exact ⟨i, (List.getElem?_eq_some_iff.mp h).1, v, h, rfl⟩
theorem lvR_has {ls : Array Slot} {nL : Nat} {lv : List (Option Value)} : lvR ls nL lv ↔ lv_has ls nL (lvp lv) :=
  ⟨fun h => ⟨h.1, h.2.1, fun q hq => h.2.2 q.1 q.2 (lvp_mem.mp hq)⟩, fun h => ⟨h.1, h.2.1, fun i v hi => h.2.2 (i, v) (lvp_mem.mpr hi)⟩⟩
/-- nothing of two words ends in the place i -/
def lvOk (lv : List (Option Value)) (i : Nat) : Bool := match i with
  | 0 => true
  | k + 1 => match lv[k]? with
    | some (some v) => v.category != 2
    | _ => true
theorem lvOk_spec {lv : List (Option Value)} {i k : Nat} {w : Value} (h : lvOk lv i = true) (hk : k + 1 = i) (hw : lv[k]? = some (some w)) : ¬ w.category = 2 := by
  subst hk
  simpa [lvOk, hw] using h
theorem lvR_st1 {ls : Array Slot} {nL : Nat} {lv lv' : List (Option Value)} {i : Nat} {v : Value} (h : lvR ls nL lv) (hi : i < nL) (hc : v.category = 1) (hk : lvOk lv i = true) (hl : lv' = lv.set i (some v)) : ∃ ls', storeLocals ls i v = some ls' ∧ lvR ls' nL lv' := by
  obtain ⟨ls', e, h'⟩ := lv_store1 (v := v) (lvR_has.mp h) hi hc
  refine ⟨ls', e, h'.1, h'.2.1, fun j w hj => ?_⟩
  subst hl
  by_cases hji : i = j
  · subst hji
    rw [List.getElem?_set] at hj
    simp only [if_true] at hj
    split at hj
    · cases hj
      exact h'.2.2 (i, v) List.mem_cons_self
    · cases hj
  · rw [List.getElem?_set_ne hji] at hj
    refine h'.2.2 (j, w) (List.mem_cons_of_mem _ (List.mem_filter.mpr ⟨lvp_mem.mpr hj, ?_⟩))
    have h1 : ¬ j = i := fun q => hji q.symm
    simp only [Bool.and_eq_true, Bool.not_eq_true', beq_eq_false_iff_ne, ne_eq, h1, not_false_eq_true, true_and, Bool.and_eq_false_iff]
    by_cases h2 : j + 1 = i
    · exact Or.inr (lvOk_spec hk h2 hj)
    · exact Or.inl h2
theorem lvR_st2 {ls : Array Slot} {nL : Nat} {lv lv' : List (Option Value)} {i : Nat} {v : Value} (h : lvR ls nL lv) (hi : i + 1 < nL) (hc : v.category = 2) (hk : lvOk lv i = true) (hl : lv' = (lv.set i (some v)).set (i + 1) none) : ∃ ls', storeLocals ls i v = some ls' ∧ lvR ls' nL lv' := by
  obtain ⟨ls', e, h'⟩ := lv_store2 (v := v) (lvR_has.mp h) hi hc
  refine ⟨ls', e, h'.1, h'.2.1, fun j w hj => ?_⟩
  subst hl
  by_cases hj1 : i + 1 = j
  · subst hj1
    rw [List.getElem?_set] at hj
    simp only [if_true] at hj
    split at hj <;> cases hj
  · rw [List.getElem?_set_ne hj1] at hj
    by_cases hji : i = j
    · subst hji
      rw [List.getElem?_set] at hj
      simp only [if_true] at hj
      split at hj
      · cases hj
        exact h'.2.2 (i, v) List.mem_cons_self
      · cases hj
    · rw [List.getElem?_set_ne hji] at hj
      refine h'.2.2 (j, w) (List.mem_cons_of_mem _ (List.mem_filter.mpr ⟨lvp_mem.mpr hj, ?_⟩))
      have h1 : ¬ j = i := fun q => hji q.symm
      have h3 : ¬ j = i + 1 := fun q => hj1 q.symm
      simp only [Bool.and_eq_true, Bool.not_eq_true', beq_eq_false_iff_ne, ne_eq, h1, h3, not_false_eq_true, true_and, Bool.and_eq_false_iff]
      by_cases h2 : j + 1 = i
      · exact Or.inr (lvOk_spec hk h2 hj)
      · exact Or.inl h2
theorem lvR_drop {ls : Array Slot} {nL : Nat} {lv : List (Option Value)} {i : Nat} (h : lvR ls nL lv) : lvR ls nL (lv.set i none) := by
  refine ⟨h.1, h.2.1, fun j w hj => ?_⟩
  by_cases hji : i = j
  · subst hji
    rw [List.getElem?_set] at hj
    simp only [if_true] at hj
    split at hj <;> cases hj
  · rw [List.getElem?_set_ne hji] at hj
    exact h.2.2 j w hj
/-! ===== V ===== -/
/-- the tables' words that stay -/
def tb : List Cond := lw_tbl.filter goodWord
theorem mem_tb {w : Cond} (h : w ∈ lw_tbl) (g : goodWord w = true) : w ∈ tb := List.mem_filter.mpr ⟨h, g⟩
theorem tb_lw {w : Cond} (h : w ∈ tb) : w ∈ lw_tbl := (List.mem_filter.mp h).1
/-- program, launch, environment, room, start, method, arguments, frames below, the method's own, its code, cells and slots made -/
abbrev VX : Type := Program × Launch × Env × Room × State × MethodId × Array Value × List Frame × Method × Code × Nat × Nat
def V (X : VX) (G : VG) (nL : Nat) (Q : State → Prop) (pc : Nat) (lv : List (Option Value)) (st : List Value) (S : St) : Prop :=
  ∀ (H : Heap) (locs : List Loc) (ls : Array Slot), va_P G.1 vwCl (wld G S) H → va_S (Aw G) X.2.2.2.2.1.heap H locs → lvR ls nL lv →
    W X.1 X.2.1 X.2.2.1 X.2.2.2.1 X.2.2.2.2.1 X.2.2.2.2.2.1 X.2.2.2.2.2.2.1 X.2.2.2.2.2.2.2.1 X.2.2.2.2.2.2.2.2.1 X.2.2.2.2.2.2.2.2.2.1 H locs X.2.2.2.2.2.2.2.2.2.2.1 X.2.2.2.2.2.2.2.2.2.2.2 Q (F0 X.2.2.2.2.2.1 pc ls st)
/-- what a method's walk stands on -/
def Fx (X : VX) (G : VG) (cc : ByteArray) (nL : Nat) (own : String) (lev : Nat) : Prop :=
  X.1.tables.exec = Jvm.exec ∧ X.2.2.2.2.2.2.2.2.2.1.code = cc ∧ X.2.2.2.2.2.2.2.2.2.1.maxLocals = nL ∧ X.2.2.2.2.1.vm.findClass own = some X.2.2.2.2.2.1.cls ∧ (∀ w ∈ tb, w.before X.2.2.2.2.2.2.1 X.2.2.2.2.1 = true) ∧ EX G X.2.2.2.2.1 ∧ (lev + 1 ≤ X.2.2.2.1.frames ∧ 40 * (lev + 1) ≤ X.2.2.2.1.locals ∧ X.2.2.2.2.2.2.2.2.2.2.1 ≤ X.2.2.2.1.cells ∧ X.2.2.2.2.2.2.2.2.2.2.2 ≤ X.2.2.2.1.slots) ∧ X.2.2.2.2.2.2.2.2.1.locks = false
/-- an instruction, its length, the next place -/
def Dn (cc : ByteArray) (pc : Nat) (i : Instr) (len n : Nat) : Prop := decode cc pc = .ok (i, len) ∧ pc + len = n
end
section

theorem lvR_of1 {ls' : Array Slot} {nL : Nat} {lv lv' : List (Option Value)} {i : Nat} {v : Value} (h' : lv_has ls' nL ((i, v) :: (lvp lv).filter (fun q => !(q.1 == i) && !(q.1 + 1 == i && q.2.category == 2)))) (hk : lvOk lv i = true) (hl : lv' = lv.set i (some v)) : lvR ls' nL lv' := by
  refine ⟨h'.1, h'.2.1, fun j w hj => ?_⟩
  subst hl
  by_cases hji : i = j
  · subst hji
    rw [List.getElem?_set] at hj
    simp only [if_true] at hj
    split at hj
    · cases hj
      exact h'.2.2 (i, v) List.mem_cons_self
    · cases hj
  · rw [List.getElem?_set_ne hji] at hj
    refine h'.2.2 (j, w) (List.mem_cons_of_mem _ (List.mem_filter.mpr ⟨lvp_mem.mpr hj, ?_⟩))
    have h1 : ¬ j = i := fun q => hji q.symm
    simp only [Bool.and_eq_true, Bool.not_eq_true', beq_eq_false_iff_ne, ne_eq, h1, not_false_eq_true, true_and, Bool.and_eq_false_iff]
    by_cases h2 : j + 1 = i
    · exact Or.inr (lvOk_spec hk h2 hj)
    · exact Or.inl h2
theorem lvR_of2 {ls' : Array Slot} {nL : Nat} {lv lv' : List (Option Value)} {i : Nat} {v : Value} (h' : lv_has ls' nL ((i, v) :: (lvp lv).filter (fun q => !(q.1 == i) && (!(q.1 == i + 1) && !(q.1 + 1 == i && q.2.category == 2))))) (hk : lvOk lv i = true) (hl : lv' = (lv.set i (some v)).set (i + 1) none) : lvR ls' nL lv' := by
  refine ⟨h'.1, h'.2.1, fun j w hj => ?_⟩
  subst hl
  by_cases hj1 : i + 1 = j
  · subst hj1
    rw [List.getElem?_set] at hj
    simp only [if_true] at hj
    split at hj <;> cases hj
  · rw [List.getElem?_set_ne hj1] at hj
    by_cases hji : i = j
    · subst hji
      rw [List.getElem?_set] at hj
      simp only [if_true] at hj
      split at hj
      · cases hj
        exact h'.2.2 (i, v) List.mem_cons_self
      · cases hj
    · rw [List.getElem?_set_ne hji] at hj
      refine h'.2.2 (j, w) (List.mem_cons_of_mem _ (List.mem_filter.mpr ⟨lvp_mem.mpr hj, ?_⟩))
      have h1 : ¬ j = i := fun q => hji q.symm
      have h3 : ¬ j = i + 1 := fun q => hj1 q.symm
      simp only [Bool.and_eq_true, Bool.not_eq_true', beq_eq_false_iff_ne, ne_eq, h1, h3, not_false_eq_true, true_and, Bool.and_eq_false_iff]
      by_cases h2 : j + 1 = i
      · exact Or.inr (lvOk_spec hk h2 hj)
      · exact Or.inl h2
/-- a class of the world's list, its words among the tables', its types -/
def Cl (ci : Nat) (C : String) (T : u_T) (N : Nat) (ty : Nat → FieldType) : Prop := vwCl[ci]? = some (C, T, N) ∧ (∀ w ∈ u_ws C T N, w ∈ tb) ∧ (∀ k, k < N → parseFieldDescriptor (T k).2.2.1 = some (ty k)) ∧ ∀ a, a < N → ∀ b, b < N → a ≠ b → (T a).2.1 ≠ (T b).2.1
def isB (v : Int32) : Bool := v == 0 || v == 1
theorem isB_or {v : Int32} (h : isB v = true) : v = 0 ∨ v = 1 := by simpa [isB] using h
/-- an index within a row -/
def inB (i : Int32) (n : Nat) : Bool := decide (0 ≤ i) && decide (i.toNatClampNeg < n)
theorem inB_in {i : Int32} {n : Nat} (h : inB i n = true) : vp_in i n := by
  simp only [inB, Bool.and_eq_true, decide_eq_true_eq] at h
  rintro (h1 | h1)
  · exact absurd h.1 (Int32.not_le.mpr h1)
  · omega
theorem sN_row {S : St} {c j : Nat} {v : Int32} : (sN S c j v).1 c = upd (S.1 c) j v := by simp only [sN, up_eq]; rfl
theorem sJ_row {S : St} {c j : Nat} {v : Int64} : (sJ S c j v).2.1 c = vp_updL (S.2.1 c) j v := by simp only [sJ, up_eq]; rfl
theorem mx_w : Cond.static Lib.Math.max.name ∈ tb ∧ Cond.initialized "java/lang/Math" ∈ tb ∧ Cond.code Lib.Math.max.name Lib.Math.max.code 2 (some .int) ∈ tb := ⟨mem_tb (by decide +kernel) rfl, mem_tb (by decide +kernel) rfl, mem_tb (by decide +kernel) rfl⟩
theorem mn_w : Cond.static Lib.Math.min.name ∈ tb ∧ Cond.code Lib.Math.min.name Lib.Math.min.code 2 (some .int) ∈ tb := ⟨mem_tb (by decide +kernel) rfl, mem_tb (by decide +kernel) rfl⟩
theorem cp_w : Cond.native arraycopyName ∈ tb ∧ Cond.static arraycopyName ∈ tb ∧ Cond.initialized "java/lang/System" ∈ tb := ⟨mem_tb (by decide +kernel) rfl, mem_tb (by decide +kernel) rfl, mem_tb (by decide +kernel) rfl⟩
def cpB (sp dp nn : Int32) (n0 n1 : Nat) : Bool := decide (¬ sp < 0) && decide (¬ dp < 0) && decide (¬ nn < 0) && decide (sp.toNatClampNeg + nn.toNatClampNeg ≤ n0) && decide (dp.toNatClampNeg + nn.toNatClampNeg ≤ n1)
theorem cpB_spec {sp dp nn : Int32} {n0 n1 : Nat} (h : cpB sp dp nn n0 n1 = true) : ¬ sp < 0 ∧ ¬ dp < 0 ∧ ¬ nn < 0 ∧ sp.toNatClampNeg + nn.toNatClampNeg ≤ n0 ∧ dp.toNatClampNeg + nn.toNatClampNeg ≤ n1 := by
  simp only [cpB, Bool.and_eq_true, decide_eq_true_eq] at h
  exact ⟨h.1.1.1.1, h.1.1.1.2, h.1.1.2, h.1.2, h.2⟩
theorem v_drop {X : VX} {G : VG} {nL pc : Nat} {Q : State → Prop} {lv lv' : List (Option Value)} {st : List Value} {S : St} (i : Nat) (h : lv' = lv.set i none) (k : V X G nL Q pc lv' st S) : V X G nL Q pc lv st S := by
  subst h
  exact fun H locs ls hP hS hl => k H locs ls hP hS (lvR_drop hl)
theorem v_iconst {X : VX} {G : VG} {cc : ByteArray} {nL lev pc n : Nat} {own : String} {Q : State → Prop} {lv : List (Option Value)} {st : List Value} {S : St} (hX : Fx X G cc nL own lev) {z : Int} {v : Int32} (hd : Dn cc pc (.iconst z) 1 n) (hv : Int32.ofInt z = v) (k : V X G nL Q n lv (.int v :: st) S) : V X G nL Q pc lv (st) S := by
  obtain ⟨hd, rfl⟩ := hd
  obtain ⟨hx, hb, hml, hown, hts, hE, hR, hlk⟩ := hX
  intro H locs ls hP hS hl
  exact lv_iconst hx hb hd hv (k H locs ls hP hS hl)

theorem v_bipush {X : VX} {G : VG} {cc : ByteArray} {nL lev pc n : Nat} {own : String} {Q : State → Prop} {lv : List (Option Value)} {st : List Value} {S : St} (hX : Fx X G cc nL own lev) {z : Int} {v : Int32} (hd : Dn cc pc (.bipush z) 2 n) (hv : (Int8.ofInt z).toInt32 = v) (k : V X G nL Q n lv (.int v :: st) S) : V X G nL Q pc lv (st) S := by
  obtain ⟨hd, rfl⟩ := hd
  obtain ⟨hx, hb, hml, hown, hts, hE, hR, hlk⟩ := hX
  intro H locs ls hP hS hl
  exact lv_bipush hx hb hd hv (k H locs ls hP hS hl)

theorem v_sipush {X : VX} {G : VG} {cc : ByteArray} {nL lev pc n : Nat} {own : String} {Q : State → Prop} {lv : List (Option Value)} {st : List Value} {S : St} (hX : Fx X G cc nL own lev) {z : Int} {v : Int32} (hd : Dn cc pc (.sipush z) 3 n) (hv : (Int16.ofInt z).toInt32 = v) (k : V X G nL Q n lv (.int v :: st) S) : V X G nL Q pc lv (st) S := by
  obtain ⟨hd, rfl⟩ := hd
  obtain ⟨hx, hb, hml, hown, hts, hE, hR, hlk⟩ := hX
  intro H locs ls hP hS hl
  exact lv_sipush hx hb hd hv (k H locs ls hP hS hl)

theorem v_lconst {X : VX} {G : VG} {cc : ByteArray} {nL lev pc n : Nat} {own : String} {Q : State → Prop} {lv : List (Option Value)} {st : List Value} {S : St} (hX : Fx X G cc nL own lev) {z : Fin 2} {v : Int64} (hd : Dn cc pc (.lconst z) 1 n) (hv : Int64.ofNat (z : Nat) = v) (k : V X G nL Q n lv (.long v :: st) S) : V X G nL Q pc lv (st) S := by
  obtain ⟨hd, rfl⟩ := hd
  obtain ⟨hx, hb, hml, hown, hts, hE, hR, hlk⟩ := hX
  intro H locs ls hP hS hl
  exact lv_lconst hx hb hd hv (k H locs ls hP hS hl)

theorem v_ldc {X : VX} {G : VG} {cc : ByteArray} {nL lev pc n : Nat} {own : String} {Q : State → Prop} {lv : List (Option Value)} {st : List Value} {S : St} (hX : Fx X G cc nL own lev) {i : Nat} {v : Int32} (hd : Dn cc pc (.ldc i) 2 n) (hc : Cond.constant own i v ∈ tb) (k : V X G nL Q n lv (.int v :: st) S) : V X G nL Q pc lv (st) S := by
  obtain ⟨hd, rfl⟩ := hd
  obtain ⟨hx, hb, hml, hown, hts, hE, hR, hlk⟩ := hX
  intro H locs ls hP hS hl
  exact lv_ldc hx hb hown (hts _ hc) hd (k H locs ls hP hS hl)

theorem v_ldcw {X : VX} {G : VG} {cc : ByteArray} {nL lev pc n : Nat} {own : String} {Q : State → Prop} {lv : List (Option Value)} {st : List Value} {S : St} (hX : Fx X G cc nL own lev) {i : Nat} {v : Int32} (hd : Dn cc pc (.ldc_w i) 3 n) (hc : Cond.constant own i v ∈ tb) (k : V X G nL Q n lv (.int v :: st) S) : V X G nL Q pc lv (st) S := by
  obtain ⟨hd, rfl⟩ := hd
  obtain ⟨hx, hb, hml, hown, hts, hE, hR, hlk⟩ := hX
  intro H locs ls hP hS hl
  exact lv_ldcw hx hb hown (hts _ hc) hd (k H locs ls hP hS hl)

theorem v_ldc2 {X : VX} {G : VG} {cc : ByteArray} {nL lev pc n : Nat} {own : String} {Q : State → Prop} {lv : List (Option Value)} {st : List Value} {S : St} (hX : Fx X G cc nL own lev) {i : Nat} {v : Int64} (hd : Dn cc pc (.ldc2_w i) 3 n) (hc : Cond.constantLong own i v ∈ tb) (k : V X G nL Q n lv (.long v :: st) S) : V X G nL Q pc lv (st) S := by
  obtain ⟨hd, rfl⟩ := hd
  obtain ⟨hx, hb, hml, hown, hts, hE, hR, hlk⟩ := hX
  intro H locs ls hP hS hl
  exact lv_ldc2 hx hb hown (hts _ hc) hd (k H locs ls hP hS hl)

theorem v_iload {X : VX} {G : VG} {cc : ByteArray} {nL lev pc n : Nat} {own : String} {Q : State → Prop} {lv : List (Option Value)} {st : List Value} {S : St} (hX : Fx X G cc nL own lev) {i : Nat} {x : Int32} (hd : Dn cc pc (.iload i) 2 n) (hv : lv[i]? = some (some (.int x))) (k : V X G nL Q n lv (.int x :: st) S) : V X G nL Q pc lv (st) S := by
  obtain ⟨hd, rfl⟩ := hd
  obtain ⟨hx, hb, hml, hown, hts, hE, hR, hlk⟩ := hX
  intro H locs ls hP hS hl
  exact lv_iload hx hb hd (hl.2.2 _ _ hv) (k H locs ls hP hS hl)

theorem v_iload_n {X : VX} {G : VG} {cc : ByteArray} {nL lev pc n : Nat} {own : String} {Q : State → Prop} {lv : List (Option Value)} {st : List Value} {S : St} (hX : Fx X G cc nL own lev) {i : Fin 4} {x : Int32} (hd : Dn cc pc (.iload_n i) 1 n) (hv : lv[(i : Nat)]? = some (some (.int x))) (k : V X G nL Q n lv (.int x :: st) S) : V X G nL Q pc lv (st) S := by
  obtain ⟨hd, rfl⟩ := hd
  obtain ⟨hx, hb, hml, hown, hts, hE, hR, hlk⟩ := hX
  intro H locs ls hP hS hl
  exact lv_iload_n hx hb hd rfl (hl.2.2 _ _ hv) (k H locs ls hP hS hl)

theorem v_lload {X : VX} {G : VG} {cc : ByteArray} {nL lev pc n : Nat} {own : String} {Q : State → Prop} {lv : List (Option Value)} {st : List Value} {S : St} (hX : Fx X G cc nL own lev) {i : Nat} {x : Int64} (hd : Dn cc pc (.lload i) 2 n) (hv : lv[i]? = some (some (.long x))) (k : V X G nL Q n lv (.long x :: st) S) : V X G nL Q pc lv (st) S := by
  obtain ⟨hd, rfl⟩ := hd
  obtain ⟨hx, hb, hml, hown, hts, hE, hR, hlk⟩ := hX
  intro H locs ls hP hS hl
  exact lv_lload hx hb hd (hl.2.2 _ _ hv) (k H locs ls hP hS hl)

theorem v_lload_n {X : VX} {G : VG} {cc : ByteArray} {nL lev pc n : Nat} {own : String} {Q : State → Prop} {lv : List (Option Value)} {st : List Value} {S : St} (hX : Fx X G cc nL own lev) {i : Fin 4} {x : Int64} (hd : Dn cc pc (.lload_n i) 1 n) (hv : lv[(i : Nat)]? = some (some (.long x))) (k : V X G nL Q n lv (.long x :: st) S) : V X G nL Q pc lv (st) S := by
  obtain ⟨hd, rfl⟩ := hd
  obtain ⟨hx, hb, hml, hown, hts, hE, hR, hlk⟩ := hX
  intro H locs ls hP hS hl
  exact lv_lload_n hx hb hd rfl (hl.2.2 _ _ hv) (k H locs ls hP hS hl)

theorem v_aload {X : VX} {G : VG} {cc : ByteArray} {nL lev pc n : Nat} {own : String} {Q : State → Prop} {lv : List (Option Value)} {st : List Value} {S : St} (hX : Fx X G cc nL own lev) {i : Nat} {x : Nat} (hd : Dn cc pc (.aload i) 2 n) (hv : lv[i]? = some (some (.ref x))) (k : V X G nL Q n lv (.ref x :: st) S) : V X G nL Q pc lv (st) S := by
  obtain ⟨hd, rfl⟩ := hd
  obtain ⟨hx, hb, hml, hown, hts, hE, hR, hlk⟩ := hX
  intro H locs ls hP hS hl
  exact lv_aload hx hb hd (hl.2.2 _ _ hv) (k H locs ls hP hS hl)

theorem v_aload_n {X : VX} {G : VG} {cc : ByteArray} {nL lev pc n : Nat} {own : String} {Q : State → Prop} {lv : List (Option Value)} {st : List Value} {S : St} (hX : Fx X G cc nL own lev) {i : Fin 4} {x : Nat} (hd : Dn cc pc (.aload_n i) 1 n) (hv : lv[(i : Nat)]? = some (some (.ref x))) (k : V X G nL Q n lv (.ref x :: st) S) : V X G nL Q pc lv (st) S := by
  obtain ⟨hd, rfl⟩ := hd
  obtain ⟨hx, hb, hml, hown, hts, hE, hR, hlk⟩ := hX
  intro H locs ls hP hS hl
  exact lv_aload_n hx hb hd rfl (hl.2.2 _ _ hv) (k H locs ls hP hS hl)

theorem v_istore {X : VX} {G : VG} {cc : ByteArray} {nL lev pc n : Nat} {own : String} {Q : State → Prop} {lv : List (Option Value)} {st : List Value} {S : St} (hX : Fx X G cc nL own lev) {i : Nat} {x : Int32} {lv' : List (Option Value)} (hd : Dn cc pc (.istore i) 2 n) (hi : i < nL) (ho : lvOk lv i = true) (hv : lv' = lv.set i (some (.int x))) (k : V X G nL Q n lv' st S) : V X G nL Q pc lv (.int x :: st) S := by
  obtain ⟨hd, rfl⟩ := hd
  obtain ⟨hx, hb, hml, hown, hts, hE, hR, hlk⟩ := hX
  intro H locs ls hP hS hl
  exact lv_istore hx hb hd (lvR_has.mp hl) hi rfl (fun ls' hl' => k H locs ls' hP hS (lvR_of1 hl' ho hv))

theorem v_istore_n {X : VX} {G : VG} {cc : ByteArray} {nL lev pc n : Nat} {own : String} {Q : State → Prop} {lv : List (Option Value)} {st : List Value} {S : St} (hX : Fx X G cc nL own lev) {i : Fin 4} {x : Int32} {lv' : List (Option Value)} (hd : Dn cc pc (.istore_n i) 1 n) (hi : (i : Nat) < nL) (ho : lvOk lv (i : Nat) = true) (hv : lv' = lv.set (i : Nat) (some (.int x))) (k : V X G nL Q n lv' st S) : V X G nL Q pc lv (.int x :: st) S := by
  obtain ⟨hd, rfl⟩ := hd
  obtain ⟨hx, hb, hml, hown, hts, hE, hR, hlk⟩ := hX
  intro H locs ls hP hS hl
  exact lv_istore_n hx hb hd rfl (lvR_has.mp hl) hi rfl (fun ls' hl' => k H locs ls' hP hS (lvR_of1 hl' ho hv))

theorem v_lstore {X : VX} {G : VG} {cc : ByteArray} {nL lev pc n : Nat} {own : String} {Q : State → Prop} {lv : List (Option Value)} {st : List Value} {S : St} (hX : Fx X G cc nL own lev) {i : Nat} {x : Int64} {lv' : List (Option Value)} (hd : Dn cc pc (.lstore i) 2 n) (hi : i + 1 < nL) (ho : lvOk lv i = true) (hv : lv' = (lv.set i (some (.long x))).set (i + 1) none) (k : V X G nL Q n lv' st S) : V X G nL Q pc lv (.long x :: st) S := by
  obtain ⟨hd, rfl⟩ := hd
  obtain ⟨hx, hb, hml, hown, hts, hE, hR, hlk⟩ := hX
  intro H locs ls hP hS hl
  exact lv_lstore hx hb hd (lvR_has.mp hl) hi rfl (fun ls' hl' => k H locs ls' hP hS (lvR_of2 hl' ho hv))

theorem v_lstore_n {X : VX} {G : VG} {cc : ByteArray} {nL lev pc n : Nat} {own : String} {Q : State → Prop} {lv : List (Option Value)} {st : List Value} {S : St} (hX : Fx X G cc nL own lev) {i : Fin 4} {x : Int64} {lv' : List (Option Value)} (hd : Dn cc pc (.lstore_n i) 1 n) (hi : (i : Nat) + 1 < nL) (ho : lvOk lv (i : Nat) = true) (hv : lv' = (lv.set (i : Nat) (some (.long x))).set ((i : Nat) + 1) none) (k : V X G nL Q n lv' st S) : V X G nL Q pc lv (.long x :: st) S := by
  obtain ⟨hd, rfl⟩ := hd
  obtain ⟨hx, hb, hml, hown, hts, hE, hR, hlk⟩ := hX
  intro H locs ls hP hS hl
  exact lv_lstore_n hx hb hd rfl (lvR_has.mp hl) hi rfl (fun ls' hl' => k H locs ls' hP hS (lvR_of2 hl' ho hv))

theorem v_astore {X : VX} {G : VG} {cc : ByteArray} {nL lev pc n : Nat} {own : String} {Q : State → Prop} {lv : List (Option Value)} {st : List Value} {S : St} (hX : Fx X G cc nL own lev) {i : Nat} {x : Nat} {lv' : List (Option Value)} (hd : Dn cc pc (.astore i) 2 n) (hi : i < nL) (ho : lvOk lv i = true) (hv : lv' = lv.set i (some (.ref x))) (k : V X G nL Q n lv' st S) : V X G nL Q pc lv (.ref x :: st) S := by
  obtain ⟨hd, rfl⟩ := hd
  obtain ⟨hx, hb, hml, hown, hts, hE, hR, hlk⟩ := hX
  intro H locs ls hP hS hl
  exact lv_astore hx hb hd (lvR_has.mp hl) hi rfl (fun ls' hl' => k H locs ls' hP hS (lvR_of1 hl' ho hv))

theorem v_astore_n {X : VX} {G : VG} {cc : ByteArray} {nL lev pc n : Nat} {own : String} {Q : State → Prop} {lv : List (Option Value)} {st : List Value} {S : St} (hX : Fx X G cc nL own lev) {i : Fin 4} {x : Nat} {lv' : List (Option Value)} (hd : Dn cc pc (.astore_n i) 1 n) (hi : (i : Nat) < nL) (ho : lvOk lv (i : Nat) = true) (hv : lv' = lv.set (i : Nat) (some (.ref x))) (k : V X G nL Q n lv' st S) : V X G nL Q pc lv (.ref x :: st) S := by
  obtain ⟨hd, rfl⟩ := hd
  obtain ⟨hx, hb, hml, hown, hts, hE, hR, hlk⟩ := hX
  intro H locs ls hP hS hl
  exact lv_astore_n hx hb hd rfl (lvR_has.mp hl) hi rfl (fun ls' hl' => k H locs ls' hP hS (lvR_of1 hl' ho hv))

theorem v_iinc {X : VX} {G : VG} {cc : ByteArray} {nL lev pc n : Nat} {own : String} {Q : State → Prop} {lv : List (Option Value)} {st : List Value} {S : St} (hX : Fx X G cc nL own lev) {i : Nat} {z : Int} {x y : Int32} {lv' : List (Option Value)} (hd : Dn cc pc (.iinc i z) 3 n) (hx0 : lv[i]? = some (some (.int x))) (hy : x + Int32.ofInt z = y) (hi : i < nL) (ho : lvOk lv i = true) (hv : lv' = lv.set i (some (.int y))) (k : V X G nL Q n lv' st S) : V X G nL Q pc lv st S := by
  obtain ⟨hd, rfl⟩ := hd
  obtain ⟨hx, hb, hml, hown, hts, hE, hR, hlk⟩ := hX
  intro H locs ls hP hS hl
  obtain ⟨kk, hkk⟩ := List.getElem?_of_mem (lvp_mem.mpr hx0)
  exact lv_iinc hx hb hd (lvR_has.mp hl) hkk hy hi rfl (fun ls' hl' => k H locs ls' hP hS (lvR_of1 hl' ho hv))

theorem v_iadd {X : VX} {G : VG} {cc : ByteArray} {nL lev pc n : Nat} {own : String} {Q : State → Prop} {lv : List (Option Value)} {st : List Value} {S : St} (hX : Fx X G cc nL own lev) {x y : Int32} (hd : Dn cc pc (.iadd) 1 n)  (k : V X G nL Q n lv (.int (x + y) :: st) S) : V X G nL Q pc lv (.int y :: .int x :: st) S := by
  obtain ⟨hd, rfl⟩ := hd
  obtain ⟨hx, hb, hml, hown, hts, hE, hR, hlk⟩ := hX
  intro H locs ls hP hS hl
  exact lv_iadd hx hb hd (k H locs ls hP hS hl)

theorem v_isub {X : VX} {G : VG} {cc : ByteArray} {nL lev pc n : Nat} {own : String} {Q : State → Prop} {lv : List (Option Value)} {st : List Value} {S : St} (hX : Fx X G cc nL own lev) {x y : Int32} (hd : Dn cc pc (.isub) 1 n)  (k : V X G nL Q n lv (.int (x - y) :: st) S) : V X G nL Q pc lv (.int y :: .int x :: st) S := by
  obtain ⟨hd, rfl⟩ := hd
  obtain ⟨hx, hb, hml, hown, hts, hE, hR, hlk⟩ := hX
  intro H locs ls hP hS hl
  exact lv_isub hx hb hd (k H locs ls hP hS hl)

theorem v_imul {X : VX} {G : VG} {cc : ByteArray} {nL lev pc n : Nat} {own : String} {Q : State → Prop} {lv : List (Option Value)} {st : List Value} {S : St} (hX : Fx X G cc nL own lev) {x y : Int32} (hd : Dn cc pc (.imul) 1 n)  (k : V X G nL Q n lv (.int (x * y) :: st) S) : V X G nL Q pc lv (.int y :: .int x :: st) S := by
  obtain ⟨hd, rfl⟩ := hd
  obtain ⟨hx, hb, hml, hown, hts, hE, hR, hlk⟩ := hX
  intro H locs ls hP hS hl
  exact lv_imul hx hb hd (k H locs ls hP hS hl)

theorem v_iand {X : VX} {G : VG} {cc : ByteArray} {nL lev pc n : Nat} {own : String} {Q : State → Prop} {lv : List (Option Value)} {st : List Value} {S : St} (hX : Fx X G cc nL own lev) {x y : Int32} (hd : Dn cc pc (.iand) 1 n)  (k : V X G nL Q n lv (.int (x &&& y) :: st) S) : V X G nL Q pc lv (.int y :: .int x :: st) S := by
  obtain ⟨hd, rfl⟩ := hd
  obtain ⟨hx, hb, hml, hown, hts, hE, hR, hlk⟩ := hX
  intro H locs ls hP hS hl
  exact lv_iand hx hb hd (k H locs ls hP hS hl)

theorem v_ior {X : VX} {G : VG} {cc : ByteArray} {nL lev pc n : Nat} {own : String} {Q : State → Prop} {lv : List (Option Value)} {st : List Value} {S : St} (hX : Fx X G cc nL own lev) {x y : Int32} (hd : Dn cc pc (.ior) 1 n)  (k : V X G nL Q n lv (.int (x ||| y) :: st) S) : V X G nL Q pc lv (.int y :: .int x :: st) S := by
  obtain ⟨hd, rfl⟩ := hd
  obtain ⟨hx, hb, hml, hown, hts, hE, hR, hlk⟩ := hX
  intro H locs ls hP hS hl
  exact lv_ior hx hb hd (k H locs ls hP hS hl)

theorem v_ixor {X : VX} {G : VG} {cc : ByteArray} {nL lev pc n : Nat} {own : String} {Q : State → Prop} {lv : List (Option Value)} {st : List Value} {S : St} (hX : Fx X G cc nL own lev) {x y : Int32} (hd : Dn cc pc (.ixor) 1 n)  (k : V X G nL Q n lv (.int (x ^^^ y) :: st) S) : V X G nL Q pc lv (.int y :: .int x :: st) S := by
  obtain ⟨hd, rfl⟩ := hd
  obtain ⟨hx, hb, hml, hown, hts, hE, hR, hlk⟩ := hX
  intro H locs ls hP hS hl
  exact lv_ixor hx hb hd (k H locs ls hP hS hl)

theorem v_ishl {X : VX} {G : VG} {cc : ByteArray} {nL lev pc n : Nat} {own : String} {Q : State → Prop} {lv : List (Option Value)} {st : List Value} {S : St} (hX : Fx X G cc nL own lev) {x y : Int32} (hd : Dn cc pc (.ishl) 1 n)  (k : V X G nL Q n lv (.int (x <<< (y &&& 31)) :: st) S) : V X G nL Q pc lv (.int y :: .int x :: st) S := by
  obtain ⟨hd, rfl⟩ := hd
  obtain ⟨hx, hb, hml, hown, hts, hE, hR, hlk⟩ := hX
  intro H locs ls hP hS hl
  exact lv_ishl hx hb hd (k H locs ls hP hS hl)

theorem v_ishr {X : VX} {G : VG} {cc : ByteArray} {nL lev pc n : Nat} {own : String} {Q : State → Prop} {lv : List (Option Value)} {st : List Value} {S : St} (hX : Fx X G cc nL own lev) {x y : Int32} (hd : Dn cc pc (.ishr) 1 n)  (k : V X G nL Q n lv (.int (x >>> (y &&& 31)) :: st) S) : V X G nL Q pc lv (.int y :: .int x :: st) S := by
  obtain ⟨hd, rfl⟩ := hd
  obtain ⟨hx, hb, hml, hown, hts, hE, hR, hlk⟩ := hX
  intro H locs ls hP hS hl
  exact lv_ishr hx hb hd (k H locs ls hP hS hl)

theorem v_idiv {X : VX} {G : VG} {cc : ByteArray} {nL lev pc n : Nat} {own : String} {Q : State → Prop} {lv : List (Option Value)} {st : List Value} {S : St} (hX : Fx X G cc nL own lev) {x y : Int32} (hd : Dn cc pc (.idiv) 1 n) (hne : ¬ y = 0) (k : V X G nL Q n lv (.int (x / y) :: st) S) : V X G nL Q pc lv (.int y :: .int x :: st) S := by
  obtain ⟨hd, rfl⟩ := hd
  obtain ⟨hx, hb, hml, hown, hts, hE, hR, hlk⟩ := hX
  intro H locs ls hP hS hl
  exact lv_idiv hx hb hd hne (k H locs ls hP hS hl)

theorem v_irem {X : VX} {G : VG} {cc : ByteArray} {nL lev pc n : Nat} {own : String} {Q : State → Prop} {lv : List (Option Value)} {st : List Value} {S : St} (hX : Fx X G cc nL own lev) {x y : Int32} (hd : Dn cc pc (.irem) 1 n) (hne : ¬ y = 0) (k : V X G nL Q n lv (.int (x - x / y * y) :: st) S) : V X G nL Q pc lv (.int y :: .int x :: st) S := by
  obtain ⟨hd, rfl⟩ := hd
  obtain ⟨hx, hb, hml, hown, hts, hE, hR, hlk⟩ := hX
  intro H locs ls hP hS hl
  exact lv_irem hx hb hd hne (k H locs ls hP hS hl)

theorem v_ladd {X : VX} {G : VG} {cc : ByteArray} {nL lev pc n : Nat} {own : String} {Q : State → Prop} {lv : List (Option Value)} {st : List Value} {S : St} (hX : Fx X G cc nL own lev) {x y : Int64} (hd : Dn cc pc (.ladd) 1 n)  (k : V X G nL Q n lv (.long (x + y) :: st) S) : V X G nL Q pc lv (.long y :: .long x :: st) S := by
  obtain ⟨hd, rfl⟩ := hd
  obtain ⟨hx, hb, hml, hown, hts, hE, hR, hlk⟩ := hX
  intro H locs ls hP hS hl
  exact lv_ladd hx hb hd (k H locs ls hP hS hl)

theorem v_lsub {X : VX} {G : VG} {cc : ByteArray} {nL lev pc n : Nat} {own : String} {Q : State → Prop} {lv : List (Option Value)} {st : List Value} {S : St} (hX : Fx X G cc nL own lev) {x y : Int64} (hd : Dn cc pc (.lsub) 1 n)  (k : V X G nL Q n lv (.long (x - y) :: st) S) : V X G nL Q pc lv (.long y :: .long x :: st) S := by
  obtain ⟨hd, rfl⟩ := hd
  obtain ⟨hx, hb, hml, hown, hts, hE, hR, hlk⟩ := hX
  intro H locs ls hP hS hl
  exact lv_lsub hx hb hd (k H locs ls hP hS hl)

theorem v_lmul {X : VX} {G : VG} {cc : ByteArray} {nL lev pc n : Nat} {own : String} {Q : State → Prop} {lv : List (Option Value)} {st : List Value} {S : St} (hX : Fx X G cc nL own lev) {x y : Int64} (hd : Dn cc pc (.lmul) 1 n)  (k : V X G nL Q n lv (.long (x * y) :: st) S) : V X G nL Q pc lv (.long y :: .long x :: st) S := by
  obtain ⟨hd, rfl⟩ := hd
  obtain ⟨hx, hb, hml, hown, hts, hE, hR, hlk⟩ := hX
  intro H locs ls hP hS hl
  exact lv_lmul hx hb hd (k H locs ls hP hS hl)

theorem v_land {X : VX} {G : VG} {cc : ByteArray} {nL lev pc n : Nat} {own : String} {Q : State → Prop} {lv : List (Option Value)} {st : List Value} {S : St} (hX : Fx X G cc nL own lev) {x y : Int64} (hd : Dn cc pc (.land) 1 n)  (k : V X G nL Q n lv (.long (x &&& y) :: st) S) : V X G nL Q pc lv (.long y :: .long x :: st) S := by
  obtain ⟨hd, rfl⟩ := hd
  obtain ⟨hx, hb, hml, hown, hts, hE, hR, hlk⟩ := hX
  intro H locs ls hP hS hl
  exact lv_land hx hb hd (k H locs ls hP hS hl)

theorem v_lor {X : VX} {G : VG} {cc : ByteArray} {nL lev pc n : Nat} {own : String} {Q : State → Prop} {lv : List (Option Value)} {st : List Value} {S : St} (hX : Fx X G cc nL own lev) {x y : Int64} (hd : Dn cc pc (.lor) 1 n)  (k : V X G nL Q n lv (.long (x ||| y) :: st) S) : V X G nL Q pc lv (.long y :: .long x :: st) S := by
  obtain ⟨hd, rfl⟩ := hd
  obtain ⟨hx, hb, hml, hown, hts, hE, hR, hlk⟩ := hX
  intro H locs ls hP hS hl
  exact lv_lor hx hb hd (k H locs ls hP hS hl)

theorem v_ldiv {X : VX} {G : VG} {cc : ByteArray} {nL lev pc n : Nat} {own : String} {Q : State → Prop} {lv : List (Option Value)} {st : List Value} {S : St} (hX : Fx X G cc nL own lev) {x y : Int64} (hd : Dn cc pc (.ldiv) 1 n) (hne : ¬ y = 0) (k : V X G nL Q n lv (.long (x / y) :: st) S) : V X G nL Q pc lv (.long y :: .long x :: st) S := by
  obtain ⟨hd, rfl⟩ := hd
  obtain ⟨hx, hb, hml, hown, hts, hE, hR, hlk⟩ := hX
  intro H locs ls hP hS hl
  exact lv_ldiv hx hb hd hne (k H locs ls hP hS hl)

theorem v_lrem {X : VX} {G : VG} {cc : ByteArray} {nL lev pc n : Nat} {own : String} {Q : State → Prop} {lv : List (Option Value)} {st : List Value} {S : St} (hX : Fx X G cc nL own lev) {x y : Int64} (hd : Dn cc pc (.lrem) 1 n) (hne : ¬ y = 0) (k : V X G nL Q n lv (.long (x - x / y * y) :: st) S) : V X G nL Q pc lv (.long y :: .long x :: st) S := by
  obtain ⟨hd, rfl⟩ := hd
  obtain ⟨hx, hb, hml, hown, hts, hE, hR, hlk⟩ := hX
  intro H locs ls hP hS hl
  exact lv_lrem hx hb hd hne (k H locs ls hP hS hl)

theorem v_lshl {X : VX} {G : VG} {cc : ByteArray} {nL lev pc n : Nat} {own : String} {Q : State → Prop} {lv : List (Option Value)} {st : List Value} {S : St} (hX : Fx X G cc nL own lev) {x : Int64} {y : Int32} (hd : Dn cc pc (.lshl) 1 n)  (k : V X G nL Q n lv (.long (x <<< (y.toInt64 &&& 63)) :: st) S) : V X G nL Q pc lv (.int y :: .long x :: st) S := by
  obtain ⟨hd, rfl⟩ := hd
  obtain ⟨hx, hb, hml, hown, hts, hE, hR, hlk⟩ := hX
  intro H locs ls hP hS hl
  exact lv_lshl hx hb hd rfl (k H locs ls hP hS hl)

theorem v_lshr {X : VX} {G : VG} {cc : ByteArray} {nL lev pc n : Nat} {own : String} {Q : State → Prop} {lv : List (Option Value)} {st : List Value} {S : St} (hX : Fx X G cc nL own lev) {x : Int64} {y : Int32} (hd : Dn cc pc (.lshr) 1 n)  (k : V X G nL Q n lv (.long (x >>> (y.toInt64 &&& 63)) :: st) S) : V X G nL Q pc lv (.int y :: .long x :: st) S := by
  obtain ⟨hd, rfl⟩ := hd
  obtain ⟨hx, hb, hml, hown, hts, hE, hR, hlk⟩ := hX
  intro H locs ls hP hS hl
  exact lv_lshr hx hb hd rfl (k H locs ls hP hS hl)

theorem v_lushr {X : VX} {G : VG} {cc : ByteArray} {nL lev pc n : Nat} {own : String} {Q : State → Prop} {lv : List (Option Value)} {st : List Value} {S : St} (hX : Fx X G cc nL own lev) {x : Int64} {y : Int32} (hd : Dn cc pc (.lushr) 1 n)  (k : V X G nL Q n lv (.long ((x.toUInt64 >>> (y.toInt64.toUInt64 &&& Int64.toUInt64 63)).toInt64) :: st) S) : V X G nL Q pc lv (.int y :: .long x :: st) S := by
  obtain ⟨hd, rfl⟩ := hd
  obtain ⟨hx, hb, hml, hown, hts, hE, hR, hlk⟩ := hX
  intro H locs ls hP hS hl
  exact lv_lushr hx hb hd rfl (k H locs ls hP hS hl)

theorem v_i2l {X : VX} {G : VG} {cc : ByteArray} {nL lev pc n : Nat} {own : String} {Q : State → Prop} {lv : List (Option Value)} {st : List Value} {S : St} (hX : Fx X G cc nL own lev) {x : Int32} (hd : Dn cc pc (.i2l) 1 n)  (k : V X G nL Q n lv (.long x.toInt64 :: st) S) : V X G nL Q pc lv (.int x :: st) S := by
  obtain ⟨hd, rfl⟩ := hd
  obtain ⟨hx, hb, hml, hown, hts, hE, hR, hlk⟩ := hX
  intro H locs ls hP hS hl
  exact lv_i2l hx hb hd rfl (k H locs ls hP hS hl)

theorem v_l2i {X : VX} {G : VG} {cc : ByteArray} {nL lev pc n : Nat} {own : String} {Q : State → Prop} {lv : List (Option Value)} {st : List Value} {S : St} (hX : Fx X G cc nL own lev) {x : Int64} (hd : Dn cc pc (.l2i) 1 n)  (k : V X G nL Q n lv (.int x.toInt32 :: st) S) : V X G nL Q pc lv (.long x :: st) S := by
  obtain ⟨hd, rfl⟩ := hd
  obtain ⟨hx, hb, hml, hown, hts, hE, hR, hlk⟩ := hX
  intro H locs ls hP hS hl
  exact lv_l2i hx hb hd rfl (k H locs ls hP hS hl)

theorem v_i2b {X : VX} {G : VG} {cc : ByteArray} {nL lev pc n : Nat} {own : String} {Q : State → Prop} {lv : List (Option Value)} {st : List Value} {S : St} (hX : Fx X G cc nL own lev) {x : Int32} (hd : Dn cc pc (.i2b) 1 n)  (k : V X G nL Q n lv (.int x.toInt8.toInt32 :: st) S) : V X G nL Q pc lv (.int x :: st) S := by
  obtain ⟨hd, rfl⟩ := hd
  obtain ⟨hx, hb, hml, hown, hts, hE, hR, hlk⟩ := hX
  intro H locs ls hP hS hl
  exact lv_i2b hx hb hd rfl (k H locs ls hP hS hl)

theorem v_i2c {X : VX} {G : VG} {cc : ByteArray} {nL lev pc n : Nat} {own : String} {Q : State → Prop} {lv : List (Option Value)} {st : List Value} {S : St} (hX : Fx X G cc nL own lev) {x : Int32} (hd : Dn cc pc (.i2c) 1 n)  (k : V X G nL Q n lv (.int (x.toUInt32 % 65536).toInt32 :: st) S) : V X G nL Q pc lv (.int x :: st) S := by
  obtain ⟨hd, rfl⟩ := hd
  obtain ⟨hx, hb, hml, hown, hts, hE, hR, hlk⟩ := hX
  intro H locs ls hP hS hl
  exact lv_i2c hx hb hd rfl (k H locs ls hP hS hl)

theorem v_lcmp {X : VX} {G : VG} {cc : ByteArray} {nL lev pc n : Nat} {own : String} {Q : State → Prop} {lv : List (Option Value)} {st : List Value} {S : St} (hX : Fx X G cc nL own lev) {x y : Int64} (hd : Dn cc pc (.lcmp) 1 n)  (k : V X G nL Q n lv (.int (lg_cmp x y) :: st) S) : V X G nL Q pc lv (.long y :: .long x :: st) S := by
  obtain ⟨hd, rfl⟩ := hd
  obtain ⟨hx, hb, hml, hown, hts, hE, hR, hlk⟩ := hX
  intro H locs ls hP hS hl
  exact W.lcmp hx hb hd (k H locs ls hP hS hl)

theorem v_dup {X : VX} {G : VG} {cc : ByteArray} {nL lev pc n : Nat} {own : String} {Q : State → Prop} {lv : List (Option Value)} {st : List Value} {S : St} (hX : Fx X G cc nL own lev) {x : Value} (hd : Dn cc pc (.dup) 1 n) (hc : x.category = 1) (k : V X G nL Q n lv (x :: x :: st) S) : V X G nL Q pc lv (x :: st) S := by
  obtain ⟨hd, rfl⟩ := hd
  obtain ⟨hx, hb, hml, hown, hts, hE, hR, hlk⟩ := hX
  intro H locs ls hP hS hl
  exact lv_dup hx hb hd hc (k H locs ls hP hS hl)

theorem v_pop {X : VX} {G : VG} {cc : ByteArray} {nL lev pc n : Nat} {own : String} {Q : State → Prop} {lv : List (Option Value)} {st : List Value} {S : St} (hX : Fx X G cc nL own lev) {x : Value} (hd : Dn cc pc (.pop) 1 n) (hc : x.category = 1) (k : V X G nL Q n lv (st) S) : V X G nL Q pc lv (x :: st) S := by
  obtain ⟨hd, rfl⟩ := hd
  obtain ⟨hx, hb, hml, hown, hts, hE, hR, hlk⟩ := hX
  intro H locs ls hP hS hl
  exact lv_pop hx hb hd hc (k H locs ls hP hS hl)

theorem v_dup2 {X : VX} {G : VG} {cc : ByteArray} {nL lev pc n : Nat} {own : String} {Q : State → Prop} {lv : List (Option Value)} {st : List Value} {S : St} (hX : Fx X G cc nL own lev) {x y : Value} (hd : Dn cc pc (.dup2) 1 n) (hc : x.category = 1) (hc2 : y.category = 1) (k : V X G nL Q n lv (x :: y :: x :: y :: st) S) : V X G nL Q pc lv (x :: y :: st) S := by
  obtain ⟨hd, rfl⟩ := hd
  obtain ⟨hx, hb, hml, hown, hts, hE, hR, hlk⟩ := hX
  intro H locs ls hP hS hl
  exact lv_dup2_11 hx hb hd hc hc2 (k H locs ls hP hS hl)

theorem v_null {X : VX} {G : VG} {cc : ByteArray} {nL lev pc n : Nat} {own : String} {Q : State → Prop} {lv : List (Option Value)} {st : List Value} {S : St} (hX : Fx X G cc nL own lev)  (hd : Dn cc pc (.aconst_null) 1 n)  (k : V X G nL Q n lv (.null :: st) S) : V X G nL Q pc lv (st) S := by
  obtain ⟨hd, rfl⟩ := hd
  obtain ⟨hx, hb, hml, hown, hts, hE, hR, hlk⟩ := hX
  intro H locs ls hP hS hl
  exact lv_null hx hb hd (k H locs ls hP hS hl)

theorem v_if_eq {X : VX} {G : VG} {cc : ByteArray} {nL lev pc n : Nat} {own : String} {Q : State → Prop} {lv : List (Option Value)} {st : List Value} {S : St} (hX : Fx X G cc nL own lev) {x : Int32} {z : Int} {tgt : Nat} (hd : Dn cc pc (.ifCond .eq z) 3 n) (ht : (pc : Int) + z = (tgt : Int)) (kt : x = 0 → V X G nL Q tgt lv st S) (kf : ¬ x = 0 → V X G nL Q n lv st S) : V X G nL Q pc lv (.int x :: st) S := by
  obtain ⟨hd, rfl⟩ := hd
  obtain ⟨hx, hb, hml, hown, hts, hE, hR, hlk⟩ := hX
  intro H locs ls hP hS hl
  exact lv_if_eq hx hb hd ht (fun h => kt h H locs ls hP hS hl) (fun h => kf h H locs ls hP hS hl)

theorem v_icmp_eq {X : VX} {G : VG} {cc : ByteArray} {nL lev pc n : Nat} {own : String} {Q : State → Prop} {lv : List (Option Value)} {st : List Value} {S : St} (hX : Fx X G cc nL own lev) {x y : Int32} {z : Int} {tgt : Nat} (hd : Dn cc pc (.if_icmp .eq z) 3 n) (ht : (pc : Int) + z = (tgt : Int)) (kt : x = y → V X G nL Q tgt lv st S) (kf : ¬ x = y → V X G nL Q n lv st S) : V X G nL Q pc lv (.int y :: .int x :: st) S := by
  obtain ⟨hd, rfl⟩ := hd
  obtain ⟨hx, hb, hml, hown, hts, hE, hR, hlk⟩ := hX
  intro H locs ls hP hS hl
  exact lv_icmp_eq hx hb hd ht (fun h => kt h H locs ls hP hS hl) (fun h => kf h H locs ls hP hS hl)

theorem v_if_ne {X : VX} {G : VG} {cc : ByteArray} {nL lev pc n : Nat} {own : String} {Q : State → Prop} {lv : List (Option Value)} {st : List Value} {S : St} (hX : Fx X G cc nL own lev) {x : Int32} {z : Int} {tgt : Nat} (hd : Dn cc pc (.ifCond .ne z) 3 n) (ht : (pc : Int) + z = (tgt : Int)) (kt : ¬ x = 0 → V X G nL Q tgt lv st S) (kf : x = 0 → V X G nL Q n lv st S) : V X G nL Q pc lv (.int x :: st) S := by
  obtain ⟨hd, rfl⟩ := hd
  obtain ⟨hx, hb, hml, hown, hts, hE, hR, hlk⟩ := hX
  intro H locs ls hP hS hl
  exact lv_if_ne hx hb hd ht (fun h => kt h H locs ls hP hS hl) (fun h => kf h H locs ls hP hS hl)

theorem v_icmp_ne {X : VX} {G : VG} {cc : ByteArray} {nL lev pc n : Nat} {own : String} {Q : State → Prop} {lv : List (Option Value)} {st : List Value} {S : St} (hX : Fx X G cc nL own lev) {x y : Int32} {z : Int} {tgt : Nat} (hd : Dn cc pc (.if_icmp .ne z) 3 n) (ht : (pc : Int) + z = (tgt : Int)) (kt : ¬ x = y → V X G nL Q tgt lv st S) (kf : x = y → V X G nL Q n lv st S) : V X G nL Q pc lv (.int y :: .int x :: st) S := by
  obtain ⟨hd, rfl⟩ := hd
  obtain ⟨hx, hb, hml, hown, hts, hE, hR, hlk⟩ := hX
  intro H locs ls hP hS hl
  exact lv_icmp_ne hx hb hd ht (fun h => kt h H locs ls hP hS hl) (fun h => kf h H locs ls hP hS hl)

theorem v_if_lt {X : VX} {G : VG} {cc : ByteArray} {nL lev pc n : Nat} {own : String} {Q : State → Prop} {lv : List (Option Value)} {st : List Value} {S : St} (hX : Fx X G cc nL own lev) {x : Int32} {z : Int} {tgt : Nat} (hd : Dn cc pc (.ifCond .lt z) 3 n) (ht : (pc : Int) + z = (tgt : Int)) (kt : x < 0 → V X G nL Q tgt lv st S) (kf : ¬ x < 0 → V X G nL Q n lv st S) : V X G nL Q pc lv (.int x :: st) S := by
  obtain ⟨hd, rfl⟩ := hd
  obtain ⟨hx, hb, hml, hown, hts, hE, hR, hlk⟩ := hX
  intro H locs ls hP hS hl
  exact lv_if_lt hx hb hd ht (fun h => kt h H locs ls hP hS hl) (fun h => kf h H locs ls hP hS hl)

theorem v_icmp_lt {X : VX} {G : VG} {cc : ByteArray} {nL lev pc n : Nat} {own : String} {Q : State → Prop} {lv : List (Option Value)} {st : List Value} {S : St} (hX : Fx X G cc nL own lev) {x y : Int32} {z : Int} {tgt : Nat} (hd : Dn cc pc (.if_icmp .lt z) 3 n) (ht : (pc : Int) + z = (tgt : Int)) (kt : x < y → V X G nL Q tgt lv st S) (kf : ¬ x < y → V X G nL Q n lv st S) : V X G nL Q pc lv (.int y :: .int x :: st) S := by
  obtain ⟨hd, rfl⟩ := hd
  obtain ⟨hx, hb, hml, hown, hts, hE, hR, hlk⟩ := hX
  intro H locs ls hP hS hl
  exact lv_icmp_lt hx hb hd ht (fun h => kt h H locs ls hP hS hl) (fun h => kf h H locs ls hP hS hl)

theorem v_if_ge {X : VX} {G : VG} {cc : ByteArray} {nL lev pc n : Nat} {own : String} {Q : State → Prop} {lv : List (Option Value)} {st : List Value} {S : St} (hX : Fx X G cc nL own lev) {x : Int32} {z : Int} {tgt : Nat} (hd : Dn cc pc (.ifCond .ge z) 3 n) (ht : (pc : Int) + z = (tgt : Int)) (kt : 0 ≤ x → V X G nL Q tgt lv st S) (kf : ¬ 0 ≤ x → V X G nL Q n lv st S) : V X G nL Q pc lv (.int x :: st) S := by
  obtain ⟨hd, rfl⟩ := hd
  obtain ⟨hx, hb, hml, hown, hts, hE, hR, hlk⟩ := hX
  intro H locs ls hP hS hl
  exact lv_if_ge hx hb hd ht (fun h => kt h H locs ls hP hS hl) (fun h => kf h H locs ls hP hS hl)

theorem v_icmp_ge {X : VX} {G : VG} {cc : ByteArray} {nL lev pc n : Nat} {own : String} {Q : State → Prop} {lv : List (Option Value)} {st : List Value} {S : St} (hX : Fx X G cc nL own lev) {x y : Int32} {z : Int} {tgt : Nat} (hd : Dn cc pc (.if_icmp .ge z) 3 n) (ht : (pc : Int) + z = (tgt : Int)) (kt : y ≤ x → V X G nL Q tgt lv st S) (kf : ¬ y ≤ x → V X G nL Q n lv st S) : V X G nL Q pc lv (.int y :: .int x :: st) S := by
  obtain ⟨hd, rfl⟩ := hd
  obtain ⟨hx, hb, hml, hown, hts, hE, hR, hlk⟩ := hX
  intro H locs ls hP hS hl
  exact lv_icmp_ge hx hb hd ht (fun h => kt h H locs ls hP hS hl) (fun h => kf h H locs ls hP hS hl)

theorem v_if_gt {X : VX} {G : VG} {cc : ByteArray} {nL lev pc n : Nat} {own : String} {Q : State → Prop} {lv : List (Option Value)} {st : List Value} {S : St} (hX : Fx X G cc nL own lev) {x : Int32} {z : Int} {tgt : Nat} (hd : Dn cc pc (.ifCond .gt z) 3 n) (ht : (pc : Int) + z = (tgt : Int)) (kt : 0 < x → V X G nL Q tgt lv st S) (kf : ¬ 0 < x → V X G nL Q n lv st S) : V X G nL Q pc lv (.int x :: st) S := by
  obtain ⟨hd, rfl⟩ := hd
  obtain ⟨hx, hb, hml, hown, hts, hE, hR, hlk⟩ := hX
  intro H locs ls hP hS hl
  exact lv_if_gt hx hb hd ht (fun h => kt h H locs ls hP hS hl) (fun h => kf h H locs ls hP hS hl)

theorem v_icmp_gt {X : VX} {G : VG} {cc : ByteArray} {nL lev pc n : Nat} {own : String} {Q : State → Prop} {lv : List (Option Value)} {st : List Value} {S : St} (hX : Fx X G cc nL own lev) {x y : Int32} {z : Int} {tgt : Nat} (hd : Dn cc pc (.if_icmp .gt z) 3 n) (ht : (pc : Int) + z = (tgt : Int)) (kt : y < x → V X G nL Q tgt lv st S) (kf : ¬ y < x → V X G nL Q n lv st S) : V X G nL Q pc lv (.int y :: .int x :: st) S := by
  obtain ⟨hd, rfl⟩ := hd
  obtain ⟨hx, hb, hml, hown, hts, hE, hR, hlk⟩ := hX
  intro H locs ls hP hS hl
  exact lv_icmp_gt hx hb hd ht (fun h => kt h H locs ls hP hS hl) (fun h => kf h H locs ls hP hS hl)

theorem v_if_le {X : VX} {G : VG} {cc : ByteArray} {nL lev pc n : Nat} {own : String} {Q : State → Prop} {lv : List (Option Value)} {st : List Value} {S : St} (hX : Fx X G cc nL own lev) {x : Int32} {z : Int} {tgt : Nat} (hd : Dn cc pc (.ifCond .le z) 3 n) (ht : (pc : Int) + z = (tgt : Int)) (kt : x ≤ 0 → V X G nL Q tgt lv st S) (kf : ¬ x ≤ 0 → V X G nL Q n lv st S) : V X G nL Q pc lv (.int x :: st) S := by
  obtain ⟨hd, rfl⟩ := hd
  obtain ⟨hx, hb, hml, hown, hts, hE, hR, hlk⟩ := hX
  intro H locs ls hP hS hl
  exact lv_if_le hx hb hd ht (fun h => kt h H locs ls hP hS hl) (fun h => kf h H locs ls hP hS hl)

theorem v_icmp_le {X : VX} {G : VG} {cc : ByteArray} {nL lev pc n : Nat} {own : String} {Q : State → Prop} {lv : List (Option Value)} {st : List Value} {S : St} (hX : Fx X G cc nL own lev) {x y : Int32} {z : Int} {tgt : Nat} (hd : Dn cc pc (.if_icmp .le z) 3 n) (ht : (pc : Int) + z = (tgt : Int)) (kt : x ≤ y → V X G nL Q tgt lv st S) (kf : ¬ x ≤ y → V X G nL Q n lv st S) : V X G nL Q pc lv (.int y :: .int x :: st) S := by
  obtain ⟨hd, rfl⟩ := hd
  obtain ⟨hx, hb, hml, hown, hts, hE, hR, hlk⟩ := hX
  intro H locs ls hP hS hl
  exact lv_icmp_le hx hb hd ht (fun h => kt h H locs ls hP hS hl) (fun h => kf h H locs ls hP hS hl)

theorem v_goto {X : VX} {G : VG} {cc : ByteArray} {nL lev pc n : Nat} {own : String} {Q : State → Prop} {lv : List (Option Value)} {st : List Value} {S : St} (hX : Fx X G cc nL own lev) {z : Int} {tgt : Nat} (hd : Dn cc pc (.goto z) 3 n) (ht : (pc : Int) + z = (tgt : Int)) (k : V X G nL Q tgt lv st S) : V X G nL Q pc lv st S := by
  obtain ⟨hd, rfl⟩ := hd
  obtain ⟨hx, hb, hml, hown, hts, hE, hR, hlk⟩ := hX
  intro H locs ls hP hS hl
  exact lv_goto hx hb hd ht (k H locs ls hP hS hl)

theorem v_tabIn {X : VX} {G : VG} {cc : ByteArray} {nL lev pc n : Nat} {own : String} {Q : State → Prop} {lv : List (Option Value)} {st : List Value} {S : St} (hX : Fx X G cc nL own lev) {x : Int32} {dflt lo hi off : Int} {offs : Array Int} {len tgt : Nat} (hd : Dn cc pc (.tableswitch dflt lo hi offs) len n) (h1 : ¬ x.toInt < lo) (h2 : ¬ hi < x.toInt) (ho : offs[(x.toInt - lo).toNat]? = some off) (ht : (pc : Int) + off = (tgt : Int)) (k : V X G nL Q tgt lv st S) : V X G nL Q pc lv (.int x :: st) S := by
  obtain ⟨hd, rfl⟩ := hd
  obtain ⟨hx, hb, hml, hown, hts, hE, hR, hlk⟩ := hX
  intro H locs ls hP hS hl
  exact lv_tableIn hx hb hd h1 h2 ho ht (k H locs ls hP hS hl)

theorem v_tabOut {X : VX} {G : VG} {cc : ByteArray} {nL lev pc n : Nat} {own : String} {Q : State → Prop} {lv : List (Option Value)} {st : List Value} {S : St} (hX : Fx X G cc nL own lev) {x : Int32} {dflt lo hi : Int} {offs : Array Int} {len tgt : Nat} (hd : Dn cc pc (.tableswitch dflt lo hi offs) len n) (h : x.toInt < lo ∨ hi < x.toInt) (ht : (pc : Int) + dflt = (tgt : Int)) (k : V X G nL Q tgt lv st S) : V X G nL Q pc lv (.int x :: st) S := by
  obtain ⟨hd, rfl⟩ := hd
  obtain ⟨hx, hb, hml, hown, hts, hE, hR, hlk⟩ := hX
  intro H locs ls hP hS hl
  exact lv_tableOut hx hb hd h ht (k H locs ls hP hS hl)

theorem v_look {X : VX} {G : VG} {cc : ByteArray} {nL lev pc n : Nat} {own : String} {Q : State → Prop} {lv : List (Option Value)} {st : List Value} {S : St} (hX : Fx X G cc nL own lev) {x : Int32} {dflt off : Int} {ps : Array (Int × Int)} {len tgt : Nat} (hd : Dn cc pc (.lookupswitch dflt ps) len n) (hp : (ps.toList.zip (ps.toList.drop 1)).all (fun (a, next) => a.1 < next.1) = true) (ho : Op.lookupswitch.offset ps.toList dflt x.toInt = off) (ht : (pc : Int) + off = (tgt : Int)) (k : V X G nL Q tgt lv st S) : V X G nL Q pc lv (.int x :: st) S := by
  obtain ⟨hd, rfl⟩ := hd
  obtain ⟨hx, hb, hml, hown, hts, hE, hR, hlk⟩ := hX
  intro H locs ls hP hS hl
  exact lv_lookup hx hb hd hp ho ht (k H locs ls hP hS hl)

theorem v_gfi {X : VX} {G : VG} {cc : ByteArray} {nL lev pc n : Nat} {own : String} {Q : State → Prop} {lv : List (Option Value)} {st : List Value} {S : St} (hX : Fx X G cc nL own lev) {C : String} {T : u_T} {N : Nat} {ty : Nat → FieldType} {c j ci d i : Nat} (hd : Dn cc pc (.getfield i) 3 n) (hc : Cl ci C T N ty) (hf : FI c j ci 0 d) (hj : j < N) (hk : Cond.fieldLink own i (T j).1 (T j).2.1 (T j).2.2.1 ∈ tb)  (k : V X G nL Q n lv (.int (gN S c j) :: st) S) : V X G nL Q pc lv (.ref (G.2.1 c) :: st) S := by
  obtain ⟨hd, rfl⟩ := hd
  obtain ⟨hx, hb, hml, hown, hts, hE, hR, hlk⟩ := hX
  intro H locs ls hP hS hl
  obtain ⟨fs, e1, e2, e3⟩ := cell_obj (G := G) (S := S) hf
  exact va_get (v := .int (gN S c j)) hx hb hts hc.2.1 hown hE.1 hP c (by rw [wld_get G S hf.1, e1]) hc.1 j hj (hts _ hk) (fun _ h => h) (by rw [e2]; rfl) hd (k H locs ls hP hS hl)

theorem v_gfl {X : VX} {G : VG} {cc : ByteArray} {nL lev pc n : Nat} {own : String} {Q : State → Prop} {lv : List (Option Value)} {st : List Value} {S : St} (hX : Fx X G cc nL own lev) {C : String} {T : u_T} {N : Nat} {ty : Nat → FieldType} {c j ci d i : Nat} (hd : Dn cc pc (.getfield i) 3 n) (hc : Cl ci C T N ty) (hf : FI c j ci 4 d) (hj : j < N) (hk : Cond.fieldLink own i (T j).1 (T j).2.1 (T j).2.2.1 ∈ tb)  (k : V X G nL Q n lv (.long (gJ S c j) :: st) S) : V X G nL Q pc lv (.ref (G.2.1 c) :: st) S := by
  obtain ⟨hd, rfl⟩ := hd
  obtain ⟨hx, hb, hml, hown, hts, hE, hR, hlk⟩ := hX
  intro H locs ls hP hS hl
  obtain ⟨fs, e1, e2, e3⟩ := cell_obj (G := G) (S := S) hf
  exact va_get (v := .long (gJ S c j)) hx hb hts hc.2.1 hown hE.1 hP c (by rw [wld_get G S hf.1, e1]) hc.1 j hj (hts _ hk) (fun _ h => h) (by rw [e2]; rfl) hd (k H locs ls hP hS hl)

theorem v_gfc {X : VX} {G : VG} {cc : ByteArray} {nL lev pc n : Nat} {own : String} {Q : State → Prop} {lv : List (Option Value)} {st : List Value} {S : St} (hX : Fx X G cc nL own lev) {C : String} {T : u_T} {N : Nat} {ty : Nat → FieldType} {c j ci d i : Nat} (hd : Dn cc pc (.getfield i) 3 n) (hc : Cl ci C T N ty) (hf : FI c j ci 1 d) (hj : j < N) (hk : Cond.fieldLink own i (T j).1 (T j).2.1 (T j).2.2.1 ∈ tb)  (k : V X G nL Q n lv (.ref (G.2.1 d) :: st) S) : V X G nL Q pc lv (.ref (G.2.1 c) :: st) S := by
  obtain ⟨hd, rfl⟩ := hd
  obtain ⟨hx, hb, hml, hown, hts, hE, hR, hlk⟩ := hX
  intro H locs ls hP hS hl
  obtain ⟨fs, e1, e2, e3⟩ := cell_obj (G := G) (S := S) hf
  exact va_get (v := .ref (G.2.1 d)) hx hb hts hc.2.1 hown hE.1 hP c (by rw [wld_get G S hf.1, e1]) hc.1 j hj (hts _ hk) (fun _ h => h) (by rw [e2]; rfl) hd (k H locs ls hP hS hl)

theorem v_gfr {X : VX} {G : VG} {cc : ByteArray} {nL lev pc n : Nat} {own : String} {Q : State → Prop} {lv : List (Option Value)} {st : List Value} {S : St} (hX : Fx X G cc nL own lev) {C : String} {T : u_T} {N : Nat} {ty : Nat → FieldType} {c j ci d i : Nat} (hd : Dn cc pc (.getfield i) 3 n) (hc : Cl ci C T N ty) (hf : FI c j ci 2 d) (hj : j < N) (hk : Cond.fieldLink own i (T j).1 (T j).2.1 (T j).2.2.1 ∈ tb)  (k : V X G nL Q n lv (.ref (G.2.1 (gR S c j)) :: st) S) : V X G nL Q pc lv (.ref (G.2.1 c) :: st) S := by
  obtain ⟨hd, rfl⟩ := hd
  obtain ⟨hx, hb, hml, hown, hts, hE, hR, hlk⟩ := hX
  intro H locs ls hP hS hl
  obtain ⟨fs, e1, e2, e3⟩ := cell_obj (G := G) (S := S) hf
  exact va_get (v := .ref (G.2.1 (gR S c j))) hx hb hts hc.2.1 hown hE.1 hP c (by rw [wld_get G S hf.1, e1]) hc.1 j hj (hts _ hk) (fun _ h => h) (by rw [e2]; rfl) hd (k H locs ls hP hS hl)

theorem v_gfn {X : VX} {G : VG} {cc : ByteArray} {nL lev pc n : Nat} {own : String} {Q : State → Prop} {lv : List (Option Value)} {st : List Value} {S : St} (hX : Fx X G cc nL own lev) {C : String} {T : u_T} {N : Nat} {ty : Nat → FieldType} {c j ci d i : Nat} (hd : Dn cc pc (.getfield i) 3 n) (hc : Cl ci C T N ty) (hf : FI c j ci 3 d) (hj : j < N) (hk : Cond.fieldLink own i (T j).1 (T j).2.1 (T j).2.2.1 ∈ tb) (hn : gR S c j ≠ 99) (k : V X G nL Q n lv (.ref (G.2.1 (gR S c j)) :: st) S) : V X G nL Q pc lv (.ref (G.2.1 c) :: st) S := by
  obtain ⟨hd, rfl⟩ := hd
  obtain ⟨hx, hb, hml, hown, hts, hE, hR, hlk⟩ := hX
  intro H locs ls hP hS hl
  obtain ⟨fs, e1, e2, e3⟩ := cell_obj (G := G) (S := S) hf
  exact va_get (v := .ref (G.2.1 (gR S c j))) hx hb hts hc.2.1 hown hE.1 hP c (by rw [wld_get G S hf.1, e1]) hc.1 j hj (hts _ hk) (fun _ h => h) (by rw [e2]; simp [fv, fvq, hn]) hd (k H locs ls hP hS hl)

theorem v_pfi {X : VX} {G : VG} {cc : ByteArray} {nL lev pc n : Nat} {own : String} {Q : State → Prop} {lv : List (Option Value)} {st : List Value} {S : St} (hX : Fx X G cc nL own lev) {C : String} {T : u_T} {N : Nat} {ty : Nat → FieldType} {c j ci d i : Nat} {v : Int32} (hd : Dn cc pc (.putfield i) 3 n) (hc : Cl ci C T N ty) (hf : FI c j ci 0 d) (hj : j < N) (hk : Cond.fieldLink own i (T j).1 (T j).2.1 (T j).2.2.1 ∈ tb) (hfin : (T j).2.2.2 = false) (hty : ty j = .int)  (k : V X G nL Q n lv st (sN S c j v)) : V X G nL Q pc lv (.int v :: .ref (G.2.1 c) :: st) S := by
  obtain ⟨hd, rfl⟩ := hd
  obtain ⟨hx, hb, hml, hown, hts, hE, hR, hlk⟩ := hX
  intro H locs ls hP hS hl
  obtain ⟨fs, e1, e2, e3⟩ := cell_obj (G := G) (S := S) hf
  refine va_put (v := .int v) hx hb hts hc.2.1 ty hc.2.2.1 hc.2.2.2 hown hE.1 hP (wld_D hE.2.1) hS c (by rw [wld_get G S hf.1, e1]) hc.1 j hj (hts _ hk) (fun _ h => h) hfin (hc.2.2.1 j hj) (by rw [hty]; rfl) (by rw [hty]; rfl) e3 hd (fun H1 locs1 hP1 _ hS1 => ?_)
  rw [wld_set G S (sN S c j v) (cell_put hf e1 fvN (fun i q h => fvN_ne h)) (fun k h => cellN_ne h)] at hP1
  exact k H1 locs1 ls hP1 hS1 hl

theorem v_pfz {X : VX} {G : VG} {cc : ByteArray} {nL lev pc n : Nat} {own : String} {Q : State → Prop} {lv : List (Option Value)} {st : List Value} {S : St} (hX : Fx X G cc nL own lev) {C : String} {T : u_T} {N : Nat} {ty : Nat → FieldType} {c j ci d i : Nat} {v : Int32} (hd : Dn cc pc (.putfield i) 3 n) (hc : Cl ci C T N ty) (hf : FI c j ci 0 d) (hj : j < N) (hk : Cond.fieldLink own i (T j).1 (T j).2.1 (T j).2.2.1 ∈ tb) (hfin : (T j).2.2.2 = false) (hty : ty j = .boolean) (hb0 : isB v = true) (k : V X G nL Q n lv st (sN S c j v)) : V X G nL Q pc lv (.int v :: .ref (G.2.1 c) :: st) S := by
  obtain ⟨hd, rfl⟩ := hd
  obtain ⟨hx, hb, hml, hown, hts, hE, hR, hlk⟩ := hX
  intro H locs ls hP hS hl
  obtain ⟨fs, e1, e2, e3⟩ := cell_obj (G := G) (S := S) hf
  refine va_put (v := .int v) hx hb hts hc.2.1 ty hc.2.2.1 hc.2.2.2 hown hE.1 hP (wld_D hE.2.1) hS c (by rw [wld_get G S hf.1, e1]) hc.1 j hj (hts _ hk) (fun _ h => h) hfin (hc.2.2.1 j hj) (by rw [hty]; rcases isB_or hb0 with rfl | rfl <;> rfl) (by rw [hty]; rcases isB_or hb0 with rfl | rfl <;> rfl) e3 hd (fun H1 locs1 hP1 _ hS1 => ?_)
  rw [wld_set G S (sN S c j v) (cell_put hf e1 fvN (fun i q h => fvN_ne h)) (fun k h => cellN_ne h)] at hP1
  exact k H1 locs1 ls hP1 hS1 hl

theorem v_pfl {X : VX} {G : VG} {cc : ByteArray} {nL lev pc n : Nat} {own : String} {Q : State → Prop} {lv : List (Option Value)} {st : List Value} {S : St} (hX : Fx X G cc nL own lev) {C : String} {T : u_T} {N : Nat} {ty : Nat → FieldType} {c j ci d i : Nat} {v : Int64} (hd : Dn cc pc (.putfield i) 3 n) (hc : Cl ci C T N ty) (hf : FI c j ci 4 d) (hj : j < N) (hk : Cond.fieldLink own i (T j).1 (T j).2.1 (T j).2.2.1 ∈ tb) (hfin : (T j).2.2.2 = false) (hty : ty j = .long)  (k : V X G nL Q n lv st (sJ S c j v)) : V X G nL Q pc lv (.long v :: .ref (G.2.1 c) :: st) S := by
  obtain ⟨hd, rfl⟩ := hd
  obtain ⟨hx, hb, hml, hown, hts, hE, hR, hlk⟩ := hX
  intro H locs ls hP hS hl
  obtain ⟨fs, e1, e2, e3⟩ := cell_obj (G := G) (S := S) hf
  refine va_put (v := .long v) hx hb hts hc.2.1 ty hc.2.2.1 hc.2.2.2 hown hE.1 hP (wld_D hE.2.1) hS c (by rw [wld_get G S hf.1, e1]) hc.1 j hj (hts _ hk) (fun _ h => h) hfin (hc.2.2.1 j hj) (by rw [hty]; rfl) (by rw [hty]; rfl) e3 hd (fun H1 locs1 hP1 _ hS1 => ?_)
  rw [wld_set G S (sJ S c j v) (cell_put hf e1 fvJ (fun i q h => fvJ_ne h)) (fun k h => cellJ_ne h)] at hP1
  exact k H1 locs1 ls hP1 hS1 hl

theorem v_pfr {X : VX} {G : VG} {cc : ByteArray} {nL lev pc n : Nat} {own : String} {Q : State → Prop} {lv : List (Option Value)} {st : List Value} {S : St} (hX : Fx X G cc nL own lev) {C : String} {T : u_T} {N : Nat} {ty : Nat → FieldType} {c j ci d i : Nat} {v : Nat} {nm : String} (hd : Dn cc pc (.putfield i) 3 n) (hc : Cl ci C T N ty) (hf : FI c j ci 2 d) (hj : j < N) (hk : Cond.fieldLink own i (T j).1 (T j).2.1 (T j).2.2.1 ∈ tb) (hfin : (T j).2.2.2 = false) (hty : ty j = .object nm)  (k : V X G nL Q n lv st (sR S c j v)) : V X G nL Q pc lv (.ref (G.2.1 v) :: .ref (G.2.1 c) :: st) S := by
  obtain ⟨hd, rfl⟩ := hd
  obtain ⟨hx, hb, hml, hown, hts, hE, hR, hlk⟩ := hX
  intro H locs ls hP hS hl
  obtain ⟨fs, e1, e2, e3⟩ := cell_obj (G := G) (S := S) hf
  refine va_put (v := .ref (G.2.1 v)) hx hb hts hc.2.1 ty hc.2.2.1 hc.2.2.2 hown hE.1 hP (wld_D hE.2.1) hS c (by rw [wld_get G S hf.1, e1]) hc.1 j hj (hts _ hk) (fun _ h => h) hfin (hc.2.2.1 j hj) (by rw [hty]; rfl) (by rw [hty]; rfl) e3 hd (fun H1 locs1 hP1 _ hS1 => ?_)
  rw [wld_set G S (sR S c j v) (cell_put hf e1 fvR (fun i q h => fvR_ne h)) (fun k h => cellR_ne h)] at hP1
  exact k H1 locs1 ls hP1 hS1 hl

theorem v_pfra {X : VX} {G : VG} {cc : ByteArray} {nL lev pc n : Nat} {own : String} {Q : State → Prop} {lv : List (Option Value)} {st : List Value} {S : St} (hX : Fx X G cc nL own lev) {C : String} {T : u_T} {N : Nat} {ty : Nat → FieldType} {c j ci d i : Nat} {v : Nat} {nt : FieldType} (hd : Dn cc pc (.putfield i) 3 n) (hc : Cl ci C T N ty) (hf : FI c j ci 2 d) (hj : j < N) (hk : Cond.fieldLink own i (T j).1 (T j).2.1 (T j).2.2.1 ∈ tb) (hfin : (T j).2.2.2 = false) (hty : ty j = .array nt)  (k : V X G nL Q n lv st (sR S c j v)) : V X G nL Q pc lv (.ref (G.2.1 v) :: .ref (G.2.1 c) :: st) S := by
  obtain ⟨hd, rfl⟩ := hd
  obtain ⟨hx, hb, hml, hown, hts, hE, hR, hlk⟩ := hX
  intro H locs ls hP hS hl
  obtain ⟨fs, e1, e2, e3⟩ := cell_obj (G := G) (S := S) hf
  refine va_put (v := .ref (G.2.1 v)) hx hb hts hc.2.1 ty hc.2.2.1 hc.2.2.2 hown hE.1 hP (wld_D hE.2.1) hS c (by rw [wld_get G S hf.1, e1]) hc.1 j hj (hts _ hk) (fun _ h => h) hfin (hc.2.2.1 j hj) (by rw [hty]; rfl) (by rw [hty]; rfl) e3 hd (fun H1 locs1 hP1 _ hS1 => ?_)
  rw [wld_set G S (sR S c j v) (cell_put hf e1 fvR (fun i q h => fvR_ne h)) (fun k h => cellR_ne h)] at hP1
  exact k H1 locs1 ls hP1 hS1 hl

theorem v_pfn {X : VX} {G : VG} {cc : ByteArray} {nL lev pc n : Nat} {own : String} {Q : State → Prop} {lv : List (Option Value)} {st : List Value} {S : St} (hX : Fx X G cc nL own lev) {C : String} {T : u_T} {N : Nat} {ty : Nat → FieldType} {c j ci d i : Nat} {v : Nat} {nm : String} (hd : Dn cc pc (.putfield i) 3 n) (hc : Cl ci C T N ty) (hf : FI c j ci 3 d) (hj : j < N) (hk : Cond.fieldLink own i (T j).1 (T j).2.1 (T j).2.2.1 ∈ tb) (hfin : (T j).2.2.2 = false) (hty : ty j = .object nm) (hn : v ≠ 99) (k : V X G nL Q n lv st (sR S c j v)) : V X G nL Q pc lv (.ref (G.2.1 v) :: .ref (G.2.1 c) :: st) S := by
  obtain ⟨hd, rfl⟩ := hd
  obtain ⟨hx, hb, hml, hown, hts, hE, hR, hlk⟩ := hX
  intro H locs ls hP hS hl
  obtain ⟨fs, e1, e2, e3⟩ := cell_obj (G := G) (S := S) hf
  refine va_put (v := .ref (G.2.1 v)) hx hb hts hc.2.1 ty hc.2.2.1 hc.2.2.2 hown hE.1 hP (wld_D hE.2.1) hS c (by rw [wld_get G S hf.1, e1]) hc.1 j hj (hts _ hk) (fun _ h => h) hfin (hc.2.2.1 j hj) (by rw [hty]; rfl) (by rw [hty]; rfl) e3 hd (fun H1 locs1 hP1 _ hS1 => ?_)
  rw [wld_set G S (sR S c j v) (cell_put hf e1 (fvR3 hn) (fun i q h => fvR_ne h)) (fun k h => cellR_ne h)] at hP1
  exact k H1 locs1 ls hP1 hS1 hl

theorem v_iaload {X : VX} {G : VG} {cc : ByteArray} {nL lev pc n : Nat} {own : String} {Q : State → Prop} {lv : List (Option Value)} {st : List Value} {S : St} (hX : Fx X G cc nL own lev) {c len : Nat} {i : Int32} (hd : Dn cc pc (.iaload) 1 n) (ha : AI c 9 len) (hi : inB i len = true) (k : V X G nL Q n lv (.int (gN S c i.toNatClampNeg) :: st) S) : V X G nL Q pc lv (.int i :: .ref (G.2.1 c) :: st) S := by
  obtain ⟨hd, rfl⟩ := hd
  obtain ⟨hx, hb, hml, hown, hts, hE, hR, hlk⟩ := hX
  intro H locs ls hP hS hl
  exact va_iald (f := S.1 c) hx hb hE.1 hP c 1 (by rw [wld_get G S ha.1, cell_arrI ha (by decide)]) rfl (inB_in hi) hd (k H locs ls hP hS hl)

theorem v_baload {X : VX} {G : VG} {cc : ByteArray} {nL lev pc n : Nat} {own : String} {Q : State → Prop} {lv : List (Option Value)} {st : List Value} {S : St} (hX : Fx X G cc nL own lev) {c len : Nat} {i : Int32} (hd : Dn cc pc (.baload) 1 n) (ha : AI c 8 len) (hi : inB i len = true) (k : V X G nL Q n lv (.int (gN S c i.toNatClampNeg) :: st) S) : V X G nL Q pc lv (.int i :: .ref (G.2.1 c) :: st) S := by
  obtain ⟨hd, rfl⟩ := hd
  obtain ⟨hx, hb, hml, hown, hts, hE, hR, hlk⟩ := hX
  intro H locs ls hP hS hl
  exact va_bald (f := S.1 c) hx hb hE.1 hP c 0 (by rw [wld_get G S ha.1, cell_arrI ha (by decide)]) rfl (inB_in hi) hd (k H locs ls hP hS hl)

theorem v_zaload {X : VX} {G : VG} {cc : ByteArray} {nL lev pc n : Nat} {own : String} {Q : State → Prop} {lv : List (Option Value)} {st : List Value} {S : St} (hX : Fx X G cc nL own lev) {c len : Nat} {i : Int32} (hd : Dn cc pc (.baload) 1 n) (ha : AI c 11 len) (hi : inB i len = true) (k : V X G nL Q n lv (.int (gN S c i.toNatClampNeg) :: st) S) : V X G nL Q pc lv (.int i :: .ref (G.2.1 c) :: st) S := by
  obtain ⟨hd, rfl⟩ := hd
  obtain ⟨hx, hb, hml, hown, hts, hE, hR, hlk⟩ := hX
  intro H locs ls hP hS hl
  exact va_zald (f := S.1 c) hx hb hE.1 hP c 3 (by rw [wld_get G S ha.1, cell_arrI ha (by decide)]) rfl (inB_in hi) hd (k H locs ls hP hS hl)

theorem v_laload {X : VX} {G : VG} {cc : ByteArray} {nL lev pc n : Nat} {own : String} {Q : State → Prop} {lv : List (Option Value)} {st : List Value} {S : St} (hX : Fx X G cc nL own lev) {c len : Nat} {i : Int32} (hd : Dn cc pc (.laload) 1 n) (ha : AI c 10 len) (hi : inB i len = true) (k : V X G nL Q n lv (.long (gJ S c i.toNatClampNeg) :: st) S) : V X G nL Q pc lv (.int i :: .ref (G.2.1 c) :: st) S := by
  obtain ⟨hd, rfl⟩ := hd
  obtain ⟨hx, hb, hml, hown, hts, hE, hR, hlk⟩ := hX
  intro H locs ls hP hS hl
  exact va_lald (f := S.2.1 c) hx hb hE.1 hP c 2 (by rw [wld_get G S ha.1, cell_arrJ ha]) rfl (inB_in hi) hd (k H locs ls hP hS hl)

theorem v_iastore {X : VX} {G : VG} {cc : ByteArray} {nL lev pc n : Nat} {own : String} {Q : State → Prop} {lv : List (Option Value)} {st : List Value} {S : St} (hX : Fx X G cc nL own lev) {c len : Nat} {i : Int32} {x : Int32} (hd : Dn cc pc (.iastore) 1 n) (ha : AI c 9 len) (hi : inB i len = true) (k : V X G nL Q n lv st (sN S c i.toNatClampNeg x)) : V X G nL Q pc lv (.int x :: .int i :: .ref (G.2.1 c) :: st) S := by
  obtain ⟨hd, rfl⟩ := hd
  obtain ⟨hx, hb, hml, hown, hts, hE, hR, hlk⟩ := hX
  intro H locs ls hP hS hl
  refine va_iast hx hb hE.1 hP (wld_D hE.2.1) hS c 1 (by rw [wld_get G S ha.1, cell_arrI ha (by decide)]) rfl (inB_in hi) hd (fun H1 locs1 hP1 _ hS1 => ?_)
  rw [wld_set G S (sN S c i.toNatClampNeg x) (by rw [cell_arrI ha (by decide)]; rw [sN_row]) (fun k h => cellN_ne h)] at hP1
  exact k H1 locs1 ls hP1 hS1 hl

theorem v_bastore {X : VX} {G : VG} {cc : ByteArray} {nL lev pc n : Nat} {own : String} {Q : State → Prop} {lv : List (Option Value)} {st : List Value} {S : St} (hX : Fx X G cc nL own lev) {c len : Nat} {i : Int32} {x : Int32} (hd : Dn cc pc (.bastore) 1 n) (ha : AI c 8 len) (hi : inB i len = true) (k : V X G nL Q n lv st (sN S c i.toNatClampNeg (vp_nar .byte x))) : V X G nL Q pc lv (.int x :: .int i :: .ref (G.2.1 c) :: st) S := by
  obtain ⟨hd, rfl⟩ := hd
  obtain ⟨hx, hb, hml, hown, hts, hE, hR, hlk⟩ := hX
  intro H locs ls hP hS hl
  refine va_bast hx hb hE.1 hP (wld_D hE.2.1) hS c 0 (by rw [wld_get G S ha.1, cell_arrI ha (by decide)]) rfl (inB_in hi) hd (fun H1 locs1 hP1 _ hS1 => ?_)
  rw [wld_set G S (sN S c i.toNatClampNeg (vp_nar .byte x)) (by rw [cell_arrI ha (by decide)]; rw [sN_row]) (fun k h => cellN_ne h)] at hP1
  exact k H1 locs1 ls hP1 hS1 hl

theorem v_zastore {X : VX} {G : VG} {cc : ByteArray} {nL lev pc n : Nat} {own : String} {Q : State → Prop} {lv : List (Option Value)} {st : List Value} {S : St} (hX : Fx X G cc nL own lev) {c len : Nat} {i : Int32} {x : Int32} (hd : Dn cc pc (.bastore) 1 n) (ha : AI c 11 len) (hi : inB i len = true) (k : V X G nL Q n lv st (sN S c i.toNatClampNeg (vp_nar .boolean x))) : V X G nL Q pc lv (.int x :: .int i :: .ref (G.2.1 c) :: st) S := by
  obtain ⟨hd, rfl⟩ := hd
  obtain ⟨hx, hb, hml, hown, hts, hE, hR, hlk⟩ := hX
  intro H locs ls hP hS hl
  refine va_zast hx hb hE.1 hP (wld_D hE.2.1) hS c 3 (by rw [wld_get G S ha.1, cell_arrI ha (by decide)]) rfl (inB_in hi) hd (fun H1 locs1 hP1 _ hS1 => ?_)
  rw [wld_set G S (sN S c i.toNatClampNeg (vp_nar .boolean x)) (by rw [cell_arrI ha (by decide)]; rw [sN_row]) (fun k h => cellN_ne h)] at hP1
  exact k H1 locs1 ls hP1 hS1 hl

theorem v_lastore {X : VX} {G : VG} {cc : ByteArray} {nL lev pc n : Nat} {own : String} {Q : State → Prop} {lv : List (Option Value)} {st : List Value} {S : St} (hX : Fx X G cc nL own lev) {c len : Nat} {i : Int32} {x : Int64} (hd : Dn cc pc (.lastore) 1 n) (ha : AI c 10 len) (hi : inB i len = true) (k : V X G nL Q n lv st (sJ S c i.toNatClampNeg x)) : V X G nL Q pc lv (.long x :: .int i :: .ref (G.2.1 c) :: st) S := by
  obtain ⟨hd, rfl⟩ := hd
  obtain ⟨hx, hb, hml, hown, hts, hE, hR, hlk⟩ := hX
  intro H locs ls hP hS hl
  refine va_last hx hb hE.1 hP (wld_D hE.2.1) hS c 2 (by rw [wld_get G S ha.1, cell_arrJ ha]) rfl (inB_in hi) hd (fun H1 locs1 hP1 _ hS1 => ?_)
  rw [wld_set G S (sJ S c i.toNatClampNeg x) (by rw [cell_arrJ ha]; rw [sJ_row]) (fun k h => cellJ_ne h)] at hP1
  exact k H1 locs1 ls hP1 hS1 hl

theorem v_alenJ {X : VX} {G : VG} {cc : ByteArray} {nL lev pc n : Nat} {own : String} {Q : State → Prop} {lv : List (Option Value)} {st : List Value} {S : St} (hX : Fx X G cc nL own lev) {c len : Nat} {v : Int32} (hd : Dn cc pc .arraylength 1 n) (ha : AI c 10 len) (hv : Int32.ofNat len = v) (k : V X G nL Q n lv (.int v :: st) S) : V X G nL Q pc lv (.ref (G.2.1 c) :: st) S := by
  obtain ⟨hd, rfl⟩ := hd
  obtain ⟨hx, hb, hml, hown, hts, hE, hR, hlk⟩ := hX
  intro H locs ls hP hS hl
  exact va_alen hx hb hE.1 hP c 2 (by rw [wld_get G S ha.1, cell_arrJ ha]) rfl hv hd (k H locs ls hP hS hl)

theorem v_alenI {X : VX} {G : VG} {cc : ByteArray} {nL lev pc n : Nat} {own : String} {Q : State → Prop} {lv : List (Option Value)} {st : List Value} {S : St} (hX : Fx X G cc nL own lev) {c len : Nat} {v : Int32} (hd : Dn cc pc .arraylength 1 n) (ha : AI c 9 len) (hv : Int32.ofNat len = v) (k : V X G nL Q n lv (.int v :: st) S) : V X G nL Q pc lv (.ref (G.2.1 c) :: st) S := by
  obtain ⟨hd, rfl⟩ := hd
  obtain ⟨hx, hb, hml, hown, hts, hE, hR, hlk⟩ := hX
  intro H locs ls hP hS hl
  exact va_alen hx hb hE.1 hP c 1 (by rw [wld_get G S ha.1, cell_arrI ha (by decide)]) rfl hv hd (k H locs ls hP hS hl)

theorem v_gtens {X : VX} {G : VG} {cc : ByteArray} {nL lev pc n : Nat} {own : String} {Q : State → Prop} {lv : List (Option Value)} {st : List Value} {S : St} (hX : Fx X G cc nL own lev) {i : Nat} (hd : Dn cc pc (.getstatic i) 3 n) (hk : Cond.fieldLinkNest own i "LeastTeaches" "TENS" "[I" "LeastTeaches" ∈ nstL) (k : V X G nL Q n lv (.ref G.2.2.2.1 :: st) S) : V X G nL Q pc lv st S := by
  obtain ⟨hd, rfl⟩ := hd
  obtain ⟨hx, hb, hml, hown, hts, hE, hR, hlk⟩ := hX
  intro H locs ls hP hS hl
  exact va_getsN hx hb hE.2.2.1.1 hS hown (va_Nw.use rfl (hE.2.2.2.2.2.2 _ hk)) (fun _ h => h) hd (k H locs ls hP hS hl)

theorem v_tens {X : VX} {G : VG} {cc : ByteArray} {nL lev pc n : Nat} {own : String} {Q : State → Prop} {lv : List (Option Value)} {st : List Value} {S : St} (hX : Fx X G cc nL own lev) {i : Int32} (hd : Dn cc pc .iaload 1 n) (hi : inB i 5 = true) (k : V X G nL Q n lv (.int (tensF i.toNatClampNeg) :: st) S) : V X G nL Q pc lv (.int i :: .ref G.2.2.2.1 :: st) S := by
  obtain ⟨hd, rfl⟩ := hd
  obtain ⟨hx, hb, hml, hown, hts, hE, hR, hlk⟩ := hX
  intro H locs ls hP hS hl
  exact va_ti hx hb hE.2.2.1.2.1 hS (inB_in hi) rfl hd (k H locs ls hP hS hl)

theorem v_mmax {X : VX} {G : VG} {cc : ByteArray} {nL lev pc n : Nat} {own : String} {Q : State → Prop} {lv : List (Option Value)} {st : List Value} {S : St} (hX : Fx X G cc nL own lev) {i : Nat} {x y : Int32} (hd : Dn cc pc (.invokestatic i) 3 n) (hk : Cond.methodLink own i Lib.Math.max.name ∈ tb) (hcat : (st.map fun v => v.category).sum ≤ 8) (k : V X G nL Q n lv (.int (if x < y then y else x) :: st) S) : V X G nL Q pc lv (.int y :: .int x :: st) S := by
  obtain ⟨hd, rfl⟩ := hd
  obtain ⟨hx, hb, hml, hown, hts, hE, hR, hlk⟩ := hX
  intro H locs ls hP hS hl
  exact va_mmax hx hb (by rw [hml]; exact hl.1.symm) hown (hts _ hk) (hts _ mx_w.1) (hts _ mx_w.2.1) (hts _ mx_w.2.2) (by omega) (by omega) hR.2.2.1 hR.2.2.2 hd (k H locs ls hP hS hl)

theorem v_mmin {X : VX} {G : VG} {cc : ByteArray} {nL lev pc n : Nat} {own : String} {Q : State → Prop} {lv : List (Option Value)} {st : List Value} {S : St} (hX : Fx X G cc nL own lev) {i : Nat} {x y : Int32} (hd : Dn cc pc (.invokestatic i) 3 n) (hk : Cond.methodLink own i Lib.Math.min.name ∈ tb) (hcat : (st.map fun v => v.category).sum ≤ 8) (k : V X G nL Q n lv (.int (if y < x then y else x) :: st) S) : V X G nL Q pc lv (.int y :: .int x :: st) S := by
  obtain ⟨hd, rfl⟩ := hd
  obtain ⟨hx, hb, hml, hown, hts, hE, hR, hlk⟩ := hX
  intro H locs ls hP hS hl
  exact va_mmin hx hb (by rw [hml]; exact hl.1.symm) hown (hts _ hk) (hts _ mn_w.1) (hts _ mx_w.2.1) (hts _ mn_w.2) (by omega) (by omega) hR.2.2.1 hR.2.2.2 hd (k H locs ls hP hS hl)

theorem v_copyi {X : VX} {G : VG} {cc : ByteArray} {nL lev pc n : Nat} {own : String} {Q : State → Prop} {lv : List (Option Value)} {st : List Value} {S : St} (hX : Fx X G cc nL own lev) {i c c0 n0 n1 : Nat} {sp dp nn : Int32} (hd : Dn cc pc (.invokestatic i) 3 n) (hk : Cond.methodLink own i arraycopyName ∈ tb) (hcat : (st.map fun v => v.category).sum ≤ 8) (ha0 : AI c0 9 n0) (ha : AI c 9 n1) (hcp : cpB sp dp nn n0 n1 = true) (k : V X G nL Q n lv st (pN S c (va_cpy (S.1 c0) (S.1 c) sp.toNatClampNeg dp.toNatClampNeg nn.toNatClampNeg))) : V X G nL Q pc lv (.int nn :: .int dp :: .ref (G.2.1 c) :: .int sp :: .ref (G.2.1 c0) :: st) S := by
  obtain ⟨hd, rfl⟩ := hd
  obtain ⟨hx, hb, hml, hown, hts, hE, hR, hlk⟩ := hX
  intro H locs ls hP hS hl
  obtain ⟨b1, b2, b3, b4, b5⟩ := cpB_spec hcp
  refine va_copyi hx hb (by rw [hml]; exact hl.1.symm) hown (hts _ hk) (hts _ cp_w.1) (hts _ cp_w.2.1) (hts _ cp_w.2.2) hE.1 hP (wld_D hE.2.1) hS c0 c 1 1 (by rw [wld_get G S ha0.1, cell_arrI ha0 (by decide)]) (by rw [wld_get G S ha.1, cell_arrI ha (by decide)]) rfl rfl rfl b1 b2 b3 b4 b5 (fun _ _ => rfl) (by omega) (by show _ + (7 + 11) ≤ _; omega) hd (fun H1 locs1 hP1 _ hS1 => ?_)
  rw [wld_set G S (pN S c (va_cpy (S.1 c0) (S.1 c) sp.toNatClampNeg dp.toNatClampNeg nn.toNatClampNeg)) (by rw [cell_arrI ha (by decide)]; simp only [pN, up_eq]) (fun k h => cellP_ne h)] at hP1
  exact k H1 locs1 ls hP1 hS1 hl
end
section
/-! ===== contracts and calls ===== -/
def rmD (lev : Nat) : Room := { frames := lev + 1, cells := 0, slots := 0, locals := 40 * (lev + 1) }
def PW (G : VG) (S : St) (U : State) : Prop := va_P G.1 vwCl (wld G S) U.heap ∧ EX G U
def QI (G : VG) (q : Int32 × St) : Array Value → State → Outcome → State → Prop := va_Qi (fun (r : Int32) (u : St) => r = q.1 ∧ u = q.2) (fun u t => va_P G.1 vwCl (wld G u) t.heap) (Aw G)
def QL (G : VG) (q : Int64 × St) : Array Value → State → Outcome → State → Prop := va_Ql (fun (r : Int64) (u : St) => r = q.1 ∧ u = q.2) (fun u t => va_P G.1 vwCl (wld G u) t.heap) (Aw G)
def QV (G : VG) (q : Unit × St) : Array Value → State → Outcome → State → Prop := va_Qv (fun (u : St) => u = q.2) (fun u t => va_P G.1 vwCl (wld G u) t.heap) (Aw G)
def QR (G : VG) (q : Nat × St) : Array Value → State → Outcome → State → Prop := va_Qr (fun (u : St) => u = q.2) (fun u a t => a = G.2.1 q.1 ∧ va_P G.1 vwCl (wld G u) t.heap) (Aw G)
def MI (l : Launch) (G : VG) (y : MethodName) (bytes : ByteArray) (maxL : Nat) (rt : Option FieldType) (lev : Nat) (args : List Value) (S : St) (q : Int32 × St) : Prop :=
  Met l y (.code y bytes maxL rt :: tb) (rmD lev) (va_Pc args (PW G S)) (QI G q) 0 0 (Aw G)
def ML (l : Launch) (G : VG) (y : MethodName) (bytes : ByteArray) (maxL : Nat) (rt : Option FieldType) (lev : Nat) (args : List Value) (S : St) (q : Int64 × St) : Prop :=
  Met l y (.code y bytes maxL rt :: tb) (rmD lev) (va_Pc args (PW G S)) (QL G q) 0 0 (Aw G)
def MV (l : Launch) (G : VG) (y : MethodName) (bytes : ByteArray) (maxL : Nat) (rt : Option FieldType) (lev : Nat) (args : List Value) (S : St) (q : Unit × St) : Prop :=
  Met l y (.code y bytes maxL rt :: tb) (rmD lev) (va_Pc args (PW G S)) (QV G q) 0 0 (Aw G)
def MR (l : Launch) (G : VG) (y : MethodName) (bytes : ByteArray) (maxL : Nat) (rt : Option FieldType) (lev : Nat) (args : List Value) (S : St) (q : Nat × St) : Prop :=
  Met l y (.code y bytes maxL rt :: tb) (rmD lev) (va_Pc args (PW G S)) (QR G q) 0 0 (Aw G)
def Rt (X : VX) : Option FieldType := X.2.2.2.2.2.2.2.2.1.sig.returnType
def ZQ (X : VX) (G : VG) (Qc : Array Value → State → Outcome → State → Prop) : State → Prop := MQ X.2.2.2.2.2.2.2.1 Qc X.2.2.2.2.2.2.1 X.2.2.2.2.1 X.2.2.2.2.2.2.2.2.2.2.1 X.2.2.2.2.2.2.2.2.2.2.2 (Aw G)
theorem tbl_good : GoodIn tb tb := fun w hw => ⟨hw, good_of_word (List.mem_filter.mp hw).2⟩
/-! the locals at a method's entry -/
def lvQ : List Value → List (Option Value)
  | [] => []
  | v :: vs => if v.category = 2 then some v :: none :: lvQ vs else some v :: lvQ vs
def lvA (vs : List Value) (n : Nat) : List (Option Value) := lvQ vs ++ List.replicate (n - (lvQ vs).length) none
theorem lvQ_args : ∀ (vs : List Value) (k i : Nat) (v : Value), (lvQ vs)[i]? = some (some v) → (k + i, v) ∈ lv_args k vs := by
  intro vs
  induction vs with
  | nil => intro k i v h; simp [lvQ] at h
  | cons w vs ih =>
    intro k i v h
    by_cases hc : w.category = 2
    · simp only [lvQ, hc, if_true] at h
      simp only [lv_args, hc, if_true]
      match i, h with
      | 0, h => simp at h; subst h; simp
      | 1, h => simp at h
      | i + 2, h =>
        simp only [List.getElem?_cons_succ] at h
        have := ih (k + 2) i v h
        rw [show k + (i + 2) = k + 2 + i by omega]
        exact List.mem_cons_of_mem _ this
    · simp only [lvQ, hc, if_false] at h
      simp only [lv_args, hc, if_false]
      match i, h with
      | 0, h => simp at h; subst h; simp
      | i + 1, h =>
        simp only [List.getElem?_cons_succ] at h
        have := ih (k + 1) i v h
        rw [show k + (i + 1) = k + 1 + i by omega]
        exact List.mem_cons_of_mem _ this
theorem lvA_has {vs : List Value} {n : Nat} {ls : Array Slot} (h : lv_has ls n (lv_args 0 vs)) : lvR ls n (lvA vs n) := by
  refine ⟨h.1, h.2.1, fun i v hi => ?_⟩
  have h1 : (lvQ vs)[i]? = some (some v) := by
    by_cases hl : i < (lvQ vs).length
    · rw [lvA, List.getElem?_append_left hl] at hi
      exact hi
    · rw [lvA, List.getElem?_append_right (by omega)] at hi
      exact absurd (List.eq_of_mem_replicate (List.mem_of_getElem? hi)) (by simp)
  have := lvQ_args vs 0 i v h1
  rw [Nat.zero_add] at this
  exact h.2.2 (i, v) this
theorem met_of {l : Launch} {G : VG} {y : MethodName} {bytes : ByteArray} {maxL lev : Nat} {rt : Option FieldType} {args : List Value} {S : St} {Qc : Array Value → State → Outcome → State → Prop} (hy : plainName y.cls = true) (hn : (lg_sl args).length ≤ maxL)
    (body : ∀ X : VX, X.2.1 = l → Fx X G bytes maxL y.cls lev → Rt X = rt → V X G maxL (ZQ X G Qc) 0 (lvA args maxL) [] S) : Met l y (.code y bytes maxL rt :: tb) (rmD lev) (va_Pc args (PW G S)) Qc 0 0 (Aw G) := by
  refine Met.ofW (cc := bytes) (maxL := maxL) (ret := rt) hy rfl ?_
  intro p e s m args' below meth c s₁ B hml hv
  obtain ⟨rfl, hP, hE⟩ := hv
  have hts := atoms_spec (ws := .code y bytes maxL rt :: tb) B.pre
  have hl := lv_entry args (n := maxL) hn
  rw [lg_entry_eq]
  exact body (p, l, e, rmD lev, s, m, args.toArray, below, meth, c, 0, 0) rfl ⟨B.exec, B.bytes, hml, findClass_of_methodNamed B.named, fun w h => hts w (List.mem_cons_of_mem _ h), hE, ⟨Nat.le_refl _, Nat.le_refl _, Nat.le_refl _, Nat.le_refl _⟩, B.notSynchronized⟩ B.returns s.heap [] _ hP va_S.rf (lvA_has hl)
/-! returns -/
section
variable {X : VX} {G : VG} {cc : ByteArray} {nL lev pc n : Nat} {own : String} {lv : List (Option Value)} {S : St}
theorem v_iret {q : Int32 × St} {x : Int32} (hX : Fx X G cc nL own lev) (hr : Rt X = some .int) (hd : Dn cc pc .ireturn 1 n) (h : some (x, S) = some q) : V X G nL (ZQ X G (QI G q)) pc lv [.int x] S := by
  cases h
  obtain ⟨hx, hb, hml, hown, hts, hE, hR, hlk⟩ := hX
  intro H locs ls hP hS hl
  exact W.iret hx hb hr (fun t ht hW => ⟨⟨x, S, rfl, ⟨rfl, rfl⟩, by subst ht; exact hP⟩, hS.F ht⟩) hS.2.2 hd.1 hlk
theorem v_zret {q : Int32 × St} {x : Int32} (hX : Fx X G cc nL own lev) (hr : Rt X = some .boolean) (hd : Dn cc pc .ireturn 1 n) (hb0 : isB x = true) (h : some (x, S) = some q) : V X G nL (ZQ X G (QI G q)) pc lv [.int x] S := by
  cases h
  obtain ⟨hx, hb, hml, hown, hts, hE, hR, hlk⟩ := hX
  intro H locs ls hP hS hl
  exact W.zret hx hb hr (by rcases isB_or hb0 with rfl | rfl <;> rfl) (fun t ht hW => ⟨⟨x, S, rfl, ⟨rfl, rfl⟩, by subst ht; exact hP⟩, hS.F ht⟩) hS.2.2 hd.1 hlk
theorem v_lret {q : Int64 × St} {x : Int64} (hX : Fx X G cc nL own lev) (hr : Rt X = some .long) (hd : Dn cc pc .lreturn 1 n) (h : some (x, S) = some q) : V X G nL (ZQ X G (QL G q)) pc lv [.long x] S := by
  cases h
  obtain ⟨hx, hb, hml, hown, hts, hE, hR, hlk⟩ := hX
  intro H locs ls hP hS hl
  exact W.lret hx hb hr (fun t ht hW => ⟨⟨x, S, rfl, ⟨rfl, rfl⟩, by subst ht; exact hP⟩, hS.F ht⟩) hS.2.2 hd.1 hlk
theorem v_vret {q : Unit × St} (hX : Fx X G cc nL own lev) (hr : Rt X = none) (hd : Dn cc pc .return_ 1 n) (h : some ((), S) = some q) : V X G nL (ZQ X G (QV G q)) pc lv [] S := by
  cases h
  obtain ⟨hx, hb, hml, hown, hts, hE, hR, hlk⟩ := hX
  intro H locs ls hP hS hl
  exact W.vret hx hb hr (fun t ht hW => ⟨⟨S, rfl, rfl, by subst ht; exact hP⟩, hS.F ht⟩) hS.2.2 hd.1 hlk
theorem v_aret {q : Nat × St} {x : Nat} {nm : String} (hX : Fx X G cc nL own lev) (hr : Rt X = some (.object nm)) (hd : Dn cc pc .areturn 1 n) (h : some (x, S) = some q) : V X G nL (ZQ X G (QR G q)) pc lv [.ref (G.2.1 x)] S := by
  cases h
  obtain ⟨hx, hb, hml, hown, hts, hE, hR, hlk⟩ := hX
  intro H locs ls hP hS hl
  exact W.aret hx hb hr (Or.inl ⟨nm, rfl⟩) (Or.inr ⟨_, rfl⟩) (fun t ht hW => ⟨⟨S, _, rfl, rfl, rfl, by subst ht; exact hP⟩, hS.F ht⟩) hS.2.2 hd.1 hlk
end
/-! calls -/
/-- the words of a virtual call -/
def CW (own : String) (idx : Nat) (C : String) (y : MethodName) (bytes : ByteArray) (maxL : Nat) (rt : Option FieldType) (na : Nat) : Prop :=
  Cond.methodLink own idx y ∈ tb ∧ Cond.instanceMethod y ∈ tb ∧ Cond.selects C y y ∈ tb ∧ Cond.initialized C ∈ tb ∧ Cond.code y bytes maxL rt ∈ tb ∧ (y.cls = C ∧ y.cls ≠ "java/lang/invoke/MethodHandle" ∧ y.cls ≠ "java/lang/invoke/VarHandle" ∧ (parseMethodDescriptor y.desc).map (fun d => d.parameters.length) = some na) ∧ maxL ≤ 21
/-- the words of a static call -/
def CS (own : String) (idx : Nat) (y : MethodName) (bytes : ByteArray) (maxL : Nat) (rt : Option FieldType) (na : Nat) : Prop :=
  Cond.methodLink own idx y ∈ tb ∧ Cond.static y ∈ tb ∧ Cond.initialized y.cls ∈ tb ∧ Cond.code y bytes maxL rt ∈ tb ∧ (y.cls ≠ "java/lang/invoke/MethodHandle" ∧ y.cls ≠ "java/lang/invoke/VarHandle" ∧ (parseMethodDescriptor y.desc).map (fun d => d.parameters.length) = some na) ∧ maxL ≤ 21
/-- the cell c is an object of the class C -/
def OC (c : Nat) (C : String) : Prop := ∃ (ci : Nat) (q : vw_C), c < 69 ∧ (sh c).1 = ci ∧ ci < 8 ∧ vwCl[ci]? = some q ∧ q.1 = C
theorem tbl_cons {y : MethodName} {bytes : ByteArray} {maxL : Nat} {rt : Option FieldType} (h : Cond.code y bytes maxL rt ∈ tb) : GoodIn tb (.code y bytes maxL rt :: tb) := fun w hw => by
  rcases List.mem_cons.mp hw with rfl | hw
  · exact tbl_good _ h
  · exact tbl_good _ hw
theorem pw_blind {G : VG} {S : St} {as : List Value} : FrameBlind (va_Pc as (PW G S)) := fun a U g mk q => ⟨q.1, q.2.1, q.2.2.blind⟩
section
variable {X : VX} {G : VG} {cc : ByteArray} {nL lev pc n : Nat} {own : String} {Q : State → Prop} {lv : List (Option Value)} {st stk : List Value} {S : St} {C : String} {idx : Nat} {y : MethodName} {bytes : ByteArray} {maxL na lev' c : Nat} {rt : Option FieldType} {As : List Value} {Qc : Array Value → State → Outcome → State → Prop}
theorem run_V (hX : Fx X G cc nL own lev) (hd : Dn cc pc (.invokevirtual idx) 3 n) (hw : CW own idx C y bytes maxL rt na) (hlev : lev' + 1 ≤ lev) (hc : OC c C) (hst : stk = As.reverse ++ .ref (G.2.1 c) :: st) (hn : As.length = na) (hcat : (st.map fun v => v.category).sum ≤ 8)
    (hM : Met X.2.1 y (.code y bytes maxL rt :: tb) (rmD lev') (va_Pc (.ref (G.2.1 c) :: As) (PW G S)) Qc 0 0 (Aw G)) {H : Heap} {locs : List Loc} {ls : Array Slot} (hP : va_P G.1 vwCl (wld G S) H) (hS : va_S (Aw G) X.2.2.2.2.1.heap H locs) (hl : lvR ls nL lv) :
    va_Run X.1 X.2.1 X.2.2.1 X.2.2.2.1 X.2.2.2.2.1 X.2.2.2.2.2.1 X.2.2.2.2.2.2.1 X.2.2.2.2.2.2.2.1 X.2.2.2.2.2.2.2.2.1 X.2.2.2.2.2.2.2.2.2.1 H locs X.2.2.2.2.2.2.2.2.2.2.1 X.2.2.2.2.2.2.2.2.2.2.2 0 0 (F0 X.2.2.2.2.2.1 pc ls stk) st (Qc (Value.ref (G.2.1 c) :: As).toArray) (Aw G) := by
  obtain ⟨hx, hb, hml, hown, hts, hE, hR, hlk⟩ := hX
  obtain ⟨w1, w2, w3, w4, w5, w6, w7⟩ := hw
  obtain ⟨ci, q, c1, c2, c3, c4, c5⟩ := hc
  have hcell : ∃ fs : List Value, cellOf G S c = .inr (ci, fs) := ⟨_, by simp only [cellOf, c2, c3, if_true]; rfl⟩
  obtain ⟨fs, hfs⟩ := hcell
  have hrecv := va_recv hE.1 hP c4 (show (wld G S)[c]? = some (G.2.1 c, .inr (ci, fs)) by rw [wld_get G S c1, hfs])
  rw [c5] at hrecv
  have cb := callB_of (R := X.2.2.2.1) (rm := rmD lev') (mc := 0) (ms := 0) na hts (tbl_cons w5) rfl rfl rfl (hts _ (by rw [w6.1]; exact w4)) (hts _ w1) w6.2 (by
    refine ⟨?_, ?_⟩
    · show lev' + 1 + 1 ≤ _
      omega
    · show 8 + (maxL + 11) + 40 * (lev' + 1) ≤ _
      omega)
  subst hst
  exact va_runV (As := As) (rest := st) (Ts := tb) ⟨hx, hb, hml, hown, hts⟩ hM ⟨cb, hts _ w2, hts _ w3⟩ ⟨pw_blind, hrecv, fun U hU hW => ⟨rfl, by rw [hU]; exact hP, hE.go hS hU hW⟩⟩ rfl hn hl.1 rfl (lv_room hcat) hd.1 ⟨hR.2.2.1, hR.2.2.2⟩
theorem run_S (hX : Fx X G cc nL own lev) (hd : Dn cc pc (.invokestatic idx) 3 n) (hw : CS own idx y bytes maxL rt na) (hlev : lev' + 1 ≤ lev) (hst : stk = As.reverse ++ st) (hn : As.length = na) (hcat : (st.map fun v => v.category).sum ≤ 8)
    (hM : Met X.2.1 y (.code y bytes maxL rt :: tb) (rmD lev') (va_Pc As (PW G S)) Qc 0 0 (Aw G)) {H : Heap} {locs : List Loc} {ls : Array Slot} (hP : va_P G.1 vwCl (wld G S) H) (hS : va_S (Aw G) X.2.2.2.2.1.heap H locs) (hl : lvR ls nL lv) :
    va_Run X.1 X.2.1 X.2.2.1 X.2.2.2.1 X.2.2.2.2.1 X.2.2.2.2.2.1 X.2.2.2.2.2.2.1 X.2.2.2.2.2.2.2.1 X.2.2.2.2.2.2.2.2.1 X.2.2.2.2.2.2.2.2.2.1 H locs X.2.2.2.2.2.2.2.2.2.2.1 X.2.2.2.2.2.2.2.2.2.2.2 0 0 (F0 X.2.2.2.2.2.1 pc ls stk) st (Qc As.toArray) (Aw G) := by
  obtain ⟨hx, hb, hml, hown, hts, hE, hR, hlk⟩ := hX
  obtain ⟨w1, w2, w4, w5, w6, w7⟩ := hw
  have cb := callB_of (R := X.2.2.2.1) (rm := rmD lev') (mc := 0) (ms := 0) na hts (tbl_cons w5) rfl rfl rfl (hts _ w4) (hts _ w1) w6 (by
    refine ⟨?_, ?_⟩
    · show lev' + 1 + 1 ≤ _
      omega
    · show 8 + (maxL + 11) + 40 * (lev' + 1) ≤ _
      omega)
  subst hst
  exact va_runS (As := As) (rest := st) (Ts := tb) ⟨hx, hb, hml, hown, hts⟩ hM ⟨cb, hts _ w2⟩ ⟨pw_blind, fun U hU hW => ⟨rfl, by rw [hU]; exact hP, hE.go hS hU hW⟩⟩ rfl hn hl.1 rfl (lv_room hcat) hd.1 ⟨hR.2.2.1, hR.2.2.2⟩
theorem v_cvI {q : Int32 × St} (hX : Fx X G cc nL own lev) (hd : Dn cc pc (.invokevirtual idx) 3 n) (hw : CW own idx C y bytes maxL rt na) (hM : MI X.2.1 G y bytes maxL rt lev' (.ref (G.2.1 c) :: As) S q) (hlev : lev' + 1 ≤ lev) (hc : OC c C) (hst : stk = As.reverse ++ .ref (G.2.1 c) :: st) (hn : As.length = na) (hcat : (st.map fun v => v.category).sum ≤ 8) (k : V X G nL Q n lv (.int q.1 :: st) q.2) : V X G nL Q pc lv stk S := by
  intro H locs ls hP hS hl
  refine va_calli (run_V hX hd hw hlev hc hst hn hcat hM hP hS hl) hS (fun _ _ h => h) (fun _ h => h) (fun r u t H1 locs1 ht hvm hpo hB hz hk hS1 => ?_)
  obtain ⟨rfl, rfl⟩ := hpo
  obtain ⟨-, rfl⟩ := hd
  rw [ht] at hB
  exact k H1 locs1 ls hB hS1 hl
theorem v_cvL {q : Int64 × St} (hX : Fx X G cc nL own lev) (hd : Dn cc pc (.invokevirtual idx) 3 n) (hw : CW own idx C y bytes maxL rt na) (hM : ML X.2.1 G y bytes maxL rt lev' (.ref (G.2.1 c) :: As) S q) (hlev : lev' + 1 ≤ lev) (hc : OC c C) (hst : stk = As.reverse ++ .ref (G.2.1 c) :: st) (hn : As.length = na) (hcat : (st.map fun v => v.category).sum ≤ 8) (k : V X G nL Q n lv (.long q.1 :: st) q.2) : V X G nL Q pc lv stk S := by
  intro H locs ls hP hS hl
  refine va_calll (run_V hX hd hw hlev hc hst hn hcat hM hP hS hl) hS (fun _ _ h => h) (fun _ h => h) (fun r u t H1 locs1 ht hvm hpo hB hz hk hS1 => ?_)
  obtain ⟨rfl, rfl⟩ := hpo
  obtain ⟨-, rfl⟩ := hd
  rw [ht] at hB
  exact k H1 locs1 ls hB hS1 hl
theorem v_cvV {q : Unit × St} (hX : Fx X G cc nL own lev) (hd : Dn cc pc (.invokevirtual idx) 3 n) (hw : CW own idx C y bytes maxL rt na) (hM : MV X.2.1 G y bytes maxL rt lev' (.ref (G.2.1 c) :: As) S q) (hlev : lev' + 1 ≤ lev) (hc : OC c C) (hst : stk = As.reverse ++ .ref (G.2.1 c) :: st) (hn : As.length = na) (hcat : (st.map fun v => v.category).sum ≤ 8) (k : V X G nL Q n lv st q.2) : V X G nL Q pc lv stk S := by
  intro H locs ls hP hS hl
  refine va_callv (run_V hX hd hw hlev hc hst hn hcat hM hP hS hl) hS (fun _ _ h => h) (fun _ h => h) (fun u t H1 locs1 ht hvm hpo hB hz hk hS1 => ?_)
  cases hpo
  obtain ⟨-, rfl⟩ := hd
  rw [ht] at hB
  exact k H1 locs1 ls hB hS1 hl
theorem v_cvR {q : Nat × St} (hX : Fx X G cc nL own lev) (hd : Dn cc pc (.invokevirtual idx) 3 n) (hw : CW own idx C y bytes maxL rt na) (hM : MR X.2.1 G y bytes maxL rt lev' (.ref (G.2.1 c) :: As) S q) (hlev : lev' + 1 ≤ lev) (hc : OC c C) (hst : stk = As.reverse ++ .ref (G.2.1 c) :: st) (hn : As.length = na) (hcat : (st.map fun v => v.category).sum ≤ 8) (k : V X G nL Q n lv (.ref (G.2.1 q.1) :: st) q.2) : V X G nL Q pc lv stk S := by
  intro H locs ls hP hS hl
  refine va_callr (run_V hX hd hw hlev hc hst hn hcat hM hP hS hl) hS (fun _ _ h => h) (fun _ h => h) (fun u ra t H1 locs1 ht hvm hpo hB hz hk hS1 => ?_)
  cases hpo
  obtain ⟨-, rfl⟩ := hd
  obtain ⟨rfl, hB⟩ := hB
  rw [ht] at hB
  exact k H1 locs1 ls hB hS1 hl
theorem v_csI {q : Int32 × St} (hX : Fx X G cc nL own lev) (hd : Dn cc pc (.invokestatic idx) 3 n) (hw : CS own idx y bytes maxL rt na) (hM : MI X.2.1 G y bytes maxL rt lev' As S q) (hlev : lev' + 1 ≤ lev) (hst : stk = As.reverse ++ st) (hn : As.length = na) (hcat : (st.map fun v => v.category).sum ≤ 8) (k : V X G nL Q n lv (.int q.1 :: st) q.2) : V X G nL Q pc lv stk S := by
  intro H locs ls hP hS hl
  refine va_calli (run_S hX hd hw hlev hst hn hcat hM hP hS hl) hS (fun _ _ h => h) (fun _ h => h) (fun r u t H1 locs1 ht hvm hpo hB hz hk hS1 => ?_)
  obtain ⟨rfl, rfl⟩ := hpo
  obtain ⟨-, rfl⟩ := hd
  rw [ht] at hB
  exact k H1 locs1 ls hB hS1 hl
theorem v_csL {q : Int64 × St} (hX : Fx X G cc nL own lev) (hd : Dn cc pc (.invokestatic idx) 3 n) (hw : CS own idx y bytes maxL rt na) (hM : ML X.2.1 G y bytes maxL rt lev' As S q) (hlev : lev' + 1 ≤ lev) (hst : stk = As.reverse ++ st) (hn : As.length = na) (hcat : (st.map fun v => v.category).sum ≤ 8) (k : V X G nL Q n lv (.long q.1 :: st) q.2) : V X G nL Q pc lv stk S := by
  intro H locs ls hP hS hl
  refine va_calll (run_S hX hd hw hlev hst hn hcat hM hP hS hl) hS (fun _ _ h => h) (fun _ h => h) (fun r u t H1 locs1 ht hvm hpo hB hz hk hS1 => ?_)
  obtain ⟨rfl, rfl⟩ := hpo
  obtain ⟨-, rfl⟩ := hd
  rw [ht] at hB
  exact k H1 locs1 ls hB hS1 hl
theorem v_csV {q : Unit × St} (hX : Fx X G cc nL own lev) (hd : Dn cc pc (.invokestatic idx) 3 n) (hw : CS own idx y bytes maxL rt na) (hM : MV X.2.1 G y bytes maxL rt lev' As S q) (hlev : lev' + 1 ≤ lev) (hst : stk = As.reverse ++ st) (hn : As.length = na) (hcat : (st.map fun v => v.category).sum ≤ 8) (k : V X G nL Q n lv st q.2) : V X G nL Q pc lv stk S := by
  intro H locs ls hP hS hl
  refine va_callv (run_S hX hd hw hlev hst hn hcat hM hP hS hl) hS (fun _ _ h => h) (fun _ h => h) (fun u t H1 locs1 ht hvm hpo hB hz hk hS1 => ?_)
  cases hpo
  obtain ⟨-, rfl⟩ := hd
  rw [ht] at hB
  exact k H1 locs1 ls hB hS1 hl
end
end
section
/-! ===== words of the functions ===== -/
def FU : Nat := 1000000
def gd {α : Type} (b : Bool) (k : Option α) : Option α := if b = true then k else none
def bd {α β : Type} (o : Option (α × St)) (k : α → St → Option β) : Option β := match o with
  | none => none
  | some x => k x.1 x.2
theorem gd_e {α : Type} {b : Bool} {k : Option α} {q : α} (h : gd b k = some q) : b = true ∧ k = some q := by
  cases b with
  | false => cases h
  | true => exact ⟨rfl, h⟩
theorem bd_e {α β : Type} {o : Option (α × St)} {k : α → St → Option β} {q : β} (h : bd o k = some q) : ∃ x, o = some x ∧ k x.1 x.2 = some q := by
  cases o with
  | none => cases h
  | some x => exact ⟨x, rfl, h⟩
theorem it_t {α : Type} {c : Prop} {dc : Decidable c} {a b : Option α} {q : α} (hc : c) (h : @ite _ c dc a b = some q) : a = some q := by rwa [if_pos hc] at h
theorem it_f {α : Type} {c : Prop} {dc : Decidable c} {a b : Option α} {q : α} (hc : ¬ c) (h : @ite _ c dc a b = some q) : b = some q := by rwa [if_neg hc] at h
theorem cs_e {α : Type} {c : Prop} {dc : Decidable c} {a b : Option α} {q : α} {Z : Prop} (h : @ite _ c dc a b = some q) (kt : c → a = some q → Z) (kf : ¬ c → b = some q → Z) : Z := by
  cases dc with
  | isTrue hc => exact kt hc h
  | isFalse hc => exact kf hc h
def nzI (x : Int32) : Bool := decide (¬ x = 0)
theorem nzI_e {x : Int32} (h : nzI x = true) : ¬ x = 0 := of_decide_eq_true h
def nzL (x : Int64) : Bool := decide (¬ x = 0)
theorem nzL_e {x : Int64} (h : nzL x = true) : ¬ x = 0 := of_decide_eq_true h
theorem tab_outN (n : Nat) (hn : n < 2 ^ 31) {x : Int32} (h : ∀ j : Nat, j < n + 1 → ¬ x = nI j) : x.toInt < 0 ∨ (n : Int) < x.toInt := by
  by_cases hx : x.toInt < 0
  · exact Or.inl hx
  · refine Or.inr (Int.not_le.mp fun hle => ?_)
    have h0 : ¬ x < 0 := fun q => hx (by simpa [Int32.lt_iff_toInt_lt] using q)
    obtain ⟨j, hj, e⟩ := nI_of h0
    rw [e, nI_toInt hj] at hle
    exact h j (by omega) e

theorem tab_out4 {x : Int32} (h0 : ¬ x = 0) (h1 : ¬ x = 1) (h2 : ¬ x = 2) (h3 : ¬ x = 3) : x.toInt < 0 ∨ (3 : Int) < x.toInt := tab_outN 3 (by decide) (fun j hj => by
  match j, hj with
  | 0, _ => exact h0
  | 1, _ => exact h1
  | 2, _ => exact h2
  | 3, _ => exact h3
  | j + 4, hj => omega)
theorem tab_out5 {x : Int32} (h0 : ¬ x = 0) (h1 : ¬ x = 1) (h2 : ¬ x = 2) (h3 : ¬ x = 3) (h4 : ¬ x = 4) : x.toInt < 0 ∨ (4 : Int) < x.toInt := tab_outN 4 (by decide) (fun j hj => by
  match j, hj with
  | 0, _ => exact h0
  | 1, _ => exact h1
  | 2, _ => exact h2
  | 3, _ => exact h3
  | 4, _ => exact h4
  | j + 5, hj => omega)
theorem tab_out6 {x : Int32} (h0 : ¬ x = 0) (h1 : ¬ x = 1) (h2 : ¬ x = 2) (h3 : ¬ x = 3) (h4 : ¬ x = 4) (h5 : ¬ x = 5) : x.toInt < 0 ∨ (5 : Int) < x.toInt := tab_outN 5 (by decide) (fun j hj => by
  match j, hj with
  | 0, _ => exact h0
  | 1, _ => exact h1
  | 2, _ => exact h2
  | 3, _ => exact h3
  | 4, _ => exact h4
  | 5, _ => exact h5
  | j + 6, hj => omega)
theorem tab_out31 {x : Int32} (h0 : ¬ x = 0) (h1 : ¬ x = 1) (h2 : ¬ x = 2) (h3 : ¬ x = 3) (h4 : ¬ x = 4) (h5 : ¬ x = 5) (h6 : ¬ x = 6) (h7 : ¬ x = 7) (h8 : ¬ x = 8) (h9 : ¬ x = 9) (h10 : ¬ x = 10) (h11 : ¬ x = 11) (h12 : ¬ x = 12) (h13 : ¬ x = 13) (h14 : ¬ x = 14) (h15 : ¬ x = 15) (h16 : ¬ x = 16) (h17 : ¬ x = 17) (h18 : ¬ x = 18) (h19 : ¬ x = 19) (h20 : ¬ x = 20) (h21 : ¬ x = 21) (h22 : ¬ x = 22) (h23 : ¬ x = 23) (h24 : ¬ x = 24) (h25 : ¬ x = 25) (h26 : ¬ x = 26) (h27 : ¬ x = 27) (h28 : ¬ x = 28) (h29 : ¬ x = 29) (h30 : ¬ x = 30) : x.toInt < 0 ∨ (30 : Int) < x.toInt := tab_outN 30 (by decide) (fun j hj => by
  match j, hj with
  | 0, _ => exact h0
  | 1, _ => exact h1
  | 2, _ => exact h2
  | 3, _ => exact h3
  | 4, _ => exact h4
  | 5, _ => exact h5
  | 6, _ => exact h6
  | 7, _ => exact h7
  | 8, _ => exact h8
  | 9, _ => exact h9
  | 10, _ => exact h10
  | 11, _ => exact h11
  | 12, _ => exact h12
  | 13, _ => exact h13
  | 14, _ => exact h14
  | 15, _ => exact h15
  | 16, _ => exact h16
  | 17, _ => exact h17
  | 18, _ => exact h18
  | 19, _ => exact h19
  | 20, _ => exact h20
  | 21, _ => exact h21
  | 22, _ => exact h22
  | 23, _ => exact h23
  | 24, _ => exact h24
  | 25, _ => exact h25
  | 26, _ => exact h26
  | 27, _ => exact h27
  | 28, _ => exact h28
  | 29, _ => exact h29
  | 30, _ => exact h30
  | j + 31, hj => omega)
def isSch (t : Nat) : Bool := t == 3 || t == 9
theorem isSch_or {t : Nat} (h : isSch t = true) : t = 3 ∨ t = 9 := by simpa [isSch, or_assoc] using h
theorem fk_Sch_0 {t : Nat} (h : isSch t = true) : FI t 0 3 0 0 := by rcases isSch_or h with rfl | rfl <;> exact ⟨by decide, rfl, by decide, rfl⟩
theorem fk_Sch_1 {t : Nat} (h : isSch t = true) : FI t 1 3 0 0 := by rcases isSch_or h with rfl | rfl <;> exact ⟨by decide, rfl, by decide, rfl⟩
theorem fk_Sch_2 {t : Nat} (h : isSch t = true) : FI t 2 3 1 (t + 1) := by rcases isSch_or h with rfl | rfl <;> exact ⟨by decide, rfl, by decide, rfl⟩
theorem ak_Sch_1 {t : Nat} (h : isSch t = true) : AI (t + 1) 9 6 := by rcases isSch_or h with rfl | rfl <;> exact ⟨by decide, rfl, by decide, rfl⟩
theorem fk_Sch_3 {t : Nat} (h : isSch t = true) : FI t 3 3 1 (t + 2) := by rcases isSch_or h with rfl | rfl <;> exact ⟨by decide, rfl, by decide, rfl⟩
theorem ak_Sch_2 {t : Nat} (h : isSch t = true) : AI (t + 2) 9 6 := by rcases isSch_or h with rfl | rfl <;> exact ⟨by decide, rfl, by decide, rfl⟩
theorem fk_Sch_4 {t : Nat} (h : isSch t = true) : FI t 4 3 1 (t + 3) := by rcases isSch_or h with rfl | rfl <;> exact ⟨by decide, rfl, by decide, rfl⟩
theorem ak_Sch_3 {t : Nat} (h : isSch t = true) : AI (t + 3) 9 6 := by rcases isSch_or h with rfl | rfl <;> exact ⟨by decide, rfl, by decide, rfl⟩
theorem fk_Sch_5 {t : Nat} (h : isSch t = true) : FI t 5 3 1 (t + 4) := by rcases isSch_or h with rfl | rfl <;> exact ⟨by decide, rfl, by decide, rfl⟩
theorem ak_Sch_4 {t : Nat} (h : isSch t = true) : AI (t + 4) 9 6 := by rcases isSch_or h with rfl | rfl <;> exact ⟨by decide, rfl, by decide, rfl⟩
theorem fk_Sch_6 {t : Nat} (h : isSch t = true) : FI t 6 3 1 (t + 5) := by rcases isSch_or h with rfl | rfl <;> exact ⟨by decide, rfl, by decide, rfl⟩
theorem ak_Sch_5 {t : Nat} (h : isSch t = true) : AI (t + 5) 9 36 := by rcases isSch_or h with rfl | rfl <;> exact ⟨by decide, rfl, by decide, rfl⟩
theorem oc_Sch {t : Nat} (h : isSch t = true) : OC t RX3 := by rcases isSch_or h with rfl | rfl <;> exact ⟨3, _, by decide, rfl, by decide, rfl, rfl⟩
theorem ne99_Sch {t : Nat} (h : isSch t = true) : t ≠ 99 := by rcases isSch_or h with rfl | rfl <;> decide
def isStd (t : Nat) : Bool := t == 15 || t == 17 || t == 19 || t == 21
theorem isStd_or {t : Nat} (h : isStd t = true) : t = 15 ∨ t = 17 ∨ t = 19 ∨ t = 21 := by simpa [isStd, or_assoc] using h
theorem fk_Std_0 {t : Nat} (h : isStd t = true) : FI t 0 5 1 (t + 1) := by rcases isStd_or h with rfl | rfl | rfl | rfl <;> exact ⟨by decide, rfl, by decide, rfl⟩
theorem ak_Std_1 {t : Nat} (h : isStd t = true) : AI (t + 1) 9 36 := by rcases isStd_or h with rfl | rfl | rfl | rfl <;> exact ⟨by decide, rfl, by decide, rfl⟩
theorem fk_Std_1 {t : Nat} (h : isStd t = true) : FI t 1 5 0 0 := by rcases isStd_or h with rfl | rfl | rfl | rfl <;> exact ⟨by decide, rfl, by decide, rfl⟩
theorem fk_Std_2 {t : Nat} (h : isStd t = true) : FI t 2 5 0 0 := by rcases isStd_or h with rfl | rfl | rfl | rfl <;> exact ⟨by decide, rfl, by decide, rfl⟩
theorem fk_Std_3 {t : Nat} (h : isStd t = true) : FI t 3 5 0 0 := by rcases isStd_or h with rfl | rfl | rfl | rfl <;> exact ⟨by decide, rfl, by decide, rfl⟩
theorem oc_Std {t : Nat} (h : isStd t = true) : OC t RX5 := by rcases isStd_or h with rfl | rfl | rfl | rfl <;> exact ⟨5, _, by decide, rfl, by decide, rfl, rfl⟩
theorem ne99_Std {t : Nat} (h : isStd t = true) : t ≠ 99 := by rcases isStd_or h with rfl | rfl | rfl | rfl <;> decide
def isSea (t : Nat) : Bool := t == 38 || t == 40 || t == 42
theorem isSea_or {t : Nat} (h : isSea t = true) : t = 38 ∨ t = 40 ∨ t = 42 := by simpa [isSea, or_assoc] using h
theorem fk_Sea_0 {t : Nat} (h : isSea t = true) : FI t 0 4 1 (t + 1) := by rcases isSea_or h with rfl | rfl | rfl <;> exact ⟨by decide, rfl, by decide, rfl⟩
theorem ak_Sea_1 {t : Nat} (h : isSea t = true) : AI (t + 1) 9 10000 := by rcases isSea_or h with rfl | rfl | rfl <;> exact ⟨by decide, rfl, by decide, rfl⟩
theorem fk_Sea_1 {t : Nat} (h : isSea t = true) : FI t 1 4 0 0 := by rcases isSea_or h with rfl | rfl | rfl <;> exact ⟨by decide, rfl, by decide, rfl⟩
theorem oc_Sea {t : Nat} (h : isSea t = true) : OC t RX4 := by rcases isSea_or h with rfl | rfl | rfl <;> exact ⟨4, _, by decide, rfl, by decide, rfl, rfl⟩
theorem ne99_Sea {t : Nat} (h : isSea t = true) : t ≠ 99 := by rcases isSea_or h with rfl | rfl | rfl <;> decide
def isLA (t : Nat) : Bool := t == 34 || t == 35
theorem isLA_or {t : Nat} (h : isLA t = true) : t = 34 ∨ t = 35 := by simpa [isLA, or_assoc] using h
theorem ak_LA {t : Nat} (h : isLA t = true) : AI t 10 1000 := by rcases isLA_or h with rfl | rfl <;> exact ⟨by decide, rfl, by decide, rfl⟩
def isFA (t : Nat) : Bool := t == 39 || t == 41 || t == 43
theorem isFA_or {t : Nat} (h : isFA t = true) : t = 39 ∨ t = 41 ∨ t = 43 := by simpa [isFA, or_assoc] using h
theorem ak_FA {t : Nat} (h : isFA t = true) : AI t 9 10000 := by rcases isFA_or h with rfl | rfl | rfl <;> exact ⟨by decide, rfl, by decide, rfl⟩
def isLev (t : Nat) : Bool := t == 16 || t == 18 || t == 20 || t == 22
theorem isLev_or {t : Nat} (h : isLev t = true) : t = 16 ∨ t = 18 ∨ t = 20 ∨ t = 22 := by simpa [isLev, or_assoc] using h
theorem ak_Lev {t : Nat} (h : isLev t = true) : AI t 9 36 := by rcases isLev_or h with rfl | rfl | rfl | rfl <;> exact ⟨by decide, rfl, by decide, rfl⟩
def isFst (t : Nat) : Bool := t == 8 || t == 14
theorem isFst_or {t : Nat} (h : isFst t = true) : t = 8 ∨ t = 14 := by simpa [isFst, or_assoc] using h
theorem ak_Fst {t : Nat} (h : isFst t = true) : AI t 9 36 := by rcases isFst_or h with rfl | rfl <;> exact ⟨by decide, rfl, by decide, rfl⟩
theorem Lev_of_Std {t : Nat} (h : isStd t = true) : isLev (t + 1) = true := by rcases isStd_or h with rfl | rfl | rfl | rfl <;> rfl
theorem Fst_of_Sch {t : Nat} (h : isSch t = true) : isFst (t + 5) = true := by rcases isSch_or h with rfl | rfl <;> rfl
theorem FA_of_Sea {t : Nat} (h : isSea t = true) : isFA (t + 1) = true := by rcases isSea_or h with rfl | rfl | rfl <;> rfl
theorem fk_0_0 : FI 0 0 6 1 1 := ⟨by decide, rfl, by decide, rfl⟩
theorem fk_0_1 : FI 0 1 6 2 0 := ⟨by decide, rfl, by decide, rfl⟩
theorem fk_0_2 : FI 0 2 6 2 0 := ⟨by decide, rfl, by decide, rfl⟩
theorem fk_0_3 : FI 0 3 6 1 15 := ⟨by decide, rfl, by decide, rfl⟩
theorem fk_0_4 : FI 0 4 6 1 17 := ⟨by decide, rfl, by decide, rfl⟩
theorem fk_0_5 : FI 0 5 6 1 19 := ⟨by decide, rfl, by decide, rfl⟩
theorem fk_0_6 : FI 0 6 6 1 21 := ⟨by decide, rfl, by decide, rfl⟩
theorem fk_0_7 : FI 0 7 6 0 0 := ⟨by decide, rfl, by decide, rfl⟩
theorem fk_0_8 : FI 0 8 6 1 23 := ⟨by decide, rfl, by decide, rfl⟩
theorem fk_0_9 : FI 0 9 6 0 0 := ⟨by decide, rfl, by decide, rfl⟩
theorem fk_0_10 : FI 0 10 6 1 24 := ⟨by decide, rfl, by decide, rfl⟩
theorem fk_0_11 : FI 0 11 6 1 25 := ⟨by decide, rfl, by decide, rfl⟩
theorem fk_0_12 : FI 0 12 6 1 33 := ⟨by decide, rfl, by decide, rfl⟩
theorem fk_0_13 : FI 0 13 6 1 38 := ⟨by decide, rfl, by decide, rfl⟩
theorem fk_0_14 : FI 0 14 6 1 40 := ⟨by decide, rfl, by decide, rfl⟩
theorem fk_0_15 : FI 0 15 6 1 42 := ⟨by decide, rfl, by decide, rfl⟩
theorem oc_0 : OC 0 RX6 := ⟨6, _, by decide, rfl, by decide, rfl, rfl⟩
theorem fk_1_0 : FI 1 0 2 1 2 := ⟨by decide, rfl, by decide, rfl⟩
theorem fk_1_1 : FI 1 1 2 0 0 := ⟨by decide, rfl, by decide, rfl⟩
theorem fk_1_2 : FI 1 2 2 0 0 := ⟨by decide, rfl, by decide, rfl⟩
theorem fk_1_3 : FI 1 3 2 0 0 := ⟨by decide, rfl, by decide, rfl⟩
theorem fk_1_4 : FI 1 4 2 3 0 := ⟨by decide, rfl, by decide, rfl⟩
theorem fk_1_5 : FI 1 5 2 0 0 := ⟨by decide, rfl, by decide, rfl⟩
theorem fk_1_6 : FI 1 6 2 0 0 := ⟨by decide, rfl, by decide, rfl⟩
theorem fk_1_7 : FI 1 7 2 0 0 := ⟨by decide, rfl, by decide, rfl⟩
theorem oc_1 : OC 1 RX2 := ⟨2, _, by decide, rfl, by decide, rfl, rfl⟩
theorem ak_2 : AI 2 8 400 := ⟨by decide, rfl, by decide, rfl⟩
theorem fk_3_0 : FI 3 0 3 0 0 := ⟨by decide, rfl, by decide, rfl⟩
theorem fk_3_1 : FI 3 1 3 0 0 := ⟨by decide, rfl, by decide, rfl⟩
theorem fk_3_2 : FI 3 2 3 1 4 := ⟨by decide, rfl, by decide, rfl⟩
theorem fk_3_3 : FI 3 3 3 1 5 := ⟨by decide, rfl, by decide, rfl⟩
theorem fk_3_4 : FI 3 4 3 1 6 := ⟨by decide, rfl, by decide, rfl⟩
theorem fk_3_5 : FI 3 5 3 1 7 := ⟨by decide, rfl, by decide, rfl⟩
theorem fk_3_6 : FI 3 6 3 1 8 := ⟨by decide, rfl, by decide, rfl⟩
theorem oc_3 : OC 3 RX3 := ⟨3, _, by decide, rfl, by decide, rfl, rfl⟩
theorem ak_4 : AI 4 9 6 := ⟨by decide, rfl, by decide, rfl⟩
theorem ak_5 : AI 5 9 6 := ⟨by decide, rfl, by decide, rfl⟩
theorem ak_6 : AI 6 9 6 := ⟨by decide, rfl, by decide, rfl⟩
theorem ak_7 : AI 7 9 6 := ⟨by decide, rfl, by decide, rfl⟩
theorem ak_8 : AI 8 9 36 := ⟨by decide, rfl, by decide, rfl⟩
theorem fk_9_0 : FI 9 0 3 0 0 := ⟨by decide, rfl, by decide, rfl⟩
theorem fk_9_1 : FI 9 1 3 0 0 := ⟨by decide, rfl, by decide, rfl⟩
theorem fk_9_2 : FI 9 2 3 1 10 := ⟨by decide, rfl, by decide, rfl⟩
theorem fk_9_3 : FI 9 3 3 1 11 := ⟨by decide, rfl, by decide, rfl⟩
theorem fk_9_4 : FI 9 4 3 1 12 := ⟨by decide, rfl, by decide, rfl⟩
theorem fk_9_5 : FI 9 5 3 1 13 := ⟨by decide, rfl, by decide, rfl⟩
theorem fk_9_6 : FI 9 6 3 1 14 := ⟨by decide, rfl, by decide, rfl⟩
theorem oc_9 : OC 9 RX3 := ⟨3, _, by decide, rfl, by decide, rfl, rfl⟩
theorem ak_10 : AI 10 9 6 := ⟨by decide, rfl, by decide, rfl⟩
theorem ak_11 : AI 11 9 6 := ⟨by decide, rfl, by decide, rfl⟩
theorem ak_12 : AI 12 9 6 := ⟨by decide, rfl, by decide, rfl⟩
theorem ak_13 : AI 13 9 6 := ⟨by decide, rfl, by decide, rfl⟩
theorem ak_14 : AI 14 9 36 := ⟨by decide, rfl, by decide, rfl⟩
theorem fk_15_0 : FI 15 0 5 1 16 := ⟨by decide, rfl, by decide, rfl⟩
theorem fk_15_1 : FI 15 1 5 0 0 := ⟨by decide, rfl, by decide, rfl⟩
theorem fk_15_2 : FI 15 2 5 0 0 := ⟨by decide, rfl, by decide, rfl⟩
theorem fk_15_3 : FI 15 3 5 0 0 := ⟨by decide, rfl, by decide, rfl⟩
theorem oc_15 : OC 15 RX5 := ⟨5, _, by decide, rfl, by decide, rfl, rfl⟩
theorem ak_16 : AI 16 9 36 := ⟨by decide, rfl, by decide, rfl⟩
theorem fk_17_0 : FI 17 0 5 1 18 := ⟨by decide, rfl, by decide, rfl⟩
theorem fk_17_1 : FI 17 1 5 0 0 := ⟨by decide, rfl, by decide, rfl⟩
theorem fk_17_2 : FI 17 2 5 0 0 := ⟨by decide, rfl, by decide, rfl⟩
theorem fk_17_3 : FI 17 3 5 0 0 := ⟨by decide, rfl, by decide, rfl⟩
theorem oc_17 : OC 17 RX5 := ⟨5, _, by decide, rfl, by decide, rfl, rfl⟩
theorem ak_18 : AI 18 9 36 := ⟨by decide, rfl, by decide, rfl⟩
theorem fk_19_0 : FI 19 0 5 1 20 := ⟨by decide, rfl, by decide, rfl⟩
theorem fk_19_1 : FI 19 1 5 0 0 := ⟨by decide, rfl, by decide, rfl⟩
theorem fk_19_2 : FI 19 2 5 0 0 := ⟨by decide, rfl, by decide, rfl⟩
theorem fk_19_3 : FI 19 3 5 0 0 := ⟨by decide, rfl, by decide, rfl⟩
theorem oc_19 : OC 19 RX5 := ⟨5, _, by decide, rfl, by decide, rfl, rfl⟩
theorem ak_20 : AI 20 9 36 := ⟨by decide, rfl, by decide, rfl⟩
theorem fk_21_0 : FI 21 0 5 1 22 := ⟨by decide, rfl, by decide, rfl⟩
theorem fk_21_1 : FI 21 1 5 0 0 := ⟨by decide, rfl, by decide, rfl⟩
theorem fk_21_2 : FI 21 2 5 0 0 := ⟨by decide, rfl, by decide, rfl⟩
theorem fk_21_3 : FI 21 3 5 0 0 := ⟨by decide, rfl, by decide, rfl⟩
theorem oc_21 : OC 21 RX5 := ⟨5, _, by decide, rfl, by decide, rfl, rfl⟩
theorem ak_22 : AI 22 9 36 := ⟨by decide, rfl, by decide, rfl⟩
theorem ak_23 : AI 23 9 40 := ⟨by decide, rfl, by decide, rfl⟩
theorem ak_24 : AI 24 9 6 := ⟨by decide, rfl, by decide, rfl⟩
theorem fk_25_0 : FI 25 0 0 0 0 := ⟨by decide, rfl, by decide, rfl⟩
theorem fk_25_1 : FI 25 1 0 0 0 := ⟨by decide, rfl, by decide, rfl⟩
theorem fk_25_2 : FI 25 2 0 0 0 := ⟨by decide, rfl, by decide, rfl⟩
theorem fk_25_3 : FI 25 3 0 0 0 := ⟨by decide, rfl, by decide, rfl⟩
theorem fk_25_4 : FI 25 4 0 1 26 := ⟨by decide, rfl, by decide, rfl⟩
theorem fk_25_5 : FI 25 5 0 1 27 := ⟨by decide, rfl, by decide, rfl⟩
theorem fk_25_6 : FI 25 6 0 1 28 := ⟨by decide, rfl, by decide, rfl⟩
theorem fk_25_7 : FI 25 7 0 1 29 := ⟨by decide, rfl, by decide, rfl⟩
theorem fk_25_8 : FI 25 8 0 1 30 := ⟨by decide, rfl, by decide, rfl⟩
theorem fk_25_9 : FI 25 9 0 1 31 := ⟨by decide, rfl, by decide, rfl⟩
theorem fk_25_10 : FI 25 10 0 1 32 := ⟨by decide, rfl, by decide, rfl⟩
theorem oc_25 : OC 25 RX0 := ⟨0, _, by decide, rfl, by decide, rfl, rfl⟩
theorem ak_26 : AI 26 9 6 := ⟨by decide, rfl, by decide, rfl⟩
theorem ak_27 : AI 27 9 6 := ⟨by decide, rfl, by decide, rfl⟩
theorem ak_28 : AI 28 9 6 := ⟨by decide, rfl, by decide, rfl⟩
theorem ak_29 : AI 29 9 6 := ⟨by decide, rfl, by decide, rfl⟩
theorem ak_30 : AI 30 9 6 := ⟨by decide, rfl, by decide, rfl⟩
theorem ak_31 : AI 31 9 6 := ⟨by decide, rfl, by decide, rfl⟩
theorem ak_32 : AI 32 11 6 := ⟨by decide, rfl, by decide, rfl⟩
theorem fk_33_0 : FI 33 0 1 2 0 := ⟨by decide, rfl, by decide, rfl⟩
theorem fk_33_1 : FI 33 1 1 2 0 := ⟨by decide, rfl, by decide, rfl⟩
theorem fk_33_2 : FI 33 2 1 1 36 := ⟨by decide, rfl, by decide, rfl⟩
theorem fk_33_3 : FI 33 3 1 0 0 := ⟨by decide, rfl, by decide, rfl⟩
theorem fk_33_4 : FI 33 4 1 1 37 := ⟨by decide, rfl, by decide, rfl⟩
theorem fk_33_5 : FI 33 5 1 0 0 := ⟨by decide, rfl, by decide, rfl⟩
theorem oc_33 : OC 33 RX1 := ⟨1, _, by decide, rfl, by decide, rfl, rfl⟩
theorem ak_34 : AI 34 10 1000 := ⟨by decide, rfl, by decide, rfl⟩
theorem ak_35 : AI 35 10 1000 := ⟨by decide, rfl, by decide, rfl⟩
theorem ak_36 : AI 36 10 16 := ⟨by decide, rfl, by decide, rfl⟩
theorem ak_37 : AI 37 9 4 := ⟨by decide, rfl, by decide, rfl⟩
theorem fk_38_0 : FI 38 0 4 1 39 := ⟨by decide, rfl, by decide, rfl⟩
theorem fk_38_1 : FI 38 1 4 0 0 := ⟨by decide, rfl, by decide, rfl⟩
theorem oc_38 : OC 38 RX4 := ⟨4, _, by decide, rfl, by decide, rfl, rfl⟩
theorem ak_39 : AI 39 9 10000 := ⟨by decide, rfl, by decide, rfl⟩
theorem fk_40_0 : FI 40 0 4 1 41 := ⟨by decide, rfl, by decide, rfl⟩
theorem fk_40_1 : FI 40 1 4 0 0 := ⟨by decide, rfl, by decide, rfl⟩
theorem oc_40 : OC 40 RX4 := ⟨4, _, by decide, rfl, by decide, rfl, rfl⟩
theorem ak_41 : AI 41 9 10000 := ⟨by decide, rfl, by decide, rfl⟩
theorem fk_42_0 : FI 42 0 4 1 43 := ⟨by decide, rfl, by decide, rfl⟩
theorem fk_42_1 : FI 42 1 4 0 0 := ⟨by decide, rfl, by decide, rfl⟩
theorem oc_42 : OC 42 RX4 := ⟨4, _, by decide, rfl, by decide, rfl, rfl⟩
theorem ak_43 : AI 43 9 10000 := ⟨by decide, rfl, by decide, rfl⟩
theorem fk_44_0 : FI 44 0 7 0 0 := ⟨by decide, rfl, by decide, rfl⟩
theorem fk_44_1 : FI 44 1 7 0 0 := ⟨by decide, rfl, by decide, rfl⟩
theorem fk_44_2 : FI 44 2 7 1 45 := ⟨by decide, rfl, by decide, rfl⟩
theorem fk_44_3 : FI 44 3 7 1 46 := ⟨by decide, rfl, by decide, rfl⟩
theorem fk_44_4 : FI 44 4 7 1 47 := ⟨by decide, rfl, by decide, rfl⟩
theorem fk_44_5 : FI 44 5 7 0 0 := ⟨by decide, rfl, by decide, rfl⟩
theorem fk_44_6 : FI 44 6 7 0 0 := ⟨by decide, rfl, by decide, rfl⟩
theorem fk_44_7 : FI 44 7 7 1 48 := ⟨by decide, rfl, by decide, rfl⟩
theorem fk_44_8 : FI 44 8 7 0 0 := ⟨by decide, rfl, by decide, rfl⟩
theorem fk_44_9 : FI 44 9 7 0 0 := ⟨by decide, rfl, by decide, rfl⟩
theorem fk_44_10 : FI 44 10 7 0 0 := ⟨by decide, rfl, by decide, rfl⟩
theorem fk_44_11 : FI 44 11 7 4 0 := ⟨by decide, rfl, by decide, rfl⟩
theorem fk_44_12 : FI 44 12 7 0 0 := ⟨by decide, rfl, by decide, rfl⟩
theorem fk_44_13 : FI 44 13 7 0 0 := ⟨by decide, rfl, by decide, rfl⟩
theorem fk_44_14 : FI 44 14 7 0 0 := ⟨by decide, rfl, by decide, rfl⟩
theorem fk_44_15 : FI 44 15 7 0 0 := ⟨by decide, rfl, by decide, rfl⟩
theorem fk_44_16 : FI 44 16 7 0 0 := ⟨by decide, rfl, by decide, rfl⟩
theorem fk_44_17 : FI 44 17 7 1 49 := ⟨by decide, rfl, by decide, rfl⟩
theorem fk_44_18 : FI 44 18 7 1 50 := ⟨by decide, rfl, by decide, rfl⟩
theorem fk_44_19 : FI 44 19 7 1 51 := ⟨by decide, rfl, by decide, rfl⟩
theorem fk_44_20 : FI 44 20 7 1 52 := ⟨by decide, rfl, by decide, rfl⟩
theorem fk_44_21 : FI 44 21 7 1 53 := ⟨by decide, rfl, by decide, rfl⟩
theorem fk_44_22 : FI 44 22 7 1 54 := ⟨by decide, rfl, by decide, rfl⟩
theorem fk_44_23 : FI 44 23 7 0 0 := ⟨by decide, rfl, by decide, rfl⟩
theorem fk_44_24 : FI 44 24 7 1 55 := ⟨by decide, rfl, by decide, rfl⟩
theorem fk_44_25 : FI 44 25 7 1 56 := ⟨by decide, rfl, by decide, rfl⟩
theorem fk_44_26 : FI 44 26 7 1 57 := ⟨by decide, rfl, by decide, rfl⟩
theorem fk_44_27 : FI 44 27 7 1 58 := ⟨by decide, rfl, by decide, rfl⟩
theorem fk_44_28 : FI 44 28 7 0 0 := ⟨by decide, rfl, by decide, rfl⟩
theorem fk_44_29 : FI 44 29 7 1 59 := ⟨by decide, rfl, by decide, rfl⟩
theorem fk_44_30 : FI 44 30 7 1 60 := ⟨by decide, rfl, by decide, rfl⟩
theorem fk_44_31 : FI 44 31 7 1 61 := ⟨by decide, rfl, by decide, rfl⟩
theorem fk_44_32 : FI 44 32 7 1 62 := ⟨by decide, rfl, by decide, rfl⟩
theorem fk_44_33 : FI 44 33 7 1 63 := ⟨by decide, rfl, by decide, rfl⟩
theorem fk_44_34 : FI 44 34 7 0 0 := ⟨by decide, rfl, by decide, rfl⟩
theorem fk_44_35 : FI 44 35 7 0 0 := ⟨by decide, rfl, by decide, rfl⟩
theorem fk_44_36 : FI 44 36 7 1 64 := ⟨by decide, rfl, by decide, rfl⟩
theorem fk_44_37 : FI 44 37 7 1 65 := ⟨by decide, rfl, by decide, rfl⟩
theorem fk_44_38 : FI 44 38 7 1 66 := ⟨by decide, rfl, by decide, rfl⟩
theorem fk_44_39 : FI 44 39 7 1 67 := ⟨by decide, rfl, by decide, rfl⟩
theorem fk_44_40 : FI 44 40 7 1 68 := ⟨by decide, rfl, by decide, rfl⟩
theorem oc_44 : OC 44 RX7 := ⟨7, _, by decide, rfl, by decide, rfl, rfl⟩
theorem ak_45 : AI 45 9 6 := ⟨by decide, rfl, by decide, rfl⟩
theorem ak_46 : AI 46 9 18 := ⟨by decide, rfl, by decide, rfl⟩
theorem ak_47 : AI 47 9 36 := ⟨by decide, rfl, by decide, rfl⟩
theorem ak_48 : AI 48 9 400 := ⟨by decide, rfl, by decide, rfl⟩
theorem ak_49 : AI 49 9 6 := ⟨by decide, rfl, by decide, rfl⟩
theorem ak_50 : AI 50 9 18 := ⟨by decide, rfl, by decide, rfl⟩
theorem ak_51 : AI 51 9 36 := ⟨by decide, rfl, by decide, rfl⟩
theorem ak_52 : AI 52 9 6 := ⟨by decide, rfl, by decide, rfl⟩
theorem ak_53 : AI 53 9 6 := ⟨by decide, rfl, by decide, rfl⟩
theorem ak_54 : AI 54 9 6 := ⟨by decide, rfl, by decide, rfl⟩
theorem ak_55 : AI 55 9 100000 := ⟨by decide, rfl, by decide, rfl⟩
theorem ak_56 : AI 56 9 100000 := ⟨by decide, rfl, by decide, rfl⟩
theorem ak_57 : AI 57 9 100000 := ⟨by decide, rfl, by decide, rfl⟩
theorem ak_58 : AI 58 11 100000 := ⟨by decide, rfl, by decide, rfl⟩
theorem ak_59 : AI 59 9 384 := ⟨by decide, rfl, by decide, rfl⟩
theorem ak_60 : AI 60 9 64 := ⟨by decide, rfl, by decide, rfl⟩
theorem ak_61 : AI 61 10 1000 := ⟨by decide, rfl, by decide, rfl⟩
theorem ak_62 : AI 62 10 1000 := ⟨by decide, rfl, by decide, rfl⟩
theorem ak_63 : AI 63 9 4 := ⟨by decide, rfl, by decide, rfl⟩
theorem ak_64 : AI 64 9 40 := ⟨by decide, rfl, by decide, rfl⟩
theorem ak_65 : AI 65 9 40 := ⟨by decide, rfl, by decide, rfl⟩
theorem ak_66 : AI 66 9 36 := ⟨by decide, rfl, by decide, rfl⟩
theorem ak_67 : AI 67 9 80 := ⟨by decide, rfl, by decide, rfl⟩
theorem ak_68 : AI 68 11 2 := ⟨by decide, rfl, by decide, rfl⟩
theorem clX0 : Cl 0 RX0 TX0 11 tyX0 := ⟨rfl, fun w h => mem_tb ((by decide +kernel : ∀ w ∈ u_ws RX0 TX0 11, w ∈ lw_tbl) w h) ((by decide +kernel : ∀ w ∈ u_ws RX0 TX0 11, goodWord w = true) w h), tyX0_ok, nmX0⟩
theorem clX1 : Cl 1 RX1 TX1 6 tyX1 := ⟨rfl, fun w h => mem_tb ((by decide +kernel : ∀ w ∈ u_ws RX1 TX1 6, w ∈ lw_tbl) w h) ((by decide +kernel : ∀ w ∈ u_ws RX1 TX1 6, goodWord w = true) w h), tyX1_ok, nmX1⟩
theorem clX2 : Cl 2 RX2 TX2 8 tyX2 := ⟨rfl, fun w h => mem_tb ((by decide +kernel : ∀ w ∈ u_ws RX2 TX2 8, w ∈ lw_tbl) w h) ((by decide +kernel : ∀ w ∈ u_ws RX2 TX2 8, goodWord w = true) w h), tyX2_ok, nmX2⟩
theorem clX3 : Cl 3 RX3 TX3 7 tyX3 := ⟨rfl, fun w h => mem_tb ((by decide +kernel : ∀ w ∈ u_ws RX3 TX3 7, w ∈ lw_tbl) w h) ((by decide +kernel : ∀ w ∈ u_ws RX3 TX3 7, goodWord w = true) w h), tyX3_ok, nmX3⟩
theorem clX4 : Cl 4 RX4 TX4 2 tyX4 := ⟨rfl, fun w h => mem_tb ((by decide +kernel : ∀ w ∈ u_ws RX4 TX4 2, w ∈ lw_tbl) w h) ((by decide +kernel : ∀ w ∈ u_ws RX4 TX4 2, goodWord w = true) w h), tyX4_ok, nmX4⟩
theorem clX5 : Cl 5 RX5 TX5 4 tyX5 := ⟨rfl, fun w h => mem_tb ((by decide +kernel : ∀ w ∈ u_ws RX5 TX5 4, w ∈ lw_tbl) w h) ((by decide +kernel : ∀ w ∈ u_ws RX5 TX5 4, goodWord w = true) w h), tyX5_ok, nmX5⟩
theorem clX6 : Cl 6 RX6 TX6 16 tyX6 := ⟨rfl, fun w h => mem_tb ((by decide +kernel : ∀ w ∈ u_ws RX6 TX6 16, w ∈ lw_tbl) w h) ((by decide +kernel : ∀ w ∈ u_ws RX6 TX6 16, goodWord w = true) w h), tyX6_ok, nmX6⟩
theorem clX7 : Cl 7 RX7 TX7 41 tyX7 := ⟨rfl, fun w h => mem_tb ((by decide +kernel : ∀ w ∈ u_ws RX7 TX7 41, w ∈ lw_tbl) w h) ((by decide +kernel : ∀ w ∈ u_ws RX7 TX7 41, goodWord w = true) w h), tyX7_ok, nmX7⟩
end
section
theorem bp_10 : (Int8.ofInt 10).toInt32 = 10 := by decide
theorem bp_100 : (Int8.ofInt 100).toInt32 = 100 := by decide
theorem bp_103 : (Int8.ofInt 103).toInt32 = 103 := by decide
theorem bp_104 : (Int8.ofInt 104).toInt32 = 104 := by decide
theorem bp_105 : (Int8.ofInt 105).toInt32 = 105 := by decide
theorem bp_108 : (Int8.ofInt 108).toInt32 = 108 := by decide
theorem bp_110 : (Int8.ofInt 110).toInt32 = 110 := by decide
theorem bp_112 : (Int8.ofInt 112).toInt32 = 112 := by decide
theorem bp_116 : (Int8.ofInt 116).toInt32 = 116 := by decide
theorem bp_117 : (Int8.ofInt 117).toInt32 = 117 := by decide
theorem bp_122 : (Int8.ofInt 122).toInt32 = 122 := by decide
theorem bp_18 : (Int8.ofInt 18).toInt32 = 18 := by decide
theorem bp_20 : (Int8.ofInt 20).toInt32 = 20 := by decide
theorem bp_32 : (Int8.ofInt 32).toInt32 = 32 := by decide
theorem bp_36 : (Int8.ofInt 36).toInt32 = 36 := by decide
theorem bp_37 : (Int8.ofInt 37).toInt32 = 37 := by decide
theorem bp_38 : (Int8.ofInt 38).toInt32 = 38 := by decide
theorem bp_40 : (Int8.ofInt 40).toInt32 = 40 := by decide
theorem bp_44 : (Int8.ofInt 44).toInt32 = 44 := by decide
theorem bp_48 : (Int8.ofInt 48).toInt32 = 48 := by decide
theorem bp_50 : (Int8.ofInt 50).toInt32 = 50 := by decide
theorem bp_57 : (Int8.ofInt 57).toInt32 = 57 := by decide
theorem bp_59 : (Int8.ofInt 59).toInt32 = 59 := by decide
theorem bp_6 : (Int8.ofInt 6).toInt32 = 6 := by decide
theorem bp_63 : (Int8.ofInt 63).toInt32 = 63 := by decide
theorem bp_8 : (Int8.ofInt 8).toInt32 = 8 := by decide
theorem bp_9 : (Int8.ofInt 9).toInt32 = 9 := by decide
theorem bp_97 : (Int8.ofInt 97).toInt32 = 97 := by decide
theorem bp_99 : (Int8.ofInt 99).toInt32 = 99 := by decide
theorem bp_m10 : (Int8.ofInt (-10)).toInt32 = (-10) := by decide
theorem bp_m2 : (Int8.ofInt (-2)).toInt32 = (-2) := by decide
theorem ic_0 : Int32.ofInt 0 = 0 := by decide
theorem ic_1 : Int32.ofInt 1 = 1 := by decide
theorem ic_2 : Int32.ofInt 2 = 2 := by decide
theorem ic_3 : Int32.ofInt 3 = 3 := by decide
theorem ic_4 : Int32.ofInt 4 = 4 := by decide
theorem ic_5 : Int32.ofInt 5 = 5 := by decide
theorem ic_m1 : Int32.ofInt (-1) = (-1) := by decide
theorem lc_0 : Int64.ofNat ((0 : Fin 2) : Nat) = 0 := by decide
theorem lc_1 : Int64.ofNat ((1 : Fin 2) : Nat) = 1 := by decide
theorem nz_10 : ¬ (10 : Int32) = 0 := by decide
theorem nz_100 : ¬ (100 : Int32) = 0 := by decide
theorem nz_6 : ¬ (6 : Int32) = 0 := by decide
theorem nz_65536 : ¬ (65536 : Int32) = 0 := by decide
theorem nzl_100 : ¬ (100 : Int64) = 0 := by decide
theorem nzl_1000 : ¬ (1000 : Int64) = 0 := by decide
theorem nzl_1000000 : ¬ (1000000 : Int64) = 0 := by decide
theorem nzl_2147483648 : ¬ (2147483648 : Int64) = 0 := by decide
theorem sp_1000 : (Int16.ofInt 1000).toInt32 = 1000 := by decide
theorem sp_10000 : (Int16.ofInt 10000).toInt32 = 10000 := by decide
theorem sp_255 : (Int16.ofInt 255).toInt32 = 255 := by decide
theorem sp_300 : (Int16.ofInt 300).toInt32 = 300 := by decide
theorem sp_400 : (Int16.ofInt 400).toInt32 = 400 := by decide
theorem lk_X0_15 : Cond.fieldLink RX0 15 (TX0 5).1 (TX0 5).2.1 (TX0 5).2.2.1 ∈ tb := mem_tb (List.mem_of_getElem? (i := 229) (by decide +kernel)) rfl
theorem lk_X0_18 : Cond.fieldLink RX0 18 (TX0 6).1 (TX0 6).2.1 (TX0 6).2.2.1 ∈ tb := mem_tb (List.mem_of_getElem? (i := 232) (by decide +kernel)) rfl
theorem lk_X0_21 : Cond.fieldLink RX0 21 (TX0 7).1 (TX0 7).2.1 (TX0 7).2.2.1 ∈ tb := mem_tb (List.mem_of_getElem? (i := 233) (by decide +kernel)) rfl
theorem lk_X0_24 : Cond.fieldLink RX0 24 (TX0 8).1 (TX0 8).2.1 (TX0 8).2.2.1 ∈ tb := mem_tb (List.mem_of_getElem? (i := 235) (by decide +kernel)) rfl
theorem lk_X0_27 : Cond.fieldLink RX0 27 (TX0 9).1 (TX0 9).2.1 (TX0 9).2.2.1 ∈ tb := mem_tb (List.mem_of_getElem? (i := 237) (by decide +kernel)) rfl
theorem lk_X0_30 : Cond.fieldLink RX0 30 (TX0 10).1 (TX0 10).2.1 (TX0 10).2.2.1 ∈ tb := mem_tb (List.mem_of_getElem? (i := 239) (by decide +kernel)) rfl
theorem lk_X0_34 : Cond.fieldLink RX0 34 (TX0 0).1 (TX0 0).2.1 (TX0 0).2.2.1 ∈ tb := mem_tb (List.mem_of_getElem? (i := 220) (by decide +kernel)) rfl
theorem lk_X0_38 : Cond.fieldLink RX0 38 (TX0 1).1 (TX0 1).2.1 (TX0 1).2.2.1 ∈ tb := mem_tb (List.mem_of_getElem? (i := 223) (by decide +kernel)) rfl
theorem lk_X0_41 : Cond.fieldLink RX0 41 (TX5 1).1 (TX5 1).2.1 (TX5 1).2.2.1 ∈ tb := mem_tb (List.mem_of_getElem? (i := 196) (by decide +kernel)) rfl
theorem lk_X0_47 : Cond.fieldLink RX0 47 (TX0 2).1 (TX0 2).2.1 (TX0 2).2.2.1 ∈ tb := mem_tb (List.mem_of_getElem? (i := 225) (by decide +kernel)) rfl
theorem lk_X0_48 : Cond.fieldLink RX0 48 (TX5 2).1 (TX5 2).2.1 (TX5 2).2.2.1 ∈ tb := mem_tb (List.mem_of_getElem? (i := 199) (by decide +kernel)) rfl
theorem lk_X0_51 : Cond.fieldLink RX0 51 (TX0 3).1 (TX0 3).2.1 (TX0 3).2.2.1 ∈ tb := mem_tb (List.mem_of_getElem? (i := 227) (by decide +kernel)) rfl
theorem lk_X0_52 : Cond.fieldLink RX0 52 (TX3 1).1 (TX3 1).2.1 (TX3 1).2.2.1 ∈ tb := mem_tb (List.mem_of_getElem? (i := 150) (by decide +kernel)) rfl
theorem lk_X0_57 : Cond.fieldLink RX0 57 (TX5 0).1 (TX5 0).2.1 (TX5 0).2.2.1 ∈ tb := mem_tb (List.mem_of_getElem? (i := 194) (by decide +kernel)) rfl
theorem lk_X0_64 : Cond.fieldLink RX0 64 (TX3 3).1 (TX3 3).2.1 (TX3 3).2.2.1 ∈ tb := mem_tb (List.mem_of_getElem? (i := 157) (by decide +kernel)) rfl
theorem lk_X0_65 : Cond.fieldLink RX0 65 (TX3 4).1 (TX3 4).2.1 (TX3 4).2.2.1 ∈ tb := mem_tb (List.mem_of_getElem? (i := 161) (by decide +kernel)) rfl
theorem lk_X0_66 : Cond.fieldLink RX0 66 (TX3 5).1 (TX3 5).2.1 (TX3 5).2.2.1 ∈ tb := mem_tb (List.mem_of_getElem? (i := 165) (by decide +kernel)) rfl
theorem lk_X0_9 : Cond.fieldLink RX0 9 (TX0 4).1 (TX0 4).2.1 (TX0 4).2.2.1 ∈ tb := mem_tb (List.mem_of_getElem? (i := 228) (by decide +kernel)) rfl
theorem lk_X1_106 : Cond.fieldLink RX1 106 (TX0 9).1 (TX0 9).2.1 (TX0 9).2.2.1 ∈ tb := mem_tb (List.mem_of_getElem? (i := 238) (by decide +kernel)) rfl
theorem lk_X1_112 : Cond.fieldLink RX1 112 (TX0 7).1 (TX0 7).2.1 (TX0 7).2.2.1 ∈ tb := mem_tb (List.mem_of_getElem? (i := 234) (by decide +kernel)) rfl
theorem lk_X1_126 : Cond.fieldLink RX1 126 (TX0 8).1 (TX0 8).2.1 (TX0 8).2.2.1 ∈ tb := mem_tb (List.mem_of_getElem? (i := 236) (by decide +kernel)) rfl
theorem lk_X1_15 : Cond.fieldLink RX1 15 (TX1 1).1 (TX1 1).2.1 (TX1 1).2.2.1 ∈ tb := mem_tb (List.mem_of_getElem? (i := 271) (by decide +kernel)) rfl
theorem lk_X1_18 : Cond.fieldLink RX1 18 (TX1 2).1 (TX1 2).2.1 (TX1 2).2.2.1 ∈ tb := mem_tb (List.mem_of_getElem? (i := 272) (by decide +kernel)) rfl
theorem lk_X1_21 : Cond.fieldLink RX1 21 (TX1 4).1 (TX1 4).2.1 (TX1 4).2.2.1 ∈ tb := mem_tb (List.mem_of_getElem? (i := 274) (by decide +kernel)) rfl
theorem lk_X1_25 : Cond.fieldLink RX1 25 (TX0 0).1 (TX0 0).2.1 (TX0 0).2.2.1 ∈ tb := mem_tb (List.mem_of_getElem? (i := 219) (by decide +kernel)) rfl
theorem lk_X1_77 : Cond.fieldLink RX1 77 (TX1 3).1 (TX1 3).2.1 (TX1 3).2.2.1 ∈ tb := mem_tb (List.mem_of_getElem? (i := 273) (by decide +kernel)) rfl
theorem lk_X1_80 : Cond.fieldLink RX1 80 (TX1 5).1 (TX1 5).2.1 (TX1 5).2.2.1 ∈ tb := mem_tb (List.mem_of_getElem? (i := 275) (by decide +kernel)) rfl
theorem lk_X1_9 : Cond.fieldLink RX1 9 (TX1 0).1 (TX1 0).2.1 (TX1 0).2.2.1 ∈ tb := mem_tb (List.mem_of_getElem? (i := 270) (by decide +kernel)) rfl
theorem lk_X1_91 : Cond.fieldLink RX1 91 (TX0 5).1 (TX0 5).2.1 (TX0 5).2.2.1 ∈ tb := mem_tb (List.mem_of_getElem? (i := 230) (by decide +kernel)) rfl
theorem lk_X2_15 : Cond.fieldLink RX2 15 (TX2 2).1 (TX2 2).2.1 (TX2 2).2.2.1 ∈ tb := mem_tb (List.mem_of_getElem? (i := 117) (by decide +kernel)) rfl
theorem lk_X2_19 : Cond.fieldLink RX2 19 (TX2 1).1 (TX2 1).2.1 (TX2 1).2.2.1 ∈ tb := mem_tb (List.mem_of_getElem? (i := 115) (by decide +kernel)) rfl
theorem lk_X2_22 : Cond.fieldLink RX2 22 (TX2 4).1 (TX2 4).2.1 (TX2 4).2.2.1 ∈ tb := mem_tb (List.mem_of_getElem? (i := 120) (by decide +kernel)) rfl
theorem lk_X2_26 : Cond.fieldLink RX2 26 (TX3 0).1 (TX3 0).2.1 (TX3 0).2.2.1 ∈ tb := mem_tb (List.mem_of_getElem? (i := 148) (by decide +kernel)) rfl
theorem lk_X2_31 : Cond.fieldLink RX2 31 (TX3 1).1 (TX3 1).2.1 (TX3 1).2.2.1 ∈ tb := mem_tb (List.mem_of_getElem? (i := 151) (by decide +kernel)) rfl
theorem lk_X2_34 : Cond.fieldLink RX2 34 (TX2 3).1 (TX2 3).2.1 (TX2 3).2.2.1 ∈ tb := mem_tb (List.mem_of_getElem? (i := 119) (by decide +kernel)) rfl
theorem lk_X2_37 : Cond.fieldLink RX2 37 (TX2 5).1 (TX2 5).2.1 (TX2 5).2.2.1 ∈ tb := mem_tb (List.mem_of_getElem? (i := 121) (by decide +kernel)) rfl
theorem lk_X2_43 : Cond.fieldLink RX2 43 (TX2 7).1 (TX2 7).2.1 (TX2 7).2.2.1 ∈ tb := mem_tb (List.mem_of_getElem? (i := 123) (by decide +kernel)) rfl
theorem lk_X2_60 : Cond.fieldLink RX2 60 (TX2 6).1 (TX2 6).2.1 (TX2 6).2.2.1 ∈ tb := mem_tb (List.mem_of_getElem? (i := 122) (by decide +kernel)) rfl
theorem lk_X2_77 : Cond.fieldLink RX2 77 (TX3 2).1 (TX3 2).2.1 (TX3 2).2.2.1 ∈ tb := mem_tb (List.mem_of_getElem? (i := 154) (by decide +kernel)) rfl
theorem lk_X2_89 : Cond.fieldLink RX2 89 (TX3 3).1 (TX3 3).2.1 (TX3 3).2.2.1 ∈ tb := mem_tb (List.mem_of_getElem? (i := 158) (by decide +kernel)) rfl
theorem lk_X2_9 : Cond.fieldLink RX2 9 (TX2 0).1 (TX2 0).2.1 (TX2 0).2.2.1 ∈ tb := mem_tb (List.mem_of_getElem? (i := 114) (by decide +kernel)) rfl
theorem lk_X2_92 : Cond.fieldLink RX2 92 (TX3 4).1 (TX3 4).2.1 (TX3 4).2.2.1 ∈ tb := mem_tb (List.mem_of_getElem? (i := 162) (by decide +kernel)) rfl
theorem lk_X2_95 : Cond.fieldLink RX2 95 (TX3 5).1 (TX3 5).2.1 (TX3 5).2.2.1 ∈ tb := mem_tb (List.mem_of_getElem? (i := 166) (by decide +kernel)) rfl
theorem lk_X2_98 : Cond.fieldLink RX2 98 (TX3 6).1 (TX3 6).2.1 (TX3 6).2.2.1 ∈ tb := mem_tb (List.mem_of_getElem? (i := 170) (by decide +kernel)) rfl
theorem lk_X3_9 : Cond.fieldLink RX3 9 (TX3 2).1 (TX3 2).2.1 (TX3 2).2.2.1 ∈ tb := mem_tb (List.mem_of_getElem? (i := 153) (by decide +kernel)) rfl
theorem lk_X4_13 : Cond.fieldLink RX4 13 (TX4 0).1 (TX4 0).2.1 (TX4 0).2.2.1 ∈ tb := mem_tb (List.mem_of_getElem? (i := 298) (by decide +kernel)) rfl
theorem lk_X4_18 : Cond.fieldLink RX4 18 (TX4 1).1 (TX4 1).2.1 (TX4 1).2.2.1 ∈ tb := mem_tb (List.mem_of_getElem? (i := 299) (by decide +kernel)) rfl
theorem lk_X4_22 : Cond.fieldLink RX4 22 (TX0 0).1 (TX0 0).2.1 (TX0 0).2.2.1 ∈ tb := mem_tb (List.mem_of_getElem? (i := 221) (by decide +kernel)) rfl
theorem lk_X4_27 : Cond.fieldLink RX4 27 (TX0 1).1 (TX0 1).2.1 (TX0 1).2.2.1 ∈ tb := mem_tb (List.mem_of_getElem? (i := 224) (by decide +kernel)) rfl
theorem lk_X5_21 : Cond.fieldLink RX5 21 (TX5 1).1 (TX5 1).2.1 (TX5 1).2.2.1 ∈ tb := mem_tb (List.mem_of_getElem? (i := 197) (by decide +kernel)) rfl
theorem lk_X5_25 : Cond.fieldLink RX5 25 (TX5 3).1 (TX5 3).2.1 (TX5 3).2.2.1 ∈ tb := mem_tb (List.mem_of_getElem? (i := 202) (by decide +kernel)) rfl
theorem lk_X5_29 : Cond.fieldLink RX5 29 (TX5 2).1 (TX5 2).2.1 (TX5 2).2.2.1 ∈ tb := mem_tb (List.mem_of_getElem? (i := 200) (by decide +kernel)) rfl
theorem lk_X5_9 : Cond.fieldLink RX5 9 (TX5 0).1 (TX5 0).2.1 (TX5 0).2.2.1 ∈ tb := mem_tb (List.mem_of_getElem? (i := 193) (by decide +kernel)) rfl
theorem lk_X6_100 : Cond.fieldLink RX6 100 (TX6 9).1 (TX6 9).2.1 (TX6 9).2.2.1 ∈ tb := mem_tb (List.mem_of_getElem? (i := 314) (by decide +kernel)) rfl
theorem lk_X6_106 : Cond.fieldLink RX6 106 (TX3 1).1 (TX3 1).2.1 (TX3 1).2.2.1 ∈ tb := mem_tb (List.mem_of_getElem? (i := 152) (by decide +kernel)) rfl
theorem lk_X6_109 : Cond.fieldLink RX6 109 (TX2 2).1 (TX2 2).2.1 (TX2 2).2.2.1 ∈ tb := mem_tb (List.mem_of_getElem? (i := 118) (by decide +kernel)) rfl
theorem lk_X6_112 : Cond.fieldLink RX6 112 (TX3 0).1 (TX3 0).2.1 (TX3 0).2.2.1 ∈ tb := mem_tb (List.mem_of_getElem? (i := 149) (by decide +kernel)) rfl
theorem lk_X6_115 : Cond.fieldLink RX6 115 (TX5 1).1 (TX5 1).2.1 (TX5 1).2.2.1 ∈ tb := mem_tb (List.mem_of_getElem? (i := 198) (by decide +kernel)) rfl
theorem lk_X6_119 : Cond.fieldLink RX6 119 (TX5 3).1 (TX5 3).2.1 (TX5 3).2.2.1 ∈ tb := mem_tb (List.mem_of_getElem? (i := 203) (by decide +kernel)) rfl
theorem lk_X6_12 : Cond.fieldLink RX6 12 (TX6 0).1 (TX6 0).2.1 (TX6 0).2.2.1 ∈ tb := mem_tb (List.mem_of_getElem? (i := 305) (by decide +kernel)) rfl
theorem lk_X6_127 : Cond.fieldLink RX6 127 (TX3 3).1 (TX3 3).2.1 (TX3 3).2.2.1 ∈ tb := mem_tb (List.mem_of_getElem? (i := 159) (by decide +kernel)) rfl
theorem lk_X6_130 : Cond.fieldLink RX6 130 (TX3 4).1 (TX3 4).2.1 (TX3 4).2.2.1 ∈ tb := mem_tb (List.mem_of_getElem? (i := 163) (by decide +kernel)) rfl
theorem lk_X6_133 : Cond.fieldLink RX6 133 (TX3 5).1 (TX3 5).2.1 (TX3 5).2.2.1 ∈ tb := mem_tb (List.mem_of_getElem? (i := 167) (by decide +kernel)) rfl
theorem lk_X6_146 : Cond.fieldLink RX6 146 (TX3 2).1 (TX3 2).2.1 (TX3 2).2.2.1 ∈ tb := mem_tb (List.mem_of_getElem? (i := 155) (by decide +kernel)) rfl
theorem lk_X6_149 : Cond.fieldLink RX6 149 (TX5 0).1 (TX5 0).2.1 (TX5 0).2.2.1 ∈ tb := mem_tb (List.mem_of_getElem? (i := 195) (by decide +kernel)) rfl
theorem lk_X6_19 : Cond.fieldLink RX6 19 (TX6 1).1 (TX6 1).2.1 (TX6 1).2.2.1 ∈ tb := mem_tb (List.mem_of_getElem? (i := 306) (by decide +kernel)) rfl
theorem lk_X6_206 : Cond.fieldLink RX6 206 (TX0 0).1 (TX0 0).2.1 (TX0 0).2.2.1 ∈ tb := mem_tb (List.mem_of_getElem? (i := 222) (by decide +kernel)) rfl
theorem lk_X6_23 : Cond.fieldLink RX6 23 (TX6 2).1 (TX6 2).2.1 (TX6 2).2.2.1 ∈ tb := mem_tb (List.mem_of_getElem? (i := 307) (by decide +kernel)) rfl
theorem lk_X6_247 : Cond.fieldLink RX6 247 (TX0 5).1 (TX0 5).2.1 (TX0 5).2.2.1 ∈ tb := mem_tb (List.mem_of_getElem? (i := 231) (by decide +kernel)) rfl
theorem lk_X6_253 : Cond.fieldLink RX6 253 (TX5 2).1 (TX5 2).2.1 (TX5 2).2.2.1 ∈ tb := mem_tb (List.mem_of_getElem? (i := 201) (by decide +kernel)) rfl
theorem lk_X6_260 : Cond.fieldLink RX6 260 (TX0 2).1 (TX0 2).2.1 (TX0 2).2.2.1 ∈ tb := mem_tb (List.mem_of_getElem? (i := 226) (by decide +kernel)) rfl
theorem lk_X6_29 : Cond.fieldLink RX6 29 (TX6 3).1 (TX6 3).2.1 (TX6 3).2.2.1 ∈ tb := mem_tb (List.mem_of_getElem? (i := 308) (by decide +kernel)) rfl
theorem lk_X6_33 : Cond.fieldLink RX6 33 (TX6 4).1 (TX6 4).2.1 (TX6 4).2.2.1 ∈ tb := mem_tb (List.mem_of_getElem? (i := 309) (by decide +kernel)) rfl
theorem lk_X6_36 : Cond.fieldLink RX6 36 (TX6 5).1 (TX6 5).2.1 (TX6 5).2.2.1 ∈ tb := mem_tb (List.mem_of_getElem? (i := 310) (by decide +kernel)) rfl
theorem lk_X6_39 : Cond.fieldLink RX6 39 (TX6 6).1 (TX6 6).2.1 (TX6 6).2.2.1 ∈ tb := mem_tb (List.mem_of_getElem? (i := 311) (by decide +kernel)) rfl
theorem lk_X6_42 : Cond.fieldLink RX6 42 (TX6 8).1 (TX6 8).2.1 (TX6 8).2.2.1 ∈ tb := mem_tb (List.mem_of_getElem? (i := 313) (by decide +kernel)) rfl
theorem lk_X6_46 : Cond.fieldLink RX6 46 (TX6 10).1 (TX6 10).2.1 (TX6 10).2.2.1 ∈ tb := mem_tb (List.mem_of_getElem? (i := 315) (by decide +kernel)) rfl
theorem lk_X6_52 : Cond.fieldLink RX6 52 (TX6 11).1 (TX6 11).2.1 (TX6 11).2.2.1 ∈ tb := mem_tb (List.mem_of_getElem? (i := 316) (by decide +kernel)) rfl
theorem lk_X6_59 : Cond.fieldLink RX6 59 (TX6 12).1 (TX6 12).2.1 (TX6 12).2.2.1 ∈ tb := mem_tb (List.mem_of_getElem? (i := 317) (by decide +kernel)) rfl
theorem lk_X6_66 : Cond.fieldLink RX6 66 (TX6 13).1 (TX6 13).2.1 (TX6 13).2.2.1 ∈ tb := mem_tb (List.mem_of_getElem? (i := 318) (by decide +kernel)) rfl
theorem lk_X6_70 : Cond.fieldLink RX6 70 (TX6 14).1 (TX6 14).2.1 (TX6 14).2.2.1 ∈ tb := mem_tb (List.mem_of_getElem? (i := 319) (by decide +kernel)) rfl
theorem lk_X6_73 : Cond.fieldLink RX6 73 (TX6 15).1 (TX6 15).2.1 (TX6 15).2.2.1 ∈ tb := mem_tb (List.mem_of_getElem? (i := 320) (by decide +kernel)) rfl
theorem lk_X6_77 : Cond.fieldLink RX6 77 (TX2 1).1 (TX2 1).2.1 (TX2 1).2.2.1 ∈ tb := mem_tb (List.mem_of_getElem? (i := 116) (by decide +kernel)) rfl
theorem lk_X6_90 : Cond.fieldLink RX6 90 (TX3 6).1 (TX3 6).2.1 (TX3 6).2.2.1 ∈ tb := mem_tb (List.mem_of_getElem? (i := 169) (by decide +kernel)) rfl
theorem lk_X6_97 : Cond.fieldLink RX6 97 (TX6 7).1 (TX6 7).2.1 (TX6 7).2.2.1 ∈ tb := mem_tb (List.mem_of_getElem? (i := 312) (by decide +kernel)) rfl
theorem lk_X7_102 : Cond.fieldLink RX7 102 (TX7 8).1 (TX7 8).2.1 (TX7 8).2.2.1 ∈ tb := mem_tb (List.mem_of_getElem? (i := 877) (by decide +kernel)) rfl
theorem lk_X7_108 : Cond.fieldLink RX7 108 (TX7 10).1 (TX7 10).2.1 (TX7 10).2.2.1 ∈ tb := mem_tb (List.mem_of_getElem? (i := 879) (by decide +kernel)) rfl
theorem lk_X7_115 : Cond.fieldLink RX7 115 (TX7 11).1 (TX7 11).2.1 (TX7 11).2.2.1 ∈ tb := mem_tb (List.mem_of_getElem? (i := 880) (by decide +kernel)) rfl
theorem lk_X7_119 : Cond.fieldLink RX7 119 (TX7 12).1 (TX7 12).2.1 (TX7 12).2.2.1 ∈ tb := mem_tb (List.mem_of_getElem? (i := 881) (by decide +kernel)) rfl
theorem lk_X7_13 : Cond.fieldLink RX7 13 (TX7 3).1 (TX7 3).2.1 (TX7 3).2.2.1 ∈ tb := mem_tb (List.mem_of_getElem? (i := 872) (by decide +kernel)) rfl
theorem lk_X7_142 : Cond.fieldLink RX7 142 (TX7 14).1 (TX7 14).2.1 (TX7 14).2.2.1 ∈ tb := mem_tb (List.mem_of_getElem? (i := 883) (by decide +kernel)) rfl
theorem lk_X7_145 : Cond.fieldLink RX7 145 (TX7 13).1 (TX7 13).2.1 (TX7 13).2.2.1 ∈ tb := mem_tb (List.mem_of_getElem? (i := 882) (by decide +kernel)) rfl
theorem lk_X7_148 : Cond.fieldLink RX7 148 (TX7 15).1 (TX7 15).2.1 (TX7 15).2.2.1 ∈ tb := mem_tb (List.mem_of_getElem? (i := 884) (by decide +kernel)) rfl
theorem lk_X7_16 : Cond.fieldLink RX7 16 (TX7 4).1 (TX7 4).2.1 (TX7 4).2.2.1 ∈ tb := mem_tb (List.mem_of_getElem? (i := 873) (by decide +kernel)) rfl
theorem lk_X7_167 : Cond.fieldLink RX7 167 (TX7 16).1 (TX7 16).2.1 (TX7 16).2.2.1 ∈ tb := mem_tb (List.mem_of_getElem? (i := 885) (by decide +kernel)) rfl
theorem lk_X7_183 : Cond.fieldLink RX7 183 (TX7 5).1 (TX7 5).2.1 (TX7 5).2.2.1 ∈ tb := mem_tb (List.mem_of_getElem? (i := 874) (by decide +kernel)) rfl
theorem lk_X7_187 : Cond.fieldLink RX7 187 (TX7 6).1 (TX7 6).2.1 (TX7 6).2.2.1 ∈ tb := mem_tb (List.mem_of_getElem? (i := 875) (by decide +kernel)) rfl
theorem lk_X7_19 : Cond.fieldLink RX7 19 (TX7 7).1 (TX7 7).2.1 (TX7 7).2.2.1 ∈ tb := mem_tb (List.mem_of_getElem? (i := 876) (by decide +kernel)) rfl
theorem lk_X7_190 : Cond.fieldLink RX7 190 (TX7 35).1 (TX7 35).2.1 (TX7 35).2.2.1 ∈ tb := mem_tb (List.mem_of_getElem? (i := 904) (by decide +kernel)) rfl
theorem lk_X7_207 : Cond.fieldLink RX7 207 (TX7 23).1 (TX7 23).2.1 (TX7 23).2.2.1 ∈ tb := mem_tb (List.mem_of_getElem? (i := 892) (by decide +kernel)) rfl
theorem lk_X7_22 : Cond.fieldLink RX7 22 (TX7 9).1 (TX7 9).2.1 (TX7 9).2.2.1 ∈ tb := mem_tb (List.mem_of_getElem? (i := 878) (by decide +kernel)) rfl
theorem lk_X7_26 : Cond.fieldLink RX7 26 (TX7 17).1 (TX7 17).2.1 (TX7 17).2.2.1 ∈ tb := mem_tb (List.mem_of_getElem? (i := 886) (by decide +kernel)) rfl
theorem lk_X7_29 : Cond.fieldLink RX7 29 (TX7 18).1 (TX7 18).2.1 (TX7 18).2.2.1 ∈ tb := mem_tb (List.mem_of_getElem? (i := 887) (by decide +kernel)) rfl
theorem lk_X7_310 : Cond.fieldLink RX7 310 (TX7 28).1 (TX7 28).2.1 (TX7 28).2.2.1 ∈ tb := mem_tb (List.mem_of_getElem? (i := 897) (by decide +kernel)) rfl
theorem lk_X7_32 : Cond.fieldLink RX7 32 (TX7 19).1 (TX7 19).2.1 (TX7 19).2.2.1 ∈ tb := mem_tb (List.mem_of_getElem? (i := 888) (by decide +kernel)) rfl
theorem lk_X7_336 : Cond.fieldLink RX7 336 (TX7 34).1 (TX7 34).2.1 (TX7 34).2.2.1 ∈ tb := mem_tb (List.mem_of_getElem? (i := 903) (by decide +kernel)) rfl
theorem lk_X7_35 : Cond.fieldLink RX7 35 (TX7 20).1 (TX7 20).2.1 (TX7 20).2.2.1 ∈ tb := mem_tb (List.mem_of_getElem? (i := 889) (by decide +kernel)) rfl
theorem lk_X7_38 : Cond.fieldLink RX7 38 (TX7 21).1 (TX7 21).2.1 (TX7 21).2.2.1 ∈ tb := mem_tb (List.mem_of_getElem? (i := 890) (by decide +kernel)) rfl
theorem lk_X7_41 : Cond.fieldLink RX7 41 (TX7 22).1 (TX7 22).2.1 (TX7 22).2.2.1 ∈ tb := mem_tb (List.mem_of_getElem? (i := 891) (by decide +kernel)) rfl
theorem lk_X7_45 : Cond.fieldLink RX7 45 (TX7 24).1 (TX7 24).2.1 (TX7 24).2.2.1 ∈ tb := mem_tb (List.mem_of_getElem? (i := 893) (by decide +kernel)) rfl
theorem lk_X7_48 : Cond.fieldLink RX7 48 (TX7 25).1 (TX7 25).2.1 (TX7 25).2.2.1 ∈ tb := mem_tb (List.mem_of_getElem? (i := 894) (by decide +kernel)) rfl
theorem lk_X7_51 : Cond.fieldLink RX7 51 (TX7 26).1 (TX7 26).2.1 (TX7 26).2.2.1 ∈ tb := mem_tb (List.mem_of_getElem? (i := 895) (by decide +kernel)) rfl
theorem lk_X7_54 : Cond.fieldLink RX7 54 (TX7 27).1 (TX7 27).2.1 (TX7 27).2.2.1 ∈ tb := mem_tb (List.mem_of_getElem? (i := 896) (by decide +kernel)) rfl
theorem lk_X7_58 : Cond.fieldLink RX7 58 (TX7 29).1 (TX7 29).2.1 (TX7 29).2.2.1 ∈ tb := mem_tb (List.mem_of_getElem? (i := 898) (by decide +kernel)) rfl
theorem lk_X7_61 : Cond.fieldLink RX7 61 (TX7 30).1 (TX7 30).2.1 (TX7 30).2.2.1 ∈ tb := mem_tb (List.mem_of_getElem? (i := 899) (by decide +kernel)) rfl
theorem lk_X7_64 : Cond.fieldLink RX7 64 (TX7 31).1 (TX7 31).2.1 (TX7 31).2.2.1 ∈ tb := mem_tb (List.mem_of_getElem? (i := 900) (by decide +kernel)) rfl
theorem lk_X7_68 : Cond.fieldLink RX7 68 (TX7 32).1 (TX7 32).2.1 (TX7 32).2.2.1 ∈ tb := mem_tb (List.mem_of_getElem? (i := 901) (by decide +kernel)) rfl
theorem lk_X7_7 : Cond.fieldLink RX7 7 (TX7 2).1 (TX7 2).2.1 (TX7 2).2.2.1 ∈ tb := mem_tb (List.mem_of_getElem? (i := 871) (by decide +kernel)) rfl
theorem lk_X7_71 : Cond.fieldLink RX7 71 (TX7 33).1 (TX7 33).2.1 (TX7 33).2.2.1 ∈ tb := mem_tb (List.mem_of_getElem? (i := 902) (by decide +kernel)) rfl
theorem lk_X7_74 : Cond.fieldLink RX7 74 (TX7 36).1 (TX7 36).2.1 (TX7 36).2.2.1 ∈ tb := mem_tb (List.mem_of_getElem? (i := 905) (by decide +kernel)) rfl
theorem lk_X7_77 : Cond.fieldLink RX7 77 (TX7 37).1 (TX7 37).2.1 (TX7 37).2.2.1 ∈ tb := mem_tb (List.mem_of_getElem? (i := 906) (by decide +kernel)) rfl
theorem lk_X7_80 : Cond.fieldLink RX7 80 (TX7 38).1 (TX7 38).2.1 (TX7 38).2.2.1 ∈ tb := mem_tb (List.mem_of_getElem? (i := 907) (by decide +kernel)) rfl
theorem lk_X7_83 : Cond.fieldLink RX7 83 (TX7 39).1 (TX7 39).2.1 (TX7 39).2.2.1 ∈ tb := mem_tb (List.mem_of_getElem? (i := 908) (by decide +kernel)) rfl
theorem lk_X7_86 : Cond.fieldLink RX7 86 (TX7 40).1 (TX7 40).2.1 (TX7 40).2.2.1 ∈ tb := mem_tb (List.mem_of_getElem? (i := 909) (by decide +kernel)) rfl
theorem lk_X7_89 : Cond.fieldLink RX7 89 (TX7 0).1 (TX7 0).2.1 (TX7 0).2.2.1 ∈ tb := mem_tb (List.mem_of_getElem? (i := 869) (by decide +kernel)) rfl
theorem lk_X7_96 : Cond.fieldLink RX7 96 (TX7 1).1 (TX7 1).2.1 (TX7 1).2.2.1 ∈ tb := mem_tb (List.mem_of_getElem? (i := 870) (by decide +kernel)) rfl
theorem qc_X0_142 : Cond.constant RX0 142 1000000 ∈ tb := mem_tb (List.mem_of_getElem? (i := 623) (by decide +kernel)) rfl
theorem qc_X0_89 : Cond.constant RX0 89 65536 ∈ tb := mem_tb (List.mem_of_getElem? (i := 557) (by decide +kernel)) rfl
theorem qc_X6_126 : Cond.constant RX6 126 (-1000001) ∈ tb := mem_tb (List.mem_of_getElem? (i := 490) (by decide +kernel)) rfl
theorem qc_X6_178 : Cond.constant RX6 178 (-1000003) ∈ tb := mem_tb (List.mem_of_getElem? (i := 632) (by decide +kernel)) rfl
theorem qc_X6_76 : Cond.constant RX6 76 (-1000002) ∈ tb := mem_tb (List.mem_of_getElem? (i := 358) (by decide +kernel)) rfl
theorem qc_X6_81 : Cond.constant RX6 81 (-1000004) ∈ tb := mem_tb (List.mem_of_getElem? (i := 359) (by decide +kernel)) rfl
theorem qc_X7_101 : Cond.constant RX7 101 (-1000002) ∈ tb := mem_tb (List.mem_of_getElem? (i := 1001) (by decide +kernel)) rfl
theorem qc_X7_105 : Cond.constant RX7 105 (-1000004) ∈ tb := mem_tb (List.mem_of_getElem? (i := 1002) (by decide +kernel)) rfl
theorem qc_X7_197 : Cond.constant RX7 197 (-1000001) ∈ tb := mem_tb (List.mem_of_getElem? (i := 1071) (by decide +kernel)) rfl
theorem qc_X7_216 : Cond.constant RX7 216 65536 ∈ tb := mem_tb (List.mem_of_getElem? (i := 1124) (by decide +kernel)) rfl
theorem qc_X7_275 : Cond.constant RX7 275 1000000 ∈ tb := mem_tb (List.mem_of_getElem? (i := 1161) (by decide +kernel)) rfl
theorem qc_X7_287 : Cond.constant RX7 287 (-1000003) ∈ tb := mem_tb (List.mem_of_getElem? (i := 1170) (by decide +kernel)) rfl
theorem ql_X0_128 : Cond.constantLong RX0 128 1000000 ∈ tb := mem_tb (List.mem_of_getElem? (i := 607) (by decide +kernel)) rfl
theorem ql_X0_130 : Cond.constantLong RX0 130 100 ∈ tb := mem_tb (List.mem_of_getElem? (i := 608) (by decide +kernel)) rfl
theorem ql_X0_143 : Cond.constantLong RX0 143 1000 ∈ tb := mem_tb (List.mem_of_getElem? (i := 622) (by decide +kernel)) rfl
theorem ql_X0_83 : Cond.constantLong RX0 83 1103515245 ∈ tb := mem_tb (List.mem_of_getElem? (i := 554) (by decide +kernel)) rfl
theorem ql_X0_85 : Cond.constantLong RX0 85 12345 ∈ tb := mem_tb (List.mem_of_getElem? (i := 555) (by decide +kernel)) rfl
theorem ql_X0_87 : Cond.constantLong RX0 87 2147483647 ∈ tb := mem_tb (List.mem_of_getElem? (i := 556) (by decide +kernel)) rfl
theorem ql_X1_129 : Cond.constantLong RX1 129 1000 ∈ tb := mem_tb (List.mem_of_getElem? (i := 706) (by decide +kernel)) rfl
theorem ql_X1_131 : Cond.constantLong RX1 131 1000000 ∈ tb := mem_tb (List.mem_of_getElem? (i := 715) (by decide +kernel)) rfl
theorem ql_X1_44 : Cond.constantLong RX1 44 1000000000 ∈ tb := mem_tb (List.mem_of_getElem? (i := 645) (by decide +kernel)) rfl
theorem ql_X1_65 : Cond.constantLong RX1 65 100 ∈ tb := mem_tb (List.mem_of_getElem? (i := 667) (by decide +kernel)) rfl
theorem ql_X7_106 : Cond.constantLong RX7 106 255 ∈ tb := mem_tb (List.mem_of_getElem? (i := 1003) (by decide +kernel)) rfl
theorem ql_X7_122 : Cond.constantLong RX7 122 97 ∈ tb := mem_tb (List.mem_of_getElem? (i := 1020) (by decide +kernel)) rfl
theorem ql_X7_124 : Cond.constantLong RX7 124 122 ∈ tb := mem_tb (List.mem_of_getElem? (i := 1021) (by decide +kernel)) rfl
theorem ql_X7_126 : Cond.constantLong RX7 126 1000000000000 ∈ tb := mem_tb (List.mem_of_getElem? (i := 1022) (by decide +kernel)) rfl
theorem ql_X7_128 : Cond.constantLong RX7 128 2000000000000 ∈ tb := mem_tb (List.mem_of_getElem? (i := 1023) (by decide +kernel)) rfl
theorem ql_X7_130 : Cond.constantLong RX7 130 27 ∈ tb := mem_tb (List.mem_of_getElem? (i := 1024) (by decide +kernel)) rfl
theorem ql_X7_132 : Cond.constantLong RX7 132 96 ∈ tb := mem_tb (List.mem_of_getElem? (i := 1025) (by decide +kernel)) rfl
theorem ql_X7_134 : Cond.constantLong RX7 134 48 ∈ tb := mem_tb (List.mem_of_getElem? (i := 1042) (by decide +kernel)) rfl
theorem ql_X7_136 : Cond.constantLong RX7 136 57 ∈ tb := mem_tb (List.mem_of_getElem? (i := 1043) (by decide +kernel)) rfl
theorem ql_X7_154 : Cond.constantLong RX7 154 419 ∈ tb := mem_tb (List.mem_of_getElem? (i := 1037) (by decide +kernel)) rfl
theorem ql_X7_198 : Cond.constantLong RX7 198 4 ∈ tb := mem_tb (List.mem_of_getElem? (i := 1072) (by decide +kernel)) rfl
theorem ql_X7_210 : Cond.constantLong RX7 210 1103515245 ∈ tb := mem_tb (List.mem_of_getElem? (i := 1121) (by decide +kernel)) rfl
theorem ql_X7_212 : Cond.constantLong RX7 212 12345 ∈ tb := mem_tb (List.mem_of_getElem? (i := 1122) (by decide +kernel)) rfl
theorem ql_X7_214 : Cond.constantLong RX7 214 2147483648 ∈ tb := mem_tb (List.mem_of_getElem? (i := 1123) (by decide +kernel)) rfl
theorem ql_X7_240 : Cond.constantLong RX7 240 6 ∈ tb := mem_tb (List.mem_of_getElem? (i := 1136) (by decide +kernel)) rfl
theorem ql_X7_256 : Cond.constantLong RX7 256 1000000 ∈ tb := mem_tb (List.mem_of_getElem? (i := 1154) (by decide +kernel)) rfl
theorem ql_X7_258 : Cond.constantLong RX7 258 100 ∈ tb := mem_tb (List.mem_of_getElem? (i := 1155) (by decide +kernel)) rfl
theorem ql_X7_260 : Cond.constantLong RX7 260 1000 ∈ tb := mem_tb (List.mem_of_getElem? (i := 1160) (by decide +kernel)) rfl
theorem ql_X7_262 : Cond.constantLong RX7 262 3 ∈ tb := mem_tb (List.mem_of_getElem? (i := 1149) (by decide +kernel)) rfl
theorem ql_X7_282 : Cond.constantLong RX7 282 2 ∈ tb := mem_tb (List.mem_of_getElem? (i := 1169) (by decide +kernel)) rfl
theorem ql_X7_291 : Cond.constantLong RX7 291 99 ∈ tb := mem_tb (List.mem_of_getElem? (i := 1187) (by decide +kernel)) rfl
theorem ql_X7_299 : Cond.constantLong RX7 299 9 ∈ tb := mem_tb (List.mem_of_getElem? (i := 1204) (by decide +kernel)) rfl
theorem ql_X7_364 : Cond.constantLong RX7 364 1000000000 ∈ tb := mem_tb (List.mem_of_getElem? (i := 1289) (by decide +kernel)) rfl
theorem ql_X7_369 : Cond.constantLong RX7 369 20 ∈ tb := mem_tb (List.mem_of_getElem? (i := 1284) (by decide +kernel)) rfl
theorem ql_X7_99 : Cond.constantLong RX7 99 8 ∈ tb := mem_tb (List.mem_of_getElem? (i := 997) (by decide +kernel)) rfl
theorem wc_J7_fill_d0a16 : Cond.code yJ7_fill_d0a16 cJ7_fill_d0a16 5 none ∈ tb := mem_tb (List.mem_of_getElem? (i := 640) (by decide +kernel)) rfl
theorem wc_J7_fill_fda19 : Cond.code yJ7_fill_fda19 cJ7_fill_fda19 5 none ∈ tb := mem_tb (List.mem_of_getElem? (i := 768) (by decide +kernel)) rfl
theorem wc_J7_rangeCheck_23922 : Cond.code yJ7_rangeCheck_23922 cJ7_rangeCheck_23922 3 none ∈ tb := mem_tb (List.mem_of_getElem? (i := 771) (by decide +kernel)) rfl
theorem wc_X0_after : Cond.code yX0_after cX0_after 2 (some .int) ∈ tb := mem_tb (List.mem_of_getElem? (i := 701) (by decide +kernel)) rfl
theorem wc_X0_chosen : Cond.code yX0_chosen cX0_chosen 3 (some .int) ∈ tb := mem_tb (List.mem_of_getElem? (i := 653) (by decide +kernel)) rfl
theorem wc_X0_code : Cond.code yX0_code cX0_code 3 (some .int) ∈ tb := mem_tb (List.mem_of_getElem? (i := 644) (by decide +kernel)) rfl
theorem wc_X0_comes : Cond.code yX0_comes cX0_comes 3 (some .boolean) ∈ tb := mem_tb (List.mem_of_getElem? (i := 553) (by decide +kernel)) rfl
theorem wc_X0_endAgreed : Cond.code yX0_endAgreed cX0_endAgreed 4 (some .int) ∈ tb := mem_tb (List.mem_of_getElem? (i := 577) (by decide +kernel)) rfl
theorem wc_X0_endCorrected : Cond.code yX0_endCorrected cX0_endCorrected 3 (some .int) ∈ tb := mem_tb (List.mem_of_getElem? (i := 585) (by decide +kernel)) rfl
theorem wc_X0_endMisled : Cond.code yX0_endMisled cX0_endMisled 4 (some .int) ∈ tb := mem_tb (List.mem_of_getElem? (i := 589) (by decide +kernel)) rfl
theorem wc_X0_endShaken : Cond.code yX0_endShaken cX0_endShaken 3 (some .int) ∈ tb := mem_tb (List.mem_of_getElem? (i := 573) (by decide +kernel)) rfl
theorem wc_X0_greatestBelow : Cond.code yX0_greatestBelow cX0_greatestBelow 5 (some .int) ∈ tb := mem_tb (List.mem_of_getElem? (i := 661) (by decide +kernel)) rfl
theorem wc_X0_hold : Cond.code yX0_hold cX0_hold 6 (some .int) ∈ tb := mem_tb (List.mem_of_getElem? (i := 545) (by decide +kernel)) rfl
theorem wc_X0_isBarred : Cond.code yX0_isBarred cX0_isBarred 2 (some .boolean) ∈ tb := mem_tb (List.mem_of_getElem? (i := 757) (by decide +kernel)) rfl
theorem wc_X0_isGuestSurer : Cond.code yX0_isGuestSurer cX0_isGuestSurer 2 (some .boolean) ∈ tb := mem_tb (List.mem_of_getElem? (i := 569) (by decide +kernel)) rfl
theorem wc_X0_isSurer : Cond.code yX0_isSurer cX0_isSurer 3 (some .boolean) ∈ tb := mem_tb (List.mem_of_getElem? (i := 561) (by decide +kernel)) rfl
theorem wc_X0_knowing : Cond.code yX0_knowing cX0_knowing 3 (some .int) ∈ tb := mem_tb (List.mem_of_getElem? (i := 729) (by decide +kernel)) rfl
theorem wc_X0_least : Cond.code yX0_least cX0_least 7 (some .int) ∈ tb := mem_tb (List.mem_of_getElem? (i := 657) (by decide +kernel)) rfl
theorem wc_X0_leave : Cond.code yX0_leave cX0_leave 4 none ∈ tb := mem_tb (List.mem_of_getElem? (i := 597) (by decide +kernel)) rfl
theorem wc_X0_mayBelieve : Cond.code yX0_mayBelieve cX0_mayBelieve 3 (some .boolean) ∈ tb := mem_tb (List.mem_of_getElem? (i := 593) (by decide +kernel)) rfl
theorem wc_X0_mean : Cond.code yX0_mean cX0_mean 11 (some .int) ∈ tb := mem_tb (List.mem_of_getElem? (i := 612) (by decide +kernel)) rfl
theorem wc_X0_noChance : Cond.code yX0_noChance cX0_noChance 3 (some .int) ∈ tb := mem_tb (List.mem_of_getElem? (i := 565) (by decide +kernel)) rfl
theorem wc_X0_rightChance : Cond.code yX0_rightChance cX0_rightChance 2 (some .int) ∈ tb := mem_tb (List.mem_of_getElem? (i := 549) (by decide +kernel)) rfl
theorem wc_X0_rise : Cond.code yX0_rise cX0_rise 3 none ∈ tb := mem_tb (List.mem_of_getElem? (i := 581) (by decide +kernel)) rfl
theorem wc_X0_room : Cond.code yX0_room cX0_room 2 (some .int) ∈ tb := mem_tb (List.mem_of_getElem? (i := 530) (by decide +kernel)) rfl
theorem wc_X0_setLevels : Cond.code yX0_setLevels cX0_setLevels 4 none ∈ tb := mem_tb (List.mem_of_getElem? (i := 649) (by decide +kernel)) rfl
theorem wc_X0_share : Cond.code yX0_share cX0_share 5 (some .long) ∈ tb := mem_tb (List.mem_of_getElem? (i := 621) (by decide +kernel)) rfl
theorem wc_X0_sit : Cond.code yX0_sit cX0_sit 6 none ∈ tb := mem_tb (List.mem_of_getElem? (i := 522) (by decide +kernel)) rfl
theorem wc_X0_someNo : Cond.code yX0_someNo cX0_someNo 6 (some .int) ∈ tb := mem_tb (List.mem_of_getElem? (i := 606) (by decide +kernel)) rfl
theorem wc_X0_tell : Cond.code yX0_tell cX0_tell 4 (some .int) ∈ tb := mem_tb (List.mem_of_getElem? (i := 737) (by decide +kernel)) rfl
theorem wc_X1_begin : Cond.code yX1_begin cX1_begin 3 none ∈ tb := mem_tb (List.mem_of_getElem? (i := 675) (by decide +kernel)) rfl
theorem wc_X1_endMisled : Cond.code yX1_endMisled cX1_endMisled 7 none ∈ tb := mem_tb (List.mem_of_getElem? (i := 696) (by decide +kernel)) rfl
theorem wc_X1_endRight : Cond.code yX1_endRight cX1_endRight 8 none ∈ tb := mem_tb (List.mem_of_getElem? (i := 686) (by decide +kernel)) rfl
theorem wc_X1_endWrong : Cond.code yX1_endWrong cX1_endWrong 9 none ∈ tb := mem_tb (List.mem_of_getElem? (i := 691) (by decide +kernel)) rfl
theorem wc_X1_follow : Cond.code yX1_follow cX1_follow 9 none ∈ tb := mem_tb (List.mem_of_getElem? (i := 636) (by decide +kernel)) rfl
theorem wc_X1_meanLevel : Cond.code yX1_meanLevel cX1_meanLevel 6 (some .int) ∈ tb := mem_tb (List.mem_of_getElem? (i := 714) (by decide +kernel)) rfl
theorem wc_X1_partByNo : Cond.code yX1_partByNo cX1_partByNo 7 none ∈ tb := mem_tb (List.mem_of_getElem? (i := 671) (by decide +kernel)) rfl
theorem wc_X1_split : Cond.code yX1_split cX1_split 6 none ∈ tb := mem_tb (List.mem_of_getElem? (i := 681) (by decide +kernel)) rfl
theorem wc_X1_teach : Cond.code yX1_teach cX1_teach 6 none ∈ tb := mem_tb (List.mem_of_getElem? (i := 665) (by decide +kernel)) rfl
theorem wc_X1_thatAllKnow : Cond.code yX1_thatAllKnow cX1_thatAllKnow 2 (some .int) ∈ tb := mem_tb (List.mem_of_getElem? (i := 705) (by decide +kernel)) rfl
theorem wc_X1_thatNobodyKnows : Cond.code yX1_thatNobodyKnows cX1_thatNobodyKnows 7 (some .int) ∈ tb := mem_tb (List.mem_of_getElem? (i := 710) (by decide +kernel)) rfl
theorem wc_X2_add : Cond.code yX2_add cX2_add 2 none ∈ tb := mem_tb (List.mem_of_getElem? (i := 363) (by decide +kernel)) rfl
theorem wc_X2_advance : Cond.code yX2_advance cX2_advance 1 none ∈ tb := mem_tb (List.mem_of_getElem? (i := 375) (by decide +kernel)) rfl
theorem wc_X2_isSign : Cond.code yX2_isSign cX2_isSign 2 (some .boolean) ∈ tb := mem_tb (List.mem_of_getElem? (i := 453) (by decide +kernel)) rfl
theorem wc_X2_isWord : Cond.code yX2_isWord cX2_isWord 3 (some .boolean) ∈ tb := mem_tb (List.mem_of_getElem? (i := 384) (by decide +kernel)) rfl
theorem wc_X2_kindAt : Cond.code yX2_kindAt cX2_kindAt 2 (some .int) ∈ tb := mem_tb (List.mem_of_getElem? (i := 379) (by decide +kernel)) rfl
theorem wc_X2_read : Cond.code yX2_read cX2_read 3 (some .int) ∈ tb := mem_tb (List.mem_of_getElem? (i := 371) (by decide +kernel)) rfl
theorem wc_X2_readLeaning : Cond.code yX2_readLeaning cX2_readLeaning 6 (some .int) ∈ tb := mem_tb (List.mem_of_getElem? (i := 445) (by decide +kernel)) rfl
theorem wc_X2_readPupil : Cond.code yX2_readPupil cX2_readPupil 3 none ∈ tb := mem_tb (List.mem_of_getElem? (i := 462) (by decide +kernel)) rfl
theorem wc_X2_readThing : Cond.code yX2_readThing cX2_readThing 2 none ∈ tb := mem_tb (List.mem_of_getElem? (i := 436) (by decide +kernel)) rfl
theorem wc_X2_refuse : Cond.code yX2_refuse cX2_refuse 3 none ∈ tb := mem_tb (List.mem_of_getElem? (i := 440) (by decide +kernel)) rfl
theorem wc_X2_takeNumber : Cond.code yX2_takeNumber cX2_takeNumber 5 (some .int) ∈ tb := mem_tb (List.mem_of_getElem? (i := 449) (by decide +kernel)) rfl
theorem wc_X2_takeSign : Cond.code yX2_takeSign cX2_takeSign 2 none ∈ tb := mem_tb (List.mem_of_getElem? (i := 457) (by decide +kernel)) rfl
theorem wc_X3_topOf : Cond.code yX3_topOf cX3_topOf 5 (some .int) ∈ tb := mem_tb (List.mem_of_getElem? (i := 526) (by decide +kernel)) rfl
theorem wc_X4_forget : Cond.code yX4_forget cX4_forget 1 none ∈ tb := mem_tb (List.mem_of_getElem? (i := 473) (by decide +kernel)) rfl
theorem wc_X4_lessonsFrom : Cond.code yX4_lessonsFrom cX4_lessonsFrom 2 (some .int) ∈ tb := mem_tb (List.mem_of_getElem? (i := 765) (by decide +kernel)) rfl
theorem wc_X4_look : Cond.code yX4_look cX4_look 8 (some .int) ∈ tb := mem_tb (List.mem_of_getElem? (i := 776) (by decide +kernel)) rfl
theorem wc_X4_standsUp : Cond.code yX4_standsUp cX4_standsUp 7 (some .int) ∈ tb := mem_tb (List.mem_of_getElem? (i := 787) (by decide +kernel)) rfl
theorem wc_X5_begin : Cond.code yX5_begin cX5_begin 2 none ∈ tb := mem_tb (List.mem_of_getElem? (i := 466) (by decide +kernel)) rfl
theorem wc_X5_take : Cond.code yX5_take cX5_take 2 none ∈ tb := mem_tb (List.mem_of_getElem? (i := 820) (by decide +kernel)) rfl
theorem wc_X6_allLevels : Cond.code yX6_allLevels cX6_allLevels 4 (some .int) ∈ tb := mem_tb (List.mem_of_getElem? (i := 498) (by decide +kernel)) rfl
theorem wc_X6_fewest : Cond.code yX6_fewest cX6_fewest 2 (some .int) ∈ tb := mem_tb (List.mem_of_getElem? (i := 749) (by decide +kernel)) rfl
theorem wc_X6_fewestOfAll : Cond.code yX6_fewestOfAll cX6_fewestOfAll 4 (some .int) ∈ tb := mem_tb (List.mem_of_getElem? (i := 753) (by decide +kernel)) rfl
theorem wc_X6_fewestOfPart : Cond.code yX6_fewestOfPart cX6_fewestOfPart 3 (some .int) ∈ tb := mem_tb (List.mem_of_getElem? (i := 832) (by decide +kernel)) rfl
theorem wc_X6_findOrder : Cond.code yX6_findOrder cX6_findOrder 7 (some .int) ∈ tb := mem_tb (List.mem_of_getElem? (i := 816) (by decide +kernel)) rfl
theorem wc_X6_imageOf : Cond.code yX6_imageOf cX6_imageOf 2 (some (.object "LeastTeaches$Standing")) ∈ tb := mem_tb (List.mem_of_getElem? (i := 857) (by decide +kernel)) rfl
theorem wc_X6_isPupil : Cond.code yX6_isPupil cX6_isPupil 2 (some .boolean) ∈ tb := mem_tb (List.mem_of_getElem? (i := 489) (by decide +kernel)) rfl
theorem wc_X6_isRule : Cond.code yX6_isRule cX6_isRule 2 (some .boolean) ∈ tb := mem_tb (List.mem_of_getElem? (i := 631) (by decide +kernel)) rfl
theorem wc_X6_isThing : Cond.code yX6_isThing cX6_isThing 2 (some .boolean) ∈ tb := mem_tb (List.mem_of_getElem? (i := 506) (by decide +kernel)) rfl
theorem wc_X6_knownThings : Cond.code yX6_knownThings cX6_knownThings 4 (some .int) ∈ tb := mem_tb (List.mem_of_getElem? (i := 494) (by decide +kernel)) rfl
theorem wc_X6_leastOpen : Cond.code yX6_leastOpen cX6_leastOpen 3 (some .int) ∈ tb := mem_tb (List.mem_of_getElem? (i := 824) (by decide +kernel)) rfl
theorem wc_X6_levelBehind : Cond.code yX6_levelBehind cX6_levelBehind 6 (some .int) ∈ tb := mem_tb (List.mem_of_getElem? (i := 807) (by decide +kernel)) rfl
theorem wc_X6_searchFor : Cond.code yX6_searchFor cX6_searchFor 2 (some (.object "LeastTeaches$Search")) ∈ tb := mem_tb (List.mem_of_getElem? (i := 761) (by decide +kernel)) rfl
theorem wc_X6_sitAll : Cond.code yX6_sitAll cX6_sitAll 2 none ∈ tb := mem_tb (List.mem_of_getElem? (i := 518) (by decide +kernel)) rfl
theorem wc_X7_asNow : Cond.code yX7_asNow cX7_asNow 2 none ∈ tb := mem_tb (List.mem_of_getElem? (i := 1313) (by decide +kernel)) rfl
theorem wc_X7_believe : Cond.code yX7_believe cX7_believe 6 none ∈ tb := mem_tb (List.mem_of_getElem? (i := 1135) (by decide +kernel)) rfl
theorem wc_X7_bits : Cond.code yX7_bits cX7_bits 3 (some .int) ∈ tb := mem_tb (List.mem_of_getElem? (i := 1231) (by decide +kernel)) rfl
theorem wc_X7_capOf : Cond.code yX7_capOf cX7_capOf 6 (some .int) ∈ tb := mem_tb (List.mem_of_getElem? (i := 1092) (by decide +kernel)) rfl
theorem wc_X7_chanceOf : Cond.code yX7_chanceOf cX7_chanceOf 3 (some .int) ∈ tb := mem_tb (List.mem_of_getElem? (i := 1305) (by decide +kernel)) rfl
theorem wc_X7_code : Cond.code yX7_code cX7_code 5 (some .long) ∈ tb := mem_tb (List.mem_of_getElem? (i := 1028) (by decide +kernel)) rfl
theorem wc_X7_come : Cond.code yX7_come cX7_come 5 none ∈ tb := mem_tb (List.mem_of_getElem? (i := 1317) (by decide +kernel)) rfl
theorem wc_X7_draw : Cond.code yX7_draw cX7_draw 2 (some .int) ∈ tb := mem_tb (List.mem_of_getElem? (i := 1120) (by decide +kernel)) rfl
theorem wc_X7_everybody : Cond.code yX7_everybody cX7_everybody 1 (some .int) ∈ tb := mem_tb (List.mem_of_getElem? (i := 1108) (by decide +kernel)) rfl
theorem wc_X7_fails : Cond.code yX7_fails cX7_fails 3 (some .int) ∈ tb := mem_tb (List.mem_of_getElem? (i := 1032) (by decide +kernel)) rfl
theorem wc_X7_fewestOf : Cond.code yX7_fewestOf cX7_fewestOf 4 (some .int) ∈ tb := mem_tb (List.mem_of_getElem? (i := 1220) (by decide +kernel)) rfl
theorem wc_X7_findOdds : Cond.code yX7_findOdds cX7_findOdds 5 none ∈ tb := mem_tb (List.mem_of_getElem? (i := 1288) (by decide +kernel)) rfl
theorem wc_X7_findOrder : Cond.code yX7_findOrder cX7_findOrder 7 none ∈ tb := mem_tb (List.mem_of_getElem? (i := 1275) (by decide +kernel)) rfl
theorem wc_X7_firstWrong : Cond.code yX7_firstWrong cX7_firstWrong 3 (some .int) ∈ tb := mem_tb (List.mem_of_getElem? (i := 1337) (by decide +kernel)) rfl
theorem wc_X7_follow : Cond.code yX7_follow cX7_follow 4 none ∈ tb := mem_tb (List.mem_of_getElem? (i := 1140) (by decide +kernel)) rfl
theorem wc_X7_goal : Cond.code yX7_goal cX7_goal 4 (some .int) ∈ tb := mem_tb (List.mem_of_getElem? (i := 1228) (by decide +kernel)) rfl
theorem wc_X7_greatestBelow : Cond.code yX7_greatestBelow cX7_greatestBelow 3 (some .int) ∈ tb := mem_tb (List.mem_of_getElem? (i := 1182) (by decide +kernel)) rfl
theorem wc_X7_has : Cond.code yX7_has cX7_has 2 (some .boolean) ∈ tb := mem_tb (List.mem_of_getElem? (i := 1046) (by decide +kernel)) rfl
theorem wc_X7_here : Cond.code yX7_here cX7_here 1 (some .int) ∈ tb := mem_tb (List.mem_of_getElem? (i := 1011) (by decide +kernel)) rfl
theorem wc_X7_in : Cond.code yX7_in cX7_in 6 (some .boolean) ∈ tb := mem_tb (List.mem_of_getElem? (i := 1000) (by decide +kernel)) rfl
theorem wc_X7_isComma : Cond.code yX7_isComma cX7_isComma 2 (some .boolean) ∈ tb := mem_tb (List.mem_of_getElem? (i := 1050) (by decide +kernel)) rfl
theorem wc_X7_isPupil : Cond.code yX7_isPupil cX7_isPupil 2 (some .boolean) ∈ tb := mem_tb (List.mem_of_getElem? (i := 1070) (by decide +kernel)) rfl
theorem wc_X7_isRule : Cond.code yX7_isRule cX7_isRule 1 (some .boolean) ∈ tb := mem_tb (List.mem_of_getElem? (i := 1168) (by decide +kernel)) rfl
theorem wc_X7_isSmall : Cond.code yX7_isSmall cX7_isSmall 1 (some .boolean) ∈ tb := mem_tb (List.mem_of_getElem? (i := 1216) (by decide +kernel)) rfl
theorem wc_X7_isSo : Cond.code yX7_isSo cX7_isSo 3 (some .boolean) ∈ tb := mem_tb (List.mem_of_getElem? (i := 1116) (by decide +kernel)) rfl
theorem wc_X7_isThing : Cond.code yX7_isThing cX7_isThing 2 (some .boolean) ∈ tb := mem_tb (List.mem_of_getElem? (i := 1080) (by decide +kernel)) rfl
theorem wc_X7_knownNow : Cond.code yX7_knownNow cX7_knownNow 3 (some .int) ∈ tb := mem_tb (List.mem_of_getElem? (i := 1191) (by decide +kernel)) rfl
theorem wc_X7_leastOf : Cond.code yX7_leastOf cX7_leastOf 7 (some .int) ∈ tb := mem_tb (List.mem_of_getElem? (i := 1178) (by decide +kernel)) rfl
theorem wc_X7_levelBehind : Cond.code yX7_levelBehind cX7_levelBehind 7 (some .int) ∈ tb := mem_tb (List.mem_of_getElem? (i := 1267) (by decide +kernel)) rfl
theorem wc_X7_listSurer : Cond.code yX7_listSurer cX7_listSurer 3 none ∈ tb := mem_tb (List.mem_of_getElem? (i := 1301) (by decide +kernel)) rfl
theorem wc_X7_next : Cond.code yX7_next cX7_next 6 (some .int) ∈ tb := mem_tb (List.mem_of_getElem? (i := 1239) (by decide +kernel)) rfl
theorem wc_X7_noChance : Cond.code yX7_noChance cX7_noChance 2 (some .int) ∈ tb := mem_tb (List.mem_of_getElem? (i := 1127) (by decide +kernel)) rfl
theorem wc_X7_noOdds : Cond.code yX7_noOdds cX7_noOdds 9 (some .int) ∈ tb := mem_tb (List.mem_of_getElem? (i := 1153) (by decide +kernel)) rfl
theorem wc_X7_part : Cond.code yX7_part cX7_part 3 (some .long) ∈ tb := mem_tb (List.mem_of_getElem? (i := 1159) (by decide +kernel)) rfl
theorem wc_X7_partAll : Cond.code yX7_partAll cX7_partAll 7 none ∈ tb := mem_tb (List.mem_of_getElem? (i := 1293) (by decide +kernel)) rfl
theorem wc_X7_partBelief : Cond.code yX7_partBelief cX7_partBelief 10 none ∈ tb := mem_tb (List.mem_of_getElem? (i := 1321) (by decide +kernel)) rfl
theorem wc_X7_partNo : Cond.code yX7_partNo cX7_partNo 8 none ∈ tb := mem_tb (List.mem_of_getElem? (i := 1309) (by decide +kernel)) rfl
theorem wc_X7_partRight : Cond.code yX7_partRight cX7_partRight 12 none ∈ tb := mem_tb (List.mem_of_getElem? (i := 1297) (by decide +kernel)) rfl
theorem wc_X7_put : Cond.code yX7_put cX7_put 3 none ∈ tb := mem_tb (List.mem_of_getElem? (i := 1144) (by decide +kernel)) rfl
theorem wc_X7_readWord : Cond.code yX7_readWord cX7_readWord 2 none ∈ tb := mem_tb (List.mem_of_getElem? (i := 1019) (by decide +kernel)) rfl
theorem wc_X7_rise : Cond.code yX7_rise cX7_rise 4 none ∈ tb := mem_tb (List.mem_of_getElem? (i := 1131) (by decide +kernel)) rfl
theorem wc_X7_rises : Cond.code yX7_rises cX7_rises 4 (some .int) ∈ tb := mem_tb (List.mem_of_getElem? (i := 1088) (by decide +kernel)) rfl
theorem wc_X7_setState : Cond.code yX7_setState cX7_setState 5 none ∈ tb := mem_tb (List.mem_of_getElem? (i := 1243) (by decide +kernel)) rfl
theorem wc_X7_spread : Cond.code yX7_spread cX7_spread 7 (some .int) ∈ tb := mem_tb (List.mem_of_getElem? (i := 1224) (by decide +kernel)) rfl
theorem wc_X7_stateNow : Cond.code yX7_stateNow cX7_stateNow 4 (some .int) ∈ tb := mem_tb (List.mem_of_getElem? (i := 1235) (by decide +kernel)) rfl
theorem wc_X7_take : Cond.code yX7_take cX7_take 4 none ∈ tb := mem_tb (List.mem_of_getElem? (i := 1104) (by decide +kernel)) rfl
theorem wc_X7_takeClause : Cond.code yX7_takeClause cX7_takeClause 3 (some .int) ∈ tb := mem_tb (List.mem_of_getElem? (i := 1015) (by decide +kernel)) rfl
theorem wc_X7_takeNumber : Cond.code yX7_takeNumber cX7_takeNumber 4 (some .int) ∈ tb := mem_tb (List.mem_of_getElem? (i := 1041) (by decide +kernel)) rfl
theorem wc_X7_takePupil : Cond.code yX7_takePupil cX7_takePupil 4 (some .int) ∈ tb := mem_tb (List.mem_of_getElem? (i := 1054) (by decide +kernel)) rfl
theorem wc_X7_takeThing : Cond.code yX7_takeThing cX7_takeThing 3 (some .int) ∈ tb := mem_tb (List.mem_of_getElem? (i := 1036) (by decide +kernel)) rfl
theorem wc_X7_teach : Cond.code yX7_teach cX7_teach 10 (some .int) ∈ tb := mem_tb (List.mem_of_getElem? (i := 1112) (by decide +kernel)) rfl
theorem wc_X7_tellNow : Cond.code yX7_tellNow cX7_tellNow 4 (some .int) ∈ tb := mem_tb (List.mem_of_getElem? (i := 1199) (by decide +kernel)) rfl
theorem wc_X7_upBy : Cond.code yX7_upBy cX7_upBy 3 (some .int) ∈ tb := mem_tb (List.mem_of_getElem? (i := 1174) (by decide +kernel)) rfl
theorem wi_X0_after : Cond.instanceMethod yX0_after ∈ tb := mem_tb (List.mem_of_getElem? (i := 699) (by decide +kernel)) rfl
theorem wi_X0_chosen : Cond.instanceMethod yX0_chosen ∈ tb := mem_tb (List.mem_of_getElem? (i := 651) (by decide +kernel)) rfl
theorem wi_X0_code : Cond.instanceMethod yX0_code ∈ tb := mem_tb (List.mem_of_getElem? (i := 642) (by decide +kernel)) rfl
theorem wi_X0_comes : Cond.instanceMethod yX0_comes ∈ tb := mem_tb (List.mem_of_getElem? (i := 552) (by decide +kernel)) rfl
theorem wi_X0_endAgreed : Cond.instanceMethod yX0_endAgreed ∈ tb := mem_tb (List.mem_of_getElem? (i := 576) (by decide +kernel)) rfl
theorem wi_X0_endCorrected : Cond.instanceMethod yX0_endCorrected ∈ tb := mem_tb (List.mem_of_getElem? (i := 584) (by decide +kernel)) rfl
theorem wi_X0_endMisled : Cond.instanceMethod yX0_endMisled ∈ tb := mem_tb (List.mem_of_getElem? (i := 588) (by decide +kernel)) rfl
theorem wi_X0_endShaken : Cond.instanceMethod yX0_endShaken ∈ tb := mem_tb (List.mem_of_getElem? (i := 572) (by decide +kernel)) rfl
theorem wi_X0_greatestBelow : Cond.instanceMethod yX0_greatestBelow ∈ tb := mem_tb (List.mem_of_getElem? (i := 660) (by decide +kernel)) rfl
theorem wi_X0_hold : Cond.instanceMethod yX0_hold ∈ tb := mem_tb (List.mem_of_getElem? (i := 543) (by decide +kernel)) rfl
theorem wi_X0_isBarred : Cond.instanceMethod yX0_isBarred ∈ tb := mem_tb (List.mem_of_getElem? (i := 755) (by decide +kernel)) rfl
theorem wi_X0_isGuestSurer : Cond.instanceMethod yX0_isGuestSurer ∈ tb := mem_tb (List.mem_of_getElem? (i := 567) (by decide +kernel)) rfl
theorem wi_X0_isSurer : Cond.instanceMethod yX0_isSurer ∈ tb := mem_tb (List.mem_of_getElem? (i := 559) (by decide +kernel)) rfl
theorem wi_X0_knowing : Cond.instanceMethod yX0_knowing ∈ tb := mem_tb (List.mem_of_getElem? (i := 727) (by decide +kernel)) rfl
theorem wi_X0_least : Cond.instanceMethod yX0_least ∈ tb := mem_tb (List.mem_of_getElem? (i := 655) (by decide +kernel)) rfl
theorem wi_X0_leave : Cond.instanceMethod yX0_leave ∈ tb := mem_tb (List.mem_of_getElem? (i := 595) (by decide +kernel)) rfl
theorem wi_X0_mayBelieve : Cond.instanceMethod yX0_mayBelieve ∈ tb := mem_tb (List.mem_of_getElem? (i := 591) (by decide +kernel)) rfl
theorem wi_X0_mean : Cond.instanceMethod yX0_mean ∈ tb := mem_tb (List.mem_of_getElem? (i := 610) (by decide +kernel)) rfl
theorem wi_X0_noChance : Cond.instanceMethod yX0_noChance ∈ tb := mem_tb (List.mem_of_getElem? (i := 563) (by decide +kernel)) rfl
theorem wi_X0_rightChance : Cond.instanceMethod yX0_rightChance ∈ tb := mem_tb (List.mem_of_getElem? (i := 547) (by decide +kernel)) rfl
theorem wi_X0_rise : Cond.instanceMethod yX0_rise ∈ tb := mem_tb (List.mem_of_getElem? (i := 580) (by decide +kernel)) rfl
theorem wi_X0_room : Cond.instanceMethod yX0_room ∈ tb := mem_tb (List.mem_of_getElem? (i := 528) (by decide +kernel)) rfl
theorem wi_X0_setLevels : Cond.instanceMethod yX0_setLevels ∈ tb := mem_tb (List.mem_of_getElem? (i := 647) (by decide +kernel)) rfl
theorem wi_X0_share : Cond.instanceMethod yX0_share ∈ tb := mem_tb (List.mem_of_getElem? (i := 620) (by decide +kernel)) rfl
theorem wi_X0_sit : Cond.instanceMethod yX0_sit ∈ tb := mem_tb (List.mem_of_getElem? (i := 520) (by decide +kernel)) rfl
theorem wi_X0_someNo : Cond.instanceMethod yX0_someNo ∈ tb := mem_tb (List.mem_of_getElem? (i := 604) (by decide +kernel)) rfl
theorem wi_X0_tell : Cond.instanceMethod yX0_tell ∈ tb := mem_tb (List.mem_of_getElem? (i := 735) (by decide +kernel)) rfl
theorem wi_X1_begin : Cond.instanceMethod yX1_begin ∈ tb := mem_tb (List.mem_of_getElem? (i := 674) (by decide +kernel)) rfl
theorem wi_X1_endMisled : Cond.instanceMethod yX1_endMisled ∈ tb := mem_tb (List.mem_of_getElem? (i := 695) (by decide +kernel)) rfl
theorem wi_X1_endRight : Cond.instanceMethod yX1_endRight ∈ tb := mem_tb (List.mem_of_getElem? (i := 685) (by decide +kernel)) rfl
theorem wi_X1_endWrong : Cond.instanceMethod yX1_endWrong ∈ tb := mem_tb (List.mem_of_getElem? (i := 690) (by decide +kernel)) rfl
theorem wi_X1_follow : Cond.instanceMethod yX1_follow ∈ tb := mem_tb (List.mem_of_getElem? (i := 634) (by decide +kernel)) rfl
theorem wi_X1_meanLevel : Cond.instanceMethod yX1_meanLevel ∈ tb := mem_tb (List.mem_of_getElem? (i := 712) (by decide +kernel)) rfl
theorem wi_X1_partByNo : Cond.instanceMethod yX1_partByNo ∈ tb := mem_tb (List.mem_of_getElem? (i := 670) (by decide +kernel)) rfl
theorem wi_X1_split : Cond.instanceMethod yX1_split ∈ tb := mem_tb (List.mem_of_getElem? (i := 680) (by decide +kernel)) rfl
theorem wi_X1_teach : Cond.instanceMethod yX1_teach ∈ tb := mem_tb (List.mem_of_getElem? (i := 664) (by decide +kernel)) rfl
theorem wi_X1_thatAllKnow : Cond.instanceMethod yX1_thatAllKnow ∈ tb := mem_tb (List.mem_of_getElem? (i := 703) (by decide +kernel)) rfl
theorem wi_X1_thatNobodyKnows : Cond.instanceMethod yX1_thatNobodyKnows ∈ tb := mem_tb (List.mem_of_getElem? (i := 708) (by decide +kernel)) rfl
theorem wi_X2_add : Cond.instanceMethod yX2_add ∈ tb := mem_tb (List.mem_of_getElem? (i := 361) (by decide +kernel)) rfl
theorem wi_X2_advance : Cond.instanceMethod yX2_advance ∈ tb := mem_tb (List.mem_of_getElem? (i := 374) (by decide +kernel)) rfl
theorem wi_X2_isSign : Cond.instanceMethod yX2_isSign ∈ tb := mem_tb (List.mem_of_getElem? (i := 452) (by decide +kernel)) rfl
theorem wi_X2_isWord : Cond.instanceMethod yX2_isWord ∈ tb := mem_tb (List.mem_of_getElem? (i := 383) (by decide +kernel)) rfl
theorem wi_X2_kindAt : Cond.instanceMethod yX2_kindAt ∈ tb := mem_tb (List.mem_of_getElem? (i := 378) (by decide +kernel)) rfl
theorem wi_X2_read : Cond.instanceMethod yX2_read ∈ tb := mem_tb (List.mem_of_getElem? (i := 369) (by decide +kernel)) rfl
theorem wi_X2_readLeaning : Cond.instanceMethod yX2_readLeaning ∈ tb := mem_tb (List.mem_of_getElem? (i := 444) (by decide +kernel)) rfl
theorem wi_X2_readPupil : Cond.instanceMethod yX2_readPupil ∈ tb := mem_tb (List.mem_of_getElem? (i := 461) (by decide +kernel)) rfl
theorem wi_X2_readThing : Cond.instanceMethod yX2_readThing ∈ tb := mem_tb (List.mem_of_getElem? (i := 435) (by decide +kernel)) rfl
theorem wi_X2_refuse : Cond.instanceMethod yX2_refuse ∈ tb := mem_tb (List.mem_of_getElem? (i := 439) (by decide +kernel)) rfl
theorem wi_X2_takeNumber : Cond.instanceMethod yX2_takeNumber ∈ tb := mem_tb (List.mem_of_getElem? (i := 448) (by decide +kernel)) rfl
theorem wi_X2_takeSign : Cond.instanceMethod yX2_takeSign ∈ tb := mem_tb (List.mem_of_getElem? (i := 456) (by decide +kernel)) rfl
theorem wi_X3_topOf : Cond.instanceMethod yX3_topOf ∈ tb := mem_tb (List.mem_of_getElem? (i := 524) (by decide +kernel)) rfl
theorem wi_X4_forget : Cond.instanceMethod yX4_forget ∈ tb := mem_tb (List.mem_of_getElem? (i := 471) (by decide +kernel)) rfl
theorem wi_X4_lessonsFrom : Cond.instanceMethod yX4_lessonsFrom ∈ tb := mem_tb (List.mem_of_getElem? (i := 763) (by decide +kernel)) rfl
theorem wi_X4_look : Cond.instanceMethod yX4_look ∈ tb := mem_tb (List.mem_of_getElem? (i := 775) (by decide +kernel)) rfl
theorem wi_X4_standsUp : Cond.instanceMethod yX4_standsUp ∈ tb := mem_tb (List.mem_of_getElem? (i := 785) (by decide +kernel)) rfl
theorem wi_X5_begin : Cond.instanceMethod yX5_begin ∈ tb := mem_tb (List.mem_of_getElem? (i := 464) (by decide +kernel)) rfl
theorem wi_X5_take : Cond.instanceMethod yX5_take ∈ tb := mem_tb (List.mem_of_getElem? (i := 818) (by decide +kernel)) rfl
theorem wi_X6_allLevels : Cond.instanceMethod yX6_allLevels ∈ tb := mem_tb (List.mem_of_getElem? (i := 497) (by decide +kernel)) rfl
theorem wi_X6_fewest : Cond.instanceMethod yX6_fewest ∈ tb := mem_tb (List.mem_of_getElem? (i := 747) (by decide +kernel)) rfl
theorem wi_X6_fewestOfAll : Cond.instanceMethod yX6_fewestOfAll ∈ tb := mem_tb (List.mem_of_getElem? (i := 752) (by decide +kernel)) rfl
theorem wi_X6_fewestOfPart : Cond.instanceMethod yX6_fewestOfPart ∈ tb := mem_tb (List.mem_of_getElem? (i := 831) (by decide +kernel)) rfl
theorem wi_X6_findOrder : Cond.instanceMethod yX6_findOrder ∈ tb := mem_tb (List.mem_of_getElem? (i := 815) (by decide +kernel)) rfl
theorem wi_X6_imageOf : Cond.instanceMethod yX6_imageOf ∈ tb := mem_tb (List.mem_of_getElem? (i := 856) (by decide +kernel)) rfl
theorem wi_X6_isPupil : Cond.instanceMethod yX6_isPupil ∈ tb := mem_tb (List.mem_of_getElem? (i := 488) (by decide +kernel)) rfl
theorem wi_X6_isRule : Cond.instanceMethod yX6_isRule ∈ tb := mem_tb (List.mem_of_getElem? (i := 630) (by decide +kernel)) rfl
theorem wi_X6_isThing : Cond.instanceMethod yX6_isThing ∈ tb := mem_tb (List.mem_of_getElem? (i := 505) (by decide +kernel)) rfl
theorem wi_X6_knownThings : Cond.instanceMethod yX6_knownThings ∈ tb := mem_tb (List.mem_of_getElem? (i := 493) (by decide +kernel)) rfl
theorem wi_X6_leastOpen : Cond.instanceMethod yX6_leastOpen ∈ tb := mem_tb (List.mem_of_getElem? (i := 823) (by decide +kernel)) rfl
theorem wi_X6_levelBehind : Cond.instanceMethod yX6_levelBehind ∈ tb := mem_tb (List.mem_of_getElem? (i := 806) (by decide +kernel)) rfl
theorem wi_X6_searchFor : Cond.instanceMethod yX6_searchFor ∈ tb := mem_tb (List.mem_of_getElem? (i := 760) (by decide +kernel)) rfl
theorem wi_X6_sitAll : Cond.instanceMethod yX6_sitAll ∈ tb := mem_tb (List.mem_of_getElem? (i := 517) (by decide +kernel)) rfl
theorem wi_X7_asNow : Cond.instanceMethod yX7_asNow ∈ tb := mem_tb (List.mem_of_getElem? (i := 1312) (by decide +kernel)) rfl
theorem wi_X7_believe : Cond.instanceMethod yX7_believe ∈ tb := mem_tb (List.mem_of_getElem? (i := 1134) (by decide +kernel)) rfl
theorem wi_X7_capOf : Cond.instanceMethod yX7_capOf ∈ tb := mem_tb (List.mem_of_getElem? (i := 1091) (by decide +kernel)) rfl
theorem wi_X7_chanceOf : Cond.instanceMethod yX7_chanceOf ∈ tb := mem_tb (List.mem_of_getElem? (i := 1304) (by decide +kernel)) rfl
theorem wi_X7_come : Cond.instanceMethod yX7_come ∈ tb := mem_tb (List.mem_of_getElem? (i := 1316) (by decide +kernel)) rfl
theorem wi_X7_draw : Cond.instanceMethod yX7_draw ∈ tb := mem_tb (List.mem_of_getElem? (i := 1119) (by decide +kernel)) rfl
theorem wi_X7_everybody : Cond.instanceMethod yX7_everybody ∈ tb := mem_tb (List.mem_of_getElem? (i := 1107) (by decide +kernel)) rfl
theorem wi_X7_fails : Cond.instanceMethod yX7_fails ∈ tb := mem_tb (List.mem_of_getElem? (i := 1031) (by decide +kernel)) rfl
theorem wi_X7_fewestOf : Cond.instanceMethod yX7_fewestOf ∈ tb := mem_tb (List.mem_of_getElem? (i := 1219) (by decide +kernel)) rfl
theorem wi_X7_findOdds : Cond.instanceMethod yX7_findOdds ∈ tb := mem_tb (List.mem_of_getElem? (i := 1287) (by decide +kernel)) rfl
theorem wi_X7_findOrder : Cond.instanceMethod yX7_findOrder ∈ tb := mem_tb (List.mem_of_getElem? (i := 1274) (by decide +kernel)) rfl
theorem wi_X7_firstWrong : Cond.instanceMethod yX7_firstWrong ∈ tb := mem_tb (List.mem_of_getElem? (i := 1336) (by decide +kernel)) rfl
theorem wi_X7_follow : Cond.instanceMethod yX7_follow ∈ tb := mem_tb (List.mem_of_getElem? (i := 1139) (by decide +kernel)) rfl
theorem wi_X7_goal : Cond.instanceMethod yX7_goal ∈ tb := mem_tb (List.mem_of_getElem? (i := 1227) (by decide +kernel)) rfl
theorem wi_X7_greatestBelow : Cond.instanceMethod yX7_greatestBelow ∈ tb := mem_tb (List.mem_of_getElem? (i := 1181) (by decide +kernel)) rfl
theorem wi_X7_here : Cond.instanceMethod yX7_here ∈ tb := mem_tb (List.mem_of_getElem? (i := 1010) (by decide +kernel)) rfl
theorem wi_X7_isComma : Cond.instanceMethod yX7_isComma ∈ tb := mem_tb (List.mem_of_getElem? (i := 1049) (by decide +kernel)) rfl
theorem wi_X7_isPupil : Cond.instanceMethod yX7_isPupil ∈ tb := mem_tb (List.mem_of_getElem? (i := 1069) (by decide +kernel)) rfl
theorem wi_X7_isSmall : Cond.instanceMethod yX7_isSmall ∈ tb := mem_tb (List.mem_of_getElem? (i := 1215) (by decide +kernel)) rfl
theorem wi_X7_isSo : Cond.instanceMethod yX7_isSo ∈ tb := mem_tb (List.mem_of_getElem? (i := 1115) (by decide +kernel)) rfl
theorem wi_X7_isThing : Cond.instanceMethod yX7_isThing ∈ tb := mem_tb (List.mem_of_getElem? (i := 1079) (by decide +kernel)) rfl
theorem wi_X7_knownNow : Cond.instanceMethod yX7_knownNow ∈ tb := mem_tb (List.mem_of_getElem? (i := 1190) (by decide +kernel)) rfl
theorem wi_X7_leastOf : Cond.instanceMethod yX7_leastOf ∈ tb := mem_tb (List.mem_of_getElem? (i := 1177) (by decide +kernel)) rfl
theorem wi_X7_levelBehind : Cond.instanceMethod yX7_levelBehind ∈ tb := mem_tb (List.mem_of_getElem? (i := 1266) (by decide +kernel)) rfl
theorem wi_X7_listSurer : Cond.instanceMethod yX7_listSurer ∈ tb := mem_tb (List.mem_of_getElem? (i := 1300) (by decide +kernel)) rfl
theorem wi_X7_next : Cond.instanceMethod yX7_next ∈ tb := mem_tb (List.mem_of_getElem? (i := 1238) (by decide +kernel)) rfl
theorem wi_X7_noOdds : Cond.instanceMethod yX7_noOdds ∈ tb := mem_tb (List.mem_of_getElem? (i := 1152) (by decide +kernel)) rfl
theorem wi_X7_partAll : Cond.instanceMethod yX7_partAll ∈ tb := mem_tb (List.mem_of_getElem? (i := 1292) (by decide +kernel)) rfl
theorem wi_X7_partBelief : Cond.instanceMethod yX7_partBelief ∈ tb := mem_tb (List.mem_of_getElem? (i := 1320) (by decide +kernel)) rfl
theorem wi_X7_partNo : Cond.instanceMethod yX7_partNo ∈ tb := mem_tb (List.mem_of_getElem? (i := 1308) (by decide +kernel)) rfl
theorem wi_X7_partRight : Cond.instanceMethod yX7_partRight ∈ tb := mem_tb (List.mem_of_getElem? (i := 1296) (by decide +kernel)) rfl
theorem wi_X7_put : Cond.instanceMethod yX7_put ∈ tb := mem_tb (List.mem_of_getElem? (i := 1143) (by decide +kernel)) rfl
theorem wi_X7_readWord : Cond.instanceMethod yX7_readWord ∈ tb := mem_tb (List.mem_of_getElem? (i := 1018) (by decide +kernel)) rfl
theorem wi_X7_rise : Cond.instanceMethod yX7_rise ∈ tb := mem_tb (List.mem_of_getElem? (i := 1130) (by decide +kernel)) rfl
theorem wi_X7_rises : Cond.instanceMethod yX7_rises ∈ tb := mem_tb (List.mem_of_getElem? (i := 1086) (by decide +kernel)) rfl
theorem wi_X7_setState : Cond.instanceMethod yX7_setState ∈ tb := mem_tb (List.mem_of_getElem? (i := 1242) (by decide +kernel)) rfl
theorem wi_X7_spread : Cond.instanceMethod yX7_spread ∈ tb := mem_tb (List.mem_of_getElem? (i := 1223) (by decide +kernel)) rfl
theorem wi_X7_stateNow : Cond.instanceMethod yX7_stateNow ∈ tb := mem_tb (List.mem_of_getElem? (i := 1234) (by decide +kernel)) rfl
theorem wi_X7_take : Cond.instanceMethod yX7_take ∈ tb := mem_tb (List.mem_of_getElem? (i := 1103) (by decide +kernel)) rfl
theorem wi_X7_takeClause : Cond.instanceMethod yX7_takeClause ∈ tb := mem_tb (List.mem_of_getElem? (i := 1014) (by decide +kernel)) rfl
theorem wi_X7_takeNumber : Cond.instanceMethod yX7_takeNumber ∈ tb := mem_tb (List.mem_of_getElem? (i := 1040) (by decide +kernel)) rfl
theorem wi_X7_takePupil : Cond.instanceMethod yX7_takePupil ∈ tb := mem_tb (List.mem_of_getElem? (i := 1053) (by decide +kernel)) rfl
theorem wi_X7_takeThing : Cond.instanceMethod yX7_takeThing ∈ tb := mem_tb (List.mem_of_getElem? (i := 1035) (by decide +kernel)) rfl
theorem wi_X7_teach : Cond.instanceMethod yX7_teach ∈ tb := mem_tb (List.mem_of_getElem? (i := 1111) (by decide +kernel)) rfl
theorem wi_X7_tellNow : Cond.instanceMethod yX7_tellNow ∈ tb := mem_tb (List.mem_of_getElem? (i := 1198) (by decide +kernel)) rfl
theorem wi_X7_upBy : Cond.instanceMethod yX7_upBy ∈ tb := mem_tb (List.mem_of_getElem? (i := 1173) (by decide +kernel)) rfl
theorem wl_J7_13 : Cond.methodLink RJ7 13 yJ7_rangeCheck_23922 ∈ tb := mem_tb (List.mem_of_getElem? (i := 769) (by decide +kernel)) rfl
theorem wl_X0_101 : Cond.methodLink RX0 101 yX0_noChance ∈ tb := mem_tb (List.mem_of_getElem? (i := 562) (by decide +kernel)) rfl
theorem wl_X0_105 : Cond.methodLink RX0 105 yX0_isGuestSurer ∈ tb := mem_tb (List.mem_of_getElem? (i := 566) (by decide +kernel)) rfl
theorem wl_X0_109 : Cond.methodLink RX0 109 yX0_endShaken ∈ tb := mem_tb (List.mem_of_getElem? (i := 570) (by decide +kernel)) rfl
theorem wl_X0_112 : Cond.methodLink RX0 112 yX0_endAgreed ∈ tb := mem_tb (List.mem_of_getElem? (i := 574) (by decide +kernel)) rfl
theorem wl_X0_115 : Cond.methodLink RX0 115 yX0_endCorrected ∈ tb := mem_tb (List.mem_of_getElem? (i := 582) (by decide +kernel)) rfl
theorem wl_X0_118 : Cond.methodLink RX0 118 yX0_endMisled ∈ tb := mem_tb (List.mem_of_getElem? (i := 586) (by decide +kernel)) rfl
theorem wl_X0_121 : Cond.methodLink RX0 121 yX0_rise ∈ tb := mem_tb (List.mem_of_getElem? (i := 578) (by decide +kernel)) rfl
theorem wl_X0_125 : Cond.methodLink RX0 125 yX0_mayBelieve ∈ tb := mem_tb (List.mem_of_getElem? (i := 590) (by decide +kernel)) rfl
theorem wl_X0_132 : Cond.methodLink RX0 132 yX0_someNo ∈ tb := mem_tb (List.mem_of_getElem? (i := 613) (by decide +kernel)) rfl
theorem wl_X0_138 : Cond.methodLink RX0 138 yX0_share ∈ tb := mem_tb (List.mem_of_getElem? (i := 618) (by decide +kernel)) rfl
theorem wl_X0_60 : Cond.methodLink RX0 60 yX3_topOf ∈ tb := mem_tb (List.mem_of_getElem? (i := 523) (by decide +kernel)) rfl
theorem wl_X0_73 : Cond.methodLink RX0 73 yX0_least ∈ tb := mem_tb (List.mem_of_getElem? (i := 654) (by decide +kernel)) rfl
theorem wl_X0_76 : Cond.methodLink RX0 76 yX0_greatestBelow ∈ tb := mem_tb (List.mem_of_getElem? (i := 658) (by decide +kernel)) rfl
theorem wl_X0_80 : Cond.methodLink RX0 80 yX0_room ∈ tb := mem_tb (List.mem_of_getElem? (i := 614) (by decide +kernel)) rfl
theorem wl_X0_90 : Cond.methodLink RX0 90 yX0_rightChance ∈ tb := mem_tb (List.mem_of_getElem? (i := 546) (by decide +kernel)) rfl
theorem wl_X0_93 : Cond.methodLink RX0 93 yX0_comes ∈ tb := mem_tb (List.mem_of_getElem? (i := 550) (by decide +kernel)) rfl
theorem wl_X0_97 : Cond.methodLink RX0 97 yX0_isSurer ∈ tb := mem_tb (List.mem_of_getElem? (i := 558) (by decide +kernel)) rfl
theorem wl_X1_102 : Cond.methodLink RX1 102 yX0_isGuestSurer ∈ tb := mem_tb (List.mem_of_getElem? (i := 682) (by decide +kernel)) rfl
theorem wl_X1_109 : Cond.methodLink RX1 109 yX0_room ∈ tb := mem_tb (List.mem_of_getElem? (i := 687) (by decide +kernel)) rfl
theorem wl_X1_120 : Cond.methodLink RX1 120 yX1_endMisled ∈ tb := mem_tb (List.mem_of_getElem? (i := 693) (by decide +kernel)) rfl
theorem wl_X1_123 : Cond.methodLink RX1 123 yX0_mayBelieve ∈ tb := mem_tb (List.mem_of_getElem? (i := 697) (by decide +kernel)) rfl
theorem wl_X1_34 : Cond.methodLink RX1 34 yJ7_fill_d0a16 ∈ tb := mem_tb (List.mem_of_getElem? (i := 638) (by decide +kernel)) rfl
theorem wl_X1_40 : Cond.methodLink RX1 40 yX0_code ∈ tb := mem_tb (List.mem_of_getElem? (i := 641) (by decide +kernel)) rfl
theorem wl_X1_46 : Cond.methodLink RX1 46 yX0_setLevels ∈ tb := mem_tb (List.mem_of_getElem? (i := 646) (by decide +kernel)) rfl
theorem wl_X1_50 : Cond.methodLink RX1 50 yX0_chosen ∈ tb := mem_tb (List.mem_of_getElem? (i := 650) (by decide +kernel)) rfl
theorem wl_X1_54 : Cond.methodLink RX1 54 yX1_teach ∈ tb := mem_tb (List.mem_of_getElem? (i := 662) (by decide +kernel)) rfl
theorem wl_X1_58 : Cond.methodLink RX1 58 yX0_after ∈ tb := mem_tb (List.mem_of_getElem? (i := 698) (by decide +kernel)) rfl
theorem wl_X1_62 : Cond.methodLink RX1 62 yX0_rightChance ∈ tb := mem_tb (List.mem_of_getElem? (i := 666) (by decide +kernel)) rfl
theorem wl_X1_67 : Cond.methodLink RX1 67 yX1_partByNo ∈ tb := mem_tb (List.mem_of_getElem? (i := 668) (by decide +kernel)) rfl
theorem wl_X1_71 : Cond.methodLink RX1 71 yX1_endRight ∈ tb := mem_tb (List.mem_of_getElem? (i := 683) (by decide +kernel)) rfl
theorem wl_X1_74 : Cond.methodLink RX1 74 yX1_endWrong ∈ tb := mem_tb (List.mem_of_getElem? (i := 688) (by decide +kernel)) rfl
theorem wl_X1_83 : Cond.methodLink RX1 83 yX1_begin ∈ tb := mem_tb (List.mem_of_getElem? (i := 672) (by decide +kernel)) rfl
theorem wl_X1_87 : Cond.methodLink RX1 87 yX0_isSurer ∈ tb := mem_tb (List.mem_of_getElem? (i := 676) (by decide +kernel)) rfl
theorem wl_X1_94 : Cond.methodLink RX1 94 yX0_noChance ∈ tb := mem_tb (List.mem_of_getElem? (i := 677) (by decide +kernel)) rfl
theorem wl_X1_98 : Cond.methodLink RX1 98 yX1_split ∈ tb := mem_tb (List.mem_of_getElem? (i := 678) (by decide +kernel)) rfl
theorem wl_X2_109 : Cond.methodLink RX2 109 yX2_kindAt ∈ tb := mem_tb (List.mem_of_getElem? (i := 376) (by decide +kernel)) rfl
theorem wl_X2_40 : Cond.methodLink RX2 40 yX2_advance ∈ tb := mem_tb (List.mem_of_getElem? (i := 372) (by decide +kernel)) rfl
theorem wl_X2_48 : Cond.methodLink RX2 48 yX2_isWord ∈ tb := mem_tb (List.mem_of_getElem? (i := 381) (by decide +kernel)) rfl
theorem wl_X2_52 : Cond.methodLink RX2 52 yX2_readThing ∈ tb := mem_tb (List.mem_of_getElem? (i := 433) (by decide +kernel)) rfl
theorem wl_X2_57 : Cond.methodLink RX2 57 yX2_readPupil ∈ tb := mem_tb (List.mem_of_getElem? (i := 459) (by decide +kernel)) rfl
theorem wl_X2_63 : Cond.methodLink RX2 63 yX2_refuse ∈ tb := mem_tb (List.mem_of_getElem? (i := 437) (by decide +kernel)) rfl
theorem wl_X2_69 : Cond.methodLink RX2 69 yX2_readLeaning ∈ tb := mem_tb (List.mem_of_getElem? (i := 442) (by decide +kernel)) rfl
theorem wl_X2_73 : Cond.methodLink RX2 73 yX2_takeSign ∈ tb := mem_tb (List.mem_of_getElem? (i := 454) (by decide +kernel)) rfl
theorem wl_X2_81 : Cond.methodLink RX2 81 yX2_takeNumber ∈ tb := mem_tb (List.mem_of_getElem? (i := 446) (by decide +kernel)) rfl
theorem wl_X2_85 : Cond.methodLink RX2 85 yX2_isSign ∈ tb := mem_tb (List.mem_of_getElem? (i := 450) (by decide +kernel)) rfl
theorem wl_X4_30 : Cond.methodLink RX4 30 yJ7_fill_fda19 ∈ tb := mem_tb (List.mem_of_getElem? (i := 766) (by decide +kernel)) rfl
theorem wl_X4_36 : Cond.methodLink RX4 36 yX0_code ∈ tb := mem_tb (List.mem_of_getElem? (i := 772) (by decide +kernel)) rfl
theorem wl_X4_40 : Cond.methodLink RX4 40 yX4_look ∈ tb := mem_tb (List.mem_of_getElem? (i := 773) (by decide +kernel)) rfl
theorem wl_X4_44 : Cond.methodLink RX4 44 yX0_setLevels ∈ tb := mem_tb (List.mem_of_getElem? (i := 777) (by decide +kernel)) rfl
theorem wl_X4_48 : Cond.methodLink RX4 48 yX0_hold ∈ tb := mem_tb (List.mem_of_getElem? (i := 778) (by decide +kernel)) rfl
theorem wl_X6_103 : Cond.methodLink RX6 103 yX4_forget ∈ tb := mem_tb (List.mem_of_getElem? (i := 470) (by decide +kernel)) rfl
theorem wl_X6_122 : Cond.methodLink RX6 122 yX6_isPupil ∈ tb := mem_tb (List.mem_of_getElem? (i := 486) (by decide +kernel)) rfl
theorem wl_X6_136 : Cond.methodLink RX6 136 yX6_knownThings ∈ tb := mem_tb (List.mem_of_getElem? (i := 491) (by decide +kernel)) rfl
theorem wl_X6_140 : Cond.methodLink RX6 140 yX6_allLevels ∈ tb := mem_tb (List.mem_of_getElem? (i := 495) (by decide +kernel)) rfl
theorem wl_X6_143 : Cond.methodLink RX6 143 yX6_isThing ∈ tb := mem_tb (List.mem_of_getElem? (i := 503) (by decide +kernel)) rfl
theorem wl_X6_152 : Cond.methodLink RX6 152 yX6_sitAll ∈ tb := mem_tb (List.mem_of_getElem? (i := 515) (by decide +kernel)) rfl
theorem wl_X6_155 : Cond.methodLink RX6 155 yX0_room ∈ tb := mem_tb (List.mem_of_getElem? (i := 527) (by decide +kernel)) rfl
theorem wl_X6_158 : Cond.methodLink RX6 158 yX0_hold ∈ tb := mem_tb (List.mem_of_getElem? (i := 542) (by decide +kernel)) rfl
theorem wl_X6_162 : Cond.methodLink RX6 162 yX0_leave ∈ tb := mem_tb (List.mem_of_getElem? (i := 594) (by decide +kernel)) rfl
theorem wl_X6_166 : Cond.methodLink RX6 166 yX0_rightChance ∈ tb := mem_tb (List.mem_of_getElem? (i := 602) (by decide +kernel)) rfl
theorem wl_X6_169 : Cond.methodLink RX6 169 yX0_someNo ∈ tb := mem_tb (List.mem_of_getElem? (i := 603) (by decide +kernel)) rfl
theorem wl_X6_172 : Cond.methodLink RX6 172 yX0_mean ∈ tb := mem_tb (List.mem_of_getElem? (i := 609) (by decide +kernel)) rfl
theorem wl_X6_175 : Cond.methodLink RX6 175 yX6_isRule ∈ tb := mem_tb (List.mem_of_getElem? (i := 628) (by decide +kernel)) rfl
theorem wl_X6_179 : Cond.methodLink RX6 179 yX1_follow ∈ tb := mem_tb (List.mem_of_getElem? (i := 633) (by decide +kernel)) rfl
theorem wl_X6_183 : Cond.methodLink RX6 183 yX1_thatAllKnow ∈ tb := mem_tb (List.mem_of_getElem? (i := 702) (by decide +kernel)) rfl
theorem wl_X6_186 : Cond.methodLink RX6 186 yX1_thatNobodyKnows ∈ tb := mem_tb (List.mem_of_getElem? (i := 707) (by decide +kernel)) rfl
theorem wl_X6_189 : Cond.methodLink RX6 189 yX1_meanLevel ∈ tb := mem_tb (List.mem_of_getElem? (i := 711) (by decide +kernel)) rfl
theorem wl_X6_193 : Cond.methodLink RX6 193 yX0_chosen ∈ tb := mem_tb (List.mem_of_getElem? (i := 720) (by decide +kernel)) rfl
theorem wl_X6_196 : Cond.methodLink RX6 196 yX0_after ∈ tb := mem_tb (List.mem_of_getElem? (i := 725) (by decide +kernel)) rfl
theorem wl_X6_199 : Cond.methodLink RX6 199 yX0_knowing ∈ tb := mem_tb (List.mem_of_getElem? (i := 726) (by decide +kernel)) rfl
theorem wl_X6_203 : Cond.methodLink RX6 203 yX0_tell ∈ tb := mem_tb (List.mem_of_getElem? (i := 734) (by decide +kernel)) rfl
theorem wl_X6_209 : Cond.methodLink RX6 209 yX6_fewestOfAll ∈ tb := mem_tb (List.mem_of_getElem? (i := 750) (by decide +kernel)) rfl
theorem wl_X6_213 : Cond.methodLink RX6 213 yX6_fewest ∈ tb := mem_tb (List.mem_of_getElem? (i := 783) (by decide +kernel)) rfl
theorem wl_X6_216 : Cond.methodLink RX6 216 yX6_searchFor ∈ tb := mem_tb (List.mem_of_getElem? (i := 758) (by decide +kernel)) rfl
theorem wl_X6_220 : Cond.methodLink RX6 220 yX4_standsUp ∈ tb := mem_tb (List.mem_of_getElem? (i := 784) (by decide +kernel)) rfl
theorem wl_X6_224 : Cond.methodLink RX6 224 yX6_levelBehind ∈ tb := mem_tb (List.mem_of_getElem? (i := 804) (by decide +kernel)) rfl
theorem wl_X6_228 : Cond.methodLink RX6 228 yX6_findOrder ∈ tb := mem_tb (List.mem_of_getElem? (i := 813) (by decide +kernel)) rfl
theorem wl_X6_231 : Cond.methodLink RX6 231 yX6_fewestOfPart ∈ tb := mem_tb (List.mem_of_getElem? (i := 829) (by decide +kernel)) rfl
theorem wl_X6_239 : Cond.methodLink RX6 239 yX5_take ∈ tb := mem_tb (List.mem_of_getElem? (i := 817) (by decide +kernel)) rfl
theorem wl_X6_243 : Cond.methodLink RX6 243 yX0_sit ∈ tb := mem_tb (List.mem_of_getElem? (i := 519) (by decide +kernel)) rfl
theorem wl_X6_250 : Cond.methodLink RX6 250 yX0_least ∈ tb := mem_tb (List.mem_of_getElem? (i := 808) (by decide +kernel)) rfl
theorem wl_X6_256 : Cond.methodLink RX6 256 yX6_imageOf ∈ tb := mem_tb (List.mem_of_getElem? (i := 854) (by decide +kernel)) rfl
theorem wl_X6_261 : Cond.methodLink RX6 261 yX0_isBarred ∈ tb := mem_tb (List.mem_of_getElem? (i := 754) (by decide +kernel)) rfl
theorem wl_X6_265 : Cond.methodLink RX6 265 yX4_lessonsFrom ∈ tb := mem_tb (List.mem_of_getElem? (i := 762) (by decide +kernel)) rfl
theorem wl_X6_269 : Cond.methodLink RX6 269 yX6_leastOpen ∈ tb := mem_tb (List.mem_of_getElem? (i := 821) (by decide +kernel)) rfl
theorem wl_X6_82 : Cond.methodLink RX6 82 yX2_add ∈ tb := mem_tb (List.mem_of_getElem? (i := 360) (by decide +kernel)) rfl
theorem wl_X6_86 : Cond.methodLink RX6 86 yX2_read ∈ tb := mem_tb (List.mem_of_getElem? (i := 368) (by decide +kernel)) rfl
theorem wl_X6_93 : Cond.methodLink RX6 93 yX5_begin ∈ tb := mem_tb (List.mem_of_getElem? (i := 463) (by decide +kernel)) rfl
theorem wl_X7_111 : Cond.methodLink RX7 111 yX7_here ∈ tb := mem_tb (List.mem_of_getElem? (i := 1008) (by decide +kernel)) rfl
theorem wl_X7_138 : Cond.methodLink RX7 138 yX7_fails ∈ tb := mem_tb (List.mem_of_getElem? (i := 1029) (by decide +kernel)) rfl
theorem wl_X7_151 : Cond.methodLink RX7 151 yX7_readWord ∈ tb := mem_tb (List.mem_of_getElem? (i := 1016) (by decide +kernel)) rfl
theorem wl_X7_156 : Cond.methodLink RX7 156 yX7_takeNumber ∈ tb := mem_tb (List.mem_of_getElem? (i := 1038) (by decide +kernel)) rfl
theorem wl_X7_159 : Cond.methodLink RX7 159 yX7_has ∈ tb := mem_tb (List.mem_of_getElem? (i := 1044) (by decide +kernel)) rfl
theorem wl_X7_163 : Cond.methodLink RX7 163 yX7_isComma ∈ tb := mem_tb (List.mem_of_getElem? (i := 1047) (by decide +kernel)) rfl
theorem wl_X7_170 : Cond.methodLink RX7 170 yX7_code ∈ tb := mem_tb (List.mem_of_getElem? (i := 1026) (by decide +kernel)) rfl
theorem wl_X7_174 : Cond.methodLink RX7 174 yX7_takeThing ∈ tb := mem_tb (List.mem_of_getElem? (i := 1033) (by decide +kernel)) rfl
theorem wl_X7_177 : Cond.methodLink RX7 177 yX7_takePupil ∈ tb := mem_tb (List.mem_of_getElem? (i := 1051) (by decide +kernel)) rfl
theorem wl_X7_180 : Cond.methodLink RX7 180 yX7_takeClause ∈ tb := mem_tb (List.mem_of_getElem? (i := 1012) (by decide +kernel)) rfl
theorem wl_X7_193 : Cond.methodLink RX7 193 yX7_isPupil ∈ tb := mem_tb (List.mem_of_getElem? (i := 1067) (by decide +kernel)) rfl
theorem wl_X7_200 : Cond.methodLink RX7 200 yX7_isThing ∈ tb := mem_tb (List.mem_of_getElem? (i := 1077) (by decide +kernel)) rfl
theorem wl_X7_203 : Cond.methodLink RX7 203 yX7_capOf ∈ tb := mem_tb (List.mem_of_getElem? (i := 1089) (by decide +kernel)) rfl
theorem wl_X7_217 : Cond.methodLink RX7 217 yX7_draw ∈ tb := mem_tb (List.mem_of_getElem? (i := 1117) (by decide +kernel)) rfl
theorem wl_X7_221 : Cond.methodLink RX7 221 yX7_isSo ∈ tb := mem_tb (List.mem_of_getElem? (i := 1113) (by decide +kernel)) rfl
theorem wl_X7_225 : Cond.methodLink RX7 225 yX7_noChance ∈ tb := mem_tb (List.mem_of_getElem? (i := 1125) (by decide +kernel)) rfl
theorem wl_X7_229 : Cond.methodLink RX7 229 yX7_rise ∈ tb := mem_tb (List.mem_of_getElem? (i := 1128) (by decide +kernel)) rfl
theorem wl_X7_233 : Cond.methodLink RX7 233 yX7_believe ∈ tb := mem_tb (List.mem_of_getElem? (i := 1132) (by decide +kernel)) rfl
theorem wl_X7_237 : Cond.methodLink RX7 237 yX7_follow ∈ tb := mem_tb (List.mem_of_getElem? (i := 1137) (by decide +kernel)) rfl
theorem wl_X7_242 : Cond.methodLink RX7 242 yX7_take ∈ tb := mem_tb (List.mem_of_getElem? (i := 1101) (by decide +kernel)) rfl
theorem wl_X7_245 : Cond.methodLink RX7 245 yX7_everybody ∈ tb := mem_tb (List.mem_of_getElem? (i := 1105) (by decide +kernel)) rfl
theorem wl_X7_248 : Cond.methodLink RX7 248 yX7_teach ∈ tb := mem_tb (List.mem_of_getElem? (i := 1109) (by decide +kernel)) rfl
theorem wl_X7_252 : Cond.methodLink RX7 252 yX7_put ∈ tb := mem_tb (List.mem_of_getElem? (i := 1141) (by decide +kernel)) rfl
theorem wl_X7_264 : Cond.methodLink RX7 264 yX7_noOdds ∈ tb := mem_tb (List.mem_of_getElem? (i := 1150) (by decide +kernel)) rfl
theorem wl_X7_268 : Cond.methodLink RX7 268 yX7_rises ∈ tb := mem_tb (List.mem_of_getElem? (i := 1156) (by decide +kernel)) rfl
theorem wl_X7_271 : Cond.methodLink RX7 271 yX7_part ∈ tb := mem_tb (List.mem_of_getElem? (i := 1157) (by decide +kernel)) rfl
theorem wl_X7_276 : Cond.methodLink RX7 276 yX7_leastOf ∈ tb := mem_tb (List.mem_of_getElem? (i := 1175) (by decide +kernel)) rfl
theorem wl_X7_279 : Cond.methodLink RX7 279 yX7_greatestBelow ∈ tb := mem_tb (List.mem_of_getElem? (i := 1179) (by decide +kernel)) rfl
theorem wl_X7_284 : Cond.methodLink RX7 284 yX7_isRule ∈ tb := mem_tb (List.mem_of_getElem? (i := 1166) (by decide +kernel)) rfl
theorem wl_X7_288 : Cond.methodLink RX7 288 yX7_upBy ∈ tb := mem_tb (List.mem_of_getElem? (i := 1171) (by decide +kernel)) rfl
theorem wl_X7_293 : Cond.methodLink RX7 293 yX7_knownNow ∈ tb := mem_tb (List.mem_of_getElem? (i := 1188) (by decide +kernel)) rfl
theorem wl_X7_296 : Cond.methodLink RX7 296 yX7_tellNow ∈ tb := mem_tb (List.mem_of_getElem? (i := 1196) (by decide +kernel)) rfl
theorem wl_X7_301 : Cond.methodLink RX7 301 yX7_bits ∈ tb := mem_tb (List.mem_of_getElem? (i := 1229) (by decide +kernel)) rfl
theorem wl_X7_304 : Cond.methodLink RX7 304 yX7_setState ∈ tb := mem_tb (List.mem_of_getElem? (i := 1240) (by decide +kernel)) rfl
theorem wl_X7_307 : Cond.methodLink RX7 307 yX7_stateNow ∈ tb := mem_tb (List.mem_of_getElem? (i := 1232) (by decide +kernel)) rfl
theorem wl_X7_313 : Cond.methodLink RX7 313 yX7_goal ∈ tb := mem_tb (List.mem_of_getElem? (i := 1225) (by decide +kernel)) rfl
theorem wl_X7_316 : Cond.methodLink RX7 316 yX7_next ∈ tb := mem_tb (List.mem_of_getElem? (i := 1236) (by decide +kernel)) rfl
theorem wl_X7_320 : Cond.methodLink RX7 320 yX7_spread ∈ tb := mem_tb (List.mem_of_getElem? (i := 1221) (by decide +kernel)) rfl
theorem wl_X7_323 : Cond.methodLink RX7 323 yX7_isSmall ∈ tb := mem_tb (List.mem_of_getElem? (i := 1213) (by decide +kernel)) rfl
theorem wl_X7_326 : Cond.methodLink RX7 326 yX7_fewestOf ∈ tb := mem_tb (List.mem_of_getElem? (i := 1217) (by decide +kernel)) rfl
theorem wl_X7_329 : Cond.methodLink RX7 329 yX7_levelBehind ∈ tb := mem_tb (List.mem_of_getElem? (i := 1264) (by decide +kernel)) rfl
theorem wl_X7_333 : Cond.methodLink RX7 333 yX7_findOrder ∈ tb := mem_tb (List.mem_of_getElem? (i := 1272) (by decide +kernel)) rfl
theorem wl_X7_339 : Cond.methodLink RX7 339 yX7_asNow ∈ tb := mem_tb (List.mem_of_getElem? (i := 1310) (by decide +kernel)) rfl
theorem wl_X7_342 : Cond.methodLink RX7 342 yX7_come ∈ tb := mem_tb (List.mem_of_getElem? (i := 1314) (by decide +kernel)) rfl
theorem wl_X7_346 : Cond.methodLink RX7 346 yX7_partBelief ∈ tb := mem_tb (List.mem_of_getElem? (i := 1318) (by decide +kernel)) rfl
theorem wl_X7_350 : Cond.methodLink RX7 350 yX7_listSurer ∈ tb := mem_tb (List.mem_of_getElem? (i := 1298) (by decide +kernel)) rfl
theorem wl_X7_353 : Cond.methodLink RX7 353 yX7_chanceOf ∈ tb := mem_tb (List.mem_of_getElem? (i := 1302) (by decide +kernel)) rfl
theorem wl_X7_356 : Cond.methodLink RX7 356 yX7_partNo ∈ tb := mem_tb (List.mem_of_getElem? (i := 1306) (by decide +kernel)) rfl
theorem wl_X7_360 : Cond.methodLink RX7 360 yX7_partRight ∈ tb := mem_tb (List.mem_of_getElem? (i := 1294) (by decide +kernel)) rfl
theorem wl_X7_366 : Cond.methodLink RX7 366 yX7_partAll ∈ tb := mem_tb (List.mem_of_getElem? (i := 1290) (by decide +kernel)) rfl
theorem wl_X7_371 : Cond.methodLink RX7 371 yX7_findOdds ∈ tb := mem_tb (List.mem_of_getElem? (i := 1285) (by decide +kernel)) rfl
theorem wl_X7_375 : Cond.methodLink RX7 375 yX7_firstWrong ∈ tb := mem_tb (List.mem_of_getElem? (i := 1334) (by decide +kernel)) rfl
theorem wl_X7_92 : Cond.methodLink RX7 92 yX7_in ∈ tb := mem_tb (List.mem_of_getElem? (i := 998) (by decide +kernel)) rfl
theorem wm_X0_135 : Cond.methodLink RX0 135 Lib.Math.min.name ∈ tb := mem_tb (List.mem_of_getElem? (i := 615) (by decide +kernel)) rfl
theorem wm_X0_67 : Cond.methodLink RX0 67 Lib.Math.max.name ∈ tb := mem_tb (List.mem_of_getElem? (i := 531) (by decide +kernel)) rfl
theorem wm_X1_115 : Cond.methodLink RX1 115 Lib.Math.min.name ∈ tb := mem_tb (List.mem_of_getElem? (i := 692) (by decide +kernel)) rfl
theorem wm_X5_15 : Cond.methodLink RX5 15 arraycopyName ∈ tb := mem_tb (List.mem_of_getElem? (i := 467) (by decide +kernel)) rfl
theorem wm_X6_234 : Cond.methodLink RX6 234 Lib.Math.max.name ∈ tb := mem_tb (List.mem_of_getElem? (i := 833) (by decide +kernel)) rfl
theorem wn_X0 : Cond.initialized RX0 ∈ tb := mem_tb (List.mem_of_getElem? (i := 89) (by decide +kernel)) rfl
theorem wn_X1 : Cond.initialized RX1 ∈ tb := mem_tb (List.mem_of_getElem? (i := 90) (by decide +kernel)) rfl
theorem wn_X2 : Cond.initialized RX2 ∈ tb := mem_tb (List.mem_of_getElem? (i := 86) (by decide +kernel)) rfl
theorem wn_X3 : Cond.initialized RX3 ∈ tb := mem_tb (List.mem_of_getElem? (i := 87) (by decide +kernel)) rfl
theorem wn_X4 : Cond.initialized RX4 ∈ tb := mem_tb (List.mem_of_getElem? (i := 91) (by decide +kernel)) rfl
theorem wn_X5 : Cond.initialized RX5 ∈ tb := mem_tb (List.mem_of_getElem? (i := 88) (by decide +kernel)) rfl
theorem wn_X6 : Cond.initialized RX6 ∈ tb := mem_tb (List.mem_of_getElem? (i := 85) (by decide +kernel)) rfl
theorem wn_X7 : Cond.initialized RX7 ∈ tb := mem_tb (List.mem_of_getElem? (i := 92) (by decide +kernel)) rfl
theorem ws_X0_after : Cond.selects RX0 yX0_after yX0_after ∈ tb := mem_tb (List.mem_of_getElem? (i := 700) (by decide +kernel)) rfl
theorem ws_X0_chosen : Cond.selects RX0 yX0_chosen yX0_chosen ∈ tb := mem_tb (List.mem_of_getElem? (i := 652) (by decide +kernel)) rfl
theorem ws_X0_code : Cond.selects RX0 yX0_code yX0_code ∈ tb := mem_tb (List.mem_of_getElem? (i := 643) (by decide +kernel)) rfl
theorem ws_X0_comes : Cond.selects RX0 yX0_comes yX0_comes ∈ tb := mem_tb (List.mem_of_getElem? (i := 15) (by decide +kernel)) rfl
theorem ws_X0_endAgreed : Cond.selects RX0 yX0_endAgreed yX0_endAgreed ∈ tb := mem_tb (List.mem_of_getElem? (i := 17) (by decide +kernel)) rfl
theorem ws_X0_endCorrected : Cond.selects RX0 yX0_endCorrected yX0_endCorrected ∈ tb := mem_tb (List.mem_of_getElem? (i := 19) (by decide +kernel)) rfl
theorem ws_X0_endMisled : Cond.selects RX0 yX0_endMisled yX0_endMisled ∈ tb := mem_tb (List.mem_of_getElem? (i := 20) (by decide +kernel)) rfl
theorem ws_X0_endShaken : Cond.selects RX0 yX0_endShaken yX0_endShaken ∈ tb := mem_tb (List.mem_of_getElem? (i := 16) (by decide +kernel)) rfl
theorem ws_X0_greatestBelow : Cond.selects RX0 yX0_greatestBelow yX0_greatestBelow ∈ tb := mem_tb (List.mem_of_getElem? (i := 23) (by decide +kernel)) rfl
theorem ws_X0_hold : Cond.selects RX0 yX0_hold yX0_hold ∈ tb := mem_tb (List.mem_of_getElem? (i := 544) (by decide +kernel)) rfl
theorem ws_X0_isBarred : Cond.selects RX0 yX0_isBarred yX0_isBarred ∈ tb := mem_tb (List.mem_of_getElem? (i := 756) (by decide +kernel)) rfl
theorem ws_X0_isGuestSurer : Cond.selects RX0 yX0_isGuestSurer yX0_isGuestSurer ∈ tb := mem_tb (List.mem_of_getElem? (i := 568) (by decide +kernel)) rfl
theorem ws_X0_isSurer : Cond.selects RX0 yX0_isSurer yX0_isSurer ∈ tb := mem_tb (List.mem_of_getElem? (i := 560) (by decide +kernel)) rfl
theorem ws_X0_knowing : Cond.selects RX0 yX0_knowing yX0_knowing ∈ tb := mem_tb (List.mem_of_getElem? (i := 728) (by decide +kernel)) rfl
theorem ws_X0_least : Cond.selects RX0 yX0_least yX0_least ∈ tb := mem_tb (List.mem_of_getElem? (i := 656) (by decide +kernel)) rfl
theorem ws_X0_leave : Cond.selects RX0 yX0_leave yX0_leave ∈ tb := mem_tb (List.mem_of_getElem? (i := 596) (by decide +kernel)) rfl
theorem ws_X0_mayBelieve : Cond.selects RX0 yX0_mayBelieve yX0_mayBelieve ∈ tb := mem_tb (List.mem_of_getElem? (i := 592) (by decide +kernel)) rfl
theorem ws_X0_mean : Cond.selects RX0 yX0_mean yX0_mean ∈ tb := mem_tb (List.mem_of_getElem? (i := 611) (by decide +kernel)) rfl
theorem ws_X0_noChance : Cond.selects RX0 yX0_noChance yX0_noChance ∈ tb := mem_tb (List.mem_of_getElem? (i := 564) (by decide +kernel)) rfl
theorem ws_X0_rightChance : Cond.selects RX0 yX0_rightChance yX0_rightChance ∈ tb := mem_tb (List.mem_of_getElem? (i := 548) (by decide +kernel)) rfl
theorem ws_X0_rise : Cond.selects RX0 yX0_rise yX0_rise ∈ tb := mem_tb (List.mem_of_getElem? (i := 18) (by decide +kernel)) rfl
theorem ws_X0_room : Cond.selects RX0 yX0_room yX0_room ∈ tb := mem_tb (List.mem_of_getElem? (i := 529) (by decide +kernel)) rfl
theorem ws_X0_setLevels : Cond.selects RX0 yX0_setLevels yX0_setLevels ∈ tb := mem_tb (List.mem_of_getElem? (i := 648) (by decide +kernel)) rfl
theorem ws_X0_share : Cond.selects RX0 yX0_share yX0_share ∈ tb := mem_tb (List.mem_of_getElem? (i := 21) (by decide +kernel)) rfl
theorem ws_X0_sit : Cond.selects RX0 yX0_sit yX0_sit ∈ tb := mem_tb (List.mem_of_getElem? (i := 521) (by decide +kernel)) rfl
theorem ws_X0_someNo : Cond.selects RX0 yX0_someNo yX0_someNo ∈ tb := mem_tb (List.mem_of_getElem? (i := 605) (by decide +kernel)) rfl
theorem ws_X0_tell : Cond.selects RX0 yX0_tell yX0_tell ∈ tb := mem_tb (List.mem_of_getElem? (i := 736) (by decide +kernel)) rfl
theorem ws_X1_begin : Cond.selects RX1 yX1_begin yX1_begin ∈ tb := mem_tb (List.mem_of_getElem? (i := 26) (by decide +kernel)) rfl
theorem ws_X1_endMisled : Cond.selects RX1 yX1_endMisled yX1_endMisled ∈ tb := mem_tb (List.mem_of_getElem? (i := 30) (by decide +kernel)) rfl
theorem ws_X1_endRight : Cond.selects RX1 yX1_endRight yX1_endRight ∈ tb := mem_tb (List.mem_of_getElem? (i := 28) (by decide +kernel)) rfl
theorem ws_X1_endWrong : Cond.selects RX1 yX1_endWrong yX1_endWrong ∈ tb := mem_tb (List.mem_of_getElem? (i := 29) (by decide +kernel)) rfl
theorem ws_X1_follow : Cond.selects RX1 yX1_follow yX1_follow ∈ tb := mem_tb (List.mem_of_getElem? (i := 635) (by decide +kernel)) rfl
theorem ws_X1_meanLevel : Cond.selects RX1 yX1_meanLevel yX1_meanLevel ∈ tb := mem_tb (List.mem_of_getElem? (i := 713) (by decide +kernel)) rfl
theorem ws_X1_partByNo : Cond.selects RX1 yX1_partByNo yX1_partByNo ∈ tb := mem_tb (List.mem_of_getElem? (i := 25) (by decide +kernel)) rfl
theorem ws_X1_split : Cond.selects RX1 yX1_split yX1_split ∈ tb := mem_tb (List.mem_of_getElem? (i := 27) (by decide +kernel)) rfl
theorem ws_X1_teach : Cond.selects RX1 yX1_teach yX1_teach ∈ tb := mem_tb (List.mem_of_getElem? (i := 24) (by decide +kernel)) rfl
theorem ws_X1_thatAllKnow : Cond.selects RX1 yX1_thatAllKnow yX1_thatAllKnow ∈ tb := mem_tb (List.mem_of_getElem? (i := 704) (by decide +kernel)) rfl
theorem ws_X1_thatNobodyKnows : Cond.selects RX1 yX1_thatNobodyKnows yX1_thatNobodyKnows ∈ tb := mem_tb (List.mem_of_getElem? (i := 709) (by decide +kernel)) rfl
theorem ws_X2_add : Cond.selects RX2 yX2_add yX2_add ∈ tb := mem_tb (List.mem_of_getElem? (i := 362) (by decide +kernel)) rfl
theorem ws_X2_advance : Cond.selects RX2 yX2_advance yX2_advance ∈ tb := mem_tb (List.mem_of_getElem? (i := 0) (by decide +kernel)) rfl
theorem ws_X2_isSign : Cond.selects RX2 yX2_isSign yX2_isSign ∈ tb := mem_tb (List.mem_of_getElem? (i := 7) (by decide +kernel)) rfl
theorem ws_X2_isWord : Cond.selects RX2 yX2_isWord yX2_isWord ∈ tb := mem_tb (List.mem_of_getElem? (i := 2) (by decide +kernel)) rfl
theorem ws_X2_kindAt : Cond.selects RX2 yX2_kindAt yX2_kindAt ∈ tb := mem_tb (List.mem_of_getElem? (i := 1) (by decide +kernel)) rfl
theorem ws_X2_read : Cond.selects RX2 yX2_read yX2_read ∈ tb := mem_tb (List.mem_of_getElem? (i := 370) (by decide +kernel)) rfl
theorem ws_X2_readLeaning : Cond.selects RX2 yX2_readLeaning yX2_readLeaning ∈ tb := mem_tb (List.mem_of_getElem? (i := 5) (by decide +kernel)) rfl
theorem ws_X2_readPupil : Cond.selects RX2 yX2_readPupil yX2_readPupil ∈ tb := mem_tb (List.mem_of_getElem? (i := 9) (by decide +kernel)) rfl
theorem ws_X2_readThing : Cond.selects RX2 yX2_readThing yX2_readThing ∈ tb := mem_tb (List.mem_of_getElem? (i := 3) (by decide +kernel)) rfl
theorem ws_X2_refuse : Cond.selects RX2 yX2_refuse yX2_refuse ∈ tb := mem_tb (List.mem_of_getElem? (i := 4) (by decide +kernel)) rfl
theorem ws_X2_takeNumber : Cond.selects RX2 yX2_takeNumber yX2_takeNumber ∈ tb := mem_tb (List.mem_of_getElem? (i := 6) (by decide +kernel)) rfl
theorem ws_X2_takeSign : Cond.selects RX2 yX2_takeSign yX2_takeSign ∈ tb := mem_tb (List.mem_of_getElem? (i := 8) (by decide +kernel)) rfl
theorem ws_X3_topOf : Cond.selects RX3 yX3_topOf yX3_topOf ∈ tb := mem_tb (List.mem_of_getElem? (i := 525) (by decide +kernel)) rfl
theorem ws_X4_forget : Cond.selects RX4 yX4_forget yX4_forget ∈ tb := mem_tb (List.mem_of_getElem? (i := 472) (by decide +kernel)) rfl
theorem ws_X4_lessonsFrom : Cond.selects RX4 yX4_lessonsFrom yX4_lessonsFrom ∈ tb := mem_tb (List.mem_of_getElem? (i := 764) (by decide +kernel)) rfl
theorem ws_X4_look : Cond.selects RX4 yX4_look yX4_look ∈ tb := mem_tb (List.mem_of_getElem? (i := 33) (by decide +kernel)) rfl
theorem ws_X4_standsUp : Cond.selects RX4 yX4_standsUp yX4_standsUp ∈ tb := mem_tb (List.mem_of_getElem? (i := 786) (by decide +kernel)) rfl
theorem ws_X5_begin : Cond.selects RX5 yX5_begin yX5_begin ∈ tb := mem_tb (List.mem_of_getElem? (i := 465) (by decide +kernel)) rfl
theorem ws_X5_take : Cond.selects RX5 yX5_take yX5_take ∈ tb := mem_tb (List.mem_of_getElem? (i := 819) (by decide +kernel)) rfl
theorem ws_X6_allLevels : Cond.selects RX6 yX6_allLevels yX6_allLevels ∈ tb := mem_tb (List.mem_of_getElem? (i := 12) (by decide +kernel)) rfl
theorem ws_X6_fewest : Cond.selects RX6 yX6_fewest yX6_fewest ∈ tb := mem_tb (List.mem_of_getElem? (i := 748) (by decide +kernel)) rfl
theorem ws_X6_fewestOfAll : Cond.selects RX6 yX6_fewestOfAll yX6_fewestOfAll ∈ tb := mem_tb (List.mem_of_getElem? (i := 31) (by decide +kernel)) rfl
theorem ws_X6_fewestOfPart : Cond.selects RX6 yX6_fewestOfPart yX6_fewestOfPart ∈ tb := mem_tb (List.mem_of_getElem? (i := 37) (by decide +kernel)) rfl
theorem ws_X6_findOrder : Cond.selects RX6 yX6_findOrder yX6_findOrder ∈ tb := mem_tb (List.mem_of_getElem? (i := 35) (by decide +kernel)) rfl
theorem ws_X6_imageOf : Cond.selects RX6 yX6_imageOf yX6_imageOf ∈ tb := mem_tb (List.mem_of_getElem? (i := 38) (by decide +kernel)) rfl
theorem ws_X6_isPupil : Cond.selects RX6 yX6_isPupil yX6_isPupil ∈ tb := mem_tb (List.mem_of_getElem? (i := 10) (by decide +kernel)) rfl
theorem ws_X6_isRule : Cond.selects RX6 yX6_isRule yX6_isRule ∈ tb := mem_tb (List.mem_of_getElem? (i := 22) (by decide +kernel)) rfl
theorem ws_X6_isThing : Cond.selects RX6 yX6_isThing yX6_isThing ∈ tb := mem_tb (List.mem_of_getElem? (i := 13) (by decide +kernel)) rfl
theorem ws_X6_knownThings : Cond.selects RX6 yX6_knownThings yX6_knownThings ∈ tb := mem_tb (List.mem_of_getElem? (i := 11) (by decide +kernel)) rfl
theorem ws_X6_leastOpen : Cond.selects RX6 yX6_leastOpen yX6_leastOpen ∈ tb := mem_tb (List.mem_of_getElem? (i := 36) (by decide +kernel)) rfl
theorem ws_X6_levelBehind : Cond.selects RX6 yX6_levelBehind yX6_levelBehind ∈ tb := mem_tb (List.mem_of_getElem? (i := 34) (by decide +kernel)) rfl
theorem ws_X6_searchFor : Cond.selects RX6 yX6_searchFor yX6_searchFor ∈ tb := mem_tb (List.mem_of_getElem? (i := 32) (by decide +kernel)) rfl
theorem ws_X6_sitAll : Cond.selects RX6 yX6_sitAll yX6_sitAll ∈ tb := mem_tb (List.mem_of_getElem? (i := 14) (by decide +kernel)) rfl
theorem ws_X7_asNow : Cond.selects RX7 yX7_asNow yX7_asNow ∈ tb := mem_tb (List.mem_of_getElem? (i := 80) (by decide +kernel)) rfl
theorem ws_X7_believe : Cond.selects RX7 yX7_believe yX7_believe ∈ tb := mem_tb (List.mem_of_getElem? (i := 56) (by decide +kernel)) rfl
theorem ws_X7_capOf : Cond.selects RX7 yX7_capOf yX7_capOf ∈ tb := mem_tb (List.mem_of_getElem? (i := 49) (by decide +kernel)) rfl
theorem ws_X7_chanceOf : Cond.selects RX7 yX7_chanceOf yX7_chanceOf ∈ tb := mem_tb (List.mem_of_getElem? (i := 78) (by decide +kernel)) rfl
theorem ws_X7_come : Cond.selects RX7 yX7_come yX7_come ∈ tb := mem_tb (List.mem_of_getElem? (i := 81) (by decide +kernel)) rfl
theorem ws_X7_draw : Cond.selects RX7 yX7_draw yX7_draw ∈ tb := mem_tb (List.mem_of_getElem? (i := 54) (by decide +kernel)) rfl
theorem ws_X7_everybody : Cond.selects RX7 yX7_everybody yX7_everybody ∈ tb := mem_tb (List.mem_of_getElem? (i := 51) (by decide +kernel)) rfl
theorem ws_X7_fails : Cond.selects RX7 yX7_fails yX7_fails ∈ tb := mem_tb (List.mem_of_getElem? (i := 42) (by decide +kernel)) rfl
theorem ws_X7_fewestOf : Cond.selects RX7 yX7_fewestOf yX7_fewestOf ∈ tb := mem_tb (List.mem_of_getElem? (i := 66) (by decide +kernel)) rfl
theorem ws_X7_findOdds : Cond.selects RX7 yX7_findOdds yX7_findOdds ∈ tb := mem_tb (List.mem_of_getElem? (i := 74) (by decide +kernel)) rfl
theorem ws_X7_findOrder : Cond.selects RX7 yX7_findOrder yX7_findOrder ∈ tb := mem_tb (List.mem_of_getElem? (i := 73) (by decide +kernel)) rfl
theorem ws_X7_firstWrong : Cond.selects RX7 yX7_firstWrong yX7_firstWrong ∈ tb := mem_tb (List.mem_of_getElem? (i := 83) (by decide +kernel)) rfl
theorem ws_X7_follow : Cond.selects RX7 yX7_follow yX7_follow ∈ tb := mem_tb (List.mem_of_getElem? (i := 57) (by decide +kernel)) rfl
theorem ws_X7_goal : Cond.selects RX7 yX7_goal yX7_goal ∈ tb := mem_tb (List.mem_of_getElem? (i := 68) (by decide +kernel)) rfl
theorem ws_X7_greatestBelow : Cond.selects RX7 yX7_greatestBelow yX7_greatestBelow ∈ tb := mem_tb (List.mem_of_getElem? (i := 62) (by decide +kernel)) rfl
theorem ws_X7_here : Cond.selects RX7 yX7_here yX7_here ∈ tb := mem_tb (List.mem_of_getElem? (i := 39) (by decide +kernel)) rfl
theorem ws_X7_isComma : Cond.selects RX7 yX7_isComma yX7_isComma ∈ tb := mem_tb (List.mem_of_getElem? (i := 45) (by decide +kernel)) rfl
theorem ws_X7_isPupil : Cond.selects RX7 yX7_isPupil yX7_isPupil ∈ tb := mem_tb (List.mem_of_getElem? (i := 47) (by decide +kernel)) rfl
theorem ws_X7_isSmall : Cond.selects RX7 yX7_isSmall yX7_isSmall ∈ tb := mem_tb (List.mem_of_getElem? (i := 65) (by decide +kernel)) rfl
theorem ws_X7_isSo : Cond.selects RX7 yX7_isSo yX7_isSo ∈ tb := mem_tb (List.mem_of_getElem? (i := 53) (by decide +kernel)) rfl
theorem ws_X7_isThing : Cond.selects RX7 yX7_isThing yX7_isThing ∈ tb := mem_tb (List.mem_of_getElem? (i := 48) (by decide +kernel)) rfl
theorem ws_X7_knownNow : Cond.selects RX7 yX7_knownNow yX7_knownNow ∈ tb := mem_tb (List.mem_of_getElem? (i := 63) (by decide +kernel)) rfl
theorem ws_X7_leastOf : Cond.selects RX7 yX7_leastOf yX7_leastOf ∈ tb := mem_tb (List.mem_of_getElem? (i := 61) (by decide +kernel)) rfl
theorem ws_X7_levelBehind : Cond.selects RX7 yX7_levelBehind yX7_levelBehind ∈ tb := mem_tb (List.mem_of_getElem? (i := 72) (by decide +kernel)) rfl
theorem ws_X7_listSurer : Cond.selects RX7 yX7_listSurer yX7_listSurer ∈ tb := mem_tb (List.mem_of_getElem? (i := 77) (by decide +kernel)) rfl
theorem ws_X7_next : Cond.selects RX7 yX7_next yX7_next ∈ tb := mem_tb (List.mem_of_getElem? (i := 70) (by decide +kernel)) rfl
theorem ws_X7_noOdds : Cond.selects RX7 yX7_noOdds yX7_noOdds ∈ tb := mem_tb (List.mem_of_getElem? (i := 59) (by decide +kernel)) rfl
theorem ws_X7_partAll : Cond.selects RX7 yX7_partAll yX7_partAll ∈ tb := mem_tb (List.mem_of_getElem? (i := 75) (by decide +kernel)) rfl
theorem ws_X7_partBelief : Cond.selects RX7 yX7_partBelief yX7_partBelief ∈ tb := mem_tb (List.mem_of_getElem? (i := 82) (by decide +kernel)) rfl
theorem ws_X7_partNo : Cond.selects RX7 yX7_partNo yX7_partNo ∈ tb := mem_tb (List.mem_of_getElem? (i := 79) (by decide +kernel)) rfl
theorem ws_X7_partRight : Cond.selects RX7 yX7_partRight yX7_partRight ∈ tb := mem_tb (List.mem_of_getElem? (i := 76) (by decide +kernel)) rfl
theorem ws_X7_put : Cond.selects RX7 yX7_put yX7_put ∈ tb := mem_tb (List.mem_of_getElem? (i := 58) (by decide +kernel)) rfl
theorem ws_X7_readWord : Cond.selects RX7 yX7_readWord yX7_readWord ∈ tb := mem_tb (List.mem_of_getElem? (i := 41) (by decide +kernel)) rfl
theorem ws_X7_rise : Cond.selects RX7 yX7_rise yX7_rise ∈ tb := mem_tb (List.mem_of_getElem? (i := 55) (by decide +kernel)) rfl
theorem ws_X7_rises : Cond.selects RX7 yX7_rises yX7_rises ∈ tb := mem_tb (List.mem_of_getElem? (i := 1087) (by decide +kernel)) rfl
theorem ws_X7_setState : Cond.selects RX7 yX7_setState yX7_setState ∈ tb := mem_tb (List.mem_of_getElem? (i := 71) (by decide +kernel)) rfl
theorem ws_X7_spread : Cond.selects RX7 yX7_spread yX7_spread ∈ tb := mem_tb (List.mem_of_getElem? (i := 67) (by decide +kernel)) rfl
theorem ws_X7_stateNow : Cond.selects RX7 yX7_stateNow yX7_stateNow ∈ tb := mem_tb (List.mem_of_getElem? (i := 69) (by decide +kernel)) rfl
theorem ws_X7_take : Cond.selects RX7 yX7_take yX7_take ∈ tb := mem_tb (List.mem_of_getElem? (i := 50) (by decide +kernel)) rfl
theorem ws_X7_takeClause : Cond.selects RX7 yX7_takeClause yX7_takeClause ∈ tb := mem_tb (List.mem_of_getElem? (i := 40) (by decide +kernel)) rfl
theorem ws_X7_takeNumber : Cond.selects RX7 yX7_takeNumber yX7_takeNumber ∈ tb := mem_tb (List.mem_of_getElem? (i := 44) (by decide +kernel)) rfl
theorem ws_X7_takePupil : Cond.selects RX7 yX7_takePupil yX7_takePupil ∈ tb := mem_tb (List.mem_of_getElem? (i := 46) (by decide +kernel)) rfl
theorem ws_X7_takeThing : Cond.selects RX7 yX7_takeThing yX7_takeThing ∈ tb := mem_tb (List.mem_of_getElem? (i := 43) (by decide +kernel)) rfl
theorem ws_X7_teach : Cond.selects RX7 yX7_teach yX7_teach ∈ tb := mem_tb (List.mem_of_getElem? (i := 52) (by decide +kernel)) rfl
theorem ws_X7_tellNow : Cond.selects RX7 yX7_tellNow yX7_tellNow ∈ tb := mem_tb (List.mem_of_getElem? (i := 64) (by decide +kernel)) rfl
theorem ws_X7_upBy : Cond.selects RX7 yX7_upBy yX7_upBy ∈ tb := mem_tb (List.mem_of_getElem? (i := 60) (by decide +kernel)) rfl
theorem wt_J7_fill_d0a16 : Cond.static yJ7_fill_d0a16 ∈ tb := mem_tb (List.mem_of_getElem? (i := 639) (by decide +kernel)) rfl
theorem wt_J7_fill_fda19 : Cond.static yJ7_fill_fda19 ∈ tb := mem_tb (List.mem_of_getElem? (i := 767) (by decide +kernel)) rfl
theorem wt_J7_rangeCheck_23922 : Cond.static yJ7_rangeCheck_23922 ∈ tb := mem_tb (List.mem_of_getElem? (i := 770) (by decide +kernel)) rfl
theorem wt_X7_bits : Cond.static yX7_bits ∈ tb := mem_tb (List.mem_of_getElem? (i := 1230) (by decide +kernel)) rfl
theorem wt_X7_code : Cond.static yX7_code ∈ tb := mem_tb (List.mem_of_getElem? (i := 1027) (by decide +kernel)) rfl
theorem wt_X7_has : Cond.static yX7_has ∈ tb := mem_tb (List.mem_of_getElem? (i := 1045) (by decide +kernel)) rfl
theorem wt_X7_in : Cond.static yX7_in ∈ tb := mem_tb (List.mem_of_getElem? (i := 999) (by decide +kernel)) rfl
theorem wt_X7_isRule : Cond.static yX7_isRule ∈ tb := mem_tb (List.mem_of_getElem? (i := 1167) (by decide +kernel)) rfl
theorem wt_X7_noChance : Cond.static yX7_noChance ∈ tb := mem_tb (List.mem_of_getElem? (i := 1126) (by decide +kernel)) rfl
theorem wt_X7_part : Cond.static yX7_part ∈ tb := mem_tb (List.mem_of_getElem? (i := 1158) (by decide +kernel)) rfl
theorem wy_J7 : Cond.initialized RJ7 ∈ tb := mem_tb (List.mem_of_getElem? (i := 99) (by decide +kernel)) rfl
theorem wy_X7 : Cond.initialized RX7 ∈ tb := mem_tb (List.mem_of_getElem? (i := 92) (by decide +kernel)) rfl
theorem cw_J7_13 : CS RJ7 13 yJ7_rangeCheck_23922 cJ7_rangeCheck_23922 3 none 3 := ⟨wl_J7_13, wt_J7_rangeCheck_23922, wy_J7, wc_J7_rangeCheck_23922, by decide +kernel, by decide⟩
theorem cw_X0_101 : CW RX0 101 RX0 yX0_noChance cX0_noChance 3 (some .int) 2 := ⟨wl_X0_101, wi_X0_noChance, ws_X0_noChance, wn_X0, wc_X0_noChance, by decide +kernel, by decide⟩
theorem cw_X0_105 : CW RX0 105 RX0 yX0_isGuestSurer cX0_isGuestSurer 2 (some .boolean) 1 := ⟨wl_X0_105, wi_X0_isGuestSurer, ws_X0_isGuestSurer, wn_X0, wc_X0_isGuestSurer, by decide +kernel, by decide⟩
theorem cw_X0_109 : CW RX0 109 RX0 yX0_endShaken cX0_endShaken 3 (some .int) 2 := ⟨wl_X0_109, wi_X0_endShaken, ws_X0_endShaken, wn_X0, wc_X0_endShaken, by decide +kernel, by decide⟩
theorem cw_X0_112 : CW RX0 112 RX0 yX0_endAgreed cX0_endAgreed 4 (some .int) 1 := ⟨wl_X0_112, wi_X0_endAgreed, ws_X0_endAgreed, wn_X0, wc_X0_endAgreed, by decide +kernel, by decide⟩
theorem cw_X0_115 : CW RX0 115 RX0 yX0_endCorrected cX0_endCorrected 3 (some .int) 1 := ⟨wl_X0_115, wi_X0_endCorrected, ws_X0_endCorrected, wn_X0, wc_X0_endCorrected, by decide +kernel, by decide⟩
theorem cw_X0_118 : CW RX0 118 RX0 yX0_endMisled cX0_endMisled 4 (some .int) 2 := ⟨wl_X0_118, wi_X0_endMisled, ws_X0_endMisled, wn_X0, wc_X0_endMisled, by decide +kernel, by decide⟩
theorem cw_X0_121 : CW RX0 121 RX0 yX0_rise cX0_rise 3 none 2 := ⟨wl_X0_121, wi_X0_rise, ws_X0_rise, wn_X0, wc_X0_rise, by decide +kernel, by decide⟩
theorem cw_X0_125 : CW RX0 125 RX0 yX0_mayBelieve cX0_mayBelieve 3 (some .boolean) 2 := ⟨wl_X0_125, wi_X0_mayBelieve, ws_X0_mayBelieve, wn_X0, wc_X0_mayBelieve, by decide +kernel, by decide⟩
theorem cw_X0_132 : CW RX0 132 RX0 yX0_someNo cX0_someNo 6 (some .int) 2 := ⟨wl_X0_132, wi_X0_someNo, ws_X0_someNo, wn_X0, wc_X0_someNo, by decide +kernel, by decide⟩
theorem cw_X0_138 : CW RX0 138 RX0 yX0_share cX0_share 5 (some .long) 3 := ⟨wl_X0_138, wi_X0_share, ws_X0_share, wn_X0, wc_X0_share, by decide +kernel, by decide⟩
theorem cw_X0_60 : CW RX0 60 RX3 yX3_topOf cX3_topOf 5 (some .int) 3 := ⟨wl_X0_60, wi_X3_topOf, ws_X3_topOf, wn_X3, wc_X3_topOf, by decide +kernel, by decide⟩
theorem cw_X0_73 : CW RX0 73 RX0 yX0_least cX0_least 7 (some .int) 2 := ⟨wl_X0_73, wi_X0_least, ws_X0_least, wn_X0, wc_X0_least, by decide +kernel, by decide⟩
theorem cw_X0_76 : CW RX0 76 RX0 yX0_greatestBelow cX0_greatestBelow 5 (some .int) 1 := ⟨wl_X0_76, wi_X0_greatestBelow, ws_X0_greatestBelow, wn_X0, wc_X0_greatestBelow, by decide +kernel, by decide⟩
theorem cw_X0_80 : CW RX0 80 RX0 yX0_room cX0_room 2 (some .int) 1 := ⟨wl_X0_80, wi_X0_room, ws_X0_room, wn_X0, wc_X0_room, by decide +kernel, by decide⟩
theorem cw_X0_90 : CW RX0 90 RX0 yX0_rightChance cX0_rightChance 2 (some .int) 1 := ⟨wl_X0_90, wi_X0_rightChance, ws_X0_rightChance, wn_X0, wc_X0_rightChance, by decide +kernel, by decide⟩
theorem cw_X0_93 : CW RX0 93 RX0 yX0_comes cX0_comes 3 (some .boolean) 2 := ⟨wl_X0_93, wi_X0_comes, ws_X0_comes, wn_X0, wc_X0_comes, by decide +kernel, by decide⟩
theorem cw_X0_97 : CW RX0 97 RX0 yX0_isSurer cX0_isSurer 3 (some .boolean) 2 := ⟨wl_X0_97, wi_X0_isSurer, ws_X0_isSurer, wn_X0, wc_X0_isSurer, by decide +kernel, by decide⟩
theorem cw_X1_102 : CW RX1 102 RX0 yX0_isGuestSurer cX0_isGuestSurer 2 (some .boolean) 1 := ⟨wl_X1_102, wi_X0_isGuestSurer, ws_X0_isGuestSurer, wn_X0, wc_X0_isGuestSurer, by decide +kernel, by decide⟩
theorem cw_X1_109 : CW RX1 109 RX0 yX0_room cX0_room 2 (some .int) 1 := ⟨wl_X1_109, wi_X0_room, ws_X0_room, wn_X0, wc_X0_room, by decide +kernel, by decide⟩
theorem cw_X1_120 : CW RX1 120 RX1 yX1_endMisled cX1_endMisled 7 none 3 := ⟨wl_X1_120, wi_X1_endMisled, ws_X1_endMisled, wn_X1, wc_X1_endMisled, by decide +kernel, by decide⟩
theorem cw_X1_123 : CW RX1 123 RX0 yX0_mayBelieve cX0_mayBelieve 3 (some .boolean) 2 := ⟨wl_X1_123, wi_X0_mayBelieve, ws_X0_mayBelieve, wn_X0, wc_X0_mayBelieve, by decide +kernel, by decide⟩
theorem cw_X1_34 : CS RX1 34 yJ7_fill_d0a16 cJ7_fill_d0a16 5 none 2 := ⟨wl_X1_34, wt_J7_fill_d0a16, wy_J7, wc_J7_fill_d0a16, by decide +kernel, by decide⟩
theorem cw_X1_40 : CW RX1 40 RX0 yX0_code cX0_code 3 (some .int) 0 := ⟨wl_X1_40, wi_X0_code, ws_X0_code, wn_X0, wc_X0_code, by decide +kernel, by decide⟩
theorem cw_X1_46 : CW RX1 46 RX0 yX0_setLevels cX0_setLevels 4 none 1 := ⟨wl_X1_46, wi_X0_setLevels, ws_X0_setLevels, wn_X0, wc_X0_setLevels, by decide +kernel, by decide⟩
theorem cw_X1_50 : CW RX1 50 RX0 yX0_chosen cX0_chosen 3 (some .int) 2 := ⟨wl_X1_50, wi_X0_chosen, ws_X0_chosen, wn_X0, wc_X0_chosen, by decide +kernel, by decide⟩
theorem cw_X1_54 : CW RX1 54 RX1 yX1_teach cX1_teach 6 none 3 := ⟨wl_X1_54, wi_X1_teach, ws_X1_teach, wn_X1, wc_X1_teach, by decide +kernel, by decide⟩
theorem cw_X1_58 : CW RX1 58 RX0 yX0_after cX0_after 2 (some .int) 1 := ⟨wl_X1_58, wi_X0_after, ws_X0_after, wn_X0, wc_X0_after, by decide +kernel, by decide⟩
theorem cw_X1_62 : CW RX1 62 RX0 yX0_rightChance cX0_rightChance 2 (some .int) 1 := ⟨wl_X1_62, wi_X0_rightChance, ws_X0_rightChance, wn_X0, wc_X0_rightChance, by decide +kernel, by decide⟩
theorem cw_X1_67 : CW RX1 67 RX1 yX1_partByNo cX1_partByNo 7 none 4 := ⟨wl_X1_67, wi_X1_partByNo, ws_X1_partByNo, wn_X1, wc_X1_partByNo, by decide +kernel, by decide⟩
theorem cw_X1_71 : CW RX1 71 RX1 yX1_endRight cX1_endRight 8 none 3 := ⟨wl_X1_71, wi_X1_endRight, ws_X1_endRight, wn_X1, wc_X1_endRight, by decide +kernel, by decide⟩
theorem cw_X1_74 : CW RX1 74 RX1 yX1_endWrong cX1_endWrong 9 none 3 := ⟨wl_X1_74, wi_X1_endWrong, ws_X1_endWrong, wn_X1, wc_X1_endWrong, by decide +kernel, by decide⟩
theorem cw_X1_83 : CW RX1 83 RX1 yX1_begin cX1_begin 3 none 1 := ⟨wl_X1_83, wi_X1_begin, ws_X1_begin, wn_X1, wc_X1_begin, by decide +kernel, by decide⟩
theorem cw_X1_87 : CW RX1 87 RX0 yX0_isSurer cX0_isSurer 3 (some .boolean) 2 := ⟨wl_X1_87, wi_X0_isSurer, ws_X0_isSurer, wn_X0, wc_X0_isSurer, by decide +kernel, by decide⟩
theorem cw_X1_94 : CW RX1 94 RX0 yX0_noChance cX0_noChance 3 (some .int) 2 := ⟨wl_X1_94, wi_X0_noChance, ws_X0_noChance, wn_X0, wc_X0_noChance, by decide +kernel, by decide⟩
theorem cw_X1_98 : CW RX1 98 RX1 yX1_split cX1_split 6 none 2 := ⟨wl_X1_98, wi_X1_split, ws_X1_split, wn_X1, wc_X1_split, by decide +kernel, by decide⟩
theorem cw_X2_109 : CW RX2 109 RX2 yX2_kindAt cX2_kindAt 2 (some .int) 1 := ⟨wl_X2_109, wi_X2_kindAt, ws_X2_kindAt, wn_X2, wc_X2_kindAt, by decide +kernel, by decide⟩
theorem cw_X2_40 : CW RX2 40 RX2 yX2_advance cX2_advance 1 none 0 := ⟨wl_X2_40, wi_X2_advance, ws_X2_advance, wn_X2, wc_X2_advance, by decide +kernel, by decide⟩
theorem cw_X2_48 : CW RX2 48 RX2 yX2_isWord cX2_isWord 3 (some .boolean) 1 := ⟨wl_X2_48, wi_X2_isWord, ws_X2_isWord, wn_X2, wc_X2_isWord, by decide +kernel, by decide⟩
theorem cw_X2_52 : CW RX2 52 RX2 yX2_readThing cX2_readThing 2 none 0 := ⟨wl_X2_52, wi_X2_readThing, ws_X2_readThing, wn_X2, wc_X2_readThing, by decide +kernel, by decide⟩
theorem cw_X2_57 : CW RX2 57 RX2 yX2_readPupil cX2_readPupil 3 none 0 := ⟨wl_X2_57, wi_X2_readPupil, ws_X2_readPupil, wn_X2, wc_X2_readPupil, by decide +kernel, by decide⟩
theorem cw_X2_63 : CW RX2 63 RX2 yX2_refuse cX2_refuse 3 none 2 := ⟨wl_X2_63, wi_X2_refuse, ws_X2_refuse, wn_X2, wc_X2_refuse, by decide +kernel, by decide⟩
theorem cw_X2_69 : CW RX2 69 RX2 yX2_readLeaning cX2_readLeaning 6 (some .int) 0 := ⟨wl_X2_69, wi_X2_readLeaning, ws_X2_readLeaning, wn_X2, wc_X2_readLeaning, by decide +kernel, by decide⟩
theorem cw_X2_73 : CW RX2 73 RX2 yX2_takeSign cX2_takeSign 2 none 1 := ⟨wl_X2_73, wi_X2_takeSign, ws_X2_takeSign, wn_X2, wc_X2_takeSign, by decide +kernel, by decide⟩
theorem cw_X2_81 : CW RX2 81 RX2 yX2_takeNumber cX2_takeNumber 5 (some .int) 2 := ⟨wl_X2_81, wi_X2_takeNumber, ws_X2_takeNumber, wn_X2, wc_X2_takeNumber, by decide +kernel, by decide⟩
theorem cw_X2_85 : CW RX2 85 RX2 yX2_isSign cX2_isSign 2 (some .boolean) 1 := ⟨wl_X2_85, wi_X2_isSign, ws_X2_isSign, wn_X2, wc_X2_isSign, by decide +kernel, by decide⟩
theorem cw_X4_30 : CS RX4 30 yJ7_fill_fda19 cJ7_fill_fda19 5 none 4 := ⟨wl_X4_30, wt_J7_fill_fda19, wy_J7, wc_J7_fill_fda19, by decide +kernel, by decide⟩
theorem cw_X4_36 : CW RX4 36 RX0 yX0_code cX0_code 3 (some .int) 0 := ⟨wl_X4_36, wi_X0_code, ws_X0_code, wn_X0, wc_X0_code, by decide +kernel, by decide⟩
theorem cw_X4_40 : CW RX4 40 RX4 yX4_look cX4_look 8 (some .int) 3 := ⟨wl_X4_40, wi_X4_look, ws_X4_look, wn_X4, wc_X4_look, by decide +kernel, by decide⟩
theorem cw_X4_44 : CW RX4 44 RX0 yX0_setLevels cX0_setLevels 4 none 1 := ⟨wl_X4_44, wi_X0_setLevels, ws_X0_setLevels, wn_X0, wc_X0_setLevels, by decide +kernel, by decide⟩
theorem cw_X4_48 : CW RX4 48 RX0 yX0_hold cX0_hold 6 (some .int) 2 := ⟨wl_X4_48, wi_X0_hold, ws_X0_hold, wn_X0, wc_X0_hold, by decide +kernel, by decide⟩
theorem cw_X6_103 : CW RX6 103 RX4 yX4_forget cX4_forget 1 none 0 := ⟨wl_X6_103, wi_X4_forget, ws_X4_forget, wn_X4, wc_X4_forget, by decide +kernel, by decide⟩
theorem cw_X6_122 : CW RX6 122 RX6 yX6_isPupil cX6_isPupil 2 (some .boolean) 1 := ⟨wl_X6_122, wi_X6_isPupil, ws_X6_isPupil, wn_X6, wc_X6_isPupil, by decide +kernel, by decide⟩
theorem cw_X6_136 : CW RX6 136 RX6 yX6_knownThings cX6_knownThings 4 (some .int) 1 := ⟨wl_X6_136, wi_X6_knownThings, ws_X6_knownThings, wn_X6, wc_X6_knownThings, by decide +kernel, by decide⟩
theorem cw_X6_140 : CW RX6 140 RX6 yX6_allLevels cX6_allLevels 4 (some .int) 1 := ⟨wl_X6_140, wi_X6_allLevels, ws_X6_allLevels, wn_X6, wc_X6_allLevels, by decide +kernel, by decide⟩
theorem cw_X6_143 : CW RX6 143 RX6 yX6_isThing cX6_isThing 2 (some .boolean) 1 := ⟨wl_X6_143, wi_X6_isThing, ws_X6_isThing, wn_X6, wc_X6_isThing, by decide +kernel, by decide⟩
theorem cw_X6_152 : CW RX6 152 RX6 yX6_sitAll cX6_sitAll 2 none 1 := ⟨wl_X6_152, wi_X6_sitAll, ws_X6_sitAll, wn_X6, wc_X6_sitAll, by decide +kernel, by decide⟩
theorem cw_X6_155 : CW RX6 155 RX0 yX0_room cX0_room 2 (some .int) 1 := ⟨wl_X6_155, wi_X0_room, ws_X0_room, wn_X0, wc_X0_room, by decide +kernel, by decide⟩
theorem cw_X6_158 : CW RX6 158 RX0 yX0_hold cX0_hold 6 (some .int) 2 := ⟨wl_X6_158, wi_X0_hold, ws_X0_hold, wn_X0, wc_X0_hold, by decide +kernel, by decide⟩
theorem cw_X6_162 : CW RX6 162 RX0 yX0_leave cX0_leave 4 none 2 := ⟨wl_X6_162, wi_X0_leave, ws_X0_leave, wn_X0, wc_X0_leave, by decide +kernel, by decide⟩
theorem cw_X6_166 : CW RX6 166 RX0 yX0_rightChance cX0_rightChance 2 (some .int) 1 := ⟨wl_X6_166, wi_X0_rightChance, ws_X0_rightChance, wn_X0, wc_X0_rightChance, by decide +kernel, by decide⟩
theorem cw_X6_169 : CW RX6 169 RX0 yX0_someNo cX0_someNo 6 (some .int) 2 := ⟨wl_X6_169, wi_X0_someNo, ws_X0_someNo, wn_X0, wc_X0_someNo, by decide +kernel, by decide⟩
theorem cw_X6_172 : CW RX6 172 RX0 yX0_mean cX0_mean 11 (some .int) 1 := ⟨wl_X6_172, wi_X0_mean, ws_X0_mean, wn_X0, wc_X0_mean, by decide +kernel, by decide⟩
theorem cw_X6_175 : CW RX6 175 RX6 yX6_isRule cX6_isRule 2 (some .boolean) 1 := ⟨wl_X6_175, wi_X6_isRule, ws_X6_isRule, wn_X6, wc_X6_isRule, by decide +kernel, by decide⟩
theorem cw_X6_179 : CW RX6 179 RX1 yX1_follow cX1_follow 9 none 4 := ⟨wl_X6_179, wi_X1_follow, ws_X1_follow, wn_X1, wc_X1_follow, by decide +kernel, by decide⟩
theorem cw_X6_183 : CW RX6 183 RX1 yX1_thatAllKnow cX1_thatAllKnow 2 (some .int) 1 := ⟨wl_X6_183, wi_X1_thatAllKnow, ws_X1_thatAllKnow, wn_X1, wc_X1_thatAllKnow, by decide +kernel, by decide⟩
theorem cw_X6_186 : CW RX6 186 RX1 yX1_thatNobodyKnows cX1_thatNobodyKnows 7 (some .int) 1 := ⟨wl_X6_186, wi_X1_thatNobodyKnows, ws_X1_thatNobodyKnows, wn_X1, wc_X1_thatNobodyKnows, by decide +kernel, by decide⟩
theorem cw_X6_189 : CW RX6 189 RX1 yX1_meanLevel cX1_meanLevel 6 (some .int) 2 := ⟨wl_X6_189, wi_X1_meanLevel, ws_X1_meanLevel, wn_X1, wc_X1_meanLevel, by decide +kernel, by decide⟩
theorem cw_X6_193 : CW RX6 193 RX0 yX0_chosen cX0_chosen 3 (some .int) 2 := ⟨wl_X6_193, wi_X0_chosen, ws_X0_chosen, wn_X0, wc_X0_chosen, by decide +kernel, by decide⟩
theorem cw_X6_196 : CW RX6 196 RX0 yX0_after cX0_after 2 (some .int) 1 := ⟨wl_X6_196, wi_X0_after, ws_X0_after, wn_X0, wc_X0_after, by decide +kernel, by decide⟩
theorem cw_X6_199 : CW RX6 199 RX0 yX0_knowing cX0_knowing 3 (some .int) 0 := ⟨wl_X6_199, wi_X0_knowing, ws_X0_knowing, wn_X0, wc_X0_knowing, by decide +kernel, by decide⟩
theorem cw_X6_203 : CW RX6 203 RX0 yX0_tell cX0_tell 4 (some .int) 0 := ⟨wl_X6_203, wi_X0_tell, ws_X0_tell, wn_X0, wc_X0_tell, by decide +kernel, by decide⟩
theorem cw_X6_209 : CW RX6 209 RX6 yX6_fewestOfAll cX6_fewestOfAll 4 (some .int) 3 := ⟨wl_X6_209, wi_X6_fewestOfAll, ws_X6_fewestOfAll, wn_X6, wc_X6_fewestOfAll, by decide +kernel, by decide⟩
theorem cw_X6_213 : CW RX6 213 RX6 yX6_fewest cX6_fewest 2 (some .int) 1 := ⟨wl_X6_213, wi_X6_fewest, ws_X6_fewest, wn_X6, wc_X6_fewest, by decide +kernel, by decide⟩
theorem cw_X6_216 : CW RX6 216 RX6 yX6_searchFor cX6_searchFor 2 (some (.object "LeastTeaches$Search")) 1 := ⟨wl_X6_216, wi_X6_searchFor, ws_X6_searchFor, wn_X6, wc_X6_searchFor, by decide +kernel, by decide⟩
theorem cw_X6_220 : CW RX6 220 RX4 yX4_standsUp cX4_standsUp 7 (some .int) 2 := ⟨wl_X6_220, wi_X4_standsUp, ws_X4_standsUp, wn_X4, wc_X4_standsUp, by decide +kernel, by decide⟩
theorem cw_X6_224 : CW RX6 224 RX6 yX6_levelBehind cX6_levelBehind 6 (some .int) 4 := ⟨wl_X6_224, wi_X6_levelBehind, ws_X6_levelBehind, wn_X6, wc_X6_levelBehind, by decide +kernel, by decide⟩
theorem cw_X6_228 : CW RX6 228 RX6 yX6_findOrder cX6_findOrder 7 (some .int) 0 := ⟨wl_X6_228, wi_X6_findOrder, ws_X6_findOrder, wn_X6, wc_X6_findOrder, by decide +kernel, by decide⟩
theorem cw_X6_231 : CW RX6 231 RX6 yX6_fewestOfPart cX6_fewestOfPart 3 (some .int) 2 := ⟨wl_X6_231, wi_X6_fewestOfPart, ws_X6_fewestOfPart, wn_X6, wc_X6_fewestOfPart, by decide +kernel, by decide⟩
theorem cw_X6_239 : CW RX6 239 RX5 yX5_take cX5_take 2 none 1 := ⟨wl_X6_239, wi_X5_take, ws_X5_take, wn_X5, wc_X5_take, by decide +kernel, by decide⟩
theorem cw_X6_243 : CW RX6 243 RX0 yX0_sit cX0_sit 6 none 4 := ⟨wl_X6_243, wi_X0_sit, ws_X0_sit, wn_X0, wc_X0_sit, by decide +kernel, by decide⟩
theorem cw_X6_250 : CW RX6 250 RX0 yX0_least cX0_least 7 (some .int) 2 := ⟨wl_X6_250, wi_X0_least, ws_X0_least, wn_X0, wc_X0_least, by decide +kernel, by decide⟩
theorem cw_X6_256 : CW RX6 256 RX6 yX6_imageOf cX6_imageOf 2 (some (.object "LeastTeaches$Standing")) 1 := ⟨wl_X6_256, wi_X6_imageOf, ws_X6_imageOf, wn_X6, wc_X6_imageOf, by decide +kernel, by decide⟩
theorem cw_X6_261 : CW RX6 261 RX0 yX0_isBarred cX0_isBarred 2 (some .boolean) 0 := ⟨wl_X6_261, wi_X0_isBarred, ws_X0_isBarred, wn_X0, wc_X0_isBarred, by decide +kernel, by decide⟩
theorem cw_X6_265 : CW RX6 265 RX4 yX4_lessonsFrom cX4_lessonsFrom 2 (some .int) 1 := ⟨wl_X6_265, wi_X4_lessonsFrom, ws_X4_lessonsFrom, wn_X4, wc_X4_lessonsFrom, by decide +kernel, by decide⟩
theorem cw_X6_269 : CW RX6 269 RX6 yX6_leastOpen cX6_leastOpen 3 (some .int) 1 := ⟨wl_X6_269, wi_X6_leastOpen, ws_X6_leastOpen, wn_X6, wc_X6_leastOpen, by decide +kernel, by decide⟩
theorem cw_X6_82 : CW RX6 82 RX2 yX2_add cX2_add 2 none 1 := ⟨wl_X6_82, wi_X2_add, ws_X2_add, wn_X2, wc_X2_add, by decide +kernel, by decide⟩
theorem cw_X6_86 : CW RX6 86 RX2 yX2_read cX2_read 3 (some .int) 1 := ⟨wl_X6_86, wi_X2_read, ws_X2_read, wn_X2, wc_X2_read, by decide +kernel, by decide⟩
theorem cw_X6_93 : CW RX6 93 RX5 yX5_begin cX5_begin 2 none 1 := ⟨wl_X6_93, wi_X5_begin, ws_X5_begin, wn_X5, wc_X5_begin, by decide +kernel, by decide⟩
theorem cw_X7_111 : CW RX7 111 RX7 yX7_here cX7_here 1 (some .int) 0 := ⟨wl_X7_111, wi_X7_here, ws_X7_here, wn_X7, wc_X7_here, by decide +kernel, by decide⟩
theorem cw_X7_138 : CW RX7 138 RX7 yX7_fails cX7_fails 3 (some .int) 2 := ⟨wl_X7_138, wi_X7_fails, ws_X7_fails, wn_X7, wc_X7_fails, by decide +kernel, by decide⟩
theorem cw_X7_151 : CW RX7 151 RX7 yX7_readWord cX7_readWord 2 none 0 := ⟨wl_X7_151, wi_X7_readWord, ws_X7_readWord, wn_X7, wc_X7_readWord, by decide +kernel, by decide⟩
theorem cw_X7_156 : CW RX7 156 RX7 yX7_takeNumber cX7_takeNumber 4 (some .int) 2 := ⟨wl_X7_156, wi_X7_takeNumber, ws_X7_takeNumber, wn_X7, wc_X7_takeNumber, by decide +kernel, by decide⟩
theorem cw_X7_159 : CS RX7 159 yX7_has cX7_has 2 (some .boolean) 2 := ⟨wl_X7_159, wt_X7_has, wy_X7, wc_X7_has, by decide +kernel, by decide⟩
theorem cw_X7_163 : CW RX7 163 RX7 yX7_isComma cX7_isComma 2 (some .boolean) 0 := ⟨wl_X7_163, wi_X7_isComma, ws_X7_isComma, wn_X7, wc_X7_isComma, by decide +kernel, by decide⟩
theorem cw_X7_170 : CS RX7 170 yX7_code cX7_code 5 (some .long) 5 := ⟨wl_X7_170, wt_X7_code, wy_X7, wc_X7_code, by decide +kernel, by decide⟩
theorem cw_X7_174 : CW RX7 174 RX7 yX7_takeThing cX7_takeThing 3 (some .int) 0 := ⟨wl_X7_174, wi_X7_takeThing, ws_X7_takeThing, wn_X7, wc_X7_takeThing, by decide +kernel, by decide⟩
theorem cw_X7_177 : CW RX7 177 RX7 yX7_takePupil cX7_takePupil 4 (some .int) 0 := ⟨wl_X7_177, wi_X7_takePupil, ws_X7_takePupil, wn_X7, wc_X7_takePupil, by decide +kernel, by decide⟩
theorem cw_X7_180 : CW RX7 180 RX7 yX7_takeClause cX7_takeClause 3 (some .int) 0 := ⟨wl_X7_180, wi_X7_takeClause, ws_X7_takeClause, wn_X7, wc_X7_takeClause, by decide +kernel, by decide⟩
theorem cw_X7_193 : CW RX7 193 RX7 yX7_isPupil cX7_isPupil 2 (some .boolean) 1 := ⟨wl_X7_193, wi_X7_isPupil, ws_X7_isPupil, wn_X7, wc_X7_isPupil, by decide +kernel, by decide⟩
theorem cw_X7_200 : CW RX7 200 RX7 yX7_isThing cX7_isThing 2 (some .boolean) 1 := ⟨wl_X7_200, wi_X7_isThing, ws_X7_isThing, wn_X7, wc_X7_isThing, by decide +kernel, by decide⟩
theorem cw_X7_203 : CW RX7 203 RX7 yX7_capOf cX7_capOf 6 (some .int) 3 := ⟨wl_X7_203, wi_X7_capOf, ws_X7_capOf, wn_X7, wc_X7_capOf, by decide +kernel, by decide⟩
theorem cw_X7_217 : CW RX7 217 RX7 yX7_draw cX7_draw 2 (some .int) 1 := ⟨wl_X7_217, wi_X7_draw, ws_X7_draw, wn_X7, wc_X7_draw, by decide +kernel, by decide⟩
theorem cw_X7_221 : CW RX7 221 RX7 yX7_isSo cX7_isSo 3 (some .boolean) 2 := ⟨wl_X7_221, wi_X7_isSo, ws_X7_isSo, wn_X7, wc_X7_isSo, by decide +kernel, by decide⟩
theorem cw_X7_225 : CS RX7 225 yX7_noChance cX7_noChance 2 (some .int) 2 := ⟨wl_X7_225, wt_X7_noChance, wy_X7, wc_X7_noChance, by decide +kernel, by decide⟩
theorem cw_X7_229 : CW RX7 229 RX7 yX7_rise cX7_rise 4 none 2 := ⟨wl_X7_229, wi_X7_rise, ws_X7_rise, wn_X7, wc_X7_rise, by decide +kernel, by decide⟩
theorem cw_X7_233 : CW RX7 233 RX7 yX7_believe cX7_believe 6 none 3 := ⟨wl_X7_233, wi_X7_believe, ws_X7_believe, wn_X7, wc_X7_believe, by decide +kernel, by decide⟩
theorem cw_X7_237 : CW RX7 237 RX7 yX7_follow cX7_follow 4 none 2 := ⟨wl_X7_237, wi_X7_follow, ws_X7_follow, wn_X7, wc_X7_follow, by decide +kernel, by decide⟩
theorem cw_X7_242 : CW RX7 242 RX7 yX7_take cX7_take 4 none 2 := ⟨wl_X7_242, wi_X7_take, ws_X7_take, wn_X7, wc_X7_take, by decide +kernel, by decide⟩
theorem cw_X7_245 : CW RX7 245 RX7 yX7_everybody cX7_everybody 1 (some .int) 0 := ⟨wl_X7_245, wi_X7_everybody, ws_X7_everybody, wn_X7, wc_X7_everybody, by decide +kernel, by decide⟩
theorem cw_X7_248 : CW RX7 248 RX7 yX7_teach cX7_teach 10 (some .int) 4 := ⟨wl_X7_248, wi_X7_teach, ws_X7_teach, wn_X7, wc_X7_teach, by decide +kernel, by decide⟩
theorem cw_X7_252 : CW RX7 252 RX7 yX7_put cX7_put 3 none 1 := ⟨wl_X7_252, wi_X7_put, ws_X7_put, wn_X7, wc_X7_put, by decide +kernel, by decide⟩
theorem cw_X7_264 : CW RX7 264 RX7 yX7_noOdds cX7_noOdds 9 (some .int) 3 := ⟨wl_X7_264, wi_X7_noOdds, ws_X7_noOdds, wn_X7, wc_X7_noOdds, by decide +kernel, by decide⟩
theorem cw_X7_268 : CW RX7 268 RX7 yX7_rises cX7_rises 4 (some .int) 2 := ⟨wl_X7_268, wi_X7_rises, ws_X7_rises, wn_X7, wc_X7_rises, by decide +kernel, by decide⟩
theorem cw_X7_271 : CS RX7 271 yX7_part cX7_part 3 (some .long) 3 := ⟨wl_X7_271, wt_X7_part, wy_X7, wc_X7_part, by decide +kernel, by decide⟩
theorem cw_X7_276 : CW RX7 276 RX7 yX7_leastOf cX7_leastOf 7 (some .int) 2 := ⟨wl_X7_276, wi_X7_leastOf, ws_X7_leastOf, wn_X7, wc_X7_leastOf, by decide +kernel, by decide⟩
theorem cw_X7_279 : CW RX7 279 RX7 yX7_greatestBelow cX7_greatestBelow 3 (some .int) 0 := ⟨wl_X7_279, wi_X7_greatestBelow, ws_X7_greatestBelow, wn_X7, wc_X7_greatestBelow, by decide +kernel, by decide⟩
theorem cw_X7_284 : CS RX7 284 yX7_isRule cX7_isRule 1 (some .boolean) 1 := ⟨wl_X7_284, wt_X7_isRule, wy_X7, wc_X7_isRule, by decide +kernel, by decide⟩
theorem cw_X7_288 : CW RX7 288 RX7 yX7_upBy cX7_upBy 3 (some .int) 2 := ⟨wl_X7_288, wi_X7_upBy, ws_X7_upBy, wn_X7, wc_X7_upBy, by decide +kernel, by decide⟩
theorem cw_X7_293 : CW RX7 293 RX7 yX7_knownNow cX7_knownNow 3 (some .int) 0 := ⟨wl_X7_293, wi_X7_knownNow, ws_X7_knownNow, wn_X7, wc_X7_knownNow, by decide +kernel, by decide⟩
theorem cw_X7_296 : CW RX7 296 RX7 yX7_tellNow cX7_tellNow 4 (some .int) 0 := ⟨wl_X7_296, wi_X7_tellNow, ws_X7_tellNow, wn_X7, wc_X7_tellNow, by decide +kernel, by decide⟩
theorem cw_X7_301 : CS RX7 301 yX7_bits cX7_bits 3 (some .int) 1 := ⟨wl_X7_301, wt_X7_bits, wy_X7, wc_X7_bits, by decide +kernel, by decide⟩
theorem cw_X7_304 : CW RX7 304 RX7 yX7_setState cX7_setState 5 none 2 := ⟨wl_X7_304, wi_X7_setState, ws_X7_setState, wn_X7, wc_X7_setState, by decide +kernel, by decide⟩
theorem cw_X7_307 : CW RX7 307 RX7 yX7_stateNow cX7_stateNow 4 (some .int) 1 := ⟨wl_X7_307, wi_X7_stateNow, ws_X7_stateNow, wn_X7, wc_X7_stateNow, by decide +kernel, by decide⟩
theorem cw_X7_313 : CW RX7 313 RX7 yX7_goal cX7_goal 4 (some .int) 1 := ⟨wl_X7_313, wi_X7_goal, ws_X7_goal, wn_X7, wc_X7_goal, by decide +kernel, by decide⟩
theorem cw_X7_316 : CW RX7 316 RX7 yX7_next cX7_next 6 (some .int) 4 := ⟨wl_X7_316, wi_X7_next, ws_X7_next, wn_X7, wc_X7_next, by decide +kernel, by decide⟩
theorem cw_X7_320 : CW RX7 320 RX7 yX7_spread cX7_spread 7 (some .int) 2 := ⟨wl_X7_320, wi_X7_spread, ws_X7_spread, wn_X7, wc_X7_spread, by decide +kernel, by decide⟩
theorem cw_X7_323 : CW RX7 323 RX7 yX7_isSmall cX7_isSmall 1 (some .boolean) 0 := ⟨wl_X7_323, wi_X7_isSmall, ws_X7_isSmall, wn_X7, wc_X7_isSmall, by decide +kernel, by decide⟩
theorem cw_X7_326 : CW RX7 326 RX7 yX7_fewestOf cX7_fewestOf 4 (some .int) 3 := ⟨wl_X7_326, wi_X7_fewestOf, ws_X7_fewestOf, wn_X7, wc_X7_fewestOf, by decide +kernel, by decide⟩
theorem cw_X7_329 : CW RX7 329 RX7 yX7_levelBehind cX7_levelBehind 7 (some .int) 4 := ⟨wl_X7_329, wi_X7_levelBehind, ws_X7_levelBehind, wn_X7, wc_X7_levelBehind, by decide +kernel, by decide⟩
theorem cw_X7_333 : CW RX7 333 RX7 yX7_findOrder cX7_findOrder 7 none 0 := ⟨wl_X7_333, wi_X7_findOrder, ws_X7_findOrder, wn_X7, wc_X7_findOrder, by decide +kernel, by decide⟩
theorem cw_X7_339 : CW RX7 339 RX7 yX7_asNow cX7_asNow 2 none 0 := ⟨wl_X7_339, wi_X7_asNow, ws_X7_asNow, wn_X7, wc_X7_asNow, by decide +kernel, by decide⟩
theorem cw_X7_342 : CW RX7 342 RX7 yX7_come cX7_come 5 none 1 := ⟨wl_X7_342, wi_X7_come, ws_X7_come, wn_X7, wc_X7_come, by decide +kernel, by decide⟩
theorem cw_X7_346 : CW RX7 346 RX7 yX7_partBelief cX7_partBelief 10 none 2 := ⟨wl_X7_346, wi_X7_partBelief, ws_X7_partBelief, wn_X7, wc_X7_partBelief, by decide +kernel, by decide⟩
theorem cw_X7_350 : CW RX7 350 RX7 yX7_listSurer cX7_listSurer 3 none 1 := ⟨wl_X7_350, wi_X7_listSurer, ws_X7_listSurer, wn_X7, wc_X7_listSurer, by decide +kernel, by decide⟩
theorem cw_X7_353 : CW RX7 353 RX7 yX7_chanceOf cX7_chanceOf 3 (some .int) 2 := ⟨wl_X7_353, wi_X7_chanceOf, ws_X7_chanceOf, wn_X7, wc_X7_chanceOf, by decide +kernel, by decide⟩
theorem cw_X7_356 : CW RX7 356 RX7 yX7_partNo cX7_partNo 8 none 4 := ⟨wl_X7_356, wi_X7_partNo, ws_X7_partNo, wn_X7, wc_X7_partNo, by decide +kernel, by decide⟩
theorem cw_X7_360 : CW RX7 360 RX7 yX7_partRight cX7_partRight 12 none 3 := ⟨wl_X7_360, wi_X7_partRight, ws_X7_partRight, wn_X7, wc_X7_partRight, by decide +kernel, by decide⟩
theorem cw_X7_366 : CW RX7 366 RX7 yX7_partAll cX7_partAll 7 none 2 := ⟨wl_X7_366, wi_X7_partAll, ws_X7_partAll, wn_X7, wc_X7_partAll, by decide +kernel, by decide⟩
theorem cw_X7_371 : CW RX7 371 RX7 yX7_findOdds cX7_findOdds 5 none 3 := ⟨wl_X7_371, wi_X7_findOdds, ws_X7_findOdds, wn_X7, wc_X7_findOdds, by decide +kernel, by decide⟩
theorem cw_X7_375 : CW RX7 375 RX7 yX7_firstWrong cX7_firstWrong 3 (some .int) 0 := ⟨wl_X7_375, wi_X7_firstWrong, ws_X7_firstWrong, wn_X7, wc_X7_firstWrong, by decide +kernel, by decide⟩
theorem cw_X7_92 : CS RX7 92 yX7_in cX7_in 6 (some .boolean) 3 := ⟨wl_X7_92, wt_X7_in, wy_X7, wc_X7_in, by decide +kernel, by decide⟩
end
section
theorem eX0_init_0 : Dn cX0_init 0 (.aload_n 0) 1 1 := ⟨by decide +kernel, rfl⟩
theorem eX0_init_1 : Dn cX0_init 1 (.invokespecial 3) 3 4 := ⟨by decide +kernel, rfl⟩
theorem eX0_init_4 : Dn cX0_init 4 (.aload_n 0) 1 5 := ⟨by decide +kernel, rfl⟩
theorem eX0_init_5 : Dn cX0_init 5 (.bipush 6) 2 7 := ⟨by decide +kernel, rfl⟩
theorem eX0_init_7 : Dn cX0_init 7 (.newarray .int) 2 9 := ⟨by decide +kernel, rfl⟩
theorem eX0_init_9 : Dn cX0_init 9 (.putfield 9) 3 12 := ⟨by decide +kernel, rfl⟩
theorem eX0_init_12 : Dn cX0_init 12 (.aload_n 0) 1 13 := ⟨by decide +kernel, rfl⟩
theorem eX0_init_13 : Dn cX0_init 13 (.bipush 6) 2 15 := ⟨by decide +kernel, rfl⟩
theorem eX0_init_15 : Dn cX0_init 15 (.newarray .int) 2 17 := ⟨by decide +kernel, rfl⟩
theorem eX0_init_17 : Dn cX0_init 17 (.putfield 15) 3 20 := ⟨by decide +kernel, rfl⟩
theorem eX0_init_20 : Dn cX0_init 20 (.aload_n 0) 1 21 := ⟨by decide +kernel, rfl⟩
theorem eX0_init_21 : Dn cX0_init 21 (.bipush 6) 2 23 := ⟨by decide +kernel, rfl⟩
theorem eX0_init_23 : Dn cX0_init 23 (.newarray .int) 2 25 := ⟨by decide +kernel, rfl⟩
theorem eX0_init_25 : Dn cX0_init 25 (.putfield 18) 3 28 := ⟨by decide +kernel, rfl⟩
theorem eX0_init_28 : Dn cX0_init 28 (.aload_n 0) 1 29 := ⟨by decide +kernel, rfl⟩
theorem eX0_init_29 : Dn cX0_init 29 (.bipush 6) 2 31 := ⟨by decide +kernel, rfl⟩
theorem eX0_init_31 : Dn cX0_init 31 (.newarray .int) 2 33 := ⟨by decide +kernel, rfl⟩
theorem eX0_init_33 : Dn cX0_init 33 (.putfield 21) 3 36 := ⟨by decide +kernel, rfl⟩
theorem eX0_init_36 : Dn cX0_init 36 (.aload_n 0) 1 37 := ⟨by decide +kernel, rfl⟩
theorem eX0_init_37 : Dn cX0_init 37 (.bipush 6) 2 39 := ⟨by decide +kernel, rfl⟩
theorem eX0_init_39 : Dn cX0_init 39 (.newarray .int) 2 41 := ⟨by decide +kernel, rfl⟩
theorem eX0_init_41 : Dn cX0_init 41 (.putfield 24) 3 44 := ⟨by decide +kernel, rfl⟩
theorem eX0_init_44 : Dn cX0_init 44 (.aload_n 0) 1 45 := ⟨by decide +kernel, rfl⟩
theorem eX0_init_45 : Dn cX0_init 45 (.bipush 6) 2 47 := ⟨by decide +kernel, rfl⟩
theorem eX0_init_47 : Dn cX0_init 47 (.newarray .int) 2 49 := ⟨by decide +kernel, rfl⟩
theorem eX0_init_49 : Dn cX0_init 49 (.putfield 27) 3 52 := ⟨by decide +kernel, rfl⟩
theorem eX0_init_52 : Dn cX0_init 52 (.aload_n 0) 1 53 := ⟨by decide +kernel, rfl⟩
theorem eX0_init_53 : Dn cX0_init 53 (.bipush 6) 2 55 := ⟨by decide +kernel, rfl⟩
theorem eX0_init_55 : Dn cX0_init 55 (.newarray .boolean) 2 57 := ⟨by decide +kernel, rfl⟩
theorem eX0_init_57 : Dn cX0_init 57 (.putfield 30) 3 60 := ⟨by decide +kernel, rfl⟩
theorem eX0_init_60 : Dn cX0_init 60 (.return_) 1 61 := ⟨by decide +kernel, rfl⟩
theorem eX0_sit_0 : Dn cX0_sit 0 (.aload_n 0) 1 1 := ⟨by decide +kernel, rfl⟩
theorem eX0_sit_1 : Dn cX0_sit 1 (.iconst 0) 1 2 := ⟨by decide +kernel, rfl⟩
theorem eX0_sit_2 : Dn cX0_sit 2 (.putfield 34) 3 5 := ⟨by decide +kernel, rfl⟩
theorem eX0_sit_5 : Dn cX0_sit 5 (.aload_n 0) 1 6 := ⟨by decide +kernel, rfl⟩
theorem eX0_sit_6 : Dn cX0_sit 6 (.iload_n 3) 1 7 := ⟨by decide +kernel, rfl⟩
theorem eX0_sit_7 : Dn cX0_sit 7 (.putfield 38) 3 10 := ⟨by decide +kernel, rfl⟩
theorem eX0_sit_10 : Dn cX0_sit 10 (.aload_n 0) 1 11 := ⟨by decide +kernel, rfl⟩
theorem eX0_sit_11 : Dn cX0_sit 11 (.aload_n 2) 1 12 := ⟨by decide +kernel, rfl⟩
theorem eX0_sit_12 : Dn cX0_sit 12 (.getfield 41) 3 15 := ⟨by decide +kernel, rfl⟩
theorem eX0_sit_15 : Dn cX0_sit 15 (.putfield 47) 3 18 := ⟨by decide +kernel, rfl⟩
theorem eX0_sit_18 : Dn cX0_sit 18 (.aload_n 0) 1 19 := ⟨by decide +kernel, rfl⟩
theorem eX0_sit_19 : Dn cX0_sit 19 (.aload_n 2) 1 20 := ⟨by decide +kernel, rfl⟩
theorem eX0_sit_20 : Dn cX0_sit 20 (.getfield 48) 3 23 := ⟨by decide +kernel, rfl⟩
theorem eX0_sit_23 : Dn cX0_sit 23 (.putfield 51) 3 26 := ⟨by decide +kernel, rfl⟩
theorem eX0_sit_26 : Dn cX0_sit 26 (.iconst 0) 1 27 := ⟨by decide +kernel, rfl⟩
theorem eX0_sit_27 : Dn cX0_sit 27 (.istore 5) 2 29 := ⟨by decide +kernel, rfl⟩
theorem eX0_sit_29 : Dn cX0_sit 29 (.iload 5) 2 31 := ⟨by decide +kernel, rfl⟩
theorem eX0_sit_31 : Dn cX0_sit 31 (.aload_n 1) 1 32 := ⟨by decide +kernel, rfl⟩
theorem eX0_sit_32 : Dn cX0_sit 32 (.getfield 52) 3 35 := ⟨by decide +kernel, rfl⟩
theorem eX0_sit_35 : Dn cX0_sit 35 (.if_icmp .ge 131) 3 38 := ⟨by decide +kernel, rfl⟩
theorem eX0_sit_38 : Dn cX0_sit 38 (.iload_n 3) 1 39 := ⟨by decide +kernel, rfl⟩
theorem eX0_sit_39 : Dn cX0_sit 39 (.iload 5) 2 41 := ⟨by decide +kernel, rfl⟩
theorem eX0_sit_41 : Dn cX0_sit 41 (.ishr) 1 42 := ⟨by decide +kernel, rfl⟩
theorem eX0_sit_42 : Dn cX0_sit 42 (.iconst 1) 1 43 := ⟨by decide +kernel, rfl⟩
theorem eX0_sit_43 : Dn cX0_sit 43 (.iand) 1 44 := ⟨by decide +kernel, rfl⟩
theorem eX0_sit_44 : Dn cX0_sit 44 (.iconst 1) 1 45 := ⟨by decide +kernel, rfl⟩
theorem eX0_sit_45 : Dn cX0_sit 45 (.if_icmp .ne 115) 3 48 := ⟨by decide +kernel, rfl⟩
theorem eX0_sit_48 : Dn cX0_sit 48 (.aload_n 0) 1 49 := ⟨by decide +kernel, rfl⟩
theorem eX0_sit_49 : Dn cX0_sit 49 (.getfield 9) 3 52 := ⟨by decide +kernel, rfl⟩
theorem eX0_sit_52 : Dn cX0_sit 52 (.aload_n 0) 1 53 := ⟨by decide +kernel, rfl⟩
theorem eX0_sit_53 : Dn cX0_sit 53 (.getfield 34) 3 56 := ⟨by decide +kernel, rfl⟩
theorem eX0_sit_56 : Dn cX0_sit 56 (.iload 5) 2 58 := ⟨by decide +kernel, rfl⟩
theorem eX0_sit_58 : Dn cX0_sit 58 (.iastore) 1 59 := ⟨by decide +kernel, rfl⟩
theorem eX0_sit_59 : Dn cX0_sit 59 (.aload_n 0) 1 60 := ⟨by decide +kernel, rfl⟩
theorem eX0_sit_60 : Dn cX0_sit 60 (.getfield 15) 3 63 := ⟨by decide +kernel, rfl⟩
theorem eX0_sit_63 : Dn cX0_sit 63 (.aload_n 0) 1 64 := ⟨by decide +kernel, rfl⟩
theorem eX0_sit_64 : Dn cX0_sit 64 (.getfield 34) 3 67 := ⟨by decide +kernel, rfl⟩
theorem eX0_sit_67 : Dn cX0_sit 67 (.aload_n 2) 1 68 := ⟨by decide +kernel, rfl⟩
theorem eX0_sit_68 : Dn cX0_sit 68 (.getfield 57) 3 71 := ⟨by decide +kernel, rfl⟩
theorem eX0_sit_71 : Dn cX0_sit 71 (.iload 5) 2 73 := ⟨by decide +kernel, rfl⟩
theorem eX0_sit_73 : Dn cX0_sit 73 (.bipush 6) 2 75 := ⟨by decide +kernel, rfl⟩
theorem eX0_sit_75 : Dn cX0_sit 75 (.imul) 1 76 := ⟨by decide +kernel, rfl⟩
theorem eX0_sit_76 : Dn cX0_sit 76 (.iload 4) 2 78 := ⟨by decide +kernel, rfl⟩
theorem eX0_sit_78 : Dn cX0_sit 78 (.iadd) 1 79 := ⟨by decide +kernel, rfl⟩
theorem eX0_sit_79 : Dn cX0_sit 79 (.iaload) 1 80 := ⟨by decide +kernel, rfl⟩
theorem eX0_sit_80 : Dn cX0_sit 80 (.iastore) 1 81 := ⟨by decide +kernel, rfl⟩
theorem eX0_sit_81 : Dn cX0_sit 81 (.aload_n 0) 1 82 := ⟨by decide +kernel, rfl⟩
theorem eX0_sit_82 : Dn cX0_sit 82 (.getfield 18) 3 85 := ⟨by decide +kernel, rfl⟩
theorem eX0_sit_85 : Dn cX0_sit 85 (.aload_n 0) 1 86 := ⟨by decide +kernel, rfl⟩
theorem eX0_sit_86 : Dn cX0_sit 86 (.getfield 34) 3 89 := ⟨by decide +kernel, rfl⟩
theorem eX0_sit_89 : Dn cX0_sit 89 (.aload_n 1) 1 90 := ⟨by decide +kernel, rfl⟩
theorem eX0_sit_90 : Dn cX0_sit 90 (.aload_n 2) 1 91 := ⟨by decide +kernel, rfl⟩
theorem eX0_sit_91 : Dn cX0_sit 91 (.getfield 57) 3 94 := ⟨by decide +kernel, rfl⟩
theorem eX0_sit_94 : Dn cX0_sit 94 (.iload 5) 2 96 := ⟨by decide +kernel, rfl⟩
theorem eX0_sit_96 : Dn cX0_sit 96 (.iload 4) 2 98 := ⟨by decide +kernel, rfl⟩
theorem eX0_sit_98 : Dn cX0_sit 98 (.invokevirtual 60) 3 101 := ⟨by decide +kernel, rfl⟩
theorem eX0_sit_101 : Dn cX0_sit 101 (.iastore) 1 102 := ⟨by decide +kernel, rfl⟩
theorem eX0_sit_102 : Dn cX0_sit 102 (.aload_n 0) 1 103 := ⟨by decide +kernel, rfl⟩
theorem eX0_sit_103 : Dn cX0_sit 103 (.getfield 21) 3 106 := ⟨by decide +kernel, rfl⟩
theorem eX0_sit_106 : Dn cX0_sit 106 (.aload_n 0) 1 107 := ⟨by decide +kernel, rfl⟩
theorem eX0_sit_107 : Dn cX0_sit 107 (.getfield 34) 3 110 := ⟨by decide +kernel, rfl⟩
theorem eX0_sit_110 : Dn cX0_sit 110 (.aload_n 1) 1 111 := ⟨by decide +kernel, rfl⟩
theorem eX0_sit_111 : Dn cX0_sit 111 (.getfield 64) 3 114 := ⟨by decide +kernel, rfl⟩
theorem eX0_sit_114 : Dn cX0_sit 114 (.iload 5) 2 116 := ⟨by decide +kernel, rfl⟩
theorem eX0_sit_116 : Dn cX0_sit 116 (.iaload) 1 117 := ⟨by decide +kernel, rfl⟩
theorem eX0_sit_117 : Dn cX0_sit 117 (.iastore) 1 118 := ⟨by decide +kernel, rfl⟩
theorem eX0_sit_118 : Dn cX0_sit 118 (.aload_n 0) 1 119 := ⟨by decide +kernel, rfl⟩
theorem eX0_sit_119 : Dn cX0_sit 119 (.getfield 24) 3 122 := ⟨by decide +kernel, rfl⟩
theorem eX0_sit_122 : Dn cX0_sit 122 (.aload_n 0) 1 123 := ⟨by decide +kernel, rfl⟩
theorem eX0_sit_123 : Dn cX0_sit 123 (.getfield 34) 3 126 := ⟨by decide +kernel, rfl⟩
theorem eX0_sit_126 : Dn cX0_sit 126 (.aload_n 1) 1 127 := ⟨by decide +kernel, rfl⟩
theorem eX0_sit_127 : Dn cX0_sit 127 (.getfield 65) 3 130 := ⟨by decide +kernel, rfl⟩
theorem eX0_sit_130 : Dn cX0_sit 130 (.iload 5) 2 132 := ⟨by decide +kernel, rfl⟩
theorem eX0_sit_132 : Dn cX0_sit 132 (.iaload) 1 133 := ⟨by decide +kernel, rfl⟩
theorem eX0_sit_133 : Dn cX0_sit 133 (.iastore) 1 134 := ⟨by decide +kernel, rfl⟩
theorem eX0_sit_134 : Dn cX0_sit 134 (.aload_n 0) 1 135 := ⟨by decide +kernel, rfl⟩
theorem eX0_sit_135 : Dn cX0_sit 135 (.getfield 27) 3 138 := ⟨by decide +kernel, rfl⟩
theorem eX0_sit_138 : Dn cX0_sit 138 (.aload_n 0) 1 139 := ⟨by decide +kernel, rfl⟩
theorem eX0_sit_139 : Dn cX0_sit 139 (.getfield 34) 3 142 := ⟨by decide +kernel, rfl⟩
theorem eX0_sit_142 : Dn cX0_sit 142 (.aload_n 1) 1 143 := ⟨by decide +kernel, rfl⟩
theorem eX0_sit_143 : Dn cX0_sit 143 (.getfield 66) 3 146 := ⟨by decide +kernel, rfl⟩
theorem eX0_sit_146 : Dn cX0_sit 146 (.iload 5) 2 148 := ⟨by decide +kernel, rfl⟩
theorem eX0_sit_148 : Dn cX0_sit 148 (.iaload) 1 149 := ⟨by decide +kernel, rfl⟩
theorem eX0_sit_149 : Dn cX0_sit 149 (.iastore) 1 150 := ⟨by decide +kernel, rfl⟩
theorem eX0_sit_150 : Dn cX0_sit 150 (.aload_n 0) 1 151 := ⟨by decide +kernel, rfl⟩
theorem eX0_sit_151 : Dn cX0_sit 151 (.dup) 1 152 := ⟨by decide +kernel, rfl⟩
theorem eX0_sit_152 : Dn cX0_sit 152 (.getfield 34) 3 155 := ⟨by decide +kernel, rfl⟩
theorem eX0_sit_155 : Dn cX0_sit 155 (.iconst 1) 1 156 := ⟨by decide +kernel, rfl⟩
theorem eX0_sit_156 : Dn cX0_sit 156 (.iadd) 1 157 := ⟨by decide +kernel, rfl⟩
theorem eX0_sit_157 : Dn cX0_sit 157 (.putfield 34) 3 160 := ⟨by decide +kernel, rfl⟩
theorem eX0_sit_160 : Dn cX0_sit 160 (.iinc 5 1) 3 163 := ⟨by decide +kernel, rfl⟩
theorem eX0_sit_163 : Dn cX0_sit 163 (.goto (-134)) 3 166 := ⟨by decide +kernel, rfl⟩
theorem eX0_sit_166 : Dn cX0_sit 166 (.return_) 1 167 := ⟨by decide +kernel, rfl⟩
theorem eX0_leave_0 : Dn cX0_leave 0 (.iconst 0) 1 1 := ⟨by decide +kernel, rfl⟩
theorem eX0_leave_1 : Dn cX0_leave 1 (.istore_n 3) 1 2 := ⟨by decide +kernel, rfl⟩
theorem eX0_leave_2 : Dn cX0_leave 2 (.iload_n 3) 1 3 := ⟨by decide +kernel, rfl⟩
theorem eX0_leave_3 : Dn cX0_leave 3 (.aload_n 0) 1 4 := ⟨by decide +kernel, rfl⟩
theorem eX0_leave_4 : Dn cX0_leave 4 (.getfield 34) 3 7 := ⟨by decide +kernel, rfl⟩
theorem eX0_leave_7 : Dn cX0_leave 7 (.if_icmp .ge 31) 3 10 := ⟨by decide +kernel, rfl⟩
theorem eX0_leave_10 : Dn cX0_leave 10 (.aload_n 1) 1 11 := ⟨by decide +kernel, rfl⟩
theorem eX0_leave_11 : Dn cX0_leave 11 (.getfield 57) 3 14 := ⟨by decide +kernel, rfl⟩
theorem eX0_leave_14 : Dn cX0_leave 14 (.aload_n 0) 1 15 := ⟨by decide +kernel, rfl⟩
theorem eX0_leave_15 : Dn cX0_leave 15 (.getfield 9) 3 18 := ⟨by decide +kernel, rfl⟩
theorem eX0_leave_18 : Dn cX0_leave 18 (.iload_n 3) 1 19 := ⟨by decide +kernel, rfl⟩
theorem eX0_leave_19 : Dn cX0_leave 19 (.iaload) 1 20 := ⟨by decide +kernel, rfl⟩
theorem eX0_leave_20 : Dn cX0_leave 20 (.bipush 6) 2 22 := ⟨by decide +kernel, rfl⟩
theorem eX0_leave_22 : Dn cX0_leave 22 (.imul) 1 23 := ⟨by decide +kernel, rfl⟩
theorem eX0_leave_23 : Dn cX0_leave 23 (.iload_n 2) 1 24 := ⟨by decide +kernel, rfl⟩
theorem eX0_leave_24 : Dn cX0_leave 24 (.iadd) 1 25 := ⟨by decide +kernel, rfl⟩
theorem eX0_leave_25 : Dn cX0_leave 25 (.aload_n 0) 1 26 := ⟨by decide +kernel, rfl⟩
theorem eX0_leave_26 : Dn cX0_leave 26 (.getfield 15) 3 29 := ⟨by decide +kernel, rfl⟩
theorem eX0_leave_29 : Dn cX0_leave 29 (.iload_n 3) 1 30 := ⟨by decide +kernel, rfl⟩
theorem eX0_leave_30 : Dn cX0_leave 30 (.iaload) 1 31 := ⟨by decide +kernel, rfl⟩
theorem eX0_leave_31 : Dn cX0_leave 31 (.iastore) 1 32 := ⟨by decide +kernel, rfl⟩
theorem eX0_leave_32 : Dn cX0_leave 32 (.iinc 3 1) 3 35 := ⟨by decide +kernel, rfl⟩
theorem eX0_leave_35 : Dn cX0_leave 35 (.goto (-33)) 3 38 := ⟨by decide +kernel, rfl⟩
theorem eX0_leave_38 : Dn cX0_leave 38 (.aload_n 1) 1 39 := ⟨by decide +kernel, rfl⟩
theorem eX0_leave_39 : Dn cX0_leave 39 (.aload_n 0) 1 40 := ⟨by decide +kernel, rfl⟩
theorem eX0_leave_40 : Dn cX0_leave 40 (.getfield 51) 3 43 := ⟨by decide +kernel, rfl⟩
theorem eX0_leave_43 : Dn cX0_leave 43 (.putfield 48) 3 46 := ⟨by decide +kernel, rfl⟩
theorem eX0_leave_46 : Dn cX0_leave 46 (.return_) 1 47 := ⟨by decide +kernel, rfl⟩
theorem eX0_code_0 : Dn cX0_code 0 (.iconst 0) 1 1 := ⟨by decide +kernel, rfl⟩
theorem eX0_code_1 : Dn cX0_code 1 (.istore_n 1) 1 2 := ⟨by decide +kernel, rfl⟩
theorem eX0_code_2 : Dn cX0_code 2 (.aload_n 0) 1 3 := ⟨by decide +kernel, rfl⟩
theorem eX0_code_3 : Dn cX0_code 3 (.getfield 34) 3 6 := ⟨by decide +kernel, rfl⟩
theorem eX0_code_6 : Dn cX0_code 6 (.iconst 1) 1 7 := ⟨by decide +kernel, rfl⟩
theorem eX0_code_7 : Dn cX0_code 7 (.isub) 1 8 := ⟨by decide +kernel, rfl⟩
theorem eX0_code_8 : Dn cX0_code 8 (.istore_n 2) 1 9 := ⟨by decide +kernel, rfl⟩
theorem eX0_code_9 : Dn cX0_code 9 (.iload_n 2) 1 10 := ⟨by decide +kernel, rfl⟩
theorem eX0_code_10 : Dn cX0_code 10 (.ifCond .lt 21) 3 13 := ⟨by decide +kernel, rfl⟩
theorem eX0_code_13 : Dn cX0_code 13 (.iload_n 1) 1 14 := ⟨by decide +kernel, rfl⟩
theorem eX0_code_14 : Dn cX0_code 14 (.bipush 10) 2 16 := ⟨by decide +kernel, rfl⟩
theorem eX0_code_16 : Dn cX0_code 16 (.imul) 1 17 := ⟨by decide +kernel, rfl⟩
theorem eX0_code_17 : Dn cX0_code 17 (.aload_n 0) 1 18 := ⟨by decide +kernel, rfl⟩
theorem eX0_code_18 : Dn cX0_code 18 (.getfield 15) 3 21 := ⟨by decide +kernel, rfl⟩
theorem eX0_code_21 : Dn cX0_code 21 (.iload_n 2) 1 22 := ⟨by decide +kernel, rfl⟩
theorem eX0_code_22 : Dn cX0_code 22 (.iaload) 1 23 := ⟨by decide +kernel, rfl⟩
theorem eX0_code_23 : Dn cX0_code 23 (.iadd) 1 24 := ⟨by decide +kernel, rfl⟩
theorem eX0_code_24 : Dn cX0_code 24 (.istore_n 1) 1 25 := ⟨by decide +kernel, rfl⟩
theorem eX0_code_25 : Dn cX0_code 25 (.iinc 2 (-1)) 3 28 := ⟨by decide +kernel, rfl⟩
theorem eX0_code_28 : Dn cX0_code 28 (.goto (-19)) 3 31 := ⟨by decide +kernel, rfl⟩
theorem eX0_code_31 : Dn cX0_code 31 (.iload_n 1) 1 32 := ⟨by decide +kernel, rfl⟩
theorem eX0_code_32 : Dn cX0_code 32 (.ireturn) 1 33 := ⟨by decide +kernel, rfl⟩
theorem eX0_setLevels_0 : Dn cX0_setLevels 0 (.iload_n 1) 1 1 := ⟨by decide +kernel, rfl⟩
theorem eX0_setLevels_1 : Dn cX0_setLevels 1 (.istore_n 2) 1 2 := ⟨by decide +kernel, rfl⟩
theorem eX0_setLevels_2 : Dn cX0_setLevels 2 (.iconst 0) 1 3 := ⟨by decide +kernel, rfl⟩
theorem eX0_setLevels_3 : Dn cX0_setLevels 3 (.istore_n 3) 1 4 := ⟨by decide +kernel, rfl⟩
theorem eX0_setLevels_4 : Dn cX0_setLevels 4 (.iload_n 3) 1 5 := ⟨by decide +kernel, rfl⟩
theorem eX0_setLevels_5 : Dn cX0_setLevels 5 (.aload_n 0) 1 6 := ⟨by decide +kernel, rfl⟩
theorem eX0_setLevels_6 : Dn cX0_setLevels 6 (.getfield 34) 3 9 := ⟨by decide +kernel, rfl⟩
theorem eX0_setLevels_9 : Dn cX0_setLevels 9 (.if_icmp .ge 24) 3 12 := ⟨by decide +kernel, rfl⟩
theorem eX0_setLevels_12 : Dn cX0_setLevels 12 (.aload_n 0) 1 13 := ⟨by decide +kernel, rfl⟩
theorem eX0_setLevels_13 : Dn cX0_setLevels 13 (.getfield 15) 3 16 := ⟨by decide +kernel, rfl⟩
theorem eX0_setLevels_16 : Dn cX0_setLevels 16 (.iload_n 3) 1 17 := ⟨by decide +kernel, rfl⟩
theorem eX0_setLevels_17 : Dn cX0_setLevels 17 (.iload_n 2) 1 18 := ⟨by decide +kernel, rfl⟩
theorem eX0_setLevels_18 : Dn cX0_setLevels 18 (.bipush 10) 2 20 := ⟨by decide +kernel, rfl⟩
theorem eX0_setLevels_20 : Dn cX0_setLevels 20 (.irem) 1 21 := ⟨by decide +kernel, rfl⟩
theorem eX0_setLevels_21 : Dn cX0_setLevels 21 (.iastore) 1 22 := ⟨by decide +kernel, rfl⟩
theorem eX0_setLevels_22 : Dn cX0_setLevels 22 (.iload_n 2) 1 23 := ⟨by decide +kernel, rfl⟩
theorem eX0_setLevels_23 : Dn cX0_setLevels 23 (.bipush 10) 2 25 := ⟨by decide +kernel, rfl⟩
theorem eX0_setLevels_25 : Dn cX0_setLevels 25 (.idiv) 1 26 := ⟨by decide +kernel, rfl⟩
theorem eX0_setLevels_26 : Dn cX0_setLevels 26 (.istore_n 2) 1 27 := ⟨by decide +kernel, rfl⟩
theorem eX0_setLevels_27 : Dn cX0_setLevels 27 (.iinc 3 1) 3 30 := ⟨by decide +kernel, rfl⟩
theorem eX0_setLevels_30 : Dn cX0_setLevels 30 (.goto (-26)) 3 33 := ⟨by decide +kernel, rfl⟩
theorem eX0_setLevels_33 : Dn cX0_setLevels 33 (.return_) 1 34 := ⟨by decide +kernel, rfl⟩
theorem eX0_room_0 : Dn cX0_room 0 (.iconst 0) 1 1 := ⟨by decide +kernel, rfl⟩
theorem eX0_room_1 : Dn cX0_room 1 (.aload_n 0) 1 2 := ⟨by decide +kernel, rfl⟩
theorem eX0_room_2 : Dn cX0_room 2 (.getfield 18) 3 5 := ⟨by decide +kernel, rfl⟩
theorem eX0_room_5 : Dn cX0_room 5 (.iload_n 1) 1 6 := ⟨by decide +kernel, rfl⟩
theorem eX0_room_6 : Dn cX0_room 6 (.iaload) 1 7 := ⟨by decide +kernel, rfl⟩
theorem eX0_room_7 : Dn cX0_room 7 (.aload_n 0) 1 8 := ⟨by decide +kernel, rfl⟩
theorem eX0_room_8 : Dn cX0_room 8 (.getfield 15) 3 11 := ⟨by decide +kernel, rfl⟩
theorem eX0_room_11 : Dn cX0_room 11 (.iload_n 1) 1 12 := ⟨by decide +kernel, rfl⟩
theorem eX0_room_12 : Dn cX0_room 12 (.iaload) 1 13 := ⟨by decide +kernel, rfl⟩
theorem eX0_room_13 : Dn cX0_room 13 (.isub) 1 14 := ⟨by decide +kernel, rfl⟩
theorem eX0_room_14 : Dn cX0_room 14 (.invokestatic 67) 3 17 := ⟨by decide +kernel, rfl⟩
theorem eX0_room_17 : Dn cX0_room 17 (.ireturn) 1 18 := ⟨by decide +kernel, rfl⟩
theorem eX0_rise_0 : Dn cX0_rise 0 (.aload_n 0) 1 1 := ⟨by decide +kernel, rfl⟩
theorem eX0_rise_1 : Dn cX0_rise 1 (.getfield 15) 3 4 := ⟨by decide +kernel, rfl⟩
theorem eX0_rise_4 : Dn cX0_rise 4 (.iload_n 1) 1 5 := ⟨by decide +kernel, rfl⟩
theorem eX0_rise_5 : Dn cX0_rise 5 (.iaload) 1 6 := ⟨by decide +kernel, rfl⟩
theorem eX0_rise_6 : Dn cX0_rise 6 (.aload_n 0) 1 7 := ⟨by decide +kernel, rfl⟩
theorem eX0_rise_7 : Dn cX0_rise 7 (.getfield 18) 3 10 := ⟨by decide +kernel, rfl⟩
theorem eX0_rise_10 : Dn cX0_rise 10 (.iload_n 1) 1 11 := ⟨by decide +kernel, rfl⟩
theorem eX0_rise_11 : Dn cX0_rise 11 (.iaload) 1 12 := ⟨by decide +kernel, rfl⟩
theorem eX0_rise_12 : Dn cX0_rise 12 (.if_icmp .ge 43) 3 15 := ⟨by decide +kernel, rfl⟩
theorem eX0_rise_15 : Dn cX0_rise 15 (.aload_n 0) 1 16 := ⟨by decide +kernel, rfl⟩
theorem eX0_rise_16 : Dn cX0_rise 16 (.getfield 15) 3 19 := ⟨by decide +kernel, rfl⟩
theorem eX0_rise_19 : Dn cX0_rise 19 (.iload_n 1) 1 20 := ⟨by decide +kernel, rfl⟩
theorem eX0_rise_20 : Dn cX0_rise 20 (.aload_n 0) 1 21 := ⟨by decide +kernel, rfl⟩
theorem eX0_rise_21 : Dn cX0_rise 21 (.getfield 15) 3 24 := ⟨by decide +kernel, rfl⟩
theorem eX0_rise_24 : Dn cX0_rise 24 (.iload_n 1) 1 25 := ⟨by decide +kernel, rfl⟩
theorem eX0_rise_25 : Dn cX0_rise 25 (.iaload) 1 26 := ⟨by decide +kernel, rfl⟩
theorem eX0_rise_26 : Dn cX0_rise 26 (.iload_n 2) 1 27 := ⟨by decide +kernel, rfl⟩
theorem eX0_rise_27 : Dn cX0_rise 27 (.iadd) 1 28 := ⟨by decide +kernel, rfl⟩
theorem eX0_rise_28 : Dn cX0_rise 28 (.aload_n 0) 1 29 := ⟨by decide +kernel, rfl⟩
theorem eX0_rise_29 : Dn cX0_rise 29 (.getfield 18) 3 32 := ⟨by decide +kernel, rfl⟩
theorem eX0_rise_32 : Dn cX0_rise 32 (.iload_n 1) 1 33 := ⟨by decide +kernel, rfl⟩
theorem eX0_rise_33 : Dn cX0_rise 33 (.iaload) 1 34 := ⟨by decide +kernel, rfl⟩
theorem eX0_rise_34 : Dn cX0_rise 34 (.if_icmp .ge 14) 3 37 := ⟨by decide +kernel, rfl⟩
theorem eX0_rise_37 : Dn cX0_rise 37 (.aload_n 0) 1 38 := ⟨by decide +kernel, rfl⟩
theorem eX0_rise_38 : Dn cX0_rise 38 (.getfield 15) 3 41 := ⟨by decide +kernel, rfl⟩
theorem eX0_rise_41 : Dn cX0_rise 41 (.iload_n 1) 1 42 := ⟨by decide +kernel, rfl⟩
theorem eX0_rise_42 : Dn cX0_rise 42 (.iaload) 1 43 := ⟨by decide +kernel, rfl⟩
theorem eX0_rise_43 : Dn cX0_rise 43 (.iload_n 2) 1 44 := ⟨by decide +kernel, rfl⟩
theorem eX0_rise_44 : Dn cX0_rise 44 (.iadd) 1 45 := ⟨by decide +kernel, rfl⟩
theorem eX0_rise_45 : Dn cX0_rise 45 (.goto 9) 3 48 := ⟨by decide +kernel, rfl⟩
theorem eX0_rise_48 : Dn cX0_rise 48 (.aload_n 0) 1 49 := ⟨by decide +kernel, rfl⟩
theorem eX0_rise_49 : Dn cX0_rise 49 (.getfield 18) 3 52 := ⟨by decide +kernel, rfl⟩
theorem eX0_rise_52 : Dn cX0_rise 52 (.iload_n 1) 1 53 := ⟨by decide +kernel, rfl⟩
theorem eX0_rise_53 : Dn cX0_rise 53 (.iaload) 1 54 := ⟨by decide +kernel, rfl⟩
theorem eX0_rise_54 : Dn cX0_rise 54 (.iastore) 1 55 := ⟨by decide +kernel, rfl⟩
theorem eX0_rise_55 : Dn cX0_rise 55 (.return_) 1 56 := ⟨by decide +kernel, rfl⟩
theorem eX0_knowing_0 : Dn cX0_knowing 0 (.iconst 0) 1 1 := ⟨by decide +kernel, rfl⟩
theorem eX0_knowing_1 : Dn cX0_knowing 1 (.istore_n 1) 1 2 := ⟨by decide +kernel, rfl⟩
theorem eX0_knowing_2 : Dn cX0_knowing 2 (.iconst 0) 1 3 := ⟨by decide +kernel, rfl⟩
theorem eX0_knowing_3 : Dn cX0_knowing 3 (.istore_n 2) 1 4 := ⟨by decide +kernel, rfl⟩
theorem eX0_knowing_4 : Dn cX0_knowing 4 (.iload_n 2) 1 5 := ⟨by decide +kernel, rfl⟩
theorem eX0_knowing_5 : Dn cX0_knowing 5 (.aload_n 0) 1 6 := ⟨by decide +kernel, rfl⟩
theorem eX0_knowing_6 : Dn cX0_knowing 6 (.getfield 34) 3 9 := ⟨by decide +kernel, rfl⟩
theorem eX0_knowing_9 : Dn cX0_knowing 9 (.if_icmp .ge 28) 3 12 := ⟨by decide +kernel, rfl⟩
theorem eX0_knowing_12 : Dn cX0_knowing 12 (.iload_n 1) 1 13 := ⟨by decide +kernel, rfl⟩
theorem eX0_knowing_13 : Dn cX0_knowing 13 (.aload_n 0) 1 14 := ⟨by decide +kernel, rfl⟩
theorem eX0_knowing_14 : Dn cX0_knowing 14 (.getfield 15) 3 17 := ⟨by decide +kernel, rfl⟩
theorem eX0_knowing_17 : Dn cX0_knowing 17 (.iload_n 2) 1 18 := ⟨by decide +kernel, rfl⟩
theorem eX0_knowing_18 : Dn cX0_knowing 18 (.iaload) 1 19 := ⟨by decide +kernel, rfl⟩
theorem eX0_knowing_19 : Dn cX0_knowing 19 (.bipush 9) 2 21 := ⟨by decide +kernel, rfl⟩
theorem eX0_knowing_21 : Dn cX0_knowing 21 (.if_icmp .ne 7) 3 24 := ⟨by decide +kernel, rfl⟩
theorem eX0_knowing_24 : Dn cX0_knowing 24 (.iconst 1) 1 25 := ⟨by decide +kernel, rfl⟩
theorem eX0_knowing_25 : Dn cX0_knowing 25 (.goto 4) 3 28 := ⟨by decide +kernel, rfl⟩
theorem eX0_knowing_28 : Dn cX0_knowing 28 (.iconst 0) 1 29 := ⟨by decide +kernel, rfl⟩
theorem eX0_knowing_29 : Dn cX0_knowing 29 (.iadd) 1 30 := ⟨by decide +kernel, rfl⟩
theorem eX0_knowing_30 : Dn cX0_knowing 30 (.istore_n 1) 1 31 := ⟨by decide +kernel, rfl⟩
theorem eX0_knowing_31 : Dn cX0_knowing 31 (.iinc 2 1) 3 34 := ⟨by decide +kernel, rfl⟩
theorem eX0_knowing_34 : Dn cX0_knowing 34 (.goto (-30)) 3 37 := ⟨by decide +kernel, rfl⟩
theorem eX0_knowing_37 : Dn cX0_knowing 37 (.iload_n 1) 1 38 := ⟨by decide +kernel, rfl⟩
theorem eX0_knowing_38 : Dn cX0_knowing 38 (.ireturn) 1 39 := ⟨by decide +kernel, rfl⟩
theorem eX0_isBarred_0 : Dn cX0_isBarred 0 (.iconst 0) 1 1 := ⟨by decide +kernel, rfl⟩
theorem eX0_isBarred_1 : Dn cX0_isBarred 1 (.istore_n 1) 1 2 := ⟨by decide +kernel, rfl⟩
theorem eX0_isBarred_2 : Dn cX0_isBarred 2 (.iload_n 1) 1 3 := ⟨by decide +kernel, rfl⟩
theorem eX0_isBarred_3 : Dn cX0_isBarred 3 (.aload_n 0) 1 4 := ⟨by decide +kernel, rfl⟩
theorem eX0_isBarred_4 : Dn cX0_isBarred 4 (.getfield 34) 3 7 := ⟨by decide +kernel, rfl⟩
theorem eX0_isBarred_7 : Dn cX0_isBarred 7 (.if_icmp .ge 33) 3 10 := ⟨by decide +kernel, rfl⟩
theorem eX0_isBarred_10 : Dn cX0_isBarred 10 (.aload_n 0) 1 11 := ⟨by decide +kernel, rfl⟩
theorem eX0_isBarred_11 : Dn cX0_isBarred 11 (.getfield 15) 3 14 := ⟨by decide +kernel, rfl⟩
theorem eX0_isBarred_14 : Dn cX0_isBarred 14 (.iload_n 1) 1 15 := ⟨by decide +kernel, rfl⟩
theorem eX0_isBarred_15 : Dn cX0_isBarred 15 (.iaload) 1 16 := ⟨by decide +kernel, rfl⟩
theorem eX0_isBarred_16 : Dn cX0_isBarred 16 (.bipush 9) 2 18 := ⟨by decide +kernel, rfl⟩
theorem eX0_isBarred_18 : Dn cX0_isBarred 18 (.if_icmp .ge 16) 3 21 := ⟨by decide +kernel, rfl⟩
theorem eX0_isBarred_21 : Dn cX0_isBarred 21 (.aload_n 0) 1 22 := ⟨by decide +kernel, rfl⟩
theorem eX0_isBarred_22 : Dn cX0_isBarred 22 (.getfield 18) 3 25 := ⟨by decide +kernel, rfl⟩
theorem eX0_isBarred_25 : Dn cX0_isBarred 25 (.iload_n 1) 1 26 := ⟨by decide +kernel, rfl⟩
theorem eX0_isBarred_26 : Dn cX0_isBarred 26 (.iaload) 1 27 := ⟨by decide +kernel, rfl⟩
theorem eX0_isBarred_27 : Dn cX0_isBarred 27 (.bipush 9) 2 29 := ⟨by decide +kernel, rfl⟩
theorem eX0_isBarred_29 : Dn cX0_isBarred 29 (.if_icmp .ge 5) 3 32 := ⟨by decide +kernel, rfl⟩
theorem eX0_isBarred_32 : Dn cX0_isBarred 32 (.iconst 1) 1 33 := ⟨by decide +kernel, rfl⟩
theorem eX0_isBarred_33 : Dn cX0_isBarred 33 (.ireturn) 1 34 := ⟨by decide +kernel, rfl⟩
theorem eX0_isBarred_34 : Dn cX0_isBarred 34 (.iinc 1 1) 3 37 := ⟨by decide +kernel, rfl⟩
theorem eX0_isBarred_37 : Dn cX0_isBarred 37 (.goto (-35)) 3 40 := ⟨by decide +kernel, rfl⟩
theorem eX0_isBarred_40 : Dn cX0_isBarred 40 (.iconst 0) 1 41 := ⟨by decide +kernel, rfl⟩
theorem eX0_isBarred_41 : Dn cX0_isBarred 41 (.ireturn) 1 42 := ⟨by decide +kernel, rfl⟩
theorem eX0_after_0 : Dn cX0_after 0 (.iload_n 1) 1 1 := ⟨by decide +kernel, rfl⟩
theorem eX0_after_1 : Dn cX0_after 1 (.iconst 1) 1 2 := ⟨by decide +kernel, rfl⟩
theorem eX0_after_2 : Dn cX0_after 2 (.iadd) 1 3 := ⟨by decide +kernel, rfl⟩
theorem eX0_after_3 : Dn cX0_after 3 (.aload_n 0) 1 4 := ⟨by decide +kernel, rfl⟩
theorem eX0_after_4 : Dn cX0_after 4 (.getfield 34) 3 7 := ⟨by decide +kernel, rfl⟩
theorem eX0_after_7 : Dn cX0_after 7 (.if_icmp .ge 9) 3 10 := ⟨by decide +kernel, rfl⟩
theorem eX0_after_10 : Dn cX0_after 10 (.iload_n 1) 1 11 := ⟨by decide +kernel, rfl⟩
theorem eX0_after_11 : Dn cX0_after 11 (.iconst 1) 1 12 := ⟨by decide +kernel, rfl⟩
theorem eX0_after_12 : Dn cX0_after 12 (.iadd) 1 13 := ⟨by decide +kernel, rfl⟩
theorem eX0_after_13 : Dn cX0_after 13 (.goto 4) 3 16 := ⟨by decide +kernel, rfl⟩
theorem eX0_after_16 : Dn cX0_after 16 (.iconst 0) 1 17 := ⟨by decide +kernel, rfl⟩
theorem eX0_after_17 : Dn cX0_after 17 (.ireturn) 1 18 := ⟨by decide +kernel, rfl⟩
theorem eX0_chosen_0 : Dn cX0_chosen 0 (.iload_n 1) 1 1 := ⟨by decide +kernel, rfl⟩
theorem eX0_chosen_1 : Dn cX0_chosen 1 (.ifCond .ne 10) 3 4 := ⟨by decide +kernel, rfl⟩
theorem eX0_chosen_4 : Dn cX0_chosen 4 (.aload_n 0) 1 5 := ⟨by decide +kernel, rfl⟩
theorem eX0_chosen_5 : Dn cX0_chosen 5 (.iconst (-1)) 1 6 := ⟨by decide +kernel, rfl⟩
theorem eX0_chosen_6 : Dn cX0_chosen 6 (.iconst 0) 1 7 := ⟨by decide +kernel, rfl⟩
theorem eX0_chosen_7 : Dn cX0_chosen 7 (.invokevirtual 73) 3 10 := ⟨by decide +kernel, rfl⟩
theorem eX0_chosen_10 : Dn cX0_chosen 10 (.ireturn) 1 11 := ⟨by decide +kernel, rfl⟩
theorem eX0_chosen_11 : Dn cX0_chosen 11 (.iload_n 1) 1 12 := ⟨by decide +kernel, rfl⟩
theorem eX0_chosen_12 : Dn cX0_chosen 12 (.iconst 1) 1 13 := ⟨by decide +kernel, rfl⟩
theorem eX0_chosen_13 : Dn cX0_chosen 13 (.if_icmp .ne 7) 3 16 := ⟨by decide +kernel, rfl⟩
theorem eX0_chosen_16 : Dn cX0_chosen 16 (.iload_n 2) 1 17 := ⟨by decide +kernel, rfl⟩
theorem eX0_chosen_17 : Dn cX0_chosen 17 (.goto 9) 3 20 := ⟨by decide +kernel, rfl⟩
theorem eX0_chosen_20 : Dn cX0_chosen 20 (.aload_n 0) 1 21 := ⟨by decide +kernel, rfl⟩
theorem eX0_chosen_21 : Dn cX0_chosen 21 (.bipush 9) 2 23 := ⟨by decide +kernel, rfl⟩
theorem eX0_chosen_23 : Dn cX0_chosen 23 (.invokevirtual 76) 3 26 := ⟨by decide +kernel, rfl⟩
theorem eX0_chosen_26 : Dn cX0_chosen 26 (.ireturn) 1 27 := ⟨by decide +kernel, rfl⟩
theorem eX0_least_0 : Dn cX0_least 0 (.iconst 0) 1 1 := ⟨by decide +kernel, rfl⟩
theorem eX0_least_1 : Dn cX0_least 1 (.istore_n 3) 1 2 := ⟨by decide +kernel, rfl⟩
theorem eX0_least_2 : Dn cX0_least 2 (.bipush 10) 2 4 := ⟨by decide +kernel, rfl⟩
theorem eX0_least_4 : Dn cX0_least 4 (.istore 4) 2 6 := ⟨by decide +kernel, rfl⟩
theorem eX0_least_6 : Dn cX0_least 6 (.iconst 0) 1 7 := ⟨by decide +kernel, rfl⟩
theorem eX0_least_7 : Dn cX0_least 7 (.istore 5) 2 9 := ⟨by decide +kernel, rfl⟩
theorem eX0_least_9 : Dn cX0_least 9 (.iload 5) 2 11 := ⟨by decide +kernel, rfl⟩
theorem eX0_least_11 : Dn cX0_least 11 (.aload_n 0) 1 12 := ⟨by decide +kernel, rfl⟩
theorem eX0_least_12 : Dn cX0_least 12 (.getfield 34) 3 15 := ⟨by decide +kernel, rfl⟩
theorem eX0_least_15 : Dn cX0_least 15 (.if_icmp .ge 50) 3 18 := ⟨by decide +kernel, rfl⟩
theorem eX0_least_18 : Dn cX0_least 18 (.iload 5) 2 20 := ⟨by decide +kernel, rfl⟩
theorem eX0_least_20 : Dn cX0_least 20 (.iload_n 1) 1 21 := ⟨by decide +kernel, rfl⟩
theorem eX0_least_21 : Dn cX0_least 21 (.if_icmp .ne 15) 3 24 := ⟨by decide +kernel, rfl⟩
theorem eX0_least_24 : Dn cX0_least 24 (.aload_n 0) 1 25 := ⟨by decide +kernel, rfl⟩
theorem eX0_least_25 : Dn cX0_least 25 (.getfield 15) 3 28 := ⟨by decide +kernel, rfl⟩
theorem eX0_least_28 : Dn cX0_least 28 (.iload 5) 2 30 := ⟨by decide +kernel, rfl⟩
theorem eX0_least_30 : Dn cX0_least 30 (.iaload) 1 31 := ⟨by decide +kernel, rfl⟩
theorem eX0_least_31 : Dn cX0_least 31 (.iload_n 2) 1 32 := ⟨by decide +kernel, rfl⟩
theorem eX0_least_32 : Dn cX0_least 32 (.isub) 1 33 := ⟨by decide +kernel, rfl⟩
theorem eX0_least_33 : Dn cX0_least 33 (.goto 10) 3 36 := ⟨by decide +kernel, rfl⟩
theorem eX0_least_36 : Dn cX0_least 36 (.aload_n 0) 1 37 := ⟨by decide +kernel, rfl⟩
theorem eX0_least_37 : Dn cX0_least 37 (.getfield 15) 3 40 := ⟨by decide +kernel, rfl⟩
theorem eX0_least_40 : Dn cX0_least 40 (.iload 5) 2 42 := ⟨by decide +kernel, rfl⟩
theorem eX0_least_42 : Dn cX0_least 42 (.iaload) 1 43 := ⟨by decide +kernel, rfl⟩
theorem eX0_least_43 : Dn cX0_least 43 (.istore 6) 2 45 := ⟨by decide +kernel, rfl⟩
theorem eX0_least_45 : Dn cX0_least 45 (.iload 6) 2 47 := ⟨by decide +kernel, rfl⟩
theorem eX0_least_47 : Dn cX0_least 47 (.iload 4) 2 49 := ⟨by decide +kernel, rfl⟩
theorem eX0_least_49 : Dn cX0_least 49 (.if_icmp .ge 10) 3 52 := ⟨by decide +kernel, rfl⟩
theorem eX0_least_52 : Dn cX0_least 52 (.iload 5) 2 54 := ⟨by decide +kernel, rfl⟩
theorem eX0_least_54 : Dn cX0_least 54 (.istore_n 3) 1 55 := ⟨by decide +kernel, rfl⟩
theorem eX0_least_55 : Dn cX0_least 55 (.iload 6) 2 57 := ⟨by decide +kernel, rfl⟩
theorem eX0_least_57 : Dn cX0_least 57 (.istore 4) 2 59 := ⟨by decide +kernel, rfl⟩
theorem eX0_least_59 : Dn cX0_least 59 (.iinc 5 1) 3 62 := ⟨by decide +kernel, rfl⟩
theorem eX0_least_62 : Dn cX0_least 62 (.goto (-53)) 3 65 := ⟨by decide +kernel, rfl⟩
theorem eX0_least_65 : Dn cX0_least 65 (.iload_n 3) 1 66 := ⟨by decide +kernel, rfl⟩
theorem eX0_least_66 : Dn cX0_least 66 (.ireturn) 1 67 := ⟨by decide +kernel, rfl⟩
theorem eX0_greatestBelow_0 : Dn cX0_greatestBelow 0 (.iconst 0) 1 1 := ⟨by decide +kernel, rfl⟩
theorem eX0_greatestBelow_1 : Dn cX0_greatestBelow 1 (.istore_n 2) 1 2 := ⟨by decide +kernel, rfl⟩
theorem eX0_greatestBelow_2 : Dn cX0_greatestBelow 2 (.iconst (-1)) 1 3 := ⟨by decide +kernel, rfl⟩
theorem eX0_greatestBelow_3 : Dn cX0_greatestBelow 3 (.istore_n 3) 1 4 := ⟨by decide +kernel, rfl⟩
theorem eX0_greatestBelow_4 : Dn cX0_greatestBelow 4 (.iconst 0) 1 5 := ⟨by decide +kernel, rfl⟩
theorem eX0_greatestBelow_5 : Dn cX0_greatestBelow 5 (.istore 4) 2 7 := ⟨by decide +kernel, rfl⟩
theorem eX0_greatestBelow_7 : Dn cX0_greatestBelow 7 (.iload 4) 2 9 := ⟨by decide +kernel, rfl⟩
theorem eX0_greatestBelow_9 : Dn cX0_greatestBelow 9 (.aload_n 0) 1 10 := ⟨by decide +kernel, rfl⟩
theorem eX0_greatestBelow_10 : Dn cX0_greatestBelow 10 (.getfield 34) 3 13 := ⟨by decide +kernel, rfl⟩
theorem eX0_greatestBelow_13 : Dn cX0_greatestBelow 13 (.if_icmp .ge 42) 3 16 := ⟨by decide +kernel, rfl⟩
theorem eX0_greatestBelow_16 : Dn cX0_greatestBelow 16 (.aload_n 0) 1 17 := ⟨by decide +kernel, rfl⟩
theorem eX0_greatestBelow_17 : Dn cX0_greatestBelow 17 (.getfield 15) 3 20 := ⟨by decide +kernel, rfl⟩
theorem eX0_greatestBelow_20 : Dn cX0_greatestBelow 20 (.iload 4) 2 22 := ⟨by decide +kernel, rfl⟩
theorem eX0_greatestBelow_22 : Dn cX0_greatestBelow 22 (.iaload) 1 23 := ⟨by decide +kernel, rfl⟩
theorem eX0_greatestBelow_23 : Dn cX0_greatestBelow 23 (.iload_n 1) 1 24 := ⟨by decide +kernel, rfl⟩
theorem eX0_greatestBelow_24 : Dn cX0_greatestBelow 24 (.if_icmp .ge 25) 3 27 := ⟨by decide +kernel, rfl⟩
theorem eX0_greatestBelow_27 : Dn cX0_greatestBelow 27 (.aload_n 0) 1 28 := ⟨by decide +kernel, rfl⟩
theorem eX0_greatestBelow_28 : Dn cX0_greatestBelow 28 (.getfield 15) 3 31 := ⟨by decide +kernel, rfl⟩
theorem eX0_greatestBelow_31 : Dn cX0_greatestBelow 31 (.iload 4) 2 33 := ⟨by decide +kernel, rfl⟩
theorem eX0_greatestBelow_33 : Dn cX0_greatestBelow 33 (.iaload) 1 34 := ⟨by decide +kernel, rfl⟩
theorem eX0_greatestBelow_34 : Dn cX0_greatestBelow 34 (.iload_n 3) 1 35 := ⟨by decide +kernel, rfl⟩
theorem eX0_greatestBelow_35 : Dn cX0_greatestBelow 35 (.if_icmp .le 14) 3 38 := ⟨by decide +kernel, rfl⟩
theorem eX0_greatestBelow_38 : Dn cX0_greatestBelow 38 (.iload 4) 2 40 := ⟨by decide +kernel, rfl⟩
theorem eX0_greatestBelow_40 : Dn cX0_greatestBelow 40 (.istore_n 2) 1 41 := ⟨by decide +kernel, rfl⟩
theorem eX0_greatestBelow_41 : Dn cX0_greatestBelow 41 (.aload_n 0) 1 42 := ⟨by decide +kernel, rfl⟩
theorem eX0_greatestBelow_42 : Dn cX0_greatestBelow 42 (.getfield 15) 3 45 := ⟨by decide +kernel, rfl⟩
theorem eX0_greatestBelow_45 : Dn cX0_greatestBelow 45 (.iload 4) 2 47 := ⟨by decide +kernel, rfl⟩
theorem eX0_greatestBelow_47 : Dn cX0_greatestBelow 47 (.iaload) 1 48 := ⟨by decide +kernel, rfl⟩
theorem eX0_greatestBelow_48 : Dn cX0_greatestBelow 48 (.istore_n 3) 1 49 := ⟨by decide +kernel, rfl⟩
theorem eX0_greatestBelow_49 : Dn cX0_greatestBelow 49 (.iinc 4 1) 3 52 := ⟨by decide +kernel, rfl⟩
theorem eX0_greatestBelow_52 : Dn cX0_greatestBelow 52 (.goto (-45)) 3 55 := ⟨by decide +kernel, rfl⟩
theorem eX0_greatestBelow_55 : Dn cX0_greatestBelow 55 (.iload_n 2) 1 56 := ⟨by decide +kernel, rfl⟩
theorem eX0_greatestBelow_56 : Dn cX0_greatestBelow 56 (.ireturn) 1 57 := ⟨by decide +kernel, rfl⟩
theorem eX0_tell_0 : Dn cX0_tell 0 (.aload_n 0) 1 1 := ⟨by decide +kernel, rfl⟩
theorem eX0_tell_1 : Dn cX0_tell 1 (.getfield 15) 3 4 := ⟨by decide +kernel, rfl⟩
theorem eX0_tell_4 : Dn cX0_tell 4 (.aload_n 0) 1 5 := ⟨by decide +kernel, rfl⟩
theorem eX0_tell_5 : Dn cX0_tell 5 (.bipush 10) 2 7 := ⟨by decide +kernel, rfl⟩
theorem eX0_tell_7 : Dn cX0_tell 7 (.invokevirtual 76) 3 10 := ⟨by decide +kernel, rfl⟩
theorem eX0_tell_10 : Dn cX0_tell 10 (.iaload) 1 11 := ⟨by decide +kernel, rfl⟩
theorem eX0_tell_11 : Dn cX0_tell 11 (.istore_n 1) 1 12 := ⟨by decide +kernel, rfl⟩
theorem eX0_tell_12 : Dn cX0_tell 12 (.iconst 0) 1 13 := ⟨by decide +kernel, rfl⟩
theorem eX0_tell_13 : Dn cX0_tell 13 (.istore_n 2) 1 14 := ⟨by decide +kernel, rfl⟩
theorem eX0_tell_14 : Dn cX0_tell 14 (.iconst 0) 1 15 := ⟨by decide +kernel, rfl⟩
theorem eX0_tell_15 : Dn cX0_tell 15 (.istore_n 3) 1 16 := ⟨by decide +kernel, rfl⟩
theorem eX0_tell_16 : Dn cX0_tell 16 (.iload_n 3) 1 17 := ⟨by decide +kernel, rfl⟩
theorem eX0_tell_17 : Dn cX0_tell 17 (.aload_n 0) 1 18 := ⟨by decide +kernel, rfl⟩
theorem eX0_tell_18 : Dn cX0_tell 18 (.getfield 34) 3 21 := ⟨by decide +kernel, rfl⟩
theorem eX0_tell_21 : Dn cX0_tell 21 (.if_icmp .ge 40) 3 24 := ⟨by decide +kernel, rfl⟩
theorem eX0_tell_24 : Dn cX0_tell 24 (.aload_n 0) 1 25 := ⟨by decide +kernel, rfl⟩
theorem eX0_tell_25 : Dn cX0_tell 25 (.getfield 15) 3 28 := ⟨by decide +kernel, rfl⟩
theorem eX0_tell_28 : Dn cX0_tell 28 (.iload_n 3) 1 29 := ⟨by decide +kernel, rfl⟩
theorem eX0_tell_29 : Dn cX0_tell 29 (.iaload) 1 30 := ⟨by decide +kernel, rfl⟩
theorem eX0_tell_30 : Dn cX0_tell 30 (.iload_n 1) 1 31 := ⟨by decide +kernel, rfl⟩
theorem eX0_tell_31 : Dn cX0_tell 31 (.if_icmp .ge 24) 3 34 := ⟨by decide +kernel, rfl⟩
theorem eX0_tell_34 : Dn cX0_tell 34 (.aload_n 0) 1 35 := ⟨by decide +kernel, rfl⟩
theorem eX0_tell_35 : Dn cX0_tell 35 (.iload_n 3) 1 36 := ⟨by decide +kernel, rfl⟩
theorem eX0_tell_36 : Dn cX0_tell 36 (.invokevirtual 80) 3 39 := ⟨by decide +kernel, rfl⟩
theorem eX0_tell_39 : Dn cX0_tell 39 (.ifCond .le 16) 3 42 := ⟨by decide +kernel, rfl⟩
theorem eX0_tell_42 : Dn cX0_tell 42 (.aload_n 0) 1 43 := ⟨by decide +kernel, rfl⟩
theorem eX0_tell_43 : Dn cX0_tell 43 (.getfield 15) 3 46 := ⟨by decide +kernel, rfl⟩
theorem eX0_tell_46 : Dn cX0_tell 46 (.iload_n 3) 1 47 := ⟨by decide +kernel, rfl⟩
theorem eX0_tell_47 : Dn cX0_tell 47 (.dup2) 1 48 := ⟨by decide +kernel, rfl⟩
theorem eX0_tell_48 : Dn cX0_tell 48 (.iaload) 1 49 := ⟨by decide +kernel, rfl⟩
theorem eX0_tell_49 : Dn cX0_tell 49 (.iconst 1) 1 50 := ⟨by decide +kernel, rfl⟩
theorem eX0_tell_50 : Dn cX0_tell 50 (.iadd) 1 51 := ⟨by decide +kernel, rfl⟩
theorem eX0_tell_51 : Dn cX0_tell 51 (.iastore) 1 52 := ⟨by decide +kernel, rfl⟩
theorem eX0_tell_52 : Dn cX0_tell 52 (.iinc 2 1) 3 55 := ⟨by decide +kernel, rfl⟩
theorem eX0_tell_55 : Dn cX0_tell 55 (.iinc 3 1) 3 58 := ⟨by decide +kernel, rfl⟩
theorem eX0_tell_58 : Dn cX0_tell 58 (.goto (-42)) 3 61 := ⟨by decide +kernel, rfl⟩
theorem eX0_tell_61 : Dn cX0_tell 61 (.iload_n 2) 1 62 := ⟨by decide +kernel, rfl⟩
theorem eX0_tell_62 : Dn cX0_tell 62 (.ireturn) 1 63 := ⟨by decide +kernel, rfl⟩
theorem eX0_rightChance_0 : Dn cX0_rightChance 0 (.bipush 10) 2 2 := ⟨by decide +kernel, rfl⟩
theorem eX0_rightChance_2 : Dn cX0_rightChance 2 (.aload_n 0) 1 3 := ⟨by decide +kernel, rfl⟩
theorem eX0_rightChance_3 : Dn cX0_rightChance 3 (.getfield 15) 3 6 := ⟨by decide +kernel, rfl⟩
theorem eX0_rightChance_6 : Dn cX0_rightChance 6 (.iload_n 1) 1 7 := ⟨by decide +kernel, rfl⟩
theorem eX0_rightChance_7 : Dn cX0_rightChance 7 (.iaload) 1 8 := ⟨by decide +kernel, rfl⟩
theorem eX0_rightChance_8 : Dn cX0_rightChance 8 (.imul) 1 9 := ⟨by decide +kernel, rfl⟩
theorem eX0_rightChance_9 : Dn cX0_rightChance 9 (.iconst 5) 1 10 := ⟨by decide +kernel, rfl⟩
theorem eX0_rightChance_10 : Dn cX0_rightChance 10 (.iadd) 1 11 := ⟨by decide +kernel, rfl⟩
theorem eX0_rightChance_11 : Dn cX0_rightChance 11 (.ireturn) 1 12 := ⟨by decide +kernel, rfl⟩
theorem eX0_isSurer_0 : Dn cX0_isSurer 0 (.iload_n 1) 1 1 := ⟨by decide +kernel, rfl⟩
theorem eX0_isSurer_1 : Dn cX0_isSurer 1 (.iload_n 2) 1 2 := ⟨by decide +kernel, rfl⟩
theorem eX0_isSurer_2 : Dn cX0_isSurer 2 (.if_icmp .eq 22) 3 5 := ⟨by decide +kernel, rfl⟩
theorem eX0_isSurer_5 : Dn cX0_isSurer 5 (.aload_n 0) 1 6 := ⟨by decide +kernel, rfl⟩
theorem eX0_isSurer_6 : Dn cX0_isSurer 6 (.getfield 15) 3 9 := ⟨by decide +kernel, rfl⟩
theorem eX0_isSurer_9 : Dn cX0_isSurer 9 (.iload_n 1) 1 10 := ⟨by decide +kernel, rfl⟩
theorem eX0_isSurer_10 : Dn cX0_isSurer 10 (.iaload) 1 11 := ⟨by decide +kernel, rfl⟩
theorem eX0_isSurer_11 : Dn cX0_isSurer 11 (.aload_n 0) 1 12 := ⟨by decide +kernel, rfl⟩
theorem eX0_isSurer_12 : Dn cX0_isSurer 12 (.getfield 15) 3 15 := ⟨by decide +kernel, rfl⟩
theorem eX0_isSurer_15 : Dn cX0_isSurer 15 (.iload_n 2) 1 16 := ⟨by decide +kernel, rfl⟩
theorem eX0_isSurer_16 : Dn cX0_isSurer 16 (.iaload) 1 17 := ⟨by decide +kernel, rfl⟩
theorem eX0_isSurer_17 : Dn cX0_isSurer 17 (.if_icmp .le 7) 3 20 := ⟨by decide +kernel, rfl⟩
theorem eX0_isSurer_20 : Dn cX0_isSurer 20 (.iconst 1) 1 21 := ⟨by decide +kernel, rfl⟩
theorem eX0_isSurer_21 : Dn cX0_isSurer 21 (.goto 4) 3 24 := ⟨by decide +kernel, rfl⟩
theorem eX0_isSurer_24 : Dn cX0_isSurer 24 (.iconst 0) 1 25 := ⟨by decide +kernel, rfl⟩
theorem eX0_isSurer_25 : Dn cX0_isSurer 25 (.ireturn) 1 26 := ⟨by decide +kernel, rfl⟩
theorem eX0_isGuestSurer_0 : Dn cX0_isGuestSurer 0 (.aload_n 0) 1 1 := ⟨by decide +kernel, rfl⟩
theorem eX0_isGuestSurer_1 : Dn cX0_isGuestSurer 1 (.getfield 47) 3 4 := ⟨by decide +kernel, rfl⟩
theorem eX0_isGuestSurer_4 : Dn cX0_isGuestSurer 4 (.ifCond .eq 18) 3 7 := ⟨by decide +kernel, rfl⟩
theorem eX0_isGuestSurer_7 : Dn cX0_isGuestSurer 7 (.aload_n 0) 1 8 := ⟨by decide +kernel, rfl⟩
theorem eX0_isGuestSurer_8 : Dn cX0_isGuestSurer 8 (.getfield 15) 3 11 := ⟨by decide +kernel, rfl⟩
theorem eX0_isGuestSurer_11 : Dn cX0_isGuestSurer 11 (.iload_n 1) 1 12 := ⟨by decide +kernel, rfl⟩
theorem eX0_isGuestSurer_12 : Dn cX0_isGuestSurer 12 (.iaload) 1 13 := ⟨by decide +kernel, rfl⟩
theorem eX0_isGuestSurer_13 : Dn cX0_isGuestSurer 13 (.bipush 9) 2 15 := ⟨by decide +kernel, rfl⟩
theorem eX0_isGuestSurer_15 : Dn cX0_isGuestSurer 15 (.if_icmp .ge 7) 3 18 := ⟨by decide +kernel, rfl⟩
theorem eX0_isGuestSurer_18 : Dn cX0_isGuestSurer 18 (.iconst 1) 1 19 := ⟨by decide +kernel, rfl⟩
theorem eX0_isGuestSurer_19 : Dn cX0_isGuestSurer 19 (.goto 4) 3 22 := ⟨by decide +kernel, rfl⟩
theorem eX0_isGuestSurer_22 : Dn cX0_isGuestSurer 22 (.iconst 0) 1 23 := ⟨by decide +kernel, rfl⟩
theorem eX0_isGuestSurer_23 : Dn cX0_isGuestSurer 23 (.ireturn) 1 24 := ⟨by decide +kernel, rfl⟩
theorem eX0_noChance_0 : Dn cX0_noChance 0 (.iload_n 2) 1 1 := ⟨by decide +kernel, rfl⟩
theorem eX0_noChance_1 : Dn cX0_noChance 1 (.ifCond .eq 12) 3 4 := ⟨by decide +kernel, rfl⟩
theorem eX0_noChance_4 : Dn cX0_noChance 4 (.iconst 5) 1 5 := ⟨by decide +kernel, rfl⟩
theorem eX0_noChance_5 : Dn cX0_noChance 5 (.bipush 9) 2 7 := ⟨by decide +kernel, rfl⟩
theorem eX0_noChance_7 : Dn cX0_noChance 7 (.iload_n 1) 1 8 := ⟨by decide +kernel, rfl⟩
theorem eX0_noChance_8 : Dn cX0_noChance 8 (.isub) 1 9 := ⟨by decide +kernel, rfl⟩
theorem eX0_noChance_9 : Dn cX0_noChance 9 (.imul) 1 10 := ⟨by decide +kernel, rfl⟩
theorem eX0_noChance_10 : Dn cX0_noChance 10 (.goto 7) 3 13 := ⟨by decide +kernel, rfl⟩
theorem eX0_noChance_13 : Dn cX0_noChance 13 (.bipush 10) 2 15 := ⟨by decide +kernel, rfl⟩
theorem eX0_noChance_15 : Dn cX0_noChance 15 (.iload_n 1) 1 16 := ⟨by decide +kernel, rfl⟩
theorem eX0_noChance_16 : Dn cX0_noChance 16 (.imul) 1 17 := ⟨by decide +kernel, rfl⟩
theorem eX0_noChance_17 : Dn cX0_noChance 17 (.ireturn) 1 18 := ⟨by decide +kernel, rfl⟩
theorem eX0_mayBelieve_0 : Dn cX0_mayBelieve 0 (.iload_n 1) 1 1 := ⟨by decide +kernel, rfl⟩
theorem eX0_mayBelieve_1 : Dn cX0_mayBelieve 1 (.iload_n 2) 1 2 := ⟨by decide +kernel, rfl⟩
theorem eX0_mayBelieve_2 : Dn cX0_mayBelieve 2 (.if_icmp .eq 28) 3 5 := ⟨by decide +kernel, rfl⟩
theorem eX0_mayBelieve_5 : Dn cX0_mayBelieve 5 (.aload_n 0) 1 6 := ⟨by decide +kernel, rfl⟩
theorem eX0_mayBelieve_6 : Dn cX0_mayBelieve 6 (.getfield 15) 3 9 := ⟨by decide +kernel, rfl⟩
theorem eX0_mayBelieve_9 : Dn cX0_mayBelieve 9 (.iload_n 1) 1 10 := ⟨by decide +kernel, rfl⟩
theorem eX0_mayBelieve_10 : Dn cX0_mayBelieve 10 (.iaload) 1 11 := ⟨by decide +kernel, rfl⟩
theorem eX0_mayBelieve_11 : Dn cX0_mayBelieve 11 (.iconst 1) 1 12 := ⟨by decide +kernel, rfl⟩
theorem eX0_mayBelieve_12 : Dn cX0_mayBelieve 12 (.if_icmp .lt 18) 3 15 := ⟨by decide +kernel, rfl⟩
theorem eX0_mayBelieve_15 : Dn cX0_mayBelieve 15 (.aload_n 0) 1 16 := ⟨by decide +kernel, rfl⟩
theorem eX0_mayBelieve_16 : Dn cX0_mayBelieve 16 (.getfield 15) 3 19 := ⟨by decide +kernel, rfl⟩
theorem eX0_mayBelieve_19 : Dn cX0_mayBelieve 19 (.iload_n 1) 1 20 := ⟨by decide +kernel, rfl⟩
theorem eX0_mayBelieve_20 : Dn cX0_mayBelieve 20 (.iaload) 1 21 := ⟨by decide +kernel, rfl⟩
theorem eX0_mayBelieve_21 : Dn cX0_mayBelieve 21 (.bipush 6) 2 23 := ⟨by decide +kernel, rfl⟩
theorem eX0_mayBelieve_23 : Dn cX0_mayBelieve 23 (.if_icmp .gt 7) 3 26 := ⟨by decide +kernel, rfl⟩
theorem eX0_mayBelieve_26 : Dn cX0_mayBelieve 26 (.iconst 1) 1 27 := ⟨by decide +kernel, rfl⟩
theorem eX0_mayBelieve_27 : Dn cX0_mayBelieve 27 (.goto 4) 3 30 := ⟨by decide +kernel, rfl⟩
theorem eX0_mayBelieve_30 : Dn cX0_mayBelieve 30 (.iconst 0) 1 31 := ⟨by decide +kernel, rfl⟩
theorem eX0_mayBelieve_31 : Dn cX0_mayBelieve 31 (.ireturn) 1 32 := ⟨by decide +kernel, rfl⟩
theorem eX0_comes_0 : Dn cX0_comes 0 (.iload_n 2) 1 1 := ⟨by decide +kernel, rfl⟩
theorem eX0_comes_1 : Dn cX0_comes 1 (.ifCond .ne 15) 3 4 := ⟨by decide +kernel, rfl⟩
theorem eX0_comes_4 : Dn cX0_comes 4 (.iload_n 1) 1 5 := ⟨by decide +kernel, rfl⟩
theorem eX0_comes_5 : Dn cX0_comes 5 (.bipush 50) 2 7 := ⟨by decide +kernel, rfl⟩
theorem eX0_comes_7 : Dn cX0_comes 7 (.if_icmp .lt 7) 3 10 := ⟨by decide +kernel, rfl⟩
theorem eX0_comes_10 : Dn cX0_comes 10 (.iconst 1) 1 11 := ⟨by decide +kernel, rfl⟩
theorem eX0_comes_11 : Dn cX0_comes 11 (.goto 4) 3 14 := ⟨by decide +kernel, rfl⟩
theorem eX0_comes_14 : Dn cX0_comes 14 (.iconst 0) 1 15 := ⟨by decide +kernel, rfl⟩
theorem eX0_comes_15 : Dn cX0_comes 15 (.ireturn) 1 16 := ⟨by decide +kernel, rfl⟩
theorem eX0_comes_16 : Dn cX0_comes 16 (.aload_n 0) 1 17 := ⟨by decide +kernel, rfl⟩
theorem eX0_comes_17 : Dn cX0_comes 17 (.aload_n 0) 1 18 := ⟨by decide +kernel, rfl⟩
theorem eX0_comes_18 : Dn cX0_comes 18 (.getfield 51) 3 21 := ⟨by decide +kernel, rfl⟩
theorem eX0_comes_21 : Dn cX0_comes 21 (.i2l) 1 22 := ⟨by decide +kernel, rfl⟩
theorem eX0_comes_22 : Dn cX0_comes 22 (.ldc2_w 83) 3 25 := ⟨by decide +kernel, rfl⟩
theorem eX0_comes_25 : Dn cX0_comes 25 (.lmul) 1 26 := ⟨by decide +kernel, rfl⟩
theorem eX0_comes_26 : Dn cX0_comes 26 (.ldc2_w 85) 3 29 := ⟨by decide +kernel, rfl⟩
theorem eX0_comes_29 : Dn cX0_comes 29 (.ladd) 1 30 := ⟨by decide +kernel, rfl⟩
theorem eX0_comes_30 : Dn cX0_comes 30 (.ldc2_w 87) 3 33 := ⟨by decide +kernel, rfl⟩
theorem eX0_comes_33 : Dn cX0_comes 33 (.land) 1 34 := ⟨by decide +kernel, rfl⟩
theorem eX0_comes_34 : Dn cX0_comes 34 (.l2i) 1 35 := ⟨by decide +kernel, rfl⟩
theorem eX0_comes_35 : Dn cX0_comes 35 (.putfield 51) 3 38 := ⟨by decide +kernel, rfl⟩
theorem eX0_comes_38 : Dn cX0_comes 38 (.aload_n 0) 1 39 := ⟨by decide +kernel, rfl⟩
theorem eX0_comes_39 : Dn cX0_comes 39 (.getfield 51) 3 42 := ⟨by decide +kernel, rfl⟩
theorem eX0_comes_42 : Dn cX0_comes 42 (.ldc 89) 2 44 := ⟨by decide +kernel, rfl⟩
theorem eX0_comes_44 : Dn cX0_comes 44 (.idiv) 1 45 := ⟨by decide +kernel, rfl⟩
theorem eX0_comes_45 : Dn cX0_comes 45 (.bipush 100) 2 47 := ⟨by decide +kernel, rfl⟩
theorem eX0_comes_47 : Dn cX0_comes 47 (.irem) 1 48 := ⟨by decide +kernel, rfl⟩
theorem eX0_comes_48 : Dn cX0_comes 48 (.iload_n 1) 1 49 := ⟨by decide +kernel, rfl⟩
theorem eX0_comes_49 : Dn cX0_comes 49 (.if_icmp .ge 7) 3 52 := ⟨by decide +kernel, rfl⟩
theorem eX0_comes_52 : Dn cX0_comes 52 (.iconst 1) 1 53 := ⟨by decide +kernel, rfl⟩
theorem eX0_comes_53 : Dn cX0_comes 53 (.goto 4) 3 56 := ⟨by decide +kernel, rfl⟩
theorem eX0_comes_56 : Dn cX0_comes 56 (.iconst 0) 1 57 := ⟨by decide +kernel, rfl⟩
theorem eX0_comes_57 : Dn cX0_comes 57 (.ireturn) 1 58 := ⟨by decide +kernel, rfl⟩
theorem eX0_hold_0 : Dn cX0_hold 0 (.aload_n 0) 1 1 := ⟨by decide +kernel, rfl⟩
theorem eX0_hold_1 : Dn cX0_hold 1 (.aload_n 0) 1 2 := ⟨by decide +kernel, rfl⟩
theorem eX0_hold_2 : Dn cX0_hold 2 (.iload_n 1) 1 3 := ⟨by decide +kernel, rfl⟩
theorem eX0_hold_3 : Dn cX0_hold 3 (.invokevirtual 90) 3 6 := ⟨by decide +kernel, rfl⟩
theorem eX0_hold_6 : Dn cX0_hold 6 (.iload_n 2) 1 7 := ⟨by decide +kernel, rfl⟩
theorem eX0_hold_7 : Dn cX0_hold 7 (.invokevirtual 93) 3 10 := ⟨by decide +kernel, rfl⟩
theorem eX0_hold_10 : Dn cX0_hold 10 (.istore_n 3) 1 11 := ⟨by decide +kernel, rfl⟩
theorem eX0_hold_11 : Dn cX0_hold 11 (.iconst 0) 1 12 := ⟨by decide +kernel, rfl⟩
theorem eX0_hold_12 : Dn cX0_hold 12 (.istore 4) 2 14 := ⟨by decide +kernel, rfl⟩
theorem eX0_hold_14 : Dn cX0_hold 14 (.iconst 0) 1 15 := ⟨by decide +kernel, rfl⟩
theorem eX0_hold_15 : Dn cX0_hold 15 (.istore 5) 2 17 := ⟨by decide +kernel, rfl⟩
theorem eX0_hold_17 : Dn cX0_hold 17 (.iload 5) 2 19 := ⟨by decide +kernel, rfl⟩
theorem eX0_hold_19 : Dn cX0_hold 19 (.aload_n 0) 1 20 := ⟨by decide +kernel, rfl⟩
theorem eX0_hold_20 : Dn cX0_hold 20 (.getfield 34) 3 23 := ⟨by decide +kernel, rfl⟩
theorem eX0_hold_23 : Dn cX0_hold 23 (.if_icmp .ge 73) 3 26 := ⟨by decide +kernel, rfl⟩
theorem eX0_hold_26 : Dn cX0_hold 26 (.aload_n 0) 1 27 := ⟨by decide +kernel, rfl⟩
theorem eX0_hold_27 : Dn cX0_hold 27 (.getfield 30) 3 30 := ⟨by decide +kernel, rfl⟩
theorem eX0_hold_30 : Dn cX0_hold 30 (.iload 5) 2 32 := ⟨by decide +kernel, rfl⟩
theorem eX0_hold_32 : Dn cX0_hold 32 (.aload_n 0) 1 33 := ⟨by decide +kernel, rfl⟩
theorem eX0_hold_33 : Dn cX0_hold 33 (.iload 5) 2 35 := ⟨by decide +kernel, rfl⟩
theorem eX0_hold_35 : Dn cX0_hold 35 (.iload_n 1) 1 36 := ⟨by decide +kernel, rfl⟩
theorem eX0_hold_36 : Dn cX0_hold 36 (.invokevirtual 97) 3 39 := ⟨by decide +kernel, rfl⟩
theorem eX0_hold_39 : Dn cX0_hold 39 (.ifCond .eq 27) 3 42 := ⟨by decide +kernel, rfl⟩
theorem eX0_hold_42 : Dn cX0_hold 42 (.aload_n 0) 1 43 := ⟨by decide +kernel, rfl⟩
theorem eX0_hold_43 : Dn cX0_hold 43 (.aload_n 0) 1 44 := ⟨by decide +kernel, rfl⟩
theorem eX0_hold_44 : Dn cX0_hold 44 (.aload_n 0) 1 45 := ⟨by decide +kernel, rfl⟩
theorem eX0_hold_45 : Dn cX0_hold 45 (.getfield 15) 3 48 := ⟨by decide +kernel, rfl⟩
theorem eX0_hold_48 : Dn cX0_hold 48 (.iload 5) 2 50 := ⟨by decide +kernel, rfl⟩
theorem eX0_hold_50 : Dn cX0_hold 50 (.iaload) 1 51 := ⟨by decide +kernel, rfl⟩
theorem eX0_hold_51 : Dn cX0_hold 51 (.iload_n 3) 1 52 := ⟨by decide +kernel, rfl⟩
theorem eX0_hold_52 : Dn cX0_hold 52 (.invokevirtual 101) 3 55 := ⟨by decide +kernel, rfl⟩
theorem eX0_hold_55 : Dn cX0_hold 55 (.iload_n 2) 1 56 := ⟨by decide +kernel, rfl⟩
theorem eX0_hold_56 : Dn cX0_hold 56 (.invokevirtual 93) 3 59 := ⟨by decide +kernel, rfl⟩
theorem eX0_hold_59 : Dn cX0_hold 59 (.ifCond .eq 7) 3 62 := ⟨by decide +kernel, rfl⟩
theorem eX0_hold_62 : Dn cX0_hold 62 (.iconst 1) 1 63 := ⟨by decide +kernel, rfl⟩
theorem eX0_hold_63 : Dn cX0_hold 63 (.goto 4) 3 66 := ⟨by decide +kernel, rfl⟩
theorem eX0_hold_66 : Dn cX0_hold 66 (.iconst 0) 1 67 := ⟨by decide +kernel, rfl⟩
theorem eX0_hold_67 : Dn cX0_hold 67 (.bastore) 1 68 := ⟨by decide +kernel, rfl⟩
theorem eX0_hold_68 : Dn cX0_hold 68 (.iload 4) 2 70 := ⟨by decide +kernel, rfl⟩
theorem eX0_hold_70 : Dn cX0_hold 70 (.ifCond .ne 13) 3 73 := ⟨by decide +kernel, rfl⟩
theorem eX0_hold_73 : Dn cX0_hold 73 (.aload_n 0) 1 74 := ⟨by decide +kernel, rfl⟩
theorem eX0_hold_74 : Dn cX0_hold 74 (.getfield 30) 3 77 := ⟨by decide +kernel, rfl⟩
theorem eX0_hold_77 : Dn cX0_hold 77 (.iload 5) 2 79 := ⟨by decide +kernel, rfl⟩
theorem eX0_hold_79 : Dn cX0_hold 79 (.baload) 1 80 := ⟨by decide +kernel, rfl⟩
theorem eX0_hold_80 : Dn cX0_hold 80 (.ifCond .eq 7) 3 83 := ⟨by decide +kernel, rfl⟩
theorem eX0_hold_83 : Dn cX0_hold 83 (.iconst 1) 1 84 := ⟨by decide +kernel, rfl⟩
theorem eX0_hold_84 : Dn cX0_hold 84 (.goto 4) 3 87 := ⟨by decide +kernel, rfl⟩
theorem eX0_hold_87 : Dn cX0_hold 87 (.iconst 0) 1 88 := ⟨by decide +kernel, rfl⟩
theorem eX0_hold_88 : Dn cX0_hold 88 (.istore 4) 2 90 := ⟨by decide +kernel, rfl⟩
theorem eX0_hold_90 : Dn cX0_hold 90 (.iinc 5 1) 3 93 := ⟨by decide +kernel, rfl⟩
theorem eX0_hold_93 : Dn cX0_hold 93 (.goto (-76)) 3 96 := ⟨by decide +kernel, rfl⟩
theorem eX0_hold_96 : Dn cX0_hold 96 (.aload_n 0) 1 97 := ⟨by decide +kernel, rfl⟩
theorem eX0_hold_97 : Dn cX0_hold 97 (.iload_n 1) 1 98 := ⟨by decide +kernel, rfl⟩
theorem eX0_hold_98 : Dn cX0_hold 98 (.invokevirtual 105) 3 101 := ⟨by decide +kernel, rfl⟩
theorem eX0_hold_101 : Dn cX0_hold 101 (.ifCond .eq 21) 3 104 := ⟨by decide +kernel, rfl⟩
theorem eX0_hold_104 : Dn cX0_hold 104 (.aload_n 0) 1 105 := ⟨by decide +kernel, rfl⟩
theorem eX0_hold_105 : Dn cX0_hold 105 (.aload_n 0) 1 106 := ⟨by decide +kernel, rfl⟩
theorem eX0_hold_106 : Dn cX0_hold 106 (.bipush 9) 2 108 := ⟨by decide +kernel, rfl⟩
theorem eX0_hold_108 : Dn cX0_hold 108 (.iload_n 3) 1 109 := ⟨by decide +kernel, rfl⟩
theorem eX0_hold_109 : Dn cX0_hold 109 (.invokevirtual 101) 3 112 := ⟨by decide +kernel, rfl⟩
theorem eX0_hold_112 : Dn cX0_hold 112 (.iload_n 2) 1 113 := ⟨by decide +kernel, rfl⟩
theorem eX0_hold_113 : Dn cX0_hold 113 (.invokevirtual 93) 3 116 := ⟨by decide +kernel, rfl⟩
theorem eX0_hold_116 : Dn cX0_hold 116 (.ifCond .eq 6) 3 119 := ⟨by decide +kernel, rfl⟩
theorem eX0_hold_119 : Dn cX0_hold 119 (.iconst 1) 1 120 := ⟨by decide +kernel, rfl⟩
theorem eX0_hold_120 : Dn cX0_hold 120 (.istore 4) 2 122 := ⟨by decide +kernel, rfl⟩
theorem eX0_hold_122 : Dn cX0_hold 122 (.iload_n 3) 1 123 := ⟨by decide +kernel, rfl⟩
theorem eX0_hold_123 : Dn cX0_hold 123 (.ifCond .eq 23) 3 126 := ⟨by decide +kernel, rfl⟩
theorem eX0_hold_126 : Dn cX0_hold 126 (.iload 4) 2 128 := ⟨by decide +kernel, rfl⟩
theorem eX0_hold_128 : Dn cX0_hold 128 (.ifCond .eq 12) 3 131 := ⟨by decide +kernel, rfl⟩
theorem eX0_hold_131 : Dn cX0_hold 131 (.aload_n 0) 1 132 := ⟨by decide +kernel, rfl⟩
theorem eX0_hold_132 : Dn cX0_hold 132 (.iload_n 1) 1 133 := ⟨by decide +kernel, rfl⟩
theorem eX0_hold_133 : Dn cX0_hold 133 (.iload_n 2) 1 134 := ⟨by decide +kernel, rfl⟩
theorem eX0_hold_134 : Dn cX0_hold 134 (.invokevirtual 109) 3 137 := ⟨by decide +kernel, rfl⟩
theorem eX0_hold_137 : Dn cX0_hold 137 (.goto 8) 3 140 := ⟨by decide +kernel, rfl⟩
theorem eX0_hold_140 : Dn cX0_hold 140 (.aload_n 0) 1 141 := ⟨by decide +kernel, rfl⟩
theorem eX0_hold_141 : Dn cX0_hold 141 (.iload_n 1) 1 142 := ⟨by decide +kernel, rfl⟩
theorem eX0_hold_142 : Dn cX0_hold 142 (.invokevirtual 112) 3 145 := ⟨by decide +kernel, rfl⟩
theorem eX0_hold_145 : Dn cX0_hold 145 (.ireturn) 1 146 := ⟨by decide +kernel, rfl⟩
theorem eX0_hold_146 : Dn cX0_hold 146 (.iload 4) 2 148 := ⟨by decide +kernel, rfl⟩
theorem eX0_hold_148 : Dn cX0_hold 148 (.ifCond .eq 11) 3 151 := ⟨by decide +kernel, rfl⟩
theorem eX0_hold_151 : Dn cX0_hold 151 (.aload_n 0) 1 152 := ⟨by decide +kernel, rfl⟩
theorem eX0_hold_152 : Dn cX0_hold 152 (.iload_n 1) 1 153 := ⟨by decide +kernel, rfl⟩
theorem eX0_hold_153 : Dn cX0_hold 153 (.invokevirtual 115) 3 156 := ⟨by decide +kernel, rfl⟩
theorem eX0_hold_156 : Dn cX0_hold 156 (.goto 9) 3 159 := ⟨by decide +kernel, rfl⟩
theorem eX0_hold_159 : Dn cX0_hold 159 (.aload_n 0) 1 160 := ⟨by decide +kernel, rfl⟩
theorem eX0_hold_160 : Dn cX0_hold 160 (.iload_n 1) 1 161 := ⟨by decide +kernel, rfl⟩
theorem eX0_hold_161 : Dn cX0_hold 161 (.iload_n 2) 1 162 := ⟨by decide +kernel, rfl⟩
theorem eX0_hold_162 : Dn cX0_hold 162 (.invokevirtual 118) 3 165 := ⟨by decide +kernel, rfl⟩
theorem eX0_hold_165 : Dn cX0_hold 165 (.ireturn) 1 166 := ⟨by decide +kernel, rfl⟩
theorem eX0_endCorrected_0 : Dn cX0_endCorrected 0 (.aload_n 0) 1 1 := ⟨by decide +kernel, rfl⟩
theorem eX0_endCorrected_1 : Dn cX0_endCorrected 1 (.iload_n 1) 1 2 := ⟨by decide +kernel, rfl⟩
theorem eX0_endCorrected_2 : Dn cX0_endCorrected 2 (.aload_n 0) 1 3 := ⟨by decide +kernel, rfl⟩
theorem eX0_endCorrected_3 : Dn cX0_endCorrected 3 (.getfield 21) 3 6 := ⟨by decide +kernel, rfl⟩
theorem eX0_endCorrected_6 : Dn cX0_endCorrected 6 (.iload_n 1) 1 7 := ⟨by decide +kernel, rfl⟩
theorem eX0_endCorrected_7 : Dn cX0_endCorrected 7 (.iaload) 1 8 := ⟨by decide +kernel, rfl⟩
theorem eX0_endCorrected_8 : Dn cX0_endCorrected 8 (.invokevirtual 121) 3 11 := ⟨by decide +kernel, rfl⟩
theorem eX0_endCorrected_11 : Dn cX0_endCorrected 11 (.iconst 0) 1 12 := ⟨by decide +kernel, rfl⟩
theorem eX0_endCorrected_12 : Dn cX0_endCorrected 12 (.istore_n 2) 1 13 := ⟨by decide +kernel, rfl⟩
theorem eX0_endCorrected_13 : Dn cX0_endCorrected 13 (.iload_n 2) 1 14 := ⟨by decide +kernel, rfl⟩
theorem eX0_endCorrected_14 : Dn cX0_endCorrected 14 (.aload_n 0) 1 15 := ⟨by decide +kernel, rfl⟩
theorem eX0_endCorrected_15 : Dn cX0_endCorrected 15 (.getfield 34) 3 18 := ⟨by decide +kernel, rfl⟩
theorem eX0_endCorrected_18 : Dn cX0_endCorrected 18 (.if_icmp .ge 24) 3 21 := ⟨by decide +kernel, rfl⟩
theorem eX0_endCorrected_21 : Dn cX0_endCorrected 21 (.aload_n 0) 1 22 := ⟨by decide +kernel, rfl⟩
theorem eX0_endCorrected_22 : Dn cX0_endCorrected 22 (.getfield 30) 3 25 := ⟨by decide +kernel, rfl⟩
theorem eX0_endCorrected_25 : Dn cX0_endCorrected 25 (.iload_n 2) 1 26 := ⟨by decide +kernel, rfl⟩
theorem eX0_endCorrected_26 : Dn cX0_endCorrected 26 (.baload) 1 27 := ⟨by decide +kernel, rfl⟩
theorem eX0_endCorrected_27 : Dn cX0_endCorrected 27 (.ifCond .eq 9) 3 30 := ⟨by decide +kernel, rfl⟩
theorem eX0_endCorrected_30 : Dn cX0_endCorrected 30 (.aload_n 0) 1 31 := ⟨by decide +kernel, rfl⟩
theorem eX0_endCorrected_31 : Dn cX0_endCorrected 31 (.iload_n 2) 1 32 := ⟨by decide +kernel, rfl⟩
theorem eX0_endCorrected_32 : Dn cX0_endCorrected 32 (.iconst 1) 1 33 := ⟨by decide +kernel, rfl⟩
theorem eX0_endCorrected_33 : Dn cX0_endCorrected 33 (.invokevirtual 121) 3 36 := ⟨by decide +kernel, rfl⟩
theorem eX0_endCorrected_36 : Dn cX0_endCorrected 36 (.iinc 2 1) 3 39 := ⟨by decide +kernel, rfl⟩
theorem eX0_endCorrected_39 : Dn cX0_endCorrected 39 (.goto (-26)) 3 42 := ⟨by decide +kernel, rfl⟩
theorem eX0_endCorrected_42 : Dn cX0_endCorrected 42 (.iconst 0) 1 43 := ⟨by decide +kernel, rfl⟩
theorem eX0_endCorrected_43 : Dn cX0_endCorrected 43 (.ireturn) 1 44 := ⟨by decide +kernel, rfl⟩
theorem eX0_endMisled_0 : Dn cX0_endMisled 0 (.iconst 0) 1 1 := ⟨by decide +kernel, rfl⟩
theorem eX0_endMisled_1 : Dn cX0_endMisled 1 (.istore_n 3) 1 2 := ⟨by decide +kernel, rfl⟩
theorem eX0_endMisled_2 : Dn cX0_endMisled 2 (.iload_n 3) 1 3 := ⟨by decide +kernel, rfl⟩
theorem eX0_endMisled_3 : Dn cX0_endMisled 3 (.aload_n 0) 1 4 := ⟨by decide +kernel, rfl⟩
theorem eX0_endMisled_4 : Dn cX0_endMisled 4 (.getfield 34) 3 7 := ⟨by decide +kernel, rfl⟩
theorem eX0_endMisled_7 : Dn cX0_endMisled 7 (.if_icmp .ge 42) 3 10 := ⟨by decide +kernel, rfl⟩
theorem eX0_endMisled_10 : Dn cX0_endMisled 10 (.aload_n 0) 1 11 := ⟨by decide +kernel, rfl⟩
theorem eX0_endMisled_11 : Dn cX0_endMisled 11 (.iload_n 3) 1 12 := ⟨by decide +kernel, rfl⟩
theorem eX0_endMisled_12 : Dn cX0_endMisled 12 (.iload_n 1) 1 13 := ⟨by decide +kernel, rfl⟩
theorem eX0_endMisled_13 : Dn cX0_endMisled 13 (.invokevirtual 125) 3 16 := ⟨by decide +kernel, rfl⟩
theorem eX0_endMisled_16 : Dn cX0_endMisled 16 (.ifCond .eq 27) 3 19 := ⟨by decide +kernel, rfl⟩
theorem eX0_endMisled_19 : Dn cX0_endMisled 19 (.aload_n 0) 1 20 := ⟨by decide +kernel, rfl⟩
theorem eX0_endMisled_20 : Dn cX0_endMisled 20 (.aload_n 0) 1 21 := ⟨by decide +kernel, rfl⟩
theorem eX0_endMisled_21 : Dn cX0_endMisled 21 (.getfield 24) 3 24 := ⟨by decide +kernel, rfl⟩
theorem eX0_endMisled_24 : Dn cX0_endMisled 24 (.iload_n 3) 1 25 := ⟨by decide +kernel, rfl⟩
theorem eX0_endMisled_25 : Dn cX0_endMisled 25 (.iaload) 1 26 := ⟨by decide +kernel, rfl⟩
theorem eX0_endMisled_26 : Dn cX0_endMisled 26 (.iload_n 2) 1 27 := ⟨by decide +kernel, rfl⟩
theorem eX0_endMisled_27 : Dn cX0_endMisled 27 (.invokevirtual 93) 3 30 := ⟨by decide +kernel, rfl⟩
theorem eX0_endMisled_30 : Dn cX0_endMisled 30 (.ifCond .eq 13) 3 33 := ⟨by decide +kernel, rfl⟩
theorem eX0_endMisled_33 : Dn cX0_endMisled 33 (.aload_n 0) 1 34 := ⟨by decide +kernel, rfl⟩
theorem eX0_endMisled_34 : Dn cX0_endMisled 34 (.getfield 15) 3 37 := ⟨by decide +kernel, rfl⟩
theorem eX0_endMisled_37 : Dn cX0_endMisled 37 (.iload_n 3) 1 38 := ⟨by decide +kernel, rfl⟩
theorem eX0_endMisled_38 : Dn cX0_endMisled 38 (.dup2) 1 39 := ⟨by decide +kernel, rfl⟩
theorem eX0_endMisled_39 : Dn cX0_endMisled 39 (.iaload) 1 40 := ⟨by decide +kernel, rfl⟩
theorem eX0_endMisled_40 : Dn cX0_endMisled 40 (.iconst 1) 1 41 := ⟨by decide +kernel, rfl⟩
theorem eX0_endMisled_41 : Dn cX0_endMisled 41 (.isub) 1 42 := ⟨by decide +kernel, rfl⟩
theorem eX0_endMisled_42 : Dn cX0_endMisled 42 (.iastore) 1 43 := ⟨by decide +kernel, rfl⟩
theorem eX0_endMisled_43 : Dn cX0_endMisled 43 (.iinc 3 1) 3 46 := ⟨by decide +kernel, rfl⟩
theorem eX0_endMisled_46 : Dn cX0_endMisled 46 (.goto (-44)) 3 49 := ⟨by decide +kernel, rfl⟩
theorem eX0_endMisled_49 : Dn cX0_endMisled 49 (.iconst 1) 1 50 := ⟨by decide +kernel, rfl⟩
theorem eX0_endMisled_50 : Dn cX0_endMisled 50 (.ireturn) 1 51 := ⟨by decide +kernel, rfl⟩
theorem eX0_endShaken_0 : Dn cX0_endShaken 0 (.aload_n 0) 1 1 := ⟨by decide +kernel, rfl⟩
theorem eX0_endShaken_1 : Dn cX0_endShaken 1 (.aload_n 0) 1 2 := ⟨by decide +kernel, rfl⟩
theorem eX0_endShaken_2 : Dn cX0_endShaken 2 (.getfield 27) 3 5 := ⟨by decide +kernel, rfl⟩
theorem eX0_endShaken_5 : Dn cX0_endShaken 5 (.iload_n 1) 1 6 := ⟨by decide +kernel, rfl⟩
theorem eX0_endShaken_6 : Dn cX0_endShaken 6 (.iaload) 1 7 := ⟨by decide +kernel, rfl⟩
theorem eX0_endShaken_7 : Dn cX0_endShaken 7 (.iload_n 2) 1 8 := ⟨by decide +kernel, rfl⟩
theorem eX0_endShaken_8 : Dn cX0_endShaken 8 (.invokevirtual 93) 3 11 := ⟨by decide +kernel, rfl⟩
theorem eX0_endShaken_11 : Dn cX0_endShaken 11 (.ifCond .ne 22) 3 14 := ⟨by decide +kernel, rfl⟩
theorem eX0_endShaken_14 : Dn cX0_endShaken 14 (.aload_n 0) 1 15 := ⟨by decide +kernel, rfl⟩
theorem eX0_endShaken_15 : Dn cX0_endShaken 15 (.getfield 15) 3 18 := ⟨by decide +kernel, rfl⟩
theorem eX0_endShaken_18 : Dn cX0_endShaken 18 (.iload_n 1) 1 19 := ⟨by decide +kernel, rfl⟩
theorem eX0_endShaken_19 : Dn cX0_endShaken 19 (.iaload) 1 20 := ⟨by decide +kernel, rfl⟩
theorem eX0_endShaken_20 : Dn cX0_endShaken 20 (.ifCond .le 13) 3 23 := ⟨by decide +kernel, rfl⟩
theorem eX0_endShaken_23 : Dn cX0_endShaken 23 (.aload_n 0) 1 24 := ⟨by decide +kernel, rfl⟩
theorem eX0_endShaken_24 : Dn cX0_endShaken 24 (.getfield 15) 3 27 := ⟨by decide +kernel, rfl⟩
theorem eX0_endShaken_27 : Dn cX0_endShaken 27 (.iload_n 1) 1 28 := ⟨by decide +kernel, rfl⟩
theorem eX0_endShaken_28 : Dn cX0_endShaken 28 (.dup2) 1 29 := ⟨by decide +kernel, rfl⟩
theorem eX0_endShaken_29 : Dn cX0_endShaken 29 (.iaload) 1 30 := ⟨by decide +kernel, rfl⟩
theorem eX0_endShaken_30 : Dn cX0_endShaken 30 (.iconst 1) 1 31 := ⟨by decide +kernel, rfl⟩
theorem eX0_endShaken_31 : Dn cX0_endShaken 31 (.isub) 1 32 := ⟨by decide +kernel, rfl⟩
theorem eX0_endShaken_32 : Dn cX0_endShaken 32 (.iastore) 1 33 := ⟨by decide +kernel, rfl⟩
theorem eX0_endShaken_33 : Dn cX0_endShaken 33 (.iconst 2) 1 34 := ⟨by decide +kernel, rfl⟩
theorem eX0_endShaken_34 : Dn cX0_endShaken 34 (.ireturn) 1 35 := ⟨by decide +kernel, rfl⟩
theorem eX0_endAgreed_0 : Dn cX0_endAgreed 0 (.aload_n 0) 1 1 := ⟨by decide +kernel, rfl⟩
theorem eX0_endAgreed_1 : Dn cX0_endAgreed 1 (.getfield 15) 3 4 := ⟨by decide +kernel, rfl⟩
theorem eX0_endAgreed_4 : Dn cX0_endAgreed 4 (.iload_n 1) 1 5 := ⟨by decide +kernel, rfl⟩
theorem eX0_endAgreed_5 : Dn cX0_endAgreed 5 (.iaload) 1 6 := ⟨by decide +kernel, rfl⟩
theorem eX0_endAgreed_6 : Dn cX0_endAgreed 6 (.istore_n 2) 1 7 := ⟨by decide +kernel, rfl⟩
theorem eX0_endAgreed_7 : Dn cX0_endAgreed 7 (.iconst 0) 1 8 := ⟨by decide +kernel, rfl⟩
theorem eX0_endAgreed_8 : Dn cX0_endAgreed 8 (.istore_n 3) 1 9 := ⟨by decide +kernel, rfl⟩
theorem eX0_endAgreed_9 : Dn cX0_endAgreed 9 (.iload_n 3) 1 10 := ⟨by decide +kernel, rfl⟩
theorem eX0_endAgreed_10 : Dn cX0_endAgreed 10 (.aload_n 0) 1 11 := ⟨by decide +kernel, rfl⟩
theorem eX0_endAgreed_11 : Dn cX0_endAgreed 11 (.getfield 34) 3 14 := ⟨by decide +kernel, rfl⟩
theorem eX0_endAgreed_14 : Dn cX0_endAgreed 14 (.if_icmp .ge 25) 3 17 := ⟨by decide +kernel, rfl⟩
theorem eX0_endAgreed_17 : Dn cX0_endAgreed 17 (.aload_n 0) 1 18 := ⟨by decide +kernel, rfl⟩
theorem eX0_endAgreed_18 : Dn cX0_endAgreed 18 (.getfield 15) 3 21 := ⟨by decide +kernel, rfl⟩
theorem eX0_endAgreed_21 : Dn cX0_endAgreed 21 (.iload_n 3) 1 22 := ⟨by decide +kernel, rfl⟩
theorem eX0_endAgreed_22 : Dn cX0_endAgreed 22 (.iaload) 1 23 := ⟨by decide +kernel, rfl⟩
theorem eX0_endAgreed_23 : Dn cX0_endAgreed 23 (.iload_n 2) 1 24 := ⟨by decide +kernel, rfl⟩
theorem eX0_endAgreed_24 : Dn cX0_endAgreed 24 (.if_icmp .gt 9) 3 27 := ⟨by decide +kernel, rfl⟩
theorem eX0_endAgreed_27 : Dn cX0_endAgreed 27 (.aload_n 0) 1 28 := ⟨by decide +kernel, rfl⟩
theorem eX0_endAgreed_28 : Dn cX0_endAgreed 28 (.iload_n 3) 1 29 := ⟨by decide +kernel, rfl⟩
theorem eX0_endAgreed_29 : Dn cX0_endAgreed 29 (.iconst 1) 1 30 := ⟨by decide +kernel, rfl⟩
theorem eX0_endAgreed_30 : Dn cX0_endAgreed 30 (.invokevirtual 121) 3 33 := ⟨by decide +kernel, rfl⟩
theorem eX0_endAgreed_33 : Dn cX0_endAgreed 33 (.iinc 3 1) 3 36 := ⟨by decide +kernel, rfl⟩
theorem eX0_endAgreed_36 : Dn cX0_endAgreed 36 (.goto (-27)) 3 39 := ⟨by decide +kernel, rfl⟩
theorem eX0_endAgreed_39 : Dn cX0_endAgreed 39 (.iconst 3) 1 40 := ⟨by decide +kernel, rfl⟩
theorem eX0_endAgreed_40 : Dn cX0_endAgreed 40 (.ireturn) 1 41 := ⟨by decide +kernel, rfl⟩
theorem eX0_someNo_0 : Dn cX0_someNo 0 (.ldc2_w 128) 3 3 := ⟨by decide +kernel, rfl⟩
theorem eX0_someNo_3 : Dn cX0_someNo 3 (.lstore_n 3) 1 4 := ⟨by decide +kernel, rfl⟩
theorem eX0_someNo_4 : Dn cX0_someNo 4 (.iconst 0) 1 5 := ⟨by decide +kernel, rfl⟩
theorem eX0_someNo_5 : Dn cX0_someNo 5 (.istore 5) 2 7 := ⟨by decide +kernel, rfl⟩
theorem eX0_someNo_7 : Dn cX0_someNo 7 (.iload 5) 2 9 := ⟨by decide +kernel, rfl⟩
theorem eX0_someNo_9 : Dn cX0_someNo 9 (.aload_n 0) 1 10 := ⟨by decide +kernel, rfl⟩
theorem eX0_someNo_10 : Dn cX0_someNo 10 (.getfield 34) 3 13 := ⟨by decide +kernel, rfl⟩
theorem eX0_someNo_13 : Dn cX0_someNo 13 (.if_icmp .ge 42) 3 16 := ⟨by decide +kernel, rfl⟩
theorem eX0_someNo_16 : Dn cX0_someNo 16 (.aload_n 0) 1 17 := ⟨by decide +kernel, rfl⟩
theorem eX0_someNo_17 : Dn cX0_someNo 17 (.iload 5) 2 19 := ⟨by decide +kernel, rfl⟩
theorem eX0_someNo_19 : Dn cX0_someNo 19 (.iload_n 1) 1 20 := ⟨by decide +kernel, rfl⟩
theorem eX0_someNo_20 : Dn cX0_someNo 20 (.invokevirtual 97) 3 23 := ⟨by decide +kernel, rfl⟩
theorem eX0_someNo_23 : Dn cX0_someNo 23 (.ifCond .eq 26) 3 26 := ⟨by decide +kernel, rfl⟩
theorem eX0_someNo_26 : Dn cX0_someNo 26 (.lload_n 3) 1 27 := ⟨by decide +kernel, rfl⟩
theorem eX0_someNo_27 : Dn cX0_someNo 27 (.bipush 100) 2 29 := ⟨by decide +kernel, rfl⟩
theorem eX0_someNo_29 : Dn cX0_someNo 29 (.aload_n 0) 1 30 := ⟨by decide +kernel, rfl⟩
theorem eX0_someNo_30 : Dn cX0_someNo 30 (.aload_n 0) 1 31 := ⟨by decide +kernel, rfl⟩
theorem eX0_someNo_31 : Dn cX0_someNo 31 (.getfield 15) 3 34 := ⟨by decide +kernel, rfl⟩
theorem eX0_someNo_34 : Dn cX0_someNo 34 (.iload 5) 2 36 := ⟨by decide +kernel, rfl⟩
theorem eX0_someNo_36 : Dn cX0_someNo 36 (.iaload) 1 37 := ⟨by decide +kernel, rfl⟩
theorem eX0_someNo_37 : Dn cX0_someNo 37 (.iload_n 2) 1 38 := ⟨by decide +kernel, rfl⟩
theorem eX0_someNo_38 : Dn cX0_someNo 38 (.invokevirtual 101) 3 41 := ⟨by decide +kernel, rfl⟩
theorem eX0_someNo_41 : Dn cX0_someNo 41 (.isub) 1 42 := ⟨by decide +kernel, rfl⟩
theorem eX0_someNo_42 : Dn cX0_someNo 42 (.i2l) 1 43 := ⟨by decide +kernel, rfl⟩
theorem eX0_someNo_43 : Dn cX0_someNo 43 (.lmul) 1 44 := ⟨by decide +kernel, rfl⟩
theorem eX0_someNo_44 : Dn cX0_someNo 44 (.ldc2_w 130) 3 47 := ⟨by decide +kernel, rfl⟩
theorem eX0_someNo_47 : Dn cX0_someNo 47 (.ldiv) 1 48 := ⟨by decide +kernel, rfl⟩
theorem eX0_someNo_48 : Dn cX0_someNo 48 (.lstore_n 3) 1 49 := ⟨by decide +kernel, rfl⟩
theorem eX0_someNo_49 : Dn cX0_someNo 49 (.iinc 5 1) 3 52 := ⟨by decide +kernel, rfl⟩
theorem eX0_someNo_52 : Dn cX0_someNo 52 (.goto (-45)) 3 55 := ⟨by decide +kernel, rfl⟩
theorem eX0_someNo_55 : Dn cX0_someNo 55 (.aload_n 0) 1 56 := ⟨by decide +kernel, rfl⟩
theorem eX0_someNo_56 : Dn cX0_someNo 56 (.iload_n 1) 1 57 := ⟨by decide +kernel, rfl⟩
theorem eX0_someNo_57 : Dn cX0_someNo 57 (.invokevirtual 105) 3 60 := ⟨by decide +kernel, rfl⟩
theorem eX0_someNo_60 : Dn cX0_someNo 60 (.ifCond .eq 21) 3 63 := ⟨by decide +kernel, rfl⟩
theorem eX0_someNo_63 : Dn cX0_someNo 63 (.lload_n 3) 1 64 := ⟨by decide +kernel, rfl⟩
theorem eX0_someNo_64 : Dn cX0_someNo 64 (.bipush 100) 2 66 := ⟨by decide +kernel, rfl⟩
theorem eX0_someNo_66 : Dn cX0_someNo 66 (.aload_n 0) 1 67 := ⟨by decide +kernel, rfl⟩
theorem eX0_someNo_67 : Dn cX0_someNo 67 (.bipush 9) 2 69 := ⟨by decide +kernel, rfl⟩
theorem eX0_someNo_69 : Dn cX0_someNo 69 (.iload_n 2) 1 70 := ⟨by decide +kernel, rfl⟩
theorem eX0_someNo_70 : Dn cX0_someNo 70 (.invokevirtual 101) 3 73 := ⟨by decide +kernel, rfl⟩
theorem eX0_someNo_73 : Dn cX0_someNo 73 (.isub) 1 74 := ⟨by decide +kernel, rfl⟩
theorem eX0_someNo_74 : Dn cX0_someNo 74 (.i2l) 1 75 := ⟨by decide +kernel, rfl⟩
theorem eX0_someNo_75 : Dn cX0_someNo 75 (.lmul) 1 76 := ⟨by decide +kernel, rfl⟩
theorem eX0_someNo_76 : Dn cX0_someNo 76 (.ldc2_w 130) 3 79 := ⟨by decide +kernel, rfl⟩
theorem eX0_someNo_79 : Dn cX0_someNo 79 (.ldiv) 1 80 := ⟨by decide +kernel, rfl⟩
theorem eX0_someNo_80 : Dn cX0_someNo 80 (.lstore_n 3) 1 81 := ⟨by decide +kernel, rfl⟩
theorem eX0_someNo_81 : Dn cX0_someNo 81 (.ldc2_w 128) 3 84 := ⟨by decide +kernel, rfl⟩
theorem eX0_someNo_84 : Dn cX0_someNo 84 (.lload_n 3) 1 85 := ⟨by decide +kernel, rfl⟩
theorem eX0_someNo_85 : Dn cX0_someNo 85 (.lsub) 1 86 := ⟨by decide +kernel, rfl⟩
theorem eX0_someNo_86 : Dn cX0_someNo 86 (.l2i) 1 87 := ⟨by decide +kernel, rfl⟩
theorem eX0_someNo_87 : Dn cX0_someNo 87 (.ireturn) 1 88 := ⟨by decide +kernel, rfl⟩
theorem eX0_mean_0 : Dn cX0_mean 0 (.aload_n 0) 1 1 := ⟨by decide +kernel, rfl⟩
theorem eX0_mean_1 : Dn cX0_mean 1 (.iload_n 1) 1 2 := ⟨by decide +kernel, rfl⟩
theorem eX0_mean_2 : Dn cX0_mean 2 (.invokevirtual 90) 3 5 := ⟨by decide +kernel, rfl⟩
theorem eX0_mean_5 : Dn cX0_mean 5 (.istore_n 2) 1 6 := ⟨by decide +kernel, rfl⟩
theorem eX0_mean_6 : Dn cX0_mean 6 (.aload_n 0) 1 7 := ⟨by decide +kernel, rfl⟩
theorem eX0_mean_7 : Dn cX0_mean 7 (.iload_n 1) 1 8 := ⟨by decide +kernel, rfl⟩
theorem eX0_mean_8 : Dn cX0_mean 8 (.iconst 0) 1 9 := ⟨by decide +kernel, rfl⟩
theorem eX0_mean_9 : Dn cX0_mean 9 (.invokevirtual 132) 3 12 := ⟨by decide +kernel, rfl⟩
theorem eX0_mean_12 : Dn cX0_mean 12 (.istore_n 3) 1 13 := ⟨by decide +kernel, rfl⟩
theorem eX0_mean_13 : Dn cX0_mean 13 (.aload_n 0) 1 14 := ⟨by decide +kernel, rfl⟩
theorem eX0_mean_14 : Dn cX0_mean 14 (.iload_n 1) 1 15 := ⟨by decide +kernel, rfl⟩
theorem eX0_mean_15 : Dn cX0_mean 15 (.iconst 1) 1 16 := ⟨by decide +kernel, rfl⟩
theorem eX0_mean_16 : Dn cX0_mean 16 (.invokevirtual 132) 3 19 := ⟨by decide +kernel, rfl⟩
theorem eX0_mean_19 : Dn cX0_mean 19 (.istore 4) 2 21 := ⟨by decide +kernel, rfl⟩
theorem eX0_mean_21 : Dn cX0_mean 21 (.aload_n 0) 1 22 := ⟨by decide +kernel, rfl⟩
theorem eX0_mean_22 : Dn cX0_mean 22 (.aload_n 0) 1 23 := ⟨by decide +kernel, rfl⟩
theorem eX0_mean_23 : Dn cX0_mean 23 (.getfield 21) 3 26 := ⟨by decide +kernel, rfl⟩
theorem eX0_mean_26 : Dn cX0_mean 26 (.iload_n 1) 1 27 := ⟨by decide +kernel, rfl⟩
theorem eX0_mean_27 : Dn cX0_mean 27 (.iaload) 1 28 := ⟨by decide +kernel, rfl⟩
theorem eX0_mean_28 : Dn cX0_mean 28 (.aload_n 0) 1 29 := ⟨by decide +kernel, rfl⟩
theorem eX0_mean_29 : Dn cX0_mean 29 (.iload_n 1) 1 30 := ⟨by decide +kernel, rfl⟩
theorem eX0_mean_30 : Dn cX0_mean 30 (.invokevirtual 80) 3 33 := ⟨by decide +kernel, rfl⟩
theorem eX0_mean_33 : Dn cX0_mean 33 (.invokestatic 135) 3 36 := ⟨by decide +kernel, rfl⟩
theorem eX0_mean_36 : Dn cX0_mean 36 (.i2l) 1 37 := ⟨by decide +kernel, rfl⟩
theorem eX0_mean_37 : Dn cX0_mean 37 (.bipush 100) 2 39 := ⟨by decide +kernel, rfl⟩
theorem eX0_mean_39 : Dn cX0_mean 39 (.iload_n 2) 1 40 := ⟨by decide +kernel, rfl⟩
theorem eX0_mean_40 : Dn cX0_mean 40 (.isub) 1 41 := ⟨by decide +kernel, rfl⟩
theorem eX0_mean_41 : Dn cX0_mean 41 (.iload_n 3) 1 42 := ⟨by decide +kernel, rfl⟩
theorem eX0_mean_42 : Dn cX0_mean 42 (.invokevirtual 138) 3 45 := ⟨by decide +kernel, rfl⟩
theorem eX0_mean_45 : Dn cX0_mean 45 (.lstore 5) 2 47 := ⟨by decide +kernel, rfl⟩
theorem eX0_mean_47 : Dn cX0_mean 47 (.aload_n 0) 1 48 := ⟨by decide +kernel, rfl⟩
theorem eX0_mean_48 : Dn cX0_mean 48 (.aload_n 0) 1 49 := ⟨by decide +kernel, rfl⟩
theorem eX0_mean_49 : Dn cX0_mean 49 (.getfield 15) 3 52 := ⟨by decide +kernel, rfl⟩
theorem eX0_mean_52 : Dn cX0_mean 52 (.iload_n 1) 1 53 := ⟨by decide +kernel, rfl⟩
theorem eX0_mean_53 : Dn cX0_mean 53 (.iaload) 1 54 := ⟨by decide +kernel, rfl⟩
theorem eX0_mean_54 : Dn cX0_mean 54 (.ifCond .le 7) 3 57 := ⟨by decide +kernel, rfl⟩
theorem eX0_mean_57 : Dn cX0_mean 57 (.lconst 1) 1 58 := ⟨by decide +kernel, rfl⟩
theorem eX0_mean_58 : Dn cX0_mean 58 (.goto 4) 3 61 := ⟨by decide +kernel, rfl⟩
theorem eX0_mean_61 : Dn cX0_mean 61 (.lconst 0) 1 62 := ⟨by decide +kernel, rfl⟩
theorem eX0_mean_62 : Dn cX0_mean 62 (.iload_n 2) 1 63 := ⟨by decide +kernel, rfl⟩
theorem eX0_mean_63 : Dn cX0_mean 63 (.iload 4) 2 65 := ⟨by decide +kernel, rfl⟩
theorem eX0_mean_65 : Dn cX0_mean 65 (.invokevirtual 138) 3 68 := ⟨by decide +kernel, rfl⟩
theorem eX0_mean_68 : Dn cX0_mean 68 (.bipush 100) 2 70 := ⟨by decide +kernel, rfl⟩
theorem eX0_mean_70 : Dn cX0_mean 70 (.aload_n 0) 1 71 := ⟨by decide +kernel, rfl⟩
theorem eX0_mean_71 : Dn cX0_mean 71 (.getfield 27) 3 74 := ⟨by decide +kernel, rfl⟩
theorem eX0_mean_74 : Dn cX0_mean 74 (.iload_n 1) 1 75 := ⟨by decide +kernel, rfl⟩
theorem eX0_mean_75 : Dn cX0_mean 75 (.iaload) 1 76 := ⟨by decide +kernel, rfl⟩
theorem eX0_mean_76 : Dn cX0_mean 76 (.isub) 1 77 := ⟨by decide +kernel, rfl⟩
theorem eX0_mean_77 : Dn cX0_mean 77 (.i2l) 1 78 := ⟨by decide +kernel, rfl⟩
theorem eX0_mean_78 : Dn cX0_mean 78 (.lmul) 1 79 := ⟨by decide +kernel, rfl⟩
theorem eX0_mean_79 : Dn cX0_mean 79 (.ldc2_w 130) 3 82 := ⟨by decide +kernel, rfl⟩
theorem eX0_mean_82 : Dn cX0_mean 82 (.ldiv) 1 83 := ⟨by decide +kernel, rfl⟩
theorem eX0_mean_83 : Dn cX0_mean 83 (.lstore 7) 2 85 := ⟨by decide +kernel, rfl⟩
theorem eX0_mean_85 : Dn cX0_mean 85 (.aload_n 0) 1 86 := ⟨by decide +kernel, rfl⟩
theorem eX0_mean_86 : Dn cX0_mean 86 (.aload_n 0) 1 87 := ⟨by decide +kernel, rfl⟩
theorem eX0_mean_87 : Dn cX0_mean 87 (.iload_n 1) 1 88 := ⟨by decide +kernel, rfl⟩
theorem eX0_mean_88 : Dn cX0_mean 88 (.invokevirtual 80) 3 91 := ⟨by decide +kernel, rfl⟩
theorem eX0_mean_91 : Dn cX0_mean 91 (.ifCond .le 7) 3 94 := ⟨by decide +kernel, rfl⟩
theorem eX0_mean_94 : Dn cX0_mean 94 (.lconst 1) 1 95 := ⟨by decide +kernel, rfl⟩
theorem eX0_mean_95 : Dn cX0_mean 95 (.goto 4) 3 98 := ⟨by decide +kernel, rfl⟩
theorem eX0_mean_98 : Dn cX0_mean 98 (.lconst 0) 1 99 := ⟨by decide +kernel, rfl⟩
theorem eX0_mean_99 : Dn cX0_mean 99 (.iload_n 2) 1 100 := ⟨by decide +kernel, rfl⟩
theorem eX0_mean_100 : Dn cX0_mean 100 (.ldc 142) 2 102 := ⟨by decide +kernel, rfl⟩
theorem eX0_mean_102 : Dn cX0_mean 102 (.iload 4) 2 104 := ⟨by decide +kernel, rfl⟩
theorem eX0_mean_104 : Dn cX0_mean 104 (.isub) 1 105 := ⟨by decide +kernel, rfl⟩
theorem eX0_mean_105 : Dn cX0_mean 105 (.invokevirtual 138) 3 108 := ⟨by decide +kernel, rfl⟩
theorem eX0_mean_108 : Dn cX0_mean 108 (.lstore 9) 2 110 := ⟨by decide +kernel, rfl⟩
theorem eX0_mean_110 : Dn cX0_mean 110 (.lload 5) 2 112 := ⟨by decide +kernel, rfl⟩
theorem eX0_mean_112 : Dn cX0_mean 112 (.lload 7) 2 114 := ⟨by decide +kernel, rfl⟩
theorem eX0_mean_114 : Dn cX0_mean 114 (.lsub) 1 115 := ⟨by decide +kernel, rfl⟩
theorem eX0_mean_115 : Dn cX0_mean 115 (.lload 9) 2 117 := ⟨by decide +kernel, rfl⟩
theorem eX0_mean_117 : Dn cX0_mean 117 (.ladd) 1 118 := ⟨by decide +kernel, rfl⟩
theorem eX0_mean_118 : Dn cX0_mean 118 (.l2i) 1 119 := ⟨by decide +kernel, rfl⟩
theorem eX0_mean_119 : Dn cX0_mean 119 (.ireturn) 1 120 := ⟨by decide +kernel, rfl⟩
theorem eX0_share_0 : Dn cX0_share 0 (.ldc2_w 143) 3 3 := ⟨by decide +kernel, rfl⟩
theorem eX0_share_3 : Dn cX0_share 3 (.lload_n 1) 1 4 := ⟨by decide +kernel, rfl⟩
theorem eX0_share_4 : Dn cX0_share 4 (.lmul) 1 5 := ⟨by decide +kernel, rfl⟩
theorem eX0_share_5 : Dn cX0_share 5 (.iload_n 3) 1 6 := ⟨by decide +kernel, rfl⟩
theorem eX0_share_6 : Dn cX0_share 6 (.i2l) 1 7 := ⟨by decide +kernel, rfl⟩
theorem eX0_share_7 : Dn cX0_share 7 (.lmul) 1 8 := ⟨by decide +kernel, rfl⟩
theorem eX0_share_8 : Dn cX0_share 8 (.ldc2_w 130) 3 11 := ⟨by decide +kernel, rfl⟩
theorem eX0_share_11 : Dn cX0_share 11 (.ldiv) 1 12 := ⟨by decide +kernel, rfl⟩
theorem eX0_share_12 : Dn cX0_share 12 (.iload 4) 2 14 := ⟨by decide +kernel, rfl⟩
theorem eX0_share_14 : Dn cX0_share 14 (.i2l) 1 15 := ⟨by decide +kernel, rfl⟩
theorem eX0_share_15 : Dn cX0_share 15 (.lmul) 1 16 := ⟨by decide +kernel, rfl⟩
theorem eX0_share_16 : Dn cX0_share 16 (.ldc2_w 128) 3 19 := ⟨by decide +kernel, rfl⟩
theorem eX0_share_19 : Dn cX0_share 19 (.ldiv) 1 20 := ⟨by decide +kernel, rfl⟩
theorem eX0_share_20 : Dn cX0_share 20 (.lreturn) 1 21 := ⟨by decide +kernel, rfl⟩
end
section
theorem eX3_init_0 : Dn cX3_init 0 (.aload_n 0) 1 1 := ⟨by decide +kernel, rfl⟩
theorem eX3_init_1 : Dn cX3_init 1 (.invokespecial 3) 3 4 := ⟨by decide +kernel, rfl⟩
theorem eX3_init_4 : Dn cX3_init 4 (.aload_n 0) 1 5 := ⟨by decide +kernel, rfl⟩
theorem eX3_init_5 : Dn cX3_init 5 (.bipush 6) 2 7 := ⟨by decide +kernel, rfl⟩
theorem eX3_init_7 : Dn cX3_init 7 (.newarray .int) 2 9 := ⟨by decide +kernel, rfl⟩
theorem eX3_init_9 : Dn cX3_init 9 (.putfield 9) 3 12 := ⟨by decide +kernel, rfl⟩
theorem eX3_init_12 : Dn cX3_init 12 (.aload_n 0) 1 13 := ⟨by decide +kernel, rfl⟩
theorem eX3_init_13 : Dn cX3_init 13 (.bipush 6) 2 15 := ⟨by decide +kernel, rfl⟩
theorem eX3_init_15 : Dn cX3_init 15 (.newarray .int) 2 17 := ⟨by decide +kernel, rfl⟩
theorem eX3_init_17 : Dn cX3_init 17 (.putfield 15) 3 20 := ⟨by decide +kernel, rfl⟩
theorem eX3_init_20 : Dn cX3_init 20 (.aload_n 0) 1 21 := ⟨by decide +kernel, rfl⟩
theorem eX3_init_21 : Dn cX3_init 21 (.bipush 6) 2 23 := ⟨by decide +kernel, rfl⟩
theorem eX3_init_23 : Dn cX3_init 23 (.newarray .int) 2 25 := ⟨by decide +kernel, rfl⟩
theorem eX3_init_25 : Dn cX3_init 25 (.putfield 18) 3 28 := ⟨by decide +kernel, rfl⟩
theorem eX3_init_28 : Dn cX3_init 28 (.aload_n 0) 1 29 := ⟨by decide +kernel, rfl⟩
theorem eX3_init_29 : Dn cX3_init 29 (.bipush 6) 2 31 := ⟨by decide +kernel, rfl⟩
theorem eX3_init_31 : Dn cX3_init 31 (.newarray .int) 2 33 := ⟨by decide +kernel, rfl⟩
theorem eX3_init_33 : Dn cX3_init 33 (.putfield 21) 3 36 := ⟨by decide +kernel, rfl⟩
theorem eX3_init_36 : Dn cX3_init 36 (.aload_n 0) 1 37 := ⟨by decide +kernel, rfl⟩
theorem eX3_init_37 : Dn cX3_init 37 (.bipush 36) 2 39 := ⟨by decide +kernel, rfl⟩
theorem eX3_init_39 : Dn cX3_init 39 (.newarray .int) 2 41 := ⟨by decide +kernel, rfl⟩
theorem eX3_init_41 : Dn cX3_init 41 (.putfield 24) 3 44 := ⟨by decide +kernel, rfl⟩
theorem eX3_init_44 : Dn cX3_init 44 (.return_) 1 45 := ⟨by decide +kernel, rfl⟩
theorem eX3_topOf_0 : Dn cX3_topOf 0 (.iconst 0) 1 1 := ⟨by decide +kernel, rfl⟩
theorem eX3_topOf_1 : Dn cX3_topOf 1 (.istore 4) 2 3 := ⟨by decide +kernel, rfl⟩
theorem eX3_topOf_3 : Dn cX3_topOf 3 (.iload 4) 2 5 := ⟨by decide +kernel, rfl⟩
theorem eX3_topOf_5 : Dn cX3_topOf 5 (.iload_n 3) 1 6 := ⟨by decide +kernel, rfl⟩
theorem eX3_topOf_6 : Dn cX3_topOf 6 (.if_icmp .ge 39) 3 9 := ⟨by decide +kernel, rfl⟩
theorem eX3_topOf_9 : Dn cX3_topOf 9 (.aload_n 0) 1 10 := ⟨by decide +kernel, rfl⟩
theorem eX3_topOf_10 : Dn cX3_topOf 10 (.getfield 9) 3 13 := ⟨by decide +kernel, rfl⟩
theorem eX3_topOf_13 : Dn cX3_topOf 13 (.iload_n 3) 1 14 := ⟨by decide +kernel, rfl⟩
theorem eX3_topOf_14 : Dn cX3_topOf 14 (.iaload) 1 15 := ⟨by decide +kernel, rfl⟩
theorem eX3_topOf_15 : Dn cX3_topOf 15 (.iload 4) 2 17 := ⟨by decide +kernel, rfl⟩
theorem eX3_topOf_17 : Dn cX3_topOf 17 (.ishr) 1 18 := ⟨by decide +kernel, rfl⟩
theorem eX3_topOf_18 : Dn cX3_topOf 18 (.iconst 1) 1 19 := ⟨by decide +kernel, rfl⟩
theorem eX3_topOf_19 : Dn cX3_topOf 19 (.iand) 1 20 := ⟨by decide +kernel, rfl⟩
theorem eX3_topOf_20 : Dn cX3_topOf 20 (.iconst 1) 1 21 := ⟨by decide +kernel, rfl⟩
theorem eX3_topOf_21 : Dn cX3_topOf 21 (.if_icmp .ne 18) 3 24 := ⟨by decide +kernel, rfl⟩
theorem eX3_topOf_24 : Dn cX3_topOf 24 (.aload_n 1) 1 25 := ⟨by decide +kernel, rfl⟩
theorem eX3_topOf_25 : Dn cX3_topOf 25 (.iload_n 2) 1 26 := ⟨by decide +kernel, rfl⟩
theorem eX3_topOf_26 : Dn cX3_topOf 26 (.bipush 6) 2 28 := ⟨by decide +kernel, rfl⟩
theorem eX3_topOf_28 : Dn cX3_topOf 28 (.imul) 1 29 := ⟨by decide +kernel, rfl⟩
theorem eX3_topOf_29 : Dn cX3_topOf 29 (.iload 4) 2 31 := ⟨by decide +kernel, rfl⟩
theorem eX3_topOf_31 : Dn cX3_topOf 31 (.iadd) 1 32 := ⟨by decide +kernel, rfl⟩
theorem eX3_topOf_32 : Dn cX3_topOf 32 (.iaload) 1 33 := ⟨by decide +kernel, rfl⟩
theorem eX3_topOf_33 : Dn cX3_topOf 33 (.iconst 4) 1 34 := ⟨by decide +kernel, rfl⟩
theorem eX3_topOf_34 : Dn cX3_topOf 34 (.if_icmp .gt 5) 3 37 := ⟨by decide +kernel, rfl⟩
theorem eX3_topOf_37 : Dn cX3_topOf 37 (.iconst 4) 1 38 := ⟨by decide +kernel, rfl⟩
theorem eX3_topOf_38 : Dn cX3_topOf 38 (.ireturn) 1 39 := ⟨by decide +kernel, rfl⟩
theorem eX3_topOf_39 : Dn cX3_topOf 39 (.iinc 4 1) 3 42 := ⟨by decide +kernel, rfl⟩
theorem eX3_topOf_42 : Dn cX3_topOf 42 (.goto (-39)) 3 45 := ⟨by decide +kernel, rfl⟩
theorem eX3_topOf_45 : Dn cX3_topOf 45 (.bipush 9) 2 47 := ⟨by decide +kernel, rfl⟩
theorem eX3_topOf_47 : Dn cX3_topOf 47 (.ireturn) 1 48 := ⟨by decide +kernel, rfl⟩
end
section
def FX3_topOf_39 (k3 : Nat → Nat → Int32 → Int32 → Int32 → St → Option (Int32 × St)) (t0 : Nat) (t1 : Nat) (l2 : Int32) (l3 : Int32) (l4 : Int32) (S : St) : Option (Int32 × St) :=
  let x7 := l4 + 1
  k3 t0 t1 l2 l3 x7 S
def FX3_topOf_3 : Nat → Nat → Nat → Int32 → Int32 → Int32 → St → Option (Int32 × St)
  | 0, _, _, _, _, _, _ => none
  | n + 1, t0, t1, l2, l3, l4, S =>
    if (l3 : Int32) ≤ l4 then (
      some (9, S)
    ) else (
      gd (inB l3 6) <|
      if ((((gN S (t0 + 1) (l3 : Int32).toNatClampNeg) >>> (l4 &&& 31)) &&& 1) : Int32) = 1 then (
        let x4 := (l2 * 6) + l4
        gd (inB x4 36) <|
        if (4 : Int32) < (gN S t1 (x4 : Int32).toNatClampNeg) then (
          FX3_topOf_39 (fun t0_ t1_ l2_ l3_ l4_ S_ => FX3_topOf_3 n t0_ t1_ l2_ l3_ l4_ S_) t0 t1 l2 l3 l4 S
        ) else (
          some (4, S)
        )
      ) else (
        FX3_topOf_39 (fun t0_ t1_ l2_ l3_ l4_ S_ => FX3_topOf_3 n t0_ t1_ l2_ l3_ l4_ S_) t0 t1 l2 l3 l4 S
      )
    )
def fX3_topOf (t0 : Nat) (t1 : Nat) (l2 : Int32) (l3 : Int32) (S : St) : Option (Int32 × St) :=
  FX3_topOf_3 FU t0 t1 l2 l3 0 S
set_option maxRecDepth 4000 in
theorem pX3_topOf_39 {X : VX} {G : VG} {q : Int32 × St} (hX : Fx X G cX3_topOf 5 RX3 0) (hr : Rt X = (some .int)) {k3 : Nat → Nat → Int32 → Int32 → Int32 → St → Option (Int32 × St)} (hk3 : ∀ {t0 : Nat} {t1 : Nat} {l2 : Int32} {l3 : Int32} {l4 : Int32} {S : St} (ht0 : isSch t0 = true) (ht1 : isLev t1 = true), k3 t0 t1 l2 l3 l4 S = some q → V X G 5 (ZQ X G (QI G q)) 3 [some (.ref (G.2.1 t0)), some (.ref (G.2.1 t1)), some (.int l2), some (.int l3), some (.int l4)] [] S) {t0 : Nat} {t1 : Nat} {l2 : Int32} {l3 : Int32} {l4 : Int32} {S : St} (ht0 : isSch t0 = true) (ht1 : isLev t1 = true) (h : FX3_topOf_39 k3 t0 t1 l2 l3 l4 S = some q) : V X G 5 (ZQ X G (QI G q)) 39 [some (.ref (G.2.1 t0)), some (.ref (G.2.1 t1)), some (.int l2), some (.int l3), some (.int l4)] [] S := by
  unfold FX3_topOf_39 at h
  refine v_iinc hX eX3_topOf_39 rfl (congrArg (_ + ·) ic_1) (Nat.le_of_ble_eq_true rfl) rfl (lv' := [some _, some _, some _, some _, some _]) rfl ?_
  refine v_goto hX eX3_topOf_42 rfl ?_
  exact hk3 ht0 ht1 h
set_option maxRecDepth 4000 in
theorem pX3_topOf_3 {X : VX} {G : VG} {q : Int32 × St} (hX : Fx X G cX3_topOf 5 RX3 0) (hr : Rt X = (some .int)) : ∀ (n : Nat) {t0 : Nat} {t1 : Nat} {l2 : Int32} {l3 : Int32} {l4 : Int32} {S : St} (ht0 : isSch t0 = true) (ht1 : isLev t1 = true), FX3_topOf_3 n t0 t1 l2 l3 l4 S = some q → V X G 5 (ZQ X G (QI G q)) 3 [some (.ref (G.2.1 t0)), some (.ref (G.2.1 t1)), some (.int l2), some (.int l3), some (.int l4)] [] S := by
  intro n
  induction n with
  | zero => intro _ _ _ _ _ _ ht0 ht1 h; cases h
  | succ n ih =>
    intro t0 t1 l2 l3 l4 S ht0 ht1 h
    rw [FX3_topOf_3] at h
    refine v_iload hX eX3_topOf_3 rfl ?_
    refine v_iload_n hX eX3_topOf_5 rfl ?_
    refine v_icmp_ge hX eX3_topOf_6 rfl (fun c1 => ?_) (fun c1 => ?_)
    · have h := it_t c1 h
      refine v_bipush hX eX3_topOf_45 bp_9 ?_
      exact v_iret hX hr eX3_topOf_47 h
    · have h := it_f c1 h
      refine v_aload_n hX eX3_topOf_9 rfl ?_
      refine v_gfc hX eX3_topOf_10 clX3 (fk_Sch_2 ht0) (Nat.le_of_ble_eq_true rfl) lk_X3_9 ?_
      refine v_iload_n hX eX3_topOf_13 rfl ?_
      obtain ⟨g2, h⟩ := gd_e h
      refine v_iaload hX eX3_topOf_14 (ak_Sch_1 ht0) g2 ?_
      refine v_iload hX eX3_topOf_15 rfl ?_
      refine v_ishr hX eX3_topOf_17 ?_
      refine v_iconst hX eX3_topOf_18 ic_1 ?_
      refine v_iand hX eX3_topOf_19 ?_
      refine v_iconst hX eX3_topOf_20 ic_1 ?_
      refine v_icmp_ne hX eX3_topOf_21 rfl (fun c3 => ?_) (fun c3 => ?_)
      · have h := it_f c3 h
        exact pX3_topOf_39 hX hr (fun ht0 ht1 h => ih ht0 ht1 h) ht0 ht1 h
      · have h := it_t c3 h
        refine v_aload_n hX eX3_topOf_24 rfl ?_
        refine v_iload_n hX eX3_topOf_25 rfl ?_
        refine v_bipush hX eX3_topOf_26 bp_6 ?_
        refine v_imul hX eX3_topOf_28 ?_
        refine v_iload hX eX3_topOf_29 rfl ?_
        refine v_iadd hX eX3_topOf_31 ?_
        obtain ⟨g5, h⟩ := gd_e h
        refine v_iaload hX eX3_topOf_32 (ak_Lev ht1) g5 ?_
        refine v_iconst hX eX3_topOf_33 ic_4 ?_
        refine v_icmp_gt hX eX3_topOf_34 rfl (fun c6 => ?_) (fun c6 => ?_)
        · have h := it_t c6 h
          exact pX3_topOf_39 hX hr (fun ht0 ht1 h => ih ht0 ht1 h) ht0 ht1 h
        · have h := it_f c6 h
          refine v_iconst hX eX3_topOf_37 ic_4 ?_
          exact v_iret hX hr eX3_topOf_38 h
set_option maxRecDepth 4000 in
theorem pX3_topOf {X : VX} {G : VG} {q : Int32 × St} (hX : Fx X G cX3_topOf 5 RX3 0) (hr : Rt X = (some .int)) {t0 : Nat} {t1 : Nat} {l2 : Int32} {l3 : Int32} {S : St} (ht0 : isSch t0 = true) (ht1 : isLev t1 = true) (h : fX3_topOf t0 t1 l2 l3 S = some q) : V X G 5 (ZQ X G (QI G q)) 0 [some (.ref (G.2.1 t0)), some (.ref (G.2.1 t1)), some (.int l2), some (.int l3), none] [] S := by
  unfold fX3_topOf at h
  refine v_iconst hX eX3_topOf_0 ic_0 ?_
  refine v_istore hX eX3_topOf_1 (lv' := [some _, some _, some _, some _, some _]) (Nat.le_of_ble_eq_true rfl) rfl rfl ?_
  exact pX3_topOf_3 hX hr  _ ht0 ht1 h
set_option maxRecDepth 4000 in
theorem mX3_topOf {l : Launch} {G : VG} {t0 : Nat} {t1 : Nat} {l2 : Int32} {l3 : Int32} {S : St} {q : Int32 × St} (ht0 : isSch t0 = true) (ht1 : isLev t1 = true) (h : fX3_topOf t0 t1 l2 l3 S = some q) : MI l G yX3_topOf cX3_topOf 5 (some .int) 0 [.ref (G.2.1 t0), .ref (G.2.1 t1), .int l2, .int l3] S q :=
  met_of (by decide +kernel) (Nat.le_of_ble_eq_true rfl) (fun X _ hX hr => pX3_topOf hX hr ht0 ht1 h)
end
section
def FX0_leave_2 : Nat → Nat → Int32 → Int32 → St → Option (Unit × St)
  | 0, _, _, _, _ => none
  | n + 1, t1, l2, l3, S =>
    if ((gN S 25 0) : Int32) ≤ l3 then (
      let S2 := sN S t1 2 (gN S 25 3)
      some ((), S2)
    ) else (
      gd (inB l3 6) <|
      gd (inB l3 6) <|
      let x5 := ((gN S 26 (l3 : Int32).toNatClampNeg) * 6) + l2
      gd (inB x5 36) <|
      let S7 := sN S (t1 + 1) (x5 : Int32).toNatClampNeg (gN S 27 (l3 : Int32).toNatClampNeg)
      let x8 := l3 + 1
      FX0_leave_2 n t1 l2 x8 S7
    )
def fX0_leave (t1 : Nat) (l2 : Int32) (S : St) : Option (Unit × St) :=
  FX0_leave_2 FU t1 l2 0 S
set_option maxRecDepth 4000 in
theorem pX0_leave_2 {X : VX} {G : VG} {q : Unit × St} (hX : Fx X G cX0_leave 4 RX0 0) (hr : Rt X = none) : ∀ (n : Nat) {t1 : Nat} {l2 : Int32} {l3 : Int32} {S : St} (ht1 : isStd t1 = true), FX0_leave_2 n t1 l2 l3 S = some q → V X G 4 (ZQ X G (QV G q)) 2 [some (.ref (G.2.1 25)), some (.ref (G.2.1 t1)), some (.int l2), some (.int l3)] [] S := by
  intro n
  induction n with
  | zero => intro _ _ _ _ ht1 h; cases h
  | succ n ih =>
    intro t1 l2 l3 S ht1 h
    rw [FX0_leave_2] at h
    refine v_iload_n hX eX0_leave_2 rfl ?_
    refine v_aload_n hX eX0_leave_3 rfl ?_
    refine v_gfi hX eX0_leave_4 clX0 fk_25_0 (Nat.le_of_ble_eq_true rfl) lk_X0_34 ?_
    refine v_icmp_ge hX eX0_leave_7 rfl (fun c1 => ?_) (fun c1 => ?_)
    · have h := it_t c1 h
      refine v_aload_n hX eX0_leave_38 rfl ?_
      refine v_aload_n hX eX0_leave_39 rfl ?_
      refine v_gfi hX eX0_leave_40 clX0 fk_25_3 (Nat.le_of_ble_eq_true rfl) lk_X0_51 ?_
      refine v_pfi hX eX0_leave_43 clX5 (fk_Std_2 ht1) (Nat.le_of_ble_eq_true rfl) lk_X0_48 rfl rfl ?_
      exact v_vret hX hr eX0_leave_46 h
    · have h := it_f c1 h
      refine v_aload_n hX eX0_leave_10 rfl ?_
      refine v_gfc hX eX0_leave_11 clX5 (fk_Std_0 ht1) (Nat.le_of_ble_eq_true rfl) lk_X0_57 ?_
      refine v_aload_n hX eX0_leave_14 rfl ?_
      refine v_gfc hX eX0_leave_15 clX0 fk_25_4 (Nat.le_of_ble_eq_true rfl) lk_X0_9 ?_
      refine v_iload_n hX eX0_leave_18 rfl ?_
      obtain ⟨g3, h⟩ := gd_e h
      refine v_iaload hX eX0_leave_19 ak_26 g3 ?_
      refine v_bipush hX eX0_leave_20 bp_6 ?_
      refine v_imul hX eX0_leave_22 ?_
      refine v_iload_n hX eX0_leave_23 rfl ?_
      refine v_iadd hX eX0_leave_24 ?_
      refine v_aload_n hX eX0_leave_25 rfl ?_
      refine v_gfc hX eX0_leave_26 clX0 fk_25_5 (Nat.le_of_ble_eq_true rfl) lk_X0_15 ?_
      refine v_iload_n hX eX0_leave_29 rfl ?_
      obtain ⟨g4, h⟩ := gd_e h
      refine v_iaload hX eX0_leave_30 ak_27 g4 ?_
      obtain ⟨g6, h⟩ := gd_e h
      refine v_iastore hX eX0_leave_31 (ak_Std_1 ht1) g6 ?_
      refine v_iinc hX eX0_leave_32 rfl (congrArg (_ + ·) ic_1) (Nat.le_of_ble_eq_true rfl) rfl (lv' := [some _, some _, some _, some _]) rfl ?_
      refine v_goto hX eX0_leave_35 rfl ?_
      exact ih ht1 h
set_option maxRecDepth 4000 in
theorem pX0_leave {X : VX} {G : VG} {q : Unit × St} (hX : Fx X G cX0_leave 4 RX0 0) (hr : Rt X = none) {t1 : Nat} {l2 : Int32} {S : St} (ht1 : isStd t1 = true) (h : fX0_leave t1 l2 S = some q) : V X G 4 (ZQ X G (QV G q)) 0 [some (.ref (G.2.1 25)), some (.ref (G.2.1 t1)), some (.int l2), none] [] S := by
  unfold fX0_leave at h
  refine v_iconst hX eX0_leave_0 ic_0 ?_
  refine v_istore_n hX eX0_leave_1 (lv' := [some _, some _, some _, some _]) (Nat.le_of_ble_eq_true rfl) rfl rfl ?_
  exact pX0_leave_2 hX hr  _ ht1 h
set_option maxRecDepth 4000 in
theorem mX0_leave {l : Launch} {G : VG} {t1 : Nat} {l2 : Int32} {S : St} {q : Unit × St} (ht1 : isStd t1 = true) (h : fX0_leave t1 l2 S = some q) : MV l G yX0_leave cX0_leave 4 none 0 [.ref (G.2.1 25), .ref (G.2.1 t1), .int l2] S q :=
  met_of (by decide +kernel) (Nat.le_of_ble_eq_true rfl) (fun X _ hX hr => pX0_leave hX hr ht1 h)
def FX0_code_9 : Nat → Int32 → Int32 → St → Option (Int32 × St)
  | 0, _, _, _ => none
  | n + 1, l1, l2, S =>
    if (l2 : Int32) < 0 then (
      some (l1, S)
    ) else (
      gd (inB l2 6) <|
      let x4 := (l1 * 10) + (gN S 27 (l2 : Int32).toNatClampNeg)
      let x5 := l2 + (-1)
      FX0_code_9 n x4 x5 S
    )
def fX0_code  (S : St) : Option (Int32 × St) :=
  let x1 := (gN S 25 0) - 1
  FX0_code_9 FU 0 x1 S
set_option maxRecDepth 4000 in
theorem pX0_code_9 {X : VX} {G : VG} {q : Int32 × St} (hX : Fx X G cX0_code 3 RX0 0) (hr : Rt X = (some .int)) : ∀ (n : Nat) {l1 : Int32} {l2 : Int32} {S : St}, FX0_code_9 n l1 l2 S = some q → V X G 3 (ZQ X G (QI G q)) 9 [some (.ref (G.2.1 25)), some (.int l1), some (.int l2)] [] S := by
  intro n
  induction n with
  | zero => intro _ _ _  h; cases h
  | succ n ih =>
    intro l1 l2 S  h
    rw [FX0_code_9] at h
    refine v_iload_n hX eX0_code_9 rfl ?_
    refine v_if_lt hX eX0_code_10 rfl (fun c2 => ?_) (fun c2 => ?_)
    · have h := it_t c2 h
      refine v_iload_n hX eX0_code_31 rfl ?_
      exact v_iret hX hr eX0_code_32 h
    · have h := it_f c2 h
      refine v_iload_n hX eX0_code_13 rfl ?_
      refine v_bipush hX eX0_code_14 bp_10 ?_
      refine v_imul hX eX0_code_16 ?_
      refine v_aload_n hX eX0_code_17 rfl ?_
      refine v_gfc hX eX0_code_18 clX0 fk_25_5 (Nat.le_of_ble_eq_true rfl) lk_X0_15 ?_
      refine v_iload_n hX eX0_code_21 rfl ?_
      obtain ⟨g3, h⟩ := gd_e h
      refine v_iaload hX eX0_code_22 ak_27 g3 ?_
      refine v_iadd hX eX0_code_23 ?_
      refine v_istore_n hX eX0_code_24 (lv' := [some _, some _, some _]) (Nat.le_of_ble_eq_true rfl) rfl rfl ?_
      refine v_iinc hX eX0_code_25 rfl (congrArg (_ + ·) ic_m1) (Nat.le_of_ble_eq_true rfl) rfl (lv' := [some _, some _, some _]) rfl ?_
      refine v_goto hX eX0_code_28 rfl ?_
      exact ih h
set_option maxRecDepth 4000 in
theorem pX0_code {X : VX} {G : VG} {q : Int32 × St} (hX : Fx X G cX0_code 3 RX0 0) (hr : Rt X = (some .int))  {S : St} (h : fX0_code  S = some q) : V X G 3 (ZQ X G (QI G q)) 0 [some (.ref (G.2.1 25)), none, none] [] S := by
  unfold fX0_code at h
  refine v_iconst hX eX0_code_0 ic_0 ?_
  refine v_istore_n hX eX0_code_1 (lv' := [some _, some _, none]) (Nat.le_of_ble_eq_true rfl) rfl rfl ?_
  refine v_aload_n hX eX0_code_2 rfl ?_
  refine v_gfi hX eX0_code_3 clX0 fk_25_0 (Nat.le_of_ble_eq_true rfl) lk_X0_34 ?_
  refine v_iconst hX eX0_code_6 ic_1 ?_
  refine v_isub hX eX0_code_7 ?_
  refine v_istore_n hX eX0_code_8 (lv' := [some _, some _, some _]) (Nat.le_of_ble_eq_true rfl) rfl rfl ?_
  exact pX0_code_9 hX hr  _ h
set_option maxRecDepth 4000 in
theorem mX0_code {l : Launch} {G : VG}  {S : St} {q : Int32 × St} (h : fX0_code  S = some q) : MI l G yX0_code cX0_code 3 (some .int) 0 [.ref (G.2.1 25)] S q :=
  met_of (by decide +kernel) (Nat.le_of_ble_eq_true rfl) (fun X _ hX hr => pX0_code hX hr  h)
def FX0_setLevels_4 : Nat → Int32 → Int32 → St → Option (Unit × St)
  | 0, _, _, _ => none
  | n + 1, l2, l3, S =>
    if ((gN S 25 0) : Int32) ≤ l3 then (
      some ((), S)
    ) else (
      gd (inB l3 6) <|
      let S3 := sN S 27 (l3 : Int32).toNatClampNeg (l2 - l2 / 10 * 10)
      let x4 := l2 / 10
      let x5 := l3 + 1
      FX0_setLevels_4 n x4 x5 S3
    )
def fX0_setLevels (l1 : Int32) (S : St) : Option (Unit × St) :=
  FX0_setLevels_4 FU l1 0 S
set_option maxRecDepth 4000 in
theorem pX0_setLevels_4 {X : VX} {G : VG} {q : Unit × St} (hX : Fx X G cX0_setLevels 4 RX0 0) (hr : Rt X = none) : ∀ (n : Nat) {l2 : Int32} {l3 : Int32} {S : St}, FX0_setLevels_4 n l2 l3 S = some q → V X G 4 (ZQ X G (QV G q)) 4 [some (.ref (G.2.1 25)), none, some (.int l2), some (.int l3)] [] S := by
  intro n
  induction n with
  | zero => intro _ _ _  h; cases h
  | succ n ih =>
    intro l2 l3 S  h
    rw [FX0_setLevels_4] at h
    refine v_iload_n hX eX0_setLevels_4 rfl ?_
    refine v_aload_n hX eX0_setLevels_5 rfl ?_
    refine v_gfi hX eX0_setLevels_6 clX0 fk_25_0 (Nat.le_of_ble_eq_true rfl) lk_X0_34 ?_
    refine v_icmp_ge hX eX0_setLevels_9 rfl (fun c1 => ?_) (fun c1 => ?_)
    · have h := it_t c1 h
      exact v_vret hX hr eX0_setLevels_33 h
    · have h := it_f c1 h
      refine v_aload_n hX eX0_setLevels_12 rfl ?_
      refine v_gfc hX eX0_setLevels_13 clX0 fk_25_5 (Nat.le_of_ble_eq_true rfl) lk_X0_15 ?_
      refine v_iload_n hX eX0_setLevels_16 rfl ?_
      refine v_iload_n hX eX0_setLevels_17 rfl ?_
      refine v_bipush hX eX0_setLevels_18 bp_10 ?_
      refine v_irem hX eX0_setLevels_20 nz_10 ?_
      obtain ⟨g2, h⟩ := gd_e h
      refine v_iastore hX eX0_setLevels_21 ak_27 g2 ?_
      refine v_iload_n hX eX0_setLevels_22 rfl ?_
      refine v_bipush hX eX0_setLevels_23 bp_10 ?_
      refine v_idiv hX eX0_setLevels_25 nz_10 ?_
      refine v_istore_n hX eX0_setLevels_26 (lv' := [some _, none, some _, some _]) (Nat.le_of_ble_eq_true rfl) rfl rfl ?_
      refine v_iinc hX eX0_setLevels_27 rfl (congrArg (_ + ·) ic_1) (Nat.le_of_ble_eq_true rfl) rfl (lv' := [some _, none, some _, some _]) rfl ?_
      refine v_goto hX eX0_setLevels_30 rfl ?_
      exact ih h
set_option maxRecDepth 4000 in
theorem pX0_setLevels {X : VX} {G : VG} {q : Unit × St} (hX : Fx X G cX0_setLevels 4 RX0 0) (hr : Rt X = none) {l1 : Int32} {S : St} (h : fX0_setLevels l1 S = some q) : V X G 4 (ZQ X G (QV G q)) 0 [some (.ref (G.2.1 25)), some (.int l1), none, none] [] S := by
  unfold fX0_setLevels at h
  refine v_iload_n hX eX0_setLevels_0 rfl ?_
  refine v_istore_n hX eX0_setLevels_1 (lv' := [some _, some _, some _, none]) (Nat.le_of_ble_eq_true rfl) rfl rfl ?_
  refine v_iconst hX eX0_setLevels_2 ic_0 ?_
  refine v_istore_n hX eX0_setLevels_3 (lv' := [some _, some _, some _, some _]) (Nat.le_of_ble_eq_true rfl) rfl rfl ?_
  refine v_drop 1 (lv' := [some _, none, some _, some _]) rfl ?_
  exact pX0_setLevels_4 hX hr  _ h
set_option maxRecDepth 4000 in
theorem mX0_setLevels {l : Launch} {G : VG} {l1 : Int32} {S : St} {q : Unit × St} (h : fX0_setLevels l1 S = some q) : MV l G yX0_setLevels cX0_setLevels 4 none 0 [.ref (G.2.1 25), .int l1] S q :=
  met_of (by decide +kernel) (Nat.le_of_ble_eq_true rfl) (fun X _ hX hr => pX0_setLevels hX hr  h)
def fX0_room (l1 : Int32) (S : St) : Option (Int32 × St) :=
  gd (inB l1 6) <|
  gd (inB l1 6) <|
  let x3 := (gN S 28 (l1 : Int32).toNatClampNeg) - (gN S 27 (l1 : Int32).toNatClampNeg)
  some ((if (0 : Int32) < x3 then x3 else 0), S)
set_option maxRecDepth 4000 in
theorem pX0_room {X : VX} {G : VG} {q : Int32 × St} (hX : Fx X G cX0_room 2 RX0 0) (hr : Rt X = (some .int)) {l1 : Int32} {S : St} (h : fX0_room l1 S = some q) : V X G 2 (ZQ X G (QI G q)) 0 [some (.ref (G.2.1 25)), some (.int l1)] [] S := by
  unfold fX0_room at h
  refine v_iconst hX eX0_room_0 ic_0 ?_
  refine v_aload_n hX eX0_room_1 rfl ?_
  refine v_gfc hX eX0_room_2 clX0 fk_25_6 (Nat.le_of_ble_eq_true rfl) lk_X0_18 ?_
  refine v_iload_n hX eX0_room_5 rfl ?_
  obtain ⟨g1, h⟩ := gd_e h
  refine v_iaload hX eX0_room_6 ak_28 g1 ?_
  refine v_aload_n hX eX0_room_7 rfl ?_
  refine v_gfc hX eX0_room_8 clX0 fk_25_5 (Nat.le_of_ble_eq_true rfl) lk_X0_15 ?_
  refine v_iload_n hX eX0_room_11 rfl ?_
  obtain ⟨g2, h⟩ := gd_e h
  refine v_iaload hX eX0_room_12 ak_27 g2 ?_
  refine v_isub hX eX0_room_13 ?_
  refine v_mmax hX eX0_room_14 wm_X0_67 (Nat.le_of_ble_eq_true rfl) ?_
  exact v_iret hX hr eX0_room_17 h
set_option maxRecDepth 4000 in
theorem mX0_room {l : Launch} {G : VG} {l1 : Int32} {S : St} {q : Int32 × St} (h : fX0_room l1 S = some q) : MI l G yX0_room cX0_room 2 (some .int) 0 [.ref (G.2.1 25), .int l1] S q :=
  met_of (by decide +kernel) (Nat.le_of_ble_eq_true rfl) (fun X _ hX hr => pX0_room hX hr  h)
def FX0_rise_54 (s0 : Int32) (s1 : Int32) (S : St) : Option (Unit × St) :=
  gd (inB s1 6) <|
  let S10 := sN S 27 (s1 : Int32).toNatClampNeg s0
  some ((), S10)
def fX0_rise (l1 : Int32) (l2 : Int32) (S : St) : Option (Unit × St) :=
  gd (inB l1 6) <|
  gd (inB l1 6) <|
  if ((gN S 28 (l1 : Int32).toNatClampNeg) : Int32) ≤ (gN S 27 (l1 : Int32).toNatClampNeg) then (
    some ((), S)
  ) else (
    gd (inB l1 6) <|
    gd (inB l1 6) <|
    if ((gN S 28 (l1 : Int32).toNatClampNeg) : Int32) ≤ ((gN S 27 (l1 : Int32).toNatClampNeg) + l2) then (
      gd (inB l1 6) <|
      FX0_rise_54 (gN S 28 (l1 : Int32).toNatClampNeg) l1 S
    ) else (
      gd (inB l1 6) <|
      FX0_rise_54 ((gN S 27 (l1 : Int32).toNatClampNeg) + l2) l1 S
    )
  )
set_option maxRecDepth 4000 in
theorem pX0_rise_54 {X : VX} {G : VG} {q : Unit × St} (hX : Fx X G cX0_rise 3 RX0 0) (hr : Rt X = none) {s0 : Int32} {s1 : Int32} {S : St} (h : FX0_rise_54 s0 s1 S = some q) : V X G 3 (ZQ X G (QV G q)) 54 [none, none, none] [.int s0, .int s1, .ref (G.2.1 27)] S := by
  unfold FX0_rise_54 at h
  obtain ⟨g9, h⟩ := gd_e h
  refine v_iastore hX eX0_rise_54 ak_27 g9 ?_
  exact v_vret hX hr eX0_rise_55 h
set_option maxRecDepth 4000 in
theorem pX0_rise {X : VX} {G : VG} {q : Unit × St} (hX : Fx X G cX0_rise 3 RX0 0) (hr : Rt X = none) {l1 : Int32} {l2 : Int32} {S : St} (h : fX0_rise l1 l2 S = some q) : V X G 3 (ZQ X G (QV G q)) 0 [some (.ref (G.2.1 25)), some (.int l1), some (.int l2)] [] S := by
  unfold fX0_rise at h
  refine v_aload_n hX eX0_rise_0 rfl ?_
  refine v_gfc hX eX0_rise_1 clX0 fk_25_5 (Nat.le_of_ble_eq_true rfl) lk_X0_15 ?_
  refine v_iload_n hX eX0_rise_4 rfl ?_
  obtain ⟨g1, h⟩ := gd_e h
  refine v_iaload hX eX0_rise_5 ak_27 g1 ?_
  refine v_aload_n hX eX0_rise_6 rfl ?_
  refine v_gfc hX eX0_rise_7 clX0 fk_25_6 (Nat.le_of_ble_eq_true rfl) lk_X0_18 ?_
  refine v_iload_n hX eX0_rise_10 rfl ?_
  obtain ⟨g2, h⟩ := gd_e h
  refine v_iaload hX eX0_rise_11 ak_28 g2 ?_
  refine v_icmp_ge hX eX0_rise_12 rfl (fun c3 => ?_) (fun c3 => ?_)
  · have h := it_t c3 h
    exact v_vret hX hr eX0_rise_55 h
  · have h := it_f c3 h
    refine v_aload_n hX eX0_rise_15 rfl ?_
    refine v_gfc hX eX0_rise_16 clX0 fk_25_5 (Nat.le_of_ble_eq_true rfl) lk_X0_15 ?_
    refine v_iload_n hX eX0_rise_19 rfl ?_
    refine v_aload_n hX eX0_rise_20 rfl ?_
    refine v_gfc hX eX0_rise_21 clX0 fk_25_5 (Nat.le_of_ble_eq_true rfl) lk_X0_15 ?_
    refine v_iload_n hX eX0_rise_24 rfl ?_
    obtain ⟨g4, h⟩ := gd_e h
    refine v_iaload hX eX0_rise_25 ak_27 g4 ?_
    refine v_iload_n hX eX0_rise_26 rfl ?_
    refine v_iadd hX eX0_rise_27 ?_
    refine v_aload_n hX eX0_rise_28 rfl ?_
    refine v_gfc hX eX0_rise_29 clX0 fk_25_6 (Nat.le_of_ble_eq_true rfl) lk_X0_18 ?_
    refine v_iload_n hX eX0_rise_32 rfl ?_
    obtain ⟨g5, h⟩ := gd_e h
    refine v_iaload hX eX0_rise_33 ak_28 g5 ?_
    refine v_icmp_ge hX eX0_rise_34 rfl (fun c6 => ?_) (fun c6 => ?_)
    · have h := it_t c6 h
      refine v_aload_n hX eX0_rise_48 rfl ?_
      refine v_gfc hX eX0_rise_49 clX0 fk_25_6 (Nat.le_of_ble_eq_true rfl) lk_X0_18 ?_
      refine v_iload_n hX eX0_rise_52 rfl ?_
      obtain ⟨g7, h⟩ := gd_e h
      refine v_iaload hX eX0_rise_53 ak_28 g7 ?_
      refine v_drop 0 (lv' := [none, some _, some _]) rfl ?_
      refine v_drop 1 (lv' := [none, none, some _]) rfl ?_
      refine v_drop 2 (lv' := [none, none, none]) rfl ?_
      exact pX0_rise_54 hX hr  h
    · have h := it_f c6 h
      refine v_aload_n hX eX0_rise_37 rfl ?_
      refine v_gfc hX eX0_rise_38 clX0 fk_25_5 (Nat.le_of_ble_eq_true rfl) lk_X0_15 ?_
      refine v_iload_n hX eX0_rise_41 rfl ?_
      obtain ⟨g8, h⟩ := gd_e h
      refine v_iaload hX eX0_rise_42 ak_27 g8 ?_
      refine v_iload_n hX eX0_rise_43 rfl ?_
      refine v_iadd hX eX0_rise_44 ?_
      refine v_goto hX eX0_rise_45 rfl ?_
      refine v_drop 0 (lv' := [none, some _, some _]) rfl ?_
      refine v_drop 1 (lv' := [none, none, some _]) rfl ?_
      refine v_drop 2 (lv' := [none, none, none]) rfl ?_
      exact pX0_rise_54 hX hr  h
set_option maxRecDepth 4000 in
theorem mX0_rise {l : Launch} {G : VG} {l1 : Int32} {l2 : Int32} {S : St} {q : Unit × St} (h : fX0_rise l1 l2 S = some q) : MV l G yX0_rise cX0_rise 3 none 0 [.ref (G.2.1 25), .int l1, .int l2] S q :=
  met_of (by decide +kernel) (Nat.le_of_ble_eq_true rfl) (fun X _ hX hr => pX0_rise hX hr  h)
def FX0_knowing_29 (k4 : Int32 → Int32 → St → Option (Int32 × St)) (l2 : Int32) (s0 : Int32) (s1 : Int32) (S : St) : Option (Int32 × St) :=
  let x4 := s1 + s0
  let x5 := l2 + 1
  k4 x4 x5 S
def FX0_knowing_4 : Nat → Int32 → Int32 → St → Option (Int32 × St)
  | 0, _, _, _ => none
  | n + 1, l1, l2, S =>
    if ((gN S 25 0) : Int32) ≤ l2 then (
      some (l1, S)
    ) else (
      gd (inB l2 6) <|
      if ((gN S 27 (l2 : Int32).toNatClampNeg) : Int32) = 9 then (
        FX0_knowing_29 (fun l1_ l2_ S_ => FX0_knowing_4 n l1_ l2_ S_) l2 1 l1 S
      ) else (
        FX0_knowing_29 (fun l1_ l2_ S_ => FX0_knowing_4 n l1_ l2_ S_) l2 0 l1 S
      )
    )
def fX0_knowing  (S : St) : Option (Int32 × St) :=
  FX0_knowing_4 FU 0 0 S
set_option maxRecDepth 4000 in
theorem pX0_knowing_29 {X : VX} {G : VG} {q : Int32 × St} (hX : Fx X G cX0_knowing 3 RX0 0) (hr : Rt X = (some .int)) {k4 : Int32 → Int32 → St → Option (Int32 × St)} (hk4 : ∀ {l1 : Int32} {l2 : Int32} {S : St}, k4 l1 l2 S = some q → V X G 3 (ZQ X G (QI G q)) 4 [some (.ref (G.2.1 25)), some (.int l1), some (.int l2)] [] S) {l2 : Int32} {s0 : Int32} {s1 : Int32} {S : St} (h : FX0_knowing_29 k4 l2 s0 s1 S = some q) : V X G 3 (ZQ X G (QI G q)) 29 [some (.ref (G.2.1 25)), none, some (.int l2)] [.int s0, .int s1] S := by
  unfold FX0_knowing_29 at h
  refine v_iadd hX eX0_knowing_29 ?_
  refine v_istore_n hX eX0_knowing_30 (lv' := [some _, some _, some _]) (Nat.le_of_ble_eq_true rfl) rfl rfl ?_
  refine v_iinc hX eX0_knowing_31 rfl (congrArg (_ + ·) ic_1) (Nat.le_of_ble_eq_true rfl) rfl (lv' := [some _, some _, some _]) rfl ?_
  refine v_goto hX eX0_knowing_34 rfl ?_
  exact hk4 h
set_option maxRecDepth 4000 in
theorem pX0_knowing_4 {X : VX} {G : VG} {q : Int32 × St} (hX : Fx X G cX0_knowing 3 RX0 0) (hr : Rt X = (some .int)) : ∀ (n : Nat) {l1 : Int32} {l2 : Int32} {S : St}, FX0_knowing_4 n l1 l2 S = some q → V X G 3 (ZQ X G (QI G q)) 4 [some (.ref (G.2.1 25)), some (.int l1), some (.int l2)] [] S := by
  intro n
  induction n with
  | zero => intro _ _ _  h; cases h
  | succ n ih =>
    intro l1 l2 S  h
    rw [FX0_knowing_4] at h
    refine v_iload_n hX eX0_knowing_4 rfl ?_
    refine v_aload_n hX eX0_knowing_5 rfl ?_
    refine v_gfi hX eX0_knowing_6 clX0 fk_25_0 (Nat.le_of_ble_eq_true rfl) lk_X0_34 ?_
    refine v_icmp_ge hX eX0_knowing_9 rfl (fun c1 => ?_) (fun c1 => ?_)
    · have h := it_t c1 h
      refine v_iload_n hX eX0_knowing_37 rfl ?_
      exact v_iret hX hr eX0_knowing_38 h
    · have h := it_f c1 h
      refine v_iload_n hX eX0_knowing_12 rfl ?_
      refine v_aload_n hX eX0_knowing_13 rfl ?_
      refine v_gfc hX eX0_knowing_14 clX0 fk_25_5 (Nat.le_of_ble_eq_true rfl) lk_X0_15 ?_
      refine v_iload_n hX eX0_knowing_17 rfl ?_
      obtain ⟨g2, h⟩ := gd_e h
      refine v_iaload hX eX0_knowing_18 ak_27 g2 ?_
      refine v_bipush hX eX0_knowing_19 bp_9 ?_
      refine v_icmp_ne hX eX0_knowing_21 rfl (fun c3 => ?_) (fun c3 => ?_)
      · have h := it_f c3 h
        refine v_iconst hX eX0_knowing_28 ic_0 ?_
        refine v_drop 1 (lv' := [some _, none, some _]) rfl ?_
        exact pX0_knowing_29 hX hr (fun h => ih h) h
      · have h := it_t c3 h
        refine v_iconst hX eX0_knowing_24 ic_1 ?_
        refine v_goto hX eX0_knowing_25 rfl ?_
        refine v_drop 1 (lv' := [some _, none, some _]) rfl ?_
        exact pX0_knowing_29 hX hr (fun h => ih h) h
set_option maxRecDepth 4000 in
theorem pX0_knowing {X : VX} {G : VG} {q : Int32 × St} (hX : Fx X G cX0_knowing 3 RX0 0) (hr : Rt X = (some .int))  {S : St} (h : fX0_knowing  S = some q) : V X G 3 (ZQ X G (QI G q)) 0 [some (.ref (G.2.1 25)), none, none] [] S := by
  unfold fX0_knowing at h
  refine v_iconst hX eX0_knowing_0 ic_0 ?_
  refine v_istore_n hX eX0_knowing_1 (lv' := [some _, some _, none]) (Nat.le_of_ble_eq_true rfl) rfl rfl ?_
  refine v_iconst hX eX0_knowing_2 ic_0 ?_
  refine v_istore_n hX eX0_knowing_3 (lv' := [some _, some _, some _]) (Nat.le_of_ble_eq_true rfl) rfl rfl ?_
  exact pX0_knowing_4 hX hr  _ h
set_option maxRecDepth 4000 in
theorem mX0_knowing {l : Launch} {G : VG}  {S : St} {q : Int32 × St} (h : fX0_knowing  S = some q) : MI l G yX0_knowing cX0_knowing 3 (some .int) 0 [.ref (G.2.1 25)] S q :=
  met_of (by decide +kernel) (Nat.le_of_ble_eq_true rfl) (fun X _ hX hr => pX0_knowing hX hr  h)
def FX0_isBarred_34 (k2 : Int32 → St → Option (Int32 × St)) (l1 : Int32) (S : St) : Option (Int32 × St) :=
  let x6 := l1 + 1
  k2 x6 S
def FX0_isBarred_2 : Nat → Int32 → St → Option (Int32 × St)
  | 0, _, _ => none
  | n + 1, l1, S =>
    if ((gN S 25 0) : Int32) ≤ l1 then (
      some (0, S)
    ) else (
      gd (inB l1 6) <|
      if (9 : Int32) ≤ (gN S 27 (l1 : Int32).toNatClampNeg) then (
        FX0_isBarred_34 (fun l1_ S_ => FX0_isBarred_2 n l1_ S_) l1 S
      ) else (
        gd (inB l1 6) <|
        if (9 : Int32) ≤ (gN S 28 (l1 : Int32).toNatClampNeg) then (
          FX0_isBarred_34 (fun l1_ S_ => FX0_isBarred_2 n l1_ S_) l1 S
        ) else (
          some (1, S)
        )
      )
    )
def fX0_isBarred  (S : St) : Option (Int32 × St) :=
  FX0_isBarred_2 FU 0 S
set_option maxRecDepth 4000 in
theorem pX0_isBarred_34 {X : VX} {G : VG} {q : Int32 × St} (hX : Fx X G cX0_isBarred 2 RX0 0) (hr : Rt X = (some .boolean)) {k2 : Int32 → St → Option (Int32 × St)} (hk2 : ∀ {l1 : Int32} {S : St}, k2 l1 S = some q → V X G 2 (ZQ X G (QI G q)) 2 [some (.ref (G.2.1 25)), some (.int l1)] [] S) {l1 : Int32} {S : St} (h : FX0_isBarred_34 k2 l1 S = some q) : V X G 2 (ZQ X G (QI G q)) 34 [some (.ref (G.2.1 25)), some (.int l1)] [] S := by
  unfold FX0_isBarred_34 at h
  refine v_iinc hX eX0_isBarred_34 rfl (congrArg (_ + ·) ic_1) (Nat.le_of_ble_eq_true rfl) rfl (lv' := [some _, some _]) rfl ?_
  refine v_goto hX eX0_isBarred_37 rfl ?_
  exact hk2 h
set_option maxRecDepth 4000 in
theorem pX0_isBarred_2 {X : VX} {G : VG} {q : Int32 × St} (hX : Fx X G cX0_isBarred 2 RX0 0) (hr : Rt X = (some .boolean)) : ∀ (n : Nat) {l1 : Int32} {S : St}, FX0_isBarred_2 n l1 S = some q → V X G 2 (ZQ X G (QI G q)) 2 [some (.ref (G.2.1 25)), some (.int l1)] [] S := by
  intro n
  induction n with
  | zero => intro _ _  h; cases h
  | succ n ih =>
    intro l1 S  h
    rw [FX0_isBarred_2] at h
    refine v_iload_n hX eX0_isBarred_2 rfl ?_
    refine v_aload_n hX eX0_isBarred_3 rfl ?_
    refine v_gfi hX eX0_isBarred_4 clX0 fk_25_0 (Nat.le_of_ble_eq_true rfl) lk_X0_34 ?_
    refine v_icmp_ge hX eX0_isBarred_7 rfl (fun c1 => ?_) (fun c1 => ?_)
    · have h := it_t c1 h
      refine v_iconst hX eX0_isBarred_40 ic_0 ?_
      exact v_zret hX hr eX0_isBarred_41 rfl h
    · have h := it_f c1 h
      refine v_aload_n hX eX0_isBarred_10 rfl ?_
      refine v_gfc hX eX0_isBarred_11 clX0 fk_25_5 (Nat.le_of_ble_eq_true rfl) lk_X0_15 ?_
      refine v_iload_n hX eX0_isBarred_14 rfl ?_
      obtain ⟨g2, h⟩ := gd_e h
      refine v_iaload hX eX0_isBarred_15 ak_27 g2 ?_
      refine v_bipush hX eX0_isBarred_16 bp_9 ?_
      refine v_icmp_ge hX eX0_isBarred_18 rfl (fun c3 => ?_) (fun c3 => ?_)
      · have h := it_t c3 h
        exact pX0_isBarred_34 hX hr (fun h => ih h) h
      · have h := it_f c3 h
        refine v_aload_n hX eX0_isBarred_21 rfl ?_
        refine v_gfc hX eX0_isBarred_22 clX0 fk_25_6 (Nat.le_of_ble_eq_true rfl) lk_X0_18 ?_
        refine v_iload_n hX eX0_isBarred_25 rfl ?_
        obtain ⟨g4, h⟩ := gd_e h
        refine v_iaload hX eX0_isBarred_26 ak_28 g4 ?_
        refine v_bipush hX eX0_isBarred_27 bp_9 ?_
        refine v_icmp_ge hX eX0_isBarred_29 rfl (fun c5 => ?_) (fun c5 => ?_)
        · have h := it_t c5 h
          exact pX0_isBarred_34 hX hr (fun h => ih h) h
        · have h := it_f c5 h
          refine v_iconst hX eX0_isBarred_32 ic_1 ?_
          exact v_zret hX hr eX0_isBarred_33 rfl h
set_option maxRecDepth 4000 in
theorem pX0_isBarred {X : VX} {G : VG} {q : Int32 × St} (hX : Fx X G cX0_isBarred 2 RX0 0) (hr : Rt X = (some .boolean))  {S : St} (h : fX0_isBarred  S = some q) : V X G 2 (ZQ X G (QI G q)) 0 [some (.ref (G.2.1 25)), none] [] S := by
  unfold fX0_isBarred at h
  refine v_iconst hX eX0_isBarred_0 ic_0 ?_
  refine v_istore_n hX eX0_isBarred_1 (lv' := [some _, some _]) (Nat.le_of_ble_eq_true rfl) rfl rfl ?_
  exact pX0_isBarred_2 hX hr  _ h
set_option maxRecDepth 4000 in
theorem mX0_isBarred {l : Launch} {G : VG}  {S : St} {q : Int32 × St} (h : fX0_isBarred  S = some q) : MI l G yX0_isBarred cX0_isBarred 2 (some .boolean) 0 [.ref (G.2.1 25)] S q :=
  met_of (by decide +kernel) (Nat.le_of_ble_eq_true rfl) (fun X _ hX hr => pX0_isBarred hX hr  h)
def fX0_after (l1 : Int32) (S : St) : Option (Int32 × St) :=
  if ((gN S 25 0) : Int32) ≤ (l1 + 1) then (
    some (0, S)
  ) else (
    some (l1 + 1, S)
  )
set_option maxRecDepth 4000 in
theorem pX0_after {X : VX} {G : VG} {q : Int32 × St} (hX : Fx X G cX0_after 2 RX0 0) (hr : Rt X = (some .int)) {l1 : Int32} {S : St} (h : fX0_after l1 S = some q) : V X G 2 (ZQ X G (QI G q)) 0 [some (.ref (G.2.1 25)), some (.int l1)] [] S := by
  unfold fX0_after at h
  refine v_iload_n hX eX0_after_0 rfl ?_
  refine v_iconst hX eX0_after_1 ic_1 ?_
  refine v_iadd hX eX0_after_2 ?_
  refine v_aload_n hX eX0_after_3 rfl ?_
  refine v_gfi hX eX0_after_4 clX0 fk_25_0 (Nat.le_of_ble_eq_true rfl) lk_X0_34 ?_
  refine v_icmp_ge hX eX0_after_7 rfl (fun c1 => ?_) (fun c1 => ?_)
  · have h := it_t c1 h
    refine v_iconst hX eX0_after_16 ic_0 ?_
    exact v_iret hX hr eX0_after_17 h
  · have h := it_f c1 h
    refine v_iload_n hX eX0_after_10 rfl ?_
    refine v_iconst hX eX0_after_11 ic_1 ?_
    refine v_iadd hX eX0_after_12 ?_
    refine v_goto hX eX0_after_13 rfl ?_
    exact v_iret hX hr eX0_after_17 h
set_option maxRecDepth 4000 in
theorem mX0_after {l : Launch} {G : VG} {l1 : Int32} {S : St} {q : Int32 × St} (h : fX0_after l1 S = some q) : MI l G yX0_after cX0_after 2 (some .int) 0 [.ref (G.2.1 25), .int l1] S q :=
  met_of (by decide +kernel) (Nat.le_of_ble_eq_true rfl) (fun X _ hX hr => pX0_after hX hr  h)
def FX0_least_59 (k9 : Int32 → Int32 → Int32 → Int32 → Int32 → St → Option (Int32 × St)) (l1 : Int32) (l2 : Int32) (l3 : Int32) (l4 : Int32) (l5 : Int32) (S : St) : Option (Int32 × St) :=
  let x6 := l5 + 1
  k9 l1 l2 l3 l4 x6 S
def FX0_least_43 (k9 : Int32 → Int32 → Int32 → Int32 → Int32 → St → Option (Int32 × St)) (l1 : Int32) (l2 : Int32) (l3 : Int32) (l4 : Int32) (l5 : Int32) (s0 : Int32) (S : St) : Option (Int32 × St) :=
  if (l4 : Int32) ≤ s0 then (
    FX0_least_59 k9 l1 l2 l3 l4 l5 S
  ) else (
    FX0_least_59 k9 l1 l2 l5 s0 l5 S
  )
def FX0_least_9 : Nat → Int32 → Int32 → Int32 → Int32 → Int32 → St → Option (Int32 × St)
  | 0, _, _, _, _, _, _ => none
  | n + 1, l1, l2, l3, l4, l5, S =>
    if ((gN S 25 0) : Int32) ≤ l5 then (
      some (l3, S)
    ) else (
      if (l5 : Int32) = l1 then (
        gd (inB l5 6) <|
        FX0_least_43 (fun l1_ l2_ l3_ l4_ l5_ S_ => FX0_least_9 n l1_ l2_ l3_ l4_ l5_ S_) l1 l2 l3 l4 l5 ((gN S 27 (l5 : Int32).toNatClampNeg) - l2) S
      ) else (
        gd (inB l5 6) <|
        FX0_least_43 (fun l1_ l2_ l3_ l4_ l5_ S_ => FX0_least_9 n l1_ l2_ l3_ l4_ l5_ S_) l1 l2 l3 l4 l5 (gN S 27 (l5 : Int32).toNatClampNeg) S
      )
    )
def fX0_least (l1 : Int32) (l2 : Int32) (S : St) : Option (Int32 × St) :=
  FX0_least_9 FU l1 l2 0 10 0 S
set_option maxRecDepth 4000 in
theorem pX0_least_59 {X : VX} {G : VG} {q : Int32 × St} (hX : Fx X G cX0_least 7 RX0 0) (hr : Rt X = (some .int)) {k9 : Int32 → Int32 → Int32 → Int32 → Int32 → St → Option (Int32 × St)} (hk9 : ∀ {l1 : Int32} {l2 : Int32} {l3 : Int32} {l4 : Int32} {l5 : Int32} {S : St}, k9 l1 l2 l3 l4 l5 S = some q → V X G 7 (ZQ X G (QI G q)) 9 [some (.ref (G.2.1 25)), some (.int l1), some (.int l2), some (.int l3), some (.int l4), some (.int l5), none] [] S) {l1 : Int32} {l2 : Int32} {l3 : Int32} {l4 : Int32} {l5 : Int32} {S : St} (h : FX0_least_59 k9 l1 l2 l3 l4 l5 S = some q) : V X G 7 (ZQ X G (QI G q)) 59 [some (.ref (G.2.1 25)), some (.int l1), some (.int l2), some (.int l3), some (.int l4), some (.int l5), none] [] S := by
  unfold FX0_least_59 at h
  refine v_iinc hX eX0_least_59 rfl (congrArg (_ + ·) ic_1) (Nat.le_of_ble_eq_true rfl) rfl (lv' := [some _, some _, some _, some _, some _, some _, none]) rfl ?_
  refine v_goto hX eX0_least_62 rfl ?_
  exact hk9 h
set_option maxRecDepth 4000 in
theorem pX0_least_43 {X : VX} {G : VG} {q : Int32 × St} (hX : Fx X G cX0_least 7 RX0 0) (hr : Rt X = (some .int)) {k9 : Int32 → Int32 → Int32 → Int32 → Int32 → St → Option (Int32 × St)} (hk9 : ∀ {l1 : Int32} {l2 : Int32} {l3 : Int32} {l4 : Int32} {l5 : Int32} {S : St}, k9 l1 l2 l3 l4 l5 S = some q → V X G 7 (ZQ X G (QI G q)) 9 [some (.ref (G.2.1 25)), some (.int l1), some (.int l2), some (.int l3), some (.int l4), some (.int l5), none] [] S) {l1 : Int32} {l2 : Int32} {l3 : Int32} {l4 : Int32} {l5 : Int32} {s0 : Int32} {S : St} (h : FX0_least_43 k9 l1 l2 l3 l4 l5 s0 S = some q) : V X G 7 (ZQ X G (QI G q)) 43 [some (.ref (G.2.1 25)), some (.int l1), some (.int l2), some (.int l3), some (.int l4), some (.int l5), none] [.int s0] S := by
  unfold FX0_least_43 at h
  refine v_istore hX eX0_least_43 (lv' := [some _, some _, some _, some _, some _, some _, some _]) (Nat.le_of_ble_eq_true rfl) rfl rfl ?_
  refine v_iload hX eX0_least_45 rfl ?_
  refine v_iload hX eX0_least_47 rfl ?_
  refine v_icmp_ge hX eX0_least_49 rfl (fun c5 => ?_) (fun c5 => ?_)
  · have h := it_t c5 h
    refine v_drop 6 (lv' := [some _, some _, some _, some _, some _, some _, none]) rfl ?_
    exact pX0_least_59 hX hr hk9 h
  · have h := it_f c5 h
    refine v_iload hX eX0_least_52 rfl ?_
    refine v_istore_n hX eX0_least_54 (lv' := [some _, some _, some _, some _, some _, some _, some _]) (Nat.le_of_ble_eq_true rfl) rfl rfl ?_
    refine v_iload hX eX0_least_55 rfl ?_
    refine v_istore hX eX0_least_57 (lv' := [some _, some _, some _, some _, some _, some _, some _]) (Nat.le_of_ble_eq_true rfl) rfl rfl ?_
    refine v_drop 6 (lv' := [some _, some _, some _, some _, some _, some _, none]) rfl ?_
    exact pX0_least_59 hX hr hk9 h
set_option maxRecDepth 4000 in
theorem pX0_least_9 {X : VX} {G : VG} {q : Int32 × St} (hX : Fx X G cX0_least 7 RX0 0) (hr : Rt X = (some .int)) : ∀ (n : Nat) {l1 : Int32} {l2 : Int32} {l3 : Int32} {l4 : Int32} {l5 : Int32} {S : St}, FX0_least_9 n l1 l2 l3 l4 l5 S = some q → V X G 7 (ZQ X G (QI G q)) 9 [some (.ref (G.2.1 25)), some (.int l1), some (.int l2), some (.int l3), some (.int l4), some (.int l5), none] [] S := by
  intro n
  induction n with
  | zero => intro _ _ _ _ _ _  h; cases h
  | succ n ih =>
    intro l1 l2 l3 l4 l5 S  h
    rw [FX0_least_9] at h
    refine v_iload hX eX0_least_9 rfl ?_
    refine v_aload_n hX eX0_least_11 rfl ?_
    refine v_gfi hX eX0_least_12 clX0 fk_25_0 (Nat.le_of_ble_eq_true rfl) lk_X0_34 ?_
    refine v_icmp_ge hX eX0_least_15 rfl (fun c1 => ?_) (fun c1 => ?_)
    · have h := it_t c1 h
      refine v_iload_n hX eX0_least_65 rfl ?_
      exact v_iret hX hr eX0_least_66 h
    · have h := it_f c1 h
      refine v_iload hX eX0_least_18 rfl ?_
      refine v_iload_n hX eX0_least_20 rfl ?_
      refine v_icmp_ne hX eX0_least_21 rfl (fun c2 => ?_) (fun c2 => ?_)
      · have h := it_f c2 h
        refine v_aload_n hX eX0_least_36 rfl ?_
        refine v_gfc hX eX0_least_37 clX0 fk_25_5 (Nat.le_of_ble_eq_true rfl) lk_X0_15 ?_
        refine v_iload hX eX0_least_40 rfl ?_
        obtain ⟨g3, h⟩ := gd_e h
        refine v_iaload hX eX0_least_42 ak_27 g3 ?_
        exact pX0_least_43 hX hr (fun h => ih h) h
      · have h := it_t c2 h
        refine v_aload_n hX eX0_least_24 rfl ?_
        refine v_gfc hX eX0_least_25 clX0 fk_25_5 (Nat.le_of_ble_eq_true rfl) lk_X0_15 ?_
        refine v_iload hX eX0_least_28 rfl ?_
        obtain ⟨g4, h⟩ := gd_e h
        refine v_iaload hX eX0_least_30 ak_27 g4 ?_
        refine v_iload_n hX eX0_least_31 rfl ?_
        refine v_isub hX eX0_least_32 ?_
        refine v_goto hX eX0_least_33 rfl ?_
        exact pX0_least_43 hX hr (fun h => ih h) h
set_option maxRecDepth 4000 in
theorem pX0_least {X : VX} {G : VG} {q : Int32 × St} (hX : Fx X G cX0_least 7 RX0 0) (hr : Rt X = (some .int)) {l1 : Int32} {l2 : Int32} {S : St} (h : fX0_least l1 l2 S = some q) : V X G 7 (ZQ X G (QI G q)) 0 [some (.ref (G.2.1 25)), some (.int l1), some (.int l2), none, none, none, none] [] S := by
  unfold fX0_least at h
  refine v_iconst hX eX0_least_0 ic_0 ?_
  refine v_istore_n hX eX0_least_1 (lv' := [some _, some _, some _, some _, none, none, none]) (Nat.le_of_ble_eq_true rfl) rfl rfl ?_
  refine v_bipush hX eX0_least_2 bp_10 ?_
  refine v_istore hX eX0_least_4 (lv' := [some _, some _, some _, some _, some _, none, none]) (Nat.le_of_ble_eq_true rfl) rfl rfl ?_
  refine v_iconst hX eX0_least_6 ic_0 ?_
  refine v_istore hX eX0_least_7 (lv' := [some _, some _, some _, some _, some _, some _, none]) (Nat.le_of_ble_eq_true rfl) rfl rfl ?_
  exact pX0_least_9 hX hr  _ h
set_option maxRecDepth 4000 in
theorem mX0_least {l : Launch} {G : VG} {l1 : Int32} {l2 : Int32} {S : St} {q : Int32 × St} (h : fX0_least l1 l2 S = some q) : MI l G yX0_least cX0_least 7 (some .int) 0 [.ref (G.2.1 25), .int l1, .int l2] S q :=
  met_of (by decide +kernel) (Nat.le_of_ble_eq_true rfl) (fun X _ hX hr => pX0_least hX hr  h)
def FX0_greatestBelow_49 (k7 : Int32 → Int32 → Int32 → Int32 → St → Option (Int32 × St)) (l1 : Int32) (l2 : Int32) (l3 : Int32) (l4 : Int32) (S : St) : Option (Int32 × St) :=
  let x8 := l4 + 1
  k7 l1 l2 l3 x8 S
def FX0_greatestBelow_7 : Nat → Int32 → Int32 → Int32 → Int32 → St → Option (Int32 × St)
  | 0, _, _, _, _, _ => none
  | n + 1, l1, l2, l3, l4, S =>
    if ((gN S 25 0) : Int32) ≤ l4 then (
      some (l2, S)
    ) else (
      gd (inB l4 6) <|
      if (l1 : Int32) ≤ (gN S 27 (l4 : Int32).toNatClampNeg) then (
        FX0_greatestBelow_49 (fun l1_ l2_ l3_ l4_ S_ => FX0_greatestBelow_7 n l1_ l2_ l3_ l4_ S_) l1 l2 l3 l4 S
      ) else (
        gd (inB l4 6) <|
        if ((gN S 27 (l4 : Int32).toNatClampNeg) : Int32) ≤ l3 then (
          FX0_greatestBelow_49 (fun l1_ l2_ l3_ l4_ S_ => FX0_greatestBelow_7 n l1_ l2_ l3_ l4_ S_) l1 l2 l3 l4 S
        ) else (
          gd (inB l4 6) <|
          let x7 := gN S 27 (l4 : Int32).toNatClampNeg
          FX0_greatestBelow_49 (fun l1_ l2_ l3_ l4_ S_ => FX0_greatestBelow_7 n l1_ l2_ l3_ l4_ S_) l1 l4 x7 l4 S
        )
      )
    )
def fX0_greatestBelow (l1 : Int32) (S : St) : Option (Int32 × St) :=
  FX0_greatestBelow_7 FU l1 0 (-1) 0 S
set_option maxRecDepth 4000 in
theorem pX0_greatestBelow_49 {X : VX} {G : VG} {q : Int32 × St} (hX : Fx X G cX0_greatestBelow 5 RX0 0) (hr : Rt X = (some .int)) {k7 : Int32 → Int32 → Int32 → Int32 → St → Option (Int32 × St)} (hk7 : ∀ {l1 : Int32} {l2 : Int32} {l3 : Int32} {l4 : Int32} {S : St}, k7 l1 l2 l3 l4 S = some q → V X G 5 (ZQ X G (QI G q)) 7 [some (.ref (G.2.1 25)), some (.int l1), some (.int l2), some (.int l3), some (.int l4)] [] S) {l1 : Int32} {l2 : Int32} {l3 : Int32} {l4 : Int32} {S : St} (h : FX0_greatestBelow_49 k7 l1 l2 l3 l4 S = some q) : V X G 5 (ZQ X G (QI G q)) 49 [some (.ref (G.2.1 25)), some (.int l1), some (.int l2), some (.int l3), some (.int l4)] [] S := by
  unfold FX0_greatestBelow_49 at h
  refine v_iinc hX eX0_greatestBelow_49 rfl (congrArg (_ + ·) ic_1) (Nat.le_of_ble_eq_true rfl) rfl (lv' := [some _, some _, some _, some _, some _]) rfl ?_
  refine v_goto hX eX0_greatestBelow_52 rfl ?_
  exact hk7 h
set_option maxRecDepth 4000 in
theorem pX0_greatestBelow_7 {X : VX} {G : VG} {q : Int32 × St} (hX : Fx X G cX0_greatestBelow 5 RX0 0) (hr : Rt X = (some .int)) : ∀ (n : Nat) {l1 : Int32} {l2 : Int32} {l3 : Int32} {l4 : Int32} {S : St}, FX0_greatestBelow_7 n l1 l2 l3 l4 S = some q → V X G 5 (ZQ X G (QI G q)) 7 [some (.ref (G.2.1 25)), some (.int l1), some (.int l2), some (.int l3), some (.int l4)] [] S := by
  intro n
  induction n with
  | zero => intro _ _ _ _ _  h; cases h
  | succ n ih =>
    intro l1 l2 l3 l4 S  h
    rw [FX0_greatestBelow_7] at h
    refine v_iload hX eX0_greatestBelow_7 rfl ?_
    refine v_aload_n hX eX0_greatestBelow_9 rfl ?_
    refine v_gfi hX eX0_greatestBelow_10 clX0 fk_25_0 (Nat.le_of_ble_eq_true rfl) lk_X0_34 ?_
    refine v_icmp_ge hX eX0_greatestBelow_13 rfl (fun c1 => ?_) (fun c1 => ?_)
    · have h := it_t c1 h
      refine v_iload_n hX eX0_greatestBelow_55 rfl ?_
      exact v_iret hX hr eX0_greatestBelow_56 h
    · have h := it_f c1 h
      refine v_aload_n hX eX0_greatestBelow_16 rfl ?_
      refine v_gfc hX eX0_greatestBelow_17 clX0 fk_25_5 (Nat.le_of_ble_eq_true rfl) lk_X0_15 ?_
      refine v_iload hX eX0_greatestBelow_20 rfl ?_
      obtain ⟨g2, h⟩ := gd_e h
      refine v_iaload hX eX0_greatestBelow_22 ak_27 g2 ?_
      refine v_iload_n hX eX0_greatestBelow_23 rfl ?_
      refine v_icmp_ge hX eX0_greatestBelow_24 rfl (fun c3 => ?_) (fun c3 => ?_)
      · have h := it_t c3 h
        exact pX0_greatestBelow_49 hX hr (fun h => ih h) h
      · have h := it_f c3 h
        refine v_aload_n hX eX0_greatestBelow_27 rfl ?_
        refine v_gfc hX eX0_greatestBelow_28 clX0 fk_25_5 (Nat.le_of_ble_eq_true rfl) lk_X0_15 ?_
        refine v_iload hX eX0_greatestBelow_31 rfl ?_
        obtain ⟨g4, h⟩ := gd_e h
        refine v_iaload hX eX0_greatestBelow_33 ak_27 g4 ?_
        refine v_iload_n hX eX0_greatestBelow_34 rfl ?_
        refine v_icmp_le hX eX0_greatestBelow_35 rfl (fun c5 => ?_) (fun c5 => ?_)
        · have h := it_t c5 h
          exact pX0_greatestBelow_49 hX hr (fun h => ih h) h
        · have h := it_f c5 h
          refine v_iload hX eX0_greatestBelow_38 rfl ?_
          refine v_istore_n hX eX0_greatestBelow_40 (lv' := [some _, some _, some _, some _, some _]) (Nat.le_of_ble_eq_true rfl) rfl rfl ?_
          refine v_aload_n hX eX0_greatestBelow_41 rfl ?_
          refine v_gfc hX eX0_greatestBelow_42 clX0 fk_25_5 (Nat.le_of_ble_eq_true rfl) lk_X0_15 ?_
          refine v_iload hX eX0_greatestBelow_45 rfl ?_
          obtain ⟨g6, h⟩ := gd_e h
          refine v_iaload hX eX0_greatestBelow_47 ak_27 g6 ?_
          refine v_istore_n hX eX0_greatestBelow_48 (lv' := [some _, some _, some _, some _, some _]) (Nat.le_of_ble_eq_true rfl) rfl rfl ?_
          exact pX0_greatestBelow_49 hX hr (fun h => ih h) h
set_option maxRecDepth 4000 in
theorem pX0_greatestBelow {X : VX} {G : VG} {q : Int32 × St} (hX : Fx X G cX0_greatestBelow 5 RX0 0) (hr : Rt X = (some .int)) {l1 : Int32} {S : St} (h : fX0_greatestBelow l1 S = some q) : V X G 5 (ZQ X G (QI G q)) 0 [some (.ref (G.2.1 25)), some (.int l1), none, none, none] [] S := by
  unfold fX0_greatestBelow at h
  refine v_iconst hX eX0_greatestBelow_0 ic_0 ?_
  refine v_istore_n hX eX0_greatestBelow_1 (lv' := [some _, some _, some _, none, none]) (Nat.le_of_ble_eq_true rfl) rfl rfl ?_
  refine v_iconst hX eX0_greatestBelow_2 ic_m1 ?_
  refine v_istore_n hX eX0_greatestBelow_3 (lv' := [some _, some _, some _, some _, none]) (Nat.le_of_ble_eq_true rfl) rfl rfl ?_
  refine v_iconst hX eX0_greatestBelow_4 ic_0 ?_
  refine v_istore hX eX0_greatestBelow_5 (lv' := [some _, some _, some _, some _, some _]) (Nat.le_of_ble_eq_true rfl) rfl rfl ?_
  exact pX0_greatestBelow_7 hX hr  _ h
set_option maxRecDepth 4000 in
theorem mX0_greatestBelow {l : Launch} {G : VG} {l1 : Int32} {S : St} {q : Int32 × St} (h : fX0_greatestBelow l1 S = some q) : MI l G yX0_greatestBelow cX0_greatestBelow 5 (some .int) 0 [.ref (G.2.1 25), .int l1] S q :=
  met_of (by decide +kernel) (Nat.le_of_ble_eq_true rfl) (fun X _ hX hr => pX0_greatestBelow hX hr  h)
def fX0_rightChance (l1 : Int32) (S : St) : Option (Int32 × St) :=
  gd (inB l1 6) <|
  some ((10 * (gN S 27 (l1 : Int32).toNatClampNeg)) + 5, S)
set_option maxRecDepth 4000 in
theorem pX0_rightChance {X : VX} {G : VG} {q : Int32 × St} (hX : Fx X G cX0_rightChance 2 RX0 0) (hr : Rt X = (some .int)) {l1 : Int32} {S : St} (h : fX0_rightChance l1 S = some q) : V X G 2 (ZQ X G (QI G q)) 0 [some (.ref (G.2.1 25)), some (.int l1)] [] S := by
  unfold fX0_rightChance at h
  refine v_bipush hX eX0_rightChance_0 bp_10 ?_
  refine v_aload_n hX eX0_rightChance_2 rfl ?_
  refine v_gfc hX eX0_rightChance_3 clX0 fk_25_5 (Nat.le_of_ble_eq_true rfl) lk_X0_15 ?_
  refine v_iload_n hX eX0_rightChance_6 rfl ?_
  obtain ⟨g1, h⟩ := gd_e h
  refine v_iaload hX eX0_rightChance_7 ak_27 g1 ?_
  refine v_imul hX eX0_rightChance_8 ?_
  refine v_iconst hX eX0_rightChance_9 ic_5 ?_
  refine v_iadd hX eX0_rightChance_10 ?_
  exact v_iret hX hr eX0_rightChance_11 h
set_option maxRecDepth 4000 in
theorem mX0_rightChance {l : Launch} {G : VG} {l1 : Int32} {S : St} {q : Int32 × St} (h : fX0_rightChance l1 S = some q) : MI l G yX0_rightChance cX0_rightChance 2 (some .int) 0 [.ref (G.2.1 25), .int l1] S q :=
  met_of (by decide +kernel) (Nat.le_of_ble_eq_true rfl) (fun X _ hX hr => pX0_rightChance hX hr  h)
def FX0_isSurer_24  (S : St) : Option (Int32 × St) :=
  some (0, S)
def fX0_isSurer (l1 : Int32) (l2 : Int32) (S : St) : Option (Int32 × St) :=
  if (l1 : Int32) = l2 then (
    FX0_isSurer_24 S
  ) else (
    gd (inB l1 6) <|
    gd (inB l2 6) <|
    if ((gN S 27 (l1 : Int32).toNatClampNeg) : Int32) ≤ (gN S 27 (l2 : Int32).toNatClampNeg) then (
      FX0_isSurer_24 S
    ) else (
      some (1, S)
    )
  )
set_option maxRecDepth 4000 in
theorem pX0_isSurer_24 {X : VX} {G : VG} {q : Int32 × St} (hX : Fx X G cX0_isSurer 3 RX0 0) (hr : Rt X = (some .boolean))  {S : St} (h : FX0_isSurer_24  S = some q) : V X G 3 (ZQ X G (QI G q)) 24 [none, none, none] [] S := by
  unfold FX0_isSurer_24 at h
  refine v_iconst hX eX0_isSurer_24 ic_0 ?_
  exact v_zret hX hr eX0_isSurer_25 rfl h
set_option maxRecDepth 4000 in
theorem pX0_isSurer {X : VX} {G : VG} {q : Int32 × St} (hX : Fx X G cX0_isSurer 3 RX0 0) (hr : Rt X = (some .boolean)) {l1 : Int32} {l2 : Int32} {S : St} (h : fX0_isSurer l1 l2 S = some q) : V X G 3 (ZQ X G (QI G q)) 0 [some (.ref (G.2.1 25)), some (.int l1), some (.int l2)] [] S := by
  unfold fX0_isSurer at h
  refine v_iload_n hX eX0_isSurer_0 rfl ?_
  refine v_iload_n hX eX0_isSurer_1 rfl ?_
  refine v_icmp_eq hX eX0_isSurer_2 rfl (fun c1 => ?_) (fun c1 => ?_)
  · have h := it_t c1 h
    refine v_drop 0 (lv' := [none, some _, some _]) rfl ?_
    refine v_drop 1 (lv' := [none, none, some _]) rfl ?_
    refine v_drop 2 (lv' := [none, none, none]) rfl ?_
    exact pX0_isSurer_24 hX hr  h
  · have h := it_f c1 h
    refine v_aload_n hX eX0_isSurer_5 rfl ?_
    refine v_gfc hX eX0_isSurer_6 clX0 fk_25_5 (Nat.le_of_ble_eq_true rfl) lk_X0_15 ?_
    refine v_iload_n hX eX0_isSurer_9 rfl ?_
    obtain ⟨g2, h⟩ := gd_e h
    refine v_iaload hX eX0_isSurer_10 ak_27 g2 ?_
    refine v_aload_n hX eX0_isSurer_11 rfl ?_
    refine v_gfc hX eX0_isSurer_12 clX0 fk_25_5 (Nat.le_of_ble_eq_true rfl) lk_X0_15 ?_
    refine v_iload_n hX eX0_isSurer_15 rfl ?_
    obtain ⟨g3, h⟩ := gd_e h
    refine v_iaload hX eX0_isSurer_16 ak_27 g3 ?_
    refine v_icmp_le hX eX0_isSurer_17 rfl (fun c4 => ?_) (fun c4 => ?_)
    · have h := it_t c4 h
      refine v_drop 0 (lv' := [none, some _, some _]) rfl ?_
      refine v_drop 1 (lv' := [none, none, some _]) rfl ?_
      refine v_drop 2 (lv' := [none, none, none]) rfl ?_
      exact pX0_isSurer_24 hX hr  h
    · have h := it_f c4 h
      refine v_iconst hX eX0_isSurer_20 ic_1 ?_
      refine v_goto hX eX0_isSurer_21 rfl ?_
      exact v_zret hX hr eX0_isSurer_25 rfl h
set_option maxRecDepth 4000 in
theorem mX0_isSurer {l : Launch} {G : VG} {l1 : Int32} {l2 : Int32} {S : St} {q : Int32 × St} (h : fX0_isSurer l1 l2 S = some q) : MI l G yX0_isSurer cX0_isSurer 3 (some .boolean) 0 [.ref (G.2.1 25), .int l1, .int l2] S q :=
  met_of (by decide +kernel) (Nat.le_of_ble_eq_true rfl) (fun X _ hX hr => pX0_isSurer hX hr  h)
def FX0_isGuestSurer_22  (S : St) : Option (Int32 × St) :=
  some (0, S)
def fX0_isGuestSurer (l1 : Int32) (S : St) : Option (Int32 × St) :=
  if ((gN S 25 2) : Int32) = 0 then (
    FX0_isGuestSurer_22 S
  ) else (
    gd (inB l1 6) <|
    if (9 : Int32) ≤ (gN S 27 (l1 : Int32).toNatClampNeg) then (
      FX0_isGuestSurer_22 S
    ) else (
      some (1, S)
    )
  )
set_option maxRecDepth 4000 in
theorem pX0_isGuestSurer_22 {X : VX} {G : VG} {q : Int32 × St} (hX : Fx X G cX0_isGuestSurer 2 RX0 0) (hr : Rt X = (some .boolean))  {S : St} (h : FX0_isGuestSurer_22  S = some q) : V X G 2 (ZQ X G (QI G q)) 22 [none, none] [] S := by
  unfold FX0_isGuestSurer_22 at h
  refine v_iconst hX eX0_isGuestSurer_22 ic_0 ?_
  exact v_zret hX hr eX0_isGuestSurer_23 rfl h
set_option maxRecDepth 4000 in
theorem pX0_isGuestSurer {X : VX} {G : VG} {q : Int32 × St} (hX : Fx X G cX0_isGuestSurer 2 RX0 0) (hr : Rt X = (some .boolean)) {l1 : Int32} {S : St} (h : fX0_isGuestSurer l1 S = some q) : V X G 2 (ZQ X G (QI G q)) 0 [some (.ref (G.2.1 25)), some (.int l1)] [] S := by
  unfold fX0_isGuestSurer at h
  refine v_aload_n hX eX0_isGuestSurer_0 rfl ?_
  refine v_gfi hX eX0_isGuestSurer_1 clX0 fk_25_2 (Nat.le_of_ble_eq_true rfl) lk_X0_47 ?_
  refine v_if_eq hX eX0_isGuestSurer_4 rfl (fun c1 => ?_) (fun c1 => ?_)
  · have h := it_t c1 h
    refine v_drop 0 (lv' := [none, some _]) rfl ?_
    refine v_drop 1 (lv' := [none, none]) rfl ?_
    exact pX0_isGuestSurer_22 hX hr  h
  · have h := it_f c1 h
    refine v_aload_n hX eX0_isGuestSurer_7 rfl ?_
    refine v_gfc hX eX0_isGuestSurer_8 clX0 fk_25_5 (Nat.le_of_ble_eq_true rfl) lk_X0_15 ?_
    refine v_iload_n hX eX0_isGuestSurer_11 rfl ?_
    obtain ⟨g2, h⟩ := gd_e h
    refine v_iaload hX eX0_isGuestSurer_12 ak_27 g2 ?_
    refine v_bipush hX eX0_isGuestSurer_13 bp_9 ?_
    refine v_icmp_ge hX eX0_isGuestSurer_15 rfl (fun c3 => ?_) (fun c3 => ?_)
    · have h := it_t c3 h
      refine v_drop 0 (lv' := [none, some _]) rfl ?_
      refine v_drop 1 (lv' := [none, none]) rfl ?_
      exact pX0_isGuestSurer_22 hX hr  h
    · have h := it_f c3 h
      refine v_iconst hX eX0_isGuestSurer_18 ic_1 ?_
      refine v_goto hX eX0_isGuestSurer_19 rfl ?_
      exact v_zret hX hr eX0_isGuestSurer_23 rfl h
set_option maxRecDepth 4000 in
theorem mX0_isGuestSurer {l : Launch} {G : VG} {l1 : Int32} {S : St} {q : Int32 × St} (h : fX0_isGuestSurer l1 S = some q) : MI l G yX0_isGuestSurer cX0_isGuestSurer 2 (some .boolean) 0 [.ref (G.2.1 25), .int l1] S q :=
  met_of (by decide +kernel) (Nat.le_of_ble_eq_true rfl) (fun X _ hX hr => pX0_isGuestSurer hX hr  h)
def fX0_noChance (l1 : Int32) (l2 : Int32) (S : St) : Option (Int32 × St) :=
  if (l2 : Int32) = 0 then (
    some (10 * l1, S)
  ) else (
    some (5 * (9 - l1), S)
  )
set_option maxRecDepth 4000 in
theorem pX0_noChance {X : VX} {G : VG} {q : Int32 × St} (hX : Fx X G cX0_noChance 3 RX0 0) (hr : Rt X = (some .int)) {l1 : Int32} {l2 : Int32} {S : St} (h : fX0_noChance l1 l2 S = some q) : V X G 3 (ZQ X G (QI G q)) 0 [some (.ref (G.2.1 25)), some (.int l1), some (.int l2)] [] S := by
  unfold fX0_noChance at h
  refine v_iload_n hX eX0_noChance_0 rfl ?_
  refine v_if_eq hX eX0_noChance_1 rfl (fun c1 => ?_) (fun c1 => ?_)
  · have h := it_t c1 h
    refine v_bipush hX eX0_noChance_13 bp_10 ?_
    refine v_iload_n hX eX0_noChance_15 rfl ?_
    refine v_imul hX eX0_noChance_16 ?_
    exact v_iret hX hr eX0_noChance_17 h
  · have h := it_f c1 h
    refine v_iconst hX eX0_noChance_4 ic_5 ?_
    refine v_bipush hX eX0_noChance_5 bp_9 ?_
    refine v_iload_n hX eX0_noChance_7 rfl ?_
    refine v_isub hX eX0_noChance_8 ?_
    refine v_imul hX eX0_noChance_9 ?_
    refine v_goto hX eX0_noChance_10 rfl ?_
    exact v_iret hX hr eX0_noChance_17 h
set_option maxRecDepth 4000 in
theorem mX0_noChance {l : Launch} {G : VG} {l1 : Int32} {l2 : Int32} {S : St} {q : Int32 × St} (h : fX0_noChance l1 l2 S = some q) : MI l G yX0_noChance cX0_noChance 3 (some .int) 0 [.ref (G.2.1 25), .int l1, .int l2] S q :=
  met_of (by decide +kernel) (Nat.le_of_ble_eq_true rfl) (fun X _ hX hr => pX0_noChance hX hr  h)
def FX0_mayBelieve_30  (S : St) : Option (Int32 × St) :=
  some (0, S)
def fX0_mayBelieve (l1 : Int32) (l2 : Int32) (S : St) : Option (Int32 × St) :=
  if (l1 : Int32) = l2 then (
    FX0_mayBelieve_30 S
  ) else (
    gd (inB l1 6) <|
    if ((gN S 27 (l1 : Int32).toNatClampNeg) : Int32) < 1 then (
      FX0_mayBelieve_30 S
    ) else (
      gd (inB l1 6) <|
      if (6 : Int32) < (gN S 27 (l1 : Int32).toNatClampNeg) then (
        FX0_mayBelieve_30 S
      ) else (
        some (1, S)
      )
    )
  )
set_option maxRecDepth 4000 in
theorem pX0_mayBelieve_30 {X : VX} {G : VG} {q : Int32 × St} (hX : Fx X G cX0_mayBelieve 3 RX0 0) (hr : Rt X = (some .boolean))  {S : St} (h : FX0_mayBelieve_30  S = some q) : V X G 3 (ZQ X G (QI G q)) 30 [none, none, none] [] S := by
  unfold FX0_mayBelieve_30 at h
  refine v_iconst hX eX0_mayBelieve_30 ic_0 ?_
  exact v_zret hX hr eX0_mayBelieve_31 rfl h
set_option maxRecDepth 4000 in
theorem pX0_mayBelieve {X : VX} {G : VG} {q : Int32 × St} (hX : Fx X G cX0_mayBelieve 3 RX0 0) (hr : Rt X = (some .boolean)) {l1 : Int32} {l2 : Int32} {S : St} (h : fX0_mayBelieve l1 l2 S = some q) : V X G 3 (ZQ X G (QI G q)) 0 [some (.ref (G.2.1 25)), some (.int l1), some (.int l2)] [] S := by
  unfold fX0_mayBelieve at h
  refine v_iload_n hX eX0_mayBelieve_0 rfl ?_
  refine v_iload_n hX eX0_mayBelieve_1 rfl ?_
  refine v_icmp_eq hX eX0_mayBelieve_2 rfl (fun c1 => ?_) (fun c1 => ?_)
  · have h := it_t c1 h
    refine v_drop 0 (lv' := [none, some _, some _]) rfl ?_
    refine v_drop 1 (lv' := [none, none, some _]) rfl ?_
    refine v_drop 2 (lv' := [none, none, none]) rfl ?_
    exact pX0_mayBelieve_30 hX hr  h
  · have h := it_f c1 h
    refine v_aload_n hX eX0_mayBelieve_5 rfl ?_
    refine v_gfc hX eX0_mayBelieve_6 clX0 fk_25_5 (Nat.le_of_ble_eq_true rfl) lk_X0_15 ?_
    refine v_iload_n hX eX0_mayBelieve_9 rfl ?_
    obtain ⟨g2, h⟩ := gd_e h
    refine v_iaload hX eX0_mayBelieve_10 ak_27 g2 ?_
    refine v_iconst hX eX0_mayBelieve_11 ic_1 ?_
    refine v_icmp_lt hX eX0_mayBelieve_12 rfl (fun c3 => ?_) (fun c3 => ?_)
    · have h := it_t c3 h
      refine v_drop 0 (lv' := [none, some _, some _]) rfl ?_
      refine v_drop 1 (lv' := [none, none, some _]) rfl ?_
      refine v_drop 2 (lv' := [none, none, none]) rfl ?_
      exact pX0_mayBelieve_30 hX hr  h
    · have h := it_f c3 h
      refine v_aload_n hX eX0_mayBelieve_15 rfl ?_
      refine v_gfc hX eX0_mayBelieve_16 clX0 fk_25_5 (Nat.le_of_ble_eq_true rfl) lk_X0_15 ?_
      refine v_iload_n hX eX0_mayBelieve_19 rfl ?_
      obtain ⟨g4, h⟩ := gd_e h
      refine v_iaload hX eX0_mayBelieve_20 ak_27 g4 ?_
      refine v_bipush hX eX0_mayBelieve_21 bp_6 ?_
      refine v_icmp_gt hX eX0_mayBelieve_23 rfl (fun c5 => ?_) (fun c5 => ?_)
      · have h := it_t c5 h
        refine v_drop 0 (lv' := [none, some _, some _]) rfl ?_
        refine v_drop 1 (lv' := [none, none, some _]) rfl ?_
        refine v_drop 2 (lv' := [none, none, none]) rfl ?_
        exact pX0_mayBelieve_30 hX hr  h
      · have h := it_f c5 h
        refine v_iconst hX eX0_mayBelieve_26 ic_1 ?_
        refine v_goto hX eX0_mayBelieve_27 rfl ?_
        exact v_zret hX hr eX0_mayBelieve_31 rfl h
set_option maxRecDepth 4000 in
theorem mX0_mayBelieve {l : Launch} {G : VG} {l1 : Int32} {l2 : Int32} {S : St} {q : Int32 × St} (h : fX0_mayBelieve l1 l2 S = some q) : MI l G yX0_mayBelieve cX0_mayBelieve 3 (some .boolean) 0 [.ref (G.2.1 25), .int l1, .int l2] S q :=
  met_of (by decide +kernel) (Nat.le_of_ble_eq_true rfl) (fun X _ hX hr => pX0_mayBelieve hX hr  h)
def fX0_comes (l1 : Int32) (l2 : Int32) (S : St) : Option (Int32 × St) :=
  if (l2 : Int32) = 0 then (
    if (l1 : Int32) < 50 then (
      some (0, S)
    ) else (
      some (1, S)
    )
  ) else (
    let S2 := sN S 25 3 ((((((gN S 25 3 : Int32).toInt64) * 1103515245) + 12345) &&& 2147483647 : Int64).toInt32)
    let x3 := (gN S2 25 3) / 65536
    if (l1 : Int32) ≤ (x3 - x3 / 100 * 100) then (
      some (0, S2)
    ) else (
      some (1, S2)
    )
  )
set_option maxRecDepth 4000 in
theorem pX0_comes {X : VX} {G : VG} {q : Int32 × St} (hX : Fx X G cX0_comes 3 RX0 0) (hr : Rt X = (some .boolean)) {l1 : Int32} {l2 : Int32} {S : St} (h : fX0_comes l1 l2 S = some q) : V X G 3 (ZQ X G (QI G q)) 0 [some (.ref (G.2.1 25)), some (.int l1), some (.int l2)] [] S := by
  unfold fX0_comes at h
  refine v_iload_n hX eX0_comes_0 rfl ?_
  refine v_if_ne hX eX0_comes_1 rfl (fun c1 => ?_) (fun c1 => ?_)
  · have h := it_f c1 h
    refine v_aload_n hX eX0_comes_16 rfl ?_
    refine v_aload_n hX eX0_comes_17 rfl ?_
    refine v_gfi hX eX0_comes_18 clX0 fk_25_3 (Nat.le_of_ble_eq_true rfl) lk_X0_51 ?_
    refine v_i2l hX eX0_comes_21 ?_
    refine v_ldc2 hX eX0_comes_22 ql_X0_83 ?_
    refine v_lmul hX eX0_comes_25 ?_
    refine v_ldc2 hX eX0_comes_26 ql_X0_85 ?_
    refine v_ladd hX eX0_comes_29 ?_
    refine v_ldc2 hX eX0_comes_30 ql_X0_87 ?_
    refine v_land hX eX0_comes_33 ?_
    refine v_l2i hX eX0_comes_34 ?_
    refine v_pfi hX eX0_comes_35 clX0 fk_25_3 (Nat.le_of_ble_eq_true rfl) lk_X0_51 rfl rfl ?_
    refine v_aload_n hX eX0_comes_38 rfl ?_
    refine v_gfi hX eX0_comes_39 clX0 fk_25_3 (Nat.le_of_ble_eq_true rfl) lk_X0_51 ?_
    refine v_ldc hX eX0_comes_42 qc_X0_89 ?_
    refine v_idiv hX eX0_comes_44 nz_65536 ?_
    refine v_bipush hX eX0_comes_45 bp_100 ?_
    refine v_irem hX eX0_comes_47 nz_100 ?_
    refine v_iload_n hX eX0_comes_48 rfl ?_
    refine v_icmp_ge hX eX0_comes_49 rfl (fun c4 => ?_) (fun c4 => ?_)
    · have h := it_t c4 h
      refine v_iconst hX eX0_comes_56 ic_0 ?_
      exact v_zret hX hr eX0_comes_57 rfl h
    · have h := it_f c4 h
      refine v_iconst hX eX0_comes_52 ic_1 ?_
      refine v_goto hX eX0_comes_53 rfl ?_
      exact v_zret hX hr eX0_comes_57 rfl h
  · have h := it_t c1 h
    refine v_iload_n hX eX0_comes_4 rfl ?_
    refine v_bipush hX eX0_comes_5 bp_50 ?_
    refine v_icmp_lt hX eX0_comes_7 rfl (fun c5 => ?_) (fun c5 => ?_)
    · have h := it_t c5 h
      refine v_iconst hX eX0_comes_14 ic_0 ?_
      exact v_zret hX hr eX0_comes_15 rfl h
    · have h := it_f c5 h
      refine v_iconst hX eX0_comes_10 ic_1 ?_
      refine v_goto hX eX0_comes_11 rfl ?_
      exact v_zret hX hr eX0_comes_15 rfl h
set_option maxRecDepth 4000 in
theorem mX0_comes {l : Launch} {G : VG} {l1 : Int32} {l2 : Int32} {S : St} {q : Int32 × St} (h : fX0_comes l1 l2 S = some q) : MI l G yX0_comes cX0_comes 3 (some .boolean) 0 [.ref (G.2.1 25), .int l1, .int l2] S q :=
  met_of (by decide +kernel) (Nat.le_of_ble_eq_true rfl) (fun X _ hX hr => pX0_comes hX hr  h)
def fX0_share (l1 : Int64) (l3 : Int32) (l4 : Int32) (S : St) : Option (Int64 × St) :=
  some (((((1000 * l1) * ((l3 : Int32).toInt64)) / 100) * ((l4 : Int32).toInt64)) / 1000000, S)
set_option maxRecDepth 4000 in
theorem pX0_share {X : VX} {G : VG} {q : Int64 × St} (hX : Fx X G cX0_share 5 RX0 0) (hr : Rt X = (some .long)) {l1 : Int64} {l3 : Int32} {l4 : Int32} {S : St} (h : fX0_share l1 l3 l4 S = some q) : V X G 5 (ZQ X G (QL G q)) 0 [some (.ref (G.2.1 25)), some (.long l1), none, some (.int l3), some (.int l4)] [] S := by
  unfold fX0_share at h
  refine v_ldc2 hX eX0_share_0 ql_X0_143 ?_
  refine v_lload_n hX eX0_share_3 rfl ?_
  refine v_lmul hX eX0_share_4 ?_
  refine v_iload_n hX eX0_share_5 rfl ?_
  refine v_i2l hX eX0_share_6 ?_
  refine v_lmul hX eX0_share_7 ?_
  refine v_ldc2 hX eX0_share_8 ql_X0_130 ?_
  refine v_ldiv hX eX0_share_11 nzl_100 ?_
  refine v_iload hX eX0_share_12 rfl ?_
  refine v_i2l hX eX0_share_14 ?_
  refine v_lmul hX eX0_share_15 ?_
  refine v_ldc2 hX eX0_share_16 ql_X0_128 ?_
  refine v_ldiv hX eX0_share_19 nzl_1000000 ?_
  exact v_lret hX hr eX0_share_20 h
set_option maxRecDepth 4000 in
theorem mX0_share {l : Launch} {G : VG} {l1 : Int64} {l3 : Int32} {l4 : Int32} {S : St} {q : Int64 × St} (h : fX0_share l1 l3 l4 S = some q) : ML l G yX0_share cX0_share 5 (some .long) 0 [.ref (G.2.1 25), .long l1, .int l3, .int l4] S q :=
  met_of (by decide +kernel) (Nat.le_of_ble_eq_true rfl) (fun X _ hX hr => pX0_share hX hr  h)
def FX0_sit_160 (k29 : Nat → Nat → Int32 → Int32 → Int32 → St → Option (Unit × St)) (t1 : Nat) (t2 : Nat) (l3 : Int32) (l4 : Int32) (l5 : Int32) (S : St) : Option (Unit × St) :=
  let x37 := l5 + 1
  k29 t1 t2 l3 l4 x37 S
def FX0_sit_29 : Nat → Nat → Nat → Int32 → Int32 → Int32 → St → Option (Unit × St)
  | 0, _, _, _, _, _, _ => none
  | n + 1, t1, t2, l3, l4, l5, S =>
    if ((gN S t1 1) : Int32) ≤ l5 then (
      some ((), S)
    ) else (
      if (((l3 >>> (l5 &&& 31)) &&& 1) : Int32) = 1 then (
        let x9 := gN S 25 0
        gd (inB x9 6) <|
        let S11 := sN S 26 (x9 : Int32).toNatClampNeg l5
        let x12 := (l5 * 6) + l4
        gd (inB x12 36) <|
        let x14 := gN S11 25 0
        gd (inB x14 6) <|
        let S16 := sN S11 27 (x14 : Int32).toNatClampNeg (gN S11 (t2 + 1) (x12 : Int32).toNatClampNeg)
        bd (fX3_topOf t1 (t2 + 1) l5 l4 S16) fun r17 S18 =>
        let x21 := gN S16 25 0
        gd (inB x21 6) <|
        let S23 := sN S18 28 (x21 : Int32).toNatClampNeg r17
        gd (inB l5 6) <|
        let x25 := gN S23 25 0
        gd (inB x25 6) <|
        let S27 := sN S23 29 (x25 : Int32).toNatClampNeg (gN S23 (t1 + 2) (l5 : Int32).toNatClampNeg)
        gd (inB l5 6) <|
        let x29 := gN S27 25 0
        gd (inB x29 6) <|
        let S31 := sN S27 30 (x29 : Int32).toNatClampNeg (gN S27 (t1 + 3) (l5 : Int32).toNatClampNeg)
        gd (inB l5 6) <|
        let x33 := gN S31 25 0
        gd (inB x33 6) <|
        let S35 := sN S31 31 (x33 : Int32).toNatClampNeg (gN S31 (t1 + 4) (l5 : Int32).toNatClampNeg)
        let S36 := sN S35 25 0 ((gN S35 25 0) + 1)
        FX0_sit_160 (fun t1_ t2_ l3_ l4_ l5_ S_ => FX0_sit_29 n t1_ t2_ l3_ l4_ l5_ S_) t1 t2 l3 l4 l5 S36
      ) else (
        FX0_sit_160 (fun t1_ t2_ l3_ l4_ l5_ S_ => FX0_sit_29 n t1_ t2_ l3_ l4_ l5_ S_) t1 t2 l3 l4 l5 S
      )
    )
def fX0_sit (t1 : Nat) (t2 : Nat) (l3 : Int32) (l4 : Int32) (S : St) : Option (Unit × St) :=
  let S1 := sN S 25 0 0
  let S2 := sN S1 25 1 l3
  let x4 := gN S2 t2 1
  gd (isB x4) <|
  let S3 := sN S2 25 2 x4
  let S6 := sN S3 25 3 (gN S3 t2 2)
  FX0_sit_29 FU t1 t2 l3 l4 0 S6
set_option maxRecDepth 4000 in
theorem pX0_sit_160 {X : VX} {G : VG} {q : Unit × St} (hX : Fx X G cX0_sit 6 RX0 1) (hr : Rt X = none) {k29 : Nat → Nat → Int32 → Int32 → Int32 → St → Option (Unit × St)} (hk29 : ∀ {t1 : Nat} {t2 : Nat} {l3 : Int32} {l4 : Int32} {l5 : Int32} {S : St} (ht1 : isSch t1 = true) (ht2 : isStd t2 = true), k29 t1 t2 l3 l4 l5 S = some q → V X G 6 (ZQ X G (QV G q)) 29 [some (.ref (G.2.1 25)), some (.ref (G.2.1 t1)), some (.ref (G.2.1 t2)), some (.int l3), some (.int l4), some (.int l5)] [] S) {t1 : Nat} {t2 : Nat} {l3 : Int32} {l4 : Int32} {l5 : Int32} {S : St} (ht1 : isSch t1 = true) (ht2 : isStd t2 = true) (h : FX0_sit_160 k29 t1 t2 l3 l4 l5 S = some q) : V X G 6 (ZQ X G (QV G q)) 160 [some (.ref (G.2.1 25)), some (.ref (G.2.1 t1)), some (.ref (G.2.1 t2)), some (.int l3), some (.int l4), some (.int l5)] [] S := by
  unfold FX0_sit_160 at h
  refine v_iinc hX eX0_sit_160 rfl (congrArg (_ + ·) ic_1) (Nat.le_of_ble_eq_true rfl) rfl (lv' := [some _, some _, some _, some _, some _, some _]) rfl ?_
  refine v_goto hX eX0_sit_163 rfl ?_
  exact hk29 ht1 ht2 h
set_option maxRecDepth 4000 in
theorem pX0_sit_29 {X : VX} {G : VG} {q : Unit × St} (hX : Fx X G cX0_sit 6 RX0 1) (hr : Rt X = none) : ∀ (n : Nat) {t1 : Nat} {t2 : Nat} {l3 : Int32} {l4 : Int32} {l5 : Int32} {S : St} (ht1 : isSch t1 = true) (ht2 : isStd t2 = true), FX0_sit_29 n t1 t2 l3 l4 l5 S = some q → V X G 6 (ZQ X G (QV G q)) 29 [some (.ref (G.2.1 25)), some (.ref (G.2.1 t1)), some (.ref (G.2.1 t2)), some (.int l3), some (.int l4), some (.int l5)] [] S := by
  intro n
  induction n with
  | zero => intro _ _ _ _ _ _ ht1 ht2 h; cases h
  | succ n ih =>
    intro t1 t2 l3 l4 l5 S ht1 ht2 h
    rw [FX0_sit_29] at h
    refine v_iload hX eX0_sit_29 rfl ?_
    refine v_aload_n hX eX0_sit_31 rfl ?_
    refine v_gfi hX eX0_sit_32 clX3 (fk_Sch_1 ht1) (Nat.le_of_ble_eq_true rfl) lk_X0_52 ?_
    refine v_icmp_ge hX eX0_sit_35 rfl (fun c7 => ?_) (fun c7 => ?_)
    · have h := it_t c7 h
      exact v_vret hX hr eX0_sit_166 h
    · have h := it_f c7 h
      refine v_iload_n hX eX0_sit_38 rfl ?_
      refine v_iload hX eX0_sit_39 rfl ?_
      refine v_ishr hX eX0_sit_41 ?_
      refine v_iconst hX eX0_sit_42 ic_1 ?_
      refine v_iand hX eX0_sit_43 ?_
      refine v_iconst hX eX0_sit_44 ic_1 ?_
      refine v_icmp_ne hX eX0_sit_45 rfl (fun c8 => ?_) (fun c8 => ?_)
      · have h := it_f c8 h
        exact pX0_sit_160 hX hr (fun ht1 ht2 h => ih ht1 ht2 h) ht1 ht2 h
      · have h := it_t c8 h
        refine v_aload_n hX eX0_sit_48 rfl ?_
        refine v_gfc hX eX0_sit_49 clX0 fk_25_4 (Nat.le_of_ble_eq_true rfl) lk_X0_9 ?_
        refine v_aload_n hX eX0_sit_52 rfl ?_
        refine v_gfi hX eX0_sit_53 clX0 fk_25_0 (Nat.le_of_ble_eq_true rfl) lk_X0_34 ?_
        refine v_iload hX eX0_sit_56 rfl ?_
        obtain ⟨g10, h⟩ := gd_e h
        refine v_iastore hX eX0_sit_58 ak_26 g10 ?_
        refine v_aload_n hX eX0_sit_59 rfl ?_
        refine v_gfc hX eX0_sit_60 clX0 fk_25_5 (Nat.le_of_ble_eq_true rfl) lk_X0_15 ?_
        refine v_aload_n hX eX0_sit_63 rfl ?_
        refine v_gfi hX eX0_sit_64 clX0 fk_25_0 (Nat.le_of_ble_eq_true rfl) lk_X0_34 ?_
        refine v_aload_n hX eX0_sit_67 rfl ?_
        refine v_gfc hX eX0_sit_68 clX5 (fk_Std_0 ht2) (Nat.le_of_ble_eq_true rfl) lk_X0_57 ?_
        refine v_iload hX eX0_sit_71 rfl ?_
        refine v_bipush hX eX0_sit_73 bp_6 ?_
        refine v_imul hX eX0_sit_75 ?_
        refine v_iload hX eX0_sit_76 rfl ?_
        refine v_iadd hX eX0_sit_78 ?_
        obtain ⟨g13, h⟩ := gd_e h
        refine v_iaload hX eX0_sit_79 (ak_Std_1 ht2) g13 ?_
        obtain ⟨g15, h⟩ := gd_e h
        refine v_iastore hX eX0_sit_80 ak_27 g15 ?_
        refine v_aload_n hX eX0_sit_81 rfl ?_
        refine v_gfc hX eX0_sit_82 clX0 fk_25_6 (Nat.le_of_ble_eq_true rfl) lk_X0_18 ?_
        refine v_aload_n hX eX0_sit_85 rfl ?_
        refine v_gfi hX eX0_sit_86 clX0 fk_25_0 (Nat.le_of_ble_eq_true rfl) lk_X0_34 ?_
        refine v_aload_n hX eX0_sit_89 rfl ?_
        refine v_aload_n hX eX0_sit_90 rfl ?_
        refine v_gfc hX eX0_sit_91 clX5 (fk_Std_0 ht2) (Nat.le_of_ble_eq_true rfl) lk_X0_57 ?_
        refine v_iload hX eX0_sit_94 rfl ?_
        refine v_iload hX eX0_sit_96 rfl ?_
        obtain ⟨q19, hq20, h⟩ := bd_e h
        refine v_cvI hX eX0_sit_98 cw_X0_60 (mX3_topOf ht1 (Lev_of_Std ht2) hq20) (Nat.le_of_ble_eq_true rfl) (oc_Sch ht1) (As := [_, _, _]) rfl rfl (Nat.le_of_ble_eq_true rfl) ?_
        obtain ⟨g22, h⟩ := gd_e h
        refine v_iastore hX eX0_sit_101 ak_28 g22 ?_
        refine v_aload_n hX eX0_sit_102 rfl ?_
        refine v_gfc hX eX0_sit_103 clX0 fk_25_7 (Nat.le_of_ble_eq_true rfl) lk_X0_21 ?_
        refine v_aload_n hX eX0_sit_106 rfl ?_
        refine v_gfi hX eX0_sit_107 clX0 fk_25_0 (Nat.le_of_ble_eq_true rfl) lk_X0_34 ?_
        refine v_aload_n hX eX0_sit_110 rfl ?_
        refine v_gfc hX eX0_sit_111 clX3 (fk_Sch_3 ht1) (Nat.le_of_ble_eq_true rfl) lk_X0_64 ?_
        refine v_iload hX eX0_sit_114 rfl ?_
        obtain ⟨g24, h⟩ := gd_e h
        refine v_iaload hX eX0_sit_116 (ak_Sch_2 ht1) g24 ?_
        obtain ⟨g26, h⟩ := gd_e h
        refine v_iastore hX eX0_sit_117 ak_29 g26 ?_
        refine v_aload_n hX eX0_sit_118 rfl ?_
        refine v_gfc hX eX0_sit_119 clX0 fk_25_8 (Nat.le_of_ble_eq_true rfl) lk_X0_24 ?_
        refine v_aload_n hX eX0_sit_122 rfl ?_
        refine v_gfi hX eX0_sit_123 clX0 fk_25_0 (Nat.le_of_ble_eq_true rfl) lk_X0_34 ?_
        refine v_aload_n hX eX0_sit_126 rfl ?_
        refine v_gfc hX eX0_sit_127 clX3 (fk_Sch_4 ht1) (Nat.le_of_ble_eq_true rfl) lk_X0_65 ?_
        refine v_iload hX eX0_sit_130 rfl ?_
        obtain ⟨g28, h⟩ := gd_e h
        refine v_iaload hX eX0_sit_132 (ak_Sch_3 ht1) g28 ?_
        obtain ⟨g30, h⟩ := gd_e h
        refine v_iastore hX eX0_sit_133 ak_30 g30 ?_
        refine v_aload_n hX eX0_sit_134 rfl ?_
        refine v_gfc hX eX0_sit_135 clX0 fk_25_9 (Nat.le_of_ble_eq_true rfl) lk_X0_27 ?_
        refine v_aload_n hX eX0_sit_138 rfl ?_
        refine v_gfi hX eX0_sit_139 clX0 fk_25_0 (Nat.le_of_ble_eq_true rfl) lk_X0_34 ?_
        refine v_aload_n hX eX0_sit_142 rfl ?_
        refine v_gfc hX eX0_sit_143 clX3 (fk_Sch_5 ht1) (Nat.le_of_ble_eq_true rfl) lk_X0_66 ?_
        refine v_iload hX eX0_sit_146 rfl ?_
        obtain ⟨g32, h⟩ := gd_e h
        refine v_iaload hX eX0_sit_148 (ak_Sch_4 ht1) g32 ?_
        obtain ⟨g34, h⟩ := gd_e h
        refine v_iastore hX eX0_sit_149 ak_31 g34 ?_
        refine v_aload_n hX eX0_sit_150 rfl ?_
        refine v_dup hX eX0_sit_151 rfl ?_
        refine v_gfi hX eX0_sit_152 clX0 fk_25_0 (Nat.le_of_ble_eq_true rfl) lk_X0_34 ?_
        refine v_iconst hX eX0_sit_155 ic_1 ?_
        refine v_iadd hX eX0_sit_156 ?_
        refine v_pfi hX eX0_sit_157 clX0 fk_25_0 (Nat.le_of_ble_eq_true rfl) lk_X0_34 rfl rfl ?_
        exact pX0_sit_160 hX hr (fun ht1 ht2 h => ih ht1 ht2 h) ht1 ht2 h
set_option maxRecDepth 4000 in
theorem pX0_sit {X : VX} {G : VG} {q : Unit × St} (hX : Fx X G cX0_sit 6 RX0 1) (hr : Rt X = none) {t1 : Nat} {t2 : Nat} {l3 : Int32} {l4 : Int32} {S : St} (ht1 : isSch t1 = true) (ht2 : isStd t2 = true) (h : fX0_sit t1 t2 l3 l4 S = some q) : V X G 6 (ZQ X G (QV G q)) 0 [some (.ref (G.2.1 25)), some (.ref (G.2.1 t1)), some (.ref (G.2.1 t2)), some (.int l3), some (.int l4), none] [] S := by
  unfold fX0_sit at h
  refine v_aload_n hX eX0_sit_0 rfl ?_
  refine v_iconst hX eX0_sit_1 ic_0 ?_
  refine v_pfi hX eX0_sit_2 clX0 fk_25_0 (Nat.le_of_ble_eq_true rfl) lk_X0_34 rfl rfl ?_
  refine v_aload_n hX eX0_sit_5 rfl ?_
  refine v_iload_n hX eX0_sit_6 rfl ?_
  refine v_pfi hX eX0_sit_7 clX0 fk_25_1 (Nat.le_of_ble_eq_true rfl) lk_X0_38 rfl rfl ?_
  refine v_aload_n hX eX0_sit_10 rfl ?_
  refine v_aload_n hX eX0_sit_11 rfl ?_
  refine v_gfi hX eX0_sit_12 clX5 (fk_Std_1 ht2) (Nat.le_of_ble_eq_true rfl) lk_X0_41 ?_
  obtain ⟨g5, h⟩ := gd_e h
  refine v_pfz hX eX0_sit_15 clX0 fk_25_2 (Nat.le_of_ble_eq_true rfl) lk_X0_47 rfl rfl g5 ?_
  refine v_aload_n hX eX0_sit_18 rfl ?_
  refine v_aload_n hX eX0_sit_19 rfl ?_
  refine v_gfi hX eX0_sit_20 clX5 (fk_Std_2 ht2) (Nat.le_of_ble_eq_true rfl) lk_X0_48 ?_
  refine v_pfi hX eX0_sit_23 clX0 fk_25_3 (Nat.le_of_ble_eq_true rfl) lk_X0_51 rfl rfl ?_
  refine v_iconst hX eX0_sit_26 ic_0 ?_
  refine v_istore hX eX0_sit_27 (lv' := [some _, some _, some _, some _, some _, some _]) (Nat.le_of_ble_eq_true rfl) rfl rfl ?_
  exact pX0_sit_29 hX hr  _ ht1 ht2 h
set_option maxRecDepth 4000 in
theorem mX0_sit {l : Launch} {G : VG} {t1 : Nat} {t2 : Nat} {l3 : Int32} {l4 : Int32} {S : St} {q : Unit × St} (ht1 : isSch t1 = true) (ht2 : isStd t2 = true) (h : fX0_sit t1 t2 l3 l4 S = some q) : MV l G yX0_sit cX0_sit 6 none 1 [.ref (G.2.1 25), .ref (G.2.1 t1), .ref (G.2.1 t2), .int l3, .int l4] S q :=
  met_of (by decide +kernel) (Nat.le_of_ble_eq_true rfl) (fun X _ hX hr => pX0_sit hX hr ht1 ht2 h)
def fX0_chosen (l1 : Int32) (l2 : Int32) (S : St) : Option (Int32 × St) :=
  if (l1 : Int32) = 0 then (
    bd (fX0_least (-1) 0 S) fun r7 S8 =>
    some (r7, S8)
  ) else (
    if (l1 : Int32) = 1 then (
      some (l2, S)
    ) else (
      bd (fX0_greatestBelow 9 S) fun r3 S4 =>
      some (r3, S4)
    )
  )
set_option maxRecDepth 4000 in
theorem pX0_chosen {X : VX} {G : VG} {q : Int32 × St} (hX : Fx X G cX0_chosen 3 RX0 1) (hr : Rt X = (some .int)) {l1 : Int32} {l2 : Int32} {S : St} (h : fX0_chosen l1 l2 S = some q) : V X G 3 (ZQ X G (QI G q)) 0 [some (.ref (G.2.1 25)), some (.int l1), some (.int l2)] [] S := by
  unfold fX0_chosen at h
  refine v_iload_n hX eX0_chosen_0 rfl ?_
  refine v_if_ne hX eX0_chosen_1 rfl (fun c1 => ?_) (fun c1 => ?_)
  · have h := it_f c1 h
    refine v_iload_n hX eX0_chosen_11 rfl ?_
    refine v_iconst hX eX0_chosen_12 ic_1 ?_
    refine v_icmp_ne hX eX0_chosen_13 rfl (fun c2 => ?_) (fun c2 => ?_)
    · have h := it_f c2 h
      refine v_aload_n hX eX0_chosen_20 rfl ?_
      refine v_bipush hX eX0_chosen_21 bp_9 ?_
      obtain ⟨q5, hq6, h⟩ := bd_e h
      refine v_cvI hX eX0_chosen_23 cw_X0_76 (mX0_greatestBelow hq6) (Nat.le_of_ble_eq_true rfl) oc_25 (As := [_]) rfl rfl (Nat.le_of_ble_eq_true rfl) ?_
      exact v_iret hX hr eX0_chosen_26 h
    · have h := it_t c2 h
      refine v_iload_n hX eX0_chosen_16 rfl ?_
      refine v_goto hX eX0_chosen_17 rfl ?_
      exact v_iret hX hr eX0_chosen_26 h
  · have h := it_t c1 h
    refine v_aload_n hX eX0_chosen_4 rfl ?_
    refine v_iconst hX eX0_chosen_5 ic_m1 ?_
    refine v_iconst hX eX0_chosen_6 ic_0 ?_
    obtain ⟨q9, hq10, h⟩ := bd_e h
    refine v_cvI hX eX0_chosen_7 cw_X0_73 (mX0_least hq10) (Nat.le_of_ble_eq_true rfl) oc_25 (As := [_, _]) rfl rfl (Nat.le_of_ble_eq_true rfl) ?_
    exact v_iret hX hr eX0_chosen_10 h
set_option maxRecDepth 4000 in
theorem mX0_chosen {l : Launch} {G : VG} {l1 : Int32} {l2 : Int32} {S : St} {q : Int32 × St} (h : fX0_chosen l1 l2 S = some q) : MI l G yX0_chosen cX0_chosen 3 (some .int) 1 [.ref (G.2.1 25), .int l1, .int l2] S q :=
  met_of (by decide +kernel) (Nat.le_of_ble_eq_true rfl) (fun X _ hX hr => pX0_chosen hX hr  h)
def FX0_tell_55 (k16 : Int32 → Int32 → Int32 → St → Option (Int32 × St)) (l1 : Int32) (l2 : Int32) (l3 : Int32) (S : St) : Option (Int32 × St) :=
  let x19 := l3 + 1
  k16 l1 l2 x19 S
def FX0_tell_16 : Nat → Int32 → Int32 → Int32 → St → Option (Int32 × St)
  | 0, _, _, _, _ => none
  | n + 1, l1, l2, l3, S =>
    if ((gN S 25 0) : Int32) ≤ l3 then (
      some (l2, S)
    ) else (
      gd (inB l3 6) <|
      if (l1 : Int32) ≤ (gN S 27 (l3 : Int32).toNatClampNeg) then (
        FX0_tell_55 (fun l1_ l2_ l3_ S_ => FX0_tell_16 n l1_ l2_ l3_ S_) l1 l2 l3 S
      ) else (
        bd (fX0_room l3 S) fun r10 S11 =>
        if (r10 : Int32) ≤ 0 then (
          FX0_tell_55 (fun l1_ l2_ l3_ S_ => FX0_tell_16 n l1_ l2_ l3_ S_) l1 l2 l3 S11
        ) else (
          gd (inB l3 6) <|
          gd (inB l3 6) <|
          let S17 := sN S11 27 (l3 : Int32).toNatClampNeg ((gN S11 27 (l3 : Int32).toNatClampNeg) + 1)
          let x18 := l2 + 1
          FX0_tell_55 (fun l1_ l2_ l3_ S_ => FX0_tell_16 n l1_ l2_ l3_ S_) l1 x18 l3 S17
        )
      )
    )
def fX0_tell  (S : St) : Option (Int32 × St) :=
  bd (fX0_greatestBelow 10 S) fun r1 S2 =>
  gd (inB r1 6) <|
  let x6 := gN S2 27 (r1 : Int32).toNatClampNeg
  FX0_tell_16 FU x6 0 0 S2
set_option maxRecDepth 4000 in
theorem pX0_tell_55 {X : VX} {G : VG} {q : Int32 × St} (hX : Fx X G cX0_tell 4 RX0 1) (hr : Rt X = (some .int)) {k16 : Int32 → Int32 → Int32 → St → Option (Int32 × St)} (hk16 : ∀ {l1 : Int32} {l2 : Int32} {l3 : Int32} {S : St}, k16 l1 l2 l3 S = some q → V X G 4 (ZQ X G (QI G q)) 16 [some (.ref (G.2.1 25)), some (.int l1), some (.int l2), some (.int l3)] [] S) {l1 : Int32} {l2 : Int32} {l3 : Int32} {S : St} (h : FX0_tell_55 k16 l1 l2 l3 S = some q) : V X G 4 (ZQ X G (QI G q)) 55 [some (.ref (G.2.1 25)), some (.int l1), some (.int l2), some (.int l3)] [] S := by
  unfold FX0_tell_55 at h
  refine v_iinc hX eX0_tell_55 rfl (congrArg (_ + ·) ic_1) (Nat.le_of_ble_eq_true rfl) rfl (lv' := [some _, some _, some _, some _]) rfl ?_
  refine v_goto hX eX0_tell_58 rfl ?_
  exact hk16 h
set_option maxRecDepth 4000 in
theorem pX0_tell_16 {X : VX} {G : VG} {q : Int32 × St} (hX : Fx X G cX0_tell 4 RX0 1) (hr : Rt X = (some .int)) : ∀ (n : Nat) {l1 : Int32} {l2 : Int32} {l3 : Int32} {S : St}, FX0_tell_16 n l1 l2 l3 S = some q → V X G 4 (ZQ X G (QI G q)) 16 [some (.ref (G.2.1 25)), some (.int l1), some (.int l2), some (.int l3)] [] S := by
  intro n
  induction n with
  | zero => intro _ _ _ _  h; cases h
  | succ n ih =>
    intro l1 l2 l3 S  h
    rw [FX0_tell_16] at h
    refine v_iload_n hX eX0_tell_16 rfl ?_
    refine v_aload_n hX eX0_tell_17 rfl ?_
    refine v_gfi hX eX0_tell_18 clX0 fk_25_0 (Nat.le_of_ble_eq_true rfl) lk_X0_34 ?_
    refine v_icmp_ge hX eX0_tell_21 rfl (fun c7 => ?_) (fun c7 => ?_)
    · have h := it_t c7 h
      refine v_iload_n hX eX0_tell_61 rfl ?_
      exact v_iret hX hr eX0_tell_62 h
    · have h := it_f c7 h
      refine v_aload_n hX eX0_tell_24 rfl ?_
      refine v_gfc hX eX0_tell_25 clX0 fk_25_5 (Nat.le_of_ble_eq_true rfl) lk_X0_15 ?_
      refine v_iload_n hX eX0_tell_28 rfl ?_
      obtain ⟨g8, h⟩ := gd_e h
      refine v_iaload hX eX0_tell_29 ak_27 g8 ?_
      refine v_iload_n hX eX0_tell_30 rfl ?_
      refine v_icmp_ge hX eX0_tell_31 rfl (fun c9 => ?_) (fun c9 => ?_)
      · have h := it_t c9 h
        exact pX0_tell_55 hX hr (fun h => ih h) h
      · have h := it_f c9 h
        refine v_aload_n hX eX0_tell_34 rfl ?_
        refine v_iload_n hX eX0_tell_35 rfl ?_
        obtain ⟨q12, hq13, h⟩ := bd_e h
        refine v_cvI hX eX0_tell_36 cw_X0_80 (mX0_room hq13) (Nat.le_of_ble_eq_true rfl) oc_25 (As := [_]) rfl rfl (Nat.le_of_ble_eq_true rfl) ?_
        refine v_if_le hX eX0_tell_39 rfl (fun c14 => ?_) (fun c14 => ?_)
        · have h := it_t c14 h
          exact pX0_tell_55 hX hr (fun h => ih h) h
        · have h := it_f c14 h
          refine v_aload_n hX eX0_tell_42 rfl ?_
          refine v_gfc hX eX0_tell_43 clX0 fk_25_5 (Nat.le_of_ble_eq_true rfl) lk_X0_15 ?_
          refine v_iload_n hX eX0_tell_46 rfl ?_
          refine v_dup2 hX eX0_tell_47 rfl rfl ?_
          obtain ⟨g15, h⟩ := gd_e h
          refine v_iaload hX eX0_tell_48 ak_27 g15 ?_
          refine v_iconst hX eX0_tell_49 ic_1 ?_
          refine v_iadd hX eX0_tell_50 ?_
          obtain ⟨g16, h⟩ := gd_e h
          refine v_iastore hX eX0_tell_51 ak_27 g16 ?_
          refine v_iinc hX eX0_tell_52 rfl (congrArg (_ + ·) ic_1) (Nat.le_of_ble_eq_true rfl) rfl (lv' := [some _, some _, some _, some _]) rfl ?_
          exact pX0_tell_55 hX hr (fun h => ih h) h
set_option maxRecDepth 4000 in
theorem pX0_tell {X : VX} {G : VG} {q : Int32 × St} (hX : Fx X G cX0_tell 4 RX0 1) (hr : Rt X = (some .int))  {S : St} (h : fX0_tell  S = some q) : V X G 4 (ZQ X G (QI G q)) 0 [some (.ref (G.2.1 25)), none, none, none] [] S := by
  unfold fX0_tell at h
  refine v_aload_n hX eX0_tell_0 rfl ?_
  refine v_gfc hX eX0_tell_1 clX0 fk_25_5 (Nat.le_of_ble_eq_true rfl) lk_X0_15 ?_
  refine v_aload_n hX eX0_tell_4 rfl ?_
  refine v_bipush hX eX0_tell_5 bp_10 ?_
  obtain ⟨q3, hq4, h⟩ := bd_e h
  refine v_cvI hX eX0_tell_7 cw_X0_76 (mX0_greatestBelow hq4) (Nat.le_of_ble_eq_true rfl) oc_25 (As := [_]) rfl rfl (Nat.le_of_ble_eq_true rfl) ?_
  obtain ⟨g5, h⟩ := gd_e h
  refine v_iaload hX eX0_tell_10 ak_27 g5 ?_
  refine v_istore_n hX eX0_tell_11 (lv' := [some _, some _, none, none]) (Nat.le_of_ble_eq_true rfl) rfl rfl ?_
  refine v_iconst hX eX0_tell_12 ic_0 ?_
  refine v_istore_n hX eX0_tell_13 (lv' := [some _, some _, some _, none]) (Nat.le_of_ble_eq_true rfl) rfl rfl ?_
  refine v_iconst hX eX0_tell_14 ic_0 ?_
  refine v_istore_n hX eX0_tell_15 (lv' := [some _, some _, some _, some _]) (Nat.le_of_ble_eq_true rfl) rfl rfl ?_
  exact pX0_tell_16 hX hr  _ h
set_option maxRecDepth 4000 in
theorem mX0_tell {l : Launch} {G : VG}  {S : St} {q : Int32 × St} (h : fX0_tell  S = some q) : MI l G yX0_tell cX0_tell 4 (some .int) 1 [.ref (G.2.1 25)] S q :=
  met_of (by decide +kernel) (Nat.le_of_ble_eq_true rfl) (fun X _ hX hr => pX0_tell hX hr  h)
def FX0_endCorrected_36 (k13 : Int32 → St → Option (Int32 × St)) (l2 : Int32) (S : St) : Option (Int32 × St) :=
  let x13 := l2 + 1
  k13 x13 S
def FX0_endCorrected_13 : Nat → Int32 → St → Option (Int32 × St)
  | 0, _, _ => none
  | n + 1, l2, S =>
    if ((gN S 25 0) : Int32) ≤ l2 then (
      some (0, S)
    ) else (
      gd (inB l2 6) <|
      if ((gN S 32 (l2 : Int32).toNatClampNeg) : Int32) = 0 then (
        FX0_endCorrected_36 (fun l2_ S_ => FX0_endCorrected_13 n l2_ S_) l2 S
      ) else (
        bd (fX0_rise l2 1 S) fun _ S10 =>
        FX0_endCorrected_36 (fun l2_ S_ => FX0_endCorrected_13 n l2_ S_) l2 S10
      )
    )
def fX0_endCorrected (l1 : Int32) (S : St) : Option (Int32 × St) :=
  gd (inB l1 6) <|
  bd (fX0_rise l1 (gN S 29 (l1 : Int32).toNatClampNeg) S) fun _ S3 =>
  FX0_endCorrected_13 FU 0 S3
set_option maxRecDepth 4000 in
theorem pX0_endCorrected_36 {X : VX} {G : VG} {q : Int32 × St} (hX : Fx X G cX0_endCorrected 3 RX0 1) (hr : Rt X = (some .int)) {k13 : Int32 → St → Option (Int32 × St)} (hk13 : ∀ {l2 : Int32} {S : St}, k13 l2 S = some q → V X G 3 (ZQ X G (QI G q)) 13 [some (.ref (G.2.1 25)), none, some (.int l2)] [] S) {l2 : Int32} {S : St} (h : FX0_endCorrected_36 k13 l2 S = some q) : V X G 3 (ZQ X G (QI G q)) 36 [some (.ref (G.2.1 25)), none, some (.int l2)] [] S := by
  unfold FX0_endCorrected_36 at h
  refine v_iinc hX eX0_endCorrected_36 rfl (congrArg (_ + ·) ic_1) (Nat.le_of_ble_eq_true rfl) rfl (lv' := [some _, none, some _]) rfl ?_
  refine v_goto hX eX0_endCorrected_39 rfl ?_
  exact hk13 h
set_option maxRecDepth 4000 in
theorem pX0_endCorrected_13 {X : VX} {G : VG} {q : Int32 × St} (hX : Fx X G cX0_endCorrected 3 RX0 1) (hr : Rt X = (some .int)) : ∀ (n : Nat) {l2 : Int32} {S : St}, FX0_endCorrected_13 n l2 S = some q → V X G 3 (ZQ X G (QI G q)) 13 [some (.ref (G.2.1 25)), none, some (.int l2)] [] S := by
  intro n
  induction n with
  | zero => intro _ _  h; cases h
  | succ n ih =>
    intro l2 S  h
    rw [FX0_endCorrected_13] at h
    refine v_iload_n hX eX0_endCorrected_13 rfl ?_
    refine v_aload_n hX eX0_endCorrected_14 rfl ?_
    refine v_gfi hX eX0_endCorrected_15 clX0 fk_25_0 (Nat.le_of_ble_eq_true rfl) lk_X0_34 ?_
    refine v_icmp_ge hX eX0_endCorrected_18 rfl (fun c6 => ?_) (fun c6 => ?_)
    · have h := it_t c6 h
      refine v_iconst hX eX0_endCorrected_42 ic_0 ?_
      exact v_iret hX hr eX0_endCorrected_43 h
    · have h := it_f c6 h
      refine v_aload_n hX eX0_endCorrected_21 rfl ?_
      refine v_gfc hX eX0_endCorrected_22 clX0 fk_25_10 (Nat.le_of_ble_eq_true rfl) lk_X0_30 ?_
      refine v_iload_n hX eX0_endCorrected_25 rfl ?_
      obtain ⟨g7, h⟩ := gd_e h
      refine v_zaload hX eX0_endCorrected_26 ak_32 g7 ?_
      refine v_if_eq hX eX0_endCorrected_27 rfl (fun c8 => ?_) (fun c8 => ?_)
      · have h := it_t c8 h
        exact pX0_endCorrected_36 hX hr (fun h => ih h) h
      · have h := it_f c8 h
        refine v_aload_n hX eX0_endCorrected_30 rfl ?_
        refine v_iload_n hX eX0_endCorrected_31 rfl ?_
        refine v_iconst hX eX0_endCorrected_32 ic_1 ?_
        obtain ⟨q11, hq12, h⟩ := bd_e h
        refine v_cvV hX eX0_endCorrected_33 cw_X0_121 (mX0_rise hq12) (Nat.le_of_ble_eq_true rfl) oc_25 (As := [_, _]) rfl rfl (Nat.le_of_ble_eq_true rfl) ?_
        exact pX0_endCorrected_36 hX hr (fun h => ih h) h
set_option maxRecDepth 4000 in
theorem pX0_endCorrected {X : VX} {G : VG} {q : Int32 × St} (hX : Fx X G cX0_endCorrected 3 RX0 1) (hr : Rt X = (some .int)) {l1 : Int32} {S : St} (h : fX0_endCorrected l1 S = some q) : V X G 3 (ZQ X G (QI G q)) 0 [some (.ref (G.2.1 25)), some (.int l1), none] [] S := by
  unfold fX0_endCorrected at h
  refine v_aload_n hX eX0_endCorrected_0 rfl ?_
  refine v_iload_n hX eX0_endCorrected_1 rfl ?_
  refine v_aload_n hX eX0_endCorrected_2 rfl ?_
  refine v_gfc hX eX0_endCorrected_3 clX0 fk_25_7 (Nat.le_of_ble_eq_true rfl) lk_X0_21 ?_
  refine v_iload_n hX eX0_endCorrected_6 rfl ?_
  obtain ⟨g1, h⟩ := gd_e h
  refine v_iaload hX eX0_endCorrected_7 ak_29 g1 ?_
  obtain ⟨q4, hq5, h⟩ := bd_e h
  refine v_cvV hX eX0_endCorrected_8 cw_X0_121 (mX0_rise hq5) (Nat.le_of_ble_eq_true rfl) oc_25 (As := [_, _]) rfl rfl (Nat.le_of_ble_eq_true rfl) ?_
  refine v_iconst hX eX0_endCorrected_11 ic_0 ?_
  refine v_istore_n hX eX0_endCorrected_12 (lv' := [some _, some _, some _]) (Nat.le_of_ble_eq_true rfl) rfl rfl ?_
  refine v_drop 1 (lv' := [some _, none, some _]) rfl ?_
  exact pX0_endCorrected_13 hX hr  _ h
set_option maxRecDepth 4000 in
theorem mX0_endCorrected {l : Launch} {G : VG} {l1 : Int32} {S : St} {q : Int32 × St} (h : fX0_endCorrected l1 S = some q) : MI l G yX0_endCorrected cX0_endCorrected 3 (some .int) 1 [.ref (G.2.1 25), .int l1] S q :=
  met_of (by decide +kernel) (Nat.le_of_ble_eq_true rfl) (fun X _ hX hr => pX0_endCorrected hX hr  h)
def FX0_endMisled_43 (k2 : Int32 → Int32 → Int32 → St → Option (Int32 × St)) (l1 : Int32) (l2 : Int32) (l3 : Int32) (S : St) : Option (Int32 × St) :=
  let x16 := l3 + 1
  k2 l1 l2 x16 S
def FX0_endMisled_2 : Nat → Int32 → Int32 → Int32 → St → Option (Int32 × St)
  | 0, _, _, _, _ => none
  | n + 1, l1, l2, l3, S =>
    if ((gN S 25 0) : Int32) ≤ l3 then (
      some (1, S)
    ) else (
      bd (fX0_mayBelieve l3 l1 S) fun r2 S3 =>
      if (r2 : Int32) = 0 then (
        FX0_endMisled_43 (fun l1_ l2_ l3_ S_ => FX0_endMisled_2 n l1_ l2_ l3_ S_) l1 l2 l3 S3
      ) else (
        gd (inB l3 6) <|
        bd (fX0_comes (gN S3 30 (l3 : Int32).toNatClampNeg) l2 S3) fun r8 S9 =>
        if (r8 : Int32) = 0 then (
          FX0_endMisled_43 (fun l1_ l2_ l3_ S_ => FX0_endMisled_2 n l1_ l2_ l3_ S_) l1 l2 l3 S9
        ) else (
          gd (inB l3 6) <|
          gd (inB l3 6) <|
          let S15 := sN S9 27 (l3 : Int32).toNatClampNeg ((gN S9 27 (l3 : Int32).toNatClampNeg) - 1)
          FX0_endMisled_43 (fun l1_ l2_ l3_ S_ => FX0_endMisled_2 n l1_ l2_ l3_ S_) l1 l2 l3 S15
        )
      )
    )
def fX0_endMisled (l1 : Int32) (l2 : Int32) (S : St) : Option (Int32 × St) :=
  FX0_endMisled_2 FU l1 l2 0 S
set_option maxRecDepth 4000 in
theorem pX0_endMisled_43 {X : VX} {G : VG} {q : Int32 × St} (hX : Fx X G cX0_endMisled 4 RX0 1) (hr : Rt X = (some .int)) {k2 : Int32 → Int32 → Int32 → St → Option (Int32 × St)} (hk2 : ∀ {l1 : Int32} {l2 : Int32} {l3 : Int32} {S : St}, k2 l1 l2 l3 S = some q → V X G 4 (ZQ X G (QI G q)) 2 [some (.ref (G.2.1 25)), some (.int l1), some (.int l2), some (.int l3)] [] S) {l1 : Int32} {l2 : Int32} {l3 : Int32} {S : St} (h : FX0_endMisled_43 k2 l1 l2 l3 S = some q) : V X G 4 (ZQ X G (QI G q)) 43 [some (.ref (G.2.1 25)), some (.int l1), some (.int l2), some (.int l3)] [] S := by
  unfold FX0_endMisled_43 at h
  refine v_iinc hX eX0_endMisled_43 rfl (congrArg (_ + ·) ic_1) (Nat.le_of_ble_eq_true rfl) rfl (lv' := [some _, some _, some _, some _]) rfl ?_
  refine v_goto hX eX0_endMisled_46 rfl ?_
  exact hk2 h
set_option maxRecDepth 4000 in
theorem pX0_endMisled_2 {X : VX} {G : VG} {q : Int32 × St} (hX : Fx X G cX0_endMisled 4 RX0 1) (hr : Rt X = (some .int)) : ∀ (n : Nat) {l1 : Int32} {l2 : Int32} {l3 : Int32} {S : St}, FX0_endMisled_2 n l1 l2 l3 S = some q → V X G 4 (ZQ X G (QI G q)) 2 [some (.ref (G.2.1 25)), some (.int l1), some (.int l2), some (.int l3)] [] S := by
  intro n
  induction n with
  | zero => intro _ _ _ _  h; cases h
  | succ n ih =>
    intro l1 l2 l3 S  h
    rw [FX0_endMisled_2] at h
    refine v_iload_n hX eX0_endMisled_2 rfl ?_
    refine v_aload_n hX eX0_endMisled_3 rfl ?_
    refine v_gfi hX eX0_endMisled_4 clX0 fk_25_0 (Nat.le_of_ble_eq_true rfl) lk_X0_34 ?_
    refine v_icmp_ge hX eX0_endMisled_7 rfl (fun c1 => ?_) (fun c1 => ?_)
    · have h := it_t c1 h
      refine v_iconst hX eX0_endMisled_49 ic_1 ?_
      exact v_iret hX hr eX0_endMisled_50 h
    · have h := it_f c1 h
      refine v_aload_n hX eX0_endMisled_10 rfl ?_
      refine v_iload_n hX eX0_endMisled_11 rfl ?_
      refine v_iload_n hX eX0_endMisled_12 rfl ?_
      obtain ⟨q4, hq5, h⟩ := bd_e h
      refine v_cvI hX eX0_endMisled_13 cw_X0_125 (mX0_mayBelieve hq5) (Nat.le_of_ble_eq_true rfl) oc_25 (As := [_, _]) rfl rfl (Nat.le_of_ble_eq_true rfl) ?_
      refine v_if_eq hX eX0_endMisled_16 rfl (fun c6 => ?_) (fun c6 => ?_)
      · have h := it_t c6 h
        exact pX0_endMisled_43 hX hr (fun h => ih h) h
      · have h := it_f c6 h
        refine v_aload_n hX eX0_endMisled_19 rfl ?_
        refine v_aload_n hX eX0_endMisled_20 rfl ?_
        refine v_gfc hX eX0_endMisled_21 clX0 fk_25_8 (Nat.le_of_ble_eq_true rfl) lk_X0_24 ?_
        refine v_iload_n hX eX0_endMisled_24 rfl ?_
        obtain ⟨g7, h⟩ := gd_e h
        refine v_iaload hX eX0_endMisled_25 ak_30 g7 ?_
        refine v_iload_n hX eX0_endMisled_26 rfl ?_
        obtain ⟨q10, hq11, h⟩ := bd_e h
        refine v_cvI hX eX0_endMisled_27 cw_X0_93 (mX0_comes hq11) (Nat.le_of_ble_eq_true rfl) oc_25 (As := [_, _]) rfl rfl (Nat.le_of_ble_eq_true rfl) ?_
        refine v_if_eq hX eX0_endMisled_30 rfl (fun c12 => ?_) (fun c12 => ?_)
        · have h := it_t c12 h
          exact pX0_endMisled_43 hX hr (fun h => ih h) h
        · have h := it_f c12 h
          refine v_aload_n hX eX0_endMisled_33 rfl ?_
          refine v_gfc hX eX0_endMisled_34 clX0 fk_25_5 (Nat.le_of_ble_eq_true rfl) lk_X0_15 ?_
          refine v_iload_n hX eX0_endMisled_37 rfl ?_
          refine v_dup2 hX eX0_endMisled_38 rfl rfl ?_
          obtain ⟨g13, h⟩ := gd_e h
          refine v_iaload hX eX0_endMisled_39 ak_27 g13 ?_
          refine v_iconst hX eX0_endMisled_40 ic_1 ?_
          refine v_isub hX eX0_endMisled_41 ?_
          obtain ⟨g14, h⟩ := gd_e h
          refine v_iastore hX eX0_endMisled_42 ak_27 g14 ?_
          exact pX0_endMisled_43 hX hr (fun h => ih h) h
set_option maxRecDepth 4000 in
theorem pX0_endMisled {X : VX} {G : VG} {q : Int32 × St} (hX : Fx X G cX0_endMisled 4 RX0 1) (hr : Rt X = (some .int)) {l1 : Int32} {l2 : Int32} {S : St} (h : fX0_endMisled l1 l2 S = some q) : V X G 4 (ZQ X G (QI G q)) 0 [some (.ref (G.2.1 25)), some (.int l1), some (.int l2), none] [] S := by
  unfold fX0_endMisled at h
  refine v_iconst hX eX0_endMisled_0 ic_0 ?_
  refine v_istore_n hX eX0_endMisled_1 (lv' := [some _, some _, some _, some _]) (Nat.le_of_ble_eq_true rfl) rfl rfl ?_
  exact pX0_endMisled_2 hX hr  _ h
set_option maxRecDepth 4000 in
theorem mX0_endMisled {l : Launch} {G : VG} {l1 : Int32} {l2 : Int32} {S : St} {q : Int32 × St} (h : fX0_endMisled l1 l2 S = some q) : MI l G yX0_endMisled cX0_endMisled 4 (some .int) 1 [.ref (G.2.1 25), .int l1, .int l2] S q :=
  met_of (by decide +kernel) (Nat.le_of_ble_eq_true rfl) (fun X _ hX hr => pX0_endMisled hX hr  h)
def FX0_endShaken_33  (S : St) : Option (Int32 × St) :=
  some (2, S)
def fX0_endShaken (l1 : Int32) (l2 : Int32) (S : St) : Option (Int32 × St) :=
  gd (inB l1 6) <|
  bd (fX0_comes (gN S 31 (l1 : Int32).toNatClampNeg) l2 S) fun r2 S3 =>
  if (r2 : Int32) = 0 then (
    gd (inB l1 6) <|
    if ((gN S3 27 (l1 : Int32).toNatClampNeg) : Int32) ≤ 0 then (
      FX0_endShaken_33 S3
    ) else (
      gd (inB l1 6) <|
      gd (inB l1 6) <|
      let S11 := sN S3 27 (l1 : Int32).toNatClampNeg ((gN S3 27 (l1 : Int32).toNatClampNeg) - 1)
      FX0_endShaken_33 S11
    )
  ) else (
    FX0_endShaken_33 S3
  )
set_option maxRecDepth 4000 in
theorem pX0_endShaken_33 {X : VX} {G : VG} {q : Int32 × St} (hX : Fx X G cX0_endShaken 3 RX0 1) (hr : Rt X = (some .int))  {S : St} (h : FX0_endShaken_33  S = some q) : V X G 3 (ZQ X G (QI G q)) 33 [none, none, none] [] S := by
  unfold FX0_endShaken_33 at h
  refine v_iconst hX eX0_endShaken_33 ic_2 ?_
  exact v_iret hX hr eX0_endShaken_34 h
set_option maxRecDepth 4000 in
theorem pX0_endShaken {X : VX} {G : VG} {q : Int32 × St} (hX : Fx X G cX0_endShaken 3 RX0 1) (hr : Rt X = (some .int)) {l1 : Int32} {l2 : Int32} {S : St} (h : fX0_endShaken l1 l2 S = some q) : V X G 3 (ZQ X G (QI G q)) 0 [some (.ref (G.2.1 25)), some (.int l1), some (.int l2)] [] S := by
  unfold fX0_endShaken at h
  refine v_aload_n hX eX0_endShaken_0 rfl ?_
  refine v_aload_n hX eX0_endShaken_1 rfl ?_
  refine v_gfc hX eX0_endShaken_2 clX0 fk_25_9 (Nat.le_of_ble_eq_true rfl) lk_X0_27 ?_
  refine v_iload_n hX eX0_endShaken_5 rfl ?_
  obtain ⟨g1, h⟩ := gd_e h
  refine v_iaload hX eX0_endShaken_6 ak_31 g1 ?_
  refine v_iload_n hX eX0_endShaken_7 rfl ?_
  obtain ⟨q4, hq5, h⟩ := bd_e h
  refine v_cvI hX eX0_endShaken_8 cw_X0_93 (mX0_comes hq5) (Nat.le_of_ble_eq_true rfl) oc_25 (As := [_, _]) rfl rfl (Nat.le_of_ble_eq_true rfl) ?_
  refine v_if_ne hX eX0_endShaken_11 rfl (fun c6 => ?_) (fun c6 => ?_)
  · have h := it_f c6 h
    refine v_drop 0 (lv' := [none, some _, some _]) rfl ?_
    refine v_drop 1 (lv' := [none, none, some _]) rfl ?_
    refine v_drop 2 (lv' := [none, none, none]) rfl ?_
    exact pX0_endShaken_33 hX hr  h
  · have h := it_t c6 h
    refine v_aload_n hX eX0_endShaken_14 rfl ?_
    refine v_gfc hX eX0_endShaken_15 clX0 fk_25_5 (Nat.le_of_ble_eq_true rfl) lk_X0_15 ?_
    refine v_iload_n hX eX0_endShaken_18 rfl ?_
    obtain ⟨g7, h⟩ := gd_e h
    refine v_iaload hX eX0_endShaken_19 ak_27 g7 ?_
    refine v_if_le hX eX0_endShaken_20 rfl (fun c8 => ?_) (fun c8 => ?_)
    · have h := it_t c8 h
      refine v_drop 0 (lv' := [none, some _, some _]) rfl ?_
      refine v_drop 1 (lv' := [none, none, some _]) rfl ?_
      refine v_drop 2 (lv' := [none, none, none]) rfl ?_
      exact pX0_endShaken_33 hX hr  h
    · have h := it_f c8 h
      refine v_aload_n hX eX0_endShaken_23 rfl ?_
      refine v_gfc hX eX0_endShaken_24 clX0 fk_25_5 (Nat.le_of_ble_eq_true rfl) lk_X0_15 ?_
      refine v_iload_n hX eX0_endShaken_27 rfl ?_
      refine v_dup2 hX eX0_endShaken_28 rfl rfl ?_
      obtain ⟨g9, h⟩ := gd_e h
      refine v_iaload hX eX0_endShaken_29 ak_27 g9 ?_
      refine v_iconst hX eX0_endShaken_30 ic_1 ?_
      refine v_isub hX eX0_endShaken_31 ?_
      obtain ⟨g10, h⟩ := gd_e h
      refine v_iastore hX eX0_endShaken_32 ak_27 g10 ?_
      refine v_drop 0 (lv' := [none, some _, some _]) rfl ?_
      refine v_drop 1 (lv' := [none, none, some _]) rfl ?_
      refine v_drop 2 (lv' := [none, none, none]) rfl ?_
      exact pX0_endShaken_33 hX hr  h
set_option maxRecDepth 4000 in
theorem mX0_endShaken {l : Launch} {G : VG} {l1 : Int32} {l2 : Int32} {S : St} {q : Int32 × St} (h : fX0_endShaken l1 l2 S = some q) : MI l G yX0_endShaken cX0_endShaken 3 (some .int) 1 [.ref (G.2.1 25), .int l1, .int l2] S q :=
  met_of (by decide +kernel) (Nat.le_of_ble_eq_true rfl) (fun X _ hX hr => pX0_endShaken hX hr  h)
def FX0_endAgreed_33 (k9 : Int32 → Int32 → St → Option (Int32 × St)) (l2 : Int32) (l3 : Int32) (S : St) : Option (Int32 × St) :=
  let x10 := l3 + 1
  k9 l2 x10 S
def FX0_endAgreed_9 : Nat → Int32 → Int32 → St → Option (Int32 × St)
  | 0, _, _, _ => none
  | n + 1, l2, l3, S =>
    if ((gN S 25 0) : Int32) ≤ l3 then (
      some (3, S)
    ) else (
      gd (inB l3 6) <|
      if (l2 : Int32) < (gN S 27 (l3 : Int32).toNatClampNeg) then (
        FX0_endAgreed_33 (fun l2_ l3_ S_ => FX0_endAgreed_9 n l2_ l3_ S_) l2 l3 S
      ) else (
        bd (fX0_rise l3 1 S) fun _ S7 =>
        FX0_endAgreed_33 (fun l2_ l3_ S_ => FX0_endAgreed_9 n l2_ l3_ S_) l2 l3 S7
      )
    )
def fX0_endAgreed (l1 : Int32) (S : St) : Option (Int32 × St) :=
  gd (inB l1 6) <|
  let x2 := gN S 27 (l1 : Int32).toNatClampNeg
  FX0_endAgreed_9 FU x2 0 S
set_option maxRecDepth 4000 in
theorem pX0_endAgreed_33 {X : VX} {G : VG} {q : Int32 × St} (hX : Fx X G cX0_endAgreed 4 RX0 1) (hr : Rt X = (some .int)) {k9 : Int32 → Int32 → St → Option (Int32 × St)} (hk9 : ∀ {l2 : Int32} {l3 : Int32} {S : St}, k9 l2 l3 S = some q → V X G 4 (ZQ X G (QI G q)) 9 [some (.ref (G.2.1 25)), none, some (.int l2), some (.int l3)] [] S) {l2 : Int32} {l3 : Int32} {S : St} (h : FX0_endAgreed_33 k9 l2 l3 S = some q) : V X G 4 (ZQ X G (QI G q)) 33 [some (.ref (G.2.1 25)), none, some (.int l2), some (.int l3)] [] S := by
  unfold FX0_endAgreed_33 at h
  refine v_iinc hX eX0_endAgreed_33 rfl (congrArg (_ + ·) ic_1) (Nat.le_of_ble_eq_true rfl) rfl (lv' := [some _, none, some _, some _]) rfl ?_
  refine v_goto hX eX0_endAgreed_36 rfl ?_
  exact hk9 h
set_option maxRecDepth 4000 in
theorem pX0_endAgreed_9 {X : VX} {G : VG} {q : Int32 × St} (hX : Fx X G cX0_endAgreed 4 RX0 1) (hr : Rt X = (some .int)) : ∀ (n : Nat) {l2 : Int32} {l3 : Int32} {S : St}, FX0_endAgreed_9 n l2 l3 S = some q → V X G 4 (ZQ X G (QI G q)) 9 [some (.ref (G.2.1 25)), none, some (.int l2), some (.int l3)] [] S := by
  intro n
  induction n with
  | zero => intro _ _ _  h; cases h
  | succ n ih =>
    intro l2 l3 S  h
    rw [FX0_endAgreed_9] at h
    refine v_iload_n hX eX0_endAgreed_9 rfl ?_
    refine v_aload_n hX eX0_endAgreed_10 rfl ?_
    refine v_gfi hX eX0_endAgreed_11 clX0 fk_25_0 (Nat.le_of_ble_eq_true rfl) lk_X0_34 ?_
    refine v_icmp_ge hX eX0_endAgreed_14 rfl (fun c3 => ?_) (fun c3 => ?_)
    · have h := it_t c3 h
      refine v_iconst hX eX0_endAgreed_39 ic_3 ?_
      exact v_iret hX hr eX0_endAgreed_40 h
    · have h := it_f c3 h
      refine v_aload_n hX eX0_endAgreed_17 rfl ?_
      refine v_gfc hX eX0_endAgreed_18 clX0 fk_25_5 (Nat.le_of_ble_eq_true rfl) lk_X0_15 ?_
      refine v_iload_n hX eX0_endAgreed_21 rfl ?_
      obtain ⟨g4, h⟩ := gd_e h
      refine v_iaload hX eX0_endAgreed_22 ak_27 g4 ?_
      refine v_iload_n hX eX0_endAgreed_23 rfl ?_
      refine v_icmp_gt hX eX0_endAgreed_24 rfl (fun c5 => ?_) (fun c5 => ?_)
      · have h := it_t c5 h
        exact pX0_endAgreed_33 hX hr (fun h => ih h) h
      · have h := it_f c5 h
        refine v_aload_n hX eX0_endAgreed_27 rfl ?_
        refine v_iload_n hX eX0_endAgreed_28 rfl ?_
        refine v_iconst hX eX0_endAgreed_29 ic_1 ?_
        obtain ⟨q8, hq9, h⟩ := bd_e h
        refine v_cvV hX eX0_endAgreed_30 cw_X0_121 (mX0_rise hq9) (Nat.le_of_ble_eq_true rfl) oc_25 (As := [_, _]) rfl rfl (Nat.le_of_ble_eq_true rfl) ?_
        exact pX0_endAgreed_33 hX hr (fun h => ih h) h
set_option maxRecDepth 4000 in
theorem pX0_endAgreed {X : VX} {G : VG} {q : Int32 × St} (hX : Fx X G cX0_endAgreed 4 RX0 1) (hr : Rt X = (some .int)) {l1 : Int32} {S : St} (h : fX0_endAgreed l1 S = some q) : V X G 4 (ZQ X G (QI G q)) 0 [some (.ref (G.2.1 25)), some (.int l1), none, none] [] S := by
  unfold fX0_endAgreed at h
  refine v_aload_n hX eX0_endAgreed_0 rfl ?_
  refine v_gfc hX eX0_endAgreed_1 clX0 fk_25_5 (Nat.le_of_ble_eq_true rfl) lk_X0_15 ?_
  refine v_iload_n hX eX0_endAgreed_4 rfl ?_
  obtain ⟨g1, h⟩ := gd_e h
  refine v_iaload hX eX0_endAgreed_5 ak_27 g1 ?_
  refine v_istore_n hX eX0_endAgreed_6 (lv' := [some _, some _, some _, none]) (Nat.le_of_ble_eq_true rfl) rfl rfl ?_
  refine v_iconst hX eX0_endAgreed_7 ic_0 ?_
  refine v_istore_n hX eX0_endAgreed_8 (lv' := [some _, some _, some _, some _]) (Nat.le_of_ble_eq_true rfl) rfl rfl ?_
  refine v_drop 1 (lv' := [some _, none, some _, some _]) rfl ?_
  exact pX0_endAgreed_9 hX hr  _ h
set_option maxRecDepth 4000 in
theorem mX0_endAgreed {l : Launch} {G : VG} {l1 : Int32} {S : St} {q : Int32 × St} (h : fX0_endAgreed l1 S = some q) : MI l G yX0_endAgreed cX0_endAgreed 4 (some .int) 1 [.ref (G.2.1 25), .int l1] S q :=
  met_of (by decide +kernel) (Nat.le_of_ble_eq_true rfl) (fun X _ hX hr => pX0_endAgreed hX hr  h)
def FX0_someNo_81 (l3 : Int64) (S : St) : Option (Int32 × St) :=
  some ((1000000 - l3 : Int64).toInt32, S)
def FX0_someNo_49 (k7 : Int32 → Int32 → Int64 → Int32 → St → Option (Int32 × St)) (l1 : Int32) (l2 : Int32) (l3 : Int64) (l5 : Int32) (S : St) : Option (Int32 × St) :=
  let x23 := l5 + 1
  k7 l1 l2 l3 x23 S
def FX0_someNo_7 : Nat → Int32 → Int32 → Int64 → Int32 → St → Option (Int32 × St)
  | 0, _, _, _, _, _ => none
  | n + 1, l1, l2, l3, l5, S =>
    if ((gN S 25 0) : Int32) ≤ l5 then (
      bd (fX0_isGuestSurer l1 S) fun r2 S3 =>
      if (r2 : Int32) = 0 then (
        FX0_someNo_81 l3 S3
      ) else (
        bd (fX0_noChance 9 l2 S3) fun r7 S8 =>
        let x11 := (l3 * ((100 - r7 : Int32).toInt64)) / 100
        FX0_someNo_81 x11 S8
      )
    ) else (
      bd (fX0_isSurer l5 l1 S) fun r12 S13 =>
      if (r12 : Int32) = 0 then (
        FX0_someNo_49 (fun l1_ l2_ l3_ l5_ S_ => FX0_someNo_7 n l1_ l2_ l3_ l5_ S_) l1 l2 l3 l5 S13
      ) else (
        gd (inB l5 6) <|
        bd (fX0_noChance (gN S13 27 (l5 : Int32).toNatClampNeg) l2 S13) fun r18 S19 =>
        let x22 := (l3 * ((100 - r18 : Int32).toInt64)) / 100
        FX0_someNo_49 (fun l1_ l2_ l3_ l5_ S_ => FX0_someNo_7 n l1_ l2_ l3_ l5_ S_) l1 l2 x22 l5 S19
      )
    )
def fX0_someNo (l1 : Int32) (l2 : Int32) (S : St) : Option (Int32 × St) :=
  FX0_someNo_7 FU l1 l2 1000000 0 S
set_option maxRecDepth 4000 in
theorem pX0_someNo_81 {X : VX} {G : VG} {q : Int32 × St} (hX : Fx X G cX0_someNo 6 RX0 1) (hr : Rt X = (some .int)) {l3 : Int64} {S : St} (h : FX0_someNo_81 l3 S = some q) : V X G 6 (ZQ X G (QI G q)) 81 [none, none, none, some (.long l3), none, none] [] S := by
  unfold FX0_someNo_81 at h
  refine v_ldc2 hX eX0_someNo_81 ql_X0_128 ?_
  refine v_lload_n hX eX0_someNo_84 rfl ?_
  refine v_lsub hX eX0_someNo_85 ?_
  refine v_l2i hX eX0_someNo_86 ?_
  exact v_iret hX hr eX0_someNo_87 h
set_option maxRecDepth 4000 in
theorem pX0_someNo_49 {X : VX} {G : VG} {q : Int32 × St} (hX : Fx X G cX0_someNo 6 RX0 1) (hr : Rt X = (some .int)) {k7 : Int32 → Int32 → Int64 → Int32 → St → Option (Int32 × St)} (hk7 : ∀ {l1 : Int32} {l2 : Int32} {l3 : Int64} {l5 : Int32} {S : St}, k7 l1 l2 l3 l5 S = some q → V X G 6 (ZQ X G (QI G q)) 7 [some (.ref (G.2.1 25)), some (.int l1), some (.int l2), some (.long l3), none, some (.int l5)] [] S) {l1 : Int32} {l2 : Int32} {l3 : Int64} {l5 : Int32} {S : St} (h : FX0_someNo_49 k7 l1 l2 l3 l5 S = some q) : V X G 6 (ZQ X G (QI G q)) 49 [some (.ref (G.2.1 25)), some (.int l1), some (.int l2), some (.long l3), none, some (.int l5)] [] S := by
  unfold FX0_someNo_49 at h
  refine v_iinc hX eX0_someNo_49 rfl (congrArg (_ + ·) ic_1) (Nat.le_of_ble_eq_true rfl) rfl (lv' := [some _, some _, some _, some _, none, some _]) rfl ?_
  refine v_goto hX eX0_someNo_52 rfl ?_
  exact hk7 h
set_option maxRecDepth 4000 in
theorem pX0_someNo_7 {X : VX} {G : VG} {q : Int32 × St} (hX : Fx X G cX0_someNo 6 RX0 1) (hr : Rt X = (some .int)) : ∀ (n : Nat) {l1 : Int32} {l2 : Int32} {l3 : Int64} {l5 : Int32} {S : St}, FX0_someNo_7 n l1 l2 l3 l5 S = some q → V X G 6 (ZQ X G (QI G q)) 7 [some (.ref (G.2.1 25)), some (.int l1), some (.int l2), some (.long l3), none, some (.int l5)] [] S := by
  intro n
  induction n with
  | zero => intro _ _ _ _ _  h; cases h
  | succ n ih =>
    intro l1 l2 l3 l5 S  h
    rw [FX0_someNo_7] at h
    refine v_iload hX eX0_someNo_7 rfl ?_
    refine v_aload_n hX eX0_someNo_9 rfl ?_
    refine v_gfi hX eX0_someNo_10 clX0 fk_25_0 (Nat.le_of_ble_eq_true rfl) lk_X0_34 ?_
    refine v_icmp_ge hX eX0_someNo_13 rfl (fun c1 => ?_) (fun c1 => ?_)
    · have h := it_t c1 h
      refine v_aload_n hX eX0_someNo_55 rfl ?_
      refine v_iload_n hX eX0_someNo_56 rfl ?_
      obtain ⟨q4, hq5, h⟩ := bd_e h
      refine v_cvI hX eX0_someNo_57 cw_X0_105 (mX0_isGuestSurer hq5) (Nat.le_of_ble_eq_true rfl) oc_25 (As := [_]) rfl rfl (Nat.le_of_ble_eq_true rfl) ?_
      refine v_if_eq hX eX0_someNo_60 rfl (fun c6 => ?_) (fun c6 => ?_)
      · have h := it_t c6 h
        refine v_drop 0 (lv' := [none, some _, some _, some _, none, some _]) rfl ?_
        refine v_drop 1 (lv' := [none, none, some _, some _, none, some _]) rfl ?_
        refine v_drop 2 (lv' := [none, none, none, some _, none, some _]) rfl ?_
        refine v_drop 5 (lv' := [none, none, none, some _, none, none]) rfl ?_
        exact pX0_someNo_81 hX hr  h
      · have h := it_f c6 h
        refine v_lload_n hX eX0_someNo_63 rfl ?_
        refine v_bipush hX eX0_someNo_64 bp_100 ?_
        refine v_aload_n hX eX0_someNo_66 rfl ?_
        refine v_bipush hX eX0_someNo_67 bp_9 ?_
        refine v_iload_n hX eX0_someNo_69 rfl ?_
        obtain ⟨q9, hq10, h⟩ := bd_e h
        refine v_cvI hX eX0_someNo_70 cw_X0_101 (mX0_noChance hq10) (Nat.le_of_ble_eq_true rfl) oc_25 (As := [_, _]) rfl rfl (Nat.le_of_ble_eq_true rfl) ?_
        refine v_isub hX eX0_someNo_73 ?_
        refine v_i2l hX eX0_someNo_74 ?_
        refine v_lmul hX eX0_someNo_75 ?_
        refine v_ldc2 hX eX0_someNo_76 ql_X0_130 ?_
        refine v_ldiv hX eX0_someNo_79 nzl_100 ?_
        refine v_lstore_n hX eX0_someNo_80 (lv' := [some _, some _, some _, some _, none, some _]) (Nat.le_of_ble_eq_true rfl) rfl rfl ?_
        refine v_drop 0 (lv' := [none, some _, some _, some _, none, some _]) rfl ?_
        refine v_drop 1 (lv' := [none, none, some _, some _, none, some _]) rfl ?_
        refine v_drop 2 (lv' := [none, none, none, some _, none, some _]) rfl ?_
        refine v_drop 5 (lv' := [none, none, none, some _, none, none]) rfl ?_
        exact pX0_someNo_81 hX hr  h
    · have h := it_f c1 h
      refine v_aload_n hX eX0_someNo_16 rfl ?_
      refine v_iload hX eX0_someNo_17 rfl ?_
      refine v_iload_n hX eX0_someNo_19 rfl ?_
      obtain ⟨q14, hq15, h⟩ := bd_e h
      refine v_cvI hX eX0_someNo_20 cw_X0_97 (mX0_isSurer hq15) (Nat.le_of_ble_eq_true rfl) oc_25 (As := [_, _]) rfl rfl (Nat.le_of_ble_eq_true rfl) ?_
      refine v_if_eq hX eX0_someNo_23 rfl (fun c16 => ?_) (fun c16 => ?_)
      · have h := it_t c16 h
        exact pX0_someNo_49 hX hr (fun h => ih h) h
      · have h := it_f c16 h
        refine v_lload_n hX eX0_someNo_26 rfl ?_
        refine v_bipush hX eX0_someNo_27 bp_100 ?_
        refine v_aload_n hX eX0_someNo_29 rfl ?_
        refine v_aload_n hX eX0_someNo_30 rfl ?_
        refine v_gfc hX eX0_someNo_31 clX0 fk_25_5 (Nat.le_of_ble_eq_true rfl) lk_X0_15 ?_
        refine v_iload hX eX0_someNo_34 rfl ?_
        obtain ⟨g17, h⟩ := gd_e h
        refine v_iaload hX eX0_someNo_36 ak_27 g17 ?_
        refine v_iload_n hX eX0_someNo_37 rfl ?_
        obtain ⟨q20, hq21, h⟩ := bd_e h
        refine v_cvI hX eX0_someNo_38 cw_X0_101 (mX0_noChance hq21) (Nat.le_of_ble_eq_true rfl) oc_25 (As := [_, _]) rfl rfl (Nat.le_of_ble_eq_true rfl) ?_
        refine v_isub hX eX0_someNo_41 ?_
        refine v_i2l hX eX0_someNo_42 ?_
        refine v_lmul hX eX0_someNo_43 ?_
        refine v_ldc2 hX eX0_someNo_44 ql_X0_130 ?_
        refine v_ldiv hX eX0_someNo_47 nzl_100 ?_
        refine v_lstore_n hX eX0_someNo_48 (lv' := [some _, some _, some _, some _, none, some _]) (Nat.le_of_ble_eq_true rfl) rfl rfl ?_
        exact pX0_someNo_49 hX hr (fun h => ih h) h
set_option maxRecDepth 4000 in
theorem pX0_someNo {X : VX} {G : VG} {q : Int32 × St} (hX : Fx X G cX0_someNo 6 RX0 1) (hr : Rt X = (some .int)) {l1 : Int32} {l2 : Int32} {S : St} (h : fX0_someNo l1 l2 S = some q) : V X G 6 (ZQ X G (QI G q)) 0 [some (.ref (G.2.1 25)), some (.int l1), some (.int l2), none, none, none] [] S := by
  unfold fX0_someNo at h
  refine v_ldc2 hX eX0_someNo_0 ql_X0_128 ?_
  refine v_lstore_n hX eX0_someNo_3 (lv' := [some _, some _, some _, some _, none, none]) (Nat.le_of_ble_eq_true rfl) rfl rfl ?_
  refine v_iconst hX eX0_someNo_4 ic_0 ?_
  refine v_istore hX eX0_someNo_5 (lv' := [some _, some _, some _, some _, none, some _]) (Nat.le_of_ble_eq_true rfl) rfl rfl ?_
  exact pX0_someNo_7 hX hr  _ h
set_option maxRecDepth 4000 in
theorem mX0_someNo {l : Launch} {G : VG} {l1 : Int32} {l2 : Int32} {S : St} {q : Int32 × St} (h : fX0_someNo l1 l2 S = some q) : MI l G yX0_someNo cX0_someNo 6 (some .int) 1 [.ref (G.2.1 25), .int l1, .int l2] S q :=
  met_of (by decide +kernel) (Nat.le_of_ble_eq_true rfl) (fun X _ hX hr => pX0_someNo hX hr  h)
def FX0_hold_88 (k17 : Int32 → Int32 → Int32 → Int32 → Int32 → St → Option (Int32 × St)) (l1 : Int32) (l2 : Int32) (l3 : Int32) (l5 : Int32) (s0 : Int32) (S : St) : Option (Int32 × St) :=
  let x44 := l5 + 1
  k17 l1 l2 l3 s0 x44 S
def FX0_hold_83 (k17 : Int32 → Int32 → Int32 → Int32 → Int32 → St → Option (Int32 × St)) (l1 : Int32) (l2 : Int32) (l3 : Int32) (l5 : Int32) (S : St) : Option (Int32 × St) :=
  FX0_hold_88 k17 l1 l2 l3 l5 1 S
def FX0_hold_67 (k17 : Int32 → Int32 → Int32 → Int32 → Int32 → St → Option (Int32 × St)) (l1 : Int32) (l2 : Int32) (l3 : Int32) (l4 : Int32) (l5 : Int32) (s0 : Int32) (s1 : Int32) (S : St) : Option (Int32 × St) :=
  gd (inB s1 6) <|
  let S40 := sN S 32 (s1 : Int32).toNatClampNeg (vp_nar .boolean s0)
  if (l4 : Int32) = 0 then (
    gd (inB l5 6) <|
    if ((gN S40 32 (l5 : Int32).toNatClampNeg) : Int32) = 0 then (
      FX0_hold_88 k17 l1 l2 l3 l5 0 S40
    ) else (
      FX0_hold_83 k17 l1 l2 l3 l5 S40
    )
  ) else (
    FX0_hold_83 k17 l1 l2 l3 l5 S40
  )
def FX0_hold_66 (k17 : Int32 → Int32 → Int32 → Int32 → Int32 → St → Option (Int32 × St)) (l1 : Int32) (l2 : Int32) (l3 : Int32) (l4 : Int32) (l5 : Int32) (s0 : Int32) (S : St) : Option (Int32 × St) :=
  FX0_hold_67 k17 l1 l2 l3 l4 l5 0 s0 S
def FX0_hold_122 (l1 : Int32) (l2 : Int32) (l3 : Int32) (l4 : Int32) (S : St) : Option (Int32 × St) :=
  if (l3 : Int32) = 0 then (
    if (l4 : Int32) = 0 then (
      bd (fX0_endMisled l1 l2 S) fun r47 S48 =>
      some (r47, S48)
    ) else (
      bd (fX0_endCorrected l1 S) fun r51 S52 =>
      some (r51, S52)
    )
  ) else (
    if (l4 : Int32) = 0 then (
      bd (fX0_endAgreed l1 S) fun r56 S57 =>
      some (r56, S57)
    ) else (
      bd (fX0_endShaken l1 l2 S) fun r60 S61 =>
      some (r60, S61)
    )
  )
def FX0_hold_17 : Nat → Int32 → Int32 → Int32 → Int32 → Int32 → St → Option (Int32 × St)
  | 0, _, _, _, _, _, _ => none
  | n + 1, l1, l2, l3, l4, l5, S =>
    if ((gN S 25 0) : Int32) ≤ l5 then (
      bd (fX0_isGuestSurer l1 S) fun r10 S11 =>
      if (r10 : Int32) = 0 then (
        FX0_hold_122 l1 l2 l3 l4 S11
      ) else (
        bd (fX0_noChance 9 l3 S11) fun r15 S16 =>
        bd (fX0_comes r15 l2 S16) fun r19 S20 =>
        if (r19 : Int32) = 0 then (
          FX0_hold_122 l1 l2 l3 l4 S20
        ) else (
          FX0_hold_122 l1 l2 l3 1 S20
        )
      )
    ) else (
      bd (fX0_isSurer l5 l1 S) fun r24 S25 =>
      if (r24 : Int32) = 0 then (
        FX0_hold_66 (fun l1_ l2_ l3_ l4_ l5_ S_ => FX0_hold_17 n l1_ l2_ l3_ l4_ l5_ S_) l1 l2 l3 l4 l5 l5 S25
      ) else (
        gd (inB l5 6) <|
        bd (fX0_noChance (gN S25 27 (l5 : Int32).toNatClampNeg) l3 S25) fun r30 S31 =>
        bd (fX0_comes r30 l2 S31) fun r34 S35 =>
        if (r34 : Int32) = 0 then (
          FX0_hold_66 (fun l1_ l2_ l3_ l4_ l5_ S_ => FX0_hold_17 n l1_ l2_ l3_ l4_ l5_ S_) l1 l2 l3 l4 l5 l5 S35
        ) else (
          FX0_hold_67 (fun l1_ l2_ l3_ l4_ l5_ S_ => FX0_hold_17 n l1_ l2_ l3_ l4_ l5_ S_) l1 l2 l3 l4 l5 1 l5 S35
        )
      )
    )
def fX0_hold (l1 : Int32) (l2 : Int32) (S : St) : Option (Int32 × St) :=
  bd (fX0_rightChance l1 S) fun r1 S2 =>
  bd (fX0_comes r1 l2 S2) fun r5 S6 =>
  FX0_hold_17 FU l1 l2 r5 0 0 S6
set_option maxRecDepth 4000 in
theorem pX0_hold_88 {X : VX} {G : VG} {q : Int32 × St} (hX : Fx X G cX0_hold 6 RX0 2) (hr : Rt X = (some .int)) {k17 : Int32 → Int32 → Int32 → Int32 → Int32 → St → Option (Int32 × St)} (hk17 : ∀ {l1 : Int32} {l2 : Int32} {l3 : Int32} {l4 : Int32} {l5 : Int32} {S : St}, k17 l1 l2 l3 l4 l5 S = some q → V X G 6 (ZQ X G (QI G q)) 17 [some (.ref (G.2.1 25)), some (.int l1), some (.int l2), some (.int l3), some (.int l4), some (.int l5)] [] S) {l1 : Int32} {l2 : Int32} {l3 : Int32} {l5 : Int32} {s0 : Int32} {S : St} (h : FX0_hold_88 k17 l1 l2 l3 l5 s0 S = some q) : V X G 6 (ZQ X G (QI G q)) 88 [some (.ref (G.2.1 25)), some (.int l1), some (.int l2), some (.int l3), none, some (.int l5)] [.int s0] S := by
  unfold FX0_hold_88 at h
  refine v_istore hX eX0_hold_88 (lv' := [some _, some _, some _, some _, some _, some _]) (Nat.le_of_ble_eq_true rfl) rfl rfl ?_
  refine v_iinc hX eX0_hold_90 rfl (congrArg (_ + ·) ic_1) (Nat.le_of_ble_eq_true rfl) rfl (lv' := [some _, some _, some _, some _, some _, some _]) rfl ?_
  refine v_goto hX eX0_hold_93 rfl ?_
  exact hk17 h
set_option maxRecDepth 4000 in
theorem pX0_hold_83 {X : VX} {G : VG} {q : Int32 × St} (hX : Fx X G cX0_hold 6 RX0 2) (hr : Rt X = (some .int)) {k17 : Int32 → Int32 → Int32 → Int32 → Int32 → St → Option (Int32 × St)} (hk17 : ∀ {l1 : Int32} {l2 : Int32} {l3 : Int32} {l4 : Int32} {l5 : Int32} {S : St}, k17 l1 l2 l3 l4 l5 S = some q → V X G 6 (ZQ X G (QI G q)) 17 [some (.ref (G.2.1 25)), some (.int l1), some (.int l2), some (.int l3), some (.int l4), some (.int l5)] [] S) {l1 : Int32} {l2 : Int32} {l3 : Int32} {l5 : Int32} {S : St} (h : FX0_hold_83 k17 l1 l2 l3 l5 S = some q) : V X G 6 (ZQ X G (QI G q)) 83 [some (.ref (G.2.1 25)), some (.int l1), some (.int l2), some (.int l3), none, some (.int l5)] [] S := by
  unfold FX0_hold_83 at h
  refine v_iconst hX eX0_hold_83 ic_1 ?_
  refine v_goto hX eX0_hold_84 rfl ?_
  exact pX0_hold_88 hX hr hk17 h
set_option maxRecDepth 4000 in
theorem pX0_hold_67 {X : VX} {G : VG} {q : Int32 × St} (hX : Fx X G cX0_hold 6 RX0 2) (hr : Rt X = (some .int)) {k17 : Int32 → Int32 → Int32 → Int32 → Int32 → St → Option (Int32 × St)} (hk17 : ∀ {l1 : Int32} {l2 : Int32} {l3 : Int32} {l4 : Int32} {l5 : Int32} {S : St}, k17 l1 l2 l3 l4 l5 S = some q → V X G 6 (ZQ X G (QI G q)) 17 [some (.ref (G.2.1 25)), some (.int l1), some (.int l2), some (.int l3), some (.int l4), some (.int l5)] [] S) {l1 : Int32} {l2 : Int32} {l3 : Int32} {l4 : Int32} {l5 : Int32} {s0 : Int32} {s1 : Int32} {S : St} (h : FX0_hold_67 k17 l1 l2 l3 l4 l5 s0 s1 S = some q) : V X G 6 (ZQ X G (QI G q)) 67 [some (.ref (G.2.1 25)), some (.int l1), some (.int l2), some (.int l3), some (.int l4), some (.int l5)] [.int s0, .int s1, .ref (G.2.1 32)] S := by
  unfold FX0_hold_67 at h
  obtain ⟨g39, h⟩ := gd_e h
  refine v_zastore hX eX0_hold_67 ak_32 g39 ?_
  refine v_iload hX eX0_hold_68 rfl ?_
  refine v_if_ne hX eX0_hold_70 rfl (fun c41 => ?_) (fun c41 => ?_)
  · have h := it_f c41 h
    refine v_drop 4 (lv' := [some _, some _, some _, some _, none, some _]) rfl ?_
    exact pX0_hold_83 hX hr hk17 h
  · have h := it_t c41 h
    refine v_aload_n hX eX0_hold_73 rfl ?_
    refine v_gfc hX eX0_hold_74 clX0 fk_25_10 (Nat.le_of_ble_eq_true rfl) lk_X0_30 ?_
    refine v_iload hX eX0_hold_77 rfl ?_
    obtain ⟨g42, h⟩ := gd_e h
    refine v_zaload hX eX0_hold_79 ak_32 g42 ?_
    refine v_if_eq hX eX0_hold_80 rfl (fun c43 => ?_) (fun c43 => ?_)
    · have h := it_t c43 h
      refine v_iconst hX eX0_hold_87 ic_0 ?_
      refine v_drop 4 (lv' := [some _, some _, some _, some _, none, some _]) rfl ?_
      exact pX0_hold_88 hX hr hk17 h
    · have h := it_f c43 h
      refine v_drop 4 (lv' := [some _, some _, some _, some _, none, some _]) rfl ?_
      exact pX0_hold_83 hX hr hk17 h
set_option maxRecDepth 4000 in
theorem pX0_hold_66 {X : VX} {G : VG} {q : Int32 × St} (hX : Fx X G cX0_hold 6 RX0 2) (hr : Rt X = (some .int)) {k17 : Int32 → Int32 → Int32 → Int32 → Int32 → St → Option (Int32 × St)} (hk17 : ∀ {l1 : Int32} {l2 : Int32} {l3 : Int32} {l4 : Int32} {l5 : Int32} {S : St}, k17 l1 l2 l3 l4 l5 S = some q → V X G 6 (ZQ X G (QI G q)) 17 [some (.ref (G.2.1 25)), some (.int l1), some (.int l2), some (.int l3), some (.int l4), some (.int l5)] [] S) {l1 : Int32} {l2 : Int32} {l3 : Int32} {l4 : Int32} {l5 : Int32} {s0 : Int32} {S : St} (h : FX0_hold_66 k17 l1 l2 l3 l4 l5 s0 S = some q) : V X G 6 (ZQ X G (QI G q)) 66 [some (.ref (G.2.1 25)), some (.int l1), some (.int l2), some (.int l3), some (.int l4), some (.int l5)] [.int s0, .ref (G.2.1 32)] S := by
  unfold FX0_hold_66 at h
  refine v_iconst hX eX0_hold_66 ic_0 ?_
  exact pX0_hold_67 hX hr hk17 h
set_option maxRecDepth 4000 in
theorem pX0_hold_122 {X : VX} {G : VG} {q : Int32 × St} (hX : Fx X G cX0_hold 6 RX0 2) (hr : Rt X = (some .int)) {l1 : Int32} {l2 : Int32} {l3 : Int32} {l4 : Int32} {S : St} (h : FX0_hold_122 l1 l2 l3 l4 S = some q) : V X G 6 (ZQ X G (QI G q)) 122 [some (.ref (G.2.1 25)), some (.int l1), some (.int l2), some (.int l3), some (.int l4), none] [] S := by
  unfold FX0_hold_122 at h
  refine v_iload_n hX eX0_hold_122 rfl ?_
  refine v_if_eq hX eX0_hold_123 rfl (fun c45 => ?_) (fun c45 => ?_)
  · have h := it_t c45 h
    refine v_iload hX eX0_hold_146 rfl ?_
    refine v_if_eq hX eX0_hold_148 rfl (fun c46 => ?_) (fun c46 => ?_)
    · have h := it_t c46 h
      refine v_aload_n hX eX0_hold_159 rfl ?_
      refine v_iload_n hX eX0_hold_160 rfl ?_
      refine v_iload_n hX eX0_hold_161 rfl ?_
      obtain ⟨q49, hq50, h⟩ := bd_e h
      refine v_cvI hX eX0_hold_162 cw_X0_118 (mX0_endMisled hq50) (Nat.le_of_ble_eq_true rfl) oc_25 (As := [_, _]) rfl rfl (Nat.le_of_ble_eq_true rfl) ?_
      exact v_iret hX hr eX0_hold_165 h
    · have h := it_f c46 h
      refine v_aload_n hX eX0_hold_151 rfl ?_
      refine v_iload_n hX eX0_hold_152 rfl ?_
      obtain ⟨q53, hq54, h⟩ := bd_e h
      refine v_cvI hX eX0_hold_153 cw_X0_115 (mX0_endCorrected hq54) (Nat.le_of_ble_eq_true rfl) oc_25 (As := [_]) rfl rfl (Nat.le_of_ble_eq_true rfl) ?_
      refine v_goto hX eX0_hold_156 rfl ?_
      exact v_iret hX hr eX0_hold_165 h
  · have h := it_f c45 h
    refine v_iload hX eX0_hold_126 rfl ?_
    refine v_if_eq hX eX0_hold_128 rfl (fun c55 => ?_) (fun c55 => ?_)
    · have h := it_t c55 h
      refine v_aload_n hX eX0_hold_140 rfl ?_
      refine v_iload_n hX eX0_hold_141 rfl ?_
      obtain ⟨q58, hq59, h⟩ := bd_e h
      refine v_cvI hX eX0_hold_142 cw_X0_112 (mX0_endAgreed hq59) (Nat.le_of_ble_eq_true rfl) oc_25 (As := [_]) rfl rfl (Nat.le_of_ble_eq_true rfl) ?_
      exact v_iret hX hr eX0_hold_145 h
    · have h := it_f c55 h
      refine v_aload_n hX eX0_hold_131 rfl ?_
      refine v_iload_n hX eX0_hold_132 rfl ?_
      refine v_iload_n hX eX0_hold_133 rfl ?_
      obtain ⟨q62, hq63, h⟩ := bd_e h
      refine v_cvI hX eX0_hold_134 cw_X0_109 (mX0_endShaken hq63) (Nat.le_of_ble_eq_true rfl) oc_25 (As := [_, _]) rfl rfl (Nat.le_of_ble_eq_true rfl) ?_
      refine v_goto hX eX0_hold_137 rfl ?_
      exact v_iret hX hr eX0_hold_145 h
set_option maxRecDepth 4000 in
theorem pX0_hold_17 {X : VX} {G : VG} {q : Int32 × St} (hX : Fx X G cX0_hold 6 RX0 2) (hr : Rt X = (some .int)) : ∀ (n : Nat) {l1 : Int32} {l2 : Int32} {l3 : Int32} {l4 : Int32} {l5 : Int32} {S : St}, FX0_hold_17 n l1 l2 l3 l4 l5 S = some q → V X G 6 (ZQ X G (QI G q)) 17 [some (.ref (G.2.1 25)), some (.int l1), some (.int l2), some (.int l3), some (.int l4), some (.int l5)] [] S := by
  intro n
  induction n with
  | zero => intro _ _ _ _ _ _  h; cases h
  | succ n ih =>
    intro l1 l2 l3 l4 l5 S  h
    rw [FX0_hold_17] at h
    refine v_iload hX eX0_hold_17 rfl ?_
    refine v_aload_n hX eX0_hold_19 rfl ?_
    refine v_gfi hX eX0_hold_20 clX0 fk_25_0 (Nat.le_of_ble_eq_true rfl) lk_X0_34 ?_
    refine v_icmp_ge hX eX0_hold_23 rfl (fun c9 => ?_) (fun c9 => ?_)
    · have h := it_t c9 h
      refine v_aload_n hX eX0_hold_96 rfl ?_
      refine v_iload_n hX eX0_hold_97 rfl ?_
      obtain ⟨q12, hq13, h⟩ := bd_e h
      refine v_cvI hX eX0_hold_98 cw_X0_105 (mX0_isGuestSurer hq13) (Nat.le_of_ble_eq_true rfl) oc_25 (As := [_]) rfl rfl (Nat.le_of_ble_eq_true rfl) ?_
      refine v_if_eq hX eX0_hold_101 rfl (fun c14 => ?_) (fun c14 => ?_)
      · have h := it_t c14 h
        refine v_drop 5 (lv' := [some _, some _, some _, some _, some _, none]) rfl ?_
        exact pX0_hold_122 hX hr  h
      · have h := it_f c14 h
        refine v_aload_n hX eX0_hold_104 rfl ?_
        refine v_aload_n hX eX0_hold_105 rfl ?_
        refine v_bipush hX eX0_hold_106 bp_9 ?_
        refine v_iload_n hX eX0_hold_108 rfl ?_
        obtain ⟨q17, hq18, h⟩ := bd_e h
        refine v_cvI hX eX0_hold_109 cw_X0_101 (mX0_noChance hq18) (Nat.le_of_ble_eq_true rfl) oc_25 (As := [_, _]) rfl rfl (Nat.le_of_ble_eq_true rfl) ?_
        refine v_iload_n hX eX0_hold_112 rfl ?_
        obtain ⟨q21, hq22, h⟩ := bd_e h
        refine v_cvI hX eX0_hold_113 cw_X0_93 (mX0_comes hq22) (Nat.le_of_ble_eq_true rfl) oc_25 (As := [_, _]) rfl rfl (Nat.le_of_ble_eq_true rfl) ?_
        refine v_if_eq hX eX0_hold_116 rfl (fun c23 => ?_) (fun c23 => ?_)
        · have h := it_t c23 h
          refine v_drop 5 (lv' := [some _, some _, some _, some _, some _, none]) rfl ?_
          exact pX0_hold_122 hX hr  h
        · have h := it_f c23 h
          refine v_iconst hX eX0_hold_119 ic_1 ?_
          refine v_istore hX eX0_hold_120 (lv' := [some _, some _, some _, some _, some _, some _]) (Nat.le_of_ble_eq_true rfl) rfl rfl ?_
          refine v_drop 5 (lv' := [some _, some _, some _, some _, some _, none]) rfl ?_
          exact pX0_hold_122 hX hr  h
    · have h := it_f c9 h
      refine v_aload_n hX eX0_hold_26 rfl ?_
      refine v_gfc hX eX0_hold_27 clX0 fk_25_10 (Nat.le_of_ble_eq_true rfl) lk_X0_30 ?_
      refine v_iload hX eX0_hold_30 rfl ?_
      refine v_aload_n hX eX0_hold_32 rfl ?_
      refine v_iload hX eX0_hold_33 rfl ?_
      refine v_iload_n hX eX0_hold_35 rfl ?_
      obtain ⟨q26, hq27, h⟩ := bd_e h
      refine v_cvI hX eX0_hold_36 cw_X0_97 (mX0_isSurer hq27) (Nat.le_of_ble_eq_true rfl) oc_25 (As := [_, _]) rfl rfl (Nat.le_of_ble_eq_true rfl) ?_
      refine v_if_eq hX eX0_hold_39 rfl (fun c28 => ?_) (fun c28 => ?_)
      · have h := it_t c28 h
        exact pX0_hold_66 hX hr (fun h => ih h) h
      · have h := it_f c28 h
        refine v_aload_n hX eX0_hold_42 rfl ?_
        refine v_aload_n hX eX0_hold_43 rfl ?_
        refine v_aload_n hX eX0_hold_44 rfl ?_
        refine v_gfc hX eX0_hold_45 clX0 fk_25_5 (Nat.le_of_ble_eq_true rfl) lk_X0_15 ?_
        refine v_iload hX eX0_hold_48 rfl ?_
        obtain ⟨g29, h⟩ := gd_e h
        refine v_iaload hX eX0_hold_50 ak_27 g29 ?_
        refine v_iload_n hX eX0_hold_51 rfl ?_
        obtain ⟨q32, hq33, h⟩ := bd_e h
        refine v_cvI hX eX0_hold_52 cw_X0_101 (mX0_noChance hq33) (Nat.le_of_ble_eq_true rfl) oc_25 (As := [_, _]) rfl rfl (Nat.le_of_ble_eq_true rfl) ?_
        refine v_iload_n hX eX0_hold_55 rfl ?_
        obtain ⟨q36, hq37, h⟩ := bd_e h
        refine v_cvI hX eX0_hold_56 cw_X0_93 (mX0_comes hq37) (Nat.le_of_ble_eq_true rfl) oc_25 (As := [_, _]) rfl rfl (Nat.le_of_ble_eq_true rfl) ?_
        refine v_if_eq hX eX0_hold_59 rfl (fun c38 => ?_) (fun c38 => ?_)
        · have h := it_t c38 h
          exact pX0_hold_66 hX hr (fun h => ih h) h
        · have h := it_f c38 h
          refine v_iconst hX eX0_hold_62 ic_1 ?_
          refine v_goto hX eX0_hold_63 rfl ?_
          exact pX0_hold_67 hX hr (fun h => ih h) h
set_option maxRecDepth 4000 in
theorem pX0_hold {X : VX} {G : VG} {q : Int32 × St} (hX : Fx X G cX0_hold 6 RX0 2) (hr : Rt X = (some .int)) {l1 : Int32} {l2 : Int32} {S : St} (h : fX0_hold l1 l2 S = some q) : V X G 6 (ZQ X G (QI G q)) 0 [some (.ref (G.2.1 25)), some (.int l1), some (.int l2), none, none, none] [] S := by
  unfold fX0_hold at h
  refine v_aload_n hX eX0_hold_0 rfl ?_
  refine v_aload_n hX eX0_hold_1 rfl ?_
  refine v_iload_n hX eX0_hold_2 rfl ?_
  obtain ⟨q3, hq4, h⟩ := bd_e h
  refine v_cvI hX eX0_hold_3 cw_X0_90 (mX0_rightChance hq4) (Nat.le_of_ble_eq_true rfl) oc_25 (As := [_]) rfl rfl (Nat.le_of_ble_eq_true rfl) ?_
  refine v_iload_n hX eX0_hold_6 rfl ?_
  obtain ⟨q7, hq8, h⟩ := bd_e h
  refine v_cvI hX eX0_hold_7 cw_X0_93 (mX0_comes hq8) (Nat.le_of_ble_eq_true rfl) oc_25 (As := [_, _]) rfl rfl (Nat.le_of_ble_eq_true rfl) ?_
  refine v_istore_n hX eX0_hold_10 (lv' := [some _, some _, some _, some _, none, none]) (Nat.le_of_ble_eq_true rfl) rfl rfl ?_
  refine v_iconst hX eX0_hold_11 ic_0 ?_
  refine v_istore hX eX0_hold_12 (lv' := [some _, some _, some _, some _, some _, none]) (Nat.le_of_ble_eq_true rfl) rfl rfl ?_
  refine v_iconst hX eX0_hold_14 ic_0 ?_
  refine v_istore hX eX0_hold_15 (lv' := [some _, some _, some _, some _, some _, some _]) (Nat.le_of_ble_eq_true rfl) rfl rfl ?_
  exact pX0_hold_17 hX hr  _ h
set_option maxRecDepth 4000 in
theorem mX0_hold {l : Launch} {G : VG} {l1 : Int32} {l2 : Int32} {S : St} {q : Int32 × St} (h : fX0_hold l1 l2 S = some q) : MI l G yX0_hold cX0_hold 6 (some .int) 2 [.ref (G.2.1 25), .int l1, .int l2] S q :=
  met_of (by decide +kernel) (Nat.le_of_ble_eq_true rfl) (fun X _ hX hr => pX0_hold hX hr  h)
def FX0_mean_99 (l2 : Int32) (l4 : Int32) (l5 : Int64) (l7 : Int64) (s0 : Int64) (S : St) : Option (Int32 × St) :=
  bd (fX0_share s0 l2 (1000000 - l4) S) fun r36 S37 =>
  some (((l5 - l7) + r36 : Int64).toInt32, S37)
def FX0_mean_62 (l1 : Int32) (l2 : Int32) (l4 : Int32) (l5 : Int64) (s0 : Int64) (S : St) : Option (Int32 × St) :=
  bd (fX0_share s0 l2 l4 S) fun r25 S26 =>
  gd (inB l1 6) <|
  let x30 := (r25 * ((100 - (gN S26 31 (l1 : Int32).toNatClampNeg) : Int32).toInt64)) / 100
  bd (fX0_room l1 S26) fun r31 S32 =>
  if (r31 : Int32) ≤ 0 then (
    FX0_mean_99 l2 l4 l5 x30 0 S32
  ) else (
    FX0_mean_99 l2 l4 l5 x30 1 S32
  )
def fX0_mean (l1 : Int32) (S : St) : Option (Int32 × St) :=
  bd (fX0_rightChance l1 S) fun r1 S2 =>
  bd (fX0_someNo l1 0 S2) fun r5 S6 =>
  bd (fX0_someNo l1 1 S6) fun r9 S10 =>
  gd (inB l1 6) <|
  bd (fX0_room l1 S10) fun r14 S15 =>
  let x18 := gN S10 29 (l1 : Int32).toNatClampNeg
  bd (fX0_share (((if (r14 : Int32) < x18 then r14 else x18) : Int32).toInt64) (100 - r1) r5 S15) fun r19 S20 =>
  gd (inB l1 6) <|
  if ((gN S20 27 (l1 : Int32).toNatClampNeg) : Int32) ≤ 0 then (
    FX0_mean_62 l1 r1 r9 r19 0 S20
  ) else (
    FX0_mean_62 l1 r1 r9 r19 1 S20
  )
set_option maxRecDepth 4000 in
theorem pX0_mean_99 {X : VX} {G : VG} {q : Int32 × St} (hX : Fx X G cX0_mean 11 RX0 2) (hr : Rt X = (some .int)) {l2 : Int32} {l4 : Int32} {l5 : Int64} {l7 : Int64} {s0 : Int64} {S : St} (h : FX0_mean_99 l2 l4 l5 l7 s0 S = some q) : V X G 11 (ZQ X G (QI G q)) 99 [none, none, some (.int l2), none, some (.int l4), some (.long l5), none, some (.long l7), none, none, none] [.long s0, .ref (G.2.1 25)] S := by
  unfold FX0_mean_99 at h
  refine v_iload_n hX eX0_mean_99 rfl ?_
  refine v_ldc hX eX0_mean_100 qc_X0_142 ?_
  refine v_iload hX eX0_mean_102 rfl ?_
  refine v_isub hX eX0_mean_104 ?_
  obtain ⟨q38, hq39, h⟩ := bd_e h
  refine v_cvL hX eX0_mean_105 cw_X0_138 (mX0_share hq39) (Nat.le_of_ble_eq_true rfl) oc_25 (As := [_, _, _]) rfl rfl (Nat.le_of_ble_eq_true rfl) ?_
  refine v_lstore hX eX0_mean_108 (lv' := [none, none, some _, none, some _, some _, none, some _, none, some _, none]) (Nat.le_of_ble_eq_true rfl) rfl rfl ?_
  refine v_lload hX eX0_mean_110 rfl ?_
  refine v_lload hX eX0_mean_112 rfl ?_
  refine v_lsub hX eX0_mean_114 ?_
  refine v_lload hX eX0_mean_115 rfl ?_
  refine v_ladd hX eX0_mean_117 ?_
  refine v_l2i hX eX0_mean_118 ?_
  exact v_iret hX hr eX0_mean_119 h
set_option maxRecDepth 4000 in
theorem pX0_mean_62 {X : VX} {G : VG} {q : Int32 × St} (hX : Fx X G cX0_mean 11 RX0 2) (hr : Rt X = (some .int)) {l1 : Int32} {l2 : Int32} {l4 : Int32} {l5 : Int64} {s0 : Int64} {S : St} (h : FX0_mean_62 l1 l2 l4 l5 s0 S = some q) : V X G 11 (ZQ X G (QI G q)) 62 [some (.ref (G.2.1 25)), some (.int l1), some (.int l2), none, some (.int l4), some (.long l5), none, none, none, none, none] [.long s0, .ref (G.2.1 25)] S := by
  unfold FX0_mean_62 at h
  refine v_iload_n hX eX0_mean_62 rfl ?_
  refine v_iload hX eX0_mean_63 rfl ?_
  obtain ⟨q27, hq28, h⟩ := bd_e h
  refine v_cvL hX eX0_mean_65 cw_X0_138 (mX0_share hq28) (Nat.le_of_ble_eq_true rfl) oc_25 (As := [_, _, _]) rfl rfl (Nat.le_of_ble_eq_true rfl) ?_
  refine v_bipush hX eX0_mean_68 bp_100 ?_
  refine v_aload_n hX eX0_mean_70 rfl ?_
  refine v_gfc hX eX0_mean_71 clX0 fk_25_9 (Nat.le_of_ble_eq_true rfl) lk_X0_27 ?_
  refine v_iload_n hX eX0_mean_74 rfl ?_
  obtain ⟨g29, h⟩ := gd_e h
  refine v_iaload hX eX0_mean_75 ak_31 g29 ?_
  refine v_isub hX eX0_mean_76 ?_
  refine v_i2l hX eX0_mean_77 ?_
  refine v_lmul hX eX0_mean_78 ?_
  refine v_ldc2 hX eX0_mean_79 ql_X0_130 ?_
  refine v_ldiv hX eX0_mean_82 nzl_100 ?_
  refine v_lstore hX eX0_mean_83 (lv' := [some _, some _, some _, none, some _, some _, none, some _, none, none, none]) (Nat.le_of_ble_eq_true rfl) rfl rfl ?_
  refine v_aload_n hX eX0_mean_85 rfl ?_
  refine v_aload_n hX eX0_mean_86 rfl ?_
  refine v_iload_n hX eX0_mean_87 rfl ?_
  obtain ⟨q33, hq34, h⟩ := bd_e h
  refine v_cvI hX eX0_mean_88 cw_X0_80 (mX0_room hq34) (Nat.le_of_ble_eq_true rfl) oc_25 (As := [_]) rfl rfl (Nat.le_of_ble_eq_true rfl) ?_
  refine v_if_le hX eX0_mean_91 rfl (fun c35 => ?_) (fun c35 => ?_)
  · have h := it_t c35 h
    refine v_lconst hX eX0_mean_98 lc_0 ?_
    refine v_drop 0 (lv' := [none, some _, some _, none, some _, some _, none, some _, none, none, none]) rfl ?_
    refine v_drop 1 (lv' := [none, none, some _, none, some _, some _, none, some _, none, none, none]) rfl ?_
    exact pX0_mean_99 hX hr  h
  · have h := it_f c35 h
    refine v_lconst hX eX0_mean_94 lc_1 ?_
    refine v_goto hX eX0_mean_95 rfl ?_
    refine v_drop 0 (lv' := [none, some _, some _, none, some _, some _, none, some _, none, none, none]) rfl ?_
    refine v_drop 1 (lv' := [none, none, some _, none, some _, some _, none, some _, none, none, none]) rfl ?_
    exact pX0_mean_99 hX hr  h
set_option maxRecDepth 4000 in
theorem pX0_mean {X : VX} {G : VG} {q : Int32 × St} (hX : Fx X G cX0_mean 11 RX0 2) (hr : Rt X = (some .int)) {l1 : Int32} {S : St} (h : fX0_mean l1 S = some q) : V X G 11 (ZQ X G (QI G q)) 0 [some (.ref (G.2.1 25)), some (.int l1), none, none, none, none, none, none, none, none, none] [] S := by
  unfold fX0_mean at h
  refine v_aload_n hX eX0_mean_0 rfl ?_
  refine v_iload_n hX eX0_mean_1 rfl ?_
  obtain ⟨q3, hq4, h⟩ := bd_e h
  refine v_cvI hX eX0_mean_2 cw_X0_90 (mX0_rightChance hq4) (Nat.le_of_ble_eq_true rfl) oc_25 (As := [_]) rfl rfl (Nat.le_of_ble_eq_true rfl) ?_
  refine v_istore_n hX eX0_mean_5 (lv' := [some _, some _, some _, none, none, none, none, none, none, none, none]) (Nat.le_of_ble_eq_true rfl) rfl rfl ?_
  refine v_aload_n hX eX0_mean_6 rfl ?_
  refine v_iload_n hX eX0_mean_7 rfl ?_
  refine v_iconst hX eX0_mean_8 ic_0 ?_
  obtain ⟨q7, hq8, h⟩ := bd_e h
  refine v_cvI hX eX0_mean_9 cw_X0_132 (mX0_someNo hq8) (Nat.le_of_ble_eq_true rfl) oc_25 (As := [_, _]) rfl rfl (Nat.le_of_ble_eq_true rfl) ?_
  refine v_istore_n hX eX0_mean_12 (lv' := [some _, some _, some _, some _, none, none, none, none, none, none, none]) (Nat.le_of_ble_eq_true rfl) rfl rfl ?_
  refine v_aload_n hX eX0_mean_13 rfl ?_
  refine v_iload_n hX eX0_mean_14 rfl ?_
  refine v_iconst hX eX0_mean_15 ic_1 ?_
  obtain ⟨q11, hq12, h⟩ := bd_e h
  refine v_cvI hX eX0_mean_16 cw_X0_132 (mX0_someNo hq12) (Nat.le_of_ble_eq_true rfl) oc_25 (As := [_, _]) rfl rfl (Nat.le_of_ble_eq_true rfl) ?_
  refine v_istore hX eX0_mean_19 (lv' := [some _, some _, some _, some _, some _, none, none, none, none, none, none]) (Nat.le_of_ble_eq_true rfl) rfl rfl ?_
  refine v_aload_n hX eX0_mean_21 rfl ?_
  refine v_aload_n hX eX0_mean_22 rfl ?_
  refine v_gfc hX eX0_mean_23 clX0 fk_25_7 (Nat.le_of_ble_eq_true rfl) lk_X0_21 ?_
  refine v_iload_n hX eX0_mean_26 rfl ?_
  obtain ⟨g13, h⟩ := gd_e h
  refine v_iaload hX eX0_mean_27 ak_29 g13 ?_
  refine v_aload_n hX eX0_mean_28 rfl ?_
  refine v_iload_n hX eX0_mean_29 rfl ?_
  obtain ⟨q16, hq17, h⟩ := bd_e h
  refine v_cvI hX eX0_mean_30 cw_X0_80 (mX0_room hq17) (Nat.le_of_ble_eq_true rfl) oc_25 (As := [_]) rfl rfl (Nat.le_of_ble_eq_true rfl) ?_
  refine v_mmin hX eX0_mean_33 wm_X0_135 (Nat.le_of_ble_eq_true rfl) ?_
  refine v_i2l hX eX0_mean_36 ?_
  refine v_bipush hX eX0_mean_37 bp_100 ?_
  refine v_iload_n hX eX0_mean_39 rfl ?_
  refine v_isub hX eX0_mean_40 ?_
  refine v_iload_n hX eX0_mean_41 rfl ?_
  obtain ⟨q21, hq22, h⟩ := bd_e h
  refine v_cvL hX eX0_mean_42 cw_X0_138 (mX0_share hq22) (Nat.le_of_ble_eq_true rfl) oc_25 (As := [_, _, _]) rfl rfl (Nat.le_of_ble_eq_true rfl) ?_
  refine v_lstore hX eX0_mean_45 (lv' := [some _, some _, some _, some _, some _, some _, none, none, none, none, none]) (Nat.le_of_ble_eq_true rfl) rfl rfl ?_
  refine v_aload_n hX eX0_mean_47 rfl ?_
  refine v_aload_n hX eX0_mean_48 rfl ?_
  refine v_gfc hX eX0_mean_49 clX0 fk_25_5 (Nat.le_of_ble_eq_true rfl) lk_X0_15 ?_
  refine v_iload_n hX eX0_mean_52 rfl ?_
  obtain ⟨g23, h⟩ := gd_e h
  refine v_iaload hX eX0_mean_53 ak_27 g23 ?_
  refine v_if_le hX eX0_mean_54 rfl (fun c24 => ?_) (fun c24 => ?_)
  · have h := it_t c24 h
    refine v_lconst hX eX0_mean_61 lc_0 ?_
    refine v_drop 3 (lv' := [some _, some _, some _, none, some _, some _, none, none, none, none, none]) rfl ?_
    exact pX0_mean_62 hX hr  h
  · have h := it_f c24 h
    refine v_lconst hX eX0_mean_57 lc_1 ?_
    refine v_goto hX eX0_mean_58 rfl ?_
    refine v_drop 3 (lv' := [some _, some _, some _, none, some _, some _, none, none, none, none, none]) rfl ?_
    exact pX0_mean_62 hX hr  h
set_option maxRecDepth 4000 in
theorem mX0_mean {l : Launch} {G : VG} {l1 : Int32} {S : St} {q : Int32 × St} (h : fX0_mean l1 S = some q) : MI l G yX0_mean cX0_mean 11 (some .int) 2 [.ref (G.2.1 25), .int l1] S q :=
  met_of (by decide +kernel) (Nat.le_of_ble_eq_true rfl) (fun X _ hX hr => pX0_mean hX hr  h)
end
