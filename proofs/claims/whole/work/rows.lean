section
-- ===== PART A: goes FIRST, ahead of the names: the tables' words, and 'selects' of the private methods out of them =====
/-- a private method of a class that the tables say can be made, by its rows of tables_1 -/
def lw_okq (q : MethodName × Nat) : Prop := (q.1.cls ≠ "java/lang/invoke/MethodHandle" ∧ q.1.cls ≠ "java/lang/invoke/VarHandle") ∧ Cond.instantiable q.1.cls q.2 ∈ tables_1 ∧ Cond.privateMethod q.1 ∈ tables_1 ∧ Cond.instanceMethod q.1 ∈ tables_1
theorem lw_p0 : lw_okq (⟨"LeastTeaches$Reader", "advance", "()V"⟩, 8) := ⟨⟨by decide +kernel, by decide +kernel⟩, List.mem_of_getElem? (i := 25) (by decide +kernel), List.mem_of_getElem? (i := 289) (by decide +kernel), List.mem_of_getElem? (i := 290) (by decide +kernel)⟩
theorem lw_p1 : lw_okq (⟨"LeastTeaches$Reader", "kindAt", "(I)I"⟩, 8) := ⟨⟨by decide +kernel, by decide +kernel⟩, List.mem_of_getElem? (i := 25) (by decide +kernel), List.mem_of_getElem? (i := 293) (by decide +kernel), List.mem_of_getElem? (i := 294) (by decide +kernel)⟩
theorem lw_p2 : lw_okq (⟨"LeastTeaches$Reader", "isWord", "(Ljava/lang/String;)Z"⟩, 8) := ⟨⟨by decide +kernel, by decide +kernel⟩, List.mem_of_getElem? (i := 25) (by decide +kernel), List.mem_of_getElem? (i := 298) (by decide +kernel), List.mem_of_getElem? (i := 299) (by decide +kernel)⟩
theorem lw_p3 : lw_okq (⟨"LeastTeaches$Reader", "readThing", "()V"⟩, 8) := ⟨⟨by decide +kernel, by decide +kernel⟩, List.mem_of_getElem? (i := 25) (by decide +kernel), List.mem_of_getElem? (i := 350) (by decide +kernel), List.mem_of_getElem? (i := 351) (by decide +kernel)⟩
theorem lw_p4 : lw_okq (⟨"LeastTeaches$Reader", "refuse", "(II)V"⟩, 8) := ⟨⟨by decide +kernel, by decide +kernel⟩, List.mem_of_getElem? (i := 25) (by decide +kernel), List.mem_of_getElem? (i := 354) (by decide +kernel), List.mem_of_getElem? (i := 355) (by decide +kernel)⟩
theorem lw_p5 : lw_okq (⟨"LeastTeaches$Reader", "readLeaning", "()I"⟩, 8) := ⟨⟨by decide +kernel, by decide +kernel⟩, List.mem_of_getElem? (i := 25) (by decide +kernel), List.mem_of_getElem? (i := 359) (by decide +kernel), List.mem_of_getElem? (i := 360) (by decide +kernel)⟩
theorem lw_p6 : lw_okq (⟨"LeastTeaches$Reader", "takeNumber", "(II)I"⟩, 8) := ⟨⟨by decide +kernel, by decide +kernel⟩, List.mem_of_getElem? (i := 25) (by decide +kernel), List.mem_of_getElem? (i := 363) (by decide +kernel), List.mem_of_getElem? (i := 364) (by decide +kernel)⟩
theorem lw_p7 : lw_okq (⟨"LeastTeaches$Reader", "isSign", "(I)Z"⟩, 8) := ⟨⟨by decide +kernel, by decide +kernel⟩, List.mem_of_getElem? (i := 25) (by decide +kernel), List.mem_of_getElem? (i := 367) (by decide +kernel), List.mem_of_getElem? (i := 368) (by decide +kernel)⟩
theorem lw_p8 : lw_okq (⟨"LeastTeaches$Reader", "takeSign", "(I)V"⟩, 8) := ⟨⟨by decide +kernel, by decide +kernel⟩, List.mem_of_getElem? (i := 25) (by decide +kernel), List.mem_of_getElem? (i := 371) (by decide +kernel), List.mem_of_getElem? (i := 372) (by decide +kernel)⟩
theorem lw_p9 : lw_okq (⟨"LeastTeaches$Reader", "readPupil", "()V"⟩, 8) := ⟨⟨by decide +kernel, by decide +kernel⟩, List.mem_of_getElem? (i := 25) (by decide +kernel), List.mem_of_getElem? (i := 376) (by decide +kernel), List.mem_of_getElem? (i := 377) (by decide +kernel)⟩
theorem lw_p10 : lw_okq (⟨"LeastTeaches", "isPupil", "(I)Z"⟩, 16) := ⟨⟨by decide +kernel, by decide +kernel⟩, List.mem_of_getElem? (i := 17) (by decide +kernel), List.mem_of_getElem? (i := 403) (by decide +kernel), List.mem_of_getElem? (i := 404) (by decide +kernel)⟩
theorem lw_p11 : lw_okq (⟨"LeastTeaches", "knownThings", "(I)I"⟩, 16) := ⟨⟨by decide +kernel, by decide +kernel⟩, List.mem_of_getElem? (i := 17) (by decide +kernel), List.mem_of_getElem? (i := 408) (by decide +kernel), List.mem_of_getElem? (i := 409) (by decide +kernel)⟩
theorem lw_p12 : lw_okq (⟨"LeastTeaches", "allLevels", "(I)I"⟩, 16) := ⟨⟨by decide +kernel, by decide +kernel⟩, List.mem_of_getElem? (i := 17) (by decide +kernel), List.mem_of_getElem? (i := 412) (by decide +kernel), List.mem_of_getElem? (i := 413) (by decide +kernel)⟩
theorem lw_p13 : lw_okq (⟨"LeastTeaches", "isThing", "(I)Z"⟩, 16) := ⟨⟨by decide +kernel, by decide +kernel⟩, List.mem_of_getElem? (i := 17) (by decide +kernel), List.mem_of_getElem? (i := 420) (by decide +kernel), List.mem_of_getElem? (i := 421) (by decide +kernel)⟩
theorem lw_p14 : lw_okq (⟨"LeastTeaches", "sitAll", "(I)V"⟩, 16) := ⟨⟨by decide +kernel, by decide +kernel⟩, List.mem_of_getElem? (i := 17) (by decide +kernel), List.mem_of_getElem? (i := 432) (by decide +kernel), List.mem_of_getElem? (i := 433) (by decide +kernel)⟩
theorem lw_p15 : lw_okq (⟨"LeastTeaches$Bench", "comes", "(IZ)Z"⟩, 11) := ⟨⟨by decide +kernel, by decide +kernel⟩, List.mem_of_getElem? (i := 130) (by decide +kernel), List.mem_of_getElem? (i := 467) (by decide +kernel), List.mem_of_getElem? (i := 468) (by decide +kernel)⟩
def lw_privs_1 : List (MethodName × Nat) := [(⟨"LeastTeaches$Reader", "advance", "()V"⟩, 8), (⟨"LeastTeaches$Reader", "kindAt", "(I)I"⟩, 8), (⟨"LeastTeaches$Reader", "isWord", "(Ljava/lang/String;)Z"⟩, 8), (⟨"LeastTeaches$Reader", "readThing", "()V"⟩, 8), (⟨"LeastTeaches$Reader", "refuse", "(II)V"⟩, 8), (⟨"LeastTeaches$Reader", "readLeaning", "()I"⟩, 8), (⟨"LeastTeaches$Reader", "takeNumber", "(II)I"⟩, 8), (⟨"LeastTeaches$Reader", "isSign", "(I)Z"⟩, 8), (⟨"LeastTeaches$Reader", "takeSign", "(I)V"⟩, 8), (⟨"LeastTeaches$Reader", "readPupil", "()V"⟩, 8), (⟨"LeastTeaches", "isPupil", "(I)Z"⟩, 16), (⟨"LeastTeaches", "knownThings", "(I)I"⟩, 16), (⟨"LeastTeaches", "allLevels", "(I)I"⟩, 16), (⟨"LeastTeaches", "isThing", "(I)Z"⟩, 16), (⟨"LeastTeaches", "sitAll", "(I)V"⟩, 16), (⟨"LeastTeaches$Bench", "comes", "(IZ)Z"⟩, 11)]
theorem lw_r1 : ∀ q ∈ lw_privs_1, lw_okq q := List.forall_mem_cons.mpr ⟨lw_p0, List.forall_mem_cons.mpr ⟨lw_p1, List.forall_mem_cons.mpr ⟨lw_p2, List.forall_mem_cons.mpr ⟨lw_p3, List.forall_mem_cons.mpr ⟨lw_p4, List.forall_mem_cons.mpr ⟨lw_p5, List.forall_mem_cons.mpr ⟨lw_p6, List.forall_mem_cons.mpr ⟨lw_p7, List.forall_mem_cons.mpr ⟨lw_p8, List.forall_mem_cons.mpr ⟨lw_p9, List.forall_mem_cons.mpr ⟨lw_p10, List.forall_mem_cons.mpr ⟨lw_p11, List.forall_mem_cons.mpr ⟨lw_p12, List.forall_mem_cons.mpr ⟨lw_p13, List.forall_mem_cons.mpr ⟨lw_p14, List.forall_mem_cons.mpr ⟨lw_p15, fun _ h => absurd h List.not_mem_nil⟩⟩⟩⟩⟩⟩⟩⟩⟩⟩⟩⟩⟩⟩⟩⟩
theorem lw_p16 : lw_okq (⟨"LeastTeaches$Bench", "endShaken", "(IZ)I"⟩, 11) := ⟨⟨by decide +kernel, by decide +kernel⟩, List.mem_of_getElem? (i := 130) (by decide +kernel), List.mem_of_getElem? (i := 487) (by decide +kernel), List.mem_of_getElem? (i := 488) (by decide +kernel)⟩
theorem lw_p17 : lw_okq (⟨"LeastTeaches$Bench", "endAgreed", "(I)I"⟩, 11) := ⟨⟨by decide +kernel, by decide +kernel⟩, List.mem_of_getElem? (i := 130) (by decide +kernel), List.mem_of_getElem? (i := 491) (by decide +kernel), List.mem_of_getElem? (i := 492) (by decide +kernel)⟩
theorem lw_p18 : lw_okq (⟨"LeastTeaches$Bench", "rise", "(II)V"⟩, 11) := ⟨⟨by decide +kernel, by decide +kernel⟩, List.mem_of_getElem? (i := 130) (by decide +kernel), List.mem_of_getElem? (i := 495) (by decide +kernel), List.mem_of_getElem? (i := 496) (by decide +kernel)⟩
theorem lw_p19 : lw_okq (⟨"LeastTeaches$Bench", "endCorrected", "(I)I"⟩, 11) := ⟨⟨by decide +kernel, by decide +kernel⟩, List.mem_of_getElem? (i := 130) (by decide +kernel), List.mem_of_getElem? (i := 499) (by decide +kernel), List.mem_of_getElem? (i := 500) (by decide +kernel)⟩
theorem lw_p20 : lw_okq (⟨"LeastTeaches$Bench", "endMisled", "(IZ)I"⟩, 11) := ⟨⟨by decide +kernel, by decide +kernel⟩, List.mem_of_getElem? (i := 130) (by decide +kernel), List.mem_of_getElem? (i := 503) (by decide +kernel), List.mem_of_getElem? (i := 504) (by decide +kernel)⟩
theorem lw_p21 : lw_okq (⟨"LeastTeaches$Bench", "share", "(JII)J"⟩, 11) := ⟨⟨by decide +kernel, by decide +kernel⟩, List.mem_of_getElem? (i := 130) (by decide +kernel), List.mem_of_getElem? (i := 535) (by decide +kernel), List.mem_of_getElem? (i := 536) (by decide +kernel)⟩
theorem lw_p22 : lw_okq (⟨"LeastTeaches", "isRule", "(I)Z"⟩, 16) := ⟨⟨by decide +kernel, by decide +kernel⟩, List.mem_of_getElem? (i := 17) (by decide +kernel), List.mem_of_getElem? (i := 545) (by decide +kernel), List.mem_of_getElem? (i := 546) (by decide +kernel)⟩
theorem lw_p23 : lw_okq (⟨"LeastTeaches$Bench", "greatestBelow", "(I)I"⟩, 11) := ⟨⟨by decide +kernel, by decide +kernel⟩, List.mem_of_getElem? (i := 130) (by decide +kernel), List.mem_of_getElem? (i := 575) (by decide +kernel), List.mem_of_getElem? (i := 576) (by decide +kernel)⟩
theorem lw_p24 : lw_okq (⟨"LeastTeaches$Odds", "teach", "(LLeastTeaches$Bench;II)V"⟩, 6) := ⟨⟨by decide +kernel, by decide +kernel⟩, List.mem_of_getElem? (i := 181) (by decide +kernel), List.mem_of_getElem? (i := 579) (by decide +kernel), List.mem_of_getElem? (i := 580) (by decide +kernel)⟩
theorem lw_p25 : lw_okq (⟨"LeastTeaches$Odds", "partByNo", "(LLeastTeaches$Bench;IJZ)V"⟩, 6) := ⟨⟨by decide +kernel, by decide +kernel⟩, List.mem_of_getElem? (i := 181) (by decide +kernel), List.mem_of_getElem? (i := 585) (by decide +kernel), List.mem_of_getElem? (i := 586) (by decide +kernel)⟩
theorem lw_p26 : lw_okq (⟨"LeastTeaches$Odds", "begin", "(J)V"⟩, 6) := ⟨⟨by decide +kernel, by decide +kernel⟩, List.mem_of_getElem? (i := 181) (by decide +kernel), List.mem_of_getElem? (i := 589) (by decide +kernel), List.mem_of_getElem? (i := 590) (by decide +kernel)⟩
theorem lw_p27 : lw_okq (⟨"LeastTeaches$Odds", "split", "(II)V"⟩, 6) := ⟨⟨by decide +kernel, by decide +kernel⟩, List.mem_of_getElem? (i := 181) (by decide +kernel), List.mem_of_getElem? (i := 595) (by decide +kernel), List.mem_of_getElem? (i := 596) (by decide +kernel)⟩
theorem lw_p28 : lw_okq (⟨"LeastTeaches$Odds", "endRight", "(LLeastTeaches$Bench;II)V"⟩, 6) := ⟨⟨by decide +kernel, by decide +kernel⟩, List.mem_of_getElem? (i := 181) (by decide +kernel), List.mem_of_getElem? (i := 600) (by decide +kernel), List.mem_of_getElem? (i := 601) (by decide +kernel)⟩
theorem lw_p29 : lw_okq (⟨"LeastTeaches$Odds", "endWrong", "(LLeastTeaches$Bench;II)V"⟩, 6) := ⟨⟨by decide +kernel, by decide +kernel⟩, List.mem_of_getElem? (i := 181) (by decide +kernel), List.mem_of_getElem? (i := 605) (by decide +kernel), List.mem_of_getElem? (i := 606) (by decide +kernel)⟩
theorem lw_p30 : lw_okq (⟨"LeastTeaches$Odds", "endMisled", "(LLeastTeaches$Bench;II)V"⟩, 6) := ⟨⟨by decide +kernel, by decide +kernel⟩, List.mem_of_getElem? (i := 181) (by decide +kernel), List.mem_of_getElem? (i := 610) (by decide +kernel), List.mem_of_getElem? (i := 611) (by decide +kernel)⟩
theorem lw_p31 : lw_okq (⟨"LeastTeaches", "fewestOfAll", "(LLeastTeaches$Standing;IZ)I"⟩, 16) := ⟨⟨by decide +kernel, by decide +kernel⟩, List.mem_of_getElem? (i := 17) (by decide +kernel), List.mem_of_getElem? (i := 667) (by decide +kernel), List.mem_of_getElem? (i := 668) (by decide +kernel)⟩
def lw_privs_2 : List (MethodName × Nat) := [(⟨"LeastTeaches$Bench", "endShaken", "(IZ)I"⟩, 11), (⟨"LeastTeaches$Bench", "endAgreed", "(I)I"⟩, 11), (⟨"LeastTeaches$Bench", "rise", "(II)V"⟩, 11), (⟨"LeastTeaches$Bench", "endCorrected", "(I)I"⟩, 11), (⟨"LeastTeaches$Bench", "endMisled", "(IZ)I"⟩, 11), (⟨"LeastTeaches$Bench", "share", "(JII)J"⟩, 11), (⟨"LeastTeaches", "isRule", "(I)Z"⟩, 16), (⟨"LeastTeaches$Bench", "greatestBelow", "(I)I"⟩, 11), (⟨"LeastTeaches$Odds", "teach", "(LLeastTeaches$Bench;II)V"⟩, 6), (⟨"LeastTeaches$Odds", "partByNo", "(LLeastTeaches$Bench;IJZ)V"⟩, 6), (⟨"LeastTeaches$Odds", "begin", "(J)V"⟩, 6), (⟨"LeastTeaches$Odds", "split", "(II)V"⟩, 6), (⟨"LeastTeaches$Odds", "endRight", "(LLeastTeaches$Bench;II)V"⟩, 6), (⟨"LeastTeaches$Odds", "endWrong", "(LLeastTeaches$Bench;II)V"⟩, 6), (⟨"LeastTeaches$Odds", "endMisled", "(LLeastTeaches$Bench;II)V"⟩, 6), (⟨"LeastTeaches", "fewestOfAll", "(LLeastTeaches$Standing;IZ)I"⟩, 16)]
theorem lw_r2 : ∀ q ∈ lw_privs_2, lw_okq q := List.forall_mem_cons.mpr ⟨lw_p16, List.forall_mem_cons.mpr ⟨lw_p17, List.forall_mem_cons.mpr ⟨lw_p18, List.forall_mem_cons.mpr ⟨lw_p19, List.forall_mem_cons.mpr ⟨lw_p20, List.forall_mem_cons.mpr ⟨lw_p21, List.forall_mem_cons.mpr ⟨lw_p22, List.forall_mem_cons.mpr ⟨lw_p23, List.forall_mem_cons.mpr ⟨lw_p24, List.forall_mem_cons.mpr ⟨lw_p25, List.forall_mem_cons.mpr ⟨lw_p26, List.forall_mem_cons.mpr ⟨lw_p27, List.forall_mem_cons.mpr ⟨lw_p28, List.forall_mem_cons.mpr ⟨lw_p29, List.forall_mem_cons.mpr ⟨lw_p30, List.forall_mem_cons.mpr ⟨lw_p31, fun _ h => absurd h List.not_mem_nil⟩⟩⟩⟩⟩⟩⟩⟩⟩⟩⟩⟩⟩⟩⟩⟩
theorem lw_p32 : lw_okq (⟨"LeastTeaches", "searchFor", "(Z)LLeastTeaches$Search;"⟩, 16) := ⟨⟨by decide +kernel, by decide +kernel⟩, List.mem_of_getElem? (i := 17) (by decide +kernel), List.mem_of_getElem? (i := 675) (by decide +kernel), List.mem_of_getElem? (i := 676) (by decide +kernel)⟩
theorem lw_p33 : lw_okq (⟨"LeastTeaches$Search", "look", "(LLeastTeaches$Bench;II)I"⟩, 2) := ⟨⟨by decide +kernel, by decide +kernel⟩, List.mem_of_getElem? (i := 207) (by decide +kernel), List.mem_of_getElem? (i := 690) (by decide +kernel), List.mem_of_getElem? (i := 691) (by decide +kernel)⟩
theorem lw_p34 : lw_okq (⟨"LeastTeaches", "levelBehind", "(IIII)I"⟩, 16) := ⟨⟨by decide +kernel, by decide +kernel⟩, List.mem_of_getElem? (i := 17) (by decide +kernel), List.mem_of_getElem? (i := 721) (by decide +kernel), List.mem_of_getElem? (i := 722) (by decide +kernel)⟩
theorem lw_p35 : lw_okq (⟨"LeastTeaches", "findOrder", "()I"⟩, 16) := ⟨⟨by decide +kernel, by decide +kernel⟩, List.mem_of_getElem? (i := 17) (by decide +kernel), List.mem_of_getElem? (i := 730) (by decide +kernel), List.mem_of_getElem? (i := 731) (by decide +kernel)⟩
theorem lw_p36 : lw_okq (⟨"LeastTeaches", "leastOpen", "(I)I"⟩, 16) := ⟨⟨by decide +kernel, by decide +kernel⟩, List.mem_of_getElem? (i := 17) (by decide +kernel), List.mem_of_getElem? (i := 738) (by decide +kernel), List.mem_of_getElem? (i := 739) (by decide +kernel)⟩
theorem lw_p37 : lw_okq (⟨"LeastTeaches", "fewestOfPart", "(II)I"⟩, 16) := ⟨⟨by decide +kernel, by decide +kernel⟩, List.mem_of_getElem? (i := 17) (by decide +kernel), List.mem_of_getElem? (i := 746) (by decide +kernel), List.mem_of_getElem? (i := 747) (by decide +kernel)⟩
theorem lw_p38 : lw_okq (⟨"LeastTeaches", "imageOf", "(I)LLeastTeaches$Standing;"⟩, 16) := ⟨⟨by decide +kernel, by decide +kernel⟩, List.mem_of_getElem? (i := 17) (by decide +kernel), List.mem_of_getElem? (i := 771) (by decide +kernel), List.mem_of_getElem? (i := 772) (by decide +kernel)⟩
theorem lw_p39 : lw_okq (⟨"LeastTeachesModel", "here", "()I"⟩, 41) := ⟨⟨by decide +kernel, by decide +kernel⟩, List.mem_of_getElem? (i := 779) (by decide +kernel), List.mem_of_getElem? (i := 925) (by decide +kernel), List.mem_of_getElem? (i := 926) (by decide +kernel)⟩
theorem lw_p40 : lw_okq (⟨"LeastTeachesModel", "takeClause", "()I"⟩, 41) := ⟨⟨by decide +kernel, by decide +kernel⟩, List.mem_of_getElem? (i := 779) (by decide +kernel), List.mem_of_getElem? (i := 929) (by decide +kernel), List.mem_of_getElem? (i := 930) (by decide +kernel)⟩
theorem lw_p41 : lw_okq (⟨"LeastTeachesModel", "readWord", "()V"⟩, 41) := ⟨⟨by decide +kernel, by decide +kernel⟩, List.mem_of_getElem? (i := 779) (by decide +kernel), List.mem_of_getElem? (i := 933) (by decide +kernel), List.mem_of_getElem? (i := 934) (by decide +kernel)⟩
theorem lw_p42 : lw_okq (⟨"LeastTeachesModel", "fails", "(II)I"⟩, 41) := ⟨⟨by decide +kernel, by decide +kernel⟩, List.mem_of_getElem? (i := 779) (by decide +kernel), List.mem_of_getElem? (i := 946) (by decide +kernel), List.mem_of_getElem? (i := 947) (by decide +kernel)⟩
theorem lw_p43 : lw_okq (⟨"LeastTeachesModel", "takeThing", "()I"⟩, 41) := ⟨⟨by decide +kernel, by decide +kernel⟩, List.mem_of_getElem? (i := 779) (by decide +kernel), List.mem_of_getElem? (i := 950) (by decide +kernel), List.mem_of_getElem? (i := 951) (by decide +kernel)⟩
theorem lw_p44 : lw_okq (⟨"LeastTeachesModel", "takeNumber", "(II)I"⟩, 41) := ⟨⟨by decide +kernel, by decide +kernel⟩, List.mem_of_getElem? (i := 779) (by decide +kernel), List.mem_of_getElem? (i := 955) (by decide +kernel), List.mem_of_getElem? (i := 956) (by decide +kernel)⟩
theorem lw_p45 : lw_okq (⟨"LeastTeachesModel", "isComma", "()Z"⟩, 41) := ⟨⟨by decide +kernel, by decide +kernel⟩, List.mem_of_getElem? (i := 779) (by decide +kernel), List.mem_of_getElem? (i := 964) (by decide +kernel), List.mem_of_getElem? (i := 965) (by decide +kernel)⟩
theorem lw_p46 : lw_okq (⟨"LeastTeachesModel", "takePupil", "()I"⟩, 41) := ⟨⟨by decide +kernel, by decide +kernel⟩, List.mem_of_getElem? (i := 779) (by decide +kernel), List.mem_of_getElem? (i := 968) (by decide +kernel), List.mem_of_getElem? (i := 969) (by decide +kernel)⟩
theorem lw_p47 : lw_okq (⟨"LeastTeachesModel", "isPupil", "(I)Z"⟩, 41) := ⟨⟨by decide +kernel, by decide +kernel⟩, List.mem_of_getElem? (i := 779) (by decide +kernel), List.mem_of_getElem? (i := 984) (by decide +kernel), List.mem_of_getElem? (i := 985) (by decide +kernel)⟩
def lw_privs_3 : List (MethodName × Nat) := [(⟨"LeastTeaches", "searchFor", "(Z)LLeastTeaches$Search;"⟩, 16), (⟨"LeastTeaches$Search", "look", "(LLeastTeaches$Bench;II)I"⟩, 2), (⟨"LeastTeaches", "levelBehind", "(IIII)I"⟩, 16), (⟨"LeastTeaches", "findOrder", "()I"⟩, 16), (⟨"LeastTeaches", "leastOpen", "(I)I"⟩, 16), (⟨"LeastTeaches", "fewestOfPart", "(II)I"⟩, 16), (⟨"LeastTeaches", "imageOf", "(I)LLeastTeaches$Standing;"⟩, 16), (⟨"LeastTeachesModel", "here", "()I"⟩, 41), (⟨"LeastTeachesModel", "takeClause", "()I"⟩, 41), (⟨"LeastTeachesModel", "readWord", "()V"⟩, 41), (⟨"LeastTeachesModel", "fails", "(II)I"⟩, 41), (⟨"LeastTeachesModel", "takeThing", "()I"⟩, 41), (⟨"LeastTeachesModel", "takeNumber", "(II)I"⟩, 41), (⟨"LeastTeachesModel", "isComma", "()Z"⟩, 41), (⟨"LeastTeachesModel", "takePupil", "()I"⟩, 41), (⟨"LeastTeachesModel", "isPupil", "(I)Z"⟩, 41)]
theorem lw_r3 : ∀ q ∈ lw_privs_3, lw_okq q := List.forall_mem_cons.mpr ⟨lw_p32, List.forall_mem_cons.mpr ⟨lw_p33, List.forall_mem_cons.mpr ⟨lw_p34, List.forall_mem_cons.mpr ⟨lw_p35, List.forall_mem_cons.mpr ⟨lw_p36, List.forall_mem_cons.mpr ⟨lw_p37, List.forall_mem_cons.mpr ⟨lw_p38, List.forall_mem_cons.mpr ⟨lw_p39, List.forall_mem_cons.mpr ⟨lw_p40, List.forall_mem_cons.mpr ⟨lw_p41, List.forall_mem_cons.mpr ⟨lw_p42, List.forall_mem_cons.mpr ⟨lw_p43, List.forall_mem_cons.mpr ⟨lw_p44, List.forall_mem_cons.mpr ⟨lw_p45, List.forall_mem_cons.mpr ⟨lw_p46, List.forall_mem_cons.mpr ⟨lw_p47, fun _ h => absurd h List.not_mem_nil⟩⟩⟩⟩⟩⟩⟩⟩⟩⟩⟩⟩⟩⟩⟩⟩
theorem lw_p48 : lw_okq (⟨"LeastTeachesModel", "isThing", "(I)Z"⟩, 41) := ⟨⟨by decide +kernel, by decide +kernel⟩, List.mem_of_getElem? (i := 779) (by decide +kernel), List.mem_of_getElem? (i := 994) (by decide +kernel), List.mem_of_getElem? (i := 995) (by decide +kernel)⟩
theorem lw_p49 : lw_okq (⟨"LeastTeachesModel", "capOf", "(III)I"⟩, 41) := ⟨⟨by decide +kernel, by decide +kernel⟩, List.mem_of_getElem? (i := 779) (by decide +kernel), List.mem_of_getElem? (i := 1006) (by decide +kernel), List.mem_of_getElem? (i := 1007) (by decide +kernel)⟩
theorem lw_p50 : lw_okq (⟨"LeastTeachesModel", "take", "(II)V"⟩, 41) := ⟨⟨by decide +kernel, by decide +kernel⟩, List.mem_of_getElem? (i := 779) (by decide +kernel), List.mem_of_getElem? (i := 1018) (by decide +kernel), List.mem_of_getElem? (i := 1019) (by decide +kernel)⟩
theorem lw_p51 : lw_okq (⟨"LeastTeachesModel", "everybody", "()I"⟩, 41) := ⟨⟨by decide +kernel, by decide +kernel⟩, List.mem_of_getElem? (i := 779) (by decide +kernel), List.mem_of_getElem? (i := 1022) (by decide +kernel), List.mem_of_getElem? (i := 1023) (by decide +kernel)⟩
theorem lw_p52 : lw_okq (⟨"LeastTeachesModel", "teach", "(IIZZ)I"⟩, 41) := ⟨⟨by decide +kernel, by decide +kernel⟩, List.mem_of_getElem? (i := 779) (by decide +kernel), List.mem_of_getElem? (i := 1026) (by decide +kernel), List.mem_of_getElem? (i := 1027) (by decide +kernel)⟩
theorem lw_p53 : lw_okq (⟨"LeastTeachesModel", "isSo", "(IZ)Z"⟩, 41) := ⟨⟨by decide +kernel, by decide +kernel⟩, List.mem_of_getElem? (i := 779) (by decide +kernel), List.mem_of_getElem? (i := 1030) (by decide +kernel), List.mem_of_getElem? (i := 1031) (by decide +kernel)⟩
theorem lw_p54 : lw_okq (⟨"LeastTeachesModel", "draw", "(I)I"⟩, 41) := ⟨⟨by decide +kernel, by decide +kernel⟩, List.mem_of_getElem? (i := 779) (by decide +kernel), List.mem_of_getElem? (i := 1034) (by decide +kernel), List.mem_of_getElem? (i := 1035) (by decide +kernel)⟩
theorem lw_p55 : lw_okq (⟨"LeastTeachesModel", "rise", "(II)V"⟩, 41) := ⟨⟨by decide +kernel, by decide +kernel⟩, List.mem_of_getElem? (i := 779) (by decide +kernel), List.mem_of_getElem? (i := 1045) (by decide +kernel), List.mem_of_getElem? (i := 1046) (by decide +kernel)⟩
theorem lw_p56 : lw_okq (⟨"LeastTeachesModel", "believe", "(IIZ)V"⟩, 41) := ⟨⟨by decide +kernel, by decide +kernel⟩, List.mem_of_getElem? (i := 779) (by decide +kernel), List.mem_of_getElem? (i := 1049) (by decide +kernel), List.mem_of_getElem? (i := 1050) (by decide +kernel)⟩
theorem lw_p57 : lw_okq (⟨"LeastTeachesModel", "follow", "(II)V"⟩, 41) := ⟨⟨by decide +kernel, by decide +kernel⟩, List.mem_of_getElem? (i := 779) (by decide +kernel), List.mem_of_getElem? (i := 1054) (by decide +kernel), List.mem_of_getElem? (i := 1055) (by decide +kernel)⟩
theorem lw_p58 : lw_okq (⟨"LeastTeachesModel", "put", "(I)V"⟩, 41) := ⟨⟨by decide +kernel, by decide +kernel⟩, List.mem_of_getElem? (i := 779) (by decide +kernel), List.mem_of_getElem? (i := 1058) (by decide +kernel), List.mem_of_getElem? (i := 1059) (by decide +kernel)⟩
theorem lw_p59 : lw_okq (⟨"LeastTeachesModel", "noOdds", "(IIZ)I"⟩, 41) := ⟨⟨by decide +kernel, by decide +kernel⟩, List.mem_of_getElem? (i := 779) (by decide +kernel), List.mem_of_getElem? (i := 1067) (by decide +kernel), List.mem_of_getElem? (i := 1068) (by decide +kernel)⟩
theorem lw_p60 : lw_okq (⟨"LeastTeachesModel", "upBy", "(II)I"⟩, 41) := ⟨⟨by decide +kernel, by decide +kernel⟩, List.mem_of_getElem? (i := 779) (by decide +kernel), List.mem_of_getElem? (i := 1088) (by decide +kernel), List.mem_of_getElem? (i := 1089) (by decide +kernel)⟩
theorem lw_p61 : lw_okq (⟨"LeastTeachesModel", "leastOf", "(II)I"⟩, 41) := ⟨⟨by decide +kernel, by decide +kernel⟩, List.mem_of_getElem? (i := 779) (by decide +kernel), List.mem_of_getElem? (i := 1092) (by decide +kernel), List.mem_of_getElem? (i := 1093) (by decide +kernel)⟩
theorem lw_p62 : lw_okq (⟨"LeastTeachesModel", "greatestBelow", "()I"⟩, 41) := ⟨⟨by decide +kernel, by decide +kernel⟩, List.mem_of_getElem? (i := 779) (by decide +kernel), List.mem_of_getElem? (i := 1096) (by decide +kernel), List.mem_of_getElem? (i := 1097) (by decide +kernel)⟩
theorem lw_p63 : lw_okq (⟨"LeastTeachesModel", "knownNow", "()I"⟩, 41) := ⟨⟨by decide +kernel, by decide +kernel⟩, List.mem_of_getElem? (i := 779) (by decide +kernel), List.mem_of_getElem? (i := 1105) (by decide +kernel), List.mem_of_getElem? (i := 1106) (by decide +kernel)⟩
def lw_privs_4 : List (MethodName × Nat) := [(⟨"LeastTeachesModel", "isThing", "(I)Z"⟩, 41), (⟨"LeastTeachesModel", "capOf", "(III)I"⟩, 41), (⟨"LeastTeachesModel", "take", "(II)V"⟩, 41), (⟨"LeastTeachesModel", "everybody", "()I"⟩, 41), (⟨"LeastTeachesModel", "teach", "(IIZZ)I"⟩, 41), (⟨"LeastTeachesModel", "isSo", "(IZ)Z"⟩, 41), (⟨"LeastTeachesModel", "draw", "(I)I"⟩, 41), (⟨"LeastTeachesModel", "rise", "(II)V"⟩, 41), (⟨"LeastTeachesModel", "believe", "(IIZ)V"⟩, 41), (⟨"LeastTeachesModel", "follow", "(II)V"⟩, 41), (⟨"LeastTeachesModel", "put", "(I)V"⟩, 41), (⟨"LeastTeachesModel", "noOdds", "(IIZ)I"⟩, 41), (⟨"LeastTeachesModel", "upBy", "(II)I"⟩, 41), (⟨"LeastTeachesModel", "leastOf", "(II)I"⟩, 41), (⟨"LeastTeachesModel", "greatestBelow", "()I"⟩, 41), (⟨"LeastTeachesModel", "knownNow", "()I"⟩, 41)]
theorem lw_r4 : ∀ q ∈ lw_privs_4, lw_okq q := List.forall_mem_cons.mpr ⟨lw_p48, List.forall_mem_cons.mpr ⟨lw_p49, List.forall_mem_cons.mpr ⟨lw_p50, List.forall_mem_cons.mpr ⟨lw_p51, List.forall_mem_cons.mpr ⟨lw_p52, List.forall_mem_cons.mpr ⟨lw_p53, List.forall_mem_cons.mpr ⟨lw_p54, List.forall_mem_cons.mpr ⟨lw_p55, List.forall_mem_cons.mpr ⟨lw_p56, List.forall_mem_cons.mpr ⟨lw_p57, List.forall_mem_cons.mpr ⟨lw_p58, List.forall_mem_cons.mpr ⟨lw_p59, List.forall_mem_cons.mpr ⟨lw_p60, List.forall_mem_cons.mpr ⟨lw_p61, List.forall_mem_cons.mpr ⟨lw_p62, List.forall_mem_cons.mpr ⟨lw_p63, fun _ h => absurd h List.not_mem_nil⟩⟩⟩⟩⟩⟩⟩⟩⟩⟩⟩⟩⟩⟩⟩⟩
theorem lw_p64 : lw_okq (⟨"LeastTeachesModel", "tellNow", "()I"⟩, 41) := ⟨⟨by decide +kernel, by decide +kernel⟩, List.mem_of_getElem? (i := 779) (by decide +kernel), List.mem_of_getElem? (i := 1113) (by decide +kernel), List.mem_of_getElem? (i := 1114) (by decide +kernel)⟩
theorem lw_p65 : lw_okq (⟨"LeastTeachesModel", "isSmall", "()Z"⟩, 41) := ⟨⟨by decide +kernel, by decide +kernel⟩, List.mem_of_getElem? (i := 779) (by decide +kernel), List.mem_of_getElem? (i := 1130) (by decide +kernel), List.mem_of_getElem? (i := 1131) (by decide +kernel)⟩
theorem lw_p66 : lw_okq (⟨"LeastTeachesModel", "fewestOf", "(IIZ)I"⟩, 41) := ⟨⟨by decide +kernel, by decide +kernel⟩, List.mem_of_getElem? (i := 779) (by decide +kernel), List.mem_of_getElem? (i := 1134) (by decide +kernel), List.mem_of_getElem? (i := 1135) (by decide +kernel)⟩
theorem lw_p67 : lw_okq (⟨"LeastTeachesModel", "spread", "(IZ)I"⟩, 41) := ⟨⟨by decide +kernel, by decide +kernel⟩, List.mem_of_getElem? (i := 779) (by decide +kernel), List.mem_of_getElem? (i := 1138) (by decide +kernel), List.mem_of_getElem? (i := 1139) (by decide +kernel)⟩
theorem lw_p68 : lw_okq (⟨"LeastTeachesModel", "goal", "(I)I"⟩, 41) := ⟨⟨by decide +kernel, by decide +kernel⟩, List.mem_of_getElem? (i := 779) (by decide +kernel), List.mem_of_getElem? (i := 1142) (by decide +kernel), List.mem_of_getElem? (i := 1143) (by decide +kernel)⟩
theorem lw_p69 : lw_okq (⟨"LeastTeachesModel", "stateNow", "(I)I"⟩, 41) := ⟨⟨by decide +kernel, by decide +kernel⟩, List.mem_of_getElem? (i := 779) (by decide +kernel), List.mem_of_getElem? (i := 1149) (by decide +kernel), List.mem_of_getElem? (i := 1150) (by decide +kernel)⟩
theorem lw_p70 : lw_okq (⟨"LeastTeachesModel", "next", "(IZII)I"⟩, 41) := ⟨⟨by decide +kernel, by decide +kernel⟩, List.mem_of_getElem? (i := 779) (by decide +kernel), List.mem_of_getElem? (i := 1153) (by decide +kernel), List.mem_of_getElem? (i := 1154) (by decide +kernel)⟩
theorem lw_p71 : lw_okq (⟨"LeastTeachesModel", "setState", "(II)V"⟩, 41) := ⟨⟨by decide +kernel, by decide +kernel⟩, List.mem_of_getElem? (i := 779) (by decide +kernel), List.mem_of_getElem? (i := 1157) (by decide +kernel), List.mem_of_getElem? (i := 1158) (by decide +kernel)⟩
theorem lw_p72 : lw_okq (⟨"LeastTeachesModel", "levelBehind", "(IIII)I"⟩, 41) := ⟨⟨by decide +kernel, by decide +kernel⟩, List.mem_of_getElem? (i := 779) (by decide +kernel), List.mem_of_getElem? (i := 1181) (by decide +kernel), List.mem_of_getElem? (i := 1182) (by decide +kernel)⟩
theorem lw_p73 : lw_okq (⟨"LeastTeachesModel", "findOrder", "()V"⟩, 41) := ⟨⟨by decide +kernel, by decide +kernel⟩, List.mem_of_getElem? (i := 779) (by decide +kernel), List.mem_of_getElem? (i := 1189) (by decide +kernel), List.mem_of_getElem? (i := 1190) (by decide +kernel)⟩
theorem lw_p74 : lw_okq (⟨"LeastTeachesModel", "findOdds", "(III)V"⟩, 41) := ⟨⟨by decide +kernel, by decide +kernel⟩, List.mem_of_getElem? (i := 779) (by decide +kernel), List.mem_of_getElem? (i := 1202) (by decide +kernel), List.mem_of_getElem? (i := 1203) (by decide +kernel)⟩
theorem lw_p75 : lw_okq (⟨"LeastTeachesModel", "partAll", "(II)V"⟩, 41) := ⟨⟨by decide +kernel, by decide +kernel⟩, List.mem_of_getElem? (i := 779) (by decide +kernel), List.mem_of_getElem? (i := 1207) (by decide +kernel), List.mem_of_getElem? (i := 1208) (by decide +kernel)⟩
theorem lw_p76 : lw_okq (⟨"LeastTeachesModel", "partRight", "(IZJ)V"⟩, 41) := ⟨⟨by decide +kernel, by decide +kernel⟩, List.mem_of_getElem? (i := 779) (by decide +kernel), List.mem_of_getElem? (i := 1211) (by decide +kernel), List.mem_of_getElem? (i := 1212) (by decide +kernel)⟩
theorem lw_p77 : lw_okq (⟨"LeastTeachesModel", "listSurer", "(I)V"⟩, 41) := ⟨⟨by decide +kernel, by decide +kernel⟩, List.mem_of_getElem? (i := 779) (by decide +kernel), List.mem_of_getElem? (i := 1215) (by decide +kernel), List.mem_of_getElem? (i := 1216) (by decide +kernel)⟩
theorem lw_p78 : lw_okq (⟨"LeastTeachesModel", "chanceOf", "(IZ)I"⟩, 41) := ⟨⟨by decide +kernel, by decide +kernel⟩, List.mem_of_getElem? (i := 779) (by decide +kernel), List.mem_of_getElem? (i := 1219) (by decide +kernel), List.mem_of_getElem? (i := 1220) (by decide +kernel)⟩
theorem lw_p79 : lw_okq (⟨"LeastTeachesModel", "partNo", "(IZIJ)V"⟩, 41) := ⟨⟨by decide +kernel, by decide +kernel⟩, List.mem_of_getElem? (i := 779) (by decide +kernel), List.mem_of_getElem? (i := 1223) (by decide +kernel), List.mem_of_getElem? (i := 1224) (by decide +kernel)⟩
def lw_privs_5 : List (MethodName × Nat) := [(⟨"LeastTeachesModel", "tellNow", "()I"⟩, 41), (⟨"LeastTeachesModel", "isSmall", "()Z"⟩, 41), (⟨"LeastTeachesModel", "fewestOf", "(IIZ)I"⟩, 41), (⟨"LeastTeachesModel", "spread", "(IZ)I"⟩, 41), (⟨"LeastTeachesModel", "goal", "(I)I"⟩, 41), (⟨"LeastTeachesModel", "stateNow", "(I)I"⟩, 41), (⟨"LeastTeachesModel", "next", "(IZII)I"⟩, 41), (⟨"LeastTeachesModel", "setState", "(II)V"⟩, 41), (⟨"LeastTeachesModel", "levelBehind", "(IIII)I"⟩, 41), (⟨"LeastTeachesModel", "findOrder", "()V"⟩, 41), (⟨"LeastTeachesModel", "findOdds", "(III)V"⟩, 41), (⟨"LeastTeachesModel", "partAll", "(II)V"⟩, 41), (⟨"LeastTeachesModel", "partRight", "(IZJ)V"⟩, 41), (⟨"LeastTeachesModel", "listSurer", "(I)V"⟩, 41), (⟨"LeastTeachesModel", "chanceOf", "(IZ)I"⟩, 41), (⟨"LeastTeachesModel", "partNo", "(IZIJ)V"⟩, 41)]
theorem lw_r5 : ∀ q ∈ lw_privs_5, lw_okq q := List.forall_mem_cons.mpr ⟨lw_p64, List.forall_mem_cons.mpr ⟨lw_p65, List.forall_mem_cons.mpr ⟨lw_p66, List.forall_mem_cons.mpr ⟨lw_p67, List.forall_mem_cons.mpr ⟨lw_p68, List.forall_mem_cons.mpr ⟨lw_p69, List.forall_mem_cons.mpr ⟨lw_p70, List.forall_mem_cons.mpr ⟨lw_p71, List.forall_mem_cons.mpr ⟨lw_p72, List.forall_mem_cons.mpr ⟨lw_p73, List.forall_mem_cons.mpr ⟨lw_p74, List.forall_mem_cons.mpr ⟨lw_p75, List.forall_mem_cons.mpr ⟨lw_p76, List.forall_mem_cons.mpr ⟨lw_p77, List.forall_mem_cons.mpr ⟨lw_p78, List.forall_mem_cons.mpr ⟨lw_p79, fun _ h => absurd h List.not_mem_nil⟩⟩⟩⟩⟩⟩⟩⟩⟩⟩⟩⟩⟩⟩⟩⟩
theorem lw_p80 : lw_okq (⟨"LeastTeachesModel", "asNow", "()V"⟩, 41) := ⟨⟨by decide +kernel, by decide +kernel⟩, List.mem_of_getElem? (i := 779) (by decide +kernel), List.mem_of_getElem? (i := 1227) (by decide +kernel), List.mem_of_getElem? (i := 1228) (by decide +kernel)⟩
theorem lw_p81 : lw_okq (⟨"LeastTeachesModel", "come", "(J)V"⟩, 41) := ⟨⟨by decide +kernel, by decide +kernel⟩, List.mem_of_getElem? (i := 779) (by decide +kernel), List.mem_of_getElem? (i := 1231) (by decide +kernel), List.mem_of_getElem? (i := 1232) (by decide +kernel)⟩
theorem lw_p82 : lw_okq (⟨"LeastTeachesModel", "partBelief", "(IJ)V"⟩, 41) := ⟨⟨by decide +kernel, by decide +kernel⟩, List.mem_of_getElem? (i := 779) (by decide +kernel), List.mem_of_getElem? (i := 1235) (by decide +kernel), List.mem_of_getElem? (i := 1236) (by decide +kernel)⟩
theorem lw_p83 : lw_okq (⟨"LeastTeachesModel", "firstWrong", "()I"⟩, 41) := ⟨⟨by decide +kernel, by decide +kernel⟩, List.mem_of_getElem? (i := 779) (by decide +kernel), List.mem_of_getElem? (i := 1251) (by decide +kernel), List.mem_of_getElem? (i := 1252) (by decide +kernel)⟩
def lw_privs_6 : List (MethodName × Nat) := [(⟨"LeastTeachesModel", "asNow", "()V"⟩, 41), (⟨"LeastTeachesModel", "come", "(J)V"⟩, 41), (⟨"LeastTeachesModel", "partBelief", "(IJ)V"⟩, 41), (⟨"LeastTeachesModel", "firstWrong", "()I"⟩, 41)]
theorem lw_r6 : ∀ q ∈ lw_privs_6, lw_okq q := List.forall_mem_cons.mpr ⟨lw_p80, List.forall_mem_cons.mpr ⟨lw_p81, List.forall_mem_cons.mpr ⟨lw_p82, List.forall_mem_cons.mpr ⟨lw_p83, fun _ h => absurd h List.not_mem_nil⟩⟩⟩⟩
def lw_privs : List (MethodName × Nat) := lw_privs_1 ++ (lw_privs_2 ++ (lw_privs_3 ++ (lw_privs_4 ++ (lw_privs_5 ++ (lw_privs_6)))))
def lw_tbl : List Cond := k2_sels lw_privs ++ tables_1
theorem lw_privs_ok : ∀ q ∈ lw_privs, lw_okq q := by
  show ∀ q ∈ lw_privs_1 ++ (lw_privs_2 ++ (lw_privs_3 ++ (lw_privs_4 ++ (lw_privs_5 ++ (lw_privs_6))))), lw_okq q
  exact List.forall_mem_append.mpr ⟨lw_r1, List.forall_mem_append.mpr ⟨lw_r2, List.forall_mem_append.mpr ⟨lw_r3, List.forall_mem_append.mpr ⟨lw_r4, List.forall_mem_append.mpr ⟨lw_r5, lw_r6⟩⟩⟩⟩⟩
-- ===== end of PART A; then your names; then what follows =====
end
section
def RX0 : String := "LeastTeaches$Bench"
def TX0 : u_T := fun k => match k with
  | 0 => ("LeastTeaches$Bench", "size", "I", false)
  | 1 => ("LeastTeaches$Bench", "set", "I", false)
  | 2 => ("LeastTeaches$Bench", "visited", "Z", false)
  | 3 => ("LeastTeaches$Bench", "drawnFrom", "I", false)
  | 4 => ("LeastTeaches$Bench", "who", "[I", true)
  | 5 => ("LeastTeaches$Bench", "at", "[I", true)
  | 6 => ("LeastTeaches$Bench", "top", "[I", true)
  | 7 => ("LeastTeaches$Bench", "quick", "[I", true)
  | 8 => ("LeastTeaches$Bench", "belief", "[I", true)
  | 9 => ("LeastTeaches$Bench", "pride", "[I", true)
  | _ => ("LeastTeaches$Bench", "saidNo", "[Z", true)
def tyX0 : Nat → FieldType := fun k => match k with
  | 0 => .int
  | 1 => .int
  | 2 => .boolean
  | 3 => .int
  | 4 => .array .int
  | 5 => .array .int
  | 6 => .array .int
  | 7 => .array .int
  | 8 => .array .int
  | 9 => .array .int
  | _ => .array .boolean
abbrev wsX00 : List Cond := u_ws RX0 TX0 11
theorem nmX0 : ∀ a, a < 11 → ∀ b, b < 11 → a ≠ b → (TX0 a).2.1 ≠ (TX0 b).2.1 := by decide +kernel
theorem tyX0_ok : ∀ k, k < 11 → parseFieldDescriptor (TX0 k).2.2.1 = some (tyX0 k) := by decide +kernel
abbrev cX0_init : ByteArray := prog_2_method_1_code
def yX0_init : MethodName := ⟨RX0, "<init>", "()V"⟩
abbrev cX0_sit : ByteArray := prog_2_method_2_code
def yX0_sit : MethodName := ⟨RX0, "sit", "(LLeastTeaches$School;LLeastTeaches$Standing;II)V"⟩
abbrev cX0_leave : ByteArray := prog_2_method_3_code
def yX0_leave : MethodName := ⟨RX0, "leave", "(LLeastTeaches$Standing;I)V"⟩
abbrev cX0_code : ByteArray := prog_2_method_4_code
def yX0_code : MethodName := ⟨RX0, "code", "()I"⟩
abbrev cX0_setLevels : ByteArray := prog_2_method_5_code
def yX0_setLevels : MethodName := ⟨RX0, "setLevels", "(I)V"⟩
abbrev cX0_room : ByteArray := prog_2_method_6_code
def yX0_room : MethodName := ⟨RX0, "room", "(I)I"⟩
abbrev cX0_rise : ByteArray := prog_2_method_7_code
def yX0_rise : MethodName := ⟨RX0, "rise", "(II)V"⟩
abbrev cX0_knowing : ByteArray := prog_2_method_8_code
def yX0_knowing : MethodName := ⟨RX0, "knowing", "()I"⟩
abbrev cX0_isBarred : ByteArray := prog_2_method_9_code
def yX0_isBarred : MethodName := ⟨RX0, "isBarred", "()Z"⟩
abbrev cX0_after : ByteArray := prog_2_method_10_code
def yX0_after : MethodName := ⟨RX0, "after", "(I)I"⟩
abbrev cX0_chosen : ByteArray := prog_2_method_11_code
def yX0_chosen : MethodName := ⟨RX0, "chosen", "(II)I"⟩
abbrev cX0_least : ByteArray := prog_2_method_12_code
def yX0_least : MethodName := ⟨RX0, "least", "(II)I"⟩
abbrev cX0_greatestBelow : ByteArray := prog_2_method_13_code
def yX0_greatestBelow : MethodName := ⟨RX0, "greatestBelow", "(I)I"⟩
abbrev cX0_tell : ByteArray := prog_2_method_14_code
def yX0_tell : MethodName := ⟨RX0, "tell", "()I"⟩
abbrev cX0_rightChance : ByteArray := prog_2_method_15_code
def yX0_rightChance : MethodName := ⟨RX0, "rightChance", "(I)I"⟩
abbrev cX0_isSurer : ByteArray := prog_2_method_16_code
def yX0_isSurer : MethodName := ⟨RX0, "isSurer", "(II)Z"⟩
abbrev cX0_isGuestSurer : ByteArray := prog_2_method_17_code
def yX0_isGuestSurer : MethodName := ⟨RX0, "isGuestSurer", "(I)Z"⟩
abbrev cX0_noChance : ByteArray := prog_2_method_18_code
def yX0_noChance : MethodName := ⟨RX0, "noChance", "(IZ)I"⟩
abbrev cX0_mayBelieve : ByteArray := prog_2_method_19_code
def yX0_mayBelieve : MethodName := ⟨RX0, "mayBelieve", "(II)Z"⟩
abbrev cX0_comes : ByteArray := prog_2_method_20_code
def yX0_comes : MethodName := ⟨RX0, "comes", "(IZ)Z"⟩
abbrev cX0_hold : ByteArray := prog_2_method_21_code
def yX0_hold : MethodName := ⟨RX0, "hold", "(IZ)I"⟩
abbrev cX0_endCorrected : ByteArray := prog_2_method_22_code
def yX0_endCorrected : MethodName := ⟨RX0, "endCorrected", "(I)I"⟩
abbrev cX0_endMisled : ByteArray := prog_2_method_23_code
def yX0_endMisled : MethodName := ⟨RX0, "endMisled", "(IZ)I"⟩
abbrev cX0_endShaken : ByteArray := prog_2_method_24_code
def yX0_endShaken : MethodName := ⟨RX0, "endShaken", "(IZ)I"⟩
abbrev cX0_endAgreed : ByteArray := prog_2_method_25_code
def yX0_endAgreed : MethodName := ⟨RX0, "endAgreed", "(I)I"⟩
abbrev cX0_someNo : ByteArray := prog_2_method_26_code
def yX0_someNo : MethodName := ⟨RX0, "someNo", "(IZ)I"⟩
abbrev cX0_mean : ByteArray := prog_2_method_27_code
def yX0_mean : MethodName := ⟨RX0, "mean", "(I)I"⟩
abbrev cX0_share : ByteArray := prog_2_method_28_code
def yX0_share : MethodName := ⟨RX0, "share", "(JII)J"⟩
def RX1 : String := "LeastTeaches$Odds"
def TX1 : u_T := fun k => match k with
  | 0 => ("LeastTeaches$Odds", "here", "[J", false)
  | 1 => ("LeastTeaches$Odds", "next", "[J", false)
  | 2 => ("LeastTeaches$Odds", "parts", "[J", true)
  | 3 => ("LeastTeaches$Odds", "partCount", "I", false)
  | 4 => ("LeastTeaches$Odds", "splitBy", "[I", true)
  | _ => ("LeastTeaches$Odds", "splits", "I", false)
def tyX1 : Nat → FieldType := fun k => match k with
  | 0 => .array .long
  | 1 => .array .long
  | 2 => .array .long
  | 3 => .int
  | 4 => .array .int
  | _ => .int
abbrev wsX10 : List Cond := u_ws RX1 TX1 6
theorem nmX1 : ∀ a, a < 6 → ∀ b, b < 6 → a ≠ b → (TX1 a).2.1 ≠ (TX1 b).2.1 := by decide +kernel
theorem tyX1_ok : ∀ k, k < 6 → parseFieldDescriptor (TX1 k).2.2.1 = some (tyX1 k) := by decide +kernel
abbrev cX1_init : ByteArray := prog_3_method_1_code
def yX1_init : MethodName := ⟨RX1, "<init>", "()V"⟩
abbrev cX1_follow : ByteArray := prog_3_method_2_code
def yX1_follow : MethodName := ⟨RX1, "follow", "(LLeastTeaches$Bench;III)V"⟩
abbrev cX1_teach : ByteArray := prog_3_method_3_code
def yX1_teach : MethodName := ⟨RX1, "teach", "(LLeastTeaches$Bench;II)V"⟩
abbrev cX1_begin : ByteArray := prog_3_method_4_code
def yX1_begin : MethodName := ⟨RX1, "begin", "(J)V"⟩
abbrev cX1_split : ByteArray := prog_3_method_5_code
def yX1_split : MethodName := ⟨RX1, "split", "(II)V"⟩
abbrev cX1_partByNo : ByteArray := prog_3_method_6_code
def yX1_partByNo : MethodName := ⟨RX1, "partByNo", "(LLeastTeaches$Bench;IJZ)V"⟩
abbrev cX1_endRight : ByteArray := prog_3_method_7_code
def yX1_endRight : MethodName := ⟨RX1, "endRight", "(LLeastTeaches$Bench;II)V"⟩
abbrev cX1_endWrong : ByteArray := prog_3_method_8_code
def yX1_endWrong : MethodName := ⟨RX1, "endWrong", "(LLeastTeaches$Bench;II)V"⟩
abbrev cX1_endMisled : ByteArray := prog_3_method_9_code
def yX1_endMisled : MethodName := ⟨RX1, "endMisled", "(LLeastTeaches$Bench;II)V"⟩
abbrev cX1_thatAllKnow : ByteArray := prog_3_method_10_code
def yX1_thatAllKnow : MethodName := ⟨RX1, "thatAllKnow", "(I)I"⟩
abbrev cX1_thatNobodyKnows : ByteArray := prog_3_method_11_code
def yX1_thatNobodyKnows : MethodName := ⟨RX1, "thatNobodyKnows", "(I)I"⟩
abbrev cX1_meanLevel : ByteArray := prog_3_method_12_code
def yX1_meanLevel : MethodName := ⟨RX1, "meanLevel", "(II)I"⟩
def RX2 : String := "LeastTeaches$Reader"
def TX2 : u_T := fun k => match k with
  | 0 => ("LeastTeaches$Reader", "text", "[B", true)
  | 1 => ("LeastTeaches$Reader", "length", "I", false)
  | 2 => ("LeastTeaches$Reader", "faultAt", "I", false)
  | 3 => ("LeastTeaches$Reader", "faultNumber", "I", false)
  | 4 => ("LeastTeaches$Reader", "school", "LLeastTeaches$School;", false)
  | 5 => ("LeastTeaches$Reader", "place", "I", false)
  | 6 => ("LeastTeaches$Reader", "start", "I", false)
  | _ => ("LeastTeaches$Reader", "kind", "I", false)
def tyX2 : Nat → FieldType := fun k => match k with
  | 0 => .array .byte
  | 1 => .int
  | 2 => .int
  | 3 => .int
  | 4 => .object "LeastTeaches$School"
  | 5 => .int
  | 6 => .int
  | _ => .int
abbrev wsX20 : List Cond := u_ws RX2 TX2 8
theorem nmX2 : ∀ a, a < 8 → ∀ b, b < 8 → a ≠ b → (TX2 a).2.1 ≠ (TX2 b).2.1 := by decide +kernel
theorem tyX2_ok : ∀ k, k < 8 → parseFieldDescriptor (TX2 k).2.2.1 = some (tyX2 k) := by decide +kernel
abbrev cX2_init : ByteArray := prog_4_method_1_code
def yX2_init : MethodName := ⟨RX2, "<init>", "()V"⟩
abbrev cX2_add : ByteArray := prog_4_method_2_code
def yX2_add : MethodName := ⟨RX2, "add", "(I)V"⟩
abbrev cX2_read : ByteArray := prog_4_method_3_code
def yX2_read : MethodName := ⟨RX2, "read", "(LLeastTeaches$School;)I"⟩
abbrev cX2_readThing : ByteArray := prog_4_method_4_code
def yX2_readThing : MethodName := ⟨RX2, "readThing", "()V"⟩
abbrev cX2_readLeaning : ByteArray := prog_4_method_5_code
def yX2_readLeaning : MethodName := ⟨RX2, "readLeaning", "()I"⟩
abbrev cX2_readPupil : ByteArray := prog_4_method_6_code
def yX2_readPupil : MethodName := ⟨RX2, "readPupil", "()V"⟩
abbrev cX2_takeNumber : ByteArray := prog_4_method_7_code
def yX2_takeNumber : MethodName := ⟨RX2, "takeNumber", "(II)I"⟩
abbrev cX2_takeSign : ByteArray := prog_4_method_8_code
def yX2_takeSign : MethodName := ⟨RX2, "takeSign", "(I)V"⟩
abbrev cX2_isSign : ByteArray := prog_4_method_9_code
def yX2_isSign : MethodName := ⟨RX2, "isSign", "(I)Z"⟩
abbrev cX2_isWord : ByteArray := prog_4_method_10_code
def yX2_isWord : MethodName := ⟨RX2, "isWord", "(Ljava/lang/String;)Z"⟩
abbrev cX2_refuse : ByteArray := prog_4_method_11_code
def yX2_refuse : MethodName := ⟨RX2, "refuse", "(II)V"⟩
abbrev cX2_advance : ByteArray := prog_4_method_12_code
def yX2_advance : MethodName := ⟨RX2, "advance", "()V"⟩
abbrev cX2_kindAt : ByteArray := prog_4_method_13_code
def yX2_kindAt : MethodName := ⟨RX2, "kindAt", "(I)I"⟩
def RX3 : String := "LeastTeaches$School"
def TX3 : u_T := fun k => match k with
  | 0 => ("LeastTeaches$School", "things", "I", false)
  | 1 => ("LeastTeaches$School", "pupils", "I", false)
  | 2 => ("LeastTeaches$School", "leaning", "[I", true)
  | 3 => ("LeastTeaches$School", "quick", "[I", true)
  | 4 => ("LeastTeaches$School", "belief", "[I", true)
  | 5 => ("LeastTeaches$School", "pride", "[I", true)
  | _ => ("LeastTeaches$School", "first", "[I", true)
def tyX3 : Nat → FieldType := fun k => match k with
  | 0 => .int
  | 1 => .int
  | 2 => .array .int
  | 3 => .array .int
  | 4 => .array .int
  | 5 => .array .int
  | _ => .array .int
abbrev wsX30 : List Cond := u_ws RX3 TX3 7
theorem nmX3 : ∀ a, a < 7 → ∀ b, b < 7 → a ≠ b → (TX3 a).2.1 ≠ (TX3 b).2.1 := by decide +kernel
theorem tyX3_ok : ∀ k, k < 7 → parseFieldDescriptor (TX3 k).2.2.1 = some (tyX3 k) := by decide +kernel
abbrev cX3_init : ByteArray := prog_5_method_1_code
def yX3_init : MethodName := ⟨RX3, "<init>", "()V"⟩
abbrev cX3_topOf : ByteArray := prog_5_method_2_code
def yX3_topOf : MethodName := ⟨RX3, "topOf", "([III)I"⟩
def RX4 : String := "LeastTeaches$Search"
def TX4 : u_T := fun k => match k with
  | 0 => ("LeastTeaches$Search", "far", "[I", true)
  | _ => ("LeastTeaches$Search", "ofSet", "I", false)
def tyX4 : Nat → FieldType := fun k => match k with
  | 0 => .array .int
  | _ => .int
abbrev wsX40 : List Cond := u_ws RX4 TX4 2
theorem nmX4 : ∀ a, a < 2 → ∀ b, b < 2 → a ≠ b → (TX4 a).2.1 ≠ (TX4 b).2.1 := by decide +kernel
theorem tyX4_ok : ∀ k, k < 2 → parseFieldDescriptor (TX4 k).2.2.1 = some (tyX4 k) := by decide +kernel
abbrev cX4_init : ByteArray := prog_6_method_1_code
def yX4_init : MethodName := ⟨RX4, "<init>", "()V"⟩
abbrev cX4_forget : ByteArray := prog_6_method_2_code
def yX4_forget : MethodName := ⟨RX4, "forget", "()V"⟩
abbrev cX4_lessonsFrom : ByteArray := prog_6_method_3_code
def yX4_lessonsFrom : MethodName := ⟨RX4, "lessonsFrom", "(LLeastTeaches$Bench;)I"⟩
abbrev cX4_look : ByteArray := prog_6_method_4_code
def yX4_look : MethodName := ⟨RX4, "look", "(LLeastTeaches$Bench;II)I"⟩
abbrev cX4_standsUp : ByteArray := prog_6_method_5_code
def yX4_standsUp : MethodName := ⟨RX4, "standsUp", "(LLeastTeaches$Bench;I)I"⟩
def RX5 : String := "LeastTeaches$Standing"
def TX5 : u_T := fun k => match k with
  | 0 => ("LeastTeaches$Standing", "levels", "[I", true)
  | 1 => ("LeastTeaches$Standing", "visited", "Z", false)
  | 2 => ("LeastTeaches$Standing", "drawnFrom", "I", false)
  | _ => ("LeastTeaches$Standing", "turn", "I", false)
def tyX5 : Nat → FieldType := fun k => match k with
  | 0 => .array .int
  | 1 => .boolean
  | 2 => .int
  | _ => .int
abbrev wsX50 : List Cond := u_ws RX5 TX5 4
theorem nmX5 : ∀ a, a < 4 → ∀ b, b < 4 → a ≠ b → (TX5 a).2.1 ≠ (TX5 b).2.1 := by decide +kernel
theorem tyX5_ok : ∀ k, k < 4 → parseFieldDescriptor (TX5 k).2.2.1 = some (tyX5 k) := by decide +kernel
abbrev cX5_init : ByteArray := prog_7_method_1_code
def yX5_init : MethodName := ⟨RX5, "<init>", "()V"⟩
abbrev cX5_begin : ByteArray := prog_7_method_2_code
def yX5_begin : MethodName := ⟨RX5, "begin", "([I)V"⟩
abbrev cX5_take : ByteArray := prog_7_method_3_code
def yX5_take : MethodName := ⟨RX5, "take", "(LLeastTeaches$Standing;)V"⟩
def RX6 : String := "LeastTeaches"
def TX6 : u_T := fun k => match k with
  | 0 => ("LeastTeaches", "reader", "LLeastTeaches$Reader;", true)
  | 1 => ("LeastTeaches", "told", "LLeastTeaches$School;", false)
  | 2 => ("LeastTeaches", "draft", "LLeastTeaches$School;", false)
  | 3 => ("LeastTeaches", "now", "LLeastTeaches$Standing;", true)
  | 4 => ("LeastTeaches", "tried", "LLeastTeaches$Standing;", true)
  | 5 => ("LeastTeaches", "image0", "LLeastTeaches$Standing;", true)
  | 6 => ("LeastTeaches", "image1", "LLeastTeaches$Standing;", true)
  | 7 => ("LeastTeaches", "keptSet", "I", false)
  | 8 => ("LeastTeaches", "logged", "[I", true)
  | 9 => ("LeastTeaches", "logSize", "I", false)
  | 10 => ("LeastTeaches", "orderRow", "[I", true)
  | 11 => ("LeastTeaches", "bench", "LLeastTeaches$Bench;", true)
  | 12 => ("LeastTeaches", "odds", "LLeastTeaches$Odds;", true)
  | 13 => ("LeastTeaches", "alone", "LLeastTeaches$Search;", true)
  | 14 => ("LeastTeaches", "withGuest", "LLeastTeaches$Search;", true)
  | _ => ("LeastTeaches", "parted", "LLeastTeaches$Search;", true)
def tyX6 : Nat → FieldType := fun k => match k with
  | 0 => .object "LeastTeaches$Reader"
  | 1 => .object "LeastTeaches$School"
  | 2 => .object "LeastTeaches$School"
  | 3 => .object "LeastTeaches$Standing"
  | 4 => .object "LeastTeaches$Standing"
  | 5 => .object "LeastTeaches$Standing"
  | 6 => .object "LeastTeaches$Standing"
  | 7 => .int
  | 8 => .array .int
  | 9 => .int
  | 10 => .array .int
  | 11 => .object "LeastTeaches$Bench"
  | 12 => .object "LeastTeaches$Odds"
  | 13 => .object "LeastTeaches$Search"
  | 14 => .object "LeastTeaches$Search"
  | _ => .object "LeastTeaches$Search"
abbrev wsX60 : List Cond := u_ws RX6 TX6 16
theorem nmX6 : ∀ a, a < 16 → ∀ b, b < 16 → a ≠ b → (TX6 a).2.1 ≠ (TX6 b).2.1 := by decide +kernel
theorem tyX6_ok : ∀ k, k < 16 → parseFieldDescriptor (TX6 k).2.2.1 = some (tyX6 k) := by decide +kernel
abbrev cX6_init : ByteArray := prog_1_method_1_code
def yX6_init : MethodName := ⟨RX6, "<init>", "()V"⟩
abbrev cX6_feed : ByteArray := prog_1_method_2_code
def yX6_feed : MethodName := ⟨RX6, "feed", "(IJ)I"⟩
abbrev cX6_school : ByteArray := prog_1_method_3_code
def yX6_school : MethodName := ⟨RX6, "school", "()I"⟩
abbrev cX6_fault : ByteArray := prog_1_method_4_code
def yX6_fault : MethodName := ⟨RX6, "fault", "()I"⟩
abbrev cX6_count : ByteArray := prog_1_method_5_code
def yX6_count : MethodName := ⟨RX6, "count", "(I)I"⟩
abbrev cX6_pupil : ByteArray := prog_1_method_6_code
def yX6_pupil : MethodName := ⟨RX6, "pupil", "(II)I"⟩
abbrev cX6_leans : ByteArray := prog_1_method_7_code
def yX6_leans : MethodName := ⟨RX6, "leans", "(I)I"⟩
abbrev cX6_level : ByteArray := prog_1_method_8_code
def yX6_level : MethodName := ⟨RX6, "level", "(II)I"⟩
abbrev cX6_rises : ByteArray := prog_1_method_9_code
def yX6_rises : MethodName := ⟨RX6, "rises", "(II)I"⟩
abbrev cX6_guest : ByteArray := prog_1_method_10_code
def yX6_guest : MethodName := ⟨RX6, "guest", "(Z)I"⟩
abbrev cX6_lesson : ByteArray := prog_1_method_11_code
def yX6_lesson : MethodName := ⟨RX6, "lesson", "(IIZ)I"⟩
abbrev cX6_exact : ByteArray := prog_1_method_12_code
def yX6_exact : MethodName := ⟨RX6, "exact", "(III)I"⟩
abbrev cX6_behind : ByteArray := prog_1_method_13_code
def yX6_behind : MethodName := ⟨RX6, "behind", "(IIII)I"⟩
abbrev cX6_up : ByteArray := prog_1_method_14_code
def yX6_up : MethodName := ⟨RX6, "up", "(II)I"⟩
abbrev cX6_run : ByteArray := prog_1_method_15_code
def yX6_run : MethodName := ⟨RX6, "run", "(IIIZ)I"⟩
abbrev cX6_master : ByteArray := prog_1_method_16_code
def yX6_master : MethodName := ⟨RX6, "master", "(I)I"⟩
abbrev cX6_summer : ByteArray := prog_1_method_17_code
def yX6_summer : MethodName := ⟨RX6, "summer", "(I)I"⟩
abbrev cX6_hours : ByteArray := prog_1_method_18_code
def yX6_hours : MethodName := ⟨RX6, "hours", "(II)I"⟩
abbrev cX6_fewest : ByteArray := prog_1_method_19_code
def yX6_fewest : MethodName := ⟨RX6, "fewest", "(I)I"⟩
abbrev cX6_row : ByteArray := prog_1_method_20_code
def yX6_row : MethodName := ⟨RX6, "row", "(II)I"⟩
abbrev cX6_stuck : ByteArray := prog_1_method_21_code
def yX6_stuck : MethodName := ⟨RX6, "stuck", "(I)I"⟩
abbrev cX6_worth : ByteArray := prog_1_method_22_code
def yX6_worth : MethodName := ⟨RX6, "worth", "(I)I"⟩
abbrev cX6_mastered : ByteArray := prog_1_method_23_code
def yX6_mastered : MethodName := ⟨RX6, "mastered", "(I)I"⟩
abbrev cX6_pays : ByteArray := prog_1_method_24_code
def yX6_pays : MethodName := ⟨RX6, "pays", "(IIII)I"⟩
abbrev cX6_order : ByteArray := prog_1_method_25_code
def yX6_order : MethodName := ⟨RX6, "order", "(I)I"⟩
abbrev cX6_classes : ByteArray := prog_1_method_26_code
def yX6_classes : MethodName := ⟨RX6, "classes", "(II)I"⟩
abbrev cX6_log : ByteArray := prog_1_method_27_code
def yX6_log : MethodName := ⟨RX6, "log", "(II)I"⟩
abbrev cX6_clear : ByteArray := prog_1_method_28_code
def yX6_clear : MethodName := ⟨RX6, "clear", "()I"⟩
abbrev cX6_judge : ByteArray := prog_1_method_29_code
def yX6_judge : MethodName := ⟨RX6, "judge", "()I"⟩
abbrev cX6_seed : ByteArray := prog_1_method_30_code
def yX6_seed : MethodName := ⟨RX6, "seed", "(I)I"⟩
abbrev cX6_keep : ByteArray := prog_1_method_31_code
def yX6_keep : MethodName := ⟨RX6, "keep", "(I)I"⟩
abbrev cX6_goBack : ByteArray := prog_1_method_32_code
def yX6_goBack : MethodName := ⟨RX6, "goBack", "(I)I"⟩
abbrev cX6_isPupil : ByteArray := prog_1_method_33_code
def yX6_isPupil : MethodName := ⟨RX6, "isPupil", "(I)Z"⟩
abbrev cX6_isThing : ByteArray := prog_1_method_34_code
def yX6_isThing : MethodName := ⟨RX6, "isThing", "(I)Z"⟩
abbrev cX6_isRule : ByteArray := prog_1_method_35_code
def yX6_isRule : MethodName := ⟨RX6, "isRule", "(I)Z"⟩
abbrev cX6_knownThings : ByteArray := prog_1_method_36_code
def yX6_knownThings : MethodName := ⟨RX6, "knownThings", "(I)I"⟩
abbrev cX6_allLevels : ByteArray := prog_1_method_37_code
def yX6_allLevels : MethodName := ⟨RX6, "allLevels", "(I)I"⟩
abbrev cX6_imageOf : ByteArray := prog_1_method_38_code
def yX6_imageOf : MethodName := ⟨RX6, "imageOf", "(I)LLeastTeaches$Standing;"⟩
abbrev cX6_searchFor : ByteArray := prog_1_method_39_code
def yX6_searchFor : MethodName := ⟨RX6, "searchFor", "(Z)LLeastTeaches$Search;"⟩
abbrev cX6_sitAll : ByteArray := prog_1_method_40_code
def yX6_sitAll : MethodName := ⟨RX6, "sitAll", "(I)V"⟩
abbrev cX6_fewestOfAll : ByteArray := prog_1_method_41_code
def yX6_fewestOfAll : MethodName := ⟨RX6, "fewestOfAll", "(LLeastTeaches$Standing;IZ)I"⟩
abbrev cX6_fewestOfPart : ByteArray := prog_1_method_42_code
def yX6_fewestOfPart : MethodName := ⟨RX6, "fewestOfPart", "(II)I"⟩
abbrev cX6_levelBehind : ByteArray := prog_1_method_43_code
def yX6_levelBehind : MethodName := ⟨RX6, "levelBehind", "(IIII)I"⟩
abbrev cX6_findOrder : ByteArray := prog_1_method_44_code
def yX6_findOrder : MethodName := ⟨RX6, "findOrder", "()I"⟩
abbrev cX6_leastOpen : ByteArray := prog_1_method_45_code
def yX6_leastOpen : MethodName := ⟨RX6, "leastOpen", "(I)I"⟩
def RX7 : String := "LeastTeachesModel"
def TX7 : u_T := fun k => match k with
  | 0 => ("LeastTeachesModel", "things", "I", false)
  | 1 => ("LeastTeachesModel", "pupils", "I", false)
  | 2 => ("LeastTeachesModel", "leansOn", "[I", true)
  | 3 => ("LeastTeachesModel", "people", "[I", true)
  | 4 => ("LeastTeachesModel", "levels", "[I", true)
  | 5 => ("LeastTeachesModel", "hasGuest", "Z", false)
  | 6 => ("LeastTeachesModel", "turn", "I", false)
  | 7 => ("LeastTeachesModel", "text", "[I", true)
  | 8 => ("LeastTeachesModel", "texted", "I", false)
  | 9 => ("LeastTeachesModel", "faultPlace", "I", false)
  | 10 => ("LeastTeachesModel", "at0", "I", false)
  | 11 => ("LeastTeachesModel", "said", "J", false)
  | 12 => ("LeastTeachesModel", "wordEnd", "I", false)
  | 13 => ("LeastTeachesModel", "number", "I", false)
  | 14 => ("LeastTeachesModel", "numberAt", "I", false)
  | 15 => ("LeastTeachesModel", "readThings", "I", false)
  | 16 => ("LeastTeachesModel", "readPupils", "I", false)
  | 17 => ("LeastTeachesModel", "readLeans", "[I", true)
  | 18 => ("LeastTeachesModel", "readPeople", "[I", true)
  | 19 => ("LeastTeachesModel", "readLevels", "[I", true)
  | 20 => ("LeastTeachesModel", "now", "[I", true)
  | 21 => ("LeastTeachesModel", "cap", "[I", true)
  | 22 => ("LeastTeachesModel", "then", "[I", true)
  | 23 => ("LeastTeachesModel", "seed", "I", false)
  | 24 => ("LeastTeachesModel", "place", "[I", true)
  | 25 => ("LeastTeachesModel", "line", "[I", true)
  | 26 => ("LeastTeachesModel", "far", "[I", true)
  | 27 => ("LeastTeachesModel", "leads", "[Z", true)
  | 28 => ("LeastTeachesModel", "lined", "I", false)
  | 29 => ("LeastTeachesModel", "takes", "[I", true)
  | 30 => ("LeastTeachesModel", "rest", "[I", true)
  | 31 => ("LeastTeachesModel", "odds", "[J", true)
  | 32 => ("LeastTeachesModel", "comes", "[J", true)
  | 33 => ("LeastTeachesModel", "listed", "[I", true)
  | 34 => ("LeastTeachesModel", "many", "I", false)
  | 35 => ("LeastTeachesModel", "logged", "I", false)
  | 36 => ("LeastTeachesModel", "logWho", "[I", true)
  | 37 => ("LeastTeachesModel", "logThing", "[I", true)
  | 38 => ("LeastTeachesModel", "wereLevels", "[I", true)
  | 39 => ("LeastTeachesModel", "images", "[I", true)
  | _ => ("LeastTeachesModel", "isKept", "[Z", true)
def tyX7 : Nat → FieldType := fun k => match k with
  | 0 => .int
  | 1 => .int
  | 2 => .array .int
  | 3 => .array .int
  | 4 => .array .int
  | 5 => .boolean
  | 6 => .int
  | 7 => .array .int
  | 8 => .int
  | 9 => .int
  | 10 => .int
  | 11 => .long
  | 12 => .int
  | 13 => .int
  | 14 => .int
  | 15 => .int
  | 16 => .int
  | 17 => .array .int
  | 18 => .array .int
  | 19 => .array .int
  | 20 => .array .int
  | 21 => .array .int
  | 22 => .array .int
  | 23 => .int
  | 24 => .array .int
  | 25 => .array .int
  | 26 => .array .int
  | 27 => .array .boolean
  | 28 => .int
  | 29 => .array .int
  | 30 => .array .int
  | 31 => .array .long
  | 32 => .array .long
  | 33 => .array .int
  | 34 => .int
  | 35 => .int
  | 36 => .array .int
  | 37 => .array .int
  | 38 => .array .int
  | 39 => .array .int
  | _ => .array .boolean
abbrev wsX70 : List Cond := u_ws RX7 TX7 41
theorem nmX7 : ∀ a, a < 41 → ∀ b, b < 41 → a ≠ b → (TX7 a).2.1 ≠ (TX7 b).2.1 := by decide +kernel
theorem tyX7_ok : ∀ k, k < 41 → parseFieldDescriptor (TX7 k).2.2.1 = some (tyX7 k) := by decide +kernel
abbrev cX7_init : ByteArray := prog_9_method_1_code
def yX7_init : MethodName := ⟨RX7, "<init>", "()V"⟩
abbrev cX7_in : ByteArray := prog_9_method_3_code
def yX7_in : MethodName := ⟨RX7, "in", "(JJJ)Z"⟩
abbrev cX7_has : ByteArray := prog_9_method_4_code
def yX7_has : MethodName := ⟨RX7, "has", "(II)Z"⟩
abbrev cX7_isThing : ByteArray := prog_9_method_5_code
def yX7_isThing : MethodName := ⟨RX7, "isThing", "(I)Z"⟩
abbrev cX7_isPupil : ByteArray := prog_9_method_6_code
def yX7_isPupil : MethodName := ⟨RX7, "isPupil", "(I)Z"⟩
abbrev cX7_feed : ByteArray := prog_9_method_7_code
def yX7_feed : MethodName := ⟨RX7, "feed", "(IJ)I"⟩
abbrev cX7_here : ByteArray := prog_9_method_8_code
def yX7_here : MethodName := ⟨RX7, "here", "()I"⟩
abbrev cX7_fails : ByteArray := prog_9_method_9_code
def yX7_fails : MethodName := ⟨RX7, "fails", "(II)I"⟩
abbrev cX7_readWord : ByteArray := prog_9_method_10_code
def yX7_readWord : MethodName := ⟨RX7, "readWord", "()V"⟩
abbrev cX7_code : ByteArray := prog_9_method_11_code
def yX7_code : MethodName := ⟨RX7, "code", "(IIIII)J"⟩
abbrev cX7_takeNumber : ByteArray := prog_9_method_12_code
def yX7_takeNumber : MethodName := ⟨RX7, "takeNumber", "(II)I"⟩
abbrev cX7_isComma : ByteArray := prog_9_method_13_code
def yX7_isComma : MethodName := ⟨RX7, "isComma", "()Z"⟩
abbrev cX7_takeThing : ByteArray := prog_9_method_14_code
def yX7_takeThing : MethodName := ⟨RX7, "takeThing", "()I"⟩
abbrev cX7_takePupil : ByteArray := prog_9_method_15_code
def yX7_takePupil : MethodName := ⟨RX7, "takePupil", "()I"⟩
abbrev cX7_takeClause : ByteArray := prog_9_method_16_code
def yX7_takeClause : MethodName := ⟨RX7, "takeClause", "()I"⟩
abbrev cX7_school : ByteArray := prog_9_method_17_code
def yX7_school : MethodName := ⟨RX7, "school", "()I"⟩
abbrev cX7_fault : ByteArray := prog_9_method_18_code
def yX7_fault : MethodName := ⟨RX7, "fault", "()I"⟩
abbrev cX7_count : ByteArray := prog_9_method_19_code
def yX7_count : MethodName := ⟨RX7, "count", "(I)I"⟩
abbrev cX7_pupil : ByteArray := prog_9_method_20_code
def yX7_pupil : MethodName := ⟨RX7, "pupil", "(II)I"⟩
abbrev cX7_leans : ByteArray := prog_9_method_21_code
def yX7_leans : MethodName := ⟨RX7, "leans", "(I)I"⟩
abbrev cX7_level : ByteArray := prog_9_method_22_code
def yX7_level : MethodName := ⟨RX7, "level", "(II)I"⟩
abbrev cX7_capOf : ByteArray := prog_9_method_23_code
def yX7_capOf : MethodName := ⟨RX7, "capOf", "(III)I"⟩
abbrev cX7_rises : ByteArray := prog_9_method_24_code
def yX7_rises : MethodName := ⟨RX7, "rises", "(II)I"⟩
abbrev cX7_guest : ByteArray := prog_9_method_25_code
def yX7_guest : MethodName := ⟨RX7, "guest", "(Z)I"⟩
abbrev cX7_draw : ByteArray := prog_9_method_26_code
def yX7_draw : MethodName := ⟨RX7, "draw", "(I)I"⟩
abbrev cX7_isSo : ByteArray := prog_9_method_27_code
def yX7_isSo : MethodName := ⟨RX7, "isSo", "(IZ)Z"⟩
abbrev cX7_take : ByteArray := prog_9_method_28_code
def yX7_take : MethodName := ⟨RX7, "take", "(II)V"⟩
abbrev cX7_put : ByteArray := prog_9_method_29_code
def yX7_put : MethodName := ⟨RX7, "put", "(I)V"⟩
abbrev cX7_rise : ByteArray := prog_9_method_30_code
def yX7_rise : MethodName := ⟨RX7, "rise", "(II)V"⟩
abbrev cX7_noChance : ByteArray := prog_9_method_31_code
def yX7_noChance : MethodName := ⟨RX7, "noChance", "(IZ)I"⟩
abbrev cX7_teach : ByteArray := prog_9_method_32_code
def yX7_teach : MethodName := ⟨RX7, "teach", "(IIZZ)I"⟩
abbrev cX7_believe : ByteArray := prog_9_method_33_code
def yX7_believe : MethodName := ⟨RX7, "believe", "(IIZ)V"⟩
abbrev cX7_follow : ByteArray := prog_9_method_34_code
def yX7_follow : MethodName := ⟨RX7, "follow", "(II)V"⟩
abbrev cX7_everybody : ByteArray := prog_9_method_35_code
def yX7_everybody : MethodName := ⟨RX7, "everybody", "()I"⟩
abbrev cX7_lesson : ByteArray := prog_9_method_36_code
def yX7_lesson : MethodName := ⟨RX7, "lesson", "(IIZ)I"⟩
abbrev cX7_noOdds : ByteArray := prog_9_method_37_code
def yX7_noOdds : MethodName := ⟨RX7, "noOdds", "(IIZ)I"⟩
abbrev cX7_part : ByteArray := prog_9_method_38_code
def yX7_part : MethodName := ⟨RX7, "part", "(III)J"⟩
abbrev cX7_exact : ByteArray := prog_9_method_39_code
def yX7_exact : MethodName := ⟨RX7, "exact", "(III)I"⟩
abbrev cX7_leastOf : ByteArray := prog_9_method_40_code
def yX7_leastOf : MethodName := ⟨RX7, "leastOf", "(II)I"⟩
abbrev cX7_greatestBelow : ByteArray := prog_9_method_41_code
def yX7_greatestBelow : MethodName := ⟨RX7, "greatestBelow", "()I"⟩
abbrev cX7_upBy : ByteArray := prog_9_method_42_code
def yX7_upBy : MethodName := ⟨RX7, "upBy", "(II)I"⟩
abbrev cX7_isRule : ByteArray := prog_9_method_43_code
def yX7_isRule : MethodName := ⟨RX7, "isRule", "(I)Z"⟩
abbrev cX7_up : ByteArray := prog_9_method_44_code
def yX7_up : MethodName := ⟨RX7, "up", "(II)I"⟩
abbrev cX7_knownNow : ByteArray := prog_9_method_45_code
def yX7_knownNow : MethodName := ⟨RX7, "knownNow", "()I"⟩
abbrev cX7_run : ByteArray := prog_9_method_46_code
def yX7_run : MethodName := ⟨RX7, "run", "(IIIZ)I"⟩
abbrev cX7_tellNow : ByteArray := prog_9_method_47_code
def yX7_tellNow : MethodName := ⟨RX7, "tellNow", "()I"⟩
abbrev cX7_master : ByteArray := prog_9_method_48_code
def yX7_master : MethodName := ⟨RX7, "master", "(I)I"⟩
abbrev cX7_summer : ByteArray := prog_9_method_49_code
def yX7_summer : MethodName := ⟨RX7, "summer", "(I)I"⟩
abbrev cX7_hours : ByteArray := prog_9_method_50_code
def yX7_hours : MethodName := ⟨RX7, "hours", "(II)I"⟩
abbrev cX7_stateNow : ByteArray := prog_9_method_51_code
def yX7_stateNow : MethodName := ⟨RX7, "stateNow", "(I)I"⟩
abbrev cX7_setState : ByteArray := prog_9_method_52_code
def yX7_setState : MethodName := ⟨RX7, "setState", "(II)V"⟩
abbrev cX7_bits : ByteArray := prog_9_method_53_code
def yX7_bits : MethodName := ⟨RX7, "bits", "(I)I"⟩
abbrev cX7_goal : ByteArray := prog_9_method_54_code
def yX7_goal : MethodName := ⟨RX7, "goal", "(I)I"⟩
abbrev cX7_next : ByteArray := prog_9_method_55_code
def yX7_next : MethodName := ⟨RX7, "next", "(IZII)I"⟩
abbrev cX7_spread : ByteArray := prog_9_method_56_code
def yX7_spread : MethodName := ⟨RX7, "spread", "(IZ)I"⟩
abbrev cX7_fewestOf : ByteArray := prog_9_method_57_code
def yX7_fewestOf : MethodName := ⟨RX7, "fewestOf", "(IIZ)I"⟩
abbrev cX7_isSmall : ByteArray := prog_9_method_58_code
def yX7_isSmall : MethodName := ⟨RX7, "isSmall", "()Z"⟩
abbrev cX7_fewest : ByteArray := prog_9_method_59_code
def yX7_fewest : MethodName := ⟨RX7, "fewest", "(I)I"⟩
abbrev cX7_row : ByteArray := prog_9_method_60_code
def yX7_row : MethodName := ⟨RX7, "row", "(II)I"⟩
abbrev cX7_stuck : ByteArray := prog_9_method_61_code
def yX7_stuck : MethodName := ⟨RX7, "stuck", "(I)I"⟩
abbrev cX7_worth : ByteArray := prog_9_method_62_code
def yX7_worth : MethodName := ⟨RX7, "worth", "(I)I"⟩
abbrev cX7_mastered : ByteArray := prog_9_method_63_code
def yX7_mastered : MethodName := ⟨RX7, "mastered", "(I)I"⟩
abbrev cX7_levelBehind : ByteArray := prog_9_method_64_code
def yX7_levelBehind : MethodName := ⟨RX7, "levelBehind", "(IIII)I"⟩
abbrev cX7_pays : ByteArray := prog_9_method_65_code
def yX7_pays : MethodName := ⟨RX7, "pays", "(IIII)I"⟩
abbrev cX7_findOrder : ByteArray := prog_9_method_66_code
def yX7_findOrder : MethodName := ⟨RX7, "findOrder", "()V"⟩
abbrev cX7_order : ByteArray := prog_9_method_67_code
def yX7_order : MethodName := ⟨RX7, "order", "(I)I"⟩
abbrev cX7_classes : ByteArray := prog_9_method_68_code
def yX7_classes : MethodName := ⟨RX7, "classes", "(II)I"⟩
abbrev cX7_come : ByteArray := prog_9_method_69_code
def yX7_come : MethodName := ⟨RX7, "come", "(J)V"⟩
abbrev cX7_asNow : ByteArray := prog_9_method_70_code
def yX7_asNow : MethodName := ⟨RX7, "asNow", "()V"⟩
abbrev cX7_listSurer : ByteArray := prog_9_method_71_code
def yX7_listSurer : MethodName := ⟨RX7, "listSurer", "(I)V"⟩
abbrev cX7_chanceOf : ByteArray := prog_9_method_72_code
def yX7_chanceOf : MethodName := ⟨RX7, "chanceOf", "(IZ)I"⟩
abbrev cX7_partBelief : ByteArray := prog_9_method_73_code
def yX7_partBelief : MethodName := ⟨RX7, "partBelief", "(IJ)V"⟩
abbrev cX7_partNo : ByteArray := prog_9_method_74_code
def yX7_partNo : MethodName := ⟨RX7, "partNo", "(IZIJ)V"⟩
abbrev cX7_partRight : ByteArray := prog_9_method_75_code
def yX7_partRight : MethodName := ⟨RX7, "partRight", "(IZJ)V"⟩
abbrev cX7_partAll : ByteArray := prog_9_method_76_code
def yX7_partAll : MethodName := ⟨RX7, "partAll", "(II)V"⟩
abbrev cX7_findOdds : ByteArray := prog_9_method_77_code
def yX7_findOdds : MethodName := ⟨RX7, "findOdds", "(III)V"⟩
abbrev cX7_behind : ByteArray := prog_9_method_78_code
def yX7_behind : MethodName := ⟨RX7, "behind", "(IIII)I"⟩
abbrev cX7_log : ByteArray := prog_9_method_79_code
def yX7_log : MethodName := ⟨RX7, "log", "(II)I"⟩
abbrev cX7_clear : ByteArray := prog_9_method_80_code
def yX7_clear : MethodName := ⟨RX7, "clear", "()I"⟩
abbrev cX7_firstWrong : ByteArray := prog_9_method_81_code
def yX7_firstWrong : MethodName := ⟨RX7, "firstWrong", "()I"⟩
abbrev cX7_judge : ByteArray := prog_9_method_82_code
def yX7_judge : MethodName := ⟨RX7, "judge", "()I"⟩
abbrev cX7_seed : ByteArray := prog_9_method_83_code
def yX7_seed : MethodName := ⟨RX7, "seed", "(I)I"⟩
abbrev cX7_keep : ByteArray := prog_9_method_84_code
def yX7_keep : MethodName := ⟨RX7, "keep", "(I)I"⟩
abbrev cX7_goBack : ByteArray := prog_9_method_85_code
def yX7_goBack : MethodName := ⟨RX7, "goBack", "(I)I"⟩
def RJx145de : String := "java/io/Serializable"
def TJx145de : u_T := fun k => match k with
  | _ => ("", "", "", false)
def tyJx145de : Nat → FieldType := fun k => match k with
  | _ => .int
abbrev wsJx145de0 : List Cond := u_ws RJx145de TJx145de 0
theorem nmJx145de : ∀ a, a < 0 → ∀ b, b < 0 → a ≠ b → (TJx145de a).2.1 ≠ (TJx145de b).2.1 := by decide +kernel
theorem tyJx145de_ok : ∀ k, k < 0 → parseFieldDescriptor (TJx145de k).2.2.1 = some (tyJx145de k) := by decide +kernel
def RJx9f9b0 : String := "java/lang/CharSequence"
def TJx9f9b0 : u_T := fun k => match k with
  | _ => ("", "", "", false)
def tyJx9f9b0 : Nat → FieldType := fun k => match k with
  | _ => .int
abbrev wsJx9f9b00 : List Cond := u_ws RJx9f9b0 TJx9f9b0 0
theorem nmJx9f9b0 : ∀ a, a < 0 → ∀ b, b < 0 → a ≠ b → (TJx9f9b0 a).2.1 ≠ (TJx9f9b0 b).2.1 := by decide +kernel
theorem tyJx9f9b0_ok : ∀ k, k < 0 → parseFieldDescriptor (TJx9f9b0 k).2.2.1 = some (tyJx9f9b0 k) := by decide +kernel
def RJxb160c : String := "java/lang/Comparable"
def TJxb160c : u_T := fun k => match k with
  | _ => ("", "", "", false)
def tyJxb160c : Nat → FieldType := fun k => match k with
  | _ => .int
abbrev wsJxb160c0 : List Cond := u_ws RJxb160c TJxb160c 0
theorem nmJxb160c : ∀ a, a < 0 → ∀ b, b < 0 → a ≠ b → (TJxb160c a).2.1 ≠ (TJxb160c b).2.1 := by decide +kernel
theorem tyJxb160c_ok : ∀ k, k < 0 → parseFieldDescriptor (TJxb160c k).2.2.1 = some (tyJxb160c k) := by decide +kernel
def RJ9 : String := "java/lang/Math"
def TJ9 : u_T := fun k => match k with
  | _ => ("", "", "", false)
def tyJ9 : Nat → FieldType := fun k => match k with
  | _ => .int
abbrev wsJ90 : List Cond := u_ws RJ9 TJ9 0
theorem nmJ9 : ∀ a, a < 0 → ∀ b, b < 0 → a ≠ b → (TJ9 a).2.1 ≠ (TJ9 b).2.1 := by decide +kernel
theorem tyJ9_ok : ∀ k, k < 0 → parseFieldDescriptor (TJ9 k).2.2.1 = some (tyJ9 k) := by decide +kernel
abbrev cJ9_max_7cf53 : ByteArray := prog_10_method_65_code
def yJ9_max_7cf53 : MethodName := ⟨RJ9, "max", "(II)I"⟩
abbrev cJ9_min_7cf53 : ByteArray := prog_10_method_69_code
def yJ9_min_7cf53 : MethodName := ⟨RJ9, "min", "(II)I"⟩
def RJ0 : String := "java/lang/String"
def TJ0 : u_T := fun k => match k with
  | _ => ("", "", "", false)
def tyJ0 : Nat → FieldType := fun k => match k with
  | _ => .int
abbrev wsJ00 : List Cond := u_ws RJ0 TJ0 0
theorem nmJ0 : ∀ a, a < 0 → ∀ b, b < 0 → a ≠ b → (TJ0 a).2.1 ≠ (TJ0 b).2.1 := by decide +kernel
theorem tyJ0_ok : ∀ k, k < 0 → parseFieldDescriptor (TJ0 k).2.2.1 = some (tyJ0 k) := by decide +kernel
abbrev cJ0_length_8abf5 : ByteArray := prog_11_method_54_code
def yJ0_length_8abf5 : MethodName := ⟨RJ0, "length", "()I"⟩
abbrev cJ0_charAt_5068e : ByteArray := prog_11_method_56_code
def yJ0_charAt_5068e : MethodName := ⟨RJ0, "charAt", "(I)C"⟩
abbrev cJ0_coder_7d493 : ByteArray := prog_11_method_152_code
def yJ0_coder_7d493 : MethodName := ⟨RJ0, "coder", "()B"⟩
abbrev cJ0_isLatin1_aae02 : ByteArray := prog_11_method_154_code
def yJ0_isLatin1_aae02 : MethodName := ⟨RJ0, "isLatin1", "()Z"⟩
abbrev cJ0_checkIndex_df160 : ByteArray := prog_11_method_155_code
def yJ0_checkIndex_df160 : MethodName := ⟨RJ0, "checkIndex", "(II)V"⟩
def RJ1 : String := "java/lang/StringLatin1"
def TJ1 : u_T := fun k => match k with
  | _ => ("", "", "", false)
def tyJ1 : Nat → FieldType := fun k => match k with
  | _ => .int
abbrev wsJ10 : List Cond := u_ws RJ1 TJ1 0
theorem nmJ1 : ∀ a, a < 0 → ∀ b, b < 0 → a ≠ b → (TJ1 a).2.1 ≠ (TJ1 b).2.1 := by decide +kernel
theorem tyJ1_ok : ∀ k, k < 0 → parseFieldDescriptor (TJ1 k).2.2.1 = some (tyJ1 k) := by decide +kernel
abbrev cJ1_charAt_3b067 : ByteArray := prog_12_method_2_code
def yJ1_charAt_3b067 : MethodName := ⟨RJ1, "charAt", "([BI)C"⟩
def RJ2 : String := "java/lang/StringUTF16"
def TJ2 : u_T := fun k => match k with
  | _ => ("", "", "", false)
def tyJ2 : Nat → FieldType := fun k => match k with
  | _ => .int
abbrev wsJ20 : List Cond := u_ws RJ2 TJ2 0
theorem nmJ2 : ∀ a, a < 0 → ∀ b, b < 0 → a ≠ b → (TJ2 a).2.1 ≠ (TJ2 b).2.1 := by decide +kernel
theorem tyJ2_ok : ∀ k, k < 0 → parseFieldDescriptor (TJ2 k).2.2.1 = some (tyJ2 k) := by decide +kernel
abbrev cJ2_getChar_3b067 : ByteArray := prog_13_method_5_code
def yJ2_getChar_3b067 : MethodName := ⟨RJ2, "getChar", "([BI)C"⟩
abbrev cJ2_length_9d52b : ByteArray := prog_13_method_6_code
def yJ2_length_9d52b : MethodName := ⟨RJ2, "length", "([B)I"⟩
abbrev cJ2_charAt_3b067 : ByteArray := prog_13_method_83_code
def yJ2_charAt_3b067 : MethodName := ⟨RJ2, "charAt", "([BI)C"⟩
abbrev cJ2_checkIndex_2214a : ByteArray := prog_13_method_91_code
def yJ2_checkIndex_2214a : MethodName := ⟨RJ2, "checkIndex", "(I[B)V"⟩
def RJ10 : String := "java/lang/System"
def TJ10 : u_T := fun k => match k with
  | _ => ("", "", "", false)
def tyJ10 : Nat → FieldType := fun k => match k with
  | _ => .int
abbrev wsJ100 : List Cond := u_ws RJ10 TJ10 0
theorem nmJ10 : ∀ a, a < 0 → ∀ b, b < 0 → a ≠ b → (TJ10 a).2.1 ≠ (TJ10 b).2.1 := by decide +kernel
theorem tyJ10_ok : ∀ k, k < 0 → parseFieldDescriptor (TJ10 k).2.2.1 = some (tyJ10 k) := by decide +kernel
def RJxfd54e : String := "java/lang/constant/Constable"
def TJxfd54e : u_T := fun k => match k with
  | _ => ("", "", "", false)
def tyJxfd54e : Nat → FieldType := fun k => match k with
  | _ => .int
abbrev wsJxfd54e0 : List Cond := u_ws RJxfd54e TJxfd54e 0
theorem nmJxfd54e : ∀ a, a < 0 → ∀ b, b < 0 → a ≠ b → (TJxfd54e a).2.1 ≠ (TJxfd54e b).2.1 := by decide +kernel
theorem tyJxfd54e_ok : ∀ k, k < 0 → parseFieldDescriptor (TJxfd54e k).2.2.1 = some (tyJxfd54e k) := by decide +kernel
def RJx3cf43 : String := "java/lang/constant/ConstantDesc"
def TJx3cf43 : u_T := fun k => match k with
  | _ => ("", "", "", false)
def tyJx3cf43 : Nat → FieldType := fun k => match k with
  | _ => .int
abbrev wsJx3cf430 : List Cond := u_ws RJx3cf43 TJx3cf43 0
theorem nmJx3cf43 : ∀ a, a < 0 → ∀ b, b < 0 → a ≠ b → (TJx3cf43 a).2.1 ≠ (TJx3cf43 b).2.1 := by decide +kernel
theorem tyJx3cf43_ok : ∀ k, k < 0 → parseFieldDescriptor (TJx3cf43 k).2.2.1 = some (tyJx3cf43 k) := by decide +kernel
def RJ7 : String := "java/util/Arrays"
def TJ7 : u_T := fun k => match k with
  | _ => ("", "", "", false)
def tyJ7 : Nat → FieldType := fun k => match k with
  | _ => .int
abbrev wsJ70 : List Cond := u_ws RJ7 TJ7 0
theorem nmJ7 : ∀ a, a < 0 → ∀ b, b < 0 → a ≠ b → (TJ7 a).2.1 ≠ (TJ7 b).2.1 := by decide +kernel
theorem tyJ7_ok : ∀ k, k < 0 → parseFieldDescriptor (TJ7 k).2.2.1 = some (tyJ7 k) := by decide +kernel
abbrev cJ7_rangeCheck_23922 : ByteArray := prog_15_method_30_code
def yJ7_rangeCheck_23922 : MethodName := ⟨RJ7, "rangeCheck", "(III)V"⟩
abbrev cJ7_fill_d0a16 : ByteArray := prog_15_method_101_code
def yJ7_fill_d0a16 : MethodName := ⟨RJ7, "fill", "([JJ)V"⟩
abbrev cJ7_fill_fda19 : ByteArray := prog_15_method_104_code
def yJ7_fill_fda19 : MethodName := ⟨RJ7, "fill", "([IIII)V"⟩
def RJ3 : String := "jdk/internal/util/Preconditions"
def TJ3 : u_T := fun k => match k with
  | _ => ("", "", "", false)
def tyJ3 : Nat → FieldType := fun k => match k with
  | _ => .int
abbrev wsJ30 : List Cond := u_ws RJ3 TJ3 0
theorem nmJ3 : ∀ a, a < 0 → ∀ b, b < 0 → a ≠ b → (TJ3 a).2.1 ≠ (TJ3 b).2.1 := by decide +kernel
theorem tyJ3_ok : ∀ k, k < 0 → parseFieldDescriptor (TJ3 k).2.2.1 = some (tyJ3 k) := by decide +kernel
abbrev cJ3_checkIndex_8e157 : ByteArray := prog_16_method_11_code
def yJ3_checkIndex_8e157 : MethodName := ⟨RJ3, "checkIndex", "(IILjava/util/function/BiFunction;)I"⟩
def RL : String := "LeastTeachesLaw"
abbrev cL_law : ByteArray := code
def yL_law : MethodName := ⟨RL, "law", "([I)Z"⟩
abbrev vwCl : List vw_C := [(RX0, TX0, 11), (RX1, TX1, 6), (RX2, TX2, 8), (RX3, TX3, 7), (RX4, TX4, 2), (RX5, TX5, 4), (RX6, TX6, 16), (RX7, TX7, 41)]
end
section
theorem dX0_init_0 : decode cX0_init 0 = .ok (.aload_n 0, 1) := by decide +kernel
theorem dX0_init_1 : decode cX0_init 1 = .ok (.invokespecial 3, 3) := by decide +kernel
theorem dX0_init_4 : decode cX0_init 4 = .ok (.aload_n 0, 1) := by decide +kernel
theorem dX0_init_5 : decode cX0_init 5 = .ok (.bipush 6, 2) := by decide +kernel
theorem dX0_init_7 : decode cX0_init 7 = .ok (.newarray .int, 2) := by decide +kernel
theorem dX0_init_9 : decode cX0_init 9 = .ok (.putfield 9, 3) := by decide +kernel
theorem dX0_init_12 : decode cX0_init 12 = .ok (.aload_n 0, 1) := by decide +kernel
theorem dX0_init_13 : decode cX0_init 13 = .ok (.bipush 6, 2) := by decide +kernel
theorem dX0_init_15 : decode cX0_init 15 = .ok (.newarray .int, 2) := by decide +kernel
theorem dX0_init_17 : decode cX0_init 17 = .ok (.putfield 15, 3) := by decide +kernel
theorem dX0_init_20 : decode cX0_init 20 = .ok (.aload_n 0, 1) := by decide +kernel
theorem dX0_init_21 : decode cX0_init 21 = .ok (.bipush 6, 2) := by decide +kernel
theorem dX0_init_23 : decode cX0_init 23 = .ok (.newarray .int, 2) := by decide +kernel
theorem dX0_init_25 : decode cX0_init 25 = .ok (.putfield 18, 3) := by decide +kernel
theorem dX0_init_28 : decode cX0_init 28 = .ok (.aload_n 0, 1) := by decide +kernel
theorem dX0_init_29 : decode cX0_init 29 = .ok (.bipush 6, 2) := by decide +kernel
theorem dX0_init_31 : decode cX0_init 31 = .ok (.newarray .int, 2) := by decide +kernel
theorem dX0_init_33 : decode cX0_init 33 = .ok (.putfield 21, 3) := by decide +kernel
theorem dX0_init_36 : decode cX0_init 36 = .ok (.aload_n 0, 1) := by decide +kernel
theorem dX0_init_37 : decode cX0_init 37 = .ok (.bipush 6, 2) := by decide +kernel
theorem dX0_init_39 : decode cX0_init 39 = .ok (.newarray .int, 2) := by decide +kernel
theorem dX0_init_41 : decode cX0_init 41 = .ok (.putfield 24, 3) := by decide +kernel
theorem dX0_init_44 : decode cX0_init 44 = .ok (.aload_n 0, 1) := by decide +kernel
theorem dX0_init_45 : decode cX0_init 45 = .ok (.bipush 6, 2) := by decide +kernel
theorem dX0_init_47 : decode cX0_init 47 = .ok (.newarray .int, 2) := by decide +kernel
theorem dX0_init_49 : decode cX0_init 49 = .ok (.putfield 27, 3) := by decide +kernel
theorem dX0_init_52 : decode cX0_init 52 = .ok (.aload_n 0, 1) := by decide +kernel
theorem dX0_init_53 : decode cX0_init 53 = .ok (.bipush 6, 2) := by decide +kernel
theorem dX0_init_55 : decode cX0_init 55 = .ok (.newarray .boolean, 2) := by decide +kernel
theorem dX0_init_57 : decode cX0_init 57 = .ok (.putfield 30, 3) := by decide +kernel
theorem dX0_init_60 : decode cX0_init 60 = .ok (.return_, 1) := by decide +kernel
theorem dX0_sit_0 : decode cX0_sit 0 = .ok (.aload_n 0, 1) := by decide +kernel
theorem dX0_sit_1 : decode cX0_sit 1 = .ok (.iconst 0, 1) := by decide +kernel
theorem dX0_sit_2 : decode cX0_sit 2 = .ok (.putfield 34, 3) := by decide +kernel
theorem dX0_sit_5 : decode cX0_sit 5 = .ok (.aload_n 0, 1) := by decide +kernel
theorem dX0_sit_6 : decode cX0_sit 6 = .ok (.iload_n 3, 1) := by decide +kernel
theorem dX0_sit_7 : decode cX0_sit 7 = .ok (.putfield 38, 3) := by decide +kernel
theorem dX0_sit_10 : decode cX0_sit 10 = .ok (.aload_n 0, 1) := by decide +kernel
theorem dX0_sit_11 : decode cX0_sit 11 = .ok (.aload_n 2, 1) := by decide +kernel
theorem dX0_sit_12 : decode cX0_sit 12 = .ok (.getfield 41, 3) := by decide +kernel
theorem dX0_sit_15 : decode cX0_sit 15 = .ok (.putfield 47, 3) := by decide +kernel
theorem dX0_sit_18 : decode cX0_sit 18 = .ok (.aload_n 0, 1) := by decide +kernel
theorem dX0_sit_19 : decode cX0_sit 19 = .ok (.aload_n 2, 1) := by decide +kernel
theorem dX0_sit_20 : decode cX0_sit 20 = .ok (.getfield 48, 3) := by decide +kernel
theorem dX0_sit_23 : decode cX0_sit 23 = .ok (.putfield 51, 3) := by decide +kernel
theorem dX0_sit_26 : decode cX0_sit 26 = .ok (.iconst 0, 1) := by decide +kernel
theorem dX0_sit_27 : decode cX0_sit 27 = .ok (.istore 5, 2) := by decide +kernel
theorem dX0_sit_29 : decode cX0_sit 29 = .ok (.iload 5, 2) := by decide +kernel
theorem dX0_sit_31 : decode cX0_sit 31 = .ok (.aload_n 1, 1) := by decide +kernel
theorem dX0_sit_32 : decode cX0_sit 32 = .ok (.getfield 52, 3) := by decide +kernel
theorem dX0_sit_35 : decode cX0_sit 35 = .ok (.if_icmp .ge 131, 3) := by decide +kernel
theorem dX0_sit_38 : decode cX0_sit 38 = .ok (.iload_n 3, 1) := by decide +kernel
theorem dX0_sit_39 : decode cX0_sit 39 = .ok (.iload 5, 2) := by decide +kernel
theorem dX0_sit_41 : decode cX0_sit 41 = .ok (.ishr, 1) := by decide +kernel
theorem dX0_sit_42 : decode cX0_sit 42 = .ok (.iconst 1, 1) := by decide +kernel
theorem dX0_sit_43 : decode cX0_sit 43 = .ok (.iand, 1) := by decide +kernel
theorem dX0_sit_44 : decode cX0_sit 44 = .ok (.iconst 1, 1) := by decide +kernel
theorem dX0_sit_45 : decode cX0_sit 45 = .ok (.if_icmp .ne 115, 3) := by decide +kernel
theorem dX0_sit_48 : decode cX0_sit 48 = .ok (.aload_n 0, 1) := by decide +kernel
theorem dX0_sit_49 : decode cX0_sit 49 = .ok (.getfield 9, 3) := by decide +kernel
theorem dX0_sit_52 : decode cX0_sit 52 = .ok (.aload_n 0, 1) := by decide +kernel
theorem dX0_sit_53 : decode cX0_sit 53 = .ok (.getfield 34, 3) := by decide +kernel
theorem dX0_sit_56 : decode cX0_sit 56 = .ok (.iload 5, 2) := by decide +kernel
theorem dX0_sit_58 : decode cX0_sit 58 = .ok (.iastore, 1) := by decide +kernel
theorem dX0_sit_59 : decode cX0_sit 59 = .ok (.aload_n 0, 1) := by decide +kernel
theorem dX0_sit_60 : decode cX0_sit 60 = .ok (.getfield 15, 3) := by decide +kernel
theorem dX0_sit_63 : decode cX0_sit 63 = .ok (.aload_n 0, 1) := by decide +kernel
theorem dX0_sit_64 : decode cX0_sit 64 = .ok (.getfield 34, 3) := by decide +kernel
theorem dX0_sit_67 : decode cX0_sit 67 = .ok (.aload_n 2, 1) := by decide +kernel
theorem dX0_sit_68 : decode cX0_sit 68 = .ok (.getfield 57, 3) := by decide +kernel
theorem dX0_sit_71 : decode cX0_sit 71 = .ok (.iload 5, 2) := by decide +kernel
theorem dX0_sit_73 : decode cX0_sit 73 = .ok (.bipush 6, 2) := by decide +kernel
theorem dX0_sit_75 : decode cX0_sit 75 = .ok (.imul, 1) := by decide +kernel
theorem dX0_sit_76 : decode cX0_sit 76 = .ok (.iload 4, 2) := by decide +kernel
theorem dX0_sit_78 : decode cX0_sit 78 = .ok (.iadd, 1) := by decide +kernel
theorem dX0_sit_79 : decode cX0_sit 79 = .ok (.iaload, 1) := by decide +kernel
theorem dX0_sit_80 : decode cX0_sit 80 = .ok (.iastore, 1) := by decide +kernel
theorem dX0_sit_81 : decode cX0_sit 81 = .ok (.aload_n 0, 1) := by decide +kernel
theorem dX0_sit_82 : decode cX0_sit 82 = .ok (.getfield 18, 3) := by decide +kernel
theorem dX0_sit_85 : decode cX0_sit 85 = .ok (.aload_n 0, 1) := by decide +kernel
theorem dX0_sit_86 : decode cX0_sit 86 = .ok (.getfield 34, 3) := by decide +kernel
theorem dX0_sit_89 : decode cX0_sit 89 = .ok (.aload_n 1, 1) := by decide +kernel
theorem dX0_sit_90 : decode cX0_sit 90 = .ok (.aload_n 2, 1) := by decide +kernel
theorem dX0_sit_91 : decode cX0_sit 91 = .ok (.getfield 57, 3) := by decide +kernel
theorem dX0_sit_94 : decode cX0_sit 94 = .ok (.iload 5, 2) := by decide +kernel
theorem dX0_sit_96 : decode cX0_sit 96 = .ok (.iload 4, 2) := by decide +kernel
theorem dX0_sit_98 : decode cX0_sit 98 = .ok (.invokevirtual 60, 3) := by decide +kernel
theorem dX0_sit_101 : decode cX0_sit 101 = .ok (.iastore, 1) := by decide +kernel
theorem dX0_sit_102 : decode cX0_sit 102 = .ok (.aload_n 0, 1) := by decide +kernel
theorem dX0_sit_103 : decode cX0_sit 103 = .ok (.getfield 21, 3) := by decide +kernel
theorem dX0_sit_106 : decode cX0_sit 106 = .ok (.aload_n 0, 1) := by decide +kernel
theorem dX0_sit_107 : decode cX0_sit 107 = .ok (.getfield 34, 3) := by decide +kernel
theorem dX0_sit_110 : decode cX0_sit 110 = .ok (.aload_n 1, 1) := by decide +kernel
theorem dX0_sit_111 : decode cX0_sit 111 = .ok (.getfield 64, 3) := by decide +kernel
theorem dX0_sit_114 : decode cX0_sit 114 = .ok (.iload 5, 2) := by decide +kernel
theorem dX0_sit_116 : decode cX0_sit 116 = .ok (.iaload, 1) := by decide +kernel
theorem dX0_sit_117 : decode cX0_sit 117 = .ok (.iastore, 1) := by decide +kernel
theorem dX0_sit_118 : decode cX0_sit 118 = .ok (.aload_n 0, 1) := by decide +kernel
theorem dX0_sit_119 : decode cX0_sit 119 = .ok (.getfield 24, 3) := by decide +kernel
theorem dX0_sit_122 : decode cX0_sit 122 = .ok (.aload_n 0, 1) := by decide +kernel
theorem dX0_sit_123 : decode cX0_sit 123 = .ok (.getfield 34, 3) := by decide +kernel
theorem dX0_sit_126 : decode cX0_sit 126 = .ok (.aload_n 1, 1) := by decide +kernel
theorem dX0_sit_127 : decode cX0_sit 127 = .ok (.getfield 65, 3) := by decide +kernel
theorem dX0_sit_130 : decode cX0_sit 130 = .ok (.iload 5, 2) := by decide +kernel
theorem dX0_sit_132 : decode cX0_sit 132 = .ok (.iaload, 1) := by decide +kernel
theorem dX0_sit_133 : decode cX0_sit 133 = .ok (.iastore, 1) := by decide +kernel
theorem dX0_sit_134 : decode cX0_sit 134 = .ok (.aload_n 0, 1) := by decide +kernel
theorem dX0_sit_135 : decode cX0_sit 135 = .ok (.getfield 27, 3) := by decide +kernel
theorem dX0_sit_138 : decode cX0_sit 138 = .ok (.aload_n 0, 1) := by decide +kernel
theorem dX0_sit_139 : decode cX0_sit 139 = .ok (.getfield 34, 3) := by decide +kernel
theorem dX0_sit_142 : decode cX0_sit 142 = .ok (.aload_n 1, 1) := by decide +kernel
theorem dX0_sit_143 : decode cX0_sit 143 = .ok (.getfield 66, 3) := by decide +kernel
theorem dX0_sit_146 : decode cX0_sit 146 = .ok (.iload 5, 2) := by decide +kernel
theorem dX0_sit_148 : decode cX0_sit 148 = .ok (.iaload, 1) := by decide +kernel
theorem dX0_sit_149 : decode cX0_sit 149 = .ok (.iastore, 1) := by decide +kernel
theorem dX0_sit_150 : decode cX0_sit 150 = .ok (.aload_n 0, 1) := by decide +kernel
theorem dX0_sit_151 : decode cX0_sit 151 = .ok (.dup, 1) := by decide +kernel
theorem dX0_sit_152 : decode cX0_sit 152 = .ok (.getfield 34, 3) := by decide +kernel
theorem dX0_sit_155 : decode cX0_sit 155 = .ok (.iconst 1, 1) := by decide +kernel
theorem dX0_sit_156 : decode cX0_sit 156 = .ok (.iadd, 1) := by decide +kernel
theorem dX0_sit_157 : decode cX0_sit 157 = .ok (.putfield 34, 3) := by decide +kernel
theorem dX0_sit_160 : decode cX0_sit 160 = .ok (.iinc 5 1, 3) := by decide +kernel
theorem dX0_sit_163 : decode cX0_sit 163 = .ok (.goto (-134), 3) := by decide +kernel
theorem dX0_sit_166 : decode cX0_sit 166 = .ok (.return_, 1) := by decide +kernel
theorem dX0_leave_0 : decode cX0_leave 0 = .ok (.iconst 0, 1) := by decide +kernel
theorem dX0_leave_1 : decode cX0_leave 1 = .ok (.istore_n 3, 1) := by decide +kernel
theorem dX0_leave_2 : decode cX0_leave 2 = .ok (.iload_n 3, 1) := by decide +kernel
theorem dX0_leave_3 : decode cX0_leave 3 = .ok (.aload_n 0, 1) := by decide +kernel
theorem dX0_leave_4 : decode cX0_leave 4 = .ok (.getfield 34, 3) := by decide +kernel
theorem dX0_leave_7 : decode cX0_leave 7 = .ok (.if_icmp .ge 31, 3) := by decide +kernel
theorem dX0_leave_10 : decode cX0_leave 10 = .ok (.aload_n 1, 1) := by decide +kernel
theorem dX0_leave_11 : decode cX0_leave 11 = .ok (.getfield 57, 3) := by decide +kernel
theorem dX0_leave_14 : decode cX0_leave 14 = .ok (.aload_n 0, 1) := by decide +kernel
theorem dX0_leave_15 : decode cX0_leave 15 = .ok (.getfield 9, 3) := by decide +kernel
theorem dX0_leave_18 : decode cX0_leave 18 = .ok (.iload_n 3, 1) := by decide +kernel
theorem dX0_leave_19 : decode cX0_leave 19 = .ok (.iaload, 1) := by decide +kernel
theorem dX0_leave_20 : decode cX0_leave 20 = .ok (.bipush 6, 2) := by decide +kernel
theorem dX0_leave_22 : decode cX0_leave 22 = .ok (.imul, 1) := by decide +kernel
theorem dX0_leave_23 : decode cX0_leave 23 = .ok (.iload_n 2, 1) := by decide +kernel
theorem dX0_leave_24 : decode cX0_leave 24 = .ok (.iadd, 1) := by decide +kernel
theorem dX0_leave_25 : decode cX0_leave 25 = .ok (.aload_n 0, 1) := by decide +kernel
theorem dX0_leave_26 : decode cX0_leave 26 = .ok (.getfield 15, 3) := by decide +kernel
theorem dX0_leave_29 : decode cX0_leave 29 = .ok (.iload_n 3, 1) := by decide +kernel
theorem dX0_leave_30 : decode cX0_leave 30 = .ok (.iaload, 1) := by decide +kernel
theorem dX0_leave_31 : decode cX0_leave 31 = .ok (.iastore, 1) := by decide +kernel
theorem dX0_leave_32 : decode cX0_leave 32 = .ok (.iinc 3 1, 3) := by decide +kernel
theorem dX0_leave_35 : decode cX0_leave 35 = .ok (.goto (-33), 3) := by decide +kernel
theorem dX0_leave_38 : decode cX0_leave 38 = .ok (.aload_n 1, 1) := by decide +kernel
theorem dX0_leave_39 : decode cX0_leave 39 = .ok (.aload_n 0, 1) := by decide +kernel
theorem dX0_leave_40 : decode cX0_leave 40 = .ok (.getfield 51, 3) := by decide +kernel
theorem dX0_leave_43 : decode cX0_leave 43 = .ok (.putfield 48, 3) := by decide +kernel
theorem dX0_leave_46 : decode cX0_leave 46 = .ok (.return_, 1) := by decide +kernel
theorem dX0_code_0 : decode cX0_code 0 = .ok (.iconst 0, 1) := by decide +kernel
theorem dX0_code_1 : decode cX0_code 1 = .ok (.istore_n 1, 1) := by decide +kernel
theorem dX0_code_2 : decode cX0_code 2 = .ok (.aload_n 0, 1) := by decide +kernel
theorem dX0_code_3 : decode cX0_code 3 = .ok (.getfield 34, 3) := by decide +kernel
theorem dX0_code_6 : decode cX0_code 6 = .ok (.iconst 1, 1) := by decide +kernel
theorem dX0_code_7 : decode cX0_code 7 = .ok (.isub, 1) := by decide +kernel
theorem dX0_code_8 : decode cX0_code 8 = .ok (.istore_n 2, 1) := by decide +kernel
theorem dX0_code_9 : decode cX0_code 9 = .ok (.iload_n 2, 1) := by decide +kernel
theorem dX0_code_10 : decode cX0_code 10 = .ok (.ifCond .lt 21, 3) := by decide +kernel
theorem dX0_code_13 : decode cX0_code 13 = .ok (.iload_n 1, 1) := by decide +kernel
theorem dX0_code_14 : decode cX0_code 14 = .ok (.bipush 10, 2) := by decide +kernel
theorem dX0_code_16 : decode cX0_code 16 = .ok (.imul, 1) := by decide +kernel
theorem dX0_code_17 : decode cX0_code 17 = .ok (.aload_n 0, 1) := by decide +kernel
theorem dX0_code_18 : decode cX0_code 18 = .ok (.getfield 15, 3) := by decide +kernel
theorem dX0_code_21 : decode cX0_code 21 = .ok (.iload_n 2, 1) := by decide +kernel
theorem dX0_code_22 : decode cX0_code 22 = .ok (.iaload, 1) := by decide +kernel
theorem dX0_code_23 : decode cX0_code 23 = .ok (.iadd, 1) := by decide +kernel
theorem dX0_code_24 : decode cX0_code 24 = .ok (.istore_n 1, 1) := by decide +kernel
theorem dX0_code_25 : decode cX0_code 25 = .ok (.iinc 2 (-1), 3) := by decide +kernel
theorem dX0_code_28 : decode cX0_code 28 = .ok (.goto (-19), 3) := by decide +kernel
theorem dX0_code_31 : decode cX0_code 31 = .ok (.iload_n 1, 1) := by decide +kernel
theorem dX0_code_32 : decode cX0_code 32 = .ok (.ireturn, 1) := by decide +kernel
theorem dX0_setLevels_0 : decode cX0_setLevels 0 = .ok (.iload_n 1, 1) := by decide +kernel
theorem dX0_setLevels_1 : decode cX0_setLevels 1 = .ok (.istore_n 2, 1) := by decide +kernel
theorem dX0_setLevels_2 : decode cX0_setLevels 2 = .ok (.iconst 0, 1) := by decide +kernel
theorem dX0_setLevels_3 : decode cX0_setLevels 3 = .ok (.istore_n 3, 1) := by decide +kernel
theorem dX0_setLevels_4 : decode cX0_setLevels 4 = .ok (.iload_n 3, 1) := by decide +kernel
theorem dX0_setLevels_5 : decode cX0_setLevels 5 = .ok (.aload_n 0, 1) := by decide +kernel
theorem dX0_setLevels_6 : decode cX0_setLevels 6 = .ok (.getfield 34, 3) := by decide +kernel
theorem dX0_setLevels_9 : decode cX0_setLevels 9 = .ok (.if_icmp .ge 24, 3) := by decide +kernel
theorem dX0_setLevels_12 : decode cX0_setLevels 12 = .ok (.aload_n 0, 1) := by decide +kernel
theorem dX0_setLevels_13 : decode cX0_setLevels 13 = .ok (.getfield 15, 3) := by decide +kernel
theorem dX0_setLevels_16 : decode cX0_setLevels 16 = .ok (.iload_n 3, 1) := by decide +kernel
theorem dX0_setLevels_17 : decode cX0_setLevels 17 = .ok (.iload_n 2, 1) := by decide +kernel
theorem dX0_setLevels_18 : decode cX0_setLevels 18 = .ok (.bipush 10, 2) := by decide +kernel
theorem dX0_setLevels_20 : decode cX0_setLevels 20 = .ok (.irem, 1) := by decide +kernel
theorem dX0_setLevels_21 : decode cX0_setLevels 21 = .ok (.iastore, 1) := by decide +kernel
theorem dX0_setLevels_22 : decode cX0_setLevels 22 = .ok (.iload_n 2, 1) := by decide +kernel
theorem dX0_setLevels_23 : decode cX0_setLevels 23 = .ok (.bipush 10, 2) := by decide +kernel
theorem dX0_setLevels_25 : decode cX0_setLevels 25 = .ok (.idiv, 1) := by decide +kernel
theorem dX0_setLevels_26 : decode cX0_setLevels 26 = .ok (.istore_n 2, 1) := by decide +kernel
theorem dX0_setLevels_27 : decode cX0_setLevels 27 = .ok (.iinc 3 1, 3) := by decide +kernel
theorem dX0_setLevels_30 : decode cX0_setLevels 30 = .ok (.goto (-26), 3) := by decide +kernel
theorem dX0_setLevels_33 : decode cX0_setLevels 33 = .ok (.return_, 1) := by decide +kernel
theorem dX0_room_0 : decode cX0_room 0 = .ok (.iconst 0, 1) := by decide +kernel
theorem dX0_room_1 : decode cX0_room 1 = .ok (.aload_n 0, 1) := by decide +kernel
theorem dX0_room_2 : decode cX0_room 2 = .ok (.getfield 18, 3) := by decide +kernel
theorem dX0_room_5 : decode cX0_room 5 = .ok (.iload_n 1, 1) := by decide +kernel
theorem dX0_room_6 : decode cX0_room 6 = .ok (.iaload, 1) := by decide +kernel
theorem dX0_room_7 : decode cX0_room 7 = .ok (.aload_n 0, 1) := by decide +kernel
theorem dX0_room_8 : decode cX0_room 8 = .ok (.getfield 15, 3) := by decide +kernel
theorem dX0_room_11 : decode cX0_room 11 = .ok (.iload_n 1, 1) := by decide +kernel
theorem dX0_room_12 : decode cX0_room 12 = .ok (.iaload, 1) := by decide +kernel
theorem dX0_room_13 : decode cX0_room 13 = .ok (.isub, 1) := by decide +kernel
theorem dX0_room_14 : decode cX0_room 14 = .ok (.invokestatic 67, 3) := by decide +kernel
theorem dX0_room_17 : decode cX0_room 17 = .ok (.ireturn, 1) := by decide +kernel
theorem dX0_rise_0 : decode cX0_rise 0 = .ok (.aload_n 0, 1) := by decide +kernel
theorem dX0_rise_1 : decode cX0_rise 1 = .ok (.getfield 15, 3) := by decide +kernel
theorem dX0_rise_4 : decode cX0_rise 4 = .ok (.iload_n 1, 1) := by decide +kernel
theorem dX0_rise_5 : decode cX0_rise 5 = .ok (.iaload, 1) := by decide +kernel
theorem dX0_rise_6 : decode cX0_rise 6 = .ok (.aload_n 0, 1) := by decide +kernel
theorem dX0_rise_7 : decode cX0_rise 7 = .ok (.getfield 18, 3) := by decide +kernel
theorem dX0_rise_10 : decode cX0_rise 10 = .ok (.iload_n 1, 1) := by decide +kernel
theorem dX0_rise_11 : decode cX0_rise 11 = .ok (.iaload, 1) := by decide +kernel
theorem dX0_rise_12 : decode cX0_rise 12 = .ok (.if_icmp .ge 43, 3) := by decide +kernel
theorem dX0_rise_15 : decode cX0_rise 15 = .ok (.aload_n 0, 1) := by decide +kernel
theorem dX0_rise_16 : decode cX0_rise 16 = .ok (.getfield 15, 3) := by decide +kernel
theorem dX0_rise_19 : decode cX0_rise 19 = .ok (.iload_n 1, 1) := by decide +kernel
theorem dX0_rise_20 : decode cX0_rise 20 = .ok (.aload_n 0, 1) := by decide +kernel
theorem dX0_rise_21 : decode cX0_rise 21 = .ok (.getfield 15, 3) := by decide +kernel
theorem dX0_rise_24 : decode cX0_rise 24 = .ok (.iload_n 1, 1) := by decide +kernel
theorem dX0_rise_25 : decode cX0_rise 25 = .ok (.iaload, 1) := by decide +kernel
theorem dX0_rise_26 : decode cX0_rise 26 = .ok (.iload_n 2, 1) := by decide +kernel
theorem dX0_rise_27 : decode cX0_rise 27 = .ok (.iadd, 1) := by decide +kernel
theorem dX0_rise_28 : decode cX0_rise 28 = .ok (.aload_n 0, 1) := by decide +kernel
theorem dX0_rise_29 : decode cX0_rise 29 = .ok (.getfield 18, 3) := by decide +kernel
theorem dX0_rise_32 : decode cX0_rise 32 = .ok (.iload_n 1, 1) := by decide +kernel
theorem dX0_rise_33 : decode cX0_rise 33 = .ok (.iaload, 1) := by decide +kernel
theorem dX0_rise_34 : decode cX0_rise 34 = .ok (.if_icmp .ge 14, 3) := by decide +kernel
theorem dX0_rise_37 : decode cX0_rise 37 = .ok (.aload_n 0, 1) := by decide +kernel
theorem dX0_rise_38 : decode cX0_rise 38 = .ok (.getfield 15, 3) := by decide +kernel
theorem dX0_rise_41 : decode cX0_rise 41 = .ok (.iload_n 1, 1) := by decide +kernel
theorem dX0_rise_42 : decode cX0_rise 42 = .ok (.iaload, 1) := by decide +kernel
theorem dX0_rise_43 : decode cX0_rise 43 = .ok (.iload_n 2, 1) := by decide +kernel
theorem dX0_rise_44 : decode cX0_rise 44 = .ok (.iadd, 1) := by decide +kernel
theorem dX0_rise_45 : decode cX0_rise 45 = .ok (.goto 9, 3) := by decide +kernel
theorem dX0_rise_48 : decode cX0_rise 48 = .ok (.aload_n 0, 1) := by decide +kernel
theorem dX0_rise_49 : decode cX0_rise 49 = .ok (.getfield 18, 3) := by decide +kernel
theorem dX0_rise_52 : decode cX0_rise 52 = .ok (.iload_n 1, 1) := by decide +kernel
theorem dX0_rise_53 : decode cX0_rise 53 = .ok (.iaload, 1) := by decide +kernel
theorem dX0_rise_54 : decode cX0_rise 54 = .ok (.iastore, 1) := by decide +kernel
theorem dX0_rise_55 : decode cX0_rise 55 = .ok (.return_, 1) := by decide +kernel
theorem dX0_knowing_0 : decode cX0_knowing 0 = .ok (.iconst 0, 1) := by decide +kernel
theorem dX0_knowing_1 : decode cX0_knowing 1 = .ok (.istore_n 1, 1) := by decide +kernel
theorem dX0_knowing_2 : decode cX0_knowing 2 = .ok (.iconst 0, 1) := by decide +kernel
theorem dX0_knowing_3 : decode cX0_knowing 3 = .ok (.istore_n 2, 1) := by decide +kernel
theorem dX0_knowing_4 : decode cX0_knowing 4 = .ok (.iload_n 2, 1) := by decide +kernel
theorem dX0_knowing_5 : decode cX0_knowing 5 = .ok (.aload_n 0, 1) := by decide +kernel
theorem dX0_knowing_6 : decode cX0_knowing 6 = .ok (.getfield 34, 3) := by decide +kernel
theorem dX0_knowing_9 : decode cX0_knowing 9 = .ok (.if_icmp .ge 28, 3) := by decide +kernel
theorem dX0_knowing_12 : decode cX0_knowing 12 = .ok (.iload_n 1, 1) := by decide +kernel
theorem dX0_knowing_13 : decode cX0_knowing 13 = .ok (.aload_n 0, 1) := by decide +kernel
theorem dX0_knowing_14 : decode cX0_knowing 14 = .ok (.getfield 15, 3) := by decide +kernel
theorem dX0_knowing_17 : decode cX0_knowing 17 = .ok (.iload_n 2, 1) := by decide +kernel
theorem dX0_knowing_18 : decode cX0_knowing 18 = .ok (.iaload, 1) := by decide +kernel
theorem dX0_knowing_19 : decode cX0_knowing 19 = .ok (.bipush 9, 2) := by decide +kernel
theorem dX0_knowing_21 : decode cX0_knowing 21 = .ok (.if_icmp .ne 7, 3) := by decide +kernel
theorem dX0_knowing_24 : decode cX0_knowing 24 = .ok (.iconst 1, 1) := by decide +kernel
theorem dX0_knowing_25 : decode cX0_knowing 25 = .ok (.goto 4, 3) := by decide +kernel
theorem dX0_knowing_28 : decode cX0_knowing 28 = .ok (.iconst 0, 1) := by decide +kernel
theorem dX0_knowing_29 : decode cX0_knowing 29 = .ok (.iadd, 1) := by decide +kernel
theorem dX0_knowing_30 : decode cX0_knowing 30 = .ok (.istore_n 1, 1) := by decide +kernel
theorem dX0_knowing_31 : decode cX0_knowing 31 = .ok (.iinc 2 1, 3) := by decide +kernel
theorem dX0_knowing_34 : decode cX0_knowing 34 = .ok (.goto (-30), 3) := by decide +kernel
theorem dX0_knowing_37 : decode cX0_knowing 37 = .ok (.iload_n 1, 1) := by decide +kernel
theorem dX0_knowing_38 : decode cX0_knowing 38 = .ok (.ireturn, 1) := by decide +kernel
theorem dX0_isBarred_0 : decode cX0_isBarred 0 = .ok (.iconst 0, 1) := by decide +kernel
theorem dX0_isBarred_1 : decode cX0_isBarred 1 = .ok (.istore_n 1, 1) := by decide +kernel
theorem dX0_isBarred_2 : decode cX0_isBarred 2 = .ok (.iload_n 1, 1) := by decide +kernel
theorem dX0_isBarred_3 : decode cX0_isBarred 3 = .ok (.aload_n 0, 1) := by decide +kernel
theorem dX0_isBarred_4 : decode cX0_isBarred 4 = .ok (.getfield 34, 3) := by decide +kernel
theorem dX0_isBarred_7 : decode cX0_isBarred 7 = .ok (.if_icmp .ge 33, 3) := by decide +kernel
theorem dX0_isBarred_10 : decode cX0_isBarred 10 = .ok (.aload_n 0, 1) := by decide +kernel
theorem dX0_isBarred_11 : decode cX0_isBarred 11 = .ok (.getfield 15, 3) := by decide +kernel
theorem dX0_isBarred_14 : decode cX0_isBarred 14 = .ok (.iload_n 1, 1) := by decide +kernel
theorem dX0_isBarred_15 : decode cX0_isBarred 15 = .ok (.iaload, 1) := by decide +kernel
theorem dX0_isBarred_16 : decode cX0_isBarred 16 = .ok (.bipush 9, 2) := by decide +kernel
theorem dX0_isBarred_18 : decode cX0_isBarred 18 = .ok (.if_icmp .ge 16, 3) := by decide +kernel
theorem dX0_isBarred_21 : decode cX0_isBarred 21 = .ok (.aload_n 0, 1) := by decide +kernel
theorem dX0_isBarred_22 : decode cX0_isBarred 22 = .ok (.getfield 18, 3) := by decide +kernel
theorem dX0_isBarred_25 : decode cX0_isBarred 25 = .ok (.iload_n 1, 1) := by decide +kernel
theorem dX0_isBarred_26 : decode cX0_isBarred 26 = .ok (.iaload, 1) := by decide +kernel
theorem dX0_isBarred_27 : decode cX0_isBarred 27 = .ok (.bipush 9, 2) := by decide +kernel
theorem dX0_isBarred_29 : decode cX0_isBarred 29 = .ok (.if_icmp .ge 5, 3) := by decide +kernel
theorem dX0_isBarred_32 : decode cX0_isBarred 32 = .ok (.iconst 1, 1) := by decide +kernel
theorem dX0_isBarred_33 : decode cX0_isBarred 33 = .ok (.ireturn, 1) := by decide +kernel
theorem dX0_isBarred_34 : decode cX0_isBarred 34 = .ok (.iinc 1 1, 3) := by decide +kernel
theorem dX0_isBarred_37 : decode cX0_isBarred 37 = .ok (.goto (-35), 3) := by decide +kernel
theorem dX0_isBarred_40 : decode cX0_isBarred 40 = .ok (.iconst 0, 1) := by decide +kernel
theorem dX0_isBarred_41 : decode cX0_isBarred 41 = .ok (.ireturn, 1) := by decide +kernel
theorem dX0_after_0 : decode cX0_after 0 = .ok (.iload_n 1, 1) := by decide +kernel
theorem dX0_after_1 : decode cX0_after 1 = .ok (.iconst 1, 1) := by decide +kernel
theorem dX0_after_2 : decode cX0_after 2 = .ok (.iadd, 1) := by decide +kernel
theorem dX0_after_3 : decode cX0_after 3 = .ok (.aload_n 0, 1) := by decide +kernel
theorem dX0_after_4 : decode cX0_after 4 = .ok (.getfield 34, 3) := by decide +kernel
theorem dX0_after_7 : decode cX0_after 7 = .ok (.if_icmp .ge 9, 3) := by decide +kernel
theorem dX0_after_10 : decode cX0_after 10 = .ok (.iload_n 1, 1) := by decide +kernel
theorem dX0_after_11 : decode cX0_after 11 = .ok (.iconst 1, 1) := by decide +kernel
theorem dX0_after_12 : decode cX0_after 12 = .ok (.iadd, 1) := by decide +kernel
theorem dX0_after_13 : decode cX0_after 13 = .ok (.goto 4, 3) := by decide +kernel
theorem dX0_after_16 : decode cX0_after 16 = .ok (.iconst 0, 1) := by decide +kernel
theorem dX0_after_17 : decode cX0_after 17 = .ok (.ireturn, 1) := by decide +kernel
theorem dX0_chosen_0 : decode cX0_chosen 0 = .ok (.iload_n 1, 1) := by decide +kernel
theorem dX0_chosen_1 : decode cX0_chosen 1 = .ok (.ifCond .ne 10, 3) := by decide +kernel
theorem dX0_chosen_4 : decode cX0_chosen 4 = .ok (.aload_n 0, 1) := by decide +kernel
theorem dX0_chosen_5 : decode cX0_chosen 5 = .ok (.iconst (-1), 1) := by decide +kernel
theorem dX0_chosen_6 : decode cX0_chosen 6 = .ok (.iconst 0, 1) := by decide +kernel
theorem dX0_chosen_7 : decode cX0_chosen 7 = .ok (.invokevirtual 73, 3) := by decide +kernel
theorem dX0_chosen_10 : decode cX0_chosen 10 = .ok (.ireturn, 1) := by decide +kernel
theorem dX0_chosen_11 : decode cX0_chosen 11 = .ok (.iload_n 1, 1) := by decide +kernel
theorem dX0_chosen_12 : decode cX0_chosen 12 = .ok (.iconst 1, 1) := by decide +kernel
theorem dX0_chosen_13 : decode cX0_chosen 13 = .ok (.if_icmp .ne 7, 3) := by decide +kernel
theorem dX0_chosen_16 : decode cX0_chosen 16 = .ok (.iload_n 2, 1) := by decide +kernel
theorem dX0_chosen_17 : decode cX0_chosen 17 = .ok (.goto 9, 3) := by decide +kernel
theorem dX0_chosen_20 : decode cX0_chosen 20 = .ok (.aload_n 0, 1) := by decide +kernel
theorem dX0_chosen_21 : decode cX0_chosen 21 = .ok (.bipush 9, 2) := by decide +kernel
theorem dX0_chosen_23 : decode cX0_chosen 23 = .ok (.invokevirtual 76, 3) := by decide +kernel
theorem dX0_chosen_26 : decode cX0_chosen 26 = .ok (.ireturn, 1) := by decide +kernel
theorem dX0_least_0 : decode cX0_least 0 = .ok (.iconst 0, 1) := by decide +kernel
theorem dX0_least_1 : decode cX0_least 1 = .ok (.istore_n 3, 1) := by decide +kernel
theorem dX0_least_2 : decode cX0_least 2 = .ok (.bipush 10, 2) := by decide +kernel
theorem dX0_least_4 : decode cX0_least 4 = .ok (.istore 4, 2) := by decide +kernel
theorem dX0_least_6 : decode cX0_least 6 = .ok (.iconst 0, 1) := by decide +kernel
theorem dX0_least_7 : decode cX0_least 7 = .ok (.istore 5, 2) := by decide +kernel
theorem dX0_least_9 : decode cX0_least 9 = .ok (.iload 5, 2) := by decide +kernel
theorem dX0_least_11 : decode cX0_least 11 = .ok (.aload_n 0, 1) := by decide +kernel
theorem dX0_least_12 : decode cX0_least 12 = .ok (.getfield 34, 3) := by decide +kernel
theorem dX0_least_15 : decode cX0_least 15 = .ok (.if_icmp .ge 50, 3) := by decide +kernel
theorem dX0_least_18 : decode cX0_least 18 = .ok (.iload 5, 2) := by decide +kernel
theorem dX0_least_20 : decode cX0_least 20 = .ok (.iload_n 1, 1) := by decide +kernel
theorem dX0_least_21 : decode cX0_least 21 = .ok (.if_icmp .ne 15, 3) := by decide +kernel
theorem dX0_least_24 : decode cX0_least 24 = .ok (.aload_n 0, 1) := by decide +kernel
theorem dX0_least_25 : decode cX0_least 25 = .ok (.getfield 15, 3) := by decide +kernel
theorem dX0_least_28 : decode cX0_least 28 = .ok (.iload 5, 2) := by decide +kernel
theorem dX0_least_30 : decode cX0_least 30 = .ok (.iaload, 1) := by decide +kernel
theorem dX0_least_31 : decode cX0_least 31 = .ok (.iload_n 2, 1) := by decide +kernel
theorem dX0_least_32 : decode cX0_least 32 = .ok (.isub, 1) := by decide +kernel
theorem dX0_least_33 : decode cX0_least 33 = .ok (.goto 10, 3) := by decide +kernel
theorem dX0_least_36 : decode cX0_least 36 = .ok (.aload_n 0, 1) := by decide +kernel
theorem dX0_least_37 : decode cX0_least 37 = .ok (.getfield 15, 3) := by decide +kernel
theorem dX0_least_40 : decode cX0_least 40 = .ok (.iload 5, 2) := by decide +kernel
theorem dX0_least_42 : decode cX0_least 42 = .ok (.iaload, 1) := by decide +kernel
theorem dX0_least_43 : decode cX0_least 43 = .ok (.istore 6, 2) := by decide +kernel
theorem dX0_least_45 : decode cX0_least 45 = .ok (.iload 6, 2) := by decide +kernel
theorem dX0_least_47 : decode cX0_least 47 = .ok (.iload 4, 2) := by decide +kernel
theorem dX0_least_49 : decode cX0_least 49 = .ok (.if_icmp .ge 10, 3) := by decide +kernel
theorem dX0_least_52 : decode cX0_least 52 = .ok (.iload 5, 2) := by decide +kernel
theorem dX0_least_54 : decode cX0_least 54 = .ok (.istore_n 3, 1) := by decide +kernel
theorem dX0_least_55 : decode cX0_least 55 = .ok (.iload 6, 2) := by decide +kernel
theorem dX0_least_57 : decode cX0_least 57 = .ok (.istore 4, 2) := by decide +kernel
theorem dX0_least_59 : decode cX0_least 59 = .ok (.iinc 5 1, 3) := by decide +kernel
theorem dX0_least_62 : decode cX0_least 62 = .ok (.goto (-53), 3) := by decide +kernel
theorem dX0_least_65 : decode cX0_least 65 = .ok (.iload_n 3, 1) := by decide +kernel
theorem dX0_least_66 : decode cX0_least 66 = .ok (.ireturn, 1) := by decide +kernel
theorem dX0_greatestBelow_0 : decode cX0_greatestBelow 0 = .ok (.iconst 0, 1) := by decide +kernel
theorem dX0_greatestBelow_1 : decode cX0_greatestBelow 1 = .ok (.istore_n 2, 1) := by decide +kernel
theorem dX0_greatestBelow_2 : decode cX0_greatestBelow 2 = .ok (.iconst (-1), 1) := by decide +kernel
theorem dX0_greatestBelow_3 : decode cX0_greatestBelow 3 = .ok (.istore_n 3, 1) := by decide +kernel
theorem dX0_greatestBelow_4 : decode cX0_greatestBelow 4 = .ok (.iconst 0, 1) := by decide +kernel
theorem dX0_greatestBelow_5 : decode cX0_greatestBelow 5 = .ok (.istore 4, 2) := by decide +kernel
theorem dX0_greatestBelow_7 : decode cX0_greatestBelow 7 = .ok (.iload 4, 2) := by decide +kernel
theorem dX0_greatestBelow_9 : decode cX0_greatestBelow 9 = .ok (.aload_n 0, 1) := by decide +kernel
theorem dX0_greatestBelow_10 : decode cX0_greatestBelow 10 = .ok (.getfield 34, 3) := by decide +kernel
theorem dX0_greatestBelow_13 : decode cX0_greatestBelow 13 = .ok (.if_icmp .ge 42, 3) := by decide +kernel
theorem dX0_greatestBelow_16 : decode cX0_greatestBelow 16 = .ok (.aload_n 0, 1) := by decide +kernel
theorem dX0_greatestBelow_17 : decode cX0_greatestBelow 17 = .ok (.getfield 15, 3) := by decide +kernel
theorem dX0_greatestBelow_20 : decode cX0_greatestBelow 20 = .ok (.iload 4, 2) := by decide +kernel
theorem dX0_greatestBelow_22 : decode cX0_greatestBelow 22 = .ok (.iaload, 1) := by decide +kernel
theorem dX0_greatestBelow_23 : decode cX0_greatestBelow 23 = .ok (.iload_n 1, 1) := by decide +kernel
theorem dX0_greatestBelow_24 : decode cX0_greatestBelow 24 = .ok (.if_icmp .ge 25, 3) := by decide +kernel
theorem dX0_greatestBelow_27 : decode cX0_greatestBelow 27 = .ok (.aload_n 0, 1) := by decide +kernel
theorem dX0_greatestBelow_28 : decode cX0_greatestBelow 28 = .ok (.getfield 15, 3) := by decide +kernel
theorem dX0_greatestBelow_31 : decode cX0_greatestBelow 31 = .ok (.iload 4, 2) := by decide +kernel
theorem dX0_greatestBelow_33 : decode cX0_greatestBelow 33 = .ok (.iaload, 1) := by decide +kernel
theorem dX0_greatestBelow_34 : decode cX0_greatestBelow 34 = .ok (.iload_n 3, 1) := by decide +kernel
theorem dX0_greatestBelow_35 : decode cX0_greatestBelow 35 = .ok (.if_icmp .le 14, 3) := by decide +kernel
theorem dX0_greatestBelow_38 : decode cX0_greatestBelow 38 = .ok (.iload 4, 2) := by decide +kernel
theorem dX0_greatestBelow_40 : decode cX0_greatestBelow 40 = .ok (.istore_n 2, 1) := by decide +kernel
theorem dX0_greatestBelow_41 : decode cX0_greatestBelow 41 = .ok (.aload_n 0, 1) := by decide +kernel
theorem dX0_greatestBelow_42 : decode cX0_greatestBelow 42 = .ok (.getfield 15, 3) := by decide +kernel
theorem dX0_greatestBelow_45 : decode cX0_greatestBelow 45 = .ok (.iload 4, 2) := by decide +kernel
theorem dX0_greatestBelow_47 : decode cX0_greatestBelow 47 = .ok (.iaload, 1) := by decide +kernel
theorem dX0_greatestBelow_48 : decode cX0_greatestBelow 48 = .ok (.istore_n 3, 1) := by decide +kernel
theorem dX0_greatestBelow_49 : decode cX0_greatestBelow 49 = .ok (.iinc 4 1, 3) := by decide +kernel
theorem dX0_greatestBelow_52 : decode cX0_greatestBelow 52 = .ok (.goto (-45), 3) := by decide +kernel
theorem dX0_greatestBelow_55 : decode cX0_greatestBelow 55 = .ok (.iload_n 2, 1) := by decide +kernel
theorem dX0_greatestBelow_56 : decode cX0_greatestBelow 56 = .ok (.ireturn, 1) := by decide +kernel
theorem dX0_tell_0 : decode cX0_tell 0 = .ok (.aload_n 0, 1) := by decide +kernel
theorem dX0_tell_1 : decode cX0_tell 1 = .ok (.getfield 15, 3) := by decide +kernel
theorem dX0_tell_4 : decode cX0_tell 4 = .ok (.aload_n 0, 1) := by decide +kernel
theorem dX0_tell_5 : decode cX0_tell 5 = .ok (.bipush 10, 2) := by decide +kernel
theorem dX0_tell_7 : decode cX0_tell 7 = .ok (.invokevirtual 76, 3) := by decide +kernel
theorem dX0_tell_10 : decode cX0_tell 10 = .ok (.iaload, 1) := by decide +kernel
theorem dX0_tell_11 : decode cX0_tell 11 = .ok (.istore_n 1, 1) := by decide +kernel
theorem dX0_tell_12 : decode cX0_tell 12 = .ok (.iconst 0, 1) := by decide +kernel
theorem dX0_tell_13 : decode cX0_tell 13 = .ok (.istore_n 2, 1) := by decide +kernel
theorem dX0_tell_14 : decode cX0_tell 14 = .ok (.iconst 0, 1) := by decide +kernel
theorem dX0_tell_15 : decode cX0_tell 15 = .ok (.istore_n 3, 1) := by decide +kernel
theorem dX0_tell_16 : decode cX0_tell 16 = .ok (.iload_n 3, 1) := by decide +kernel
theorem dX0_tell_17 : decode cX0_tell 17 = .ok (.aload_n 0, 1) := by decide +kernel
theorem dX0_tell_18 : decode cX0_tell 18 = .ok (.getfield 34, 3) := by decide +kernel
theorem dX0_tell_21 : decode cX0_tell 21 = .ok (.if_icmp .ge 40, 3) := by decide +kernel
theorem dX0_tell_24 : decode cX0_tell 24 = .ok (.aload_n 0, 1) := by decide +kernel
theorem dX0_tell_25 : decode cX0_tell 25 = .ok (.getfield 15, 3) := by decide +kernel
theorem dX0_tell_28 : decode cX0_tell 28 = .ok (.iload_n 3, 1) := by decide +kernel
theorem dX0_tell_29 : decode cX0_tell 29 = .ok (.iaload, 1) := by decide +kernel
theorem dX0_tell_30 : decode cX0_tell 30 = .ok (.iload_n 1, 1) := by decide +kernel
theorem dX0_tell_31 : decode cX0_tell 31 = .ok (.if_icmp .ge 24, 3) := by decide +kernel
theorem dX0_tell_34 : decode cX0_tell 34 = .ok (.aload_n 0, 1) := by decide +kernel
theorem dX0_tell_35 : decode cX0_tell 35 = .ok (.iload_n 3, 1) := by decide +kernel
theorem dX0_tell_36 : decode cX0_tell 36 = .ok (.invokevirtual 80, 3) := by decide +kernel
theorem dX0_tell_39 : decode cX0_tell 39 = .ok (.ifCond .le 16, 3) := by decide +kernel
theorem dX0_tell_42 : decode cX0_tell 42 = .ok (.aload_n 0, 1) := by decide +kernel
theorem dX0_tell_43 : decode cX0_tell 43 = .ok (.getfield 15, 3) := by decide +kernel
theorem dX0_tell_46 : decode cX0_tell 46 = .ok (.iload_n 3, 1) := by decide +kernel
theorem dX0_tell_47 : decode cX0_tell 47 = .ok (.dup2, 1) := by decide +kernel
theorem dX0_tell_48 : decode cX0_tell 48 = .ok (.iaload, 1) := by decide +kernel
theorem dX0_tell_49 : decode cX0_tell 49 = .ok (.iconst 1, 1) := by decide +kernel
theorem dX0_tell_50 : decode cX0_tell 50 = .ok (.iadd, 1) := by decide +kernel
theorem dX0_tell_51 : decode cX0_tell 51 = .ok (.iastore, 1) := by decide +kernel
theorem dX0_tell_52 : decode cX0_tell 52 = .ok (.iinc 2 1, 3) := by decide +kernel
theorem dX0_tell_55 : decode cX0_tell 55 = .ok (.iinc 3 1, 3) := by decide +kernel
theorem dX0_tell_58 : decode cX0_tell 58 = .ok (.goto (-42), 3) := by decide +kernel
theorem dX0_tell_61 : decode cX0_tell 61 = .ok (.iload_n 2, 1) := by decide +kernel
theorem dX0_tell_62 : decode cX0_tell 62 = .ok (.ireturn, 1) := by decide +kernel
theorem dX0_rightChance_0 : decode cX0_rightChance 0 = .ok (.bipush 10, 2) := by decide +kernel
theorem dX0_rightChance_2 : decode cX0_rightChance 2 = .ok (.aload_n 0, 1) := by decide +kernel
theorem dX0_rightChance_3 : decode cX0_rightChance 3 = .ok (.getfield 15, 3) := by decide +kernel
theorem dX0_rightChance_6 : decode cX0_rightChance 6 = .ok (.iload_n 1, 1) := by decide +kernel
theorem dX0_rightChance_7 : decode cX0_rightChance 7 = .ok (.iaload, 1) := by decide +kernel
theorem dX0_rightChance_8 : decode cX0_rightChance 8 = .ok (.imul, 1) := by decide +kernel
theorem dX0_rightChance_9 : decode cX0_rightChance 9 = .ok (.iconst 5, 1) := by decide +kernel
theorem dX0_rightChance_10 : decode cX0_rightChance 10 = .ok (.iadd, 1) := by decide +kernel
theorem dX0_rightChance_11 : decode cX0_rightChance 11 = .ok (.ireturn, 1) := by decide +kernel
theorem dX0_isSurer_0 : decode cX0_isSurer 0 = .ok (.iload_n 1, 1) := by decide +kernel
theorem dX0_isSurer_1 : decode cX0_isSurer 1 = .ok (.iload_n 2, 1) := by decide +kernel
theorem dX0_isSurer_2 : decode cX0_isSurer 2 = .ok (.if_icmp .eq 22, 3) := by decide +kernel
theorem dX0_isSurer_5 : decode cX0_isSurer 5 = .ok (.aload_n 0, 1) := by decide +kernel
theorem dX0_isSurer_6 : decode cX0_isSurer 6 = .ok (.getfield 15, 3) := by decide +kernel
theorem dX0_isSurer_9 : decode cX0_isSurer 9 = .ok (.iload_n 1, 1) := by decide +kernel
theorem dX0_isSurer_10 : decode cX0_isSurer 10 = .ok (.iaload, 1) := by decide +kernel
theorem dX0_isSurer_11 : decode cX0_isSurer 11 = .ok (.aload_n 0, 1) := by decide +kernel
theorem dX0_isSurer_12 : decode cX0_isSurer 12 = .ok (.getfield 15, 3) := by decide +kernel
theorem dX0_isSurer_15 : decode cX0_isSurer 15 = .ok (.iload_n 2, 1) := by decide +kernel
theorem dX0_isSurer_16 : decode cX0_isSurer 16 = .ok (.iaload, 1) := by decide +kernel
theorem dX0_isSurer_17 : decode cX0_isSurer 17 = .ok (.if_icmp .le 7, 3) := by decide +kernel
theorem dX0_isSurer_20 : decode cX0_isSurer 20 = .ok (.iconst 1, 1) := by decide +kernel
theorem dX0_isSurer_21 : decode cX0_isSurer 21 = .ok (.goto 4, 3) := by decide +kernel
theorem dX0_isSurer_24 : decode cX0_isSurer 24 = .ok (.iconst 0, 1) := by decide +kernel
theorem dX0_isSurer_25 : decode cX0_isSurer 25 = .ok (.ireturn, 1) := by decide +kernel
theorem dX0_isGuestSurer_0 : decode cX0_isGuestSurer 0 = .ok (.aload_n 0, 1) := by decide +kernel
theorem dX0_isGuestSurer_1 : decode cX0_isGuestSurer 1 = .ok (.getfield 47, 3) := by decide +kernel
theorem dX0_isGuestSurer_4 : decode cX0_isGuestSurer 4 = .ok (.ifCond .eq 18, 3) := by decide +kernel
theorem dX0_isGuestSurer_7 : decode cX0_isGuestSurer 7 = .ok (.aload_n 0, 1) := by decide +kernel
theorem dX0_isGuestSurer_8 : decode cX0_isGuestSurer 8 = .ok (.getfield 15, 3) := by decide +kernel
theorem dX0_isGuestSurer_11 : decode cX0_isGuestSurer 11 = .ok (.iload_n 1, 1) := by decide +kernel
theorem dX0_isGuestSurer_12 : decode cX0_isGuestSurer 12 = .ok (.iaload, 1) := by decide +kernel
theorem dX0_isGuestSurer_13 : decode cX0_isGuestSurer 13 = .ok (.bipush 9, 2) := by decide +kernel
theorem dX0_isGuestSurer_15 : decode cX0_isGuestSurer 15 = .ok (.if_icmp .ge 7, 3) := by decide +kernel
theorem dX0_isGuestSurer_18 : decode cX0_isGuestSurer 18 = .ok (.iconst 1, 1) := by decide +kernel
theorem dX0_isGuestSurer_19 : decode cX0_isGuestSurer 19 = .ok (.goto 4, 3) := by decide +kernel
theorem dX0_isGuestSurer_22 : decode cX0_isGuestSurer 22 = .ok (.iconst 0, 1) := by decide +kernel
theorem dX0_isGuestSurer_23 : decode cX0_isGuestSurer 23 = .ok (.ireturn, 1) := by decide +kernel
theorem dX0_noChance_0 : decode cX0_noChance 0 = .ok (.iload_n 2, 1) := by decide +kernel
theorem dX0_noChance_1 : decode cX0_noChance 1 = .ok (.ifCond .eq 12, 3) := by decide +kernel
theorem dX0_noChance_4 : decode cX0_noChance 4 = .ok (.iconst 5, 1) := by decide +kernel
theorem dX0_noChance_5 : decode cX0_noChance 5 = .ok (.bipush 9, 2) := by decide +kernel
theorem dX0_noChance_7 : decode cX0_noChance 7 = .ok (.iload_n 1, 1) := by decide +kernel
theorem dX0_noChance_8 : decode cX0_noChance 8 = .ok (.isub, 1) := by decide +kernel
theorem dX0_noChance_9 : decode cX0_noChance 9 = .ok (.imul, 1) := by decide +kernel
theorem dX0_noChance_10 : decode cX0_noChance 10 = .ok (.goto 7, 3) := by decide +kernel
theorem dX0_noChance_13 : decode cX0_noChance 13 = .ok (.bipush 10, 2) := by decide +kernel
theorem dX0_noChance_15 : decode cX0_noChance 15 = .ok (.iload_n 1, 1) := by decide +kernel
theorem dX0_noChance_16 : decode cX0_noChance 16 = .ok (.imul, 1) := by decide +kernel
theorem dX0_noChance_17 : decode cX0_noChance 17 = .ok (.ireturn, 1) := by decide +kernel
theorem dX0_mayBelieve_0 : decode cX0_mayBelieve 0 = .ok (.iload_n 1, 1) := by decide +kernel
theorem dX0_mayBelieve_1 : decode cX0_mayBelieve 1 = .ok (.iload_n 2, 1) := by decide +kernel
theorem dX0_mayBelieve_2 : decode cX0_mayBelieve 2 = .ok (.if_icmp .eq 28, 3) := by decide +kernel
theorem dX0_mayBelieve_5 : decode cX0_mayBelieve 5 = .ok (.aload_n 0, 1) := by decide +kernel
theorem dX0_mayBelieve_6 : decode cX0_mayBelieve 6 = .ok (.getfield 15, 3) := by decide +kernel
theorem dX0_mayBelieve_9 : decode cX0_mayBelieve 9 = .ok (.iload_n 1, 1) := by decide +kernel
theorem dX0_mayBelieve_10 : decode cX0_mayBelieve 10 = .ok (.iaload, 1) := by decide +kernel
theorem dX0_mayBelieve_11 : decode cX0_mayBelieve 11 = .ok (.iconst 1, 1) := by decide +kernel
theorem dX0_mayBelieve_12 : decode cX0_mayBelieve 12 = .ok (.if_icmp .lt 18, 3) := by decide +kernel
theorem dX0_mayBelieve_15 : decode cX0_mayBelieve 15 = .ok (.aload_n 0, 1) := by decide +kernel
theorem dX0_mayBelieve_16 : decode cX0_mayBelieve 16 = .ok (.getfield 15, 3) := by decide +kernel
theorem dX0_mayBelieve_19 : decode cX0_mayBelieve 19 = .ok (.iload_n 1, 1) := by decide +kernel
theorem dX0_mayBelieve_20 : decode cX0_mayBelieve 20 = .ok (.iaload, 1) := by decide +kernel
theorem dX0_mayBelieve_21 : decode cX0_mayBelieve 21 = .ok (.bipush 6, 2) := by decide +kernel
theorem dX0_mayBelieve_23 : decode cX0_mayBelieve 23 = .ok (.if_icmp .gt 7, 3) := by decide +kernel
theorem dX0_mayBelieve_26 : decode cX0_mayBelieve 26 = .ok (.iconst 1, 1) := by decide +kernel
theorem dX0_mayBelieve_27 : decode cX0_mayBelieve 27 = .ok (.goto 4, 3) := by decide +kernel
theorem dX0_mayBelieve_30 : decode cX0_mayBelieve 30 = .ok (.iconst 0, 1) := by decide +kernel
theorem dX0_mayBelieve_31 : decode cX0_mayBelieve 31 = .ok (.ireturn, 1) := by decide +kernel
theorem dX0_comes_0 : decode cX0_comes 0 = .ok (.iload_n 2, 1) := by decide +kernel
theorem dX0_comes_1 : decode cX0_comes 1 = .ok (.ifCond .ne 15, 3) := by decide +kernel
theorem dX0_comes_4 : decode cX0_comes 4 = .ok (.iload_n 1, 1) := by decide +kernel
theorem dX0_comes_5 : decode cX0_comes 5 = .ok (.bipush 50, 2) := by decide +kernel
theorem dX0_comes_7 : decode cX0_comes 7 = .ok (.if_icmp .lt 7, 3) := by decide +kernel
theorem dX0_comes_10 : decode cX0_comes 10 = .ok (.iconst 1, 1) := by decide +kernel
theorem dX0_comes_11 : decode cX0_comes 11 = .ok (.goto 4, 3) := by decide +kernel
theorem dX0_comes_14 : decode cX0_comes 14 = .ok (.iconst 0, 1) := by decide +kernel
theorem dX0_comes_15 : decode cX0_comes 15 = .ok (.ireturn, 1) := by decide +kernel
theorem dX0_comes_16 : decode cX0_comes 16 = .ok (.aload_n 0, 1) := by decide +kernel
theorem dX0_comes_17 : decode cX0_comes 17 = .ok (.aload_n 0, 1) := by decide +kernel
theorem dX0_comes_18 : decode cX0_comes 18 = .ok (.getfield 51, 3) := by decide +kernel
theorem dX0_comes_21 : decode cX0_comes 21 = .ok (.i2l, 1) := by decide +kernel
theorem dX0_comes_22 : decode cX0_comes 22 = .ok (.ldc2_w 83, 3) := by decide +kernel
theorem dX0_comes_25 : decode cX0_comes 25 = .ok (.lmul, 1) := by decide +kernel
theorem dX0_comes_26 : decode cX0_comes 26 = .ok (.ldc2_w 85, 3) := by decide +kernel
theorem dX0_comes_29 : decode cX0_comes 29 = .ok (.ladd, 1) := by decide +kernel
theorem dX0_comes_30 : decode cX0_comes 30 = .ok (.ldc2_w 87, 3) := by decide +kernel
theorem dX0_comes_33 : decode cX0_comes 33 = .ok (.land, 1) := by decide +kernel
theorem dX0_comes_34 : decode cX0_comes 34 = .ok (.l2i, 1) := by decide +kernel
theorem dX0_comes_35 : decode cX0_comes 35 = .ok (.putfield 51, 3) := by decide +kernel
theorem dX0_comes_38 : decode cX0_comes 38 = .ok (.aload_n 0, 1) := by decide +kernel
theorem dX0_comes_39 : decode cX0_comes 39 = .ok (.getfield 51, 3) := by decide +kernel
theorem dX0_comes_42 : decode cX0_comes 42 = .ok (.ldc 89, 2) := by decide +kernel
theorem dX0_comes_44 : decode cX0_comes 44 = .ok (.idiv, 1) := by decide +kernel
theorem dX0_comes_45 : decode cX0_comes 45 = .ok (.bipush 100, 2) := by decide +kernel
theorem dX0_comes_47 : decode cX0_comes 47 = .ok (.irem, 1) := by decide +kernel
theorem dX0_comes_48 : decode cX0_comes 48 = .ok (.iload_n 1, 1) := by decide +kernel
theorem dX0_comes_49 : decode cX0_comes 49 = .ok (.if_icmp .ge 7, 3) := by decide +kernel
theorem dX0_comes_52 : decode cX0_comes 52 = .ok (.iconst 1, 1) := by decide +kernel
theorem dX0_comes_53 : decode cX0_comes 53 = .ok (.goto 4, 3) := by decide +kernel
theorem dX0_comes_56 : decode cX0_comes 56 = .ok (.iconst 0, 1) := by decide +kernel
theorem dX0_comes_57 : decode cX0_comes 57 = .ok (.ireturn, 1) := by decide +kernel
theorem dX0_hold_0 : decode cX0_hold 0 = .ok (.aload_n 0, 1) := by decide +kernel
theorem dX0_hold_1 : decode cX0_hold 1 = .ok (.aload_n 0, 1) := by decide +kernel
theorem dX0_hold_2 : decode cX0_hold 2 = .ok (.iload_n 1, 1) := by decide +kernel
theorem dX0_hold_3 : decode cX0_hold 3 = .ok (.invokevirtual 90, 3) := by decide +kernel
theorem dX0_hold_6 : decode cX0_hold 6 = .ok (.iload_n 2, 1) := by decide +kernel
theorem dX0_hold_7 : decode cX0_hold 7 = .ok (.invokevirtual 93, 3) := by decide +kernel
theorem dX0_hold_10 : decode cX0_hold 10 = .ok (.istore_n 3, 1) := by decide +kernel
theorem dX0_hold_11 : decode cX0_hold 11 = .ok (.iconst 0, 1) := by decide +kernel
theorem dX0_hold_12 : decode cX0_hold 12 = .ok (.istore 4, 2) := by decide +kernel
theorem dX0_hold_14 : decode cX0_hold 14 = .ok (.iconst 0, 1) := by decide +kernel
theorem dX0_hold_15 : decode cX0_hold 15 = .ok (.istore 5, 2) := by decide +kernel
theorem dX0_hold_17 : decode cX0_hold 17 = .ok (.iload 5, 2) := by decide +kernel
theorem dX0_hold_19 : decode cX0_hold 19 = .ok (.aload_n 0, 1) := by decide +kernel
theorem dX0_hold_20 : decode cX0_hold 20 = .ok (.getfield 34, 3) := by decide +kernel
theorem dX0_hold_23 : decode cX0_hold 23 = .ok (.if_icmp .ge 73, 3) := by decide +kernel
theorem dX0_hold_26 : decode cX0_hold 26 = .ok (.aload_n 0, 1) := by decide +kernel
theorem dX0_hold_27 : decode cX0_hold 27 = .ok (.getfield 30, 3) := by decide +kernel
theorem dX0_hold_30 : decode cX0_hold 30 = .ok (.iload 5, 2) := by decide +kernel
theorem dX0_hold_32 : decode cX0_hold 32 = .ok (.aload_n 0, 1) := by decide +kernel
theorem dX0_hold_33 : decode cX0_hold 33 = .ok (.iload 5, 2) := by decide +kernel
theorem dX0_hold_35 : decode cX0_hold 35 = .ok (.iload_n 1, 1) := by decide +kernel
theorem dX0_hold_36 : decode cX0_hold 36 = .ok (.invokevirtual 97, 3) := by decide +kernel
theorem dX0_hold_39 : decode cX0_hold 39 = .ok (.ifCond .eq 27, 3) := by decide +kernel
theorem dX0_hold_42 : decode cX0_hold 42 = .ok (.aload_n 0, 1) := by decide +kernel
theorem dX0_hold_43 : decode cX0_hold 43 = .ok (.aload_n 0, 1) := by decide +kernel
theorem dX0_hold_44 : decode cX0_hold 44 = .ok (.aload_n 0, 1) := by decide +kernel
theorem dX0_hold_45 : decode cX0_hold 45 = .ok (.getfield 15, 3) := by decide +kernel
theorem dX0_hold_48 : decode cX0_hold 48 = .ok (.iload 5, 2) := by decide +kernel
theorem dX0_hold_50 : decode cX0_hold 50 = .ok (.iaload, 1) := by decide +kernel
theorem dX0_hold_51 : decode cX0_hold 51 = .ok (.iload_n 3, 1) := by decide +kernel
theorem dX0_hold_52 : decode cX0_hold 52 = .ok (.invokevirtual 101, 3) := by decide +kernel
theorem dX0_hold_55 : decode cX0_hold 55 = .ok (.iload_n 2, 1) := by decide +kernel
theorem dX0_hold_56 : decode cX0_hold 56 = .ok (.invokevirtual 93, 3) := by decide +kernel
theorem dX0_hold_59 : decode cX0_hold 59 = .ok (.ifCond .eq 7, 3) := by decide +kernel
theorem dX0_hold_62 : decode cX0_hold 62 = .ok (.iconst 1, 1) := by decide +kernel
theorem dX0_hold_63 : decode cX0_hold 63 = .ok (.goto 4, 3) := by decide +kernel
theorem dX0_hold_66 : decode cX0_hold 66 = .ok (.iconst 0, 1) := by decide +kernel
theorem dX0_hold_67 : decode cX0_hold 67 = .ok (.bastore, 1) := by decide +kernel
theorem dX0_hold_68 : decode cX0_hold 68 = .ok (.iload 4, 2) := by decide +kernel
theorem dX0_hold_70 : decode cX0_hold 70 = .ok (.ifCond .ne 13, 3) := by decide +kernel
theorem dX0_hold_73 : decode cX0_hold 73 = .ok (.aload_n 0, 1) := by decide +kernel
theorem dX0_hold_74 : decode cX0_hold 74 = .ok (.getfield 30, 3) := by decide +kernel
theorem dX0_hold_77 : decode cX0_hold 77 = .ok (.iload 5, 2) := by decide +kernel
theorem dX0_hold_79 : decode cX0_hold 79 = .ok (.baload, 1) := by decide +kernel
theorem dX0_hold_80 : decode cX0_hold 80 = .ok (.ifCond .eq 7, 3) := by decide +kernel
theorem dX0_hold_83 : decode cX0_hold 83 = .ok (.iconst 1, 1) := by decide +kernel
theorem dX0_hold_84 : decode cX0_hold 84 = .ok (.goto 4, 3) := by decide +kernel
theorem dX0_hold_87 : decode cX0_hold 87 = .ok (.iconst 0, 1) := by decide +kernel
theorem dX0_hold_88 : decode cX0_hold 88 = .ok (.istore 4, 2) := by decide +kernel
theorem dX0_hold_90 : decode cX0_hold 90 = .ok (.iinc 5 1, 3) := by decide +kernel
theorem dX0_hold_93 : decode cX0_hold 93 = .ok (.goto (-76), 3) := by decide +kernel
theorem dX0_hold_96 : decode cX0_hold 96 = .ok (.aload_n 0, 1) := by decide +kernel
theorem dX0_hold_97 : decode cX0_hold 97 = .ok (.iload_n 1, 1) := by decide +kernel
theorem dX0_hold_98 : decode cX0_hold 98 = .ok (.invokevirtual 105, 3) := by decide +kernel
theorem dX0_hold_101 : decode cX0_hold 101 = .ok (.ifCond .eq 21, 3) := by decide +kernel
theorem dX0_hold_104 : decode cX0_hold 104 = .ok (.aload_n 0, 1) := by decide +kernel
theorem dX0_hold_105 : decode cX0_hold 105 = .ok (.aload_n 0, 1) := by decide +kernel
theorem dX0_hold_106 : decode cX0_hold 106 = .ok (.bipush 9, 2) := by decide +kernel
theorem dX0_hold_108 : decode cX0_hold 108 = .ok (.iload_n 3, 1) := by decide +kernel
theorem dX0_hold_109 : decode cX0_hold 109 = .ok (.invokevirtual 101, 3) := by decide +kernel
theorem dX0_hold_112 : decode cX0_hold 112 = .ok (.iload_n 2, 1) := by decide +kernel
theorem dX0_hold_113 : decode cX0_hold 113 = .ok (.invokevirtual 93, 3) := by decide +kernel
theorem dX0_hold_116 : decode cX0_hold 116 = .ok (.ifCond .eq 6, 3) := by decide +kernel
theorem dX0_hold_119 : decode cX0_hold 119 = .ok (.iconst 1, 1) := by decide +kernel
theorem dX0_hold_120 : decode cX0_hold 120 = .ok (.istore 4, 2) := by decide +kernel
theorem dX0_hold_122 : decode cX0_hold 122 = .ok (.iload_n 3, 1) := by decide +kernel
theorem dX0_hold_123 : decode cX0_hold 123 = .ok (.ifCond .eq 23, 3) := by decide +kernel
theorem dX0_hold_126 : decode cX0_hold 126 = .ok (.iload 4, 2) := by decide +kernel
theorem dX0_hold_128 : decode cX0_hold 128 = .ok (.ifCond .eq 12, 3) := by decide +kernel
theorem dX0_hold_131 : decode cX0_hold 131 = .ok (.aload_n 0, 1) := by decide +kernel
theorem dX0_hold_132 : decode cX0_hold 132 = .ok (.iload_n 1, 1) := by decide +kernel
theorem dX0_hold_133 : decode cX0_hold 133 = .ok (.iload_n 2, 1) := by decide +kernel
theorem dX0_hold_134 : decode cX0_hold 134 = .ok (.invokevirtual 109, 3) := by decide +kernel
theorem dX0_hold_137 : decode cX0_hold 137 = .ok (.goto 8, 3) := by decide +kernel
theorem dX0_hold_140 : decode cX0_hold 140 = .ok (.aload_n 0, 1) := by decide +kernel
theorem dX0_hold_141 : decode cX0_hold 141 = .ok (.iload_n 1, 1) := by decide +kernel
theorem dX0_hold_142 : decode cX0_hold 142 = .ok (.invokevirtual 112, 3) := by decide +kernel
theorem dX0_hold_145 : decode cX0_hold 145 = .ok (.ireturn, 1) := by decide +kernel
theorem dX0_hold_146 : decode cX0_hold 146 = .ok (.iload 4, 2) := by decide +kernel
theorem dX0_hold_148 : decode cX0_hold 148 = .ok (.ifCond .eq 11, 3) := by decide +kernel
theorem dX0_hold_151 : decode cX0_hold 151 = .ok (.aload_n 0, 1) := by decide +kernel
theorem dX0_hold_152 : decode cX0_hold 152 = .ok (.iload_n 1, 1) := by decide +kernel
theorem dX0_hold_153 : decode cX0_hold 153 = .ok (.invokevirtual 115, 3) := by decide +kernel
theorem dX0_hold_156 : decode cX0_hold 156 = .ok (.goto 9, 3) := by decide +kernel
theorem dX0_hold_159 : decode cX0_hold 159 = .ok (.aload_n 0, 1) := by decide +kernel
theorem dX0_hold_160 : decode cX0_hold 160 = .ok (.iload_n 1, 1) := by decide +kernel
theorem dX0_hold_161 : decode cX0_hold 161 = .ok (.iload_n 2, 1) := by decide +kernel
theorem dX0_hold_162 : decode cX0_hold 162 = .ok (.invokevirtual 118, 3) := by decide +kernel
theorem dX0_hold_165 : decode cX0_hold 165 = .ok (.ireturn, 1) := by decide +kernel
theorem dX0_endCorrected_0 : decode cX0_endCorrected 0 = .ok (.aload_n 0, 1) := by decide +kernel
theorem dX0_endCorrected_1 : decode cX0_endCorrected 1 = .ok (.iload_n 1, 1) := by decide +kernel
theorem dX0_endCorrected_2 : decode cX0_endCorrected 2 = .ok (.aload_n 0, 1) := by decide +kernel
theorem dX0_endCorrected_3 : decode cX0_endCorrected 3 = .ok (.getfield 21, 3) := by decide +kernel
theorem dX0_endCorrected_6 : decode cX0_endCorrected 6 = .ok (.iload_n 1, 1) := by decide +kernel
theorem dX0_endCorrected_7 : decode cX0_endCorrected 7 = .ok (.iaload, 1) := by decide +kernel
theorem dX0_endCorrected_8 : decode cX0_endCorrected 8 = .ok (.invokevirtual 121, 3) := by decide +kernel
theorem dX0_endCorrected_11 : decode cX0_endCorrected 11 = .ok (.iconst 0, 1) := by decide +kernel
theorem dX0_endCorrected_12 : decode cX0_endCorrected 12 = .ok (.istore_n 2, 1) := by decide +kernel
theorem dX0_endCorrected_13 : decode cX0_endCorrected 13 = .ok (.iload_n 2, 1) := by decide +kernel
theorem dX0_endCorrected_14 : decode cX0_endCorrected 14 = .ok (.aload_n 0, 1) := by decide +kernel
theorem dX0_endCorrected_15 : decode cX0_endCorrected 15 = .ok (.getfield 34, 3) := by decide +kernel
theorem dX0_endCorrected_18 : decode cX0_endCorrected 18 = .ok (.if_icmp .ge 24, 3) := by decide +kernel
theorem dX0_endCorrected_21 : decode cX0_endCorrected 21 = .ok (.aload_n 0, 1) := by decide +kernel
theorem dX0_endCorrected_22 : decode cX0_endCorrected 22 = .ok (.getfield 30, 3) := by decide +kernel
theorem dX0_endCorrected_25 : decode cX0_endCorrected 25 = .ok (.iload_n 2, 1) := by decide +kernel
theorem dX0_endCorrected_26 : decode cX0_endCorrected 26 = .ok (.baload, 1) := by decide +kernel
theorem dX0_endCorrected_27 : decode cX0_endCorrected 27 = .ok (.ifCond .eq 9, 3) := by decide +kernel
theorem dX0_endCorrected_30 : decode cX0_endCorrected 30 = .ok (.aload_n 0, 1) := by decide +kernel
theorem dX0_endCorrected_31 : decode cX0_endCorrected 31 = .ok (.iload_n 2, 1) := by decide +kernel
theorem dX0_endCorrected_32 : decode cX0_endCorrected 32 = .ok (.iconst 1, 1) := by decide +kernel
theorem dX0_endCorrected_33 : decode cX0_endCorrected 33 = .ok (.invokevirtual 121, 3) := by decide +kernel
theorem dX0_endCorrected_36 : decode cX0_endCorrected 36 = .ok (.iinc 2 1, 3) := by decide +kernel
theorem dX0_endCorrected_39 : decode cX0_endCorrected 39 = .ok (.goto (-26), 3) := by decide +kernel
theorem dX0_endCorrected_42 : decode cX0_endCorrected 42 = .ok (.iconst 0, 1) := by decide +kernel
theorem dX0_endCorrected_43 : decode cX0_endCorrected 43 = .ok (.ireturn, 1) := by decide +kernel
theorem dX0_endMisled_0 : decode cX0_endMisled 0 = .ok (.iconst 0, 1) := by decide +kernel
theorem dX0_endMisled_1 : decode cX0_endMisled 1 = .ok (.istore_n 3, 1) := by decide +kernel
theorem dX0_endMisled_2 : decode cX0_endMisled 2 = .ok (.iload_n 3, 1) := by decide +kernel
theorem dX0_endMisled_3 : decode cX0_endMisled 3 = .ok (.aload_n 0, 1) := by decide +kernel
theorem dX0_endMisled_4 : decode cX0_endMisled 4 = .ok (.getfield 34, 3) := by decide +kernel
theorem dX0_endMisled_7 : decode cX0_endMisled 7 = .ok (.if_icmp .ge 42, 3) := by decide +kernel
theorem dX0_endMisled_10 : decode cX0_endMisled 10 = .ok (.aload_n 0, 1) := by decide +kernel
theorem dX0_endMisled_11 : decode cX0_endMisled 11 = .ok (.iload_n 3, 1) := by decide +kernel
theorem dX0_endMisled_12 : decode cX0_endMisled 12 = .ok (.iload_n 1, 1) := by decide +kernel
theorem dX0_endMisled_13 : decode cX0_endMisled 13 = .ok (.invokevirtual 125, 3) := by decide +kernel
theorem dX0_endMisled_16 : decode cX0_endMisled 16 = .ok (.ifCond .eq 27, 3) := by decide +kernel
theorem dX0_endMisled_19 : decode cX0_endMisled 19 = .ok (.aload_n 0, 1) := by decide +kernel
theorem dX0_endMisled_20 : decode cX0_endMisled 20 = .ok (.aload_n 0, 1) := by decide +kernel
theorem dX0_endMisled_21 : decode cX0_endMisled 21 = .ok (.getfield 24, 3) := by decide +kernel
theorem dX0_endMisled_24 : decode cX0_endMisled 24 = .ok (.iload_n 3, 1) := by decide +kernel
theorem dX0_endMisled_25 : decode cX0_endMisled 25 = .ok (.iaload, 1) := by decide +kernel
theorem dX0_endMisled_26 : decode cX0_endMisled 26 = .ok (.iload_n 2, 1) := by decide +kernel
theorem dX0_endMisled_27 : decode cX0_endMisled 27 = .ok (.invokevirtual 93, 3) := by decide +kernel
theorem dX0_endMisled_30 : decode cX0_endMisled 30 = .ok (.ifCond .eq 13, 3) := by decide +kernel
theorem dX0_endMisled_33 : decode cX0_endMisled 33 = .ok (.aload_n 0, 1) := by decide +kernel
theorem dX0_endMisled_34 : decode cX0_endMisled 34 = .ok (.getfield 15, 3) := by decide +kernel
theorem dX0_endMisled_37 : decode cX0_endMisled 37 = .ok (.iload_n 3, 1) := by decide +kernel
theorem dX0_endMisled_38 : decode cX0_endMisled 38 = .ok (.dup2, 1) := by decide +kernel
theorem dX0_endMisled_39 : decode cX0_endMisled 39 = .ok (.iaload, 1) := by decide +kernel
theorem dX0_endMisled_40 : decode cX0_endMisled 40 = .ok (.iconst 1, 1) := by decide +kernel
theorem dX0_endMisled_41 : decode cX0_endMisled 41 = .ok (.isub, 1) := by decide +kernel
theorem dX0_endMisled_42 : decode cX0_endMisled 42 = .ok (.iastore, 1) := by decide +kernel
theorem dX0_endMisled_43 : decode cX0_endMisled 43 = .ok (.iinc 3 1, 3) := by decide +kernel
theorem dX0_endMisled_46 : decode cX0_endMisled 46 = .ok (.goto (-44), 3) := by decide +kernel
theorem dX0_endMisled_49 : decode cX0_endMisled 49 = .ok (.iconst 1, 1) := by decide +kernel
theorem dX0_endMisled_50 : decode cX0_endMisled 50 = .ok (.ireturn, 1) := by decide +kernel
theorem dX0_endShaken_0 : decode cX0_endShaken 0 = .ok (.aload_n 0, 1) := by decide +kernel
theorem dX0_endShaken_1 : decode cX0_endShaken 1 = .ok (.aload_n 0, 1) := by decide +kernel
theorem dX0_endShaken_2 : decode cX0_endShaken 2 = .ok (.getfield 27, 3) := by decide +kernel
theorem dX0_endShaken_5 : decode cX0_endShaken 5 = .ok (.iload_n 1, 1) := by decide +kernel
theorem dX0_endShaken_6 : decode cX0_endShaken 6 = .ok (.iaload, 1) := by decide +kernel
theorem dX0_endShaken_7 : decode cX0_endShaken 7 = .ok (.iload_n 2, 1) := by decide +kernel
theorem dX0_endShaken_8 : decode cX0_endShaken 8 = .ok (.invokevirtual 93, 3) := by decide +kernel
theorem dX0_endShaken_11 : decode cX0_endShaken 11 = .ok (.ifCond .ne 22, 3) := by decide +kernel
theorem dX0_endShaken_14 : decode cX0_endShaken 14 = .ok (.aload_n 0, 1) := by decide +kernel
theorem dX0_endShaken_15 : decode cX0_endShaken 15 = .ok (.getfield 15, 3) := by decide +kernel
theorem dX0_endShaken_18 : decode cX0_endShaken 18 = .ok (.iload_n 1, 1) := by decide +kernel
theorem dX0_endShaken_19 : decode cX0_endShaken 19 = .ok (.iaload, 1) := by decide +kernel
theorem dX0_endShaken_20 : decode cX0_endShaken 20 = .ok (.ifCond .le 13, 3) := by decide +kernel
theorem dX0_endShaken_23 : decode cX0_endShaken 23 = .ok (.aload_n 0, 1) := by decide +kernel
theorem dX0_endShaken_24 : decode cX0_endShaken 24 = .ok (.getfield 15, 3) := by decide +kernel
theorem dX0_endShaken_27 : decode cX0_endShaken 27 = .ok (.iload_n 1, 1) := by decide +kernel
theorem dX0_endShaken_28 : decode cX0_endShaken 28 = .ok (.dup2, 1) := by decide +kernel
theorem dX0_endShaken_29 : decode cX0_endShaken 29 = .ok (.iaload, 1) := by decide +kernel
theorem dX0_endShaken_30 : decode cX0_endShaken 30 = .ok (.iconst 1, 1) := by decide +kernel
theorem dX0_endShaken_31 : decode cX0_endShaken 31 = .ok (.isub, 1) := by decide +kernel
theorem dX0_endShaken_32 : decode cX0_endShaken 32 = .ok (.iastore, 1) := by decide +kernel
theorem dX0_endShaken_33 : decode cX0_endShaken 33 = .ok (.iconst 2, 1) := by decide +kernel
theorem dX0_endShaken_34 : decode cX0_endShaken 34 = .ok (.ireturn, 1) := by decide +kernel
theorem dX0_endAgreed_0 : decode cX0_endAgreed 0 = .ok (.aload_n 0, 1) := by decide +kernel
theorem dX0_endAgreed_1 : decode cX0_endAgreed 1 = .ok (.getfield 15, 3) := by decide +kernel
theorem dX0_endAgreed_4 : decode cX0_endAgreed 4 = .ok (.iload_n 1, 1) := by decide +kernel
theorem dX0_endAgreed_5 : decode cX0_endAgreed 5 = .ok (.iaload, 1) := by decide +kernel
theorem dX0_endAgreed_6 : decode cX0_endAgreed 6 = .ok (.istore_n 2, 1) := by decide +kernel
theorem dX0_endAgreed_7 : decode cX0_endAgreed 7 = .ok (.iconst 0, 1) := by decide +kernel
theorem dX0_endAgreed_8 : decode cX0_endAgreed 8 = .ok (.istore_n 3, 1) := by decide +kernel
theorem dX0_endAgreed_9 : decode cX0_endAgreed 9 = .ok (.iload_n 3, 1) := by decide +kernel
theorem dX0_endAgreed_10 : decode cX0_endAgreed 10 = .ok (.aload_n 0, 1) := by decide +kernel
theorem dX0_endAgreed_11 : decode cX0_endAgreed 11 = .ok (.getfield 34, 3) := by decide +kernel
theorem dX0_endAgreed_14 : decode cX0_endAgreed 14 = .ok (.if_icmp .ge 25, 3) := by decide +kernel
theorem dX0_endAgreed_17 : decode cX0_endAgreed 17 = .ok (.aload_n 0, 1) := by decide +kernel
theorem dX0_endAgreed_18 : decode cX0_endAgreed 18 = .ok (.getfield 15, 3) := by decide +kernel
theorem dX0_endAgreed_21 : decode cX0_endAgreed 21 = .ok (.iload_n 3, 1) := by decide +kernel
theorem dX0_endAgreed_22 : decode cX0_endAgreed 22 = .ok (.iaload, 1) := by decide +kernel
theorem dX0_endAgreed_23 : decode cX0_endAgreed 23 = .ok (.iload_n 2, 1) := by decide +kernel
theorem dX0_endAgreed_24 : decode cX0_endAgreed 24 = .ok (.if_icmp .gt 9, 3) := by decide +kernel
theorem dX0_endAgreed_27 : decode cX0_endAgreed 27 = .ok (.aload_n 0, 1) := by decide +kernel
theorem dX0_endAgreed_28 : decode cX0_endAgreed 28 = .ok (.iload_n 3, 1) := by decide +kernel
theorem dX0_endAgreed_29 : decode cX0_endAgreed 29 = .ok (.iconst 1, 1) := by decide +kernel
theorem dX0_endAgreed_30 : decode cX0_endAgreed 30 = .ok (.invokevirtual 121, 3) := by decide +kernel
theorem dX0_endAgreed_33 : decode cX0_endAgreed 33 = .ok (.iinc 3 1, 3) := by decide +kernel
theorem dX0_endAgreed_36 : decode cX0_endAgreed 36 = .ok (.goto (-27), 3) := by decide +kernel
theorem dX0_endAgreed_39 : decode cX0_endAgreed 39 = .ok (.iconst 3, 1) := by decide +kernel
theorem dX0_endAgreed_40 : decode cX0_endAgreed 40 = .ok (.ireturn, 1) := by decide +kernel
theorem dX0_someNo_0 : decode cX0_someNo 0 = .ok (.ldc2_w 128, 3) := by decide +kernel
theorem dX0_someNo_3 : decode cX0_someNo 3 = .ok (.lstore_n 3, 1) := by decide +kernel
theorem dX0_someNo_4 : decode cX0_someNo 4 = .ok (.iconst 0, 1) := by decide +kernel
theorem dX0_someNo_5 : decode cX0_someNo 5 = .ok (.istore 5, 2) := by decide +kernel
theorem dX0_someNo_7 : decode cX0_someNo 7 = .ok (.iload 5, 2) := by decide +kernel
theorem dX0_someNo_9 : decode cX0_someNo 9 = .ok (.aload_n 0, 1) := by decide +kernel
theorem dX0_someNo_10 : decode cX0_someNo 10 = .ok (.getfield 34, 3) := by decide +kernel
theorem dX0_someNo_13 : decode cX0_someNo 13 = .ok (.if_icmp .ge 42, 3) := by decide +kernel
theorem dX0_someNo_16 : decode cX0_someNo 16 = .ok (.aload_n 0, 1) := by decide +kernel
theorem dX0_someNo_17 : decode cX0_someNo 17 = .ok (.iload 5, 2) := by decide +kernel
theorem dX0_someNo_19 : decode cX0_someNo 19 = .ok (.iload_n 1, 1) := by decide +kernel
theorem dX0_someNo_20 : decode cX0_someNo 20 = .ok (.invokevirtual 97, 3) := by decide +kernel
theorem dX0_someNo_23 : decode cX0_someNo 23 = .ok (.ifCond .eq 26, 3) := by decide +kernel
theorem dX0_someNo_26 : decode cX0_someNo 26 = .ok (.lload_n 3, 1) := by decide +kernel
theorem dX0_someNo_27 : decode cX0_someNo 27 = .ok (.bipush 100, 2) := by decide +kernel
theorem dX0_someNo_29 : decode cX0_someNo 29 = .ok (.aload_n 0, 1) := by decide +kernel
theorem dX0_someNo_30 : decode cX0_someNo 30 = .ok (.aload_n 0, 1) := by decide +kernel
theorem dX0_someNo_31 : decode cX0_someNo 31 = .ok (.getfield 15, 3) := by decide +kernel
theorem dX0_someNo_34 : decode cX0_someNo 34 = .ok (.iload 5, 2) := by decide +kernel
theorem dX0_someNo_36 : decode cX0_someNo 36 = .ok (.iaload, 1) := by decide +kernel
theorem dX0_someNo_37 : decode cX0_someNo 37 = .ok (.iload_n 2, 1) := by decide +kernel
theorem dX0_someNo_38 : decode cX0_someNo 38 = .ok (.invokevirtual 101, 3) := by decide +kernel
theorem dX0_someNo_41 : decode cX0_someNo 41 = .ok (.isub, 1) := by decide +kernel
theorem dX0_someNo_42 : decode cX0_someNo 42 = .ok (.i2l, 1) := by decide +kernel
theorem dX0_someNo_43 : decode cX0_someNo 43 = .ok (.lmul, 1) := by decide +kernel
theorem dX0_someNo_44 : decode cX0_someNo 44 = .ok (.ldc2_w 130, 3) := by decide +kernel
theorem dX0_someNo_47 : decode cX0_someNo 47 = .ok (.ldiv, 1) := by decide +kernel
theorem dX0_someNo_48 : decode cX0_someNo 48 = .ok (.lstore_n 3, 1) := by decide +kernel
theorem dX0_someNo_49 : decode cX0_someNo 49 = .ok (.iinc 5 1, 3) := by decide +kernel
theorem dX0_someNo_52 : decode cX0_someNo 52 = .ok (.goto (-45), 3) := by decide +kernel
theorem dX0_someNo_55 : decode cX0_someNo 55 = .ok (.aload_n 0, 1) := by decide +kernel
theorem dX0_someNo_56 : decode cX0_someNo 56 = .ok (.iload_n 1, 1) := by decide +kernel
theorem dX0_someNo_57 : decode cX0_someNo 57 = .ok (.invokevirtual 105, 3) := by decide +kernel
theorem dX0_someNo_60 : decode cX0_someNo 60 = .ok (.ifCond .eq 21, 3) := by decide +kernel
theorem dX0_someNo_63 : decode cX0_someNo 63 = .ok (.lload_n 3, 1) := by decide +kernel
theorem dX0_someNo_64 : decode cX0_someNo 64 = .ok (.bipush 100, 2) := by decide +kernel
theorem dX0_someNo_66 : decode cX0_someNo 66 = .ok (.aload_n 0, 1) := by decide +kernel
theorem dX0_someNo_67 : decode cX0_someNo 67 = .ok (.bipush 9, 2) := by decide +kernel
theorem dX0_someNo_69 : decode cX0_someNo 69 = .ok (.iload_n 2, 1) := by decide +kernel
theorem dX0_someNo_70 : decode cX0_someNo 70 = .ok (.invokevirtual 101, 3) := by decide +kernel
theorem dX0_someNo_73 : decode cX0_someNo 73 = .ok (.isub, 1) := by decide +kernel
theorem dX0_someNo_74 : decode cX0_someNo 74 = .ok (.i2l, 1) := by decide +kernel
theorem dX0_someNo_75 : decode cX0_someNo 75 = .ok (.lmul, 1) := by decide +kernel
theorem dX0_someNo_76 : decode cX0_someNo 76 = .ok (.ldc2_w 130, 3) := by decide +kernel
theorem dX0_someNo_79 : decode cX0_someNo 79 = .ok (.ldiv, 1) := by decide +kernel
theorem dX0_someNo_80 : decode cX0_someNo 80 = .ok (.lstore_n 3, 1) := by decide +kernel
theorem dX0_someNo_81 : decode cX0_someNo 81 = .ok (.ldc2_w 128, 3) := by decide +kernel
theorem dX0_someNo_84 : decode cX0_someNo 84 = .ok (.lload_n 3, 1) := by decide +kernel
theorem dX0_someNo_85 : decode cX0_someNo 85 = .ok (.lsub, 1) := by decide +kernel
theorem dX0_someNo_86 : decode cX0_someNo 86 = .ok (.l2i, 1) := by decide +kernel
theorem dX0_someNo_87 : decode cX0_someNo 87 = .ok (.ireturn, 1) := by decide +kernel
theorem dX0_mean_0 : decode cX0_mean 0 = .ok (.aload_n 0, 1) := by decide +kernel
theorem dX0_mean_1 : decode cX0_mean 1 = .ok (.iload_n 1, 1) := by decide +kernel
theorem dX0_mean_2 : decode cX0_mean 2 = .ok (.invokevirtual 90, 3) := by decide +kernel
theorem dX0_mean_5 : decode cX0_mean 5 = .ok (.istore_n 2, 1) := by decide +kernel
theorem dX0_mean_6 : decode cX0_mean 6 = .ok (.aload_n 0, 1) := by decide +kernel
theorem dX0_mean_7 : decode cX0_mean 7 = .ok (.iload_n 1, 1) := by decide +kernel
theorem dX0_mean_8 : decode cX0_mean 8 = .ok (.iconst 0, 1) := by decide +kernel
theorem dX0_mean_9 : decode cX0_mean 9 = .ok (.invokevirtual 132, 3) := by decide +kernel
theorem dX0_mean_12 : decode cX0_mean 12 = .ok (.istore_n 3, 1) := by decide +kernel
theorem dX0_mean_13 : decode cX0_mean 13 = .ok (.aload_n 0, 1) := by decide +kernel
theorem dX0_mean_14 : decode cX0_mean 14 = .ok (.iload_n 1, 1) := by decide +kernel
theorem dX0_mean_15 : decode cX0_mean 15 = .ok (.iconst 1, 1) := by decide +kernel
theorem dX0_mean_16 : decode cX0_mean 16 = .ok (.invokevirtual 132, 3) := by decide +kernel
theorem dX0_mean_19 : decode cX0_mean 19 = .ok (.istore 4, 2) := by decide +kernel
theorem dX0_mean_21 : decode cX0_mean 21 = .ok (.aload_n 0, 1) := by decide +kernel
theorem dX0_mean_22 : decode cX0_mean 22 = .ok (.aload_n 0, 1) := by decide +kernel
theorem dX0_mean_23 : decode cX0_mean 23 = .ok (.getfield 21, 3) := by decide +kernel
theorem dX0_mean_26 : decode cX0_mean 26 = .ok (.iload_n 1, 1) := by decide +kernel
theorem dX0_mean_27 : decode cX0_mean 27 = .ok (.iaload, 1) := by decide +kernel
theorem dX0_mean_28 : decode cX0_mean 28 = .ok (.aload_n 0, 1) := by decide +kernel
theorem dX0_mean_29 : decode cX0_mean 29 = .ok (.iload_n 1, 1) := by decide +kernel
theorem dX0_mean_30 : decode cX0_mean 30 = .ok (.invokevirtual 80, 3) := by decide +kernel
theorem dX0_mean_33 : decode cX0_mean 33 = .ok (.invokestatic 135, 3) := by decide +kernel
theorem dX0_mean_36 : decode cX0_mean 36 = .ok (.i2l, 1) := by decide +kernel
theorem dX0_mean_37 : decode cX0_mean 37 = .ok (.bipush 100, 2) := by decide +kernel
theorem dX0_mean_39 : decode cX0_mean 39 = .ok (.iload_n 2, 1) := by decide +kernel
theorem dX0_mean_40 : decode cX0_mean 40 = .ok (.isub, 1) := by decide +kernel
theorem dX0_mean_41 : decode cX0_mean 41 = .ok (.iload_n 3, 1) := by decide +kernel
theorem dX0_mean_42 : decode cX0_mean 42 = .ok (.invokevirtual 138, 3) := by decide +kernel
theorem dX0_mean_45 : decode cX0_mean 45 = .ok (.lstore 5, 2) := by decide +kernel
theorem dX0_mean_47 : decode cX0_mean 47 = .ok (.aload_n 0, 1) := by decide +kernel
theorem dX0_mean_48 : decode cX0_mean 48 = .ok (.aload_n 0, 1) := by decide +kernel
theorem dX0_mean_49 : decode cX0_mean 49 = .ok (.getfield 15, 3) := by decide +kernel
theorem dX0_mean_52 : decode cX0_mean 52 = .ok (.iload_n 1, 1) := by decide +kernel
theorem dX0_mean_53 : decode cX0_mean 53 = .ok (.iaload, 1) := by decide +kernel
theorem dX0_mean_54 : decode cX0_mean 54 = .ok (.ifCond .le 7, 3) := by decide +kernel
theorem dX0_mean_57 : decode cX0_mean 57 = .ok (.lconst 1, 1) := by decide +kernel
theorem dX0_mean_58 : decode cX0_mean 58 = .ok (.goto 4, 3) := by decide +kernel
theorem dX0_mean_61 : decode cX0_mean 61 = .ok (.lconst 0, 1) := by decide +kernel
theorem dX0_mean_62 : decode cX0_mean 62 = .ok (.iload_n 2, 1) := by decide +kernel
theorem dX0_mean_63 : decode cX0_mean 63 = .ok (.iload 4, 2) := by decide +kernel
theorem dX0_mean_65 : decode cX0_mean 65 = .ok (.invokevirtual 138, 3) := by decide +kernel
theorem dX0_mean_68 : decode cX0_mean 68 = .ok (.bipush 100, 2) := by decide +kernel
theorem dX0_mean_70 : decode cX0_mean 70 = .ok (.aload_n 0, 1) := by decide +kernel
theorem dX0_mean_71 : decode cX0_mean 71 = .ok (.getfield 27, 3) := by decide +kernel
theorem dX0_mean_74 : decode cX0_mean 74 = .ok (.iload_n 1, 1) := by decide +kernel
theorem dX0_mean_75 : decode cX0_mean 75 = .ok (.iaload, 1) := by decide +kernel
theorem dX0_mean_76 : decode cX0_mean 76 = .ok (.isub, 1) := by decide +kernel
theorem dX0_mean_77 : decode cX0_mean 77 = .ok (.i2l, 1) := by decide +kernel
theorem dX0_mean_78 : decode cX0_mean 78 = .ok (.lmul, 1) := by decide +kernel
theorem dX0_mean_79 : decode cX0_mean 79 = .ok (.ldc2_w 130, 3) := by decide +kernel
theorem dX0_mean_82 : decode cX0_mean 82 = .ok (.ldiv, 1) := by decide +kernel
theorem dX0_mean_83 : decode cX0_mean 83 = .ok (.lstore 7, 2) := by decide +kernel
theorem dX0_mean_85 : decode cX0_mean 85 = .ok (.aload_n 0, 1) := by decide +kernel
theorem dX0_mean_86 : decode cX0_mean 86 = .ok (.aload_n 0, 1) := by decide +kernel
theorem dX0_mean_87 : decode cX0_mean 87 = .ok (.iload_n 1, 1) := by decide +kernel
theorem dX0_mean_88 : decode cX0_mean 88 = .ok (.invokevirtual 80, 3) := by decide +kernel
theorem dX0_mean_91 : decode cX0_mean 91 = .ok (.ifCond .le 7, 3) := by decide +kernel
theorem dX0_mean_94 : decode cX0_mean 94 = .ok (.lconst 1, 1) := by decide +kernel
theorem dX0_mean_95 : decode cX0_mean 95 = .ok (.goto 4, 3) := by decide +kernel
theorem dX0_mean_98 : decode cX0_mean 98 = .ok (.lconst 0, 1) := by decide +kernel
theorem dX0_mean_99 : decode cX0_mean 99 = .ok (.iload_n 2, 1) := by decide +kernel
theorem dX0_mean_100 : decode cX0_mean 100 = .ok (.ldc 142, 2) := by decide +kernel
theorem dX0_mean_102 : decode cX0_mean 102 = .ok (.iload 4, 2) := by decide +kernel
theorem dX0_mean_104 : decode cX0_mean 104 = .ok (.isub, 1) := by decide +kernel
theorem dX0_mean_105 : decode cX0_mean 105 = .ok (.invokevirtual 138, 3) := by decide +kernel
theorem dX0_mean_108 : decode cX0_mean 108 = .ok (.lstore 9, 2) := by decide +kernel
theorem dX0_mean_110 : decode cX0_mean 110 = .ok (.lload 5, 2) := by decide +kernel
theorem dX0_mean_112 : decode cX0_mean 112 = .ok (.lload 7, 2) := by decide +kernel
theorem dX0_mean_114 : decode cX0_mean 114 = .ok (.lsub, 1) := by decide +kernel
theorem dX0_mean_115 : decode cX0_mean 115 = .ok (.lload 9, 2) := by decide +kernel
theorem dX0_mean_117 : decode cX0_mean 117 = .ok (.ladd, 1) := by decide +kernel
theorem dX0_mean_118 : decode cX0_mean 118 = .ok (.l2i, 1) := by decide +kernel
theorem dX0_mean_119 : decode cX0_mean 119 = .ok (.ireturn, 1) := by decide +kernel
theorem dX0_share_0 : decode cX0_share 0 = .ok (.ldc2_w 143, 3) := by decide +kernel
theorem dX0_share_3 : decode cX0_share 3 = .ok (.lload_n 1, 1) := by decide +kernel
theorem dX0_share_4 : decode cX0_share 4 = .ok (.lmul, 1) := by decide +kernel
theorem dX0_share_5 : decode cX0_share 5 = .ok (.iload_n 3, 1) := by decide +kernel
theorem dX0_share_6 : decode cX0_share 6 = .ok (.i2l, 1) := by decide +kernel
theorem dX0_share_7 : decode cX0_share 7 = .ok (.lmul, 1) := by decide +kernel
theorem dX0_share_8 : decode cX0_share 8 = .ok (.ldc2_w 130, 3) := by decide +kernel
theorem dX0_share_11 : decode cX0_share 11 = .ok (.ldiv, 1) := by decide +kernel
theorem dX0_share_12 : decode cX0_share 12 = .ok (.iload 4, 2) := by decide +kernel
theorem dX0_share_14 : decode cX0_share 14 = .ok (.i2l, 1) := by decide +kernel
theorem dX0_share_15 : decode cX0_share 15 = .ok (.lmul, 1) := by decide +kernel
theorem dX0_share_16 : decode cX0_share 16 = .ok (.ldc2_w 128, 3) := by decide +kernel
theorem dX0_share_19 : decode cX0_share 19 = .ok (.ldiv, 1) := by decide +kernel
theorem dX0_share_20 : decode cX0_share 20 = .ok (.lreturn, 1) := by decide +kernel
theorem dX1_init_0 : decode cX1_init 0 = .ok (.aload_n 0, 1) := by decide +kernel
theorem dX1_init_1 : decode cX1_init 1 = .ok (.invokespecial 3, 3) := by decide +kernel
theorem dX1_init_4 : decode cX1_init 4 = .ok (.aload_n 0, 1) := by decide +kernel
theorem dX1_init_5 : decode cX1_init 5 = .ok (.sipush 1000, 3) := by decide +kernel
theorem dX1_init_8 : decode cX1_init 8 = .ok (.newarray .long, 2) := by decide +kernel
theorem dX1_init_10 : decode cX1_init 10 = .ok (.putfield 9, 3) := by decide +kernel
theorem dX1_init_13 : decode cX1_init 13 = .ok (.aload_n 0, 1) := by decide +kernel
theorem dX1_init_14 : decode cX1_init 14 = .ok (.sipush 1000, 3) := by decide +kernel
theorem dX1_init_17 : decode cX1_init 17 = .ok (.newarray .long, 2) := by decide +kernel
theorem dX1_init_19 : decode cX1_init 19 = .ok (.putfield 15, 3) := by decide +kernel
theorem dX1_init_22 : decode cX1_init 22 = .ok (.aload_n 0, 1) := by decide +kernel
theorem dX1_init_23 : decode cX1_init 23 = .ok (.bipush 16, 2) := by decide +kernel
theorem dX1_init_25 : decode cX1_init 25 = .ok (.newarray .long, 2) := by decide +kernel
theorem dX1_init_27 : decode cX1_init 27 = .ok (.putfield 18, 3) := by decide +kernel
theorem dX1_init_30 : decode cX1_init 30 = .ok (.aload_n 0, 1) := by decide +kernel
theorem dX1_init_31 : decode cX1_init 31 = .ok (.iconst 4, 1) := by decide +kernel
theorem dX1_init_32 : decode cX1_init 32 = .ok (.newarray .int, 2) := by decide +kernel
theorem dX1_init_34 : decode cX1_init 34 = .ok (.putfield 21, 3) := by decide +kernel
theorem dX1_init_37 : decode cX1_init 37 = .ok (.return_, 1) := by decide +kernel
theorem dX1_follow_0 : decode cX1_follow 0 = .ok (.aload_n 1, 1) := by decide +kernel
theorem dX1_follow_1 : decode cX1_follow 1 = .ok (.getfield 25, 3) := by decide +kernel
theorem dX1_follow_4 : decode cX1_follow 4 = .ok (.iconst 1, 1) := by decide +kernel
theorem dX1_follow_5 : decode cX1_follow 5 = .ok (.if_icmp .lt 11, 3) := by decide +kernel
theorem dX1_follow_8 : decode cX1_follow 8 = .ok (.aload_n 1, 1) := by decide +kernel
theorem dX1_follow_9 : decode cX1_follow 9 = .ok (.getfield 25, 3) := by decide +kernel
theorem dX1_follow_12 : decode cX1_follow 12 = .ok (.iconst 3, 1) := by decide +kernel
theorem dX1_follow_13 : decode cX1_follow 13 = .ok (.if_icmp .le 4, 3) := by decide +kernel
theorem dX1_follow_16 : decode cX1_follow 16 = .ok (.return_, 1) := by decide +kernel
theorem dX1_follow_17 : decode cX1_follow 17 = .ok (.getstatic 31, 3) := by decide +kernel
theorem dX1_follow_20 : decode cX1_follow 20 = .ok (.aload_n 1, 1) := by decide +kernel
theorem dX1_follow_21 : decode cX1_follow 21 = .ok (.getfield 25, 3) := by decide +kernel
theorem dX1_follow_24 : decode cX1_follow 24 = .ok (.iaload, 1) := by decide +kernel
theorem dX1_follow_25 : decode cX1_follow 25 = .ok (.istore 5, 2) := by decide +kernel
theorem dX1_follow_27 : decode cX1_follow 27 = .ok (.aload_n 0, 1) := by decide +kernel
theorem dX1_follow_28 : decode cX1_follow 28 = .ok (.getfield 9, 3) := by decide +kernel
theorem dX1_follow_31 : decode cX1_follow 31 = .ok (.lconst 0, 1) := by decide +kernel
theorem dX1_follow_32 : decode cX1_follow 32 = .ok (.invokestatic 34, 3) := by decide +kernel
theorem dX1_follow_35 : decode cX1_follow 35 = .ok (.aload_n 0, 1) := by decide +kernel
theorem dX1_follow_36 : decode cX1_follow 36 = .ok (.getfield 9, 3) := by decide +kernel
theorem dX1_follow_39 : decode cX1_follow 39 = .ok (.aload_n 1, 1) := by decide +kernel
theorem dX1_follow_40 : decode cX1_follow 40 = .ok (.invokevirtual 40, 3) := by decide +kernel
theorem dX1_follow_43 : decode cX1_follow 43 = .ok (.ldc2_w 44, 3) := by decide +kernel
theorem dX1_follow_46 : decode cX1_follow 46 = .ok (.lastore, 1) := by decide +kernel
theorem dX1_follow_47 : decode cX1_follow 47 = .ok (.iload_n 3, 1) := by decide +kernel
theorem dX1_follow_48 : decode cX1_follow 48 = .ok (.istore 6, 2) := by decide +kernel
theorem dX1_follow_50 : decode cX1_follow 50 = .ok (.iconst 0, 1) := by decide +kernel
theorem dX1_follow_51 : decode cX1_follow 51 = .ok (.istore 7, 2) := by decide +kernel
theorem dX1_follow_53 : decode cX1_follow 53 = .ok (.iload 7, 2) := by decide +kernel
theorem dX1_follow_55 : decode cX1_follow 55 = .ok (.iload 4, 2) := by decide +kernel
theorem dX1_follow_57 : decode cX1_follow 57 = .ok (.if_icmp .ge 93, 3) := by decide +kernel
theorem dX1_follow_60 : decode cX1_follow 60 = .ok (.aload_n 0, 1) := by decide +kernel
theorem dX1_follow_61 : decode cX1_follow 61 = .ok (.getfield 15, 3) := by decide +kernel
theorem dX1_follow_64 : decode cX1_follow 64 = .ok (.lconst 0, 1) := by decide +kernel
theorem dX1_follow_65 : decode cX1_follow 65 = .ok (.invokestatic 34, 3) := by decide +kernel
theorem dX1_follow_68 : decode cX1_follow 68 = .ok (.iconst 0, 1) := by decide +kernel
theorem dX1_follow_69 : decode cX1_follow 69 = .ok (.istore 8, 2) := by decide +kernel
theorem dX1_follow_71 : decode cX1_follow 71 = .ok (.iload 8, 2) := by decide +kernel
theorem dX1_follow_73 : decode cX1_follow 73 = .ok (.iload 5, 2) := by decide +kernel
theorem dX1_follow_75 : decode cX1_follow 75 = .ok (.if_icmp .ge 41, 3) := by decide +kernel
theorem dX1_follow_78 : decode cX1_follow 78 = .ok (.aload_n 0, 1) := by decide +kernel
theorem dX1_follow_79 : decode cX1_follow 79 = .ok (.getfield 9, 3) := by decide +kernel
theorem dX1_follow_82 : decode cX1_follow 82 = .ok (.iload 8, 2) := by decide +kernel
theorem dX1_follow_84 : decode cX1_follow 84 = .ok (.laload, 1) := by decide +kernel
theorem dX1_follow_85 : decode cX1_follow 85 = .ok (.lconst 0, 1) := by decide +kernel
theorem dX1_follow_86 : decode cX1_follow 86 = .ok (.lcmp, 1) := by decide +kernel
theorem dX1_follow_87 : decode cX1_follow 87 = .ok (.ifCond .le 23, 3) := by decide +kernel
theorem dX1_follow_90 : decode cX1_follow 90 = .ok (.aload_n 1, 1) := by decide +kernel
theorem dX1_follow_91 : decode cX1_follow 91 = .ok (.iload 8, 2) := by decide +kernel
theorem dX1_follow_93 : decode cX1_follow 93 = .ok (.invokevirtual 46, 3) := by decide +kernel
theorem dX1_follow_96 : decode cX1_follow 96 = .ok (.aload_n 0, 1) := by decide +kernel
theorem dX1_follow_97 : decode cX1_follow 97 = .ok (.aload_n 1, 1) := by decide +kernel
theorem dX1_follow_98 : decode cX1_follow 98 = .ok (.aload_n 1, 1) := by decide +kernel
theorem dX1_follow_99 : decode cX1_follow 99 = .ok (.iload_n 2, 1) := by decide +kernel
theorem dX1_follow_100 : decode cX1_follow 100 = .ok (.iload 6, 2) := by decide +kernel
theorem dX1_follow_102 : decode cX1_follow 102 = .ok (.invokevirtual 50, 3) := by decide +kernel
theorem dX1_follow_105 : decode cX1_follow 105 = .ok (.iload 8, 2) := by decide +kernel
theorem dX1_follow_107 : decode cX1_follow 107 = .ok (.invokevirtual 54, 3) := by decide +kernel
theorem dX1_follow_110 : decode cX1_follow 110 = .ok (.iinc 8 1, 3) := by decide +kernel
theorem dX1_follow_113 : decode cX1_follow 113 = .ok (.goto (-42), 3) := by decide +kernel
theorem dX1_follow_116 : decode cX1_follow 116 = .ok (.aload_n 0, 1) := by decide +kernel
theorem dX1_follow_117 : decode cX1_follow 117 = .ok (.getfield 9, 3) := by decide +kernel
theorem dX1_follow_120 : decode cX1_follow 120 = .ok (.astore 8, 2) := by decide +kernel
theorem dX1_follow_122 : decode cX1_follow 122 = .ok (.aload_n 0, 1) := by decide +kernel
theorem dX1_follow_123 : decode cX1_follow 123 = .ok (.aload_n 0, 1) := by decide +kernel
theorem dX1_follow_124 : decode cX1_follow 124 = .ok (.getfield 15, 3) := by decide +kernel
theorem dX1_follow_127 : decode cX1_follow 127 = .ok (.putfield 9, 3) := by decide +kernel
theorem dX1_follow_130 : decode cX1_follow 130 = .ok (.aload_n 0, 1) := by decide +kernel
theorem dX1_follow_131 : decode cX1_follow 131 = .ok (.aload 8, 2) := by decide +kernel
theorem dX1_follow_133 : decode cX1_follow 133 = .ok (.putfield 15, 3) := by decide +kernel
theorem dX1_follow_136 : decode cX1_follow 136 = .ok (.aload_n 1, 1) := by decide +kernel
theorem dX1_follow_137 : decode cX1_follow 137 = .ok (.iload 6, 2) := by decide +kernel
theorem dX1_follow_139 : decode cX1_follow 139 = .ok (.invokevirtual 58, 3) := by decide +kernel
theorem dX1_follow_142 : decode cX1_follow 142 = .ok (.istore 6, 2) := by decide +kernel
theorem dX1_follow_144 : decode cX1_follow 144 = .ok (.iinc 7 1, 3) := by decide +kernel
theorem dX1_follow_147 : decode cX1_follow 147 = .ok (.goto (-94), 3) := by decide +kernel
theorem dX1_follow_150 : decode cX1_follow 150 = .ok (.return_, 1) := by decide +kernel
theorem dX1_teach_0 : decode cX1_teach 0 = .ok (.aload_n 0, 1) := by decide +kernel
theorem dX1_teach_1 : decode cX1_teach 1 = .ok (.getfield 9, 3) := by decide +kernel
theorem dX1_teach_4 : decode cX1_teach 4 = .ok (.iload_n 3, 1) := by decide +kernel
theorem dX1_teach_5 : decode cX1_teach 5 = .ok (.laload, 1) := by decide +kernel
theorem dX1_teach_6 : decode cX1_teach 6 = .ok (.aload_n 1, 1) := by decide +kernel
theorem dX1_teach_7 : decode cX1_teach 7 = .ok (.iload_n 2, 1) := by decide +kernel
theorem dX1_teach_8 : decode cX1_teach 8 = .ok (.invokevirtual 62, 3) := by decide +kernel
theorem dX1_teach_11 : decode cX1_teach 11 = .ok (.i2l, 1) := by decide +kernel
theorem dX1_teach_12 : decode cX1_teach 12 = .ok (.lmul, 1) := by decide +kernel
theorem dX1_teach_13 : decode cX1_teach 13 = .ok (.ldc2_w 65, 3) := by decide +kernel
theorem dX1_teach_16 : decode cX1_teach 16 = .ok (.ldiv, 1) := by decide +kernel
theorem dX1_teach_17 : decode cX1_teach 17 = .ok (.lstore 4, 2) := by decide +kernel
theorem dX1_teach_19 : decode cX1_teach 19 = .ok (.aload_n 0, 1) := by decide +kernel
theorem dX1_teach_20 : decode cX1_teach 20 = .ok (.aload_n 1, 1) := by decide +kernel
theorem dX1_teach_21 : decode cX1_teach 21 = .ok (.iload_n 2, 1) := by decide +kernel
theorem dX1_teach_22 : decode cX1_teach 22 = .ok (.lload 4, 2) := by decide +kernel
theorem dX1_teach_24 : decode cX1_teach 24 = .ok (.iconst 1, 1) := by decide +kernel
theorem dX1_teach_25 : decode cX1_teach 25 = .ok (.invokevirtual 67, 3) := by decide +kernel
theorem dX1_teach_28 : decode cX1_teach 28 = .ok (.aload_n 0, 1) := by decide +kernel
theorem dX1_teach_29 : decode cX1_teach 29 = .ok (.aload_n 1, 1) := by decide +kernel
theorem dX1_teach_30 : decode cX1_teach 30 = .ok (.iload_n 2, 1) := by decide +kernel
theorem dX1_teach_31 : decode cX1_teach 31 = .ok (.iload_n 3, 1) := by decide +kernel
theorem dX1_teach_32 : decode cX1_teach 32 = .ok (.invokevirtual 71, 3) := by decide +kernel
theorem dX1_teach_35 : decode cX1_teach 35 = .ok (.aload_n 0, 1) := by decide +kernel
theorem dX1_teach_36 : decode cX1_teach 36 = .ok (.aload_n 1, 1) := by decide +kernel
theorem dX1_teach_37 : decode cX1_teach 37 = .ok (.iload_n 2, 1) := by decide +kernel
theorem dX1_teach_38 : decode cX1_teach 38 = .ok (.aload_n 0, 1) := by decide +kernel
theorem dX1_teach_39 : decode cX1_teach 39 = .ok (.getfield 9, 3) := by decide +kernel
theorem dX1_teach_42 : decode cX1_teach 42 = .ok (.iload_n 3, 1) := by decide +kernel
theorem dX1_teach_43 : decode cX1_teach 43 = .ok (.laload, 1) := by decide +kernel
theorem dX1_teach_44 : decode cX1_teach 44 = .ok (.lload 4, 2) := by decide +kernel
theorem dX1_teach_46 : decode cX1_teach 46 = .ok (.lsub, 1) := by decide +kernel
theorem dX1_teach_47 : decode cX1_teach 47 = .ok (.iconst 0, 1) := by decide +kernel
theorem dX1_teach_48 : decode cX1_teach 48 = .ok (.invokevirtual 67, 3) := by decide +kernel
theorem dX1_teach_51 : decode cX1_teach 51 = .ok (.aload_n 0, 1) := by decide +kernel
theorem dX1_teach_52 : decode cX1_teach 52 = .ok (.aload_n 1, 1) := by decide +kernel
theorem dX1_teach_53 : decode cX1_teach 53 = .ok (.iload_n 2, 1) := by decide +kernel
theorem dX1_teach_54 : decode cX1_teach 54 = .ok (.iload_n 3, 1) := by decide +kernel
theorem dX1_teach_55 : decode cX1_teach 55 = .ok (.invokevirtual 74, 3) := by decide +kernel
theorem dX1_teach_58 : decode cX1_teach 58 = .ok (.return_, 1) := by decide +kernel
theorem dX1_begin_0 : decode cX1_begin 0 = .ok (.aload_n 0, 1) := by decide +kernel
theorem dX1_begin_1 : decode cX1_begin 1 = .ok (.getfield 18, 3) := by decide +kernel
theorem dX1_begin_4 : decode cX1_begin 4 = .ok (.iconst 0, 1) := by decide +kernel
theorem dX1_begin_5 : decode cX1_begin 5 = .ok (.lload_n 1, 1) := by decide +kernel
theorem dX1_begin_6 : decode cX1_begin 6 = .ok (.lastore, 1) := by decide +kernel
theorem dX1_begin_7 : decode cX1_begin 7 = .ok (.aload_n 0, 1) := by decide +kernel
theorem dX1_begin_8 : decode cX1_begin 8 = .ok (.iconst 1, 1) := by decide +kernel
theorem dX1_begin_9 : decode cX1_begin 9 = .ok (.putfield 77, 3) := by decide +kernel
theorem dX1_begin_12 : decode cX1_begin 12 = .ok (.aload_n 0, 1) := by decide +kernel
theorem dX1_begin_13 : decode cX1_begin 13 = .ok (.iconst 0, 1) := by decide +kernel
theorem dX1_begin_14 : decode cX1_begin 14 = .ok (.putfield 80, 3) := by decide +kernel
theorem dX1_begin_17 : decode cX1_begin 17 = .ok (.return_, 1) := by decide +kernel
theorem dX1_split_0 : decode cX1_split 0 = .ok (.aload_n 0, 1) := by decide +kernel
theorem dX1_split_1 : decode cX1_split 1 = .ok (.getfield 80, 3) := by decide +kernel
theorem dX1_split_4 : decode cX1_split 4 = .ok (.aload_n 0, 1) := by decide +kernel
theorem dX1_split_5 : decode cX1_split 5 = .ok (.getfield 21, 3) := by decide +kernel
theorem dX1_split_8 : decode cX1_split 8 = .ok (.arraylength, 1) := by decide +kernel
theorem dX1_split_9 : decode cX1_split 9 = .ok (.if_icmp .lt 4, 3) := by decide +kernel
theorem dX1_split_12 : decode cX1_split 12 = .ok (.return_, 1) := by decide +kernel
theorem dX1_split_13 : decode cX1_split 13 = .ok (.aload_n 0, 1) := by decide +kernel
theorem dX1_split_14 : decode cX1_split 14 = .ok (.getfield 21, 3) := by decide +kernel
theorem dX1_split_17 : decode cX1_split 17 = .ok (.aload_n 0, 1) := by decide +kernel
theorem dX1_split_18 : decode cX1_split 18 = .ok (.getfield 80, 3) := by decide +kernel
theorem dX1_split_21 : decode cX1_split 21 = .ok (.iload_n 1, 1) := by decide +kernel
theorem dX1_split_22 : decode cX1_split 22 = .ok (.iastore, 1) := by decide +kernel
theorem dX1_split_23 : decode cX1_split 23 = .ok (.aload_n 0, 1) := by decide +kernel
theorem dX1_split_24 : decode cX1_split 24 = .ok (.dup, 1) := by decide +kernel
theorem dX1_split_25 : decode cX1_split 25 = .ok (.getfield 80, 3) := by decide +kernel
theorem dX1_split_28 : decode cX1_split 28 = .ok (.iconst 1, 1) := by decide +kernel
theorem dX1_split_29 : decode cX1_split 29 = .ok (.iadd, 1) := by decide +kernel
theorem dX1_split_30 : decode cX1_split 30 = .ok (.putfield 80, 3) := by decide +kernel
theorem dX1_split_33 : decode cX1_split 33 = .ok (.iconst 0, 1) := by decide +kernel
theorem dX1_split_34 : decode cX1_split 34 = .ok (.istore_n 3, 1) := by decide +kernel
theorem dX1_split_35 : decode cX1_split 35 = .ok (.iload_n 3, 1) := by decide +kernel
theorem dX1_split_36 : decode cX1_split 36 = .ok (.aload_n 0, 1) := by decide +kernel
theorem dX1_split_37 : decode cX1_split 37 = .ok (.getfield 77, 3) := by decide +kernel
theorem dX1_split_40 : decode cX1_split 40 = .ok (.if_icmp .ge 48, 3) := by decide +kernel
theorem dX1_split_43 : decode cX1_split 43 = .ok (.aload_n 0, 1) := by decide +kernel
theorem dX1_split_44 : decode cX1_split 44 = .ok (.getfield 18, 3) := by decide +kernel
theorem dX1_split_47 : decode cX1_split 47 = .ok (.iload_n 3, 1) := by decide +kernel
theorem dX1_split_48 : decode cX1_split 48 = .ok (.laload, 1) := by decide +kernel
theorem dX1_split_49 : decode cX1_split 49 = .ok (.iload_n 2, 1) := by decide +kernel
theorem dX1_split_50 : decode cX1_split 50 = .ok (.i2l, 1) := by decide +kernel
theorem dX1_split_51 : decode cX1_split 51 = .ok (.lmul, 1) := by decide +kernel
theorem dX1_split_52 : decode cX1_split 52 = .ok (.ldc2_w 65, 3) := by decide +kernel
theorem dX1_split_55 : decode cX1_split 55 = .ok (.ldiv, 1) := by decide +kernel
theorem dX1_split_56 : decode cX1_split 56 = .ok (.lstore 4, 2) := by decide +kernel
theorem dX1_split_58 : decode cX1_split 58 = .ok (.aload_n 0, 1) := by decide +kernel
theorem dX1_split_59 : decode cX1_split 59 = .ok (.getfield 18, 3) := by decide +kernel
theorem dX1_split_62 : decode cX1_split 62 = .ok (.iload_n 3, 1) := by decide +kernel
theorem dX1_split_63 : decode cX1_split 63 = .ok (.aload_n 0, 1) := by decide +kernel
theorem dX1_split_64 : decode cX1_split 64 = .ok (.getfield 77, 3) := by decide +kernel
theorem dX1_split_67 : decode cX1_split 67 = .ok (.iadd, 1) := by decide +kernel
theorem dX1_split_68 : decode cX1_split 68 = .ok (.lload 4, 2) := by decide +kernel
theorem dX1_split_70 : decode cX1_split 70 = .ok (.lastore, 1) := by decide +kernel
theorem dX1_split_71 : decode cX1_split 71 = .ok (.aload_n 0, 1) := by decide +kernel
theorem dX1_split_72 : decode cX1_split 72 = .ok (.getfield 18, 3) := by decide +kernel
theorem dX1_split_75 : decode cX1_split 75 = .ok (.iload_n 3, 1) := by decide +kernel
theorem dX1_split_76 : decode cX1_split 76 = .ok (.dup2, 1) := by decide +kernel
theorem dX1_split_77 : decode cX1_split 77 = .ok (.laload, 1) := by decide +kernel
theorem dX1_split_78 : decode cX1_split 78 = .ok (.lload 4, 2) := by decide +kernel
theorem dX1_split_80 : decode cX1_split 80 = .ok (.lsub, 1) := by decide +kernel
theorem dX1_split_81 : decode cX1_split 81 = .ok (.lastore, 1) := by decide +kernel
theorem dX1_split_82 : decode cX1_split 82 = .ok (.iinc 3 1, 3) := by decide +kernel
theorem dX1_split_85 : decode cX1_split 85 = .ok (.goto (-50), 3) := by decide +kernel
theorem dX1_split_88 : decode cX1_split 88 = .ok (.aload_n 0, 1) := by decide +kernel
theorem dX1_split_89 : decode cX1_split 89 = .ok (.dup, 1) := by decide +kernel
theorem dX1_split_90 : decode cX1_split 90 = .ok (.getfield 77, 3) := by decide +kernel
theorem dX1_split_93 : decode cX1_split 93 = .ok (.iconst 2, 1) := by decide +kernel
theorem dX1_split_94 : decode cX1_split 94 = .ok (.imul, 1) := by decide +kernel
theorem dX1_split_95 : decode cX1_split 95 = .ok (.putfield 77, 3) := by decide +kernel
theorem dX1_split_98 : decode cX1_split 98 = .ok (.return_, 1) := by decide +kernel
theorem dX1_partByNo_0 : decode cX1_partByNo 0 = .ok (.aload_n 0, 1) := by decide +kernel
theorem dX1_partByNo_1 : decode cX1_partByNo 1 = .ok (.lload_n 3, 1) := by decide +kernel
theorem dX1_partByNo_2 : decode cX1_partByNo 2 = .ok (.invokevirtual 83, 3) := by decide +kernel
theorem dX1_partByNo_5 : decode cX1_partByNo 5 = .ok (.iconst 0, 1) := by decide +kernel
theorem dX1_partByNo_6 : decode cX1_partByNo 6 = .ok (.istore 6, 2) := by decide +kernel
theorem dX1_partByNo_8 : decode cX1_partByNo 8 = .ok (.iload 6, 2) := by decide +kernel
theorem dX1_partByNo_10 : decode cX1_partByNo 10 = .ok (.aload_n 1, 1) := by decide +kernel
theorem dX1_partByNo_11 : decode cX1_partByNo 11 = .ok (.getfield 25, 3) := by decide +kernel
theorem dX1_partByNo_14 : decode cX1_partByNo 14 = .ok (.if_icmp .ge 38, 3) := by decide +kernel
theorem dX1_partByNo_17 : decode cX1_partByNo 17 = .ok (.aload_n 1, 1) := by decide +kernel
theorem dX1_partByNo_18 : decode cX1_partByNo 18 = .ok (.iload 6, 2) := by decide +kernel
theorem dX1_partByNo_20 : decode cX1_partByNo 20 = .ok (.iload_n 2, 1) := by decide +kernel
theorem dX1_partByNo_21 : decode cX1_partByNo 21 = .ok (.invokevirtual 87, 3) := by decide +kernel
theorem dX1_partByNo_24 : decode cX1_partByNo 24 = .ok (.ifCond .eq 22, 3) := by decide +kernel
theorem dX1_partByNo_27 : decode cX1_partByNo 27 = .ok (.aload_n 0, 1) := by decide +kernel
theorem dX1_partByNo_28 : decode cX1_partByNo 28 = .ok (.iload 6, 2) := by decide +kernel
theorem dX1_partByNo_30 : decode cX1_partByNo 30 = .ok (.aload_n 1, 1) := by decide +kernel
theorem dX1_partByNo_31 : decode cX1_partByNo 31 = .ok (.aload_n 1, 1) := by decide +kernel
theorem dX1_partByNo_32 : decode cX1_partByNo 32 = .ok (.getfield 91, 3) := by decide +kernel
theorem dX1_partByNo_35 : decode cX1_partByNo 35 = .ok (.iload 6, 2) := by decide +kernel
theorem dX1_partByNo_37 : decode cX1_partByNo 37 = .ok (.iaload, 1) := by decide +kernel
theorem dX1_partByNo_38 : decode cX1_partByNo 38 = .ok (.iload 5, 2) := by decide +kernel
theorem dX1_partByNo_40 : decode cX1_partByNo 40 = .ok (.invokevirtual 94, 3) := by decide +kernel
theorem dX1_partByNo_43 : decode cX1_partByNo 43 = .ok (.invokevirtual 98, 3) := by decide +kernel
theorem dX1_partByNo_46 : decode cX1_partByNo 46 = .ok (.iinc 6 1, 3) := by decide +kernel
theorem dX1_partByNo_49 : decode cX1_partByNo 49 = .ok (.goto (-41), 3) := by decide +kernel
theorem dX1_partByNo_52 : decode cX1_partByNo 52 = .ok (.aload_n 1, 1) := by decide +kernel
theorem dX1_partByNo_53 : decode cX1_partByNo 53 = .ok (.iload_n 2, 1) := by decide +kernel
theorem dX1_partByNo_54 : decode cX1_partByNo 54 = .ok (.invokevirtual 102, 3) := by decide +kernel
theorem dX1_partByNo_57 : decode cX1_partByNo 57 = .ok (.ifCond .eq 16, 3) := by decide +kernel
theorem dX1_partByNo_60 : decode cX1_partByNo 60 = .ok (.aload_n 0, 1) := by decide +kernel
theorem dX1_partByNo_61 : decode cX1_partByNo 61 = .ok (.iconst (-1), 1) := by decide +kernel
theorem dX1_partByNo_62 : decode cX1_partByNo 62 = .ok (.aload_n 1, 1) := by decide +kernel
theorem dX1_partByNo_63 : decode cX1_partByNo 63 = .ok (.bipush 9, 2) := by decide +kernel
theorem dX1_partByNo_65 : decode cX1_partByNo 65 = .ok (.iload 5, 2) := by decide +kernel
theorem dX1_partByNo_67 : decode cX1_partByNo 67 = .ok (.invokevirtual 94, 3) := by decide +kernel
theorem dX1_partByNo_70 : decode cX1_partByNo 70 = .ok (.invokevirtual 98, 3) := by decide +kernel
theorem dX1_partByNo_73 : decode cX1_partByNo 73 = .ok (.return_, 1) := by decide +kernel
theorem dX1_endRight_0 : decode cX1_endRight 0 = .ok (.aload_n 1, 1) := by decide +kernel
theorem dX1_endRight_1 : decode cX1_endRight 1 = .ok (.getfield 91, 3) := by decide +kernel
theorem dX1_endRight_4 : decode cX1_endRight 4 = .ok (.iload_n 2, 1) := by decide +kernel
theorem dX1_endRight_5 : decode cX1_endRight 5 = .ok (.iaload, 1) := by decide +kernel
theorem dX1_endRight_6 : decode cX1_endRight 6 = .ok (.ifCond .le 13, 3) := by decide +kernel
theorem dX1_endRight_9 : decode cX1_endRight 9 = .ok (.iload_n 3, 1) := by decide +kernel
theorem dX1_endRight_10 : decode cX1_endRight 10 = .ok (.getstatic 31, 3) := by decide +kernel
theorem dX1_endRight_13 : decode cX1_endRight 13 = .ok (.iload_n 2, 1) := by decide +kernel
theorem dX1_endRight_14 : decode cX1_endRight 14 = .ok (.iaload, 1) := by decide +kernel
theorem dX1_endRight_15 : decode cX1_endRight 15 = .ok (.isub, 1) := by decide +kernel
theorem dX1_endRight_16 : decode cX1_endRight 16 = .ok (.goto 4, 3) := by decide +kernel
theorem dX1_endRight_19 : decode cX1_endRight 19 = .ok (.iload_n 3, 1) := by decide +kernel
theorem dX1_endRight_20 : decode cX1_endRight 20 = .ok (.istore 4, 2) := by decide +kernel
theorem dX1_endRight_22 : decode cX1_endRight 22 = .ok (.iconst 1, 1) := by decide +kernel
theorem dX1_endRight_23 : decode cX1_endRight 23 = .ok (.istore 5, 2) := by decide +kernel
theorem dX1_endRight_25 : decode cX1_endRight 25 = .ok (.iload 5, 2) := by decide +kernel
theorem dX1_endRight_27 : decode cX1_endRight 27 = .ok (.aload_n 0, 1) := by decide +kernel
theorem dX1_endRight_28 : decode cX1_endRight 28 = .ok (.getfield 77, 3) := by decide +kernel
theorem dX1_endRight_31 : decode cX1_endRight 31 = .ok (.if_icmp .ge 61, 3) := by decide +kernel
theorem dX1_endRight_34 : decode cX1_endRight 34 = .ok (.aload_n 0, 1) := by decide +kernel
theorem dX1_endRight_35 : decode cX1_endRight 35 = .ok (.getfield 18, 3) := by decide +kernel
theorem dX1_endRight_38 : decode cX1_endRight 38 = .ok (.iload 5, 2) := by decide +kernel
theorem dX1_endRight_40 : decode cX1_endRight 40 = .ok (.laload, 1) := by decide +kernel
theorem dX1_endRight_41 : decode cX1_endRight 41 = .ok (.aload_n 1, 1) := by decide +kernel
theorem dX1_endRight_42 : decode cX1_endRight 42 = .ok (.getfield 106, 3) := by decide +kernel
theorem dX1_endRight_45 : decode cX1_endRight 45 = .ok (.iload_n 2, 1) := by decide +kernel
theorem dX1_endRight_46 : decode cX1_endRight 46 = .ok (.iaload, 1) := by decide +kernel
theorem dX1_endRight_47 : decode cX1_endRight 47 = .ok (.i2l, 1) := by decide +kernel
theorem dX1_endRight_48 : decode cX1_endRight 48 = .ok (.lmul, 1) := by decide +kernel
theorem dX1_endRight_49 : decode cX1_endRight 49 = .ok (.ldc2_w 65, 3) := by decide +kernel
theorem dX1_endRight_52 : decode cX1_endRight 52 = .ok (.ldiv, 1) := by decide +kernel
theorem dX1_endRight_53 : decode cX1_endRight 53 = .ok (.lstore 6, 2) := by decide +kernel
theorem dX1_endRight_55 : decode cX1_endRight 55 = .ok (.aload_n 0, 1) := by decide +kernel
theorem dX1_endRight_56 : decode cX1_endRight 56 = .ok (.getfield 15, 3) := by decide +kernel
theorem dX1_endRight_59 : decode cX1_endRight 59 = .ok (.iload_n 3, 1) := by decide +kernel
theorem dX1_endRight_60 : decode cX1_endRight 60 = .ok (.dup2, 1) := by decide +kernel
theorem dX1_endRight_61 : decode cX1_endRight 61 = .ok (.laload, 1) := by decide +kernel
theorem dX1_endRight_62 : decode cX1_endRight 62 = .ok (.lload 6, 2) := by decide +kernel
theorem dX1_endRight_64 : decode cX1_endRight 64 = .ok (.ladd, 1) := by decide +kernel
theorem dX1_endRight_65 : decode cX1_endRight 65 = .ok (.lastore, 1) := by decide +kernel
theorem dX1_endRight_66 : decode cX1_endRight 66 = .ok (.aload_n 0, 1) := by decide +kernel
theorem dX1_endRight_67 : decode cX1_endRight 67 = .ok (.getfield 15, 3) := by decide +kernel
theorem dX1_endRight_70 : decode cX1_endRight 70 = .ok (.iload 4, 2) := by decide +kernel
theorem dX1_endRight_72 : decode cX1_endRight 72 = .ok (.dup2, 1) := by decide +kernel
theorem dX1_endRight_73 : decode cX1_endRight 73 = .ok (.laload, 1) := by decide +kernel
theorem dX1_endRight_74 : decode cX1_endRight 74 = .ok (.aload_n 0, 1) := by decide +kernel
theorem dX1_endRight_75 : decode cX1_endRight 75 = .ok (.getfield 18, 3) := by decide +kernel
theorem dX1_endRight_78 : decode cX1_endRight 78 = .ok (.iload 5, 2) := by decide +kernel
theorem dX1_endRight_80 : decode cX1_endRight 80 = .ok (.laload, 1) := by decide +kernel
theorem dX1_endRight_81 : decode cX1_endRight 81 = .ok (.lload 6, 2) := by decide +kernel
theorem dX1_endRight_83 : decode cX1_endRight 83 = .ok (.lsub, 1) := by decide +kernel
theorem dX1_endRight_84 : decode cX1_endRight 84 = .ok (.ladd, 1) := by decide +kernel
theorem dX1_endRight_85 : decode cX1_endRight 85 = .ok (.lastore, 1) := by decide +kernel
theorem dX1_endRight_86 : decode cX1_endRight 86 = .ok (.iinc 5 1, 3) := by decide +kernel
theorem dX1_endRight_89 : decode cX1_endRight 89 = .ok (.goto (-64), 3) := by decide +kernel
theorem dX1_endRight_92 : decode cX1_endRight 92 = .ok (.iload_n 3, 1) := by decide +kernel
theorem dX1_endRight_93 : decode cX1_endRight 93 = .ok (.istore 5, 2) := by decide +kernel
theorem dX1_endRight_95 : decode cX1_endRight 95 = .ok (.iconst 0, 1) := by decide +kernel
theorem dX1_endRight_96 : decode cX1_endRight 96 = .ok (.istore 6, 2) := by decide +kernel
theorem dX1_endRight_98 : decode cX1_endRight 98 = .ok (.iload 6, 2) := by decide +kernel
theorem dX1_endRight_100 : decode cX1_endRight 100 = .ok (.aload_n 1, 1) := by decide +kernel
theorem dX1_endRight_101 : decode cX1_endRight 101 = .ok (.getfield 25, 3) := by decide +kernel
theorem dX1_endRight_104 : decode cX1_endRight 104 = .ok (.if_icmp .ge 45, 3) := by decide +kernel
theorem dX1_endRight_107 : decode cX1_endRight 107 = .ok (.aload_n 1, 1) := by decide +kernel
theorem dX1_endRight_108 : decode cX1_endRight 108 = .ok (.getfield 91, 3) := by decide +kernel
theorem dX1_endRight_111 : decode cX1_endRight 111 = .ok (.iload 6, 2) := by decide +kernel
theorem dX1_endRight_113 : decode cX1_endRight 113 = .ok (.iaload, 1) := by decide +kernel
theorem dX1_endRight_114 : decode cX1_endRight 114 = .ok (.aload_n 1, 1) := by decide +kernel
theorem dX1_endRight_115 : decode cX1_endRight 115 = .ok (.getfield 91, 3) := by decide +kernel
theorem dX1_endRight_118 : decode cX1_endRight 118 = .ok (.iload_n 2, 1) := by decide +kernel
theorem dX1_endRight_119 : decode cX1_endRight 119 = .ok (.iaload, 1) := by decide +kernel
theorem dX1_endRight_120 : decode cX1_endRight 120 = .ok (.if_icmp .gt 23, 3) := by decide +kernel
theorem dX1_endRight_123 : decode cX1_endRight 123 = .ok (.aload_n 1, 1) := by decide +kernel
theorem dX1_endRight_124 : decode cX1_endRight 124 = .ok (.iload 6, 2) := by decide +kernel
theorem dX1_endRight_126 : decode cX1_endRight 126 = .ok (.invokevirtual 109, 3) := by decide +kernel
theorem dX1_endRight_129 : decode cX1_endRight 129 = .ok (.ifCond .le 14, 3) := by decide +kernel
theorem dX1_endRight_132 : decode cX1_endRight 132 = .ok (.iload 5, 2) := by decide +kernel
theorem dX1_endRight_134 : decode cX1_endRight 134 = .ok (.getstatic 31, 3) := by decide +kernel
theorem dX1_endRight_137 : decode cX1_endRight 137 = .ok (.iload 6, 2) := by decide +kernel
theorem dX1_endRight_139 : decode cX1_endRight 139 = .ok (.iaload, 1) := by decide +kernel
theorem dX1_endRight_140 : decode cX1_endRight 140 = .ok (.iadd, 1) := by decide +kernel
theorem dX1_endRight_141 : decode cX1_endRight 141 = .ok (.istore 5, 2) := by decide +kernel
theorem dX1_endRight_143 : decode cX1_endRight 143 = .ok (.iinc 6 1, 3) := by decide +kernel
theorem dX1_endRight_146 : decode cX1_endRight 146 = .ok (.goto (-48), 3) := by decide +kernel
theorem dX1_endRight_149 : decode cX1_endRight 149 = .ok (.aload_n 0, 1) := by decide +kernel
theorem dX1_endRight_150 : decode cX1_endRight 150 = .ok (.getfield 15, 3) := by decide +kernel
theorem dX1_endRight_153 : decode cX1_endRight 153 = .ok (.iload 5, 2) := by decide +kernel
theorem dX1_endRight_155 : decode cX1_endRight 155 = .ok (.dup2, 1) := by decide +kernel
theorem dX1_endRight_156 : decode cX1_endRight 156 = .ok (.laload, 1) := by decide +kernel
theorem dX1_endRight_157 : decode cX1_endRight 157 = .ok (.aload_n 0, 1) := by decide +kernel
theorem dX1_endRight_158 : decode cX1_endRight 158 = .ok (.getfield 18, 3) := by decide +kernel
theorem dX1_endRight_161 : decode cX1_endRight 161 = .ok (.iconst 0, 1) := by decide +kernel
theorem dX1_endRight_162 : decode cX1_endRight 162 = .ok (.laload, 1) := by decide +kernel
theorem dX1_endRight_163 : decode cX1_endRight 163 = .ok (.ladd, 1) := by decide +kernel
theorem dX1_endRight_164 : decode cX1_endRight 164 = .ok (.lastore, 1) := by decide +kernel
theorem dX1_endRight_165 : decode cX1_endRight 165 = .ok (.return_, 1) := by decide +kernel
theorem dX1_endWrong_0 : decode cX1_endWrong 0 = .ok (.iload_n 3, 1) := by decide +kernel
theorem dX1_endWrong_1 : decode cX1_endWrong 1 = .ok (.aload_n 1, 1) := by decide +kernel
theorem dX1_endWrong_2 : decode cX1_endWrong 2 = .ok (.getfield 112, 3) := by decide +kernel
theorem dX1_endWrong_5 : decode cX1_endWrong 5 = .ok (.iload_n 2, 1) := by decide +kernel
theorem dX1_endWrong_6 : decode cX1_endWrong 6 = .ok (.iaload, 1) := by decide +kernel
theorem dX1_endWrong_7 : decode cX1_endWrong 7 = .ok (.aload_n 1, 1) := by decide +kernel
theorem dX1_endWrong_8 : decode cX1_endWrong 8 = .ok (.iload_n 2, 1) := by decide +kernel
theorem dX1_endWrong_9 : decode cX1_endWrong 9 = .ok (.invokevirtual 109, 3) := by decide +kernel
theorem dX1_endWrong_12 : decode cX1_endWrong 12 = .ok (.invokestatic 115, 3) := by decide +kernel
theorem dX1_endWrong_15 : decode cX1_endWrong 15 = .ok (.getstatic 31, 3) := by decide +kernel
theorem dX1_endWrong_18 : decode cX1_endWrong 18 = .ok (.iload_n 2, 1) := by decide +kernel
theorem dX1_endWrong_19 : decode cX1_endWrong 19 = .ok (.iaload, 1) := by decide +kernel
theorem dX1_endWrong_20 : decode cX1_endWrong 20 = .ok (.imul, 1) := by decide +kernel
theorem dX1_endWrong_21 : decode cX1_endWrong 21 = .ok (.iadd, 1) := by decide +kernel
theorem dX1_endWrong_22 : decode cX1_endWrong 22 = .ok (.istore 4, 2) := by decide +kernel
theorem dX1_endWrong_24 : decode cX1_endWrong 24 = .ok (.iconst 1, 1) := by decide +kernel
theorem dX1_endWrong_25 : decode cX1_endWrong 25 = .ok (.istore 5, 2) := by decide +kernel
theorem dX1_endWrong_27 : decode cX1_endWrong 27 = .ok (.iload 5, 2) := by decide +kernel
theorem dX1_endWrong_29 : decode cX1_endWrong 29 = .ok (.aload_n 0, 1) := by decide +kernel
theorem dX1_endWrong_30 : decode cX1_endWrong 30 = .ok (.getfield 77, 3) := by decide +kernel
theorem dX1_endWrong_33 : decode cX1_endWrong 33 = .ok (.if_icmp .ge 94, 3) := by decide +kernel
theorem dX1_endWrong_36 : decode cX1_endWrong 36 = .ok (.iload 4, 2) := by decide +kernel
theorem dX1_endWrong_38 : decode cX1_endWrong 38 = .ok (.istore 6, 2) := by decide +kernel
theorem dX1_endWrong_40 : decode cX1_endWrong 40 = .ok (.iconst 0, 1) := by decide +kernel
theorem dX1_endWrong_41 : decode cX1_endWrong 41 = .ok (.istore 7, 2) := by decide +kernel
theorem dX1_endWrong_43 : decode cX1_endWrong 43 = .ok (.iload 7, 2) := by decide +kernel
theorem dX1_endWrong_45 : decode cX1_endWrong 45 = .ok (.aload_n 0, 1) := by decide +kernel
theorem dX1_endWrong_46 : decode cX1_endWrong 46 = .ok (.getfield 80, 3) := by decide +kernel
theorem dX1_endWrong_49 : decode cX1_endWrong 49 = .ok (.if_icmp .ge 55, 3) := by decide +kernel
theorem dX1_endWrong_52 : decode cX1_endWrong 52 = .ok (.aload_n 0, 1) := by decide +kernel
theorem dX1_endWrong_53 : decode cX1_endWrong 53 = .ok (.getfield 21, 3) := by decide +kernel
theorem dX1_endWrong_56 : decode cX1_endWrong 56 = .ok (.iload 7, 2) := by decide +kernel
theorem dX1_endWrong_58 : decode cX1_endWrong 58 = .ok (.iaload, 1) := by decide +kernel
theorem dX1_endWrong_59 : decode cX1_endWrong 59 = .ok (.istore 8, 2) := by decide +kernel
theorem dX1_endWrong_61 : decode cX1_endWrong 61 = .ok (.iload 5, 2) := by decide +kernel
theorem dX1_endWrong_63 : decode cX1_endWrong 63 = .ok (.iload 7, 2) := by decide +kernel
theorem dX1_endWrong_65 : decode cX1_endWrong 65 = .ok (.ishr, 1) := by decide +kernel
theorem dX1_endWrong_66 : decode cX1_endWrong 66 = .ok (.iconst 1, 1) := by decide +kernel
theorem dX1_endWrong_67 : decode cX1_endWrong 67 = .ok (.iand, 1) := by decide +kernel
theorem dX1_endWrong_68 : decode cX1_endWrong 68 = .ok (.iconst 1, 1) := by decide +kernel
theorem dX1_endWrong_69 : decode cX1_endWrong 69 = .ok (.if_icmp .ne 29, 3) := by decide +kernel
theorem dX1_endWrong_72 : decode cX1_endWrong 72 = .ok (.iload 8, 2) := by decide +kernel
theorem dX1_endWrong_74 : decode cX1_endWrong 74 = .ok (.iconst (-1), 1) := by decide +kernel
theorem dX1_endWrong_75 : decode cX1_endWrong 75 = .ok (.if_icmp .eq 23, 3) := by decide +kernel
theorem dX1_endWrong_78 : decode cX1_endWrong 78 = .ok (.aload_n 1, 1) := by decide +kernel
theorem dX1_endWrong_79 : decode cX1_endWrong 79 = .ok (.iload 8, 2) := by decide +kernel
theorem dX1_endWrong_81 : decode cX1_endWrong 81 = .ok (.invokevirtual 109, 3) := by decide +kernel
theorem dX1_endWrong_84 : decode cX1_endWrong 84 = .ok (.ifCond .le 14, 3) := by decide +kernel
theorem dX1_endWrong_87 : decode cX1_endWrong 87 = .ok (.iload 6, 2) := by decide +kernel
theorem dX1_endWrong_89 : decode cX1_endWrong 89 = .ok (.getstatic 31, 3) := by decide +kernel
theorem dX1_endWrong_92 : decode cX1_endWrong 92 = .ok (.iload 8, 2) := by decide +kernel
theorem dX1_endWrong_94 : decode cX1_endWrong 94 = .ok (.iaload, 1) := by decide +kernel
theorem dX1_endWrong_95 : decode cX1_endWrong 95 = .ok (.iadd, 1) := by decide +kernel
theorem dX1_endWrong_96 : decode cX1_endWrong 96 = .ok (.istore 6, 2) := by decide +kernel
theorem dX1_endWrong_98 : decode cX1_endWrong 98 = .ok (.iinc 7 1, 3) := by decide +kernel
theorem dX1_endWrong_101 : decode cX1_endWrong 101 = .ok (.goto (-58), 3) := by decide +kernel
theorem dX1_endWrong_104 : decode cX1_endWrong 104 = .ok (.aload_n 0, 1) := by decide +kernel
theorem dX1_endWrong_105 : decode cX1_endWrong 105 = .ok (.getfield 15, 3) := by decide +kernel
theorem dX1_endWrong_108 : decode cX1_endWrong 108 = .ok (.iload 6, 2) := by decide +kernel
theorem dX1_endWrong_110 : decode cX1_endWrong 110 = .ok (.dup2, 1) := by decide +kernel
theorem dX1_endWrong_111 : decode cX1_endWrong 111 = .ok (.laload, 1) := by decide +kernel
theorem dX1_endWrong_112 : decode cX1_endWrong 112 = .ok (.aload_n 0, 1) := by decide +kernel
theorem dX1_endWrong_113 : decode cX1_endWrong 113 = .ok (.getfield 18, 3) := by decide +kernel
theorem dX1_endWrong_116 : decode cX1_endWrong 116 = .ok (.iload 5, 2) := by decide +kernel
theorem dX1_endWrong_118 : decode cX1_endWrong 118 = .ok (.laload, 1) := by decide +kernel
theorem dX1_endWrong_119 : decode cX1_endWrong 119 = .ok (.ladd, 1) := by decide +kernel
theorem dX1_endWrong_120 : decode cX1_endWrong 120 = .ok (.lastore, 1) := by decide +kernel
theorem dX1_endWrong_121 : decode cX1_endWrong 121 = .ok (.iinc 5 1, 3) := by decide +kernel
theorem dX1_endWrong_124 : decode cX1_endWrong 124 = .ok (.goto (-97), 3) := by decide +kernel
theorem dX1_endWrong_127 : decode cX1_endWrong 127 = .ok (.aload_n 0, 1) := by decide +kernel
theorem dX1_endWrong_128 : decode cX1_endWrong 128 = .ok (.aload_n 1, 1) := by decide +kernel
theorem dX1_endWrong_129 : decode cX1_endWrong 129 = .ok (.iload_n 2, 1) := by decide +kernel
theorem dX1_endWrong_130 : decode cX1_endWrong 130 = .ok (.iload_n 3, 1) := by decide +kernel
theorem dX1_endWrong_131 : decode cX1_endWrong 131 = .ok (.invokevirtual 120, 3) := by decide +kernel
theorem dX1_endWrong_134 : decode cX1_endWrong 134 = .ok (.return_, 1) := by decide +kernel
theorem dX1_endMisled_0 : decode cX1_endMisled 0 = .ok (.aload_n 0, 1) := by decide +kernel
theorem dX1_endMisled_1 : decode cX1_endMisled 1 = .ok (.aload_n 0, 1) := by decide +kernel
theorem dX1_endMisled_2 : decode cX1_endMisled 2 = .ok (.getfield 18, 3) := by decide +kernel
theorem dX1_endMisled_5 : decode cX1_endMisled 5 = .ok (.iconst 0, 1) := by decide +kernel
theorem dX1_endMisled_6 : decode cX1_endMisled 6 = .ok (.laload, 1) := by decide +kernel
theorem dX1_endMisled_7 : decode cX1_endMisled 7 = .ok (.invokevirtual 83, 3) := by decide +kernel
theorem dX1_endMisled_10 : decode cX1_endMisled 10 = .ok (.iconst 0, 1) := by decide +kernel
theorem dX1_endMisled_11 : decode cX1_endMisled 11 = .ok (.istore 4, 2) := by decide +kernel
theorem dX1_endMisled_13 : decode cX1_endMisled 13 = .ok (.iload 4, 2) := by decide +kernel
theorem dX1_endMisled_15 : decode cX1_endMisled 15 = .ok (.aload_n 1, 1) := by decide +kernel
theorem dX1_endMisled_16 : decode cX1_endMisled 16 = .ok (.getfield 25, 3) := by decide +kernel
theorem dX1_endMisled_19 : decode cX1_endMisled 19 = .ok (.if_icmp .ge 32, 3) := by decide +kernel
theorem dX1_endMisled_22 : decode cX1_endMisled 22 = .ok (.aload_n 1, 1) := by decide +kernel
theorem dX1_endMisled_23 : decode cX1_endMisled 23 = .ok (.iload 4, 2) := by decide +kernel
theorem dX1_endMisled_25 : decode cX1_endMisled 25 = .ok (.iload_n 2, 1) := by decide +kernel
theorem dX1_endMisled_26 : decode cX1_endMisled 26 = .ok (.invokevirtual 123, 3) := by decide +kernel
theorem dX1_endMisled_29 : decode cX1_endMisled 29 = .ok (.ifCond .eq 16, 3) := by decide +kernel
theorem dX1_endMisled_32 : decode cX1_endMisled 32 = .ok (.aload_n 0, 1) := by decide +kernel
theorem dX1_endMisled_33 : decode cX1_endMisled 33 = .ok (.iload 4, 2) := by decide +kernel
theorem dX1_endMisled_35 : decode cX1_endMisled 35 = .ok (.aload_n 1, 1) := by decide +kernel
theorem dX1_endMisled_36 : decode cX1_endMisled 36 = .ok (.getfield 126, 3) := by decide +kernel
theorem dX1_endMisled_39 : decode cX1_endMisled 39 = .ok (.iload 4, 2) := by decide +kernel
theorem dX1_endMisled_41 : decode cX1_endMisled 41 = .ok (.iaload, 1) := by decide +kernel
theorem dX1_endMisled_42 : decode cX1_endMisled 42 = .ok (.invokevirtual 98, 3) := by decide +kernel
theorem dX1_endMisled_45 : decode cX1_endMisled 45 = .ok (.iinc 4 1, 3) := by decide +kernel
theorem dX1_endMisled_48 : decode cX1_endMisled 48 = .ok (.goto (-35), 3) := by decide +kernel
theorem dX1_endMisled_51 : decode cX1_endMisled 51 = .ok (.iconst 0, 1) := by decide +kernel
theorem dX1_endMisled_52 : decode cX1_endMisled 52 = .ok (.istore 4, 2) := by decide +kernel
theorem dX1_endMisled_54 : decode cX1_endMisled 54 = .ok (.iload 4, 2) := by decide +kernel
theorem dX1_endMisled_56 : decode cX1_endMisled 56 = .ok (.aload_n 0, 1) := by decide +kernel
theorem dX1_endMisled_57 : decode cX1_endMisled 57 = .ok (.getfield 77, 3) := by decide +kernel
theorem dX1_endMisled_60 : decode cX1_endMisled 60 = .ok (.if_icmp .ge 71, 3) := by decide +kernel
theorem dX1_endMisled_63 : decode cX1_endMisled 63 = .ok (.iload_n 3, 1) := by decide +kernel
theorem dX1_endMisled_64 : decode cX1_endMisled 64 = .ok (.istore 5, 2) := by decide +kernel
theorem dX1_endMisled_66 : decode cX1_endMisled 66 = .ok (.iconst 0, 1) := by decide +kernel
theorem dX1_endMisled_67 : decode cX1_endMisled 67 = .ok (.istore 6, 2) := by decide +kernel
theorem dX1_endMisled_69 : decode cX1_endMisled 69 = .ok (.iload 6, 2) := by decide +kernel
theorem dX1_endMisled_71 : decode cX1_endMisled 71 = .ok (.aload_n 0, 1) := by decide +kernel
theorem dX1_endMisled_72 : decode cX1_endMisled 72 = .ok (.getfield 80, 3) := by decide +kernel
theorem dX1_endMisled_75 : decode cX1_endMisled 75 = .ok (.if_icmp .ge 33, 3) := by decide +kernel
theorem dX1_endMisled_78 : decode cX1_endMisled 78 = .ok (.iload 5, 2) := by decide +kernel
theorem dX1_endMisled_80 : decode cX1_endMisled 80 = .ok (.iload 4, 2) := by decide +kernel
theorem dX1_endMisled_82 : decode cX1_endMisled 82 = .ok (.iload 6, 2) := by decide +kernel
theorem dX1_endMisled_84 : decode cX1_endMisled 84 = .ok (.ishr, 1) := by decide +kernel
theorem dX1_endMisled_85 : decode cX1_endMisled 85 = .ok (.iconst 1, 1) := by decide +kernel
theorem dX1_endMisled_86 : decode cX1_endMisled 86 = .ok (.iand, 1) := by decide +kernel
theorem dX1_endMisled_87 : decode cX1_endMisled 87 = .ok (.getstatic 31, 3) := by decide +kernel
theorem dX1_endMisled_90 : decode cX1_endMisled 90 = .ok (.aload_n 0, 1) := by decide +kernel
theorem dX1_endMisled_91 : decode cX1_endMisled 91 = .ok (.getfield 21, 3) := by decide +kernel
theorem dX1_endMisled_94 : decode cX1_endMisled 94 = .ok (.iload 6, 2) := by decide +kernel
theorem dX1_endMisled_96 : decode cX1_endMisled 96 = .ok (.iaload, 1) := by decide +kernel
theorem dX1_endMisled_97 : decode cX1_endMisled 97 = .ok (.iaload, 1) := by decide +kernel
theorem dX1_endMisled_98 : decode cX1_endMisled 98 = .ok (.imul, 1) := by decide +kernel
theorem dX1_endMisled_99 : decode cX1_endMisled 99 = .ok (.isub, 1) := by decide +kernel
theorem dX1_endMisled_100 : decode cX1_endMisled 100 = .ok (.istore 5, 2) := by decide +kernel
theorem dX1_endMisled_102 : decode cX1_endMisled 102 = .ok (.iinc 6 1, 3) := by decide +kernel
theorem dX1_endMisled_105 : decode cX1_endMisled 105 = .ok (.goto (-36), 3) := by decide +kernel
theorem dX1_endMisled_108 : decode cX1_endMisled 108 = .ok (.aload_n 0, 1) := by decide +kernel
theorem dX1_endMisled_109 : decode cX1_endMisled 109 = .ok (.getfield 15, 3) := by decide +kernel
theorem dX1_endMisled_112 : decode cX1_endMisled 112 = .ok (.iload 5, 2) := by decide +kernel
theorem dX1_endMisled_114 : decode cX1_endMisled 114 = .ok (.dup2, 1) := by decide +kernel
theorem dX1_endMisled_115 : decode cX1_endMisled 115 = .ok (.laload, 1) := by decide +kernel
theorem dX1_endMisled_116 : decode cX1_endMisled 116 = .ok (.aload_n 0, 1) := by decide +kernel
theorem dX1_endMisled_117 : decode cX1_endMisled 117 = .ok (.getfield 18, 3) := by decide +kernel
theorem dX1_endMisled_120 : decode cX1_endMisled 120 = .ok (.iload 4, 2) := by decide +kernel
theorem dX1_endMisled_122 : decode cX1_endMisled 122 = .ok (.laload, 1) := by decide +kernel
theorem dX1_endMisled_123 : decode cX1_endMisled 123 = .ok (.ladd, 1) := by decide +kernel
theorem dX1_endMisled_124 : decode cX1_endMisled 124 = .ok (.lastore, 1) := by decide +kernel
theorem dX1_endMisled_125 : decode cX1_endMisled 125 = .ok (.iinc 4 1, 3) := by decide +kernel
theorem dX1_endMisled_128 : decode cX1_endMisled 128 = .ok (.goto (-74), 3) := by decide +kernel
theorem dX1_endMisled_131 : decode cX1_endMisled 131 = .ok (.return_, 1) := by decide +kernel
theorem dX1_thatAllKnow_0 : decode cX1_thatAllKnow 0 = .ok (.aload_n 0, 1) := by decide +kernel
theorem dX1_thatAllKnow_1 : decode cX1_thatAllKnow 1 = .ok (.getfield 9, 3) := by decide +kernel
theorem dX1_thatAllKnow_4 : decode cX1_thatAllKnow 4 = .ok (.getstatic 31, 3) := by decide +kernel
theorem dX1_thatAllKnow_7 : decode cX1_thatAllKnow 7 = .ok (.iload_n 1, 1) := by decide +kernel
theorem dX1_thatAllKnow_8 : decode cX1_thatAllKnow 8 = .ok (.iaload, 1) := by decide +kernel
theorem dX1_thatAllKnow_9 : decode cX1_thatAllKnow 9 = .ok (.iconst 1, 1) := by decide +kernel
theorem dX1_thatAllKnow_10 : decode cX1_thatAllKnow 10 = .ok (.isub, 1) := by decide +kernel
theorem dX1_thatAllKnow_11 : decode cX1_thatAllKnow 11 = .ok (.laload, 1) := by decide +kernel
theorem dX1_thatAllKnow_12 : decode cX1_thatAllKnow 12 = .ok (.ldc2_w 129, 3) := by decide +kernel
theorem dX1_thatAllKnow_15 : decode cX1_thatAllKnow 15 = .ok (.ldiv, 1) := by decide +kernel
theorem dX1_thatAllKnow_16 : decode cX1_thatAllKnow 16 = .ok (.l2i, 1) := by decide +kernel
theorem dX1_thatAllKnow_17 : decode cX1_thatAllKnow 17 = .ok (.ireturn, 1) := by decide +kernel
theorem dX1_thatNobodyKnows_0 : decode cX1_thatNobodyKnows 0 = .ok (.lconst 0, 1) := by decide +kernel
theorem dX1_thatNobodyKnows_1 : decode cX1_thatNobodyKnows 1 = .ok (.lstore_n 2, 1) := by decide +kernel
theorem dX1_thatNobodyKnows_2 : decode cX1_thatNobodyKnows 2 = .ok (.iconst 0, 1) := by decide +kernel
theorem dX1_thatNobodyKnows_3 : decode cX1_thatNobodyKnows 3 = .ok (.istore 4, 2) := by decide +kernel
theorem dX1_thatNobodyKnows_5 : decode cX1_thatNobodyKnows 5 = .ok (.iload 4, 2) := by decide +kernel
theorem dX1_thatNobodyKnows_7 : decode cX1_thatNobodyKnows 7 = .ok (.getstatic 31, 3) := by decide +kernel
theorem dX1_thatNobodyKnows_10 : decode cX1_thatNobodyKnows 10 = .ok (.iload_n 1, 1) := by decide +kernel
theorem dX1_thatNobodyKnows_11 : decode cX1_thatNobodyKnows 11 = .ok (.iaload, 1) := by decide +kernel
theorem dX1_thatNobodyKnows_12 : decode cX1_thatNobodyKnows 12 = .ok (.if_icmp .ge 75, 3) := by decide +kernel
theorem dX1_thatNobodyKnows_15 : decode cX1_thatNobodyKnows 15 = .ok (.iconst 0, 1) := by decide +kernel
theorem dX1_thatNobodyKnows_16 : decode cX1_thatNobodyKnows 16 = .ok (.istore 5, 2) := by decide +kernel
theorem dX1_thatNobodyKnows_18 : decode cX1_thatNobodyKnows 18 = .ok (.iconst 0, 1) := by decide +kernel
theorem dX1_thatNobodyKnows_19 : decode cX1_thatNobodyKnows 19 = .ok (.istore 6, 2) := by decide +kernel
theorem dX1_thatNobodyKnows_21 : decode cX1_thatNobodyKnows 21 = .ok (.iload 6, 2) := by decide +kernel
theorem dX1_thatNobodyKnows_23 : decode cX1_thatNobodyKnows 23 = .ok (.iload_n 1, 1) := by decide +kernel
theorem dX1_thatNobodyKnows_24 : decode cX1_thatNobodyKnows 24 = .ok (.if_icmp .ge 38, 3) := by decide +kernel
theorem dX1_thatNobodyKnows_27 : decode cX1_thatNobodyKnows 27 = .ok (.iload 5, 2) := by decide +kernel
theorem dX1_thatNobodyKnows_29 : decode cX1_thatNobodyKnows 29 = .ok (.ifCond .ne 20, 3) := by decide +kernel
theorem dX1_thatNobodyKnows_32 : decode cX1_thatNobodyKnows 32 = .ok (.iload 4, 2) := by decide +kernel
theorem dX1_thatNobodyKnows_34 : decode cX1_thatNobodyKnows 34 = .ok (.getstatic 31, 3) := by decide +kernel
theorem dX1_thatNobodyKnows_37 : decode cX1_thatNobodyKnows 37 = .ok (.iload 6, 2) := by decide +kernel
theorem dX1_thatNobodyKnows_39 : decode cX1_thatNobodyKnows 39 = .ok (.iaload, 1) := by decide +kernel
theorem dX1_thatNobodyKnows_40 : decode cX1_thatNobodyKnows 40 = .ok (.idiv, 1) := by decide +kernel
theorem dX1_thatNobodyKnows_41 : decode cX1_thatNobodyKnows 41 = .ok (.bipush 10, 2) := by decide +kernel
theorem dX1_thatNobodyKnows_43 : decode cX1_thatNobodyKnows 43 = .ok (.irem, 1) := by decide +kernel
theorem dX1_thatNobodyKnows_44 : decode cX1_thatNobodyKnows 44 = .ok (.bipush 9, 2) := by decide +kernel
theorem dX1_thatNobodyKnows_46 : decode cX1_thatNobodyKnows 46 = .ok (.if_icmp .ne 7, 3) := by decide +kernel
theorem dX1_thatNobodyKnows_49 : decode cX1_thatNobodyKnows 49 = .ok (.iconst 1, 1) := by decide +kernel
theorem dX1_thatNobodyKnows_50 : decode cX1_thatNobodyKnows 50 = .ok (.goto 4, 3) := by decide +kernel
theorem dX1_thatNobodyKnows_53 : decode cX1_thatNobodyKnows 53 = .ok (.iconst 0, 1) := by decide +kernel
theorem dX1_thatNobodyKnows_54 : decode cX1_thatNobodyKnows 54 = .ok (.istore 5, 2) := by decide +kernel
theorem dX1_thatNobodyKnows_56 : decode cX1_thatNobodyKnows 56 = .ok (.iinc 6 1, 3) := by decide +kernel
theorem dX1_thatNobodyKnows_59 : decode cX1_thatNobodyKnows 59 = .ok (.goto (-38), 3) := by decide +kernel
theorem dX1_thatNobodyKnows_62 : decode cX1_thatNobodyKnows 62 = .ok (.lload_n 2, 1) := by decide +kernel
theorem dX1_thatNobodyKnows_63 : decode cX1_thatNobodyKnows 63 = .ok (.iload 5, 2) := by decide +kernel
theorem dX1_thatNobodyKnows_65 : decode cX1_thatNobodyKnows 65 = .ok (.ifCond .eq 7, 3) := by decide +kernel
theorem dX1_thatNobodyKnows_68 : decode cX1_thatNobodyKnows 68 = .ok (.lconst 0, 1) := by decide +kernel
theorem dX1_thatNobodyKnows_69 : decode cX1_thatNobodyKnows 69 = .ok (.goto 10, 3) := by decide +kernel
theorem dX1_thatNobodyKnows_72 : decode cX1_thatNobodyKnows 72 = .ok (.aload_n 0, 1) := by decide +kernel
theorem dX1_thatNobodyKnows_73 : decode cX1_thatNobodyKnows 73 = .ok (.getfield 9, 3) := by decide +kernel
theorem dX1_thatNobodyKnows_76 : decode cX1_thatNobodyKnows 76 = .ok (.iload 4, 2) := by decide +kernel
theorem dX1_thatNobodyKnows_78 : decode cX1_thatNobodyKnows 78 = .ok (.laload, 1) := by decide +kernel
theorem dX1_thatNobodyKnows_79 : decode cX1_thatNobodyKnows 79 = .ok (.ladd, 1) := by decide +kernel
theorem dX1_thatNobodyKnows_80 : decode cX1_thatNobodyKnows 80 = .ok (.lstore_n 2, 1) := by decide +kernel
theorem dX1_thatNobodyKnows_81 : decode cX1_thatNobodyKnows 81 = .ok (.iinc 4 1, 3) := by decide +kernel
theorem dX1_thatNobodyKnows_84 : decode cX1_thatNobodyKnows 84 = .ok (.goto (-79), 3) := by decide +kernel
theorem dX1_thatNobodyKnows_87 : decode cX1_thatNobodyKnows 87 = .ok (.lload_n 2, 1) := by decide +kernel
theorem dX1_thatNobodyKnows_88 : decode cX1_thatNobodyKnows 88 = .ok (.ldc2_w 129, 3) := by decide +kernel
theorem dX1_thatNobodyKnows_91 : decode cX1_thatNobodyKnows 91 = .ok (.ldiv, 1) := by decide +kernel
theorem dX1_thatNobodyKnows_92 : decode cX1_thatNobodyKnows 92 = .ok (.l2i, 1) := by decide +kernel
theorem dX1_thatNobodyKnows_93 : decode cX1_thatNobodyKnows 93 = .ok (.ireturn, 1) := by decide +kernel
theorem dX1_meanLevel_0 : decode cX1_meanLevel 0 = .ok (.lconst 0, 1) := by decide +kernel
theorem dX1_meanLevel_1 : decode cX1_meanLevel 1 = .ok (.lstore_n 3, 1) := by decide +kernel
theorem dX1_meanLevel_2 : decode cX1_meanLevel 2 = .ok (.iconst 0, 1) := by decide +kernel
theorem dX1_meanLevel_3 : decode cX1_meanLevel 3 = .ok (.istore 5, 2) := by decide +kernel
theorem dX1_meanLevel_5 : decode cX1_meanLevel 5 = .ok (.iload 5, 2) := by decide +kernel
theorem dX1_meanLevel_7 : decode cX1_meanLevel 7 = .ok (.getstatic 31, 3) := by decide +kernel
theorem dX1_meanLevel_10 : decode cX1_meanLevel 10 = .ok (.iload_n 1, 1) := by decide +kernel
theorem dX1_meanLevel_11 : decode cX1_meanLevel 11 = .ok (.iaload, 1) := by decide +kernel
theorem dX1_meanLevel_12 : decode cX1_meanLevel 12 = .ok (.if_icmp .ge 32, 3) := by decide +kernel
theorem dX1_meanLevel_15 : decode cX1_meanLevel 15 = .ok (.lload_n 3, 1) := by decide +kernel
theorem dX1_meanLevel_16 : decode cX1_meanLevel 16 = .ok (.aload_n 0, 1) := by decide +kernel
theorem dX1_meanLevel_17 : decode cX1_meanLevel 17 = .ok (.getfield 9, 3) := by decide +kernel
theorem dX1_meanLevel_20 : decode cX1_meanLevel 20 = .ok (.iload 5, 2) := by decide +kernel
theorem dX1_meanLevel_22 : decode cX1_meanLevel 22 = .ok (.laload, 1) := by decide +kernel
theorem dX1_meanLevel_23 : decode cX1_meanLevel 23 = .ok (.iload 5, 2) := by decide +kernel
theorem dX1_meanLevel_25 : decode cX1_meanLevel 25 = .ok (.getstatic 31, 3) := by decide +kernel
theorem dX1_meanLevel_28 : decode cX1_meanLevel 28 = .ok (.iload_n 2, 1) := by decide +kernel
theorem dX1_meanLevel_29 : decode cX1_meanLevel 29 = .ok (.iaload, 1) := by decide +kernel
theorem dX1_meanLevel_30 : decode cX1_meanLevel 30 = .ok (.idiv, 1) := by decide +kernel
theorem dX1_meanLevel_31 : decode cX1_meanLevel 31 = .ok (.bipush 10, 2) := by decide +kernel
theorem dX1_meanLevel_33 : decode cX1_meanLevel 33 = .ok (.irem, 1) := by decide +kernel
theorem dX1_meanLevel_34 : decode cX1_meanLevel 34 = .ok (.i2l, 1) := by decide +kernel
theorem dX1_meanLevel_35 : decode cX1_meanLevel 35 = .ok (.lmul, 1) := by decide +kernel
theorem dX1_meanLevel_36 : decode cX1_meanLevel 36 = .ok (.ladd, 1) := by decide +kernel
theorem dX1_meanLevel_37 : decode cX1_meanLevel 37 = .ok (.lstore_n 3, 1) := by decide +kernel
theorem dX1_meanLevel_38 : decode cX1_meanLevel 38 = .ok (.iinc 5 1, 3) := by decide +kernel
theorem dX1_meanLevel_41 : decode cX1_meanLevel 41 = .ok (.goto (-36), 3) := by decide +kernel
theorem dX1_meanLevel_44 : decode cX1_meanLevel 44 = .ok (.lload_n 3, 1) := by decide +kernel
theorem dX1_meanLevel_45 : decode cX1_meanLevel 45 = .ok (.ldc2_w 131, 3) := by decide +kernel
theorem dX1_meanLevel_48 : decode cX1_meanLevel 48 = .ok (.ldiv, 1) := by decide +kernel
theorem dX1_meanLevel_49 : decode cX1_meanLevel 49 = .ok (.l2i, 1) := by decide +kernel
theorem dX1_meanLevel_50 : decode cX1_meanLevel 50 = .ok (.ireturn, 1) := by decide +kernel
theorem dX2_init_0 : decode cX2_init 0 = .ok (.aload_n 0, 1) := by decide +kernel
theorem dX2_init_1 : decode cX2_init 1 = .ok (.invokespecial 3, 3) := by decide +kernel
theorem dX2_init_4 : decode cX2_init 4 = .ok (.aload_n 0, 1) := by decide +kernel
theorem dX2_init_5 : decode cX2_init 5 = .ok (.sipush 400, 3) := by decide +kernel
theorem dX2_init_8 : decode cX2_init 8 = .ok (.newarray .byte, 2) := by decide +kernel
theorem dX2_init_10 : decode cX2_init 10 = .ok (.putfield 9, 3) := by decide +kernel
theorem dX2_init_13 : decode cX2_init 13 = .ok (.aload_n 0, 1) := by decide +kernel
theorem dX2_init_14 : decode cX2_init 14 = .ok (.iconst (-1), 1) := by decide +kernel
theorem dX2_init_15 : decode cX2_init 15 = .ok (.putfield 15, 3) := by decide +kernel
theorem dX2_init_18 : decode cX2_init 18 = .ok (.return_, 1) := by decide +kernel
theorem dX2_add_0 : decode cX2_add 0 = .ok (.aload_n 0, 1) := by decide +kernel
theorem dX2_add_1 : decode cX2_add 1 = .ok (.getfield 19, 3) := by decide +kernel
theorem dX2_add_4 : decode cX2_add 4 = .ok (.sipush 400, 3) := by decide +kernel
theorem dX2_add_7 : decode cX2_add 7 = .ok (.if_icmp .ge 24, 3) := by decide +kernel
theorem dX2_add_10 : decode cX2_add 10 = .ok (.aload_n 0, 1) := by decide +kernel
theorem dX2_add_11 : decode cX2_add 11 = .ok (.getfield 9, 3) := by decide +kernel
theorem dX2_add_14 : decode cX2_add 14 = .ok (.aload_n 0, 1) := by decide +kernel
theorem dX2_add_15 : decode cX2_add 15 = .ok (.getfield 19, 3) := by decide +kernel
theorem dX2_add_18 : decode cX2_add 18 = .ok (.iload_n 1, 1) := by decide +kernel
theorem dX2_add_19 : decode cX2_add 19 = .ok (.i2b, 1) := by decide +kernel
theorem dX2_add_20 : decode cX2_add 20 = .ok (.bastore, 1) := by decide +kernel
theorem dX2_add_21 : decode cX2_add 21 = .ok (.aload_n 0, 1) := by decide +kernel
theorem dX2_add_22 : decode cX2_add 22 = .ok (.dup, 1) := by decide +kernel
theorem dX2_add_23 : decode cX2_add 23 = .ok (.getfield 19, 3) := by decide +kernel
theorem dX2_add_26 : decode cX2_add 26 = .ok (.iconst 1, 1) := by decide +kernel
theorem dX2_add_27 : decode cX2_add 27 = .ok (.iadd, 1) := by decide +kernel
theorem dX2_add_28 : decode cX2_add 28 = .ok (.putfield 19, 3) := by decide +kernel
theorem dX2_add_31 : decode cX2_add 31 = .ok (.return_, 1) := by decide +kernel
theorem dX2_read_0 : decode cX2_read 0 = .ok (.aload_n 0, 1) := by decide +kernel
theorem dX2_read_1 : decode cX2_read 1 = .ok (.aload_n 1, 1) := by decide +kernel
theorem dX2_read_2 : decode cX2_read 2 = .ok (.putfield 22, 3) := by decide +kernel
theorem dX2_read_5 : decode cX2_read 5 = .ok (.aload_n 0, 1) := by decide +kernel
theorem dX2_read_6 : decode cX2_read 6 = .ok (.getfield 22, 3) := by decide +kernel
theorem dX2_read_9 : decode cX2_read 9 = .ok (.iconst 0, 1) := by decide +kernel
theorem dX2_read_10 : decode cX2_read 10 = .ok (.putfield 26, 3) := by decide +kernel
theorem dX2_read_13 : decode cX2_read 13 = .ok (.aload_n 0, 1) := by decide +kernel
theorem dX2_read_14 : decode cX2_read 14 = .ok (.getfield 22, 3) := by decide +kernel
theorem dX2_read_17 : decode cX2_read 17 = .ok (.iconst 0, 1) := by decide +kernel
theorem dX2_read_18 : decode cX2_read 18 = .ok (.putfield 31, 3) := by decide +kernel
theorem dX2_read_21 : decode cX2_read 21 = .ok (.aload_n 0, 1) := by decide +kernel
theorem dX2_read_22 : decode cX2_read 22 = .ok (.iconst 0, 1) := by decide +kernel
theorem dX2_read_23 : decode cX2_read 23 = .ok (.putfield 34, 3) := by decide +kernel
theorem dX2_read_26 : decode cX2_read 26 = .ok (.aload_n 0, 1) := by decide +kernel
theorem dX2_read_27 : decode cX2_read 27 = .ok (.iconst (-1), 1) := by decide +kernel
theorem dX2_read_28 : decode cX2_read 28 = .ok (.putfield 15, 3) := by decide +kernel
theorem dX2_read_31 : decode cX2_read 31 = .ok (.aload_n 0, 1) := by decide +kernel
theorem dX2_read_32 : decode cX2_read 32 = .ok (.iconst 0, 1) := by decide +kernel
theorem dX2_read_33 : decode cX2_read 33 = .ok (.putfield 37, 3) := by decide +kernel
theorem dX2_read_36 : decode cX2_read 36 = .ok (.aload_n 0, 1) := by decide +kernel
theorem dX2_read_37 : decode cX2_read 37 = .ok (.invokevirtual 40, 3) := by decide +kernel
theorem dX2_read_40 : decode cX2_read 40 = .ok (.iconst 0, 1) := by decide +kernel
theorem dX2_read_41 : decode cX2_read 41 = .ok (.istore_n 2, 1) := by decide +kernel
theorem dX2_read_42 : decode cX2_read 42 = .ok (.iload_n 2, 1) := by decide +kernel
theorem dX2_read_43 : decode cX2_read 43 = .ok (.sipush 400, 3) := by decide +kernel
theorem dX2_read_46 : decode cX2_read 46 = .ok (.if_icmp .ge 64, 3) := by decide +kernel
theorem dX2_read_49 : decode cX2_read 49 = .ok (.aload_n 0, 1) := by decide +kernel
theorem dX2_read_50 : decode cX2_read 50 = .ok (.getfield 43, 3) := by decide +kernel
theorem dX2_read_53 : decode cX2_read 53 = .ok (.ifCond .eq 57, 3) := by decide +kernel
theorem dX2_read_56 : decode cX2_read 56 = .ok (.aload_n 0, 1) := by decide +kernel
theorem dX2_read_57 : decode cX2_read 57 = .ok (.getfield 34, 3) := by decide +kernel
theorem dX2_read_60 : decode cX2_read 60 = .ok (.ifCond .ne 50, 3) := by decide +kernel
theorem dX2_read_63 : decode cX2_read 63 = .ok (.aload_n 0, 1) := by decide +kernel
theorem dX2_read_64 : decode cX2_read 64 = .ok (.ldc 46, 2) := by decide +kernel
theorem dX2_read_66 : decode cX2_read 66 = .ok (.invokevirtual 48, 3) := by decide +kernel
theorem dX2_read_69 : decode cX2_read 69 = .ok (.ifCond .eq 10, 3) := by decide +kernel
theorem dX2_read_72 : decode cX2_read 72 = .ok (.aload_n 0, 1) := by decide +kernel
theorem dX2_read_73 : decode cX2_read 73 = .ok (.invokevirtual 52, 3) := by decide +kernel
theorem dX2_read_76 : decode cX2_read 76 = .ok (.goto 28, 3) := by decide +kernel
theorem dX2_read_79 : decode cX2_read 79 = .ok (.aload_n 0, 1) := by decide +kernel
theorem dX2_read_80 : decode cX2_read 80 = .ok (.ldc 55, 2) := by decide +kernel
theorem dX2_read_82 : decode cX2_read 82 = .ok (.invokevirtual 48, 3) := by decide +kernel
theorem dX2_read_85 : decode cX2_read 85 = .ok (.ifCond .eq 10, 3) := by decide +kernel
theorem dX2_read_88 : decode cX2_read 88 = .ok (.aload_n 0, 1) := by decide +kernel
theorem dX2_read_89 : decode cX2_read 89 = .ok (.invokevirtual 57, 3) := by decide +kernel
theorem dX2_read_92 : decode cX2_read 92 = .ok (.goto 12, 3) := by decide +kernel
theorem dX2_read_95 : decode cX2_read 95 = .ok (.aload_n 0, 1) := by decide +kernel
theorem dX2_read_96 : decode cX2_read 96 = .ok (.iconst 1, 1) := by decide +kernel
theorem dX2_read_97 : decode cX2_read 97 = .ok (.aload_n 0, 1) := by decide +kernel
theorem dX2_read_98 : decode cX2_read 98 = .ok (.getfield 60, 3) := by decide +kernel
theorem dX2_read_101 : decode cX2_read 101 = .ok (.invokevirtual 63, 3) := by decide +kernel
theorem dX2_read_104 : decode cX2_read 104 = .ok (.iinc 2 1, 3) := by decide +kernel
theorem dX2_read_107 : decode cX2_read 107 = .ok (.goto (-65), 3) := by decide +kernel
theorem dX2_read_110 : decode cX2_read 110 = .ok (.aload_n 0, 1) := by decide +kernel
theorem dX2_read_111 : decode cX2_read 111 = .ok (.iconst 0, 1) := by decide +kernel
theorem dX2_read_112 : decode cX2_read 112 = .ok (.putfield 19, 3) := by decide +kernel
theorem dX2_read_115 : decode cX2_read 115 = .ok (.aload_n 0, 1) := by decide +kernel
theorem dX2_read_116 : decode cX2_read 116 = .ok (.getfield 34, 3) := by decide +kernel
theorem dX2_read_119 : decode cX2_read 119 = .ok (.ireturn, 1) := by decide +kernel
theorem dX2_readThing_0 : decode cX2_readThing 0 = .ok (.aload_n 0, 1) := by decide +kernel
theorem dX2_readThing_1 : decode cX2_readThing 1 = .ok (.getfield 22, 3) := by decide +kernel
theorem dX2_readThing_4 : decode cX2_readThing 4 = .ok (.getfield 26, 3) := by decide +kernel
theorem dX2_readThing_7 : decode cX2_readThing 7 = .ok (.bipush 6, 2) := by decide +kernel
theorem dX2_readThing_9 : decode cX2_readThing 9 = .ok (.if_icmp .ge 13, 3) := by decide +kernel
theorem dX2_readThing_12 : decode cX2_readThing 12 = .ok (.aload_n 0, 1) := by decide +kernel
theorem dX2_readThing_13 : decode cX2_readThing 13 = .ok (.getfield 22, 3) := by decide +kernel
theorem dX2_readThing_16 : decode cX2_readThing 16 = .ok (.getfield 31, 3) := by decide +kernel
theorem dX2_readThing_19 : decode cX2_readThing 19 = .ok (.ifCond .le 13, 3) := by decide +kernel
theorem dX2_readThing_22 : decode cX2_readThing 22 = .ok (.aload_n 0, 1) := by decide +kernel
theorem dX2_readThing_23 : decode cX2_readThing 23 = .ok (.iconst 4, 1) := by decide +kernel
theorem dX2_readThing_24 : decode cX2_readThing 24 = .ok (.aload_n 0, 1) := by decide +kernel
theorem dX2_readThing_25 : decode cX2_readThing 25 = .ok (.getfield 60, 3) := by decide +kernel
theorem dX2_readThing_28 : decode cX2_readThing 28 = .ok (.invokevirtual 63, 3) := by decide +kernel
theorem dX2_readThing_31 : decode cX2_readThing 31 = .ok (.return_, 1) := by decide +kernel
theorem dX2_readThing_32 : decode cX2_readThing 32 = .ok (.aload_n 0, 1) := by decide +kernel
theorem dX2_readThing_33 : decode cX2_readThing 33 = .ok (.invokevirtual 40, 3) := by decide +kernel
theorem dX2_readThing_36 : decode cX2_readThing 36 = .ok (.aload_n 0, 1) := by decide +kernel
theorem dX2_readThing_37 : decode cX2_readThing 37 = .ok (.ldc 67, 2) := by decide +kernel
theorem dX2_readThing_39 : decode cX2_readThing 39 = .ok (.invokevirtual 48, 3) := by decide +kernel
theorem dX2_readThing_42 : decode cX2_readThing 42 = .ok (.ifCond .eq 10, 3) := by decide +kernel
theorem dX2_readThing_45 : decode cX2_readThing 45 = .ok (.aload_n 0, 1) := by decide +kernel
theorem dX2_readThing_46 : decode cX2_readThing 46 = .ok (.invokevirtual 69, 3) := by decide +kernel
theorem dX2_readThing_49 : decode cX2_readThing 49 = .ok (.goto 4, 3) := by decide +kernel
theorem dX2_readThing_52 : decode cX2_readThing 52 = .ok (.iconst 0, 1) := by decide +kernel
theorem dX2_readThing_53 : decode cX2_readThing 53 = .ok (.istore_n 1, 1) := by decide +kernel
theorem dX2_readThing_54 : decode cX2_readThing 54 = .ok (.aload_n 0, 1) := by decide +kernel
theorem dX2_readThing_55 : decode cX2_readThing 55 = .ok (.bipush 59, 2) := by decide +kernel
theorem dX2_readThing_57 : decode cX2_readThing 57 = .ok (.invokevirtual 73, 3) := by decide +kernel
theorem dX2_readThing_60 : decode cX2_readThing 60 = .ok (.aload_n 0, 1) := by decide +kernel
theorem dX2_readThing_61 : decode cX2_readThing 61 = .ok (.getfield 34, 3) := by decide +kernel
theorem dX2_readThing_64 : decode cX2_readThing 64 = .ok (.ifCond .ne 32, 3) := by decide +kernel
theorem dX2_readThing_67 : decode cX2_readThing 67 = .ok (.aload_n 0, 1) := by decide +kernel
theorem dX2_readThing_68 : decode cX2_readThing 68 = .ok (.getfield 22, 3) := by decide +kernel
theorem dX2_readThing_71 : decode cX2_readThing 71 = .ok (.getfield 77, 3) := by decide +kernel
theorem dX2_readThing_74 : decode cX2_readThing 74 = .ok (.aload_n 0, 1) := by decide +kernel
theorem dX2_readThing_75 : decode cX2_readThing 75 = .ok (.getfield 22, 3) := by decide +kernel
theorem dX2_readThing_78 : decode cX2_readThing 78 = .ok (.getfield 26, 3) := by decide +kernel
theorem dX2_readThing_81 : decode cX2_readThing 81 = .ok (.iload_n 1, 1) := by decide +kernel
theorem dX2_readThing_82 : decode cX2_readThing 82 = .ok (.iastore, 1) := by decide +kernel
theorem dX2_readThing_83 : decode cX2_readThing 83 = .ok (.aload_n 0, 1) := by decide +kernel
theorem dX2_readThing_84 : decode cX2_readThing 84 = .ok (.getfield 22, 3) := by decide +kernel
theorem dX2_readThing_87 : decode cX2_readThing 87 = .ok (.dup, 1) := by decide +kernel
theorem dX2_readThing_88 : decode cX2_readThing 88 = .ok (.getfield 26, 3) := by decide +kernel
theorem dX2_readThing_91 : decode cX2_readThing 91 = .ok (.iconst 1, 1) := by decide +kernel
theorem dX2_readThing_92 : decode cX2_readThing 92 = .ok (.iadd, 1) := by decide +kernel
theorem dX2_readThing_93 : decode cX2_readThing 93 = .ok (.putfield 26, 3) := by decide +kernel
theorem dX2_readThing_96 : decode cX2_readThing 96 = .ok (.return_, 1) := by decide +kernel
theorem dX2_readLeaning_0 : decode cX2_readLeaning 0 = .ok (.iconst 0, 1) := by decide +kernel
theorem dX2_readLeaning_1 : decode cX2_readLeaning 1 = .ok (.istore_n 1, 1) := by decide +kernel
theorem dX2_readLeaning_2 : decode cX2_readLeaning 2 = .ok (.iconst 1, 1) := by decide +kernel
theorem dX2_readLeaning_3 : decode cX2_readLeaning 3 = .ok (.istore_n 2, 1) := by decide +kernel
theorem dX2_readLeaning_4 : decode cX2_readLeaning 4 = .ok (.iconst 0, 1) := by decide +kernel
theorem dX2_readLeaning_5 : decode cX2_readLeaning 5 = .ok (.istore_n 3, 1) := by decide +kernel
theorem dX2_readLeaning_6 : decode cX2_readLeaning 6 = .ok (.iload_n 3, 1) := by decide +kernel
theorem dX2_readLeaning_7 : decode cX2_readLeaning 7 = .ok (.bipush 6, 2) := by decide +kernel
theorem dX2_readLeaning_9 : decode cX2_readLeaning 9 = .ok (.if_icmp .gt 92, 3) := by decide +kernel
theorem dX2_readLeaning_12 : decode cX2_readLeaning 12 = .ok (.iload_n 2, 1) := by decide +kernel
theorem dX2_readLeaning_13 : decode cX2_readLeaning 13 = .ok (.ifCond .eq 88, 3) := by decide +kernel
theorem dX2_readLeaning_16 : decode cX2_readLeaning 16 = .ok (.aload_n 0, 1) := by decide +kernel
theorem dX2_readLeaning_17 : decode cX2_readLeaning 17 = .ok (.invokevirtual 40, 3) := by decide +kernel
theorem dX2_readLeaning_20 : decode cX2_readLeaning 20 = .ok (.aload_n 0, 1) := by decide +kernel
theorem dX2_readLeaning_21 : decode cX2_readLeaning 21 = .ok (.getfield 60, 3) := by decide +kernel
theorem dX2_readLeaning_24 : decode cX2_readLeaning 24 = .ok (.istore 4, 2) := by decide +kernel
theorem dX2_readLeaning_26 : decode cX2_readLeaning 26 = .ok (.aload_n 0, 1) := by decide +kernel
theorem dX2_readLeaning_27 : decode cX2_readLeaning 27 = .ok (.iconst 0, 1) := by decide +kernel
theorem dX2_readLeaning_28 : decode cX2_readLeaning 28 = .ok (.aload_n 0, 1) := by decide +kernel
theorem dX2_readLeaning_29 : decode cX2_readLeaning 29 = .ok (.getfield 22, 3) := by decide +kernel
theorem dX2_readLeaning_32 : decode cX2_readLeaning 32 = .ok (.getfield 26, 3) := by decide +kernel
theorem dX2_readLeaning_35 : decode cX2_readLeaning 35 = .ok (.iconst 1, 1) := by decide +kernel
theorem dX2_readLeaning_36 : decode cX2_readLeaning 36 = .ok (.isub, 1) := by decide +kernel
theorem dX2_readLeaning_37 : decode cX2_readLeaning 37 = .ok (.invokevirtual 81, 3) := by decide +kernel
theorem dX2_readLeaning_40 : decode cX2_readLeaning 40 = .ok (.istore 5, 2) := by decide +kernel
theorem dX2_readLeaning_42 : decode cX2_readLeaning 42 = .ok (.aload_n 0, 1) := by decide +kernel
theorem dX2_readLeaning_43 : decode cX2_readLeaning 43 = .ok (.getfield 34, 3) := by decide +kernel
theorem dX2_readLeaning_46 : decode cX2_readLeaning 46 = .ok (.ifCond .ne 20, 3) := by decide +kernel
theorem dX2_readLeaning_49 : decode cX2_readLeaning 49 = .ok (.iload_n 1, 1) := by decide +kernel
theorem dX2_readLeaning_50 : decode cX2_readLeaning 50 = .ok (.iload 5, 2) := by decide +kernel
theorem dX2_readLeaning_52 : decode cX2_readLeaning 52 = .ok (.ishr, 1) := by decide +kernel
theorem dX2_readLeaning_53 : decode cX2_readLeaning 53 = .ok (.iconst 1, 1) := by decide +kernel
theorem dX2_readLeaning_54 : decode cX2_readLeaning 54 = .ok (.iand, 1) := by decide +kernel
theorem dX2_readLeaning_55 : decode cX2_readLeaning 55 = .ok (.iconst 1, 1) := by decide +kernel
theorem dX2_readLeaning_56 : decode cX2_readLeaning 56 = .ok (.if_icmp .ne 10, 3) := by decide +kernel
theorem dX2_readLeaning_59 : decode cX2_readLeaning 59 = .ok (.aload_n 0, 1) := by decide +kernel
theorem dX2_readLeaning_60 : decode cX2_readLeaning 60 = .ok (.iconst 3, 1) := by decide +kernel
theorem dX2_readLeaning_61 : decode cX2_readLeaning 61 = .ok (.iload 4, 2) := by decide +kernel
theorem dX2_readLeaning_63 : decode cX2_readLeaning 63 = .ok (.invokevirtual 63, 3) := by decide +kernel
theorem dX2_readLeaning_66 : decode cX2_readLeaning 66 = .ok (.iload_n 1, 1) := by decide +kernel
theorem dX2_readLeaning_67 : decode cX2_readLeaning 67 = .ok (.iconst 1, 1) := by decide +kernel
theorem dX2_readLeaning_68 : decode cX2_readLeaning 68 = .ok (.iload 5, 2) := by decide +kernel
theorem dX2_readLeaning_70 : decode cX2_readLeaning 70 = .ok (.ishl, 1) := by decide +kernel
theorem dX2_readLeaning_71 : decode cX2_readLeaning 71 = .ok (.ior, 1) := by decide +kernel
theorem dX2_readLeaning_72 : decode cX2_readLeaning 72 = .ok (.istore_n 1, 1) := by decide +kernel
theorem dX2_readLeaning_73 : decode cX2_readLeaning 73 = .ok (.aload_n 0, 1) := by decide +kernel
theorem dX2_readLeaning_74 : decode cX2_readLeaning 74 = .ok (.getfield 34, 3) := by decide +kernel
theorem dX2_readLeaning_77 : decode cX2_readLeaning 77 = .ok (.ifCond .ne 16, 3) := by decide +kernel
theorem dX2_readLeaning_80 : decode cX2_readLeaning 80 = .ok (.aload_n 0, 1) := by decide +kernel
theorem dX2_readLeaning_81 : decode cX2_readLeaning 81 = .ok (.bipush 44, 2) := by decide +kernel
theorem dX2_readLeaning_83 : decode cX2_readLeaning 83 = .ok (.invokevirtual 85, 3) := by decide +kernel
theorem dX2_readLeaning_86 : decode cX2_readLeaning 86 = .ok (.ifCond .eq 7, 3) := by decide +kernel
theorem dX2_readLeaning_89 : decode cX2_readLeaning 89 = .ok (.iconst 1, 1) := by decide +kernel
theorem dX2_readLeaning_90 : decode cX2_readLeaning 90 = .ok (.goto 4, 3) := by decide +kernel
theorem dX2_readLeaning_93 : decode cX2_readLeaning 93 = .ok (.iconst 0, 1) := by decide +kernel
theorem dX2_readLeaning_94 : decode cX2_readLeaning 94 = .ok (.istore_n 2, 1) := by decide +kernel
theorem dX2_readLeaning_95 : decode cX2_readLeaning 95 = .ok (.iinc 3 1, 3) := by decide +kernel
theorem dX2_readLeaning_98 : decode cX2_readLeaning 98 = .ok (.goto (-92), 3) := by decide +kernel
theorem dX2_readLeaning_101 : decode cX2_readLeaning 101 = .ok (.iload_n 1, 1) := by decide +kernel
theorem dX2_readLeaning_102 : decode cX2_readLeaning 102 = .ok (.ireturn, 1) := by decide +kernel
theorem dX2_readPupil_0 : decode cX2_readPupil 0 = .ok (.aload_n 0, 1) := by decide +kernel
theorem dX2_readPupil_1 : decode cX2_readPupil 1 = .ok (.getfield 22, 3) := by decide +kernel
theorem dX2_readPupil_4 : decode cX2_readPupil 4 = .ok (.getfield 31, 3) := by decide +kernel
theorem dX2_readPupil_7 : decode cX2_readPupil 7 = .ok (.istore_n 1, 1) := by decide +kernel
theorem dX2_readPupil_8 : decode cX2_readPupil 8 = .ok (.iload_n 1, 1) := by decide +kernel
theorem dX2_readPupil_9 : decode cX2_readPupil 9 = .ok (.bipush 6, 2) := by decide +kernel
theorem dX2_readPupil_11 : decode cX2_readPupil 11 = .ok (.if_icmp .lt 13, 3) := by decide +kernel
theorem dX2_readPupil_14 : decode cX2_readPupil 14 = .ok (.aload_n 0, 1) := by decide +kernel
theorem dX2_readPupil_15 : decode cX2_readPupil 15 = .ok (.iconst 4, 1) := by decide +kernel
theorem dX2_readPupil_16 : decode cX2_readPupil 16 = .ok (.aload_n 0, 1) := by decide +kernel
theorem dX2_readPupil_17 : decode cX2_readPupil 17 = .ok (.getfield 60, 3) := by decide +kernel
theorem dX2_readPupil_20 : decode cX2_readPupil 20 = .ok (.invokevirtual 63, 3) := by decide +kernel
theorem dX2_readPupil_23 : decode cX2_readPupil 23 = .ok (.return_, 1) := by decide +kernel
theorem dX2_readPupil_24 : decode cX2_readPupil 24 = .ok (.aload_n 0, 1) := by decide +kernel
theorem dX2_readPupil_25 : decode cX2_readPupil 25 = .ok (.invokevirtual 40, 3) := by decide +kernel
theorem dX2_readPupil_28 : decode cX2_readPupil 28 = .ok (.aload_n 0, 1) := by decide +kernel
theorem dX2_readPupil_29 : decode cX2_readPupil 29 = .ok (.getfield 22, 3) := by decide +kernel
theorem dX2_readPupil_32 : decode cX2_readPupil 32 = .ok (.getfield 89, 3) := by decide +kernel
theorem dX2_readPupil_35 : decode cX2_readPupil 35 = .ok (.iload_n 1, 1) := by decide +kernel
theorem dX2_readPupil_36 : decode cX2_readPupil 36 = .ok (.aload_n 0, 1) := by decide +kernel
theorem dX2_readPupil_37 : decode cX2_readPupil 37 = .ok (.iconst 1, 1) := by decide +kernel
theorem dX2_readPupil_38 : decode cX2_readPupil 38 = .ok (.iconst 5, 1) := by decide +kernel
theorem dX2_readPupil_39 : decode cX2_readPupil 39 = .ok (.invokevirtual 81, 3) := by decide +kernel
theorem dX2_readPupil_42 : decode cX2_readPupil 42 = .ok (.iastore, 1) := by decide +kernel
theorem dX2_readPupil_43 : decode cX2_readPupil 43 = .ok (.aload_n 0, 1) := by decide +kernel
theorem dX2_readPupil_44 : decode cX2_readPupil 44 = .ok (.getfield 22, 3) := by decide +kernel
theorem dX2_readPupil_47 : decode cX2_readPupil 47 = .ok (.getfield 92, 3) := by decide +kernel
theorem dX2_readPupil_50 : decode cX2_readPupil 50 = .ok (.iload_n 1, 1) := by decide +kernel
theorem dX2_readPupil_51 : decode cX2_readPupil 51 = .ok (.aload_n 0, 1) := by decide +kernel
theorem dX2_readPupil_52 : decode cX2_readPupil 52 = .ok (.iconst 0, 1) := by decide +kernel
theorem dX2_readPupil_53 : decode cX2_readPupil 53 = .ok (.bipush 100, 2) := by decide +kernel
theorem dX2_readPupil_55 : decode cX2_readPupil 55 = .ok (.invokevirtual 81, 3) := by decide +kernel
theorem dX2_readPupil_58 : decode cX2_readPupil 58 = .ok (.iastore, 1) := by decide +kernel
theorem dX2_readPupil_59 : decode cX2_readPupil 59 = .ok (.aload_n 0, 1) := by decide +kernel
theorem dX2_readPupil_60 : decode cX2_readPupil 60 = .ok (.getfield 22, 3) := by decide +kernel
theorem dX2_readPupil_63 : decode cX2_readPupil 63 = .ok (.getfield 95, 3) := by decide +kernel
theorem dX2_readPupil_66 : decode cX2_readPupil 66 = .ok (.iload_n 1, 1) := by decide +kernel
theorem dX2_readPupil_67 : decode cX2_readPupil 67 = .ok (.aload_n 0, 1) := by decide +kernel
theorem dX2_readPupil_68 : decode cX2_readPupil 68 = .ok (.iconst 0, 1) := by decide +kernel
theorem dX2_readPupil_69 : decode cX2_readPupil 69 = .ok (.bipush 100, 2) := by decide +kernel
theorem dX2_readPupil_71 : decode cX2_readPupil 71 = .ok (.invokevirtual 81, 3) := by decide +kernel
theorem dX2_readPupil_74 : decode cX2_readPupil 74 = .ok (.iastore, 1) := by decide +kernel
theorem dX2_readPupil_75 : decode cX2_readPupil 75 = .ok (.iconst 0, 1) := by decide +kernel
theorem dX2_readPupil_76 : decode cX2_readPupil 76 = .ok (.istore_n 2, 1) := by decide +kernel
theorem dX2_readPupil_77 : decode cX2_readPupil 77 = .ok (.iload_n 2, 1) := by decide +kernel
theorem dX2_readPupil_78 : decode cX2_readPupil 78 = .ok (.aload_n 0, 1) := by decide +kernel
theorem dX2_readPupil_79 : decode cX2_readPupil 79 = .ok (.getfield 22, 3) := by decide +kernel
theorem dX2_readPupil_82 : decode cX2_readPupil 82 = .ok (.getfield 26, 3) := by decide +kernel
theorem dX2_readPupil_85 : decode cX2_readPupil 85 = .ok (.if_icmp .ge 40, 3) := by decide +kernel
theorem dX2_readPupil_88 : decode cX2_readPupil 88 = .ok (.iload_n 2, 1) := by decide +kernel
theorem dX2_readPupil_89 : decode cX2_readPupil 89 = .ok (.ifCond .le 9, 3) := by decide +kernel
theorem dX2_readPupil_92 : decode cX2_readPupil 92 = .ok (.aload_n 0, 1) := by decide +kernel
theorem dX2_readPupil_93 : decode cX2_readPupil 93 = .ok (.bipush 44, 2) := by decide +kernel
theorem dX2_readPupil_95 : decode cX2_readPupil 95 = .ok (.invokevirtual 73, 3) := by decide +kernel
theorem dX2_readPupil_98 : decode cX2_readPupil 98 = .ok (.aload_n 0, 1) := by decide +kernel
theorem dX2_readPupil_99 : decode cX2_readPupil 99 = .ok (.getfield 22, 3) := by decide +kernel
theorem dX2_readPupil_102 : decode cX2_readPupil 102 = .ok (.getfield 98, 3) := by decide +kernel
theorem dX2_readPupil_105 : decode cX2_readPupil 105 = .ok (.iload_n 1, 1) := by decide +kernel
theorem dX2_readPupil_106 : decode cX2_readPupil 106 = .ok (.bipush 6, 2) := by decide +kernel
theorem dX2_readPupil_108 : decode cX2_readPupil 108 = .ok (.imul, 1) := by decide +kernel
theorem dX2_readPupil_109 : decode cX2_readPupil 109 = .ok (.iload_n 2, 1) := by decide +kernel
theorem dX2_readPupil_110 : decode cX2_readPupil 110 = .ok (.iadd, 1) := by decide +kernel
theorem dX2_readPupil_111 : decode cX2_readPupil 111 = .ok (.aload_n 0, 1) := by decide +kernel
theorem dX2_readPupil_112 : decode cX2_readPupil 112 = .ok (.iconst 0, 1) := by decide +kernel
theorem dX2_readPupil_113 : decode cX2_readPupil 113 = .ok (.bipush 9, 2) := by decide +kernel
theorem dX2_readPupil_115 : decode cX2_readPupil 115 = .ok (.invokevirtual 81, 3) := by decide +kernel
theorem dX2_readPupil_118 : decode cX2_readPupil 118 = .ok (.iastore, 1) := by decide +kernel
theorem dX2_readPupil_119 : decode cX2_readPupil 119 = .ok (.iinc 2 1, 3) := by decide +kernel
theorem dX2_readPupil_122 : decode cX2_readPupil 122 = .ok (.goto (-45), 3) := by decide +kernel
theorem dX2_readPupil_125 : decode cX2_readPupil 125 = .ok (.aload_n 0, 1) := by decide +kernel
theorem dX2_readPupil_126 : decode cX2_readPupil 126 = .ok (.bipush 59, 2) := by decide +kernel
theorem dX2_readPupil_128 : decode cX2_readPupil 128 = .ok (.invokevirtual 73, 3) := by decide +kernel
theorem dX2_readPupil_131 : decode cX2_readPupil 131 = .ok (.aload_n 0, 1) := by decide +kernel
theorem dX2_readPupil_132 : decode cX2_readPupil 132 = .ok (.getfield 22, 3) := by decide +kernel
theorem dX2_readPupil_135 : decode cX2_readPupil 135 = .ok (.iload_n 1, 1) := by decide +kernel
theorem dX2_readPupil_136 : decode cX2_readPupil 136 = .ok (.iconst 1, 1) := by decide +kernel
theorem dX2_readPupil_137 : decode cX2_readPupil 137 = .ok (.iadd, 1) := by decide +kernel
theorem dX2_readPupil_138 : decode cX2_readPupil 138 = .ok (.putfield 31, 3) := by decide +kernel
theorem dX2_readPupil_141 : decode cX2_readPupil 141 = .ok (.return_, 1) := by decide +kernel
theorem dX2_takeNumber_0 : decode cX2_takeNumber 0 = .ok (.aload_n 0, 1) := by decide +kernel
theorem dX2_takeNumber_1 : decode cX2_takeNumber 1 = .ok (.getfield 34, 3) := by decide +kernel
theorem dX2_takeNumber_4 : decode cX2_takeNumber 4 = .ok (.ifCond .eq 5, 3) := by decide +kernel
theorem dX2_takeNumber_7 : decode cX2_takeNumber 7 = .ok (.iconst 0, 1) := by decide +kernel
theorem dX2_takeNumber_8 : decode cX2_takeNumber 8 = .ok (.ireturn, 1) := by decide +kernel
theorem dX2_takeNumber_9 : decode cX2_takeNumber 9 = .ok (.aload_n 0, 1) := by decide +kernel
theorem dX2_takeNumber_10 : decode cX2_takeNumber 10 = .ok (.getfield 43, 3) := by decide +kernel
theorem dX2_takeNumber_13 : decode cX2_takeNumber 13 = .ok (.iconst 2, 1) := by decide +kernel
theorem dX2_takeNumber_14 : decode cX2_takeNumber 14 = .ok (.if_icmp .eq 14, 3) := by decide +kernel
theorem dX2_takeNumber_17 : decode cX2_takeNumber 17 = .ok (.aload_n 0, 1) := by decide +kernel
theorem dX2_takeNumber_18 : decode cX2_takeNumber 18 = .ok (.iconst 1, 1) := by decide +kernel
theorem dX2_takeNumber_19 : decode cX2_takeNumber 19 = .ok (.aload_n 0, 1) := by decide +kernel
theorem dX2_takeNumber_20 : decode cX2_takeNumber 20 = .ok (.getfield 60, 3) := by decide +kernel
theorem dX2_takeNumber_23 : decode cX2_takeNumber 23 = .ok (.invokevirtual 63, 3) := by decide +kernel
theorem dX2_takeNumber_26 : decode cX2_takeNumber 26 = .ok (.iconst 0, 1) := by decide +kernel
theorem dX2_takeNumber_27 : decode cX2_takeNumber 27 = .ok (.ireturn, 1) := by decide +kernel
theorem dX2_takeNumber_28 : decode cX2_takeNumber 28 = .ok (.iconst 0, 1) := by decide +kernel
theorem dX2_takeNumber_29 : decode cX2_takeNumber 29 = .ok (.istore_n 3, 1) := by decide +kernel
theorem dX2_takeNumber_30 : decode cX2_takeNumber 30 = .ok (.aload_n 0, 1) := by decide +kernel
theorem dX2_takeNumber_31 : decode cX2_takeNumber 31 = .ok (.getfield 60, 3) := by decide +kernel
theorem dX2_takeNumber_34 : decode cX2_takeNumber 34 = .ok (.istore 4, 2) := by decide +kernel
theorem dX2_takeNumber_36 : decode cX2_takeNumber 36 = .ok (.iload 4, 2) := by decide +kernel
theorem dX2_takeNumber_38 : decode cX2_takeNumber 38 = .ok (.aload_n 0, 1) := by decide +kernel
theorem dX2_takeNumber_39 : decode cX2_takeNumber 39 = .ok (.getfield 37, 3) := by decide +kernel
theorem dX2_takeNumber_42 : decode cX2_takeNumber 42 = .ok (.if_icmp .ge 36, 3) := by decide +kernel
theorem dX2_takeNumber_45 : decode cX2_takeNumber 45 = .ok (.iload 4, 2) := by decide +kernel
theorem dX2_takeNumber_47 : decode cX2_takeNumber 47 = .ok (.aload_n 0, 1) := by decide +kernel
theorem dX2_takeNumber_48 : decode cX2_takeNumber 48 = .ok (.getfield 60, 3) := by decide +kernel
theorem dX2_takeNumber_51 : decode cX2_takeNumber 51 = .ok (.iconst 3, 1) := by decide +kernel
theorem dX2_takeNumber_52 : decode cX2_takeNumber 52 = .ok (.iadd, 1) := by decide +kernel
theorem dX2_takeNumber_53 : decode cX2_takeNumber 53 = .ok (.if_icmp .ge 25, 3) := by decide +kernel
theorem dX2_takeNumber_56 : decode cX2_takeNumber 56 = .ok (.iload_n 3, 1) := by decide +kernel
theorem dX2_takeNumber_57 : decode cX2_takeNumber 57 = .ok (.bipush 10, 2) := by decide +kernel
theorem dX2_takeNumber_59 : decode cX2_takeNumber 59 = .ok (.imul, 1) := by decide +kernel
theorem dX2_takeNumber_60 : decode cX2_takeNumber 60 = .ok (.aload_n 0, 1) := by decide +kernel
theorem dX2_takeNumber_61 : decode cX2_takeNumber 61 = .ok (.getfield 9, 3) := by decide +kernel
theorem dX2_takeNumber_64 : decode cX2_takeNumber 64 = .ok (.iload 4, 2) := by decide +kernel
theorem dX2_takeNumber_66 : decode cX2_takeNumber 66 = .ok (.baload, 1) := by decide +kernel
theorem dX2_takeNumber_67 : decode cX2_takeNumber 67 = .ok (.iadd, 1) := by decide +kernel
theorem dX2_takeNumber_68 : decode cX2_takeNumber 68 = .ok (.bipush 48, 2) := by decide +kernel
theorem dX2_takeNumber_70 : decode cX2_takeNumber 70 = .ok (.isub, 1) := by decide +kernel
theorem dX2_takeNumber_71 : decode cX2_takeNumber 71 = .ok (.istore_n 3, 1) := by decide +kernel
theorem dX2_takeNumber_72 : decode cX2_takeNumber 72 = .ok (.iinc 4 1, 3) := by decide +kernel
theorem dX2_takeNumber_75 : decode cX2_takeNumber 75 = .ok (.goto (-39), 3) := by decide +kernel
theorem dX2_takeNumber_78 : decode cX2_takeNumber 78 = .ok (.aload_n 0, 1) := by decide +kernel
theorem dX2_takeNumber_79 : decode cX2_takeNumber 79 = .ok (.getfield 37, 3) := by decide +kernel
theorem dX2_takeNumber_82 : decode cX2_takeNumber 82 = .ok (.aload_n 0, 1) := by decide +kernel
theorem dX2_takeNumber_83 : decode cX2_takeNumber 83 = .ok (.getfield 60, 3) := by decide +kernel
theorem dX2_takeNumber_86 : decode cX2_takeNumber 86 = .ok (.isub, 1) := by decide +kernel
theorem dX2_takeNumber_87 : decode cX2_takeNumber 87 = .ok (.iconst 3, 1) := by decide +kernel
theorem dX2_takeNumber_88 : decode cX2_takeNumber 88 = .ok (.if_icmp .gt 13, 3) := by decide +kernel
theorem dX2_takeNumber_91 : decode cX2_takeNumber 91 = .ok (.iload_n 3, 1) := by decide +kernel
theorem dX2_takeNumber_92 : decode cX2_takeNumber 92 = .ok (.iload_n 1, 1) := by decide +kernel
theorem dX2_takeNumber_93 : decode cX2_takeNumber 93 = .ok (.if_icmp .lt 8, 3) := by decide +kernel
theorem dX2_takeNumber_96 : decode cX2_takeNumber 96 = .ok (.iload_n 3, 1) := by decide +kernel
theorem dX2_takeNumber_97 : decode cX2_takeNumber 97 = .ok (.iload_n 2, 1) := by decide +kernel
theorem dX2_takeNumber_98 : decode cX2_takeNumber 98 = .ok (.if_icmp .le 14, 3) := by decide +kernel
theorem dX2_takeNumber_101 : decode cX2_takeNumber 101 = .ok (.aload_n 0, 1) := by decide +kernel
theorem dX2_takeNumber_102 : decode cX2_takeNumber 102 = .ok (.iconst 2, 1) := by decide +kernel
theorem dX2_takeNumber_103 : decode cX2_takeNumber 103 = .ok (.aload_n 0, 1) := by decide +kernel
theorem dX2_takeNumber_104 : decode cX2_takeNumber 104 = .ok (.getfield 60, 3) := by decide +kernel
theorem dX2_takeNumber_107 : decode cX2_takeNumber 107 = .ok (.invokevirtual 63, 3) := by decide +kernel
theorem dX2_takeNumber_110 : decode cX2_takeNumber 110 = .ok (.iconst 0, 1) := by decide +kernel
theorem dX2_takeNumber_111 : decode cX2_takeNumber 111 = .ok (.ireturn, 1) := by decide +kernel
theorem dX2_takeNumber_112 : decode cX2_takeNumber 112 = .ok (.aload_n 0, 1) := by decide +kernel
theorem dX2_takeNumber_113 : decode cX2_takeNumber 113 = .ok (.invokevirtual 40, 3) := by decide +kernel
theorem dX2_takeNumber_116 : decode cX2_takeNumber 116 = .ok (.iload_n 3, 1) := by decide +kernel
theorem dX2_takeNumber_117 : decode cX2_takeNumber 117 = .ok (.ireturn, 1) := by decide +kernel
theorem dX2_takeSign_0 : decode cX2_takeSign 0 = .ok (.aload_n 0, 1) := by decide +kernel
theorem dX2_takeSign_1 : decode cX2_takeSign 1 = .ok (.getfield 34, 3) := by decide +kernel
theorem dX2_takeSign_4 : decode cX2_takeSign 4 = .ok (.ifCond .eq 4, 3) := by decide +kernel
theorem dX2_takeSign_7 : decode cX2_takeSign 7 = .ok (.return_, 1) := by decide +kernel
theorem dX2_takeSign_8 : decode cX2_takeSign 8 = .ok (.aload_n 0, 1) := by decide +kernel
theorem dX2_takeSign_9 : decode cX2_takeSign 9 = .ok (.iload_n 1, 1) := by decide +kernel
theorem dX2_takeSign_10 : decode cX2_takeSign 10 = .ok (.invokevirtual 85, 3) := by decide +kernel
theorem dX2_takeSign_13 : decode cX2_takeSign 13 = .ok (.ifCond .ne 13, 3) := by decide +kernel
theorem dX2_takeSign_16 : decode cX2_takeSign 16 = .ok (.aload_n 0, 1) := by decide +kernel
theorem dX2_takeSign_17 : decode cX2_takeSign 17 = .ok (.iconst 1, 1) := by decide +kernel
theorem dX2_takeSign_18 : decode cX2_takeSign 18 = .ok (.aload_n 0, 1) := by decide +kernel
theorem dX2_takeSign_19 : decode cX2_takeSign 19 = .ok (.getfield 60, 3) := by decide +kernel
theorem dX2_takeSign_22 : decode cX2_takeSign 22 = .ok (.invokevirtual 63, 3) := by decide +kernel
theorem dX2_takeSign_25 : decode cX2_takeSign 25 = .ok (.return_, 1) := by decide +kernel
theorem dX2_takeSign_26 : decode cX2_takeSign 26 = .ok (.aload_n 0, 1) := by decide +kernel
theorem dX2_takeSign_27 : decode cX2_takeSign 27 = .ok (.invokevirtual 40, 3) := by decide +kernel
theorem dX2_takeSign_30 : decode cX2_takeSign 30 = .ok (.return_, 1) := by decide +kernel
theorem dX2_isSign_0 : decode cX2_isSign 0 = .ok (.aload_n 0, 1) := by decide +kernel
theorem dX2_isSign_1 : decode cX2_isSign 1 = .ok (.getfield 43, 3) := by decide +kernel
theorem dX2_isSign_4 : decode cX2_isSign 4 = .ok (.iconst 3, 1) := by decide +kernel
theorem dX2_isSign_5 : decode cX2_isSign 5 = .ok (.if_icmp .ne 20, 3) := by decide +kernel
theorem dX2_isSign_8 : decode cX2_isSign 8 = .ok (.aload_n 0, 1) := by decide +kernel
theorem dX2_isSign_9 : decode cX2_isSign 9 = .ok (.getfield 9, 3) := by decide +kernel
theorem dX2_isSign_12 : decode cX2_isSign 12 = .ok (.aload_n 0, 1) := by decide +kernel
theorem dX2_isSign_13 : decode cX2_isSign 13 = .ok (.getfield 60, 3) := by decide +kernel
theorem dX2_isSign_16 : decode cX2_isSign 16 = .ok (.baload, 1) := by decide +kernel
theorem dX2_isSign_17 : decode cX2_isSign 17 = .ok (.iload_n 1, 1) := by decide +kernel
theorem dX2_isSign_18 : decode cX2_isSign 18 = .ok (.if_icmp .ne 7, 3) := by decide +kernel
theorem dX2_isSign_21 : decode cX2_isSign 21 = .ok (.iconst 1, 1) := by decide +kernel
theorem dX2_isSign_22 : decode cX2_isSign 22 = .ok (.goto 4, 3) := by decide +kernel
theorem dX2_isSign_25 : decode cX2_isSign 25 = .ok (.iconst 0, 1) := by decide +kernel
theorem dX2_isSign_26 : decode cX2_isSign 26 = .ok (.ireturn, 1) := by decide +kernel
theorem dX2_isWord_0 : decode cX2_isWord 0 = .ok (.aload_n 0, 1) := by decide +kernel
theorem dX2_isWord_1 : decode cX2_isWord 1 = .ok (.getfield 43, 3) := by decide +kernel
theorem dX2_isWord_4 : decode cX2_isWord 4 = .ok (.iconst 1, 1) := by decide +kernel
theorem dX2_isWord_5 : decode cX2_isWord 5 = .ok (.if_icmp .ne 19, 3) := by decide +kernel
theorem dX2_isWord_8 : decode cX2_isWord 8 = .ok (.aload_n 0, 1) := by decide +kernel
theorem dX2_isWord_9 : decode cX2_isWord 9 = .ok (.getfield 37, 3) := by decide +kernel
theorem dX2_isWord_12 : decode cX2_isWord 12 = .ok (.aload_n 0, 1) := by decide +kernel
theorem dX2_isWord_13 : decode cX2_isWord 13 = .ok (.getfield 60, 3) := by decide +kernel
theorem dX2_isWord_16 : decode cX2_isWord 16 = .ok (.isub, 1) := by decide +kernel
theorem dX2_isWord_17 : decode cX2_isWord 17 = .ok (.aload_n 1, 1) := by decide +kernel
theorem dX2_isWord_18 : decode cX2_isWord 18 = .ok (.invokevirtual 101, 3) := by decide +kernel
theorem dX2_isWord_21 : decode cX2_isWord 21 = .ok (.if_icmp .eq 5, 3) := by decide +kernel
theorem dX2_isWord_24 : decode cX2_isWord 24 = .ok (.iconst 0, 1) := by decide +kernel
theorem dX2_isWord_25 : decode cX2_isWord 25 = .ok (.ireturn, 1) := by decide +kernel
theorem dX2_isWord_26 : decode cX2_isWord 26 = .ok (.iconst 0, 1) := by decide +kernel
theorem dX2_isWord_27 : decode cX2_isWord 27 = .ok (.istore_n 2, 1) := by decide +kernel
theorem dX2_isWord_28 : decode cX2_isWord 28 = .ok (.iload_n 2, 1) := by decide +kernel
theorem dX2_isWord_29 : decode cX2_isWord 29 = .ok (.aload_n 1, 1) := by decide +kernel
theorem dX2_isWord_30 : decode cX2_isWord 30 = .ok (.invokevirtual 101, 3) := by decide +kernel
theorem dX2_isWord_33 : decode cX2_isWord 33 = .ok (.if_icmp .ge 30, 3) := by decide +kernel
theorem dX2_isWord_36 : decode cX2_isWord 36 = .ok (.aload_n 0, 1) := by decide +kernel
theorem dX2_isWord_37 : decode cX2_isWord 37 = .ok (.getfield 9, 3) := by decide +kernel
theorem dX2_isWord_40 : decode cX2_isWord 40 = .ok (.aload_n 0, 1) := by decide +kernel
theorem dX2_isWord_41 : decode cX2_isWord 41 = .ok (.getfield 60, 3) := by decide +kernel
theorem dX2_isWord_44 : decode cX2_isWord 44 = .ok (.iload_n 2, 1) := by decide +kernel
theorem dX2_isWord_45 : decode cX2_isWord 45 = .ok (.iadd, 1) := by decide +kernel
theorem dX2_isWord_46 : decode cX2_isWord 46 = .ok (.baload, 1) := by decide +kernel
theorem dX2_isWord_47 : decode cX2_isWord 47 = .ok (.aload_n 1, 1) := by decide +kernel
theorem dX2_isWord_48 : decode cX2_isWord 48 = .ok (.iload_n 2, 1) := by decide +kernel
theorem dX2_isWord_49 : decode cX2_isWord 49 = .ok (.invokevirtual 105, 3) := by decide +kernel
theorem dX2_isWord_52 : decode cX2_isWord 52 = .ok (.if_icmp .eq 5, 3) := by decide +kernel
theorem dX2_isWord_55 : decode cX2_isWord 55 = .ok (.iconst 0, 1) := by decide +kernel
theorem dX2_isWord_56 : decode cX2_isWord 56 = .ok (.ireturn, 1) := by decide +kernel
theorem dX2_isWord_57 : decode cX2_isWord 57 = .ok (.iinc 2 1, 3) := by decide +kernel
theorem dX2_isWord_60 : decode cX2_isWord 60 = .ok (.goto (-32), 3) := by decide +kernel
theorem dX2_isWord_63 : decode cX2_isWord 63 = .ok (.iconst 1, 1) := by decide +kernel
theorem dX2_isWord_64 : decode cX2_isWord 64 = .ok (.ireturn, 1) := by decide +kernel
theorem dX2_refuse_0 : decode cX2_refuse 0 = .ok (.aload_n 0, 1) := by decide +kernel
theorem dX2_refuse_1 : decode cX2_refuse 1 = .ok (.getfield 34, 3) := by decide +kernel
theorem dX2_refuse_4 : decode cX2_refuse 4 = .ok (.ifCond .ne 13, 3) := by decide +kernel
theorem dX2_refuse_7 : decode cX2_refuse 7 = .ok (.aload_n 0, 1) := by decide +kernel
theorem dX2_refuse_8 : decode cX2_refuse 8 = .ok (.iload_n 1, 1) := by decide +kernel
theorem dX2_refuse_9 : decode cX2_refuse 9 = .ok (.putfield 34, 3) := by decide +kernel
theorem dX2_refuse_12 : decode cX2_refuse 12 = .ok (.aload_n 0, 1) := by decide +kernel
theorem dX2_refuse_13 : decode cX2_refuse 13 = .ok (.iload_n 2, 1) := by decide +kernel
theorem dX2_refuse_14 : decode cX2_refuse 14 = .ok (.putfield 15, 3) := by decide +kernel
theorem dX2_refuse_17 : decode cX2_refuse 17 = .ok (.return_, 1) := by decide +kernel
theorem dX2_advance_0 : decode cX2_advance 0 = .ok (.aload_n 0, 1) := by decide +kernel
theorem dX2_advance_1 : decode cX2_advance 1 = .ok (.getfield 37, 3) := by decide +kernel
theorem dX2_advance_4 : decode cX2_advance 4 = .ok (.aload_n 0, 1) := by decide +kernel
theorem dX2_advance_5 : decode cX2_advance 5 = .ok (.getfield 19, 3) := by decide +kernel
theorem dX2_advance_8 : decode cX2_advance 8 = .ok (.if_icmp .ge 30, 3) := by decide +kernel
theorem dX2_advance_11 : decode cX2_advance 11 = .ok (.aload_n 0, 1) := by decide +kernel
theorem dX2_advance_12 : decode cX2_advance 12 = .ok (.getfield 9, 3) := by decide +kernel
theorem dX2_advance_15 : decode cX2_advance 15 = .ok (.aload_n 0, 1) := by decide +kernel
theorem dX2_advance_16 : decode cX2_advance 16 = .ok (.getfield 37, 3) := by decide +kernel
theorem dX2_advance_19 : decode cX2_advance 19 = .ok (.baload, 1) := by decide +kernel
theorem dX2_advance_20 : decode cX2_advance 20 = .ok (.bipush 32, 2) := by decide +kernel
theorem dX2_advance_22 : decode cX2_advance 22 = .ok (.if_icmp .ne 16, 3) := by decide +kernel
theorem dX2_advance_25 : decode cX2_advance 25 = .ok (.aload_n 0, 1) := by decide +kernel
theorem dX2_advance_26 : decode cX2_advance 26 = .ok (.dup, 1) := by decide +kernel
theorem dX2_advance_27 : decode cX2_advance 27 = .ok (.getfield 37, 3) := by decide +kernel
theorem dX2_advance_30 : decode cX2_advance 30 = .ok (.iconst 1, 1) := by decide +kernel
theorem dX2_advance_31 : decode cX2_advance 31 = .ok (.iadd, 1) := by decide +kernel
theorem dX2_advance_32 : decode cX2_advance 32 = .ok (.putfield 37, 3) := by decide +kernel
theorem dX2_advance_35 : decode cX2_advance 35 = .ok (.goto (-35), 3) := by decide +kernel
theorem dX2_advance_38 : decode cX2_advance 38 = .ok (.aload_n 0, 1) := by decide +kernel
theorem dX2_advance_39 : decode cX2_advance 39 = .ok (.aload_n 0, 1) := by decide +kernel
theorem dX2_advance_40 : decode cX2_advance 40 = .ok (.getfield 37, 3) := by decide +kernel
theorem dX2_advance_43 : decode cX2_advance 43 = .ok (.putfield 60, 3) := by decide +kernel
theorem dX2_advance_46 : decode cX2_advance 46 = .ok (.aload_n 0, 1) := by decide +kernel
theorem dX2_advance_47 : decode cX2_advance 47 = .ok (.aload_n 0, 1) := by decide +kernel
theorem dX2_advance_48 : decode cX2_advance 48 = .ok (.aload_n 0, 1) := by decide +kernel
theorem dX2_advance_49 : decode cX2_advance 49 = .ok (.getfield 37, 3) := by decide +kernel
theorem dX2_advance_52 : decode cX2_advance 52 = .ok (.invokevirtual 109, 3) := by decide +kernel
theorem dX2_advance_55 : decode cX2_advance 55 = .ok (.putfield 43, 3) := by decide +kernel
theorem dX2_advance_58 : decode cX2_advance 58 = .ok (.aload_n 0, 1) := by decide +kernel
theorem dX2_advance_59 : decode cX2_advance 59 = .ok (.getfield 43, 3) := by decide +kernel
theorem dX2_advance_62 : decode cX2_advance 62 = .ok (.iconst 3, 1) := by decide +kernel
theorem dX2_advance_63 : decode cX2_advance 63 = .ok (.if_icmp .ne 16, 3) := by decide +kernel
theorem dX2_advance_66 : decode cX2_advance 66 = .ok (.aload_n 0, 1) := by decide +kernel
theorem dX2_advance_67 : decode cX2_advance 67 = .ok (.dup, 1) := by decide +kernel
theorem dX2_advance_68 : decode cX2_advance 68 = .ok (.getfield 37, 3) := by decide +kernel
theorem dX2_advance_71 : decode cX2_advance 71 = .ok (.iconst 1, 1) := by decide +kernel
theorem dX2_advance_72 : decode cX2_advance 72 = .ok (.iadd, 1) := by decide +kernel
theorem dX2_advance_73 : decode cX2_advance 73 = .ok (.putfield 37, 3) := by decide +kernel
theorem dX2_advance_76 : decode cX2_advance 76 = .ok (.goto 49, 3) := by decide +kernel
theorem dX2_advance_79 : decode cX2_advance 79 = .ok (.aload_n 0, 1) := by decide +kernel
theorem dX2_advance_80 : decode cX2_advance 80 = .ok (.getfield 43, 3) := by decide +kernel
theorem dX2_advance_83 : decode cX2_advance 83 = .ok (.ifCond .eq 42, 3) := by decide +kernel
theorem dX2_advance_86 : decode cX2_advance 86 = .ok (.aload_n 0, 1) := by decide +kernel
theorem dX2_advance_87 : decode cX2_advance 87 = .ok (.getfield 37, 3) := by decide +kernel
theorem dX2_advance_90 : decode cX2_advance 90 = .ok (.aload_n 0, 1) := by decide +kernel
theorem dX2_advance_91 : decode cX2_advance 91 = .ok (.getfield 19, 3) := by decide +kernel
theorem dX2_advance_94 : decode cX2_advance 94 = .ok (.if_icmp .ge 31, 3) := by decide +kernel
theorem dX2_advance_97 : decode cX2_advance 97 = .ok (.aload_n 0, 1) := by decide +kernel
theorem dX2_advance_98 : decode cX2_advance 98 = .ok (.aload_n 0, 1) := by decide +kernel
theorem dX2_advance_99 : decode cX2_advance 99 = .ok (.getfield 37, 3) := by decide +kernel
theorem dX2_advance_102 : decode cX2_advance 102 = .ok (.invokevirtual 109, 3) := by decide +kernel
theorem dX2_advance_105 : decode cX2_advance 105 = .ok (.aload_n 0, 1) := by decide +kernel
theorem dX2_advance_106 : decode cX2_advance 106 = .ok (.getfield 43, 3) := by decide +kernel
theorem dX2_advance_109 : decode cX2_advance 109 = .ok (.if_icmp .ne 16, 3) := by decide +kernel
theorem dX2_advance_112 : decode cX2_advance 112 = .ok (.aload_n 0, 1) := by decide +kernel
theorem dX2_advance_113 : decode cX2_advance 113 = .ok (.dup, 1) := by decide +kernel
theorem dX2_advance_114 : decode cX2_advance 114 = .ok (.getfield 37, 3) := by decide +kernel
theorem dX2_advance_117 : decode cX2_advance 117 = .ok (.iconst 1, 1) := by decide +kernel
theorem dX2_advance_118 : decode cX2_advance 118 = .ok (.iadd, 1) := by decide +kernel
theorem dX2_advance_119 : decode cX2_advance 119 = .ok (.putfield 37, 3) := by decide +kernel
theorem dX2_advance_122 : decode cX2_advance 122 = .ok (.goto (-36), 3) := by decide +kernel
theorem dX2_advance_125 : decode cX2_advance 125 = .ok (.return_, 1) := by decide +kernel
theorem dX2_kindAt_0 : decode cX2_kindAt 0 = .ok (.iload_n 1, 1) := by decide +kernel
theorem dX2_kindAt_1 : decode cX2_kindAt 1 = .ok (.aload_n 0, 1) := by decide +kernel
theorem dX2_kindAt_2 : decode cX2_kindAt 2 = .ok (.getfield 19, 3) := by decide +kernel
theorem dX2_kindAt_5 : decode cX2_kindAt 5 = .ok (.if_icmp .lt 5, 3) := by decide +kernel
theorem dX2_kindAt_8 : decode cX2_kindAt 8 = .ok (.iconst 0, 1) := by decide +kernel
theorem dX2_kindAt_9 : decode cX2_kindAt 9 = .ok (.ireturn, 1) := by decide +kernel
theorem dX2_kindAt_10 : decode cX2_kindAt 10 = .ok (.aload_n 0, 1) := by decide +kernel
theorem dX2_kindAt_11 : decode cX2_kindAt 11 = .ok (.getfield 9, 3) := by decide +kernel
theorem dX2_kindAt_14 : decode cX2_kindAt 14 = .ok (.iload_n 1, 1) := by decide +kernel
theorem dX2_kindAt_15 : decode cX2_kindAt 15 = .ok (.baload, 1) := by decide +kernel
theorem dX2_kindAt_16 : decode cX2_kindAt 16 = .ok (.bipush 97, 2) := by decide +kernel
theorem dX2_kindAt_18 : decode cX2_kindAt 18 = .ok (.if_icmp .lt 16, 3) := by decide +kernel
theorem dX2_kindAt_21 : decode cX2_kindAt 21 = .ok (.aload_n 0, 1) := by decide +kernel
theorem dX2_kindAt_22 : decode cX2_kindAt 22 = .ok (.getfield 9, 3) := by decide +kernel
theorem dX2_kindAt_25 : decode cX2_kindAt 25 = .ok (.iload_n 1, 1) := by decide +kernel
theorem dX2_kindAt_26 : decode cX2_kindAt 26 = .ok (.baload, 1) := by decide +kernel
theorem dX2_kindAt_27 : decode cX2_kindAt 27 = .ok (.bipush 122, 2) := by decide +kernel
theorem dX2_kindAt_29 : decode cX2_kindAt 29 = .ok (.if_icmp .gt 5, 3) := by decide +kernel
theorem dX2_kindAt_32 : decode cX2_kindAt 32 = .ok (.iconst 1, 1) := by decide +kernel
theorem dX2_kindAt_33 : decode cX2_kindAt 33 = .ok (.ireturn, 1) := by decide +kernel
theorem dX2_kindAt_34 : decode cX2_kindAt 34 = .ok (.aload_n 0, 1) := by decide +kernel
theorem dX2_kindAt_35 : decode cX2_kindAt 35 = .ok (.getfield 9, 3) := by decide +kernel
theorem dX2_kindAt_38 : decode cX2_kindAt 38 = .ok (.iload_n 1, 1) := by decide +kernel
theorem dX2_kindAt_39 : decode cX2_kindAt 39 = .ok (.baload, 1) := by decide +kernel
theorem dX2_kindAt_40 : decode cX2_kindAt 40 = .ok (.bipush 48, 2) := by decide +kernel
theorem dX2_kindAt_42 : decode cX2_kindAt 42 = .ok (.if_icmp .lt 18, 3) := by decide +kernel
theorem dX2_kindAt_45 : decode cX2_kindAt 45 = .ok (.aload_n 0, 1) := by decide +kernel
theorem dX2_kindAt_46 : decode cX2_kindAt 46 = .ok (.getfield 9, 3) := by decide +kernel
theorem dX2_kindAt_49 : decode cX2_kindAt 49 = .ok (.iload_n 1, 1) := by decide +kernel
theorem dX2_kindAt_50 : decode cX2_kindAt 50 = .ok (.baload, 1) := by decide +kernel
theorem dX2_kindAt_51 : decode cX2_kindAt 51 = .ok (.bipush 57, 2) := by decide +kernel
theorem dX2_kindAt_53 : decode cX2_kindAt 53 = .ok (.if_icmp .gt 7, 3) := by decide +kernel
theorem dX2_kindAt_56 : decode cX2_kindAt 56 = .ok (.iconst 2, 1) := by decide +kernel
theorem dX2_kindAt_57 : decode cX2_kindAt 57 = .ok (.goto 4, 3) := by decide +kernel
theorem dX2_kindAt_60 : decode cX2_kindAt 60 = .ok (.iconst 3, 1) := by decide +kernel
theorem dX2_kindAt_61 : decode cX2_kindAt 61 = .ok (.ireturn, 1) := by decide +kernel
theorem dX3_init_0 : decode cX3_init 0 = .ok (.aload_n 0, 1) := by decide +kernel
theorem dX3_init_1 : decode cX3_init 1 = .ok (.invokespecial 3, 3) := by decide +kernel
theorem dX3_init_4 : decode cX3_init 4 = .ok (.aload_n 0, 1) := by decide +kernel
theorem dX3_init_5 : decode cX3_init 5 = .ok (.bipush 6, 2) := by decide +kernel
theorem dX3_init_7 : decode cX3_init 7 = .ok (.newarray .int, 2) := by decide +kernel
theorem dX3_init_9 : decode cX3_init 9 = .ok (.putfield 9, 3) := by decide +kernel
theorem dX3_init_12 : decode cX3_init 12 = .ok (.aload_n 0, 1) := by decide +kernel
theorem dX3_init_13 : decode cX3_init 13 = .ok (.bipush 6, 2) := by decide +kernel
theorem dX3_init_15 : decode cX3_init 15 = .ok (.newarray .int, 2) := by decide +kernel
theorem dX3_init_17 : decode cX3_init 17 = .ok (.putfield 15, 3) := by decide +kernel
theorem dX3_init_20 : decode cX3_init 20 = .ok (.aload_n 0, 1) := by decide +kernel
theorem dX3_init_21 : decode cX3_init 21 = .ok (.bipush 6, 2) := by decide +kernel
theorem dX3_init_23 : decode cX3_init 23 = .ok (.newarray .int, 2) := by decide +kernel
theorem dX3_init_25 : decode cX3_init 25 = .ok (.putfield 18, 3) := by decide +kernel
theorem dX3_init_28 : decode cX3_init 28 = .ok (.aload_n 0, 1) := by decide +kernel
theorem dX3_init_29 : decode cX3_init 29 = .ok (.bipush 6, 2) := by decide +kernel
theorem dX3_init_31 : decode cX3_init 31 = .ok (.newarray .int, 2) := by decide +kernel
theorem dX3_init_33 : decode cX3_init 33 = .ok (.putfield 21, 3) := by decide +kernel
theorem dX3_init_36 : decode cX3_init 36 = .ok (.aload_n 0, 1) := by decide +kernel
theorem dX3_init_37 : decode cX3_init 37 = .ok (.bipush 36, 2) := by decide +kernel
theorem dX3_init_39 : decode cX3_init 39 = .ok (.newarray .int, 2) := by decide +kernel
theorem dX3_init_41 : decode cX3_init 41 = .ok (.putfield 24, 3) := by decide +kernel
theorem dX3_init_44 : decode cX3_init 44 = .ok (.return_, 1) := by decide +kernel
theorem dX3_topOf_0 : decode cX3_topOf 0 = .ok (.iconst 0, 1) := by decide +kernel
theorem dX3_topOf_1 : decode cX3_topOf 1 = .ok (.istore 4, 2) := by decide +kernel
theorem dX3_topOf_3 : decode cX3_topOf 3 = .ok (.iload 4, 2) := by decide +kernel
theorem dX3_topOf_5 : decode cX3_topOf 5 = .ok (.iload_n 3, 1) := by decide +kernel
theorem dX3_topOf_6 : decode cX3_topOf 6 = .ok (.if_icmp .ge 39, 3) := by decide +kernel
theorem dX3_topOf_9 : decode cX3_topOf 9 = .ok (.aload_n 0, 1) := by decide +kernel
theorem dX3_topOf_10 : decode cX3_topOf 10 = .ok (.getfield 9, 3) := by decide +kernel
theorem dX3_topOf_13 : decode cX3_topOf 13 = .ok (.iload_n 3, 1) := by decide +kernel
theorem dX3_topOf_14 : decode cX3_topOf 14 = .ok (.iaload, 1) := by decide +kernel
theorem dX3_topOf_15 : decode cX3_topOf 15 = .ok (.iload 4, 2) := by decide +kernel
theorem dX3_topOf_17 : decode cX3_topOf 17 = .ok (.ishr, 1) := by decide +kernel
theorem dX3_topOf_18 : decode cX3_topOf 18 = .ok (.iconst 1, 1) := by decide +kernel
theorem dX3_topOf_19 : decode cX3_topOf 19 = .ok (.iand, 1) := by decide +kernel
theorem dX3_topOf_20 : decode cX3_topOf 20 = .ok (.iconst 1, 1) := by decide +kernel
theorem dX3_topOf_21 : decode cX3_topOf 21 = .ok (.if_icmp .ne 18, 3) := by decide +kernel
theorem dX3_topOf_24 : decode cX3_topOf 24 = .ok (.aload_n 1, 1) := by decide +kernel
theorem dX3_topOf_25 : decode cX3_topOf 25 = .ok (.iload_n 2, 1) := by decide +kernel
theorem dX3_topOf_26 : decode cX3_topOf 26 = .ok (.bipush 6, 2) := by decide +kernel
theorem dX3_topOf_28 : decode cX3_topOf 28 = .ok (.imul, 1) := by decide +kernel
theorem dX3_topOf_29 : decode cX3_topOf 29 = .ok (.iload 4, 2) := by decide +kernel
theorem dX3_topOf_31 : decode cX3_topOf 31 = .ok (.iadd, 1) := by decide +kernel
theorem dX3_topOf_32 : decode cX3_topOf 32 = .ok (.iaload, 1) := by decide +kernel
theorem dX3_topOf_33 : decode cX3_topOf 33 = .ok (.iconst 4, 1) := by decide +kernel
theorem dX3_topOf_34 : decode cX3_topOf 34 = .ok (.if_icmp .gt 5, 3) := by decide +kernel
theorem dX3_topOf_37 : decode cX3_topOf 37 = .ok (.iconst 4, 1) := by decide +kernel
theorem dX3_topOf_38 : decode cX3_topOf 38 = .ok (.ireturn, 1) := by decide +kernel
theorem dX3_topOf_39 : decode cX3_topOf 39 = .ok (.iinc 4 1, 3) := by decide +kernel
theorem dX3_topOf_42 : decode cX3_topOf 42 = .ok (.goto (-39), 3) := by decide +kernel
theorem dX3_topOf_45 : decode cX3_topOf 45 = .ok (.bipush 9, 2) := by decide +kernel
theorem dX3_topOf_47 : decode cX3_topOf 47 = .ok (.ireturn, 1) := by decide +kernel
theorem dX4_init_0 : decode cX4_init 0 = .ok (.aload_n 0, 1) := by decide +kernel
theorem dX4_init_1 : decode cX4_init 1 = .ok (.invokespecial 3, 3) := by decide +kernel
theorem dX4_init_4 : decode cX4_init 4 = .ok (.aload_n 0, 1) := by decide +kernel
theorem dX4_init_5 : decode cX4_init 5 = .ok (.getstatic 9, 3) := by decide +kernel
theorem dX4_init_8 : decode cX4_init 8 = .ok (.iconst 4, 1) := by decide +kernel
theorem dX4_init_9 : decode cX4_init 9 = .ok (.iaload, 1) := by decide +kernel
theorem dX4_init_10 : decode cX4_init 10 = .ok (.newarray .int, 2) := by decide +kernel
theorem dX4_init_12 : decode cX4_init 12 = .ok (.putfield 13, 3) := by decide +kernel
theorem dX4_init_15 : decode cX4_init 15 = .ok (.aload_n 0, 1) := by decide +kernel
theorem dX4_init_16 : decode cX4_init 16 = .ok (.iconst (-1), 1) := by decide +kernel
theorem dX4_init_17 : decode cX4_init 17 = .ok (.putfield 18, 3) := by decide +kernel
theorem dX4_init_20 : decode cX4_init 20 = .ok (.return_, 1) := by decide +kernel
theorem dX4_forget_0 : decode cX4_forget 0 = .ok (.aload_n 0, 1) := by decide +kernel
theorem dX4_forget_1 : decode cX4_forget 1 = .ok (.iconst (-1), 1) := by decide +kernel
theorem dX4_forget_2 : decode cX4_forget 2 = .ok (.putfield 18, 3) := by decide +kernel
theorem dX4_forget_5 : decode cX4_forget 5 = .ok (.return_, 1) := by decide +kernel
theorem dX4_lessonsFrom_0 : decode cX4_lessonsFrom 0 = .ok (.aload_n 1, 1) := by decide +kernel
theorem dX4_lessonsFrom_1 : decode cX4_lessonsFrom 1 = .ok (.getfield 22, 3) := by decide +kernel
theorem dX4_lessonsFrom_4 : decode cX4_lessonsFrom 4 = .ok (.iconst 4, 1) := by decide +kernel
theorem dX4_lessonsFrom_5 : decode cX4_lessonsFrom 5 = .ok (.if_icmp .le 5, 3) := by decide +kernel
theorem dX4_lessonsFrom_8 : decode cX4_lessonsFrom 8 = .ok (.iconst (-1), 1) := by decide +kernel
theorem dX4_lessonsFrom_9 : decode cX4_lessonsFrom 9 = .ok (.ireturn, 1) := by decide +kernel
theorem dX4_lessonsFrom_10 : decode cX4_lessonsFrom 10 = .ok (.aload_n 1, 1) := by decide +kernel
theorem dX4_lessonsFrom_11 : decode cX4_lessonsFrom 11 = .ok (.getfield 27, 3) := by decide +kernel
theorem dX4_lessonsFrom_14 : decode cX4_lessonsFrom 14 = .ok (.aload_n 0, 1) := by decide +kernel
theorem dX4_lessonsFrom_15 : decode cX4_lessonsFrom 15 = .ok (.getfield 18, 3) := by decide +kernel
theorem dX4_lessonsFrom_18 : decode cX4_lessonsFrom 18 = .ok (.if_icmp .eq 29, 3) := by decide +kernel
theorem dX4_lessonsFrom_21 : decode cX4_lessonsFrom 21 = .ok (.aload_n 0, 1) := by decide +kernel
theorem dX4_lessonsFrom_22 : decode cX4_lessonsFrom 22 = .ok (.aload_n 1, 1) := by decide +kernel
theorem dX4_lessonsFrom_23 : decode cX4_lessonsFrom 23 = .ok (.getfield 27, 3) := by decide +kernel
theorem dX4_lessonsFrom_26 : decode cX4_lessonsFrom 26 = .ok (.putfield 18, 3) := by decide +kernel
theorem dX4_lessonsFrom_29 : decode cX4_lessonsFrom 29 = .ok (.aload_n 0, 1) := by decide +kernel
theorem dX4_lessonsFrom_30 : decode cX4_lessonsFrom 30 = .ok (.getfield 13, 3) := by decide +kernel
theorem dX4_lessonsFrom_33 : decode cX4_lessonsFrom 33 = .ok (.iconst 0, 1) := by decide +kernel
theorem dX4_lessonsFrom_34 : decode cX4_lessonsFrom 34 = .ok (.getstatic 9, 3) := by decide +kernel
theorem dX4_lessonsFrom_37 : decode cX4_lessonsFrom 37 = .ok (.aload_n 1, 1) := by decide +kernel
theorem dX4_lessonsFrom_38 : decode cX4_lessonsFrom 38 = .ok (.getfield 22, 3) := by decide +kernel
theorem dX4_lessonsFrom_41 : decode cX4_lessonsFrom 41 = .ok (.iaload, 1) := by decide +kernel
theorem dX4_lessonsFrom_42 : decode cX4_lessonsFrom 42 = .ok (.bipush (-2), 2) := by decide +kernel
theorem dX4_lessonsFrom_44 : decode cX4_lessonsFrom 44 = .ok (.invokestatic 30, 3) := by decide +kernel
theorem dX4_lessonsFrom_47 : decode cX4_lessonsFrom 47 = .ok (.aload_n 0, 1) := by decide +kernel
theorem dX4_lessonsFrom_48 : decode cX4_lessonsFrom 48 = .ok (.aload_n 1, 1) := by decide +kernel
theorem dX4_lessonsFrom_49 : decode cX4_lessonsFrom 49 = .ok (.aload_n 1, 1) := by decide +kernel
theorem dX4_lessonsFrom_50 : decode cX4_lessonsFrom 50 = .ok (.invokevirtual 36, 3) := by decide +kernel
theorem dX4_lessonsFrom_53 : decode cX4_lessonsFrom 53 = .ok (.iconst 0, 1) := by decide +kernel
theorem dX4_lessonsFrom_54 : decode cX4_lessonsFrom 54 = .ok (.invokevirtual 40, 3) := by decide +kernel
theorem dX4_lessonsFrom_57 : decode cX4_lessonsFrom 57 = .ok (.ireturn, 1) := by decide +kernel
theorem dX4_look_0 : decode cX4_look 0 = .ok (.iload_n 3, 1) := by decide +kernel
theorem dX4_look_1 : decode cX4_look 1 = .ok (.bipush 36, 2) := by decide +kernel
theorem dX4_look_3 : decode cX4_look 3 = .ok (.if_icmp .le 5, 3) := by decide +kernel
theorem dX4_look_6 : decode cX4_look 6 = .ok (.iconst (-1), 1) := by decide +kernel
theorem dX4_look_7 : decode cX4_look 7 = .ok (.ireturn, 1) := by decide +kernel
theorem dX4_look_8 : decode cX4_look 8 = .ok (.aload_n 0, 1) := by decide +kernel
theorem dX4_look_9 : decode cX4_look 9 = .ok (.getfield 13, 3) := by decide +kernel
theorem dX4_look_12 : decode cX4_look 12 = .ok (.iload_n 2, 1) := by decide +kernel
theorem dX4_look_13 : decode cX4_look 13 = .ok (.iaload, 1) := by decide +kernel
theorem dX4_look_14 : decode cX4_look 14 = .ok (.bipush (-2), 2) := by decide +kernel
theorem dX4_look_16 : decode cX4_look 16 = .ok (.if_icmp .eq 10, 3) := by decide +kernel
theorem dX4_look_19 : decode cX4_look 19 = .ok (.aload_n 0, 1) := by decide +kernel
theorem dX4_look_20 : decode cX4_look 20 = .ok (.getfield 13, 3) := by decide +kernel
theorem dX4_look_23 : decode cX4_look 23 = .ok (.iload_n 2, 1) := by decide +kernel
theorem dX4_look_24 : decode cX4_look 24 = .ok (.iaload, 1) := by decide +kernel
theorem dX4_look_25 : decode cX4_look 25 = .ok (.ireturn, 1) := by decide +kernel
theorem dX4_look_26 : decode cX4_look 26 = .ok (.iload_n 2, 1) := by decide +kernel
theorem dX4_look_27 : decode cX4_look 27 = .ok (.getstatic 9, 3) := by decide +kernel
theorem dX4_look_30 : decode cX4_look 30 = .ok (.aload_n 1, 1) := by decide +kernel
theorem dX4_look_31 : decode cX4_look 31 = .ok (.getfield 22, 3) := by decide +kernel
theorem dX4_look_34 : decode cX4_look 34 = .ok (.iaload, 1) := by decide +kernel
theorem dX4_look_35 : decode cX4_look 35 = .ok (.iconst 1, 1) := by decide +kernel
theorem dX4_look_36 : decode cX4_look 36 = .ok (.isub, 1) := by decide +kernel
theorem dX4_look_37 : decode cX4_look 37 = .ok (.if_icmp .ne 7, 3) := by decide +kernel
theorem dX4_look_40 : decode cX4_look 40 = .ok (.iconst 0, 1) := by decide +kernel
theorem dX4_look_41 : decode cX4_look 41 = .ok (.goto 4, 3) := by decide +kernel
theorem dX4_look_44 : decode cX4_look 44 = .ok (.iconst (-1), 1) := by decide +kernel
theorem dX4_look_45 : decode cX4_look 45 = .ok (.istore 4, 2) := by decide +kernel
theorem dX4_look_47 : decode cX4_look 47 = .ok (.iconst 0, 1) := by decide +kernel
theorem dX4_look_48 : decode cX4_look 48 = .ok (.istore 5, 2) := by decide +kernel
theorem dX4_look_50 : decode cX4_look 50 = .ok (.iload 5, 2) := by decide +kernel
theorem dX4_look_52 : decode cX4_look 52 = .ok (.aload_n 1, 1) := by decide +kernel
theorem dX4_look_53 : decode cX4_look 53 = .ok (.getfield 22, 3) := by decide +kernel
theorem dX4_look_56 : decode cX4_look 56 = .ok (.if_icmp .ge 77, 3) := by decide +kernel
theorem dX4_look_59 : decode cX4_look 59 = .ok (.aload_n 1, 1) := by decide +kernel
theorem dX4_look_60 : decode cX4_look 60 = .ok (.iload_n 2, 1) := by decide +kernel
theorem dX4_look_61 : decode cX4_look 61 = .ok (.invokevirtual 44, 3) := by decide +kernel
theorem dX4_look_64 : decode cX4_look 64 = .ok (.aload_n 1, 1) := by decide +kernel
theorem dX4_look_65 : decode cX4_look 65 = .ok (.iload 5, 2) := by decide +kernel
theorem dX4_look_67 : decode cX4_look 67 = .ok (.iconst 0, 1) := by decide +kernel
theorem dX4_look_68 : decode cX4_look 68 = .ok (.invokevirtual 48, 3) := by decide +kernel
theorem dX4_look_71 : decode cX4_look 71 = .ok (.pop, 1) := by decide +kernel
theorem dX4_look_72 : decode cX4_look 72 = .ok (.aload_n 1, 1) := by decide +kernel
theorem dX4_look_73 : decode cX4_look 73 = .ok (.invokevirtual 36, 3) := by decide +kernel
theorem dX4_look_76 : decode cX4_look 76 = .ok (.istore 6, 2) := by decide +kernel
theorem dX4_look_78 : decode cX4_look 78 = .ok (.iload 6, 2) := by decide +kernel
theorem dX4_look_80 : decode cX4_look 80 = .ok (.iload_n 2, 1) := by decide +kernel
theorem dX4_look_81 : decode cX4_look 81 = .ok (.if_icmp .le 16, 3) := by decide +kernel
theorem dX4_look_84 : decode cX4_look 84 = .ok (.aload_n 0, 1) := by decide +kernel
theorem dX4_look_85 : decode cX4_look 85 = .ok (.aload_n 1, 1) := by decide +kernel
theorem dX4_look_86 : decode cX4_look 86 = .ok (.iload 6, 2) := by decide +kernel
theorem dX4_look_88 : decode cX4_look 88 = .ok (.iload_n 3, 1) := by decide +kernel
theorem dX4_look_89 : decode cX4_look 89 = .ok (.iconst 1, 1) := by decide +kernel
theorem dX4_look_90 : decode cX4_look 90 = .ok (.iadd, 1) := by decide +kernel
theorem dX4_look_91 : decode cX4_look 91 = .ok (.invokevirtual 40, 3) := by decide +kernel
theorem dX4_look_94 : decode cX4_look 94 = .ok (.goto 4, 3) := by decide +kernel
theorem dX4_look_97 : decode cX4_look 97 = .ok (.iconst (-1), 1) := by decide +kernel
theorem dX4_look_98 : decode cX4_look 98 = .ok (.istore 7, 2) := by decide +kernel
theorem dX4_look_100 : decode cX4_look 100 = .ok (.iload 7, 2) := by decide +kernel
theorem dX4_look_102 : decode cX4_look 102 = .ok (.iconst (-1), 1) := by decide +kernel
theorem dX4_look_103 : decode cX4_look 103 = .ok (.if_icmp .eq 24, 3) := by decide +kernel
theorem dX4_look_106 : decode cX4_look 106 = .ok (.iload 4, 2) := by decide +kernel
theorem dX4_look_108 : decode cX4_look 108 = .ok (.iconst (-1), 1) := by decide +kernel
theorem dX4_look_109 : decode cX4_look 109 = .ok (.if_icmp .eq 12, 3) := by decide +kernel
theorem dX4_look_112 : decode cX4_look 112 = .ok (.iload 7, 2) := by decide +kernel
theorem dX4_look_114 : decode cX4_look 114 = .ok (.iconst 1, 1) := by decide +kernel
theorem dX4_look_115 : decode cX4_look 115 = .ok (.iadd, 1) := by decide +kernel
theorem dX4_look_116 : decode cX4_look 116 = .ok (.iload 4, 2) := by decide +kernel
theorem dX4_look_118 : decode cX4_look 118 = .ok (.if_icmp .ge 9, 3) := by decide +kernel
theorem dX4_look_121 : decode cX4_look 121 = .ok (.iload 7, 2) := by decide +kernel
theorem dX4_look_123 : decode cX4_look 123 = .ok (.iconst 1, 1) := by decide +kernel
theorem dX4_look_124 : decode cX4_look 124 = .ok (.iadd, 1) := by decide +kernel
theorem dX4_look_125 : decode cX4_look 125 = .ok (.istore 4, 2) := by decide +kernel
theorem dX4_look_127 : decode cX4_look 127 = .ok (.iinc 5 1, 3) := by decide +kernel
theorem dX4_look_130 : decode cX4_look 130 = .ok (.goto (-80), 3) := by decide +kernel
theorem dX4_look_133 : decode cX4_look 133 = .ok (.aload_n 0, 1) := by decide +kernel
theorem dX4_look_134 : decode cX4_look 134 = .ok (.getfield 13, 3) := by decide +kernel
theorem dX4_look_137 : decode cX4_look 137 = .ok (.iload_n 2, 1) := by decide +kernel
theorem dX4_look_138 : decode cX4_look 138 = .ok (.iload 4, 2) := by decide +kernel
theorem dX4_look_140 : decode cX4_look 140 = .ok (.iastore, 1) := by decide +kernel
theorem dX4_look_141 : decode cX4_look 141 = .ok (.iload 4, 2) := by decide +kernel
theorem dX4_look_143 : decode cX4_look 143 = .ok (.ireturn, 1) := by decide +kernel
theorem dX4_standsUp_0 : decode cX4_standsUp 0 = .ok (.iconst (-1), 1) := by decide +kernel
theorem dX4_standsUp_1 : decode cX4_standsUp 1 = .ok (.istore_n 3, 1) := by decide +kernel
theorem dX4_standsUp_2 : decode cX4_standsUp 2 = .ok (.iconst 0, 1) := by decide +kernel
theorem dX4_standsUp_3 : decode cX4_standsUp 3 = .ok (.istore 4, 2) := by decide +kernel
theorem dX4_standsUp_5 : decode cX4_standsUp 5 = .ok (.iload 4, 2) := by decide +kernel
theorem dX4_standsUp_7 : decode cX4_standsUp 7 = .ok (.iload_n 2, 1) := by decide +kernel
theorem dX4_standsUp_8 : decode cX4_standsUp 8 = .ok (.if_icmp .gt 82, 3) := by decide +kernel
theorem dX4_standsUp_11 : decode cX4_standsUp 11 = .ok (.aload_n 1, 1) := by decide +kernel
theorem dX4_standsUp_12 : decode cX4_standsUp 12 = .ok (.invokevirtual 36, 3) := by decide +kernel
theorem dX4_standsUp_15 : decode cX4_standsUp 15 = .ok (.istore 5, 2) := by decide +kernel
theorem dX4_standsUp_17 : decode cX4_standsUp 17 = .ok (.iconst (-1), 1) := by decide +kernel
theorem dX4_standsUp_18 : decode cX4_standsUp 18 = .ok (.istore_n 3, 1) := by decide +kernel
theorem dX4_standsUp_19 : decode cX4_standsUp 19 = .ok (.iconst 0, 1) := by decide +kernel
theorem dX4_standsUp_20 : decode cX4_standsUp 20 = .ok (.istore 6, 2) := by decide +kernel
theorem dX4_standsUp_22 : decode cX4_standsUp 22 = .ok (.iload 6, 2) := by decide +kernel
theorem dX4_standsUp_24 : decode cX4_standsUp 24 = .ok (.aload_n 1, 1) := by decide +kernel
theorem dX4_standsUp_25 : decode cX4_standsUp 25 = .ok (.getfield 22, 3) := by decide +kernel
theorem dX4_standsUp_28 : decode cX4_standsUp 28 = .ok (.if_icmp .ge 56, 3) := by decide +kernel
theorem dX4_standsUp_31 : decode cX4_standsUp 31 = .ok (.iload_n 3, 1) := by decide +kernel
theorem dX4_standsUp_32 : decode cX4_standsUp 32 = .ok (.iconst (-1), 1) := by decide +kernel
theorem dX4_standsUp_33 : decode cX4_standsUp 33 = .ok (.if_icmp .ne 51, 3) := by decide +kernel
theorem dX4_standsUp_36 : decode cX4_standsUp 36 = .ok (.aload_n 1, 1) := by decide +kernel
theorem dX4_standsUp_37 : decode cX4_standsUp 37 = .ok (.iload 5, 2) := by decide +kernel
theorem dX4_standsUp_39 : decode cX4_standsUp 39 = .ok (.invokevirtual 44, 3) := by decide +kernel
theorem dX4_standsUp_42 : decode cX4_standsUp 42 = .ok (.aload_n 1, 1) := by decide +kernel
theorem dX4_standsUp_43 : decode cX4_standsUp 43 = .ok (.iload 6, 2) := by decide +kernel
theorem dX4_standsUp_45 : decode cX4_standsUp 45 = .ok (.iconst 0, 1) := by decide +kernel
theorem dX4_standsUp_46 : decode cX4_standsUp 46 = .ok (.invokevirtual 48, 3) := by decide +kernel
theorem dX4_standsUp_49 : decode cX4_standsUp 49 = .ok (.pop, 1) := by decide +kernel
theorem dX4_standsUp_50 : decode cX4_standsUp 50 = .ok (.aload_n 0, 1) := by decide +kernel
theorem dX4_standsUp_51 : decode cX4_standsUp 51 = .ok (.getfield 13, 3) := by decide +kernel
theorem dX4_standsUp_54 : decode cX4_standsUp 54 = .ok (.aload_n 1, 1) := by decide +kernel
theorem dX4_standsUp_55 : decode cX4_standsUp 55 = .ok (.invokevirtual 36, 3) := by decide +kernel
theorem dX4_standsUp_58 : decode cX4_standsUp 58 = .ok (.iaload, 1) := by decide +kernel
theorem dX4_standsUp_59 : decode cX4_standsUp 59 = .ok (.aload_n 0, 1) := by decide +kernel
theorem dX4_standsUp_60 : decode cX4_standsUp 60 = .ok (.getfield 13, 3) := by decide +kernel
theorem dX4_standsUp_63 : decode cX4_standsUp 63 = .ok (.iload 5, 2) := by decide +kernel
theorem dX4_standsUp_65 : decode cX4_standsUp 65 = .ok (.iaload, 1) := by decide +kernel
theorem dX4_standsUp_66 : decode cX4_standsUp 66 = .ok (.iconst 1, 1) := by decide +kernel
theorem dX4_standsUp_67 : decode cX4_standsUp 67 = .ok (.isub, 1) := by decide +kernel
theorem dX4_standsUp_68 : decode cX4_standsUp 68 = .ok (.if_icmp .ne 8, 3) := by decide +kernel
theorem dX4_standsUp_71 : decode cX4_standsUp 71 = .ok (.iload 6, 2) := by decide +kernel
theorem dX4_standsUp_73 : decode cX4_standsUp 73 = .ok (.goto 4, 3) := by decide +kernel
theorem dX4_standsUp_76 : decode cX4_standsUp 76 = .ok (.iconst (-1), 1) := by decide +kernel
theorem dX4_standsUp_77 : decode cX4_standsUp 77 = .ok (.istore_n 3, 1) := by decide +kernel
theorem dX4_standsUp_78 : decode cX4_standsUp 78 = .ok (.iinc 6 1, 3) := by decide +kernel
theorem dX4_standsUp_81 : decode cX4_standsUp 81 = .ok (.goto (-59), 3) := by decide +kernel
theorem dX4_standsUp_84 : decode cX4_standsUp 84 = .ok (.iinc 4 1, 3) := by decide +kernel
theorem dX4_standsUp_87 : decode cX4_standsUp 87 = .ok (.goto (-82), 3) := by decide +kernel
theorem dX4_standsUp_90 : decode cX4_standsUp 90 = .ok (.iload_n 3, 1) := by decide +kernel
theorem dX4_standsUp_91 : decode cX4_standsUp 91 = .ok (.ireturn, 1) := by decide +kernel
theorem dX5_init_0 : decode cX5_init 0 = .ok (.aload_n 0, 1) := by decide +kernel
theorem dX5_init_1 : decode cX5_init 1 = .ok (.invokespecial 3, 3) := by decide +kernel
theorem dX5_init_4 : decode cX5_init 4 = .ok (.aload_n 0, 1) := by decide +kernel
theorem dX5_init_5 : decode cX5_init 5 = .ok (.bipush 36, 2) := by decide +kernel
theorem dX5_init_7 : decode cX5_init 7 = .ok (.newarray .int, 2) := by decide +kernel
theorem dX5_init_9 : decode cX5_init 9 = .ok (.putfield 9, 3) := by decide +kernel
theorem dX5_init_12 : decode cX5_init 12 = .ok (.return_, 1) := by decide +kernel
theorem dX5_begin_0 : decode cX5_begin 0 = .ok (.aload_n 1, 1) := by decide +kernel
theorem dX5_begin_1 : decode cX5_begin 1 = .ok (.iconst 0, 1) := by decide +kernel
theorem dX5_begin_2 : decode cX5_begin 2 = .ok (.aload_n 0, 1) := by decide +kernel
theorem dX5_begin_3 : decode cX5_begin 3 = .ok (.getfield 9, 3) := by decide +kernel
theorem dX5_begin_6 : decode cX5_begin 6 = .ok (.iconst 0, 1) := by decide +kernel
theorem dX5_begin_7 : decode cX5_begin 7 = .ok (.aload_n 0, 1) := by decide +kernel
theorem dX5_begin_8 : decode cX5_begin 8 = .ok (.getfield 9, 3) := by decide +kernel
theorem dX5_begin_11 : decode cX5_begin 11 = .ok (.arraylength, 1) := by decide +kernel
theorem dX5_begin_12 : decode cX5_begin 12 = .ok (.invokestatic 15, 3) := by decide +kernel
theorem dX5_begin_15 : decode cX5_begin 15 = .ok (.aload_n 0, 1) := by decide +kernel
theorem dX5_begin_16 : decode cX5_begin 16 = .ok (.iconst 0, 1) := by decide +kernel
theorem dX5_begin_17 : decode cX5_begin 17 = .ok (.putfield 21, 3) := by decide +kernel
theorem dX5_begin_20 : decode cX5_begin 20 = .ok (.aload_n 0, 1) := by decide +kernel
theorem dX5_begin_21 : decode cX5_begin 21 = .ok (.iconst 0, 1) := by decide +kernel
theorem dX5_begin_22 : decode cX5_begin 22 = .ok (.putfield 25, 3) := by decide +kernel
theorem dX5_begin_25 : decode cX5_begin 25 = .ok (.return_, 1) := by decide +kernel
theorem dX5_take_0 : decode cX5_take 0 = .ok (.aload_n 1, 1) := by decide +kernel
theorem dX5_take_1 : decode cX5_take 1 = .ok (.getfield 9, 3) := by decide +kernel
theorem dX5_take_4 : decode cX5_take 4 = .ok (.iconst 0, 1) := by decide +kernel
theorem dX5_take_5 : decode cX5_take 5 = .ok (.aload_n 0, 1) := by decide +kernel
theorem dX5_take_6 : decode cX5_take 6 = .ok (.getfield 9, 3) := by decide +kernel
theorem dX5_take_9 : decode cX5_take 9 = .ok (.iconst 0, 1) := by decide +kernel
theorem dX5_take_10 : decode cX5_take 10 = .ok (.aload_n 0, 1) := by decide +kernel
theorem dX5_take_11 : decode cX5_take 11 = .ok (.getfield 9, 3) := by decide +kernel
theorem dX5_take_14 : decode cX5_take 14 = .ok (.arraylength, 1) := by decide +kernel
theorem dX5_take_15 : decode cX5_take 15 = .ok (.invokestatic 15, 3) := by decide +kernel
theorem dX5_take_18 : decode cX5_take 18 = .ok (.aload_n 0, 1) := by decide +kernel
theorem dX5_take_19 : decode cX5_take 19 = .ok (.aload_n 1, 1) := by decide +kernel
theorem dX5_take_20 : decode cX5_take 20 = .ok (.getfield 21, 3) := by decide +kernel
theorem dX5_take_23 : decode cX5_take 23 = .ok (.putfield 21, 3) := by decide +kernel
theorem dX5_take_26 : decode cX5_take 26 = .ok (.aload_n 0, 1) := by decide +kernel
theorem dX5_take_27 : decode cX5_take 27 = .ok (.aload_n 1, 1) := by decide +kernel
theorem dX5_take_28 : decode cX5_take 28 = .ok (.getfield 29, 3) := by decide +kernel
theorem dX5_take_31 : decode cX5_take 31 = .ok (.putfield 29, 3) := by decide +kernel
theorem dX5_take_34 : decode cX5_take 34 = .ok (.aload_n 0, 1) := by decide +kernel
theorem dX5_take_35 : decode cX5_take 35 = .ok (.aload_n 1, 1) := by decide +kernel
theorem dX5_take_36 : decode cX5_take 36 = .ok (.getfield 25, 3) := by decide +kernel
theorem dX5_take_39 : decode cX5_take 39 = .ok (.putfield 25, 3) := by decide +kernel
theorem dX5_take_42 : decode cX5_take 42 = .ok (.return_, 1) := by decide +kernel
theorem dX6_init_0 : decode cX6_init 0 = .ok (.aload_n 0, 1) := by decide +kernel
theorem dX6_init_1 : decode cX6_init 1 = .ok (.invokespecial 3, 3) := by decide +kernel
theorem dX6_init_4 : decode cX6_init 4 = .ok (.aload_n 0, 1) := by decide +kernel
theorem dX6_init_5 : decode cX6_init 5 = .ok (.new 9, 3) := by decide +kernel
theorem dX6_init_8 : decode cX6_init 8 = .ok (.dup, 1) := by decide +kernel
theorem dX6_init_9 : decode cX6_init 9 = .ok (.invokespecial 11, 3) := by decide +kernel
theorem dX6_init_12 : decode cX6_init 12 = .ok (.putfield 12, 3) := by decide +kernel
theorem dX6_init_15 : decode cX6_init 15 = .ok (.aload_n 0, 1) := by decide +kernel
theorem dX6_init_16 : decode cX6_init 16 = .ok (.new 16, 3) := by decide +kernel
theorem dX6_init_19 : decode cX6_init 19 = .ok (.dup, 1) := by decide +kernel
theorem dX6_init_20 : decode cX6_init 20 = .ok (.invokespecial 18, 3) := by decide +kernel
theorem dX6_init_23 : decode cX6_init 23 = .ok (.putfield 19, 3) := by decide +kernel
theorem dX6_init_26 : decode cX6_init 26 = .ok (.aload_n 0, 1) := by decide +kernel
theorem dX6_init_27 : decode cX6_init 27 = .ok (.new 16, 3) := by decide +kernel
theorem dX6_init_30 : decode cX6_init 30 = .ok (.dup, 1) := by decide +kernel
theorem dX6_init_31 : decode cX6_init 31 = .ok (.invokespecial 18, 3) := by decide +kernel
theorem dX6_init_34 : decode cX6_init 34 = .ok (.putfield 23, 3) := by decide +kernel
theorem dX6_init_37 : decode cX6_init 37 = .ok (.aload_n 0, 1) := by decide +kernel
theorem dX6_init_38 : decode cX6_init 38 = .ok (.new 26, 3) := by decide +kernel
theorem dX6_init_41 : decode cX6_init 41 = .ok (.dup, 1) := by decide +kernel
theorem dX6_init_42 : decode cX6_init 42 = .ok (.invokespecial 28, 3) := by decide +kernel
theorem dX6_init_45 : decode cX6_init 45 = .ok (.putfield 29, 3) := by decide +kernel
theorem dX6_init_48 : decode cX6_init 48 = .ok (.aload_n 0, 1) := by decide +kernel
theorem dX6_init_49 : decode cX6_init 49 = .ok (.new 26, 3) := by decide +kernel
theorem dX6_init_52 : decode cX6_init 52 = .ok (.dup, 1) := by decide +kernel
theorem dX6_init_53 : decode cX6_init 53 = .ok (.invokespecial 28, 3) := by decide +kernel
theorem dX6_init_56 : decode cX6_init 56 = .ok (.putfield 33, 3) := by decide +kernel
theorem dX6_init_59 : decode cX6_init 59 = .ok (.aload_n 0, 1) := by decide +kernel
theorem dX6_init_60 : decode cX6_init 60 = .ok (.new 26, 3) := by decide +kernel
theorem dX6_init_63 : decode cX6_init 63 = .ok (.dup, 1) := by decide +kernel
theorem dX6_init_64 : decode cX6_init 64 = .ok (.invokespecial 28, 3) := by decide +kernel
theorem dX6_init_67 : decode cX6_init 67 = .ok (.putfield 36, 3) := by decide +kernel
theorem dX6_init_70 : decode cX6_init 70 = .ok (.aload_n 0, 1) := by decide +kernel
theorem dX6_init_71 : decode cX6_init 71 = .ok (.new 26, 3) := by decide +kernel
theorem dX6_init_74 : decode cX6_init 74 = .ok (.dup, 1) := by decide +kernel
theorem dX6_init_75 : decode cX6_init 75 = .ok (.invokespecial 28, 3) := by decide +kernel
theorem dX6_init_78 : decode cX6_init 78 = .ok (.putfield 39, 3) := by decide +kernel
theorem dX6_init_81 : decode cX6_init 81 = .ok (.aload_n 0, 1) := by decide +kernel
theorem dX6_init_82 : decode cX6_init 82 = .ok (.bipush 40, 2) := by decide +kernel
theorem dX6_init_84 : decode cX6_init 84 = .ok (.newarray .int, 2) := by decide +kernel
theorem dX6_init_86 : decode cX6_init 86 = .ok (.putfield 42, 3) := by decide +kernel
theorem dX6_init_89 : decode cX6_init 89 = .ok (.aload_n 0, 1) := by decide +kernel
theorem dX6_init_90 : decode cX6_init 90 = .ok (.bipush 6, 2) := by decide +kernel
theorem dX6_init_92 : decode cX6_init 92 = .ok (.newarray .int, 2) := by decide +kernel
theorem dX6_init_94 : decode cX6_init 94 = .ok (.putfield 46, 3) := by decide +kernel
theorem dX6_init_97 : decode cX6_init 97 = .ok (.aload_n 0, 1) := by decide +kernel
theorem dX6_init_98 : decode cX6_init 98 = .ok (.new 49, 3) := by decide +kernel
theorem dX6_init_101 : decode cX6_init 101 = .ok (.dup, 1) := by decide +kernel
theorem dX6_init_102 : decode cX6_init 102 = .ok (.invokespecial 51, 3) := by decide +kernel
theorem dX6_init_105 : decode cX6_init 105 = .ok (.putfield 52, 3) := by decide +kernel
theorem dX6_init_108 : decode cX6_init 108 = .ok (.aload_n 0, 1) := by decide +kernel
theorem dX6_init_109 : decode cX6_init 109 = .ok (.new 56, 3) := by decide +kernel
theorem dX6_init_112 : decode cX6_init 112 = .ok (.dup, 1) := by decide +kernel
theorem dX6_init_113 : decode cX6_init 113 = .ok (.invokespecial 58, 3) := by decide +kernel
theorem dX6_init_116 : decode cX6_init 116 = .ok (.putfield 59, 3) := by decide +kernel
theorem dX6_init_119 : decode cX6_init 119 = .ok (.aload_n 0, 1) := by decide +kernel
theorem dX6_init_120 : decode cX6_init 120 = .ok (.new 63, 3) := by decide +kernel
theorem dX6_init_123 : decode cX6_init 123 = .ok (.dup, 1) := by decide +kernel
theorem dX6_init_124 : decode cX6_init 124 = .ok (.invokespecial 65, 3) := by decide +kernel
theorem dX6_init_127 : decode cX6_init 127 = .ok (.putfield 66, 3) := by decide +kernel
theorem dX6_init_130 : decode cX6_init 130 = .ok (.aload_n 0, 1) := by decide +kernel
theorem dX6_init_131 : decode cX6_init 131 = .ok (.new 63, 3) := by decide +kernel
theorem dX6_init_134 : decode cX6_init 134 = .ok (.dup, 1) := by decide +kernel
theorem dX6_init_135 : decode cX6_init 135 = .ok (.invokespecial 65, 3) := by decide +kernel
theorem dX6_init_138 : decode cX6_init 138 = .ok (.putfield 70, 3) := by decide +kernel
theorem dX6_init_141 : decode cX6_init 141 = .ok (.aload_n 0, 1) := by decide +kernel
theorem dX6_init_142 : decode cX6_init 142 = .ok (.new 63, 3) := by decide +kernel
theorem dX6_init_145 : decode cX6_init 145 = .ok (.dup, 1) := by decide +kernel
theorem dX6_init_146 : decode cX6_init 146 = .ok (.invokespecial 65, 3) := by decide +kernel
theorem dX6_init_149 : decode cX6_init 149 = .ok (.putfield 73, 3) := by decide +kernel
theorem dX6_init_152 : decode cX6_init 152 = .ok (.return_, 1) := by decide +kernel
theorem dX6_feed_0 : decode cX6_feed 0 = .ok (.iload_n 1, 1) := by decide +kernel
theorem dX6_feed_1 : decode cX6_feed 1 = .ok (.iconst 1, 1) := by decide +kernel
theorem dX6_feed_2 : decode cX6_feed 2 = .ok (.if_icmp .lt 9, 3) := by decide +kernel
theorem dX6_feed_5 : decode cX6_feed 5 = .ok (.iload_n 1, 1) := by decide +kernel
theorem dX6_feed_6 : decode cX6_feed 6 = .ok (.bipush 8, 2) := by decide +kernel
theorem dX6_feed_8 : decode cX6_feed 8 = .ok (.if_icmp .le 6, 3) := by decide +kernel
theorem dX6_feed_11 : decode cX6_feed 11 = .ok (.ldc 76, 2) := by decide +kernel
theorem dX6_feed_13 : decode cX6_feed 13 = .ok (.ireturn, 1) := by decide +kernel
theorem dX6_feed_14 : decode cX6_feed 14 = .ok (.aload_n 0, 1) := by decide +kernel
theorem dX6_feed_15 : decode cX6_feed 15 = .ok (.getfield 12, 3) := by decide +kernel
theorem dX6_feed_18 : decode cX6_feed 18 = .ok (.getfield 77, 3) := by decide +kernel
theorem dX6_feed_21 : decode cX6_feed 21 = .ok (.iload_n 1, 1) := by decide +kernel
theorem dX6_feed_22 : decode cX6_feed 22 = .ok (.iadd, 1) := by decide +kernel
theorem dX6_feed_23 : decode cX6_feed 23 = .ok (.sipush 400, 3) := by decide +kernel
theorem dX6_feed_26 : decode cX6_feed 26 = .ok (.if_icmp .le 6, 3) := by decide +kernel
theorem dX6_feed_29 : decode cX6_feed 29 = .ok (.ldc 81, 2) := by decide +kernel
theorem dX6_feed_31 : decode cX6_feed 31 = .ok (.ireturn, 1) := by decide +kernel
theorem dX6_feed_32 : decode cX6_feed 32 = .ok (.iload_n 1, 1) := by decide +kernel
theorem dX6_feed_33 : decode cX6_feed 33 = .ok (.iconst 1, 1) := by decide +kernel
theorem dX6_feed_34 : decode cX6_feed 34 = .ok (.isub, 1) := by decide +kernel
theorem dX6_feed_35 : decode cX6_feed 35 = .ok (.istore 4, 2) := by decide +kernel
theorem dX6_feed_37 : decode cX6_feed 37 = .ok (.iload 4, 2) := by decide +kernel
theorem dX6_feed_39 : decode cX6_feed 39 = .ok (.ifCond .lt 28, 3) := by decide +kernel
theorem dX6_feed_42 : decode cX6_feed 42 = .ok (.aload_n 0, 1) := by decide +kernel
theorem dX6_feed_43 : decode cX6_feed 43 = .ok (.getfield 12, 3) := by decide +kernel
theorem dX6_feed_46 : decode cX6_feed 46 = .ok (.lload_n 2, 1) := by decide +kernel
theorem dX6_feed_47 : decode cX6_feed 47 = .ok (.bipush 8, 2) := by decide +kernel
theorem dX6_feed_49 : decode cX6_feed 49 = .ok (.iload 4, 2) := by decide +kernel
theorem dX6_feed_51 : decode cX6_feed 51 = .ok (.imul, 1) := by decide +kernel
theorem dX6_feed_52 : decode cX6_feed 52 = .ok (.lushr, 1) := by decide +kernel
theorem dX6_feed_53 : decode cX6_feed 53 = .ok (.l2i, 1) := by decide +kernel
theorem dX6_feed_54 : decode cX6_feed 54 = .ok (.sipush 255, 3) := by decide +kernel
theorem dX6_feed_57 : decode cX6_feed 57 = .ok (.iand, 1) := by decide +kernel
theorem dX6_feed_58 : decode cX6_feed 58 = .ok (.invokevirtual 82, 3) := by decide +kernel
theorem dX6_feed_61 : decode cX6_feed 61 = .ok (.iinc 4 (-1), 3) := by decide +kernel
theorem dX6_feed_64 : decode cX6_feed 64 = .ok (.goto (-27), 3) := by decide +kernel
theorem dX6_feed_67 : decode cX6_feed 67 = .ok (.aload_n 0, 1) := by decide +kernel
theorem dX6_feed_68 : decode cX6_feed 68 = .ok (.getfield 12, 3) := by decide +kernel
theorem dX6_feed_71 : decode cX6_feed 71 = .ok (.getfield 77, 3) := by decide +kernel
theorem dX6_feed_74 : decode cX6_feed 74 = .ok (.ireturn, 1) := by decide +kernel
theorem dX6_school_0 : decode cX6_school 0 = .ok (.aload_n 0, 1) := by decide +kernel
theorem dX6_school_1 : decode cX6_school 1 = .ok (.getfield 12, 3) := by decide +kernel
theorem dX6_school_4 : decode cX6_school 4 = .ok (.aload_n 0, 1) := by decide +kernel
theorem dX6_school_5 : decode cX6_school 5 = .ok (.getfield 23, 3) := by decide +kernel
theorem dX6_school_8 : decode cX6_school 8 = .ok (.invokevirtual 86, 3) := by decide +kernel
theorem dX6_school_11 : decode cX6_school 11 = .ok (.istore_n 1, 1) := by decide +kernel
theorem dX6_school_12 : decode cX6_school 12 = .ok (.iload_n 1, 1) := by decide +kernel
theorem dX6_school_13 : decode cX6_school 13 = .ok (.ifCond .eq 8, 3) := by decide +kernel
theorem dX6_school_16 : decode cX6_school 16 = .ok (.bipush (-10), 2) := by decide +kernel
theorem dX6_school_18 : decode cX6_school 18 = .ok (.iload_n 1, 1) := by decide +kernel
theorem dX6_school_19 : decode cX6_school 19 = .ok (.isub, 1) := by decide +kernel
theorem dX6_school_20 : decode cX6_school 20 = .ok (.ireturn, 1) := by decide +kernel
theorem dX6_school_21 : decode cX6_school 21 = .ok (.aload_n 0, 1) := by decide +kernel
theorem dX6_school_22 : decode cX6_school 22 = .ok (.getfield 19, 3) := by decide +kernel
theorem dX6_school_25 : decode cX6_school 25 = .ok (.astore_n 2, 1) := by decide +kernel
theorem dX6_school_26 : decode cX6_school 26 = .ok (.aload_n 0, 1) := by decide +kernel
theorem dX6_school_27 : decode cX6_school 27 = .ok (.aload_n 0, 1) := by decide +kernel
theorem dX6_school_28 : decode cX6_school 28 = .ok (.getfield 23, 3) := by decide +kernel
theorem dX6_school_31 : decode cX6_school 31 = .ok (.putfield 19, 3) := by decide +kernel
theorem dX6_school_34 : decode cX6_school 34 = .ok (.aload_n 0, 1) := by decide +kernel
theorem dX6_school_35 : decode cX6_school 35 = .ok (.aload_n 2, 1) := by decide +kernel
theorem dX6_school_36 : decode cX6_school 36 = .ok (.putfield 23, 3) := by decide +kernel
theorem dX6_school_39 : decode cX6_school 39 = .ok (.aload_n 0, 1) := by decide +kernel
theorem dX6_school_40 : decode cX6_school 40 = .ok (.getfield 29, 3) := by decide +kernel
theorem dX6_school_43 : decode cX6_school 43 = .ok (.aload_n 0, 1) := by decide +kernel
theorem dX6_school_44 : decode cX6_school 44 = .ok (.getfield 19, 3) := by decide +kernel
theorem dX6_school_47 : decode cX6_school 47 = .ok (.getfield 90, 3) := by decide +kernel
theorem dX6_school_50 : decode cX6_school 50 = .ok (.invokevirtual 93, 3) := by decide +kernel
theorem dX6_school_53 : decode cX6_school 53 = .ok (.aload_n 0, 1) := by decide +kernel
theorem dX6_school_54 : decode cX6_school 54 = .ok (.iconst 0, 1) := by decide +kernel
theorem dX6_school_55 : decode cX6_school 55 = .ok (.putfield 97, 3) := by decide +kernel
theorem dX6_school_58 : decode cX6_school 58 = .ok (.aload_n 0, 1) := by decide +kernel
theorem dX6_school_59 : decode cX6_school 59 = .ok (.iconst 0, 1) := by decide +kernel
theorem dX6_school_60 : decode cX6_school 60 = .ok (.putfield 100, 3) := by decide +kernel
theorem dX6_school_63 : decode cX6_school 63 = .ok (.aload_n 0, 1) := by decide +kernel
theorem dX6_school_64 : decode cX6_school 64 = .ok (.getfield 66, 3) := by decide +kernel
theorem dX6_school_67 : decode cX6_school 67 = .ok (.invokevirtual 103, 3) := by decide +kernel
theorem dX6_school_70 : decode cX6_school 70 = .ok (.aload_n 0, 1) := by decide +kernel
theorem dX6_school_71 : decode cX6_school 71 = .ok (.getfield 70, 3) := by decide +kernel
theorem dX6_school_74 : decode cX6_school 74 = .ok (.invokevirtual 103, 3) := by decide +kernel
theorem dX6_school_77 : decode cX6_school 77 = .ok (.aload_n 0, 1) := by decide +kernel
theorem dX6_school_78 : decode cX6_school 78 = .ok (.getfield 73, 3) := by decide +kernel
theorem dX6_school_81 : decode cX6_school 81 = .ok (.invokevirtual 103, 3) := by decide +kernel
theorem dX6_school_84 : decode cX6_school 84 = .ok (.aload_n 0, 1) := by decide +kernel
theorem dX6_school_85 : decode cX6_school 85 = .ok (.getfield 19, 3) := by decide +kernel
theorem dX6_school_88 : decode cX6_school 88 = .ok (.getfield 106, 3) := by decide +kernel
theorem dX6_school_91 : decode cX6_school 91 = .ok (.ireturn, 1) := by decide +kernel
theorem dX6_fault_0 : decode cX6_fault 0 = .ok (.aload_n 0, 1) := by decide +kernel
theorem dX6_fault_1 : decode cX6_fault 1 = .ok (.getfield 12, 3) := by decide +kernel
theorem dX6_fault_4 : decode cX6_fault 4 = .ok (.getfield 109, 3) := by decide +kernel
theorem dX6_fault_7 : decode cX6_fault 7 = .ok (.ireturn, 1) := by decide +kernel
theorem dX6_count_0 : decode cX6_count 0 = .ok (.iload_n 1, 1) := by decide +kernel
theorem dX6_count_1 : decode cX6_count 1 = .ok (.tableswitch 92 0 5 #[39, 47, 55, 63, 68, 84], 39) := by decide +kernel
theorem dX6_count_40 : decode cX6_count 40 = .ok (.aload_n 0, 1) := by decide +kernel
theorem dX6_count_41 : decode cX6_count 41 = .ok (.getfield 19, 3) := by decide +kernel
theorem dX6_count_44 : decode cX6_count 44 = .ok (.getfield 106, 3) := by decide +kernel
theorem dX6_count_47 : decode cX6_count 47 = .ok (.ireturn, 1) := by decide +kernel
theorem dX6_count_48 : decode cX6_count 48 = .ok (.aload_n 0, 1) := by decide +kernel
theorem dX6_count_49 : decode cX6_count 49 = .ok (.getfield 19, 3) := by decide +kernel
theorem dX6_count_52 : decode cX6_count 52 = .ok (.getfield 112, 3) := by decide +kernel
theorem dX6_count_55 : decode cX6_count 55 = .ok (.ireturn, 1) := by decide +kernel
theorem dX6_count_56 : decode cX6_count 56 = .ok (.aload_n 0, 1) := by decide +kernel
theorem dX6_count_57 : decode cX6_count 57 = .ok (.getfield 12, 3) := by decide +kernel
theorem dX6_count_60 : decode cX6_count 60 = .ok (.getfield 77, 3) := by decide +kernel
theorem dX6_count_63 : decode cX6_count 63 = .ok (.ireturn, 1) := by decide +kernel
theorem dX6_count_64 : decode cX6_count 64 = .ok (.aload_n 0, 1) := by decide +kernel
theorem dX6_count_65 : decode cX6_count 65 = .ok (.getfield 100, 3) := by decide +kernel
theorem dX6_count_68 : decode cX6_count 68 = .ok (.ireturn, 1) := by decide +kernel
theorem dX6_count_69 : decode cX6_count 69 = .ok (.aload_n 0, 1) := by decide +kernel
theorem dX6_count_70 : decode cX6_count 70 = .ok (.getfield 29, 3) := by decide +kernel
theorem dX6_count_73 : decode cX6_count 73 = .ok (.getfield 115, 3) := by decide +kernel
theorem dX6_count_76 : decode cX6_count 76 = .ok (.ifCond .eq 7, 3) := by decide +kernel
theorem dX6_count_79 : decode cX6_count 79 = .ok (.iconst 1, 1) := by decide +kernel
theorem dX6_count_80 : decode cX6_count 80 = .ok (.goto 4, 3) := by decide +kernel
theorem dX6_count_83 : decode cX6_count 83 = .ok (.iconst 0, 1) := by decide +kernel
theorem dX6_count_84 : decode cX6_count 84 = .ok (.ireturn, 1) := by decide +kernel
theorem dX6_count_85 : decode cX6_count 85 = .ok (.aload_n 0, 1) := by decide +kernel
theorem dX6_count_86 : decode cX6_count 86 = .ok (.getfield 29, 3) := by decide +kernel
theorem dX6_count_89 : decode cX6_count 89 = .ok (.getfield 119, 3) := by decide +kernel
theorem dX6_count_92 : decode cX6_count 92 = .ok (.ireturn, 1) := by decide +kernel
theorem dX6_count_93 : decode cX6_count 93 = .ok (.ldc 76, 2) := by decide +kernel
theorem dX6_count_95 : decode cX6_count 95 = .ok (.ireturn, 1) := by decide +kernel
theorem dX6_pupil_0 : decode cX6_pupil 0 = .ok (.aload_n 0, 1) := by decide +kernel
theorem dX6_pupil_1 : decode cX6_pupil 1 = .ok (.iload_n 1, 1) := by decide +kernel
theorem dX6_pupil_2 : decode cX6_pupil 2 = .ok (.invokevirtual 122, 3) := by decide +kernel
theorem dX6_pupil_5 : decode cX6_pupil 5 = .ok (.ifCond .ne 6, 3) := by decide +kernel
theorem dX6_pupil_8 : decode cX6_pupil 8 = .ok (.ldc 126, 2) := by decide +kernel
theorem dX6_pupil_10 : decode cX6_pupil 10 = .ok (.ireturn, 1) := by decide +kernel
theorem dX6_pupil_11 : decode cX6_pupil 11 = .ok (.iload_n 2, 1) := by decide +kernel
theorem dX6_pupil_12 : decode cX6_pupil 12 = .ok (.tableswitch 78 0 4 #[36, 46, 56, 66, 72], 36) := by decide +kernel
theorem dX6_pupil_48 : decode cX6_pupil 48 = .ok (.aload_n 0, 1) := by decide +kernel
theorem dX6_pupil_49 : decode cX6_pupil 49 = .ok (.getfield 19, 3) := by decide +kernel
theorem dX6_pupil_52 : decode cX6_pupil 52 = .ok (.getfield 127, 3) := by decide +kernel
theorem dX6_pupil_55 : decode cX6_pupil 55 = .ok (.iload_n 1, 1) := by decide +kernel
theorem dX6_pupil_56 : decode cX6_pupil 56 = .ok (.iaload, 1) := by decide +kernel
theorem dX6_pupil_57 : decode cX6_pupil 57 = .ok (.ireturn, 1) := by decide +kernel
theorem dX6_pupil_58 : decode cX6_pupil 58 = .ok (.aload_n 0, 1) := by decide +kernel
theorem dX6_pupil_59 : decode cX6_pupil 59 = .ok (.getfield 19, 3) := by decide +kernel
theorem dX6_pupil_62 : decode cX6_pupil 62 = .ok (.getfield 130, 3) := by decide +kernel
theorem dX6_pupil_65 : decode cX6_pupil 65 = .ok (.iload_n 1, 1) := by decide +kernel
theorem dX6_pupil_66 : decode cX6_pupil 66 = .ok (.iaload, 1) := by decide +kernel
theorem dX6_pupil_67 : decode cX6_pupil 67 = .ok (.ireturn, 1) := by decide +kernel
theorem dX6_pupil_68 : decode cX6_pupil 68 = .ok (.aload_n 0, 1) := by decide +kernel
theorem dX6_pupil_69 : decode cX6_pupil 69 = .ok (.getfield 19, 3) := by decide +kernel
theorem dX6_pupil_72 : decode cX6_pupil 72 = .ok (.getfield 133, 3) := by decide +kernel
theorem dX6_pupil_75 : decode cX6_pupil 75 = .ok (.iload_n 1, 1) := by decide +kernel
theorem dX6_pupil_76 : decode cX6_pupil 76 = .ok (.iaload, 1) := by decide +kernel
theorem dX6_pupil_77 : decode cX6_pupil 77 = .ok (.ireturn, 1) := by decide +kernel
theorem dX6_pupil_78 : decode cX6_pupil 78 = .ok (.aload_n 0, 1) := by decide +kernel
theorem dX6_pupil_79 : decode cX6_pupil 79 = .ok (.iload_n 1, 1) := by decide +kernel
theorem dX6_pupil_80 : decode cX6_pupil 80 = .ok (.invokevirtual 136, 3) := by decide +kernel
theorem dX6_pupil_83 : decode cX6_pupil 83 = .ok (.ireturn, 1) := by decide +kernel
theorem dX6_pupil_84 : decode cX6_pupil 84 = .ok (.aload_n 0, 1) := by decide +kernel
theorem dX6_pupil_85 : decode cX6_pupil 85 = .ok (.iload_n 1, 1) := by decide +kernel
theorem dX6_pupil_86 : decode cX6_pupil 86 = .ok (.invokevirtual 140, 3) := by decide +kernel
theorem dX6_pupil_89 : decode cX6_pupil 89 = .ok (.ireturn, 1) := by decide +kernel
theorem dX6_pupil_90 : decode cX6_pupil 90 = .ok (.ldc 76, 2) := by decide +kernel
theorem dX6_pupil_92 : decode cX6_pupil 92 = .ok (.ireturn, 1) := by decide +kernel
theorem dX6_leans_0 : decode cX6_leans 0 = .ok (.aload_n 0, 1) := by decide +kernel
theorem dX6_leans_1 : decode cX6_leans 1 = .ok (.iload_n 1, 1) := by decide +kernel
theorem dX6_leans_2 : decode cX6_leans 2 = .ok (.invokevirtual 143, 3) := by decide +kernel
theorem dX6_leans_5 : decode cX6_leans 5 = .ok (.ifCond .eq 15, 3) := by decide +kernel
theorem dX6_leans_8 : decode cX6_leans 8 = .ok (.aload_n 0, 1) := by decide +kernel
theorem dX6_leans_9 : decode cX6_leans 9 = .ok (.getfield 19, 3) := by decide +kernel
theorem dX6_leans_12 : decode cX6_leans 12 = .ok (.getfield 146, 3) := by decide +kernel
theorem dX6_leans_15 : decode cX6_leans 15 = .ok (.iload_n 1, 1) := by decide +kernel
theorem dX6_leans_16 : decode cX6_leans 16 = .ok (.iaload, 1) := by decide +kernel
theorem dX6_leans_17 : decode cX6_leans 17 = .ok (.goto 5, 3) := by decide +kernel
theorem dX6_leans_20 : decode cX6_leans 20 = .ok (.ldc 126, 2) := by decide +kernel
theorem dX6_leans_22 : decode cX6_leans 22 = .ok (.ireturn, 1) := by decide +kernel
theorem dX6_level_0 : decode cX6_level 0 = .ok (.aload_n 0, 1) := by decide +kernel
theorem dX6_level_1 : decode cX6_level 1 = .ok (.iload_n 1, 1) := by decide +kernel
theorem dX6_level_2 : decode cX6_level 2 = .ok (.invokevirtual 122, 3) := by decide +kernel
theorem dX6_level_5 : decode cX6_level 5 = .ok (.ifCond .eq 28, 3) := by decide +kernel
theorem dX6_level_8 : decode cX6_level 8 = .ok (.aload_n 0, 1) := by decide +kernel
theorem dX6_level_9 : decode cX6_level 9 = .ok (.iload_n 2, 1) := by decide +kernel
theorem dX6_level_10 : decode cX6_level 10 = .ok (.invokevirtual 143, 3) := by decide +kernel
theorem dX6_level_13 : decode cX6_level 13 = .ok (.ifCond .eq 20, 3) := by decide +kernel
theorem dX6_level_16 : decode cX6_level 16 = .ok (.aload_n 0, 1) := by decide +kernel
theorem dX6_level_17 : decode cX6_level 17 = .ok (.getfield 29, 3) := by decide +kernel
theorem dX6_level_20 : decode cX6_level 20 = .ok (.getfield 149, 3) := by decide +kernel
theorem dX6_level_23 : decode cX6_level 23 = .ok (.iload_n 1, 1) := by decide +kernel
theorem dX6_level_24 : decode cX6_level 24 = .ok (.bipush 6, 2) := by decide +kernel
theorem dX6_level_26 : decode cX6_level 26 = .ok (.imul, 1) := by decide +kernel
theorem dX6_level_27 : decode cX6_level 27 = .ok (.iload_n 2, 1) := by decide +kernel
theorem dX6_level_28 : decode cX6_level 28 = .ok (.iadd, 1) := by decide +kernel
theorem dX6_level_29 : decode cX6_level 29 = .ok (.iaload, 1) := by decide +kernel
theorem dX6_level_30 : decode cX6_level 30 = .ok (.goto 5, 3) := by decide +kernel
theorem dX6_level_33 : decode cX6_level 33 = .ok (.ldc 126, 2) := by decide +kernel
theorem dX6_level_35 : decode cX6_level 35 = .ok (.ireturn, 1) := by decide +kernel
theorem dX6_rises_0 : decode cX6_rises 0 = .ok (.aload_n 0, 1) := by decide +kernel
theorem dX6_rises_1 : decode cX6_rises 1 = .ok (.iload_n 1, 1) := by decide +kernel
theorem dX6_rises_2 : decode cX6_rises 2 = .ok (.invokevirtual 122, 3) := by decide +kernel
theorem dX6_rises_5 : decode cX6_rises 5 = .ok (.ifCond .eq 11, 3) := by decide +kernel
theorem dX6_rises_8 : decode cX6_rises 8 = .ok (.aload_n 0, 1) := by decide +kernel
theorem dX6_rises_9 : decode cX6_rises 9 = .ok (.iload_n 2, 1) := by decide +kernel
theorem dX6_rises_10 : decode cX6_rises 10 = .ok (.invokevirtual 143, 3) := by decide +kernel
theorem dX6_rises_13 : decode cX6_rises 13 = .ok (.ifCond .ne 6, 3) := by decide +kernel
theorem dX6_rises_16 : decode cX6_rises 16 = .ok (.ldc 126, 2) := by decide +kernel
theorem dX6_rises_18 : decode cX6_rises 18 = .ok (.ireturn, 1) := by decide +kernel
theorem dX6_rises_19 : decode cX6_rises 19 = .ok (.aload_n 0, 1) := by decide +kernel
theorem dX6_rises_20 : decode cX6_rises 20 = .ok (.iload_n 2, 1) := by decide +kernel
theorem dX6_rises_21 : decode cX6_rises 21 = .ok (.invokevirtual 152, 3) := by decide +kernel
theorem dX6_rises_24 : decode cX6_rises 24 = .ok (.aload_n 0, 1) := by decide +kernel
theorem dX6_rises_25 : decode cX6_rises 25 = .ok (.getfield 52, 3) := by decide +kernel
theorem dX6_rises_28 : decode cX6_rises 28 = .ok (.iload_n 1, 1) := by decide +kernel
theorem dX6_rises_29 : decode cX6_rises 29 = .ok (.invokevirtual 155, 3) := by decide +kernel
theorem dX6_rises_32 : decode cX6_rises 32 = .ok (.ireturn, 1) := by decide +kernel
theorem dX6_guest_0 : decode cX6_guest 0 = .ok (.aload_n 0, 1) := by decide +kernel
theorem dX6_guest_1 : decode cX6_guest 1 = .ok (.getfield 29, 3) := by decide +kernel
theorem dX6_guest_4 : decode cX6_guest 4 = .ok (.getfield 115, 3) := by decide +kernel
theorem dX6_guest_7 : decode cX6_guest 7 = .ok (.ifCond .eq 7, 3) := by decide +kernel
theorem dX6_guest_10 : decode cX6_guest 10 = .ok (.iconst 1, 1) := by decide +kernel
theorem dX6_guest_11 : decode cX6_guest 11 = .ok (.goto 4, 3) := by decide +kernel
theorem dX6_guest_14 : decode cX6_guest 14 = .ok (.iconst 0, 1) := by decide +kernel
theorem dX6_guest_15 : decode cX6_guest 15 = .ok (.istore_n 2, 1) := by decide +kernel
theorem dX6_guest_16 : decode cX6_guest 16 = .ok (.aload_n 0, 1) := by decide +kernel
theorem dX6_guest_17 : decode cX6_guest 17 = .ok (.getfield 29, 3) := by decide +kernel
theorem dX6_guest_20 : decode cX6_guest 20 = .ok (.iload_n 1, 1) := by decide +kernel
theorem dX6_guest_21 : decode cX6_guest 21 = .ok (.putfield 115, 3) := by decide +kernel
theorem dX6_guest_24 : decode cX6_guest 24 = .ok (.iload_n 2, 1) := by decide +kernel
theorem dX6_guest_25 : decode cX6_guest 25 = .ok (.ireturn, 1) := by decide +kernel
theorem dX6_lesson_0 : decode cX6_lesson 0 = .ok (.aload_n 0, 1) := by decide +kernel
theorem dX6_lesson_1 : decode cX6_lesson 1 = .ok (.iload_n 1, 1) := by decide +kernel
theorem dX6_lesson_2 : decode cX6_lesson 2 = .ok (.invokevirtual 122, 3) := by decide +kernel
theorem dX6_lesson_5 : decode cX6_lesson 5 = .ok (.ifCond .eq 11, 3) := by decide +kernel
theorem dX6_lesson_8 : decode cX6_lesson 8 = .ok (.aload_n 0, 1) := by decide +kernel
theorem dX6_lesson_9 : decode cX6_lesson 9 = .ok (.iload_n 2, 1) := by decide +kernel
theorem dX6_lesson_10 : decode cX6_lesson 10 = .ok (.invokevirtual 143, 3) := by decide +kernel
theorem dX6_lesson_13 : decode cX6_lesson 13 = .ok (.ifCond .ne 6, 3) := by decide +kernel
theorem dX6_lesson_16 : decode cX6_lesson 16 = .ok (.ldc 126, 2) := by decide +kernel
theorem dX6_lesson_18 : decode cX6_lesson 18 = .ok (.ireturn, 1) := by decide +kernel
theorem dX6_lesson_19 : decode cX6_lesson 19 = .ok (.aload_n 0, 1) := by decide +kernel
theorem dX6_lesson_20 : decode cX6_lesson 20 = .ok (.iload_n 2, 1) := by decide +kernel
theorem dX6_lesson_21 : decode cX6_lesson 21 = .ok (.invokevirtual 152, 3) := by decide +kernel
theorem dX6_lesson_24 : decode cX6_lesson 24 = .ok (.aload_n 0, 1) := by decide +kernel
theorem dX6_lesson_25 : decode cX6_lesson 25 = .ok (.getfield 52, 3) := by decide +kernel
theorem dX6_lesson_28 : decode cX6_lesson 28 = .ok (.iload_n 1, 1) := by decide +kernel
theorem dX6_lesson_29 : decode cX6_lesson 29 = .ok (.iload_n 3, 1) := by decide +kernel
theorem dX6_lesson_30 : decode cX6_lesson 30 = .ok (.invokevirtual 158, 3) := by decide +kernel
theorem dX6_lesson_33 : decode cX6_lesson 33 = .ok (.istore 4, 2) := by decide +kernel
theorem dX6_lesson_35 : decode cX6_lesson 35 = .ok (.aload_n 0, 1) := by decide +kernel
theorem dX6_lesson_36 : decode cX6_lesson 36 = .ok (.getfield 52, 3) := by decide +kernel
theorem dX6_lesson_39 : decode cX6_lesson 39 = .ok (.aload_n 0, 1) := by decide +kernel
theorem dX6_lesson_40 : decode cX6_lesson 40 = .ok (.getfield 29, 3) := by decide +kernel
theorem dX6_lesson_43 : decode cX6_lesson 43 = .ok (.iload_n 2, 1) := by decide +kernel
theorem dX6_lesson_44 : decode cX6_lesson 44 = .ok (.invokevirtual 162, 3) := by decide +kernel
theorem dX6_lesson_47 : decode cX6_lesson 47 = .ok (.iload 4, 2) := by decide +kernel
theorem dX6_lesson_49 : decode cX6_lesson 49 = .ok (.ireturn, 1) := by decide +kernel
theorem dX6_exact_0 : decode cX6_exact 0 = .ok (.aload_n 0, 1) := by decide +kernel
theorem dX6_exact_1 : decode cX6_exact 1 = .ok (.iload_n 1, 1) := by decide +kernel
theorem dX6_exact_2 : decode cX6_exact 2 = .ok (.invokevirtual 122, 3) := by decide +kernel
theorem dX6_exact_5 : decode cX6_exact 5 = .ok (.ifCond .eq 11, 3) := by decide +kernel
theorem dX6_exact_8 : decode cX6_exact 8 = .ok (.aload_n 0, 1) := by decide +kernel
theorem dX6_exact_9 : decode cX6_exact 9 = .ok (.iload_n 2, 1) := by decide +kernel
theorem dX6_exact_10 : decode cX6_exact 10 = .ok (.invokevirtual 143, 3) := by decide +kernel
theorem dX6_exact_13 : decode cX6_exact 13 = .ok (.ifCond .ne 6, 3) := by decide +kernel
theorem dX6_exact_16 : decode cX6_exact 16 = .ok (.ldc 126, 2) := by decide +kernel
theorem dX6_exact_18 : decode cX6_exact 18 = .ok (.ireturn, 1) := by decide +kernel
theorem dX6_exact_19 : decode cX6_exact 19 = .ok (.aload_n 0, 1) := by decide +kernel
theorem dX6_exact_20 : decode cX6_exact 20 = .ok (.iload_n 2, 1) := by decide +kernel
theorem dX6_exact_21 : decode cX6_exact 21 = .ok (.invokevirtual 152, 3) := by decide +kernel
theorem dX6_exact_24 : decode cX6_exact 24 = .ok (.iload_n 3, 1) := by decide +kernel
theorem dX6_exact_25 : decode cX6_exact 25 = .ok (.tableswitch 69 0 3 #[31, 40, 50, 60], 31) := by decide +kernel
theorem dX6_exact_56 : decode cX6_exact 56 = .ok (.aload_n 0, 1) := by decide +kernel
theorem dX6_exact_57 : decode cX6_exact 57 = .ok (.getfield 52, 3) := by decide +kernel
theorem dX6_exact_60 : decode cX6_exact 60 = .ok (.iload_n 1, 1) := by decide +kernel
theorem dX6_exact_61 : decode cX6_exact 61 = .ok (.invokevirtual 166, 3) := by decide +kernel
theorem dX6_exact_64 : decode cX6_exact 64 = .ok (.ireturn, 1) := by decide +kernel
theorem dX6_exact_65 : decode cX6_exact 65 = .ok (.aload_n 0, 1) := by decide +kernel
theorem dX6_exact_66 : decode cX6_exact 66 = .ok (.getfield 52, 3) := by decide +kernel
theorem dX6_exact_69 : decode cX6_exact 69 = .ok (.iload_n 1, 1) := by decide +kernel
theorem dX6_exact_70 : decode cX6_exact 70 = .ok (.iconst 0, 1) := by decide +kernel
theorem dX6_exact_71 : decode cX6_exact 71 = .ok (.invokevirtual 169, 3) := by decide +kernel
theorem dX6_exact_74 : decode cX6_exact 74 = .ok (.ireturn, 1) := by decide +kernel
theorem dX6_exact_75 : decode cX6_exact 75 = .ok (.aload_n 0, 1) := by decide +kernel
theorem dX6_exact_76 : decode cX6_exact 76 = .ok (.getfield 52, 3) := by decide +kernel
theorem dX6_exact_79 : decode cX6_exact 79 = .ok (.iload_n 1, 1) := by decide +kernel
theorem dX6_exact_80 : decode cX6_exact 80 = .ok (.iconst 1, 1) := by decide +kernel
theorem dX6_exact_81 : decode cX6_exact 81 = .ok (.invokevirtual 169, 3) := by decide +kernel
theorem dX6_exact_84 : decode cX6_exact 84 = .ok (.ireturn, 1) := by decide +kernel
theorem dX6_exact_85 : decode cX6_exact 85 = .ok (.aload_n 0, 1) := by decide +kernel
theorem dX6_exact_86 : decode cX6_exact 86 = .ok (.getfield 52, 3) := by decide +kernel
theorem dX6_exact_89 : decode cX6_exact 89 = .ok (.iload_n 1, 1) := by decide +kernel
theorem dX6_exact_90 : decode cX6_exact 90 = .ok (.invokevirtual 172, 3) := by decide +kernel
theorem dX6_exact_93 : decode cX6_exact 93 = .ok (.ireturn, 1) := by decide +kernel
theorem dX6_exact_94 : decode cX6_exact 94 = .ok (.ldc 76, 2) := by decide +kernel
theorem dX6_exact_96 : decode cX6_exact 96 = .ok (.ireturn, 1) := by decide +kernel
theorem dX6_behind_0 : decode cX6_behind 0 = .ok (.aload_n 0, 1) := by decide +kernel
theorem dX6_behind_1 : decode cX6_behind 1 = .ok (.iload_n 1, 1) := by decide +kernel
theorem dX6_behind_2 : decode cX6_behind 2 = .ok (.invokevirtual 175, 3) := by decide +kernel
theorem dX6_behind_5 : decode cX6_behind 5 = .ok (.ifCond .eq 11, 3) := by decide +kernel
theorem dX6_behind_8 : decode cX6_behind 8 = .ok (.aload_n 0, 1) := by decide +kernel
theorem dX6_behind_9 : decode cX6_behind 9 = .ok (.iload_n 2, 1) := by decide +kernel
theorem dX6_behind_10 : decode cX6_behind 10 = .ok (.invokevirtual 143, 3) := by decide +kernel
theorem dX6_behind_13 : decode cX6_behind 13 = .ok (.ifCond .ne 6, 3) := by decide +kernel
theorem dX6_behind_16 : decode cX6_behind 16 = .ok (.ldc 126, 2) := by decide +kernel
theorem dX6_behind_18 : decode cX6_behind 18 = .ok (.ireturn, 1) := by decide +kernel
theorem dX6_behind_19 : decode cX6_behind 19 = .ok (.iload_n 3, 1) := by decide +kernel
theorem dX6_behind_20 : decode cX6_behind 20 = .ok (.ifCond .lt 28, 3) := by decide +kernel
theorem dX6_behind_23 : decode cX6_behind 23 = .ok (.iload_n 3, 1) := by decide +kernel
theorem dX6_behind_24 : decode cX6_behind 24 = .ok (.bipush 20, 2) := by decide +kernel
theorem dX6_behind_26 : decode cX6_behind 26 = .ok (.if_icmp .gt 22, 3) := by decide +kernel
theorem dX6_behind_29 : decode cX6_behind 29 = .ok (.iload 4, 2) := by decide +kernel
theorem dX6_behind_31 : decode cX6_behind 31 = .ok (.ifCond .lt 17, 3) := by decide +kernel
theorem dX6_behind_34 : decode cX6_behind 34 = .ok (.iload 4, 2) := by decide +kernel
theorem dX6_behind_36 : decode cX6_behind 36 = .ok (.iconst 1, 1) := by decide +kernel
theorem dX6_behind_37 : decode cX6_behind 37 = .ok (.aload_n 0, 1) := by decide +kernel
theorem dX6_behind_38 : decode cX6_behind 38 = .ok (.getfield 19, 3) := by decide +kernel
theorem dX6_behind_41 : decode cX6_behind 41 = .ok (.getfield 106, 3) := by decide +kernel
theorem dX6_behind_44 : decode cX6_behind 44 = .ok (.iadd, 1) := by decide +kernel
theorem dX6_behind_45 : decode cX6_behind 45 = .ok (.if_icmp .le 6, 3) := by decide +kernel
theorem dX6_behind_48 : decode cX6_behind 48 = .ok (.ldc 76, 2) := by decide +kernel
theorem dX6_behind_50 : decode cX6_behind 50 = .ok (.ireturn, 1) := by decide +kernel
theorem dX6_behind_51 : decode cX6_behind 51 = .ok (.aload_n 0, 1) := by decide +kernel
theorem dX6_behind_52 : decode cX6_behind 52 = .ok (.getfield 19, 3) := by decide +kernel
theorem dX6_behind_55 : decode cX6_behind 55 = .ok (.getfield 106, 3) := by decide +kernel
theorem dX6_behind_58 : decode cX6_behind 58 = .ok (.iconst 1, 1) := by decide +kernel
theorem dX6_behind_59 : decode cX6_behind 59 = .ok (.if_icmp .lt 14, 3) := by decide +kernel
theorem dX6_behind_62 : decode cX6_behind 62 = .ok (.aload_n 0, 1) := by decide +kernel
theorem dX6_behind_63 : decode cX6_behind 63 = .ok (.getfield 19, 3) := by decide +kernel
theorem dX6_behind_66 : decode cX6_behind 66 = .ok (.getfield 106, 3) := by decide +kernel
theorem dX6_behind_69 : decode cX6_behind 69 = .ok (.iconst 3, 1) := by decide +kernel
theorem dX6_behind_70 : decode cX6_behind 70 = .ok (.if_icmp .le 6, 3) := by decide +kernel
theorem dX6_behind_73 : decode cX6_behind 73 = .ok (.ldc 178, 2) := by decide +kernel
theorem dX6_behind_75 : decode cX6_behind 75 = .ok (.ireturn, 1) := by decide +kernel
theorem dX6_behind_76 : decode cX6_behind 76 = .ok (.aload_n 0, 1) := by decide +kernel
theorem dX6_behind_77 : decode cX6_behind 77 = .ok (.iload_n 2, 1) := by decide +kernel
theorem dX6_behind_78 : decode cX6_behind 78 = .ok (.invokevirtual 152, 3) := by decide +kernel
theorem dX6_behind_81 : decode cX6_behind 81 = .ok (.aload_n 0, 1) := by decide +kernel
theorem dX6_behind_82 : decode cX6_behind 82 = .ok (.getfield 59, 3) := by decide +kernel
theorem dX6_behind_85 : decode cX6_behind 85 = .ok (.aload_n 0, 1) := by decide +kernel
theorem dX6_behind_86 : decode cX6_behind 86 = .ok (.getfield 52, 3) := by decide +kernel
theorem dX6_behind_89 : decode cX6_behind 89 = .ok (.iload_n 1, 1) := by decide +kernel
theorem dX6_behind_90 : decode cX6_behind 90 = .ok (.aload_n 0, 1) := by decide +kernel
theorem dX6_behind_91 : decode cX6_behind 91 = .ok (.getfield 29, 3) := by decide +kernel
theorem dX6_behind_94 : decode cX6_behind 94 = .ok (.getfield 119, 3) := by decide +kernel
theorem dX6_behind_97 : decode cX6_behind 97 = .ok (.iload_n 3, 1) := by decide +kernel
theorem dX6_behind_98 : decode cX6_behind 98 = .ok (.invokevirtual 179, 3) := by decide +kernel
theorem dX6_behind_101 : decode cX6_behind 101 = .ok (.iload 4, 2) := by decide +kernel
theorem dX6_behind_103 : decode cX6_behind 103 = .ok (.lookupswitch 55 #[(0, 25), (1, 40)], 25) := by decide +kernel
theorem dX6_behind_128 : decode cX6_behind 128 = .ok (.aload_n 0, 1) := by decide +kernel
theorem dX6_behind_129 : decode cX6_behind 129 = .ok (.getfield 59, 3) := by decide +kernel
theorem dX6_behind_132 : decode cX6_behind 132 = .ok (.aload_n 0, 1) := by decide +kernel
theorem dX6_behind_133 : decode cX6_behind 133 = .ok (.getfield 19, 3) := by decide +kernel
theorem dX6_behind_136 : decode cX6_behind 136 = .ok (.getfield 106, 3) := by decide +kernel
theorem dX6_behind_139 : decode cX6_behind 139 = .ok (.invokevirtual 183, 3) := by decide +kernel
theorem dX6_behind_142 : decode cX6_behind 142 = .ok (.ireturn, 1) := by decide +kernel
theorem dX6_behind_143 : decode cX6_behind 143 = .ok (.aload_n 0, 1) := by decide +kernel
theorem dX6_behind_144 : decode cX6_behind 144 = .ok (.getfield 59, 3) := by decide +kernel
theorem dX6_behind_147 : decode cX6_behind 147 = .ok (.aload_n 0, 1) := by decide +kernel
theorem dX6_behind_148 : decode cX6_behind 148 = .ok (.getfield 19, 3) := by decide +kernel
theorem dX6_behind_151 : decode cX6_behind 151 = .ok (.getfield 106, 3) := by decide +kernel
theorem dX6_behind_154 : decode cX6_behind 154 = .ok (.invokevirtual 186, 3) := by decide +kernel
theorem dX6_behind_157 : decode cX6_behind 157 = .ok (.ireturn, 1) := by decide +kernel
theorem dX6_behind_158 : decode cX6_behind 158 = .ok (.aload_n 0, 1) := by decide +kernel
theorem dX6_behind_159 : decode cX6_behind 159 = .ok (.getfield 59, 3) := by decide +kernel
theorem dX6_behind_162 : decode cX6_behind 162 = .ok (.aload_n 0, 1) := by decide +kernel
theorem dX6_behind_163 : decode cX6_behind 163 = .ok (.getfield 19, 3) := by decide +kernel
theorem dX6_behind_166 : decode cX6_behind 166 = .ok (.getfield 106, 3) := by decide +kernel
theorem dX6_behind_169 : decode cX6_behind 169 = .ok (.iload 4, 2) := by decide +kernel
theorem dX6_behind_171 : decode cX6_behind 171 = .ok (.iconst 2, 1) := by decide +kernel
theorem dX6_behind_172 : decode cX6_behind 172 = .ok (.isub, 1) := by decide +kernel
theorem dX6_behind_173 : decode cX6_behind 173 = .ok (.invokevirtual 189, 3) := by decide +kernel
theorem dX6_behind_176 : decode cX6_behind 176 = .ok (.ireturn, 1) := by decide +kernel
theorem dX6_up_0 : decode cX6_up 0 = .ok (.aload_n 0, 1) := by decide +kernel
theorem dX6_up_1 : decode cX6_up 1 = .ok (.iload_n 1, 1) := by decide +kernel
theorem dX6_up_2 : decode cX6_up 2 = .ok (.invokevirtual 175, 3) := by decide +kernel
theorem dX6_up_5 : decode cX6_up 5 = .ok (.ifCond .eq 11, 3) := by decide +kernel
theorem dX6_up_8 : decode cX6_up 8 = .ok (.aload_n 0, 1) := by decide +kernel
theorem dX6_up_9 : decode cX6_up 9 = .ok (.iload_n 2, 1) := by decide +kernel
theorem dX6_up_10 : decode cX6_up 10 = .ok (.invokevirtual 143, 3) := by decide +kernel
theorem dX6_up_13 : decode cX6_up 13 = .ok (.ifCond .ne 6, 3) := by decide +kernel
theorem dX6_up_16 : decode cX6_up 16 = .ok (.ldc 126, 2) := by decide +kernel
theorem dX6_up_18 : decode cX6_up 18 = .ok (.ireturn, 1) := by decide +kernel
theorem dX6_up_19 : decode cX6_up 19 = .ok (.aload_n 0, 1) := by decide +kernel
theorem dX6_up_20 : decode cX6_up 20 = .ok (.getfield 19, 3) := by decide +kernel
theorem dX6_up_23 : decode cX6_up 23 = .ok (.getfield 106, 3) := by decide +kernel
theorem dX6_up_26 : decode cX6_up 26 = .ok (.iconst 1, 1) := by decide +kernel
theorem dX6_up_27 : decode cX6_up 27 = .ok (.if_icmp .ge 6, 3) := by decide +kernel
theorem dX6_up_30 : decode cX6_up 30 = .ok (.ldc 178, 2) := by decide +kernel
theorem dX6_up_32 : decode cX6_up 32 = .ok (.ireturn, 1) := by decide +kernel
theorem dX6_up_33 : decode cX6_up 33 = .ok (.aload_n 0, 1) := by decide +kernel
theorem dX6_up_34 : decode cX6_up 34 = .ok (.iload_n 2, 1) := by decide +kernel
theorem dX6_up_35 : decode cX6_up 35 = .ok (.invokevirtual 152, 3) := by decide +kernel
theorem dX6_up_38 : decode cX6_up 38 = .ok (.aload_n 0, 1) := by decide +kernel
theorem dX6_up_39 : decode cX6_up 39 = .ok (.getfield 52, 3) := by decide +kernel
theorem dX6_up_42 : decode cX6_up 42 = .ok (.iload_n 1, 1) := by decide +kernel
theorem dX6_up_43 : decode cX6_up 43 = .ok (.aload_n 0, 1) := by decide +kernel
theorem dX6_up_44 : decode cX6_up 44 = .ok (.getfield 29, 3) := by decide +kernel
theorem dX6_up_47 : decode cX6_up 47 = .ok (.getfield 119, 3) := by decide +kernel
theorem dX6_up_50 : decode cX6_up 50 = .ok (.invokevirtual 193, 3) := by decide +kernel
theorem dX6_up_53 : decode cX6_up 53 = .ok (.ireturn, 1) := by decide +kernel
theorem dX6_run_0 : decode cX6_run 0 = .ok (.aload_n 0, 1) := by decide +kernel
theorem dX6_run_1 : decode cX6_run 1 = .ok (.iload_n 1, 1) := by decide +kernel
theorem dX6_run_2 : decode cX6_run 2 = .ok (.invokevirtual 175, 3) := by decide +kernel
theorem dX6_run_5 : decode cX6_run 5 = .ok (.ifCond .eq 11, 3) := by decide +kernel
theorem dX6_run_8 : decode cX6_run 8 = .ok (.aload_n 0, 1) := by decide +kernel
theorem dX6_run_9 : decode cX6_run 9 = .ok (.iload_n 2, 1) := by decide +kernel
theorem dX6_run_10 : decode cX6_run 10 = .ok (.invokevirtual 143, 3) := by decide +kernel
theorem dX6_run_13 : decode cX6_run 13 = .ok (.ifCond .ne 6, 3) := by decide +kernel
theorem dX6_run_16 : decode cX6_run 16 = .ok (.ldc 126, 2) := by decide +kernel
theorem dX6_run_18 : decode cX6_run 18 = .ok (.ireturn, 1) := by decide +kernel
theorem dX6_run_19 : decode cX6_run 19 = .ok (.iload_n 3, 1) := by decide +kernel
theorem dX6_run_20 : decode cX6_run 20 = .ok (.iconst 1, 1) := by decide +kernel
theorem dX6_run_21 : decode cX6_run 21 = .ok (.if_icmp .lt 9, 3) := by decide +kernel
theorem dX6_run_24 : decode cX6_run 24 = .ok (.iload_n 3, 1) := by decide +kernel
theorem dX6_run_25 : decode cX6_run 25 = .ok (.bipush 99, 2) := by decide +kernel
theorem dX6_run_27 : decode cX6_run 27 = .ok (.if_icmp .le 6, 3) := by decide +kernel
theorem dX6_run_30 : decode cX6_run 30 = .ok (.ldc 76, 2) := by decide +kernel
theorem dX6_run_32 : decode cX6_run 32 = .ok (.ireturn, 1) := by decide +kernel
theorem dX6_run_33 : decode cX6_run 33 = .ok (.aload_n 0, 1) := by decide +kernel
theorem dX6_run_34 : decode cX6_run 34 = .ok (.getfield 19, 3) := by decide +kernel
theorem dX6_run_37 : decode cX6_run 37 = .ok (.getfield 106, 3) := by decide +kernel
theorem dX6_run_40 : decode cX6_run 40 = .ok (.iconst 1, 1) := by decide +kernel
theorem dX6_run_41 : decode cX6_run 41 = .ok (.if_icmp .ge 6, 3) := by decide +kernel
theorem dX6_run_44 : decode cX6_run 44 = .ok (.ldc 178, 2) := by decide +kernel
theorem dX6_run_46 : decode cX6_run 46 = .ok (.ireturn, 1) := by decide +kernel
theorem dX6_run_47 : decode cX6_run 47 = .ok (.aload_n 0, 1) := by decide +kernel
theorem dX6_run_48 : decode cX6_run 48 = .ok (.iload_n 2, 1) := by decide +kernel
theorem dX6_run_49 : decode cX6_run 49 = .ok (.invokevirtual 152, 3) := by decide +kernel
theorem dX6_run_52 : decode cX6_run 52 = .ok (.iconst 0, 1) := by decide +kernel
theorem dX6_run_53 : decode cX6_run 53 = .ok (.istore 5, 2) := by decide +kernel
theorem dX6_run_55 : decode cX6_run 55 = .ok (.iload 5, 2) := by decide +kernel
theorem dX6_run_57 : decode cX6_run 57 = .ok (.iload_n 3, 1) := by decide +kernel
theorem dX6_run_58 : decode cX6_run 58 = .ok (.if_icmp .ge 60, 3) := by decide +kernel
theorem dX6_run_61 : decode cX6_run 61 = .ok (.aload_n 0, 1) := by decide +kernel
theorem dX6_run_62 : decode cX6_run 62 = .ok (.getfield 52, 3) := by decide +kernel
theorem dX6_run_65 : decode cX6_run 65 = .ok (.aload_n 0, 1) := by decide +kernel
theorem dX6_run_66 : decode cX6_run 66 = .ok (.getfield 52, 3) := by decide +kernel
theorem dX6_run_69 : decode cX6_run 69 = .ok (.iload_n 1, 1) := by decide +kernel
theorem dX6_run_70 : decode cX6_run 70 = .ok (.aload_n 0, 1) := by decide +kernel
theorem dX6_run_71 : decode cX6_run 71 = .ok (.getfield 29, 3) := by decide +kernel
theorem dX6_run_74 : decode cX6_run 74 = .ok (.getfield 119, 3) := by decide +kernel
theorem dX6_run_77 : decode cX6_run 77 = .ok (.invokevirtual 193, 3) := by decide +kernel
theorem dX6_run_80 : decode cX6_run 80 = .ok (.iload 4, 2) := by decide +kernel
theorem dX6_run_82 : decode cX6_run 82 = .ok (.invokevirtual 158, 3) := by decide +kernel
theorem dX6_run_85 : decode cX6_run 85 = .ok (.pop, 1) := by decide +kernel
theorem dX6_run_86 : decode cX6_run 86 = .ok (.iload_n 1, 1) := by decide +kernel
theorem dX6_run_87 : decode cX6_run 87 = .ok (.iconst 1, 1) := by decide +kernel
theorem dX6_run_88 : decode cX6_run 88 = .ok (.if_icmp .ne 24, 3) := by decide +kernel
theorem dX6_run_91 : decode cX6_run 91 = .ok (.aload_n 0, 1) := by decide +kernel
theorem dX6_run_92 : decode cX6_run 92 = .ok (.getfield 29, 3) := by decide +kernel
theorem dX6_run_95 : decode cX6_run 95 = .ok (.aload_n 0, 1) := by decide +kernel
theorem dX6_run_96 : decode cX6_run 96 = .ok (.getfield 52, 3) := by decide +kernel
theorem dX6_run_99 : decode cX6_run 99 = .ok (.aload_n 0, 1) := by decide +kernel
theorem dX6_run_100 : decode cX6_run 100 = .ok (.getfield 29, 3) := by decide +kernel
theorem dX6_run_103 : decode cX6_run 103 = .ok (.getfield 119, 3) := by decide +kernel
theorem dX6_run_106 : decode cX6_run 106 = .ok (.invokevirtual 196, 3) := by decide +kernel
theorem dX6_run_109 : decode cX6_run 109 = .ok (.putfield 119, 3) := by decide +kernel
theorem dX6_run_112 : decode cX6_run 112 = .ok (.iinc 5 1, 3) := by decide +kernel
theorem dX6_run_115 : decode cX6_run 115 = .ok (.goto (-60), 3) := by decide +kernel
theorem dX6_run_118 : decode cX6_run 118 = .ok (.aload_n 0, 1) := by decide +kernel
theorem dX6_run_119 : decode cX6_run 119 = .ok (.getfield 52, 3) := by decide +kernel
theorem dX6_run_122 : decode cX6_run 122 = .ok (.aload_n 0, 1) := by decide +kernel
theorem dX6_run_123 : decode cX6_run 123 = .ok (.getfield 29, 3) := by decide +kernel
theorem dX6_run_126 : decode cX6_run 126 = .ok (.iload_n 2, 1) := by decide +kernel
theorem dX6_run_127 : decode cX6_run 127 = .ok (.invokevirtual 162, 3) := by decide +kernel
theorem dX6_run_130 : decode cX6_run 130 = .ok (.aload_n 0, 1) := by decide +kernel
theorem dX6_run_131 : decode cX6_run 131 = .ok (.getfield 52, 3) := by decide +kernel
theorem dX6_run_134 : decode cX6_run 134 = .ok (.invokevirtual 199, 3) := by decide +kernel
theorem dX6_run_137 : decode cX6_run 137 = .ok (.ireturn, 1) := by decide +kernel
theorem dX6_master_0 : decode cX6_master 0 = .ok (.aload_n 0, 1) := by decide +kernel
theorem dX6_master_1 : decode cX6_master 1 = .ok (.iload_n 1, 1) := by decide +kernel
theorem dX6_master_2 : decode cX6_master 2 = .ok (.invokevirtual 143, 3) := by decide +kernel
theorem dX6_master_5 : decode cX6_master 5 = .ok (.ifCond .ne 6, 3) := by decide +kernel
theorem dX6_master_8 : decode cX6_master 8 = .ok (.ldc 126, 2) := by decide +kernel
theorem dX6_master_10 : decode cX6_master 10 = .ok (.ireturn, 1) := by decide +kernel
theorem dX6_master_11 : decode cX6_master 11 = .ok (.aload_n 0, 1) := by decide +kernel
theorem dX6_master_12 : decode cX6_master 12 = .ok (.getfield 19, 3) := by decide +kernel
theorem dX6_master_15 : decode cX6_master 15 = .ok (.getfield 106, 3) := by decide +kernel
theorem dX6_master_18 : decode cX6_master 18 = .ok (.iconst 1, 1) := by decide +kernel
theorem dX6_master_19 : decode cX6_master 19 = .ok (.if_icmp .ge 6, 3) := by decide +kernel
theorem dX6_master_22 : decode cX6_master 22 = .ok (.ldc 178, 2) := by decide +kernel
theorem dX6_master_24 : decode cX6_master 24 = .ok (.ireturn, 1) := by decide +kernel
theorem dX6_master_25 : decode cX6_master 25 = .ok (.aload_n 0, 1) := by decide +kernel
theorem dX6_master_26 : decode cX6_master 26 = .ok (.iload_n 1, 1) := by decide +kernel
theorem dX6_master_27 : decode cX6_master 27 = .ok (.invokevirtual 152, 3) := by decide +kernel
theorem dX6_master_30 : decode cX6_master 30 = .ok (.aload_n 0, 1) := by decide +kernel
theorem dX6_master_31 : decode cX6_master 31 = .ok (.getfield 52, 3) := by decide +kernel
theorem dX6_master_34 : decode cX6_master 34 = .ok (.invokevirtual 203, 3) := by decide +kernel
theorem dX6_master_37 : decode cX6_master 37 = .ok (.istore_n 2, 1) := by decide +kernel
theorem dX6_master_38 : decode cX6_master 38 = .ok (.aload_n 0, 1) := by decide +kernel
theorem dX6_master_39 : decode cX6_master 39 = .ok (.getfield 52, 3) := by decide +kernel
theorem dX6_master_42 : decode cX6_master 42 = .ok (.aload_n 0, 1) := by decide +kernel
theorem dX6_master_43 : decode cX6_master 43 = .ok (.getfield 29, 3) := by decide +kernel
theorem dX6_master_46 : decode cX6_master 46 = .ok (.iload_n 1, 1) := by decide +kernel
theorem dX6_master_47 : decode cX6_master 47 = .ok (.invokevirtual 162, 3) := by decide +kernel
theorem dX6_master_50 : decode cX6_master 50 = .ok (.iload_n 2, 1) := by decide +kernel
theorem dX6_master_51 : decode cX6_master 51 = .ok (.ireturn, 1) := by decide +kernel
theorem dX6_summer_0 : decode cX6_summer 0 = .ok (.iload_n 1, 1) := by decide +kernel
theorem dX6_summer_1 : decode cX6_summer 1 = .ok (.ifCond .lt 9, 3) := by decide +kernel
theorem dX6_summer_4 : decode cX6_summer 4 = .ok (.iload_n 1, 1) := by decide +kernel
theorem dX6_summer_5 : decode cX6_summer 5 = .ok (.bipush 9, 2) := by decide +kernel
theorem dX6_summer_7 : decode cX6_summer 7 = .ok (.if_icmp .le 6, 3) := by decide +kernel
theorem dX6_summer_10 : decode cX6_summer 10 = .ok (.ldc 76, 2) := by decide +kernel
theorem dX6_summer_12 : decode cX6_summer 12 = .ok (.ireturn, 1) := by decide +kernel
theorem dX6_summer_13 : decode cX6_summer 13 = .ok (.iconst 0, 1) := by decide +kernel
theorem dX6_summer_14 : decode cX6_summer 14 = .ok (.istore_n 2, 1) := by decide +kernel
theorem dX6_summer_15 : decode cX6_summer 15 = .ok (.iconst 0, 1) := by decide +kernel
theorem dX6_summer_16 : decode cX6_summer 16 = .ok (.istore_n 3, 1) := by decide +kernel
theorem dX6_summer_17 : decode cX6_summer 17 = .ok (.iload_n 3, 1) := by decide +kernel
theorem dX6_summer_18 : decode cX6_summer 18 = .ok (.aload_n 0, 1) := by decide +kernel
theorem dX6_summer_19 : decode cX6_summer 19 = .ok (.getfield 19, 3) := by decide +kernel
theorem dX6_summer_22 : decode cX6_summer 22 = .ok (.getfield 106, 3) := by decide +kernel
theorem dX6_summer_25 : decode cX6_summer 25 = .ok (.if_icmp .ge 95, 3) := by decide +kernel
theorem dX6_summer_28 : decode cX6_summer 28 = .ok (.iconst 0, 1) := by decide +kernel
theorem dX6_summer_29 : decode cX6_summer 29 = .ok (.istore 4, 2) := by decide +kernel
theorem dX6_summer_31 : decode cX6_summer 31 = .ok (.iload 4, 2) := by decide +kernel
theorem dX6_summer_33 : decode cX6_summer 33 = .ok (.aload_n 0, 1) := by decide +kernel
theorem dX6_summer_34 : decode cX6_summer 34 = .ok (.getfield 19, 3) := by decide +kernel
theorem dX6_summer_37 : decode cX6_summer 37 = .ok (.getfield 112, 3) := by decide +kernel
theorem dX6_summer_40 : decode cX6_summer 40 = .ok (.if_icmp .ge 74, 3) := by decide +kernel
theorem dX6_summer_43 : decode cX6_summer 43 = .ok (.aload_n 0, 1) := by decide +kernel
theorem dX6_summer_44 : decode cX6_summer 44 = .ok (.getfield 29, 3) := by decide +kernel
theorem dX6_summer_47 : decode cX6_summer 47 = .ok (.getfield 149, 3) := by decide +kernel
theorem dX6_summer_50 : decode cX6_summer 50 = .ok (.iload_n 3, 1) := by decide +kernel
theorem dX6_summer_51 : decode cX6_summer 51 = .ok (.bipush 6, 2) := by decide +kernel
theorem dX6_summer_53 : decode cX6_summer 53 = .ok (.imul, 1) := by decide +kernel
theorem dX6_summer_54 : decode cX6_summer 54 = .ok (.iload 4, 2) := by decide +kernel
theorem dX6_summer_56 : decode cX6_summer 56 = .ok (.iadd, 1) := by decide +kernel
theorem dX6_summer_57 : decode cX6_summer 57 = .ok (.iaload, 1) := by decide +kernel
theorem dX6_summer_58 : decode cX6_summer 58 = .ok (.istore 5, 2) := by decide +kernel
theorem dX6_summer_60 : decode cX6_summer 60 = .ok (.iload 5, 2) := by decide +kernel
theorem dX6_summer_62 : decode cX6_summer 62 = .ok (.iload_n 1, 1) := by decide +kernel
theorem dX6_summer_63 : decode cX6_summer 63 = .ok (.if_icmp .le 10, 3) := by decide +kernel
theorem dX6_summer_66 : decode cX6_summer 66 = .ok (.iload 5, 2) := by decide +kernel
theorem dX6_summer_68 : decode cX6_summer 68 = .ok (.iload_n 1, 1) := by decide +kernel
theorem dX6_summer_69 : decode cX6_summer 69 = .ok (.isub, 1) := by decide +kernel
theorem dX6_summer_70 : decode cX6_summer 70 = .ok (.goto 4, 3) := by decide +kernel
theorem dX6_summer_73 : decode cX6_summer 73 = .ok (.iconst 0, 1) := by decide +kernel
theorem dX6_summer_74 : decode cX6_summer 74 = .ok (.istore 6, 2) := by decide +kernel
theorem dX6_summer_76 : decode cX6_summer 76 = .ok (.aload_n 0, 1) := by decide +kernel
theorem dX6_summer_77 : decode cX6_summer 77 = .ok (.getfield 29, 3) := by decide +kernel
theorem dX6_summer_80 : decode cX6_summer 80 = .ok (.getfield 149, 3) := by decide +kernel
theorem dX6_summer_83 : decode cX6_summer 83 = .ok (.iload_n 3, 1) := by decide +kernel
theorem dX6_summer_84 : decode cX6_summer 84 = .ok (.bipush 6, 2) := by decide +kernel
theorem dX6_summer_86 : decode cX6_summer 86 = .ok (.imul, 1) := by decide +kernel
theorem dX6_summer_87 : decode cX6_summer 87 = .ok (.iload 4, 2) := by decide +kernel
theorem dX6_summer_89 : decode cX6_summer 89 = .ok (.iadd, 1) := by decide +kernel
theorem dX6_summer_90 : decode cX6_summer 90 = .ok (.iload 6, 2) := by decide +kernel
theorem dX6_summer_92 : decode cX6_summer 92 = .ok (.iastore, 1) := by decide +kernel
theorem dX6_summer_93 : decode cX6_summer 93 = .ok (.iload_n 2, 1) := by decide +kernel
theorem dX6_summer_94 : decode cX6_summer 94 = .ok (.iload 6, 2) := by decide +kernel
theorem dX6_summer_96 : decode cX6_summer 96 = .ok (.iload 5, 2) := by decide +kernel
theorem dX6_summer_98 : decode cX6_summer 98 = .ok (.if_icmp .ge 7, 3) := by decide +kernel
theorem dX6_summer_101 : decode cX6_summer 101 = .ok (.iconst 1, 1) := by decide +kernel
theorem dX6_summer_102 : decode cX6_summer 102 = .ok (.goto 4, 3) := by decide +kernel
theorem dX6_summer_105 : decode cX6_summer 105 = .ok (.iconst 0, 1) := by decide +kernel
theorem dX6_summer_106 : decode cX6_summer 106 = .ok (.iadd, 1) := by decide +kernel
theorem dX6_summer_107 : decode cX6_summer 107 = .ok (.istore_n 2, 1) := by decide +kernel
theorem dX6_summer_108 : decode cX6_summer 108 = .ok (.iinc 4 1, 3) := by decide +kernel
theorem dX6_summer_111 : decode cX6_summer 111 = .ok (.goto (-80), 3) := by decide +kernel
theorem dX6_summer_114 : decode cX6_summer 114 = .ok (.iinc 3 1, 3) := by decide +kernel
theorem dX6_summer_117 : decode cX6_summer 117 = .ok (.goto (-100), 3) := by decide +kernel
theorem dX6_summer_120 : decode cX6_summer 120 = .ok (.iload_n 2, 1) := by decide +kernel
theorem dX6_summer_121 : decode cX6_summer 121 = .ok (.ireturn, 1) := by decide +kernel
theorem dX6_hours_0 : decode cX6_hours 0 = .ok (.aload_n 0, 1) := by decide +kernel
theorem dX6_hours_1 : decode cX6_hours 1 = .ok (.iload_n 1, 1) := by decide +kernel
theorem dX6_hours_2 : decode cX6_hours 2 = .ok (.invokevirtual 175, 3) := by decide +kernel
theorem dX6_hours_5 : decode cX6_hours 5 = .ok (.ifCond .eq 11, 3) := by decide +kernel
theorem dX6_hours_8 : decode cX6_hours 8 = .ok (.aload_n 0, 1) := by decide +kernel
theorem dX6_hours_9 : decode cX6_hours 9 = .ok (.iload_n 2, 1) := by decide +kernel
theorem dX6_hours_10 : decode cX6_hours 10 = .ok (.invokevirtual 143, 3) := by decide +kernel
theorem dX6_hours_13 : decode cX6_hours 13 = .ok (.ifCond .ne 6, 3) := by decide +kernel
theorem dX6_hours_16 : decode cX6_hours 16 = .ok (.ldc 126, 2) := by decide +kernel
theorem dX6_hours_18 : decode cX6_hours 18 = .ok (.ireturn, 1) := by decide +kernel
theorem dX6_hours_19 : decode cX6_hours 19 = .ok (.aload_n 0, 1) := by decide +kernel
theorem dX6_hours_20 : decode cX6_hours 20 = .ok (.getfield 19, 3) := by decide +kernel
theorem dX6_hours_23 : decode cX6_hours 23 = .ok (.getfield 106, 3) := by decide +kernel
theorem dX6_hours_26 : decode cX6_hours 26 = .ok (.iconst 1, 1) := by decide +kernel
theorem dX6_hours_27 : decode cX6_hours 27 = .ok (.if_icmp .ge 6, 3) := by decide +kernel
theorem dX6_hours_30 : decode cX6_hours 30 = .ok (.ldc 178, 2) := by decide +kernel
theorem dX6_hours_32 : decode cX6_hours 32 = .ok (.ireturn, 1) := by decide +kernel
theorem dX6_hours_33 : decode cX6_hours 33 = .ok (.aload_n 0, 1) := by decide +kernel
theorem dX6_hours_34 : decode cX6_hours 34 = .ok (.iload_n 2, 1) := by decide +kernel
theorem dX6_hours_35 : decode cX6_hours 35 = .ok (.invokevirtual 152, 3) := by decide +kernel
theorem dX6_hours_38 : decode cX6_hours 38 = .ok (.aload_n 0, 1) := by decide +kernel
theorem dX6_hours_39 : decode cX6_hours 39 = .ok (.getfield 29, 3) := by decide +kernel
theorem dX6_hours_42 : decode cX6_hours 42 = .ok (.getfield 119, 3) := by decide +kernel
theorem dX6_hours_45 : decode cX6_hours 45 = .ok (.istore_n 3, 1) := by decide +kernel
theorem dX6_hours_46 : decode cX6_hours 46 = .ok (.iconst 0, 1) := by decide +kernel
theorem dX6_hours_47 : decode cX6_hours 47 = .ok (.istore 4, 2) := by decide +kernel
theorem dX6_hours_49 : decode cX6_hours 49 = .ok (.iload 4, 2) := by decide +kernel
theorem dX6_hours_51 : decode cX6_hours 51 = .ok (.sipush 300, 3) := by decide +kernel
theorem dX6_hours_54 : decode cX6_hours 54 = .ok (.if_icmp .gt 56, 3) := by decide +kernel
theorem dX6_hours_57 : decode cX6_hours 57 = .ok (.aload_n 0, 1) := by decide +kernel
theorem dX6_hours_58 : decode cX6_hours 58 = .ok (.getfield 52, 3) := by decide +kernel
theorem dX6_hours_61 : decode cX6_hours 61 = .ok (.invokevirtual 199, 3) := by decide +kernel
theorem dX6_hours_64 : decode cX6_hours 64 = .ok (.aload_n 0, 1) := by decide +kernel
theorem dX6_hours_65 : decode cX6_hours 65 = .ok (.getfield 52, 3) := by decide +kernel
theorem dX6_hours_68 : decode cX6_hours 68 = .ok (.getfield 206, 3) := by decide +kernel
theorem dX6_hours_71 : decode cX6_hours 71 = .ok (.if_icmp .ne 6, 3) := by decide +kernel
theorem dX6_hours_74 : decode cX6_hours 74 = .ok (.iload 4, 2) := by decide +kernel
theorem dX6_hours_76 : decode cX6_hours 76 = .ok (.ireturn, 1) := by decide +kernel
theorem dX6_hours_77 : decode cX6_hours 77 = .ok (.aload_n 0, 1) := by decide +kernel
theorem dX6_hours_78 : decode cX6_hours 78 = .ok (.getfield 52, 3) := by decide +kernel
theorem dX6_hours_81 : decode cX6_hours 81 = .ok (.aload_n 0, 1) := by decide +kernel
theorem dX6_hours_82 : decode cX6_hours 82 = .ok (.getfield 52, 3) := by decide +kernel
theorem dX6_hours_85 : decode cX6_hours 85 = .ok (.iload_n 1, 1) := by decide +kernel
theorem dX6_hours_86 : decode cX6_hours 86 = .ok (.iload_n 3, 1) := by decide +kernel
theorem dX6_hours_87 : decode cX6_hours 87 = .ok (.invokevirtual 193, 3) := by decide +kernel
theorem dX6_hours_90 : decode cX6_hours 90 = .ok (.iconst 0, 1) := by decide +kernel
theorem dX6_hours_91 : decode cX6_hours 91 = .ok (.invokevirtual 158, 3) := by decide +kernel
theorem dX6_hours_94 : decode cX6_hours 94 = .ok (.pop, 1) := by decide +kernel
theorem dX6_hours_95 : decode cX6_hours 95 = .ok (.aload_n 0, 1) := by decide +kernel
theorem dX6_hours_96 : decode cX6_hours 96 = .ok (.getfield 52, 3) := by decide +kernel
theorem dX6_hours_99 : decode cX6_hours 99 = .ok (.iload_n 3, 1) := by decide +kernel
theorem dX6_hours_100 : decode cX6_hours 100 = .ok (.invokevirtual 196, 3) := by decide +kernel
theorem dX6_hours_103 : decode cX6_hours 103 = .ok (.istore_n 3, 1) := by decide +kernel
theorem dX6_hours_104 : decode cX6_hours 104 = .ok (.iinc 4 1, 3) := by decide +kernel
theorem dX6_hours_107 : decode cX6_hours 107 = .ok (.goto (-58), 3) := by decide +kernel
theorem dX6_hours_110 : decode cX6_hours 110 = .ok (.iconst (-1), 1) := by decide +kernel
theorem dX6_hours_111 : decode cX6_hours 111 = .ok (.ireturn, 1) := by decide +kernel
theorem dX6_fewest_0 : decode cX6_fewest 0 = .ok (.aload_n 0, 1) := by decide +kernel
theorem dX6_fewest_1 : decode cX6_fewest 1 = .ok (.iload_n 1, 1) := by decide +kernel
theorem dX6_fewest_2 : decode cX6_fewest 2 = .ok (.invokevirtual 143, 3) := by decide +kernel
theorem dX6_fewest_5 : decode cX6_fewest 5 = .ok (.ifCond .ne 6, 3) := by decide +kernel
theorem dX6_fewest_8 : decode cX6_fewest 8 = .ok (.ldc 126, 2) := by decide +kernel
theorem dX6_fewest_10 : decode cX6_fewest 10 = .ok (.ireturn, 1) := by decide +kernel
theorem dX6_fewest_11 : decode cX6_fewest 11 = .ok (.aload_n 0, 1) := by decide +kernel
theorem dX6_fewest_12 : decode cX6_fewest 12 = .ok (.getfield 19, 3) := by decide +kernel
theorem dX6_fewest_15 : decode cX6_fewest 15 = .ok (.getfield 106, 3) := by decide +kernel
theorem dX6_fewest_18 : decode cX6_fewest 18 = .ok (.iconst 4, 1) := by decide +kernel
theorem dX6_fewest_19 : decode cX6_fewest 19 = .ok (.if_icmp .le 6, 3) := by decide +kernel
theorem dX6_fewest_22 : decode cX6_fewest 22 = .ok (.ldc 178, 2) := by decide +kernel
theorem dX6_fewest_24 : decode cX6_fewest 24 = .ok (.ireturn, 1) := by decide +kernel
theorem dX6_fewest_25 : decode cX6_fewest 25 = .ok (.aload_n 0, 1) := by decide +kernel
theorem dX6_fewest_26 : decode cX6_fewest 26 = .ok (.aload_n 0, 1) := by decide +kernel
theorem dX6_fewest_27 : decode cX6_fewest 27 = .ok (.getfield 29, 3) := by decide +kernel
theorem dX6_fewest_30 : decode cX6_fewest 30 = .ok (.iload_n 1, 1) := by decide +kernel
theorem dX6_fewest_31 : decode cX6_fewest 31 = .ok (.aload_n 0, 1) := by decide +kernel
theorem dX6_fewest_32 : decode cX6_fewest 32 = .ok (.getfield 29, 3) := by decide +kernel
theorem dX6_fewest_35 : decode cX6_fewest 35 = .ok (.getfield 115, 3) := by decide +kernel
theorem dX6_fewest_38 : decode cX6_fewest 38 = .ok (.invokevirtual 209, 3) := by decide +kernel
theorem dX6_fewest_41 : decode cX6_fewest 41 = .ok (.ireturn, 1) := by decide +kernel
theorem dX6_row_0 : decode cX6_row 0 = .ok (.aload_n 0, 1) := by decide +kernel
theorem dX6_row_1 : decode cX6_row 1 = .ok (.iload_n 1, 1) := by decide +kernel
theorem dX6_row_2 : decode cX6_row 2 = .ok (.invokevirtual 213, 3) := by decide +kernel
theorem dX6_row_5 : decode cX6_row 5 = .ok (.istore_n 3, 1) := by decide +kernel
theorem dX6_row_6 : decode cX6_row 6 = .ok (.iload_n 3, 1) := by decide +kernel
theorem dX6_row_7 : decode cX6_row 7 = .ok (.iconst (-1), 1) := by decide +kernel
theorem dX6_row_8 : decode cX6_row 8 = .ok (.if_icmp .ge 5, 3) := by decide +kernel
theorem dX6_row_11 : decode cX6_row 11 = .ok (.iload_n 3, 1) := by decide +kernel
theorem dX6_row_12 : decode cX6_row 12 = .ok (.ireturn, 1) := by decide +kernel
theorem dX6_row_13 : decode cX6_row 13 = .ok (.iload_n 2, 1) := by decide +kernel
theorem dX6_row_14 : decode cX6_row 14 = .ok (.ifCond .lt 8, 3) := by decide +kernel
theorem dX6_row_17 : decode cX6_row 17 = .ok (.iload_n 2, 1) := by decide +kernel
theorem dX6_row_18 : decode cX6_row 18 = .ok (.iload_n 3, 1) := by decide +kernel
theorem dX6_row_19 : decode cX6_row 19 = .ok (.if_icmp .lt 5, 3) := by decide +kernel
theorem dX6_row_22 : decode cX6_row 22 = .ok (.iconst (-1), 1) := by decide +kernel
theorem dX6_row_23 : decode cX6_row 23 = .ok (.ireturn, 1) := by decide +kernel
theorem dX6_row_24 : decode cX6_row 24 = .ok (.aload_n 0, 1) := by decide +kernel
theorem dX6_row_25 : decode cX6_row 25 = .ok (.iload_n 1, 1) := by decide +kernel
theorem dX6_row_26 : decode cX6_row 26 = .ok (.invokevirtual 152, 3) := by decide +kernel
theorem dX6_row_29 : decode cX6_row 29 = .ok (.aload_n 0, 1) := by decide +kernel
theorem dX6_row_30 : decode cX6_row 30 = .ok (.aload_n 0, 1) := by decide +kernel
theorem dX6_row_31 : decode cX6_row 31 = .ok (.getfield 29, 3) := by decide +kernel
theorem dX6_row_34 : decode cX6_row 34 = .ok (.getfield 115, 3) := by decide +kernel
theorem dX6_row_37 : decode cX6_row 37 = .ok (.invokevirtual 216, 3) := by decide +kernel
theorem dX6_row_40 : decode cX6_row 40 = .ok (.aload_n 0, 1) := by decide +kernel
theorem dX6_row_41 : decode cX6_row 41 = .ok (.getfield 52, 3) := by decide +kernel
theorem dX6_row_44 : decode cX6_row 44 = .ok (.iload_n 2, 1) := by decide +kernel
theorem dX6_row_45 : decode cX6_row 45 = .ok (.invokevirtual 220, 3) := by decide +kernel
theorem dX6_row_48 : decode cX6_row 48 = .ok (.ireturn, 1) := by decide +kernel
theorem dX6_stuck_0 : decode cX6_stuck 0 = .ok (.aload_n 0, 1) := by decide +kernel
theorem dX6_stuck_1 : decode cX6_stuck 1 = .ok (.iload_n 1, 1) := by decide +kernel
theorem dX6_stuck_2 : decode cX6_stuck 2 = .ok (.invokevirtual 213, 3) := by decide +kernel
theorem dX6_stuck_5 : decode cX6_stuck 5 = .ok (.istore_n 2, 1) := by decide +kernel
theorem dX6_stuck_6 : decode cX6_stuck 6 = .ok (.iload_n 2, 1) := by decide +kernel
theorem dX6_stuck_7 : decode cX6_stuck 7 = .ok (.iconst (-1), 1) := by decide +kernel
theorem dX6_stuck_8 : decode cX6_stuck 8 = .ok (.if_icmp .ge 5, 3) := by decide +kernel
theorem dX6_stuck_11 : decode cX6_stuck 11 = .ok (.iload_n 2, 1) := by decide +kernel
theorem dX6_stuck_12 : decode cX6_stuck 12 = .ok (.ireturn, 1) := by decide +kernel
theorem dX6_stuck_13 : decode cX6_stuck 13 = .ok (.iload_n 2, 1) := by decide +kernel
theorem dX6_stuck_14 : decode cX6_stuck 14 = .ok (.iconst (-1), 1) := by decide +kernel
theorem dX6_stuck_15 : decode cX6_stuck 15 = .ok (.if_icmp .ne 7, 3) := by decide +kernel
theorem dX6_stuck_18 : decode cX6_stuck 18 = .ok (.iconst 1, 1) := by decide +kernel
theorem dX6_stuck_19 : decode cX6_stuck 19 = .ok (.goto 4, 3) := by decide +kernel
theorem dX6_stuck_22 : decode cX6_stuck 22 = .ok (.iconst 0, 1) := by decide +kernel
theorem dX6_stuck_23 : decode cX6_stuck 23 = .ok (.ireturn, 1) := by decide +kernel
theorem dX6_worth_0 : decode cX6_worth 0 = .ok (.aload_n 0, 1) := by decide +kernel
theorem dX6_worth_1 : decode cX6_worth 1 = .ok (.iload_n 1, 1) := by decide +kernel
theorem dX6_worth_2 : decode cX6_worth 2 = .ok (.invokevirtual 143, 3) := by decide +kernel
end
