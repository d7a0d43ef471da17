section
-- ===== PART A: goes FIRST, ahead of the names: the tables' words, and 'selects' of the private methods out of them =====
/-- a private method of a class that the tables say can be made, by its rows of tables_1 -/
def lw_okq (q : MethodName × Nat) : Prop := (q.1.cls ≠ "java/lang/invoke/MethodHandle" ∧ q.1.cls ≠ "java/lang/invoke/VarHandle") ∧ Cond.instantiable q.1.cls q.2 ∈ tables_1 ∧ Cond.privateMethod q.1 ∈ tables_1 ∧ Cond.instanceMethod q.1 ∈ tables_1
theorem lw_p0 : lw_okq (⟨"LeastTeaches$Reader", "advance", "()V"⟩, 8) := ⟨⟨by decide +kernel, by decide +kernel⟩, List.mem_of_getElem? (i := 25) (by decide +kernel), List.mem_of_getElem? (i := 289) (by decide +kernel), List.mem_of_getElem? (i := 290) (by decide +kernel)⟩
theorem lw_p1 : lw_okq (⟨"LeastTeaches$Reader", "kindAt", "(I)I"⟩, 8) := ⟨⟨by decide +kernel, by decide +kernel⟩, List.mem_of_getElem? (i := 25) (by decide +kernel), List.mem_of_getElem? (i := 293) (by decide +kernel), List.mem_of_getElem? (i := 294) (by decide +kernel)⟩
theorem lw_p2 : lw_okq (⟨"LeastTeaches$Reader", "isWord", "(Ljava/lang/String;)Z"⟩, 8) := ⟨⟨by decide +kernel, by decide +kernel⟩, List.mem_of_getElem? (i := 25) (by decide +kernel), List.mem_of_getElem? (i := 298) (by decide +kernel), List.mem_of_getElem? (i := 299) (by decide +kernel)⟩
theorem lw_p3 : lw_okq (⟨"LeastTeaches$Reader", "readThing", "()V"⟩, 8) := ⟨⟨by decide +kernel, by decide +kernel⟩, List.mem_of_getElem? (i := 25) (by decide +kernel), List.mem_of_getElem? (i := 350) (by decide +kernel), List.mem_of_getElem? (i := 351) (by decide +kernel)⟩
theorem lw_p4 : lw_okq (⟨"LeastTeaches$Reader", "refuse", "(II)V"⟩, 8) := ⟨⟨by decide +kernel, by decide +kernel⟩, List.mem_of_getElem? (i := 25) (by decide +kernel), List.mem_of_getElem? (i := 354) (by decide +kernel), List.mem_of_getElem? (i := 355) (by decide +kernel)⟩
theorem lw_p5 : lw_okq (⟨"LeastTeaches$Reader", "readLeaning", "()I"⟩, 8) := ⟨⟨by decide +kernel, by decide +kernel⟩, List.mem_of_getElem? (i := 25) (by decide +kernel), List.mem_of_getElem? (i := 359) (by decide +kernel), List.mem_of_getElem? (i := 360) (by decide +kernel)⟩
theorem lw_p6 : lw_okq (⟨"LeastTeaches$Reader", "takeNumber", "(II)I"⟩, 8) := ⟨⟨by decide +kernel, by decide +kernel⟩, List.mem_of_getElem? (i := 25) (by decide +kernel), List.mem_of_getElem? (i := 363) (by decide +kernel), List.mem_of_getElem? (i := 364) (by decide +kernel)⟩
theorem lw_p7 : lw_okq (⟨"LeastTeaches$Reader", "isSign", "(I)Z"⟩, 8) := ⟨⟨by decide +kernel, by decide +kernel⟩, List.mem_of_getElem? (i := 25) (by decide +kernel), List.mem_of_getElem? (i := 367) (by decide +kernel), List.mem_of_getElem? (i := 368) (by decide +kernel)⟩
theorem lw_p8 : lw_okq (⟨"LeastTeaches$Reader", "takeSign", "(I)V"⟩, 8) := ⟨⟨by decide +kernel, by decide +kernel⟩, List.mem_of_getElem? (i := 25) (by decide +kernel), List.mem_of_getElem? (i := 371) (by decide +kernel), List.mem_of_getElem? (i := 372) (by decide +kernel)⟩
theorem lw_p9 : lw_okq (⟨"LeastTeaches$Reader", "readPupil", "()V"⟩, 8) := ⟨⟨by decide +kernel, by decide +kernel⟩, List.mem_of_getElem? (i := 25) (by decide +kernel), List.mem_of_getElem? (i := 376) (by decide +kernel), List.mem_of_getElem? (i := 377) (by decide +kernel)⟩
theorem lw_p10 : lw_okq (⟨"LeastTeaches", "isPupil", "(I)Z"⟩, 16) := ⟨⟨by decide +kernel, by decide +kernel⟩, List.mem_of_getElem? (i := 17) (by decide +kernel), List.mem_of_getElem? (i := 403) (by decide +kernel), List.mem_of_getElem? (i := 404) (by decide +kernel)⟩
theorem lw_p11 : lw_okq (⟨"LeastTeaches", "knownThings", "(I)I"⟩, 16) := ⟨⟨by decide +kernel, by decide +kernel⟩, List.mem_of_getElem? (i := 17) (by decide +kernel), List.mem_of_getElem? (i := 408) (by decide +kernel), List.mem_of_getElem? (i := 409) (by decide +kernel)⟩
theorem lw_p12 : lw_okq (⟨"LeastTeaches", "allLevels", "(I)I"⟩, 16) := ⟨⟨by decide +kernel, by decide +kernel⟩, List.mem_of_getElem? (i := 17) (by decide +kernel), List.mem_of_getElem? (i := 412) (by decide +kernel), List.mem_of_getElem? (i := 413) (by decide +kernel)⟩
theorem lw_p13 : lw_okq (⟨"LeastTeaches", "isThing", "(I)Z"⟩, 16) := ⟨⟨by decide +kernel, by decide +kernel⟩, List.mem_of_getElem? (i := 17) (by decide +kernel), List.mem_of_getElem? (i := 420) (by decide +kernel), List.mem_of_getElem? (i := 421) (by decide +kernel)⟩
theorem lw_p14 : lw_okq (⟨"LeastTeaches", "sitAll", "(I)V"⟩, 16) := ⟨⟨by decide +kernel, by decide +kernel⟩, List.mem_of_getElem? (i := 17) (by decide +kernel), List.mem_of_getElem? (i := 432) (by decide +kernel), List.mem_of_getElem? (i := 433) (by decide +kernel)⟩
theorem lw_p15 : lw_okq (⟨"LeastTeaches$Bench", "comes", "(IZ)Z"⟩, 11) := ⟨⟨by decide +kernel, by decide +kernel⟩, List.mem_of_getElem? (i := 130) (by decide +kernel), List.mem_of_getElem? (i := 467) (by decide +kernel), List.mem_of_getElem? (i := 468) (by decide +kernel)⟩
def lw_privs_1 : List (MethodName × Nat) := [(⟨"LeastTeaches$Reader", "advance", "()V"⟩, 8), (⟨"LeastTeaches$Reader", "kindAt", "(I)I"⟩, 8), (⟨"LeastTeaches$Reader", "isWord", "(Ljava/lang/String;)Z"⟩, 8), (⟨"LeastTeaches$Reader", "readThing", "()V"⟩, 8), (⟨"LeastTeaches$Reader", "refuse", "(II)V"⟩, 8), (⟨"LeastTeaches$Reader", "readLeaning", "()I"⟩, 8), (⟨"LeastTeaches$Reader", "takeNumber", "(II)I"⟩, 8), (⟨"LeastTeaches$Reader", "isSign", "(I)Z"⟩, 8), (⟨"LeastTeaches$Reader", "takeSign", "(I)V"⟩, 8), (⟨"LeastTeaches$Reader", "readPupil", "()V"⟩, 8), (⟨"LeastTeaches", "isPupil", "(I)Z"⟩, 16), (⟨"LeastTeaches", "knownThings", "(I)I"⟩, 16), (⟨"LeastTeaches", "allLevels", "(I)I"⟩, 16), (⟨"LeastTeaches", "isThing", "(I)Z"⟩, 16), (⟨"LeastTeaches", "sitAll", "(I)V"⟩, 16), (⟨"LeastTeaches$Bench", "comes", "(IZ)Z"⟩, 11)]
theorem lw_r1 : ∀ q ∈ lw_privs_1, lw_okq q := List.forall_mem_cons.mpr ⟨lw_p0, List.forall_mem_cons.mpr ⟨lw_p1, List.forall_mem_cons.mpr ⟨lw_p2, List.forall_mem_cons.mpr ⟨lw_p3, List.forall_mem_cons.mpr ⟨lw_p4, List.forall_mem_cons.mpr ⟨lw_p5, List.forall_mem_cons.mpr ⟨lw_p6, List.forall_mem_cons.mpr ⟨lw_p7, List.forall_mem_cons.mpr ⟨lw_p8, List.forall_mem_cons.mpr ⟨lw_p9, List.forall_mem_cons.mpr ⟨lw_p10, List.forall_mem_cons.mpr ⟨lw_p11, List.forall_mem_cons.mpr ⟨lw_p12, List.forall_mem_cons.mpr ⟨lw_p13, List.forall_mem_cons.mpr ⟨lw_p14, List.forall_mem_cons.mpr ⟨lw_p15, fun _ h => absurd h List.not_mem_nil⟩⟩⟩⟩⟩⟩⟩⟩⟩⟩⟩⟩⟩⟩⟩⟩
theorem lw_p16 : lw_okq (⟨"LeastTeaches$Bench", "endShaken", "(IZ)I"⟩, 11) := ⟨⟨by decide +kernel, by decide +kernel⟩, List.mem_of_getElem? (i := 130) (by decide +kernel), List.mem_of_getElem? (i := 487) (by decide +kernel), List.mem_of_getElem? (i := 488) (by decide +kernel)⟩
theorem lw_p17 : lw_okq (⟨"LeastTeaches$Bench", "endAgreed", "(I)I"⟩, 11) := ⟨⟨by decide +kernel, by decide +kernel⟩, List.mem_of_getElem? (i := 130) (by decide +kernel), List.mem_of_getElem? (i := 491) (by decide +kernel), List.mem_of_getElem? (i := 492) (by decide +kernel)⟩
theorem lw_p18 : lw_okq (⟨"LeastTeaches$Bench", "rise", "(II)V"⟩, 11) := ⟨⟨by decide +kernel, by decide +kernel⟩, List.mem_of_getElem? (i := 130) (by decide +kernel), List.mem_of_getElem? (i := 495) (by decide +kernel), List.mem_of_getElem? (i := 496) (by decide +kernel)⟩
theorem lw_p19 : lw_okq (⟨"LeastTeaches$Bench", "endCorrected", "(I)I"⟩, 11) := ⟨⟨by decide +kernel, by decide +kernel⟩, List.mem_of_getElem? (i := 130) (by decide +kernel), List.mem_of_getElem? (i := 499) (by decide +kernel), List.mem_of_getElem? (i := 500) (by decide +kernel)⟩
theorem lw_p20 : lw_okq (⟨"LeastTeaches$Bench", "endMisled", "(IZ)I"⟩, 11) := ⟨⟨by decide +kernel, by decide +kernel⟩, List.mem_of_getElem? (i := 130) (by decide +kernel), List.mem_of_getElem? (i := 503) (by decide +kernel), List.mem_of_getElem? (i := 504) (by decide +kernel)⟩
theorem lw_p21 : lw_okq (⟨"LeastTeaches$Bench", "share", "(JII)J"⟩, 11) := ⟨⟨by decide +kernel, by decide +kernel⟩, List.mem_of_getElem? (i := 130) (by decide +kernel), List.mem_of_getElem? (i := 535) (by decide +kernel), List.mem_of_getElem? (i := 536) (by decide +kernel)⟩
theorem lw_p22 : lw_okq (⟨"LeastTeaches", "isRule", "(I)Z"⟩, 16) := ⟨⟨by decide +kernel, by decide +kernel⟩, List.mem_of_getElem? (i := 17) (by decide +kernel), List.mem_of_getElem? (i := 545) (by decide +kernel), List.mem_of_getElem? (i := 546) (by decide +kernel)⟩
theorem lw_p23 : lw_okq (⟨"LeastTeaches$Bench", "greatestBelow", "(I)I"⟩, 11) := ⟨⟨by decide +kernel, by decide +kernel⟩, List.mem_of_getElem? (i := 130) (by decide +kernel), List.mem_of_getElem? (i := 575) (by decide +kernel), List.mem_of_getElem? (i := 576) (by decide +kernel)⟩
theorem lw_p24 : lw_okq (⟨"LeastTeaches$Odds", "teach", "(LLeastTeaches$Bench;II)V"⟩, 6) := ⟨⟨by decide +kernel, by decide +kernel⟩, List.mem_of_getElem? (i := 181) (by decide +kernel), List.mem_of_getElem? (i := 579) (by decide +kernel), List.mem_of_getElem? (i := 580) (by decide +kernel)⟩
theorem lw_p25 : lw_okq (⟨"LeastTeaches$Odds", "partByNo", "(LLeastTeaches$Bench;IJZ)V"⟩, 6) := ⟨⟨by decide +kernel, by decide +kernel⟩, List.mem_of_getElem? (i := 181) (by decide +kernel), List.mem_of_getElem? (i := 585) (by decide +kernel), List.mem_of_getElem? (i := 586) (by decide +kernel)⟩
theorem lw_p26 : lw_okq (⟨"LeastTeaches$Odds", "begin", "(J)V"⟩, 6) := ⟨⟨by decide +kernel, by decide +kernel⟩, List.mem_of_getElem? (i := 181) (by decide +kernel), List.mem_of_getElem? (i := 589) (by decide +kernel), List.mem_of_getElem? (i := 590) (by decide +kernel)⟩
theorem lw_p27 : lw_okq (⟨"LeastTeaches$Odds", "split", "(II)V"⟩, 6) := ⟨⟨by decide +kernel, by decide +kernel⟩, List.mem_of_getElem? (i := 181) (by decide +kernel), List.mem_of_getElem? (i := 595) (by decide +kernel), List.mem_of_getElem? (i := 596) (by decide +kernel)⟩
theorem lw_p28 : lw_okq (⟨"LeastTeaches$Odds", "endRight", "(LLeastTeaches$Bench;II)V"⟩, 6) := ⟨⟨by decide +kernel, by decide +kernel⟩, List.mem_of_getElem? (i := 181) (by decide +kernel), List.mem_of_getElem? (i := 600) (by decide +kernel), List.mem_of_getElem? (i := 601) (by decide +kernel)⟩
theorem lw_p29 : lw_okq (⟨"LeastTeaches$Odds", "endWrong", "(LLeastTeaches$Bench;II)V"⟩, 6) := ⟨⟨by decide +kernel, by decide +kernel⟩, List.mem_of_getElem? (i := 181) (by decide +kernel), List.mem_of_getElem? (i := 605) (by decide +kernel), List.mem_of_getElem? (i := 606) (by decide +kernel)⟩
theorem lw_p30 : lw_okq (⟨"LeastTeaches$Odds", "endMisled", "(LLeastTeaches$Bench;II)V"⟩, 6) := ⟨⟨by decide +kernel, by decide +kernel⟩, List.mem_of_getElem? (i := 181) (by decide +kernel), List.mem_of_getElem? (i := 610) (by decide +kernel), List.mem_of_getElem? (i := 611) (by decide +kernel)⟩
theorem lw_p31 : lw_okq (⟨"LeastTeaches", "fewestOfAll", "(LLeastTeaches$Standing;IZ)I"⟩, 16) := ⟨⟨by decide +kernel, by decide +kernel⟩, List.mem_of_getElem? (i := 17) (by decide +kernel), List.mem_of_getElem? (i := 667) (by decide +kernel), List.mem_of_getElem? (i := 668) (by decide +kernel)⟩
def lw_privs_2 : List (MethodName × Nat) := [(⟨"LeastTeaches$Bench", "endShaken", "(IZ)I"⟩, 11), (⟨"LeastTeaches$Bench", "endAgreed", "(I)I"⟩, 11), (⟨"LeastTeaches$Bench", "rise", "(II)V"⟩, 11), (⟨"LeastTeaches$Bench", "endCorrected", "(I)I"⟩, 11), (⟨"LeastTeaches$Bench", "endMisled", "(IZ)I"⟩, 11), (⟨"LeastTeaches$Bench", "share", "(JII)J"⟩, 11), (⟨"LeastTeaches", "isRule", "(I)Z"⟩, 16), (⟨"LeastTeaches$Bench", "greatestBelow", "(I)I"⟩, 11), (⟨"LeastTeaches$Odds", "teach", "(LLeastTeaches$Bench;II)V"⟩, 6), (⟨"LeastTeaches$Odds", "partByNo", "(LLeastTeaches$Bench;IJZ)V"⟩, 6), (⟨"LeastTeaches$Odds", "begin", "(J)V"⟩, 6), (⟨"LeastTeaches$Odds", "split", "(II)V"⟩, 6), (⟨"LeastTeaches$Odds", "endRight", "(LLeastTeaches$Bench;II)V"⟩, 6), (⟨"LeastTeaches$Odds", "endWrong", "(LLeastTeaches$Bench;II)V"⟩, 6), (⟨"LeastTeaches$Odds", "endMisled", "(LLeastTeaches$Bench;II)V"⟩, 6), (⟨"LeastTeaches", "fewestOfAll", "(LLeastTeaches$Standing;IZ)I"⟩, 16)]
theorem lw_r2 : ∀ q ∈ lw_privs_2, lw_okq q := List.forall_mem_cons.mpr ⟨lw_p16, List.forall_mem_cons.mpr ⟨lw_p17, List.forall_mem_cons.mpr ⟨lw_p18, List.forall_mem_cons.mpr ⟨lw_p19, List.forall_mem_cons.mpr ⟨lw_p20, List.forall_mem_cons.mpr ⟨lw_p21, List.forall_mem_cons.mpr ⟨lw_p22, List.forall_mem_cons.mpr ⟨lw_p23, List.forall_mem_cons.mpr ⟨lw_p24, List.forall_mem_cons.mpr ⟨lw_p25, List.forall_mem_cons.mpr ⟨lw_p26, List.forall_mem_cons.mpr ⟨lw_p27, List.forall_mem_cons.mpr ⟨lw_p28, List.forall_mem_cons.mpr ⟨lw_p29, List.forall_mem_cons.mpr ⟨lw_p30, List.forall_mem_cons.mpr ⟨lw_p31, fun _ h => absurd h List.not_mem_nil⟩⟩⟩⟩⟩⟩⟩⟩⟩⟩⟩⟩⟩⟩⟩⟩
theorem lw_p32 : lw_okq (⟨"LeastTeaches", "searchFor", "(Z)LLeastTeaches$Search;"⟩, 16) := ⟨⟨by decide +kernel, by decide +kernel⟩, List.mem_of_getElem? (i := 17) (by decide +kernel), List.mem_of_getElem? (i := 675) (by decide +kernel), List.mem_of_getElem? (i := 676) (by decide +kernel)⟩
theorem lw_p33 : lw_okq (⟨"LeastTeaches$Search", "look", "(LLeastTeaches$Bench;II)I"⟩, 2) := ⟨⟨by decide +kernel, by decide +kernel⟩, List.mem_of_getElem? (i := 207) (by decide +kernel), List.mem_of_getElem? (i := 690) (by decide +kernel), List.mem_of_getElem? (i := 691) (by decide +kernel)⟩
theorem lw_p34 : lw_okq (⟨"LeastTeaches", "levelBehind", "(IIII)I"⟩, 16) := ⟨⟨by decide +kernel, by decide +kernel⟩, List.mem_of_getElem? (i := 17) (by decide +kernel), List.mem_of_getElem? (i := 721) (by decide +kernel), List.mem_of_getElem? (i := 722) (by decide +kernel)⟩
theorem lw_p35 : lw_okq (⟨"LeastTeaches", "findOrder", "()I"⟩, 16) := ⟨⟨by decide +kernel, by decide +kernel⟩, List.mem_of_getElem? (i := 17) (by decide +kernel), List.mem_of_getElem? (i := 730) (by decide +kernel), List.mem_of_getElem? (i := 731) (by decide +kernel)⟩
theorem lw_p36 : lw_okq (⟨"LeastTeaches", "leastOpen", "(I)I"⟩, 16) := ⟨⟨by decide +kernel, by decide +kernel⟩, List.mem_of_getElem? (i := 17) (by decide +kernel), List.mem_of_getElem? (i := 738) (by decide +kernel), List.mem_of_getElem? (i := 739) (by decide +kernel)⟩
theorem lw_p37 : lw_okq (⟨"LeastTeaches", "fewestOfPart", "(II)I"⟩, 16) := ⟨⟨by decide +kernel, by decide +kernel⟩, List.mem_of_getElem? (i := 17) (by decide +kernel), List.mem_of_getElem? (i := 746) (by decide +kernel), List.mem_of_getElem? (i := 747) (by decide +kernel)⟩
theorem lw_p38 : lw_okq (⟨"LeastTeaches", "imageOf", "(I)LLeastTeaches$Standing;"⟩, 16) := ⟨⟨by decide +kernel, by decide +kernel⟩, List.mem_of_getElem? (i := 17) (by decide +kernel), List.mem_of_getElem? (i := 771) (by decide +kernel), List.mem_of_getElem? (i := 772) (by decide +kernel)⟩
theorem lw_p39 : lw_okq (⟨"LeastTeachesModel", "here", "()I"⟩, 41) := ⟨⟨by decide +kernel, by decide +kernel⟩, List.mem_of_getElem? (i := 779) (by decide +kernel), List.mem_of_getElem? (i := 925) (by decide +kernel), List.mem_of_getElem? (i := 926) (by decide +kernel)⟩
theorem lw_p40 : lw_okq (⟨"LeastTeachesModel", "takeClause", "()I"⟩, 41) := ⟨⟨by decide +kernel, by decide +kernel⟩, List.mem_of_getElem? (i := 779) (by decide +kernel), List.mem_of_getElem? (i := 929) (by decide +kernel), List.mem_of_getElem? (i := 930) (by decide +kernel)⟩
theorem lw_p41 : lw_okq (⟨"LeastTeachesModel", "readWord", "()V"⟩, 41) := ⟨⟨by decide +kernel, by decide +kernel⟩, List.mem_of_getElem? (i := 779) (by decide +kernel), List.mem_of_getElem? (i := 933) (by decide +kernel), List.mem_of_getElem? (i := 934) (by decide +kernel)⟩
theorem lw_p42 : lw_okq (⟨"LeastTeachesModel", "fails", "(II)I"⟩, 41) := ⟨⟨by decide +kernel, by decide +kernel⟩, List.mem_of_getElem? (i := 779) (by decide +kernel), List.mem_of_getElem? (i := 946) (by decide +kernel), List.mem_of_getElem? (i := 947) (by decide +kernel)⟩
theorem lw_p43 : lw_okq (⟨"LeastTeachesModel", "takeThing", "()I"⟩, 41) := ⟨⟨by decide +kernel, by decide +kernel⟩, List.mem_of_getElem? (i := 779) (by decide +kernel), List.mem_of_getElem? (i := 950) (by decide +kernel), List.mem_of_getElem? (i := 951) (by decide +kernel)⟩
theorem lw_p44 : lw_okq (⟨"LeastTeachesModel", "takeNumber", "(II)I"⟩, 41) := ⟨⟨by decide +kernel, by decide +kernel⟩, List.mem_of_getElem? (i := 779) (by decide +kernel), List.mem_of_getElem? (i := 955) (by decide +kernel), List.mem_of_getElem? (i := 956) (by decide +kernel)⟩
theorem lw_p45 : lw_okq (⟨"LeastTeachesModel", "isComma", "()Z"⟩, 41) := ⟨⟨by decide +kernel, by decide +kernel⟩, List.mem_of_getElem? (i := 779) (by decide +kernel), List.mem_of_getElem? (i := 964) (by decide +kernel), List.mem_of_getElem? (i := 965) (by decide +kernel)⟩
theorem lw_p46 : lw_okq (⟨"LeastTeachesModel", "takePupil", "()I"⟩, 41) := ⟨⟨by decide +kernel, by decide +kernel⟩, List.mem_of_getElem? (i := 779) (by decide +kernel), List.mem_of_getElem? (i := 968) (by decide +kernel), List.mem_of_getElem? (i := 969) (by decide +kernel)⟩
theorem lw_p47 : lw_okq (⟨"LeastTeachesModel", "isPupil", "(I)Z"⟩, 41) := ⟨⟨by decide +kernel, by decide +kernel⟩, List.mem_of_getElem? (i := 779) (by decide +kernel), List.mem_of_getElem? (i := 984) (by decide +kernel), List.mem_of_getElem? (i := 985) (by decide +kernel)⟩
def lw_privs_3 : List (MethodName × Nat) := [(⟨"LeastTeaches", "searchFor", "(Z)LLeastTeaches$Search;"⟩, 16), (⟨"LeastTeaches$Search", "look", "(LLeastTeaches$Bench;II)I"⟩, 2), (⟨"LeastTeaches", "levelBehind", "(IIII)I"⟩, 16), (⟨"LeastTeaches", "findOrder", "()I"⟩, 16), (⟨"LeastTeaches", "leastOpen", "(I)I"⟩, 16), (⟨"LeastTeaches", "fewestOfPart", "(II)I"⟩, 16), (⟨"LeastTeaches", "imageOf", "(I)LLeastTeaches$Standing;"⟩, 16), (⟨"LeastTeachesModel", "here", "()I"⟩, 41), (⟨"LeastTeachesModel", "takeClause", "()I"⟩, 41), (⟨"LeastTeachesModel", "readWord", "()V"⟩, 41), (⟨"LeastTeachesModel", "fails", "(II)I"⟩, 41), (⟨"LeastTeachesModel", "takeThing", "()I"⟩, 41), (⟨"LeastTeachesModel", "takeNumber", "(II)I"⟩, 41), (⟨"LeastTeachesModel", "isComma", "()Z"⟩, 41), (⟨"LeastTeachesModel", "takePupil", "()I"⟩, 41), (⟨"LeastTeachesModel", "isPupil", "(I)Z"⟩, 41)]
theorem lw_r3 : ∀ q ∈ lw_privs_3, lw_okq q := List.forall_mem_cons.mpr ⟨lw_p32, List.forall_mem_cons.mpr ⟨lw_p33, List.forall_mem_cons.mpr ⟨lw_p34, List.forall_mem_cons.mpr ⟨lw_p35, List.forall_mem_cons.mpr ⟨lw_p36, List.forall_mem_cons.mpr ⟨lw_p37, List.forall_mem_cons.mpr ⟨lw_p38, List.forall_mem_cons.mpr ⟨lw_p39, List.forall_mem_cons.mpr ⟨lw_p40, List.forall_mem_cons.mpr ⟨lw_p41, List.forall_mem_cons.mpr ⟨lw_p42, List.forall_mem_cons.mpr ⟨lw_p43, List.forall_mem_cons.mpr ⟨lw_p44, List.forall_mem_cons.mpr ⟨lw_p45, List.forall_mem_cons.mpr ⟨lw_p46, List.forall_mem_cons.mpr ⟨lw_p47, fun _ h => absurd h List.not_mem_nil⟩⟩⟩⟩⟩⟩⟩⟩⟩⟩⟩⟩⟩⟩⟩⟩
theorem lw_p48 : lw_okq (⟨"LeastTeachesModel", "isThing", "(I)Z"⟩, 41) := ⟨⟨by decide +kernel, by decide +kernel⟩, List.mem_of_getElem? (i := 779) (by decide +kernel), List.mem_of_getElem? (i := 994) (by decide +kernel), List.mem_of_getElem? (i := 995) (by decide +kernel)⟩
theorem lw_p49 : lw_okq (⟨"LeastTeachesModel", "capOf", "(III)I"⟩, 41) := ⟨⟨by decide +kernel, by decide +kernel⟩, List.mem_of_getElem? (i := 779) (by decide +kernel), List.mem_of_getElem? (i := 1006) (by decide +kernel), List.mem_of_getElem? (i := 1007) (by decide +kernel)⟩
theorem lw_p50 : lw_okq (⟨"LeastTeachesModel", "take", "(II)V"⟩, 41) := ⟨⟨by decide +kernel, by decide +kernel⟩, List.mem_of_getElem? (i := 779) (by decide +kernel), List.mem_of_getElem? (i := 1018) (by decide +kernel), List.mem_of_getElem? (i := 1019) (by decide +kernel)⟩
theorem lw_p51 : lw_okq (⟨"LeastTeachesModel", "everybody", "()I"⟩, 41) := ⟨⟨by decide +kernel, by decide +kernel⟩, List.mem_of_getElem? (i := 779) (by decide +kernel), List.mem_of_getElem? (i := 1022) (by decide +kernel), List.mem_of_getElem? (i := 1023) (by decide +kernel)⟩
theorem lw_p52 : lw_okq (⟨"LeastTeachesModel", "teach", "(IIZZ)I"⟩, 41) := ⟨⟨by decide +kernel, by decide +kernel⟩, List.mem_of_getElem? (i := 779) (by decide +kernel), List.mem_of_getElem? (i := 1026) (by decide +kernel), List.mem_of_getElem? (i := 1027) (by decide +kernel)⟩
theorem lw_p53 : lw_okq (⟨"LeastTeachesModel", "isSo", "(IZ)Z"⟩, 41) := ⟨⟨by decide +kernel, by decide +kernel⟩, List.mem_of_getElem? (i := 779) (by decide +kernel), List.mem_of_getElem? (i := 1030) (by decide +kernel), List.mem_of_getElem? (i := 1031) (by decide +kernel)⟩
theorem lw_p54 : lw_okq (⟨"LeastTeachesModel", "draw", "(I)I"⟩, 41) := ⟨⟨by decide +kernel, by decide +kernel⟩, List.mem_of_getElem? (i := 779) (by decide +kernel), List.mem_of_getElem? (i := 1034) (by decide +kernel), List.mem_of_getElem? (i := 1035) (by decide +kernel)⟩
theorem lw_p55 : lw_okq (⟨"LeastTeachesModel", "rise", "(II)V"⟩, 41) := ⟨⟨by decide +kernel, by decide +kernel⟩, List.mem_of_getElem? (i := 779) (by decide +kernel), List.mem_of_getElem? (i := 1045) (by decide +kernel), List.mem_of_getElem? (i := 1046) (by decide +kernel)⟩
theorem lw_p56 : lw_okq (⟨"LeastTeachesModel", "believe", "(IIZ)V"⟩, 41) := ⟨⟨by decide +kernel, by decide +kernel⟩, List.mem_of_getElem? (i := 779) (by decide +kernel), List.mem_of_getElem? (i := 1049) (by decide +kernel), List.mem_of_getElem? (i := 1050) (by decide +kernel)⟩
theorem lw_p57 : lw_okq (⟨"LeastTeachesModel", "follow", "(II)V"⟩, 41) := ⟨⟨by decide +kernel, by decide +kernel⟩, List.mem_of_getElem? (i := 779) (by decide +kernel), List.mem_of_getElem? (i := 1054) (by decide +kernel), List.mem_of_getElem? (i := 1055) (by decide +kernel)⟩
theorem lw_p58 : lw_okq (⟨"LeastTeachesModel", "put", "(I)V"⟩, 41) := ⟨⟨by decide +kernel, by decide +kernel⟩, List.mem_of_getElem? (i := 779) (by decide +kernel), List.mem_of_getElem? (i := 1058) (by decide +kernel), List.mem_of_getElem? (i := 1059) (by decide +kernel)⟩
theorem lw_p59 : lw_okq (⟨"LeastTeachesModel", "noOdds", "(IIZ)I"⟩, 41) := ⟨⟨by decide +kernel, by decide +kernel⟩, List.mem_of_getElem? (i := 779) (by decide +kernel), List.mem_of_getElem? (i := 1067) (by decide +kernel), List.mem_of_getElem? (i := 1068) (by decide +kernel)⟩
theorem lw_p60 : lw_okq (⟨"LeastTeachesModel", "upBy", "(II)I"⟩, 41) := ⟨⟨by decide +kernel, by decide +kernel⟩, List.mem_of_getElem? (i := 779) (by decide +kernel), List.mem_of_getElem? (i := 1088) (by decide +kernel), List.mem_of_getElem? (i := 1089) (by decide +kernel)⟩
theorem lw_p61 : lw_okq (⟨"LeastTeachesModel", "leastOf", "(II)I"⟩, 41) := ⟨⟨by decide +kernel, by decide +kernel⟩, List.mem_of_getElem? (i := 779) (by decide +kernel), List.mem_of_getElem? (i := 1092) (by decide +kernel), List.mem_of_getElem? (i := 1093) (by decide +kernel)⟩
theorem lw_p62 : lw_okq (⟨"LeastTeachesModel", "greatestBelow", "()I"⟩, 41) := ⟨⟨by decide +kernel, by decide +kernel⟩, List.mem_of_getElem? (i := 779) (by decide +kernel), List.mem_of_getElem? (i := 1096) (by decide +kernel), List.mem_of_getElem? (i := 1097) (by decide +kernel)⟩
theorem lw_p63 : lw_okq (⟨"LeastTeachesModel", "knownNow", "()I"⟩, 41) := ⟨⟨by decide +kernel, by decide +kernel⟩, List.mem_of_getElem? (i := 779) (by decide +kernel), List.mem_of_getElem? (i := 1105) (by decide +kernel), List.mem_of_getElem? (i := 1106) (by decide +kernel)⟩
def lw_privs_4 : List (MethodName × Nat) := [(⟨"LeastTeachesModel", "isThing", "(I)Z"⟩, 41), (⟨"LeastTeachesModel", "capOf", "(III)I"⟩, 41), (⟨"LeastTeachesModel", "take", "(II)V"⟩, 41), (⟨"LeastTeachesModel", "everybody", "()I"⟩, 41), (⟨"LeastTeachesModel", "teach", "(IIZZ)I"⟩, 41), (⟨"LeastTeachesModel", "isSo", "(IZ)Z"⟩, 41), (⟨"LeastTeachesModel", "draw", "(I)I"⟩, 41), (⟨"LeastTeachesModel", "rise", "(II)V"⟩, 41), (⟨"LeastTeachesModel", "believe", "(IIZ)V"⟩, 41), (⟨"LeastTeachesModel", "follow", "(II)V"⟩, 41), (⟨"LeastTeachesModel", "put", "(I)V"⟩, 41), (⟨"LeastTeachesModel", "noOdds", "(IIZ)I"⟩, 41), (⟨"LeastTeachesModel", "upBy", "(II)I"⟩, 41), (⟨"LeastTeachesModel", "leastOf", "(II)I"⟩, 41), (⟨"LeastTeachesModel", "greatestBelow", "()I"⟩, 41), (⟨"LeastTeachesModel", "knownNow", "()I"⟩, 41)]
theorem lw_r4 : ∀ q ∈ lw_privs_4, lw_okq q := List.forall_mem_cons.mpr ⟨lw_p48, List.forall_mem_cons.mpr ⟨lw_p49, List.forall_mem_cons.mpr ⟨lw_p50, List.forall_mem_cons.mpr ⟨lw_p51, List.forall_mem_cons.mpr ⟨lw_p52, List.forall_mem_cons.mpr ⟨lw_p53, List.forall_mem_cons.mpr ⟨lw_p54, List.forall_mem_cons.mpr ⟨lw_p55, List.forall_mem_cons.mpr ⟨lw_p56, List.forall_mem_cons.mpr ⟨lw_p57, List.forall_mem_cons.mpr ⟨lw_p58, List.forall_mem_cons.mpr ⟨lw_p59, List.forall_mem_cons.mpr ⟨lw_p60, List.forall_mem_cons.mpr ⟨lw_p61, List.forall_mem_cons.mpr ⟨lw_p62, List.forall_mem_cons.mpr ⟨lw_p63, fun _ h => absurd h List.not_mem_nil⟩⟩⟩⟩⟩⟩⟩⟩⟩⟩⟩⟩⟩⟩⟩⟩
theorem lw_p64 : lw_okq (⟨"LeastTeachesModel", "tellNow", "()I"⟩, 41) := ⟨⟨by decide +kernel, by decide +kernel⟩, List.mem_of_getElem? (i := 779) (by decide +kernel), List.mem_of_getElem? (i := 1113) (by decide +kernel), List.mem_of_getElem? (i := 1114) (by decide +kernel)⟩
theorem lw_p65 : lw_okq (⟨"LeastTeachesModel", "isSmall", "()Z"⟩, 41) := ⟨⟨by decide +kernel, by decide +kernel⟩, List.mem_of_getElem? (i := 779) (by decide +kernel), List.mem_of_getElem? (i := 1130) (by decide +kernel), List.mem_of_getElem? (i := 1131) (by decide +kernel)⟩
theorem lw_p66 : lw_okq (⟨"LeastTeachesModel", "fewestOf", "(IIZ)I"⟩, 41) := ⟨⟨by decide +kernel, by decide +kernel⟩, List.mem_of_getElem? (i := 779) (by decide +kernel), List.mem_of_getElem? (i := 1134) (by decide +kernel), List.mem_of_getElem? (i := 1135) (by decide +kernel)⟩
theorem lw_p67 : lw_okq (⟨"LeastTeachesModel", "spread", "(IZ)I"⟩, 41) := ⟨⟨by decide +kernel, by decide +kernel⟩, List.mem_of_getElem? (i := 779) (by decide +kernel), List.mem_of_getElem? (i := 1138) (by decide +kernel), List.mem_of_getElem? (i := 1139) (by decide +kernel)⟩
theorem lw_p68 : lw_okq (⟨"LeastTeachesModel", "goal", "(I)I"⟩, 41) := ⟨⟨by decide +kernel, by decide +kernel⟩, List.mem_of_getElem? (i := 779) (by decide +kernel), List.mem_of_getElem? (i := 1142) (by decide +kernel), List.mem_of_getElem? (i := 1143) (by decide +kernel)⟩
theorem lw_p69 : lw_okq (⟨"LeastTeachesModel", "stateNow", "(I)I"⟩, 41) := ⟨⟨by decide +kernel, by decide +kernel⟩, List.mem_of_getElem? (i := 779) (by decide +kernel), List.mem_of_getElem? (i := 1149) (by decide +kernel), List.mem_of_getElem? (i := 1150) (by decide +kernel)⟩
theorem lw_p70 : lw_okq (⟨"LeastTeachesModel", "next", "(IZII)I"⟩, 41) := ⟨⟨by decide +kernel, by decide +kernel⟩, List.mem_of_getElem? (i := 779) (by decide +kernel), List.mem_of_getElem? (i := 1153) (by decide +kernel), List.mem_of_getElem? (i := 1154) (by decide +kernel)⟩
theorem lw_p71 : lw_okq (⟨"LeastTeachesModel", "setState", "(II)V"⟩, 41) := ⟨⟨by decide +kernel, by decide +kernel⟩, List.mem_of_getElem? (i := 779) (by decide +kernel), List.mem_of_getElem? (i := 1157) (by decide +kernel), List.mem_of_getElem? (i := 1158) (by decide +kernel)⟩
theorem lw_p72 : lw_okq (⟨"LeastTeachesModel", "levelBehind", "(IIII)I"⟩, 41) := ⟨⟨by decide +kernel, by decide +kernel⟩, List.mem_of_getElem? (i := 779) (by decide +kernel), List.mem_of_getElem? (i := 1181) (by decide +kernel), List.mem_of_getElem? (i := 1182) (by decide +kernel)⟩
theorem lw_p73 : lw_okq (⟨"LeastTeachesModel", "findOrder", "()V"⟩, 41) := ⟨⟨by decide +kernel, by decide +kernel⟩, List.mem_of_getElem? (i := 779) (by decide +kernel), List.mem_of_getElem? (i := 1189) (by decide +kernel), List.mem_of_getElem? (i := 1190) (by decide +kernel)⟩
theorem lw_p74 : lw_okq (⟨"LeastTeachesModel", "findOdds", "(III)V"⟩, 41) := ⟨⟨by decide +kernel, by decide +kernel⟩, List.mem_of_getElem? (i := 779) (by decide +kernel), List.mem_of_getElem? (i := 1202) (by decide +kernel), List.mem_of_getElem? (i := 1203) (by decide +kernel)⟩
theorem lw_p75 : lw_okq (⟨"LeastTeachesModel", "partAll", "(II)V"⟩, 41) := ⟨⟨by decide +kernel, by decide +kernel⟩, List.mem_of_getElem? (i := 779) (by decide +kernel), List.mem_of_getElem? (i := 1207) (by decide +kernel), List.mem_of_getElem? (i := 1208) (by decide +kernel)⟩
theorem lw_p76 : lw_okq (⟨"LeastTeachesModel", "partRight", "(IZJ)V"⟩, 41) := ⟨⟨by decide +kernel, by decide +kernel⟩, List.mem_of_getElem? (i := 779) (by decide +kernel), List.mem_of_getElem? (i := 1211) (by decide +kernel), List.mem_of_getElem? (i := 1212) (by decide +kernel)⟩
theorem lw_p77 : lw_okq (⟨"LeastTeachesModel", "listSurer", "(I)V"⟩, 41) := ⟨⟨by decide +kernel, by decide +kernel⟩, List.mem_of_getElem? (i := 779) (by decide +kernel), List.mem_of_getElem? (i := 1215) (by decide +kernel), List.mem_of_getElem? (i := 1216) (by decide +kernel)⟩
theorem lw_p78 : lw_okq (⟨"LeastTeachesModel", "chanceOf", "(IZ)I"⟩, 41) := ⟨⟨by decide +kernel, by decide +kernel⟩, List.mem_of_getElem? (i := 779) (by decide +kernel), List.mem_of_getElem? (i := 1219) (by decide +kernel), List.mem_of_getElem? (i := 1220) (by decide +kernel)⟩
theorem lw_p79 : lw_okq (⟨"LeastTeachesModel", "partNo", "(IZIJ)V"⟩, 41) := ⟨⟨by decide +kernel, by decide +kernel⟩, List.mem_of_getElem? (i := 779) (by decide +kernel), List.mem_of_getElem? (i := 1223) (by decide +kernel), List.mem_of_getElem? (i := 1224) (by decide +kernel)⟩
def lw_privs_5 : List (MethodName × Nat) := [(⟨"LeastTeachesModel", "tellNow", "()I"⟩, 41), (⟨"LeastTeachesModel", "isSmall", "()Z"⟩, 41), (⟨"LeastTeachesModel", "fewestOf", "(IIZ)I"⟩, 41), (⟨"LeastTeachesModel", "spread", "(IZ)I"⟩, 41), (⟨"LeastTeachesModel", "goal", "(I)I"⟩, 41), (⟨"LeastTeachesModel", "stateNow", "(I)I"⟩, 41), (⟨"LeastTeachesModel", "next", "(IZII)I"⟩, 41), (⟨"LeastTeachesModel", "setState", "(II)V"⟩, 41), (⟨"LeastTeachesModel", "levelBehind", "(IIII)I"⟩, 41), (⟨"LeastTeachesModel", "findOrder", "()V"⟩, 41), (⟨"LeastTeachesModel", "findOdds", "(III)V"⟩, 41), (⟨"LeastTeachesModel", "partAll", "(II)V"⟩, 41), (⟨"LeastTeachesModel", "partRight", "(IZJ)V"⟩, 41), (⟨"LeastTeachesModel", "listSurer", "(I)V"⟩, 41), (⟨"LeastTeachesModel", "chanceOf", "(IZ)I"⟩, 41), (⟨"LeastTeachesModel", "partNo", "(IZIJ)V"⟩, 41)]
theorem lw_r5 : ∀ q ∈ lw_privs_5, lw_okq q := List.forall_mem_cons.mpr ⟨lw_p64, List.forall_mem_cons.mpr ⟨lw_p65, List.forall_mem_cons.mpr ⟨lw_p66, List.forall_mem_cons.mpr ⟨lw_p67, List.forall_mem_cons.mpr ⟨lw_p68, List.forall_mem_cons.mpr ⟨lw_p69, List.forall_mem_cons.mpr ⟨lw_p70, List.forall_mem_cons.mpr ⟨lw_p71, List.forall_mem_cons.mpr ⟨lw_p72, List.forall_mem_cons.mpr ⟨lw_p73, List.forall_mem_cons.mpr ⟨lw_p74, List.forall_mem_cons.mpr ⟨lw_p75, List.forall_mem_cons.mpr ⟨lw_p76, List.forall_mem_cons.mpr ⟨lw_p77, List.forall_mem_cons.mpr ⟨lw_p78, List.forall_mem_cons.mpr ⟨lw_p79, fun _ h => absurd h List.not_mem_nil⟩⟩⟩⟩⟩⟩⟩⟩⟩⟩⟩⟩⟩⟩⟩⟩
theorem lw_p80 : lw_okq (⟨"LeastTeachesModel", "asNow", "()V"⟩, 41) := ⟨⟨by decide +kernel, by decide +kernel⟩, List.mem_of_getElem? (i := 779) (by decide +kernel), List.mem_of_getElem? (i := 1227) (by decide +kernel), List.mem_of_getElem? (i := 1228) (by decide +kernel)⟩
theorem lw_p81 : lw_okq (⟨"LeastTeachesModel", "come", "(J)V"⟩, 41) := ⟨⟨by decide +kernel, by decide +kernel⟩, List.mem_of_getElem? (i := 779) (by decide +kernel), List.mem_of_getElem? (i := 1231) (by decide +kernel), List.mem_of_getElem? (i := 1232) (by decide +kernel)⟩
theorem lw_p82 : lw_okq (⟨"LeastTeachesModel", "partBelief", "(IJ)V"⟩, 41) := ⟨⟨by decide +kernel, by decide +kernel⟩, List.mem_of_getElem? (i := 779) (by decide +kernel), List.mem_of_getElem? (i := 1235) (by decide +kernel), List.mem_of_getElem? (i := 1236) (by decide +kernel)⟩
theorem lw_p83 : lw_okq (⟨"LeastTeachesModel", "firstWrong", "()I"⟩, 41) := ⟨⟨by decide +kernel, by decide +kernel⟩, List.mem_of_getElem? (i := 779) (by decide +kernel), List.mem_of_getElem? (i := 1251) (by decide +kernel), List.mem_of_getElem? (i := 1252) (by decide +kernel)⟩
def lw_privs_6 : List (MethodName × Nat) := [(⟨"LeastTeachesModel", "asNow", "()V"⟩, 41), (⟨"LeastTeachesModel", "come", "(J)V"⟩, 41), (⟨"LeastTeachesModel", "partBelief", "(IJ)V"⟩, 41), (⟨"LeastTeachesModel", "firstWrong", "()I"⟩, 41)]
theorem lw_r6 : ∀ q ∈ lw_privs_6, lw_okq q := List.forall_mem_cons.mpr ⟨lw_p80, List.forall_mem_cons.mpr ⟨lw_p81, List.forall_mem_cons.mpr ⟨lw_p82, List.forall_mem_cons.mpr ⟨lw_p83, fun _ h => absurd h List.not_mem_nil⟩⟩⟩⟩
def lw_privs : List (MethodName × Nat) := lw_privs_1 ++ (lw_privs_2 ++ (lw_privs_3 ++ (lw_privs_4 ++ (lw_privs_5 ++ (lw_privs_6)))))
def lw_tbl : List Cond := k2_sels lw_privs ++ tables_1
theorem lw_privs_ok : ∀ q ∈ lw_privs, lw_okq q := by
  show ∀ q ∈ lw_privs_1 ++ (lw_privs_2 ++ (lw_privs_3 ++ (lw_privs_4 ++ (lw_privs_5 ++ (lw_privs_6))))), lw_okq q
  exact List.forall_mem_append.mpr ⟨lw_r1, List.forall_mem_append.mpr ⟨lw_r2, List.forall_mem_append.mpr ⟨lw_r3, List.forall_mem_append.mpr ⟨lw_r4, List.forall_mem_append.mpr ⟨lw_r5, lw_r6⟩⟩⟩⟩⟩
-- ===== end of PART A; then your names; then what follows =====
end
section
def RX0 : String := "LeastTeaches$Bench"
def TX0 : u_T := fun k => match k with
  | 0 => ("LeastTeaches$Bench", "size", "I", false)
  | 1 => ("LeastTeaches$Bench", "set", "I", false)
  | 2 => ("LeastTeaches$Bench", "visited", "Z", false)
  | 3 => ("LeastTeaches$Bench", "drawnFrom", "I", false)
  | 4 => ("LeastTeaches$Bench", "who", "[I", true)
  | 5 => ("LeastTeaches$Bench", "at", "[I", true)
  | 6 => ("LeastTeaches$Bench", "top", "[I", true)
  | 7 => ("LeastTeaches$Bench", "quick", "[I", true)
  | 8 => ("LeastTeaches$Bench", "belief", "[I", true)
  | 9 => ("LeastTeaches$Bench", "pride", "[I", true)
  | _ => ("LeastTeaches$Bench", "saidNo", "[Z", true)
def tyX0 : Nat → FieldType := fun k => match k with
  | 0 => .int
  | 1 => .int
  | 2 => .boolean
  | 3 => .int
  | 4 => .array .int
  | 5 => .array .int
  | 6 => .array .int
  | 7 => .array .int
  | 8 => .array .int
  | 9 => .array .int
  | _ => .array .boolean
abbrev wsX00 : List Cond := u_ws RX0 TX0 11
theorem nmX0 : ∀ a, a < 11 → ∀ b, b < 11 → a ≠ b → (TX0 a).2.1 ≠ (TX0 b).2.1 := by decide +kernel
theorem tyX0_ok : ∀ k, k < 11 → parseFieldDescriptor (TX0 k).2.2.1 = some (tyX0 k) := by decide +kernel
abbrev cX0_init : ByteArray := prog_2_method_1_code
def yX0_init : MethodName := ⟨RX0, "<init>", "()V"⟩
abbrev cX0_sit : ByteArray := prog_2_method_2_code
def yX0_sit : MethodName := ⟨RX0, "sit", "(LLeastTeaches$School;LLeastTeaches$Standing;II)V"⟩
abbrev cX0_leave : ByteArray := prog_2_method_3_code
def yX0_leave : MethodName := ⟨RX0, "leave", "(LLeastTeaches$Standing;I)V"⟩
abbrev cX0_code : ByteArray := prog_2_method_4_code
def yX0_code : MethodName := ⟨RX0, "code", "()I"⟩
abbrev cX0_setLevels : ByteArray := prog_2_method_5_code
def yX0_setLevels : MethodName := ⟨RX0, "setLevels", "(I)V"⟩
abbrev cX0_room : ByteArray := prog_2_method_6_code
def yX0_room : MethodName := ⟨RX0, "room", "(I)I"⟩
abbrev cX0_rise : ByteArray := prog_2_method_7_code
def yX0_rise : MethodName := ⟨RX0, "rise", "(II)V"⟩
abbrev cX0_knowing : ByteArray := prog_2_method_8_code
def yX0_knowing : MethodName := ⟨RX0, "knowing", "()I"⟩
abbrev cX0_isBarred : ByteArray := prog_2_method_9_code
def yX0_isBarred : MethodName := ⟨RX0, "isBarred", "()Z"⟩
abbrev cX0_after : ByteArray := prog_2_method_10_code
def yX0_after : MethodName := ⟨RX0, "after", "(I)I"⟩
abbrev cX0_chosen : ByteArray := prog_2_method_11_code
def yX0_chosen : MethodName := ⟨RX0, "chosen", "(II)I"⟩
abbrev cX0_least : ByteArray := prog_2_method_12_code
def yX0_least : MethodName := ⟨RX0, "least", "(II)I"⟩
abbrev cX0_greatestBelow : ByteArray := prog_2_method_13_code
def yX0_greatestBelow : MethodName := ⟨RX0, "greatestBelow", "(I)I"⟩
abbrev cX0_tell : ByteArray := prog_2_method_14_code
def yX0_tell : MethodName := ⟨RX0, "tell", "()I"⟩
abbrev cX0_rightChance : ByteArray := prog_2_method_15_code
def yX0_rightChance : MethodName := ⟨RX0, "rightChance", "(I)I"⟩
abbrev cX0_isSurer : ByteArray := prog_2_method_16_code
def yX0_isSurer : MethodName := ⟨RX0, "isSurer", "(II)Z"⟩
abbrev cX0_isGuestSurer : ByteArray := prog_2_method_17_code
def yX0_isGuestSurer : MethodName := ⟨RX0, "isGuestSurer", "(I)Z"⟩
abbrev cX0_noChance : ByteArray := prog_2_method_18_code
def yX0_noChance : MethodName := ⟨RX0, "noChance", "(IZ)I"⟩
abbrev cX0_mayBelieve : ByteArray := prog_2_method_19_code
def yX0_mayBelieve : MethodName := ⟨RX0, "mayBelieve", "(II)Z"⟩
abbrev cX0_comes : ByteArray := prog_2_method_20_code
def yX0_comes : MethodName := ⟨RX0, "comes", "(IZ)Z"⟩
abbrev cX0_hold : ByteArray := prog_2_method_21_code
def yX0_hold : MethodName := ⟨RX0, "hold", "(IZ)I"⟩
abbrev cX0_endCorrected : ByteArray := prog_2_method_22_code
def yX0_endCorrected : MethodName := ⟨RX0, "endCorrected", "(I)I"⟩
abbrev cX0_endMisled : ByteArray := prog_2_method_23_code
def yX0_endMisled : MethodName := ⟨RX0, "endMisled", "(IZ)I"⟩
abbrev cX0_endShaken : ByteArray := prog_2_method_24_code
def yX0_endShaken : MethodName := ⟨RX0, "endShaken", "(IZ)I"⟩
abbrev cX0_endAgreed : ByteArray := prog_2_method_25_code
def yX0_endAgreed : MethodName := ⟨RX0, "endAgreed", "(I)I"⟩
abbrev cX0_someNo : ByteArray := prog_2_method_26_code
def yX0_someNo : MethodName := ⟨RX0, "someNo", "(IZ)I"⟩
abbrev cX0_mean : ByteArray := prog_2_method_27_code
def yX0_mean : MethodName := ⟨RX0, "mean", "(I)I"⟩
abbrev cX0_share : ByteArray := prog_2_method_28_code
def yX0_share : MethodName := ⟨RX0, "share", "(JII)J"⟩
def RX1 : String := "LeastTeaches$Odds"
def TX1 : u_T := fun k => match k with
  | 0 => ("LeastTeaches$Odds", "here", "[J", false)
  | 1 => ("LeastTeaches$Odds", "next", "[J", false)
  | 2 => ("LeastTeaches$Odds", "parts", "[J", true)
  | 3 => ("LeastTeaches$Odds", "partCount", "I", false)
  | 4 => ("LeastTeaches$Odds", "splitBy", "[I", true)
  | _ => ("LeastTeaches$Odds", "splits", "I", false)
def tyX1 : Nat → FieldType := fun k => match k with
  | 0 => .array .long
  | 1 => .array .long
  | 2 => .array .long
  | 3 => .int
  | 4 => .array .int
  | _ => .int
abbrev wsX10 : List Cond := u_ws RX1 TX1 6
theorem nmX1 : ∀ a, a < 6 → ∀ b, b < 6 → a ≠ b → (TX1 a).2.1 ≠ (TX1 b).2.1 := by decide +kernel
theorem tyX1_ok : ∀ k, k < 6 → parseFieldDescriptor (TX1 k).2.2.1 = some (tyX1 k) := by decide +kernel
abbrev cX1_init : ByteArray := prog_3_method_1_code
def yX1_init : MethodName := ⟨RX1, "<init>", "()V"⟩
abbrev cX1_follow : ByteArray := prog_3_method_2_code
def yX1_follow : MethodName := ⟨RX1, "follow", "(LLeastTeaches$Bench;III)V"⟩
abbrev cX1_teach : ByteArray := prog_3_method_3_code
def yX1_teach : MethodName := ⟨RX1, "teach", "(LLeastTeaches$Bench;II)V"⟩
abbrev cX1_begin : ByteArray := prog_3_method_4_code
def yX1_begin : MethodName := ⟨RX1, "begin", "(J)V"⟩
abbrev cX1_split : ByteArray := prog_3_method_5_code
def yX1_split : MethodName := ⟨RX1, "split", "(II)V"⟩
abbrev cX1_partByNo : ByteArray := prog_3_method_6_code
def yX1_partByNo : MethodName := ⟨RX1, "partByNo", "(LLeastTeaches$Bench;IJZ)V"⟩
abbrev cX1_endRight : ByteArray := prog_3_method_7_code
def yX1_endRight : MethodName := ⟨RX1, "endRight", "(LLeastTeaches$Bench;II)V"⟩
abbrev cX1_endWrong : ByteArray := prog_3_method_8_code
def yX1_endWrong : MethodName := ⟨RX1, "endWrong", "(LLeastTeaches$Bench;II)V"⟩
abbrev cX1_endMisled : ByteArray := prog_3_method_9_code
def yX1_endMisled : MethodName := ⟨RX1, "endMisled", "(LLeastTeaches$Bench;II)V"⟩
abbrev cX1_thatAllKnow : ByteArray := prog_3_method_10_code
def yX1_thatAllKnow : MethodName := ⟨RX1, "thatAllKnow", "(I)I"⟩
abbrev cX1_thatNobodyKnows : ByteArray := prog_3_method_11_code
def yX1_thatNobodyKnows : MethodName := ⟨RX1, "thatNobodyKnows", "(I)I"⟩
abbrev cX1_meanLevel : ByteArray := prog_3_method_12_code
def yX1_meanLevel : MethodName := ⟨RX1, "meanLevel", "(II)I"⟩
def RX2 : String := "LeastTeaches$Reader"
def TX2 : u_T := fun k => match k with
  | 0 => ("LeastTeaches$Reader", "text", "[B", true)
  | 1 => ("LeastTeaches$Reader", "length", "I", false)
  | 2 => ("LeastTeaches$Reader", "faultAt", "I", false)
  | 3 => ("LeastTeaches$Reader", "faultNumber", "I", false)
  | 4 => ("LeastTeaches$Reader", "school", "LLeastTeaches$School;", false)
  | 5 => ("LeastTeaches$Reader", "place", "I", false)
  | 6 => ("LeastTeaches$Reader", "start", "I", false)
  | _ => ("LeastTeaches$Reader", "kind", "I", false)
def tyX2 : Nat → FieldType := fun k => match k with
  | 0 => .array .byte
  | 1 => .int
  | 2 => .int
  | 3 => .int
  | 4 => .object "LeastTeaches$School"
  | 5 => .int
  | 6 => .int
  | _ => .int
abbrev wsX20 : List Cond := u_ws RX2 TX2 8
theorem nmX2 : ∀ a, a < 8 → ∀ b, b < 8 → a ≠ b → (TX2 a).2.1 ≠ (TX2 b).2.1 := by decide +kernel
theorem tyX2_ok : ∀ k, k < 8 → parseFieldDescriptor (TX2 k).2.2.1 = some (tyX2 k) := by decide +kernel
abbrev cX2_init : ByteArray := prog_4_method_1_code
def yX2_init : MethodName := ⟨RX2, "<init>", "()V"⟩
abbrev cX2_add : ByteArray := prog_4_method_2_code
def yX2_add : MethodName := ⟨RX2, "add", "(I)V"⟩
abbrev cX2_read : ByteArray := prog_4_method_3_code
def yX2_read : MethodName := ⟨RX2, "read", "(LLeastTeaches$School;)I"⟩
abbrev cX2_readThing : ByteArray := prog_4_method_4_code
def yX2_readThing : MethodName := ⟨RX2, "readThing", "()V"⟩
abbrev cX2_readLeaning : ByteArray := prog_4_method_5_code
def yX2_readLeaning : MethodName := ⟨RX2, "readLeaning", "()I"⟩
abbrev cX2_readPupil : ByteArray := prog_4_method_6_code
def yX2_readPupil : MethodName := ⟨RX2, "readPupil", "()V"⟩
abbrev cX2_takeNumber : ByteArray := prog_4_method_7_code
def yX2_takeNumber : MethodName := ⟨RX2, "takeNumber", "(II)I"⟩
abbrev cX2_takeSign : ByteArray := prog_4_method_8_code
def yX2_takeSign : MethodName := ⟨RX2, "takeSign", "(I)V"⟩
abbrev cX2_isSign : ByteArray := prog_4_method_9_code
def yX2_isSign : MethodName := ⟨RX2, "isSign", "(I)Z"⟩
abbrev cX2_isWord : ByteArray := prog_4_method_10_code
def yX2_isWord : MethodName := ⟨RX2, "isWord", "(Ljava/lang/String;)Z"⟩
abbrev cX2_refuse : ByteArray := prog_4_method_11_code
def yX2_refuse : MethodName := ⟨RX2, "refuse", "(II)V"⟩
abbrev cX2_advance : ByteArray := prog_4_method_12_code
def yX2_advance : MethodName := ⟨RX2, "advance", "()V"⟩
abbrev cX2_kindAt : ByteArray := prog_4_method_13_code
def yX2_kindAt : MethodName := ⟨RX2, "kindAt", "(I)I"⟩
def RX3 : String := "LeastTeaches$School"
def TX3 : u_T := fun k => match k with
  | 0 => ("LeastTeaches$School", "things", "I", false)
  | 1 => ("LeastTeaches$School", "pupils", "I", false)
  | 2 => ("LeastTeaches$School", "leaning", "[I", true)
  | 3 => ("LeastTeaches$School", "quick", "[I", true)
  | 4 => ("LeastTeaches$School", "belief", "[I", true)
  | 5 => ("LeastTeaches$School", "pride", "[I", true)
  | _ => ("LeastTeaches$School", "first", "[I", true)
def tyX3 : Nat → FieldType := fun k => match k with
  | 0 => .int
  | 1 => .int
  | 2 => .array .int
  | 3 => .array .int
  | 4 => .array .int
  | 5 => .array .int
  | _ => .array .int
abbrev wsX30 : List Cond := u_ws RX3 TX3 7
theorem nmX3 : ∀ a, a < 7 → ∀ b, b < 7 → a ≠ b → (TX3 a).2.1 ≠ (TX3 b).2.1 := by decide +kernel
theorem tyX3_ok : ∀ k, k < 7 → parseFieldDescriptor (TX3 k).2.2.1 = some (tyX3 k) := by decide +kernel
abbrev cX3_init : ByteArray := prog_5_method_1_code
def yX3_init : MethodName := ⟨RX3, "<init>", "()V"⟩
abbrev cX3_topOf : ByteArray := prog_5_method_2_code
def yX3_topOf : MethodName := ⟨RX3, "topOf", "([III)I"⟩
def RX4 : String := "LeastTeaches$Search"
def TX4 : u_T := fun k => match k with
  | 0 => ("LeastTeaches$Search", "far", "[I", true)
  | _ => ("LeastTeaches$Search", "ofSet", "I", false)
def tyX4 : Nat → FieldType := fun k => match k with
  | 0 => .array .int
  | _ => .int
abbrev wsX40 : List Cond := u_ws RX4 TX4 2
theorem nmX4 : ∀ a, a < 2 → ∀ b, b < 2 → a ≠ b → (TX4 a).2.1 ≠ (TX4 b).2.1 := by decide +kernel
theorem tyX4_ok : ∀ k, k < 2 → parseFieldDescriptor (TX4 k).2.2.1 = some (tyX4 k) := by decide +kernel
abbrev cX4_init : ByteArray := prog_6_method_1_code
def yX4_init : MethodName := ⟨RX4, "<init>", "()V"⟩
abbrev cX4_forget : ByteArray := prog_6_method_2_code
def yX4_forget : MethodName := ⟨RX4, "forget", "()V"⟩
abbrev cX4_lessonsFrom : ByteArray := prog_6_method_3_code
def yX4_lessonsFrom : MethodName := ⟨RX4, "lessonsFrom", "(LLeastTeaches$Bench;)I"⟩
abbrev cX4_look : ByteArray := prog_6_method_4_code
def yX4_look : MethodName := ⟨RX4, "look", "(LLeastTeaches$Bench;II)I"⟩
abbrev cX4_standsUp : ByteArray := prog_6_method_5_code
def yX4_standsUp : MethodName := ⟨RX4, "standsUp", "(LLeastTeaches$Bench;I)I"⟩
def RX5 : String := "LeastTeaches$Standing"
def TX5 : u_T := fun k => match k with
  | 0 => ("LeastTeaches$Standing", "levels", "[I", true)
  | 1 => ("LeastTeaches$Standing", "visited", "Z", false)
  | 2 => ("LeastTeaches$Standing", "drawnFrom", "I", false)
  | _ => ("LeastTeaches$Standing", "turn", "I", false)
def tyX5 : Nat → FieldType := fun k => match k with
  | 0 => .array .int
  | 1 => .boolean
  | 2 => .int
  | _ => .int
abbrev wsX50 : List Cond := u_ws RX5 TX5 4
theorem nmX5 : ∀ a, a < 4 → ∀ b, b < 4 → a ≠ b → (TX5 a).2.1 ≠ (TX5 b).2.1 := by decide +kernel
theorem tyX5_ok : ∀ k, k < 4 → parseFieldDescriptor (TX5 k).2.2.1 = some (tyX5 k) := by decide +kernel
abbrev cX5_init : ByteArray := prog_7_method_1_code
def yX5_init : MethodName := ⟨RX5, "<init>", "()V"⟩
abbrev cX5_begin : ByteArray := prog_7_method_2_code
def yX5_begin : MethodName := ⟨RX5, "begin", "([I)V"⟩
abbrev cX5_take : ByteArray := prog_7_method_3_code
def yX5_take : MethodName := ⟨RX5, "take", "(LLeastTeaches$Standing;)V"⟩
def RX6 : String := "LeastTeaches"
def TX6 : u_T := fun k => match k with
  | 0 => ("LeastTeaches", "reader", "LLeastTeaches$Reader;", true)
  | 1 => ("LeastTeaches", "told", "LLeastTeaches$School;", false)
  | 2 => ("LeastTeaches", "draft", "LLeastTeaches$School;", false)
  | 3 => ("LeastTeaches", "now", "LLeastTeaches$Standing;", true)
  | 4 => ("LeastTeaches", "tried", "LLeastTeaches$Standing;", true)
  | 5 => ("LeastTeaches", "image0", "LLeastTeaches$Standing;", true)
  | 6 => ("LeastTeaches", "image1", "LLeastTeaches$Standing;", true)
  | 7 => ("LeastTeaches", "keptSet", "I", false)
  | 8 => ("LeastTeaches", "logged", "[I", true)
  | 9 => ("LeastTeaches", "logSize", "I", false)
  | 10 => ("LeastTeaches", "orderRow", "[I", true)
  | 11 => ("LeastTeaches", "bench", "LLeastTeaches$Bench;", true)
  | 12 => ("LeastTeaches", "odds", "LLeastTeaches$Odds;", true)
  | 13 => ("LeastTeaches", "alone", "LLeastTeaches$Search;", true)
  | 14 => ("LeastTeaches", "withGuest", "LLeastTeaches$Search;", true)
  | _ => ("LeastTeaches", "parted", "LLeastTeaches$Search;", true)
def tyX6 : Nat → FieldType := fun k => match k with
  | 0 => .object "LeastTeaches$Reader"
  | 1 => .object "LeastTeaches$School"
  | 2 => .object "LeastTeaches$School"
  | 3 => .object "LeastTeaches$Standing"
  | 4 => .object "LeastTeaches$Standing"
  | 5 => .object "LeastTeaches$Standing"
  | 6 => .object "LeastTeaches$Standing"
  | 7 => .int
  | 8 => .array .int
  | 9 => .int
  | 10 => .array .int
  | 11 => .object "LeastTeaches$Bench"
  | 12 => .object "LeastTeaches$Odds"
  | 13 => .object "LeastTeaches$Search"
  | 14 => .object "LeastTeaches$Search"
  | _ => .object "LeastTeaches$Search"
abbrev wsX60 : List Cond := u_ws RX6 TX6 16
theorem nmX6 : ∀ a, a < 16 → ∀ b, b < 16 → a ≠ b → (TX6 a).2.1 ≠ (TX6 b).2.1 := by decide +kernel
theorem tyX6_ok : ∀ k, k < 16 → parseFieldDescriptor (TX6 k).2.2.1 = some (tyX6 k) := by decide +kernel
abbrev cX6_init : ByteArray := prog_1_method_1_code
def yX6_init : MethodName := ⟨RX6, "<init>", "()V"⟩
abbrev cX6_feed : ByteArray := prog_1_method_2_code
def yX6_feed : MethodName := ⟨RX6, "feed", "(IJ)I"⟩
abbrev cX6_school : ByteArray := prog_1_method_3_code
def yX6_school : MethodName := ⟨RX6, "school", "()I"⟩
abbrev cX6_fault : ByteArray := prog_1_method_4_code
def yX6_fault : MethodName := ⟨RX6, "fault", "()I"⟩
abbrev cX6_count : ByteArray := prog_1_method_5_code
def yX6_count : MethodName := ⟨RX6, "count", "(I)I"⟩
abbrev cX6_pupil : ByteArray := prog_1_method_6_code
def yX6_pupil : MethodName := ⟨RX6, "pupil", "(II)I"⟩
abbrev cX6_leans : ByteArray := prog_1_method_7_code
def yX6_leans : MethodName := ⟨RX6, "leans", "(I)I"⟩
abbrev cX6_level : ByteArray := prog_1_method_8_code
def yX6_level : MethodName := ⟨RX6, "level", "(II)I"⟩
abbrev cX6_rises : ByteArray := prog_1_method_9_code
def yX6_rises : MethodName := ⟨RX6, "rises", "(II)I"⟩
abbrev cX6_guest : ByteArray := prog_1_method_10_code
def yX6_guest : MethodName := ⟨RX6, "guest", "(Z)I"⟩
abbrev cX6_lesson : ByteArray := prog_1_method_11_code
def yX6_lesson : MethodName := ⟨RX6, "lesson", "(IIZ)I"⟩
abbrev cX6_exact : ByteArray := prog_1_method_12_code
def yX6_exact : MethodName := ⟨RX6, "exact", "(III)I"⟩
abbrev cX6_behind : ByteArray := prog_1_method_13_code
def yX6_behind : MethodName := ⟨RX6, "behind", "(IIII)I"⟩
abbrev cX6_up : ByteArray := prog_1_method_14_code
def yX6_up : MethodName := ⟨RX6, "up", "(II)I"⟩
abbrev cX6_run : ByteArray := prog_1_method_15_code
def yX6_run : MethodName := ⟨RX6, "run", "(IIIZ)I"⟩
abbrev cX6_master : ByteArray := prog_1_method_16_code
def yX6_master : MethodName := ⟨RX6, "master", "(I)I"⟩
abbrev cX6_summer : ByteArray := prog_1_method_17_code
def yX6_summer : MethodName := ⟨RX6, "summer", "(I)I"⟩
abbrev cX6_hours : ByteArray := prog_1_method_18_code
def yX6_hours : MethodName := ⟨RX6, "hours", "(II)I"⟩
abbrev cX6_fewest : ByteArray := prog_1_method_19_code
def yX6_fewest : MethodName := ⟨RX6, "fewest", "(I)I"⟩
abbrev cX6_row : ByteArray := prog_1_method_20_code
def yX6_row : MethodName := ⟨RX6, "row", "(II)I"⟩
abbrev cX6_stuck : ByteArray := prog_1_method_21_code
def yX6_stuck : MethodName := ⟨RX6, "stuck", "(I)I"⟩
abbrev cX6_worth : ByteArray := prog_1_method_22_code
def yX6_worth : MethodName := ⟨RX6, "worth", "(I)I"⟩
abbrev cX6_mastered : ByteArray := prog_1_method_23_code
def yX6_mastered : MethodName := ⟨RX6, "mastered", "(I)I"⟩
abbrev cX6_pays : ByteArray := prog_1_method_24_code
def yX6_pays : MethodName := ⟨RX6, "pays", "(IIII)I"⟩
abbrev cX6_order : ByteArray := prog_1_method_25_code
def yX6_order : MethodName := ⟨RX6, "order", "(I)I"⟩
abbrev cX6_classes : ByteArray := prog_1_method_26_code
def yX6_classes : MethodName := ⟨RX6, "classes", "(II)I"⟩
abbrev cX6_log : ByteArray := prog_1_method_27_code
def yX6_log : MethodName := ⟨RX6, "log", "(II)I"⟩
abbrev cX6_clear : ByteArray := prog_1_method_28_code
def yX6_clear : MethodName := ⟨RX6, "clear", "()I"⟩
abbrev cX6_judge : ByteArray := prog_1_method_29_code
def yX6_judge : MethodName := ⟨RX6, "judge", "()I"⟩
abbrev cX6_seed : ByteArray := prog_1_method_30_code
def yX6_seed : MethodName := ⟨RX6, "seed", "(I)I"⟩
abbrev cX6_keep : ByteArray := prog_1_method_31_code
def yX6_keep : MethodName := ⟨RX6, "keep", "(I)I"⟩
abbrev cX6_goBack : ByteArray := prog_1_method_32_code
def yX6_goBack : MethodName := ⟨RX6, "goBack", "(I)I"⟩
abbrev cX6_isPupil : ByteArray := prog_1_method_33_code
def yX6_isPupil : MethodName := ⟨RX6, "isPupil", "(I)Z"⟩
abbrev cX6_isThing : ByteArray := prog_1_method_34_code
def yX6_isThing : MethodName := ⟨RX6, "isThing", "(I)Z"⟩
abbrev cX6_isRule : ByteArray := prog_1_method_35_code
def yX6_isRule : MethodName := ⟨RX6, "isRule", "(I)Z"⟩
abbrev cX6_knownThings : ByteArray := prog_1_method_36_code
def yX6_knownThings : MethodName := ⟨RX6, "knownThings", "(I)I"⟩
abbrev cX6_allLevels : ByteArray := prog_1_method_37_code
def yX6_allLevels : MethodName := ⟨RX6, "allLevels", "(I)I"⟩
abbrev cX6_imageOf : ByteArray := prog_1_method_38_code
def yX6_imageOf : MethodName := ⟨RX6, "imageOf", "(I)LLeastTeaches$Standing;"⟩
abbrev cX6_searchFor : ByteArray := prog_1_method_39_code
def yX6_searchFor : MethodName := ⟨RX6, "searchFor", "(Z)LLeastTeaches$Search;"⟩
abbrev cX6_sitAll : ByteArray := prog_1_method_40_code
def yX6_sitAll : MethodName := ⟨RX6, "sitAll", "(I)V"⟩
abbrev cX6_fewestOfAll : ByteArray := prog_1_method_41_code
def yX6_fewestOfAll : MethodName := ⟨RX6, "fewestOfAll", "(LLeastTeaches$Standing;IZ)I"⟩
abbrev cX6_fewestOfPart : ByteArray := prog_1_method_42_code
def yX6_fewestOfPart : MethodName := ⟨RX6, "fewestOfPart", "(II)I"⟩
abbrev cX6_levelBehind : ByteArray := prog_1_method_43_code
def yX6_levelBehind : MethodName := ⟨RX6, "levelBehind", "(IIII)I"⟩
abbrev cX6_findOrder : ByteArray := prog_1_method_44_code
def yX6_findOrder : MethodName := ⟨RX6, "findOrder", "()I"⟩
abbrev cX6_leastOpen : ByteArray := prog_1_method_45_code
def yX6_leastOpen : MethodName := ⟨RX6, "leastOpen", "(I)I"⟩
def RX7 : String := "LeastTeachesModel"
def TX7 : u_T := fun k => match k with
  | 0 => ("LeastTeachesModel", "things", "I", false)
  | 1 => ("LeastTeachesModel", "pupils", "I", false)
  | 2 => ("LeastTeachesModel", "leansOn", "[I", true)
  | 3 => ("LeastTeachesModel", "people", "[I", true)
  | 4 => ("LeastTeachesModel", "levels", "[I", true)
  | 5 => ("LeastTeachesModel", "hasGuest", "Z", false)
  | 6 => ("LeastTeachesModel", "turn", "I", false)
  | 7 => ("LeastTeachesModel", "text", "[I", true)
  | 8 => ("LeastTeachesModel", "texted", "I", false)
  | 9 => ("LeastTeachesModel", "faultPlace", "I", false)
  | 10 => ("LeastTeachesModel", "at0", "I", false)
  | 11 => ("LeastTeachesModel", "said", "J", false)
  | 12 => ("LeastTeachesModel", "wordEnd", "I", false)
  | 13 => ("LeastTeachesModel", "number", "I", false)
  | 14 => ("LeastTeachesModel", "numberAt", "I", false)
  | 15 => ("LeastTeachesModel", "readThings", "I", false)
  | 16 => ("LeastTeachesModel", "readPupils", "I", false)
  | 17 => ("LeastTeachesModel", "readLeans", "[I", true)
  | 18 => ("LeastTeachesModel", "readPeople", "[I", true)
  | 19 => ("LeastTeachesModel", "readLevels", "[I", true)
  | 20 => ("LeastTeachesModel", "now", "[I", true)
  | 21 => ("LeastTeachesModel", "cap", "[I", true)
  | 22 => ("LeastTeachesModel", "then", "[I", true)
  | 23 => ("LeastTeachesModel", "seed", "I", false)
  | 24 => ("LeastTeachesModel", "place", "[I", true)
  | 25 => ("LeastTeachesModel", "line", "[I", true)
  | 26 => ("LeastTeachesModel", "far", "[I", true)
  | 27 => ("LeastTeachesModel", "leads", "[Z", true)
  | 28 => ("LeastTeachesModel", "lined", "I", false)
  | 29 => ("LeastTeachesModel", "takes", "[I", true)
  | 30 => ("LeastTeachesModel", "rest", "[I", true)
  | 31 => ("LeastTeachesModel", "odds", "[J", true)
  | 32 => ("LeastTeachesModel", "comes", "[J", true)
  | 33 => ("LeastTeachesModel", "listed", "[I", true)
  | 34 => ("LeastTeachesModel", "many", "I", false)
  | 35 => ("LeastTeachesModel", "logged", "I", false)
  | 36 => ("LeastTeachesModel", "logWho", "[I", true)
  | 37 => ("LeastTeachesModel", "logThing", "[I", true)
  | 38 => ("LeastTeachesModel", "wereLevels", "[I", true)
  | 39 => ("LeastTeachesModel", "images", "[I", true)
  | _ => ("LeastTeachesModel", "isKept", "[Z", true)
def tyX7 : Nat → FieldType := fun k => match k with
  | 0 => .int
  | 1 => .int
  | 2 => .array .int
  | 3 => .array .int
  | 4 => .array .int
  | 5 => .boolean
  | 6 => .int
  | 7 => .array .int
  | 8 => .int
  | 9 => .int
  | 10 => .int
  | 11 => .long
  | 12 => .int
  | 13 => .int
  | 14 => .int
  | 15 => .int
  | 16 => .int
  | 17 => .array .int
  | 18 => .array .int
  | 19 => .array .int
  | 20 => .array .int
  | 21 => .array .int
  | 22 => .array .int
  | 23 => .int
  | 24 => .array .int
  | 25 => .array .int
  | 26 => .array .int
  | 27 => .array .boolean
  | 28 => .int
  | 29 => .array .int
  | 30 => .array .int
  | 31 => .array .long
  | 32 => .array .long
  | 33 => .array .int
  | 34 => .int
  | 35 => .int
  | 36 => .array .int
  | 37 => .array .int
  | 38 => .array .int
  | 39 => .array .int
  | _ => .array .boolean
abbrev wsX70 : List Cond := u_ws RX7 TX7 41
theorem nmX7 : ∀ a, a < 41 → ∀ b, b < 41 → a ≠ b → (TX7 a).2.1 ≠ (TX7 b).2.1 := by decide +kernel
theorem tyX7_ok : ∀ k, k < 41 → parseFieldDescriptor (TX7 k).2.2.1 = some (tyX7 k) := by decide +kernel
abbrev cX7_init : ByteArray := prog_9_method_1_code
def yX7_init : MethodName := ⟨RX7, "<init>", "()V"⟩
abbrev cX7_in : ByteArray := prog_9_method_3_code
def yX7_in : MethodName := ⟨RX7, "in", "(JJJ)Z"⟩
abbrev cX7_has : ByteArray := prog_9_method_4_code
def yX7_has : MethodName := ⟨RX7, "has", "(II)Z"⟩
abbrev cX7_isThing : ByteArray := prog_9_method_5_code
def yX7_isThing : MethodName := ⟨RX7, "isThing", "(I)Z"⟩
abbrev cX7_isPupil : ByteArray := prog_9_method_6_code
def yX7_isPupil : MethodName := ⟨RX7, "isPupil", "(I)Z"⟩
abbrev cX7_feed : ByteArray := prog_9_method_7_code
def yX7_feed : MethodName := ⟨RX7, "feed", "(IJ)I"⟩
abbrev cX7_here : ByteArray := prog_9_method_8_code
def yX7_here : MethodName := ⟨RX7, "here", "()I"⟩
abbrev cX7_fails : ByteArray := prog_9_method_9_code
def yX7_fails : MethodName := ⟨RX7, "fails", "(II)I"⟩
abbrev cX7_readWord : ByteArray := prog_9_method_10_code
def yX7_readWord : MethodName := ⟨RX7, "readWord", "()V"⟩
abbrev cX7_code : ByteArray := prog_9_method_11_code
def yX7_code : MethodName := ⟨RX7, "code", "(IIIII)J"⟩
abbrev cX7_takeNumber : ByteArray := prog_9_method_12_code
def yX7_takeNumber : MethodName := ⟨RX7, "takeNumber", "(II)I"⟩
abbrev cX7_isComma : ByteArray := prog_9_method_13_code
def yX7_isComma : MethodName := ⟨RX7, "isComma", "()Z"⟩
abbrev cX7_takeThing : ByteArray := prog_9_method_14_code
def yX7_takeThing : MethodName := ⟨RX7, "takeThing", "()I"⟩
abbrev cX7_takePupil : ByteArray := prog_9_method_15_code
def yX7_takePupil : MethodName := ⟨RX7, "takePupil", "()I"⟩
abbrev cX7_takeClause : ByteArray := prog_9_method_16_code
def yX7_takeClause : MethodName := ⟨RX7, "takeClause", "()I"⟩
abbrev cX7_school : ByteArray := prog_9_method_17_code
def yX7_school : MethodName := ⟨RX7, "school", "()I"⟩
abbrev cX7_fault : ByteArray := prog_9_method_18_code
def yX7_fault : MethodName := ⟨RX7, "fault", "()I"⟩
abbrev cX7_count : ByteArray := prog_9_method_19_code
def yX7_count : MethodName := ⟨RX7, "count", "(I)I"⟩
abbrev cX7_pupil : ByteArray := prog_9_method_20_code
def yX7_pupil : MethodName := ⟨RX7, "pupil", "(II)I"⟩
abbrev cX7_leans : ByteArray := prog_9_method_21_code
def yX7_leans : MethodName := ⟨RX7, "leans", "(I)I"⟩
abbrev cX7_level : ByteArray := prog_9_method_22_code
def yX7_level : MethodName := ⟨RX7, "level", "(II)I"⟩
abbrev cX7_capOf : ByteArray := prog_9_method_23_code
def yX7_capOf : MethodName := ⟨RX7, "capOf", "(III)I"⟩
abbrev cX7_rises : ByteArray := prog_9_method_24_code
def yX7_rises : MethodName := ⟨RX7, "rises", "(II)I"⟩
abbrev cX7_guest : ByteArray := prog_9_method_25_code
def yX7_guest : MethodName := ⟨RX7, "guest", "(Z)I"⟩
abbrev cX7_draw : ByteArray := prog_9_method_26_code
def yX7_draw : MethodName := ⟨RX7, "draw", "(I)I"⟩
abbrev cX7_isSo : ByteArray := prog_9_method_27_code
def yX7_isSo : MethodName := ⟨RX7, "isSo", "(IZ)Z"⟩
abbrev cX7_take : ByteArray := prog_9_method_28_code
def yX7_take : MethodName := ⟨RX7, "take", "(II)V"⟩
abbrev cX7_put : ByteArray := prog_9_method_29_code
def yX7_put : MethodName := ⟨RX7, "put", "(I)V"⟩
abbrev cX7_rise : ByteArray := prog_9_method_30_code
def yX7_rise : MethodName := ⟨RX7, "rise", "(II)V"⟩
abbrev cX7_noChance : ByteArray := prog_9_method_31_code
def yX7_noChance : MethodName := ⟨RX7, "noChance", "(IZ)I"⟩
abbrev cX7_teach : ByteArray := prog_9_method_32_code
def yX7_teach : MethodName := ⟨RX7, "teach", "(IIZZ)I"⟩
abbrev cX7_believe : ByteArray := prog_9_method_33_code
def yX7_believe : MethodName := ⟨RX7, "believe", "(IIZ)V"⟩
abbrev cX7_follow : ByteArray := prog_9_method_34_code
def yX7_follow : MethodName := ⟨RX7, "follow", "(II)V"⟩
abbrev cX7_everybody : ByteArray := prog_9_method_35_code
def yX7_everybody : MethodName := ⟨RX7, "everybody", "()I"⟩
abbrev cX7_lesson : ByteArray := prog_9_method_36_code
def yX7_lesson : MethodName := ⟨RX7, "lesson", "(IIZ)I"⟩
abbrev cX7_noOdds : ByteArray := prog_9_method_37_code
def yX7_noOdds : MethodName := ⟨RX7, "noOdds", "(IIZ)I"⟩
abbrev cX7_part : ByteArray := prog_9_method_38_code
def yX7_part : MethodName := ⟨RX7, "part", "(III)J"⟩
abbrev cX7_exact : ByteArray := prog_9_method_39_code
def yX7_exact : MethodName := ⟨RX7, "exact", "(III)I"⟩
abbrev cX7_leastOf : ByteArray := prog_9_method_40_code
def yX7_leastOf : MethodName := ⟨RX7, "leastOf", "(II)I"⟩
abbrev cX7_greatestBelow : ByteArray := prog_9_method_41_code
def yX7_greatestBelow : MethodName := ⟨RX7, "greatestBelow", "()I"⟩
abbrev cX7_upBy : ByteArray := prog_9_method_42_code
def yX7_upBy : MethodName := ⟨RX7, "upBy", "(II)I"⟩
abbrev cX7_isRule : ByteArray := prog_9_method_43_code
def yX7_isRule : MethodName := ⟨RX7, "isRule", "(I)Z"⟩
abbrev cX7_up : ByteArray := prog_9_method_44_code
def yX7_up : MethodName := ⟨RX7, "up", "(II)I"⟩
abbrev cX7_knownNow : ByteArray := prog_9_method_45_code
def yX7_knownNow : MethodName := ⟨RX7, "knownNow", "()I"⟩
abbrev cX7_run : ByteArray := prog_9_method_46_code
def yX7_run : MethodName := ⟨RX7, "run", "(IIIZ)I"⟩
abbrev cX7_tellNow : ByteArray := prog_9_method_47_code
def yX7_tellNow : MethodName := ⟨RX7, "tellNow", "()I"⟩
abbrev cX7_master : ByteArray := prog_9_method_48_code
def yX7_master : MethodName := ⟨RX7, "master", "(I)I"⟩
abbrev cX7_summer : ByteArray := prog_9_method_49_code
def yX7_summer : MethodName := ⟨RX7, "summer", "(I)I"⟩
abbrev cX7_hours : ByteArray := prog_9_method_50_code
def yX7_hours : MethodName := ⟨RX7, "hours", "(II)I"⟩
abbrev cX7_stateNow : ByteArray := prog_9_method_51_code
def yX7_stateNow : MethodName := ⟨RX7, "stateNow", "(I)I"⟩
abbrev cX7_setState : ByteArray := prog_9_method_52_code
def yX7_setState : MethodName := ⟨RX7, "setState", "(II)V"⟩
abbrev cX7_bits : ByteArray := prog_9_method_53_code
def yX7_bits : MethodName := ⟨RX7, "bits", "(I)I"⟩
abbrev cX7_goal : ByteArray := prog_9_method_54_code
def yX7_goal : MethodName := ⟨RX7, "goal", "(I)I"⟩
abbrev cX7_next : ByteArray := prog_9_method_55_code
def yX7_next : MethodName := ⟨RX7, "next", "(IZII)I"⟩
abbrev cX7_spread : ByteArray := prog_9_method_56_code
def yX7_spread : MethodName := ⟨RX7, "spread", "(IZ)I"⟩
abbrev cX7_fewestOf : ByteArray := prog_9_method_57_code
def yX7_fewestOf : MethodName := ⟨RX7, "fewestOf", "(IIZ)I"⟩
abbrev cX7_isSmall : ByteArray := prog_9_method_58_code
def yX7_isSmall : MethodName := ⟨RX7, "isSmall", "()Z"⟩
abbrev cX7_fewest : ByteArray := prog_9_method_59_code
def yX7_fewest : MethodName := ⟨RX7, "fewest", "(I)I"⟩
abbrev cX7_row : ByteArray := prog_9_method_60_code
def yX7_row : MethodName := ⟨RX7, "row", "(II)I"⟩
abbrev cX7_stuck : ByteArray := prog_9_method_61_code
def yX7_stuck : MethodName := ⟨RX7, "stuck", "(I)I"⟩
abbrev cX7_worth : ByteArray := prog_9_method_62_code
def yX7_worth : MethodName := ⟨RX7, "worth", "(I)I"⟩
abbrev cX7_mastered : ByteArray := prog_9_method_63_code
def yX7_mastered : MethodName := ⟨RX7, "mastered", "(I)I"⟩
abbrev cX7_levelBehind : ByteArray := prog_9_method_64_code
def yX7_levelBehind : MethodName := ⟨RX7, "levelBehind", "(IIII)I"⟩
abbrev cX7_pays : ByteArray := prog_9_method_65_code
def yX7_pays : MethodName := ⟨RX7, "pays", "(IIII)I"⟩
abbrev cX7_findOrder : ByteArray := prog_9_method_66_code
def yX7_findOrder : MethodName := ⟨RX7, "findOrder", "()V"⟩
abbrev cX7_order : ByteArray := prog_9_method_67_code
def yX7_order : MethodName := ⟨RX7, "order", "(I)I"⟩
abbrev cX7_classes : ByteArray := prog_9_method_68_code
def yX7_classes : MethodName := ⟨RX7, "classes", "(II)I"⟩
abbrev cX7_come : ByteArray := prog_9_method_69_code
def yX7_come : MethodName := ⟨RX7, "come", "(J)V"⟩
abbrev cX7_asNow : ByteArray := prog_9_method_70_code
def yX7_asNow : MethodName := ⟨RX7, "asNow", "()V"⟩
abbrev cX7_listSurer : ByteArray := prog_9_method_71_code
def yX7_listSurer : MethodName := ⟨RX7, "listSurer", "(I)V"⟩
abbrev cX7_chanceOf : ByteArray := prog_9_method_72_code
def yX7_chanceOf : MethodName := ⟨RX7, "chanceOf", "(IZ)I"⟩
abbrev cX7_partBelief : ByteArray := prog_9_method_73_code
def yX7_partBelief : MethodName := ⟨RX7, "partBelief", "(IJ)V"⟩
abbrev cX7_partNo : ByteArray := prog_9_method_74_code
def yX7_partNo : MethodName := ⟨RX7, "partNo", "(IZIJ)V"⟩
abbrev cX7_partRight : ByteArray := prog_9_method_75_code
def yX7_partRight : MethodName := ⟨RX7, "partRight", "(IZJ)V"⟩
abbrev cX7_partAll : ByteArray := prog_9_method_76_code
def yX7_partAll : MethodName := ⟨RX7, "partAll", "(II)V"⟩
abbrev cX7_findOdds : ByteArray := prog_9_method_77_code
def yX7_findOdds : MethodName := ⟨RX7, "findOdds", "(III)V"⟩
abbrev cX7_behind : ByteArray := prog_9_method_78_code
def yX7_behind : MethodName := ⟨RX7, "behind", "(IIII)I"⟩
abbrev cX7_log : ByteArray := prog_9_method_79_code
def yX7_log : MethodName := ⟨RX7, "log", "(II)I"⟩
abbrev cX7_clear : ByteArray := prog_9_method_80_code
def yX7_clear : MethodName := ⟨RX7, "clear", "()I"⟩
abbrev cX7_firstWrong : ByteArray := prog_9_method_81_code
def yX7_firstWrong : MethodName := ⟨RX7, "firstWrong", "()I"⟩
abbrev cX7_judge : ByteArray := prog_9_method_82_code
def yX7_judge : MethodName := ⟨RX7, "judge", "()I"⟩
abbrev cX7_seed : ByteArray := prog_9_method_83_code
def yX7_seed : MethodName := ⟨RX7, "seed", "(I)I"⟩
abbrev cX7_keep : ByteArray := prog_9_method_84_code
def yX7_keep : MethodName := ⟨RX7, "keep", "(I)I"⟩
abbrev cX7_goBack : ByteArray := prog_9_method_85_code
def yX7_goBack : MethodName := ⟨RX7, "goBack", "(I)I"⟩
def RJx145de : String := "java/io/Serializable"
def TJx145de : u_T := fun k => match k with
  | _ => ("", "", "", false)
def tyJx145de : Nat → FieldType := fun k => match k with
  | _ => .int
abbrev wsJx145de0 : List Cond := u_ws RJx145de TJx145de 0
theorem nmJx145de : ∀ a, a < 0 → ∀ b, b < 0 → a ≠ b → (TJx145de a).2.1 ≠ (TJx145de b).2.1 := by decide +kernel
theorem tyJx145de_ok : ∀ k, k < 0 → parseFieldDescriptor (TJx145de k).2.2.1 = some (tyJx145de k) := by decide +kernel
def RJx9f9b0 : String := "java/lang/CharSequence"
def TJx9f9b0 : u_T := fun k => match k with
  | _ => ("", "", "", false)
def tyJx9f9b0 : Nat → FieldType := fun k => match k with
  | _ => .int
abbrev wsJx9f9b00 : List Cond := u_ws RJx9f9b0 TJx9f9b0 0
theorem nmJx9f9b0 : ∀ a, a < 0 → ∀ b, b < 0 → a ≠ b → (TJx9f9b0 a).2.1 ≠ (TJx9f9b0 b).2.1 := by decide +kernel
theorem tyJx9f9b0_ok : ∀ k, k < 0 → parseFieldDescriptor (TJx9f9b0 k).2.2.1 = some (tyJx9f9b0 k) := by decide +kernel
def RJxb160c : String := "java/lang/Comparable"
def TJxb160c : u_T := fun k => match k with
  | _ => ("", "", "", false)
def tyJxb160c : Nat → FieldType := fun k => match k with
  | _ => .int
abbrev wsJxb160c0 : List Cond := u_ws RJxb160c TJxb160c 0
theorem nmJxb160c : ∀ a, a < 0 → ∀ b, b < 0 → a ≠ b → (TJxb160c a).2.1 ≠ (TJxb160c b).2.1 := by decide +kernel
theorem tyJxb160c_ok : ∀ k, k < 0 → parseFieldDescriptor (TJxb160c k).2.2.1 = some (tyJxb160c k) := by decide +kernel
def RJ9 : String := "java/lang/Math"
def TJ9 : u_T := fun k => match k with
  | _ => ("", "", "", false)
def tyJ9 : Nat → FieldType := fun k => match k with
  | _ => .int
abbrev wsJ90 : List Cond := u_ws RJ9 TJ9 0
theorem nmJ9 : ∀ a, a < 0 → ∀ b, b < 0 → a ≠ b → (TJ9 a).2.1 ≠ (TJ9 b).2.1 := by decide +kernel
theorem tyJ9_ok : ∀ k, k < 0 → parseFieldDescriptor (TJ9 k).2.2.1 = some (tyJ9 k) := by decide +kernel
abbrev cJ9_max_7cf53 : ByteArray := prog_10_method_65_code
def yJ9_max_7cf53 : MethodName := ⟨RJ9, "max", "(II)I"⟩
abbrev cJ9_min_7cf53 : ByteArray := prog_10_method_69_code
def yJ9_min_7cf53 : MethodName := ⟨RJ9, "min", "(II)I"⟩
def RJ0 : String := "java/lang/String"
def TJ0 : u_T := fun k => match k with
  | _ => ("", "", "", false)
def tyJ0 : Nat → FieldType := fun k => match k with
  | _ => .int
abbrev wsJ00 : List Cond := u_ws RJ0 TJ0 0
theorem nmJ0 : ∀ a, a < 0 → ∀ b, b < 0 → a ≠ b → (TJ0 a).2.1 ≠ (TJ0 b).2.1 := by decide +kernel
theorem tyJ0_ok : ∀ k, k < 0 → parseFieldDescriptor (TJ0 k).2.2.1 = some (tyJ0 k) := by decide +kernel
abbrev cJ0_length_8abf5 : ByteArray := prog_11_method_54_code
def yJ0_length_8abf5 : MethodName := ⟨RJ0, "length", "()I"⟩
abbrev cJ0_charAt_5068e : ByteArray := prog_11_method_56_code
def yJ0_charAt_5068e : MethodName := ⟨RJ0, "charAt", "(I)C"⟩
abbrev cJ0_coder_7d493 : ByteArray := prog_11_method_152_code
def yJ0_coder_7d493 : MethodName := ⟨RJ0, "coder", "()B"⟩
abbrev cJ0_isLatin1_aae02 : ByteArray := prog_11_method_154_code
def yJ0_isLatin1_aae02 : MethodName := ⟨RJ0, "isLatin1", "()Z"⟩
abbrev cJ0_checkIndex_df160 : ByteArray := prog_11_method_155_code
def yJ0_checkIndex_df160 : MethodName := ⟨RJ0, "checkIndex", "(II)V"⟩
def RJ1 : String := "java/lang/StringLatin1"
def TJ1 : u_T := fun k => match k with
  | _ => ("", "", "", false)
def tyJ1 : Nat → FieldType := fun k => match k with
  | _ => .int
abbrev wsJ10 : List Cond := u_ws RJ1 TJ1 0
theorem nmJ1 : ∀ a, a < 0 → ∀ b, b < 0 → a ≠ b → (TJ1 a).2.1 ≠ (TJ1 b).2.1 := by decide +kernel
theorem tyJ1_ok : ∀ k, k < 0 → parseFieldDescriptor (TJ1 k).2.2.1 = some (tyJ1 k) := by decide +kernel
abbrev cJ1_charAt_3b067 : ByteArray := prog_12_method_2_code
def yJ1_charAt_3b067 : MethodName := ⟨RJ1, "charAt", "([BI)C"⟩
def RJ2 : String := "java/lang/StringUTF16"
def TJ2 : u_T := fun k => match k with
  | _ => ("", "", "", false)
def tyJ2 : Nat → FieldType := fun k => match k with
  | _ => .int
abbrev wsJ20 : List Cond := u_ws RJ2 TJ2 0
theorem nmJ2 : ∀ a, a < 0 → ∀ b, b < 0 → a ≠ b → (TJ2 a).2.1 ≠ (TJ2 b).2.1 := by decide +kernel
theorem tyJ2_ok : ∀ k, k < 0 → parseFieldDescriptor (TJ2 k).2.2.1 = some (tyJ2 k) := by decide +kernel
abbrev cJ2_getChar_3b067 : ByteArray := prog_13_method_5_code
def yJ2_getChar_3b067 : MethodName := ⟨RJ2, "getChar", "([BI)C"⟩
abbrev cJ2_length_9d52b : ByteArray := prog_13_method_6_code
def yJ2_length_9d52b : MethodName := ⟨RJ2, "length", "([B)I"⟩
abbrev cJ2_charAt_3b067 : ByteArray := prog_13_method_83_code
def yJ2_charAt_3b067 : MethodName := ⟨RJ2, "charAt", "([BI)C"⟩
abbrev cJ2_checkIndex_2214a : ByteArray := prog_13_method_91_code
def yJ2_checkIndex_2214a : MethodName := ⟨RJ2, "checkIndex", "(I[B)V"⟩
def RJ10 : String := "java/lang/System"
def TJ10 : u_T := fun k => match k with
  | _ => ("", "", "", false)
def tyJ10 : Nat → FieldType := fun k => match k with
  | _ => .int
abbrev wsJ100 : List Cond := u_ws RJ10 TJ10 0
theorem nmJ10 : ∀ a, a < 0 → ∀ b, b < 0 → a ≠ b → (TJ10 a).2.1 ≠ (TJ10 b).2.1 := by decide +kernel
theorem tyJ10_ok : ∀ k, k < 0 → parseFieldDescriptor (TJ10 k).2.2.1 = some (tyJ10 k) := by decide +kernel
def RJxfd54e : String := "java/lang/constant/Constable"
def TJxfd54e : u_T := fun k => match k with
  | _ => ("", "", "", false)
def tyJxfd54e : Nat → FieldType := fun k => match k with
  | _ => .int
abbrev wsJxfd54e0 : List Cond := u_ws RJxfd54e TJxfd54e 0
theorem nmJxfd54e : ∀ a, a < 0 → ∀ b, b < 0 → a ≠ b → (TJxfd54e a).2.1 ≠ (TJxfd54e b).2.1 := by decide +kernel
theorem tyJxfd54e_ok : ∀ k, k < 0 → parseFieldDescriptor (TJxfd54e k).2.2.1 = some (tyJxfd54e k) := by decide +kernel
def RJx3cf43 : String := "java/lang/constant/ConstantDesc"
def TJx3cf43 : u_T := fun k => match k with
  | _ => ("", "", "", false)
def tyJx3cf43 : Nat → FieldType := fun k => match k with
  | _ => .int
abbrev wsJx3cf430 : List Cond := u_ws RJx3cf43 TJx3cf43 0
theorem nmJx3cf43 : ∀ a, a < 0 → ∀ b, b < 0 → a ≠ b → (TJx3cf43 a).2.1 ≠ (TJx3cf43 b).2.1 := by decide +kernel
theorem tyJx3cf43_ok : ∀ k, k < 0 → parseFieldDescriptor (TJx3cf43 k).2.2.1 = some (tyJx3cf43 k) := by decide +kernel
def RJ7 : String := "java/util/Arrays"
def TJ7 : u_T := fun k => match k with
  | _ => ("", "", "", false)
def tyJ7 : Nat → FieldType := fun k => match k with
  | _ => .int
abbrev wsJ70 : List Cond := u_ws RJ7 TJ7 0
theorem nmJ7 : ∀ a, a < 0 → ∀ b, b < 0 → a ≠ b → (TJ7 a).2.1 ≠ (TJ7 b).2.1 := by decide +kernel
theorem tyJ7_ok : ∀ k, k < 0 → parseFieldDescriptor (TJ7 k).2.2.1 = some (tyJ7 k) := by decide +kernel
abbrev cJ7_rangeCheck_23922 : ByteArray := prog_15_method_30_code
def yJ7_rangeCheck_23922 : MethodName := ⟨RJ7, "rangeCheck", "(III)V"⟩
abbrev cJ7_fill_d0a16 : ByteArray := prog_15_method_101_code
def yJ7_fill_d0a16 : MethodName := ⟨RJ7, "fill", "([JJ)V"⟩
abbrev cJ7_fill_fda19 : ByteArray := prog_15_method_104_code
def yJ7_fill_fda19 : MethodName := ⟨RJ7, "fill", "([IIII)V"⟩
def RJ3 : String := "jdk/internal/util/Preconditions"
def TJ3 : u_T := fun k => match k with
  | _ => ("", "", "", false)
def tyJ3 : Nat → FieldType := fun k => match k with
  | _ => .int
abbrev wsJ30 : List Cond := u_ws RJ3 TJ3 0
theorem nmJ3 : ∀ a, a < 0 → ∀ b, b < 0 → a ≠ b → (TJ3 a).2.1 ≠ (TJ3 b).2.1 := by decide +kernel
theorem tyJ3_ok : ∀ k, k < 0 → parseFieldDescriptor (TJ3 k).2.2.1 = some (tyJ3 k) := by decide +kernel
abbrev cJ3_checkIndex_8e157 : ByteArray := prog_16_method_11_code
def yJ3_checkIndex_8e157 : MethodName := ⟨RJ3, "checkIndex", "(IILjava/util/function/BiFunction;)I"⟩
def RL : String := "LeastTeachesLaw"
abbrev cL_law : ByteArray := code
def yL_law : MethodName := ⟨RL, "law", "([I)Z"⟩
abbrev vwCl : List vw_C := [(RX0, TX0, 11), (RX1, TX1, 6), (RX2, TX2, 8), (RX3, TX3, 7), (RX4, TX4, 2), (RX5, TX5, 4), (RX6, TX6, 16), (RX7, TX7, 41)]
end
section

/-! ===== the pure state, the world, the judgement V ===== -/
abbrev St : Type := (Nat → Nat → Int32) × (Nat → Nat → Int64) × (Nat → Nat → Nat)
def gN (S : St) (c j : Nat) : Int32 := S.1 c j
def gJ (S : St) (c j : Nat) : Int64 := S.2.1 c j
def gR (S : St) (c j : Nat) : Nat := S.2.2 c j
def sN (S : St) (c j : Nat) (v : Int32) : St := (va_up S.1 c (va_up (S.1 c) j v), S.2)
def sJ (S : St) (c j : Nat) (v : Int64) : St := (S.1, va_up S.2.1 c (va_up (S.2.1 c) j v), S.2.2)
def sR (S : St) (c j : Nat) (v : Nat) : St := (S.1, S.2.1, va_up S.2.2 c (va_up (S.2.2 c) j v))
/-- a whole row -/
def pN (S : St) (c : Nat) (f : Nat → Int32) : St := (va_up S.1 c f, S.2)
/-- the shapes: class number (or 8 byte, 9 int, 10 long, 11 boolean rows), length, fields (0 int, 1 fixed reference, 2 moving reference, 3 the same or null, 4 long) -/
def shL : List (Nat × Nat × List (Nat × Nat)) := [(6, 0, [(1, 1), (2, 0), (2, 0), (1, 15), (1, 17), (1, 19), (1, 21), (0, 0), (1, 23), (0, 0), (1, 24), (1, 25), (1, 33), (1, 38), (1, 40), (1, 42)]),
  (2, 0, [(1, 2), (0, 0), (0, 0), (0, 0), (3, 0), (0, 0), (0, 0), (0, 0)]),
  (8, 400, []),
  (3, 0, [(0, 0), (0, 0), (1, 4), (1, 5), (1, 6), (1, 7), (1, 8)]),
  (9, 6, []),
  (9, 6, []),
  (9, 6, []),
  (9, 6, []),
  (9, 36, []),
  (3, 0, [(0, 0), (0, 0), (1, 10), (1, 11), (1, 12), (1, 13), (1, 14)]),
  (9, 6, []),
  (9, 6, []),
  (9, 6, []),
  (9, 6, []),
  (9, 36, []),
  (5, 0, [(1, 16), (0, 0), (0, 0), (0, 0)]),
  (9, 36, []),
  (5, 0, [(1, 18), (0, 0), (0, 0), (0, 0)]),
  (9, 36, []),
  (5, 0, [(1, 20), (0, 0), (0, 0), (0, 0)]),
  (9, 36, []),
  (5, 0, [(1, 22), (0, 0), (0, 0), (0, 0)]),
  (9, 36, []),
  (9, 40, []),
  (9, 6, []),
  (0, 0, [(0, 0), (0, 0), (0, 0), (0, 0), (1, 26), (1, 27), (1, 28), (1, 29), (1, 30), (1, 31), (1, 32)]),
  (9, 6, []),
  (9, 6, []),
  (9, 6, []),
  (9, 6, []),
  (9, 6, []),
  (9, 6, []),
  (11, 6, []),
  (1, 0, [(2, 0), (2, 0), (1, 36), (0, 0), (1, 37), (0, 0)]),
  (10, 1000, []),
  (10, 1000, []),
  (10, 16, []),
  (9, 4, []),
  (4, 0, [(1, 39), (0, 0)]),
  (9, 10000, []),
  (4, 0, [(1, 41), (0, 0)]),
  (9, 10000, []),
  (4, 0, [(1, 43), (0, 0)]),
  (9, 10000, []),
  (7, 0, [(0, 0), (0, 0), (1, 45), (1, 46), (1, 47), (0, 0), (0, 0), (1, 48), (0, 0), (0, 0), (0, 0), (4, 0), (0, 0), (0, 0), (0, 0), (0, 0), (0, 0), (1, 49), (1, 50), (1, 51), (1, 52), (1, 53), (1, 54), (0, 0), (1, 55), (1, 56), (1, 57), (1, 58), (0, 0), (1, 59), (1, 60), (1, 61), (1, 62), (1, 63), (0, 0), (0, 0), (1, 64), (1, 65), (1, 66), (1, 67), (1, 68)]),
  (9, 6, []),
  (9, 18, []),
  (9, 36, []),
  (9, 400, []),
  (9, 6, []),
  (9, 18, []),
  (9, 36, []),
  (9, 6, []),
  (9, 6, []),
  (9, 6, []),
  (9, 100000, []),
  (9, 100000, []),
  (9, 100000, []),
  (11, 100000, []),
  (9, 384, []),
  (9, 64, []),
  (10, 1000, []),
  (10, 1000, []),
  (9, 4, []),
  (9, 40, []),
  (9, 40, []),
  (9, 36, []),
  (9, 80, []),
  (11, 2, [])]
def sh (c : Nat) : Nat × Nat × List (Nat × Nat) := shL.getD c (99, 0, [])
/-- class tables, addresses, row classes, the address of TENS, addresses of Strings and of their bytes -/
abbrev VG : Type := va_G × (Nat → Nat) × (Nat → ClassId) × Nat × (Nat → Nat) × (Nat → Nat)
def fvq (G : VG) (q : Nat × Nat) (x : Int32) (r : Nat) (y : Int64) : Value :=
  if q.1 = 0 then .int x else if q.1 = 1 then .ref (G.2.1 q.2) else if q.1 = 2 then .ref (G.2.1 r) else if q.1 = 3 then (if r = 99 then .null else .ref (G.2.1 r)) else .long y
def fv (G : VG) (S : St) (c j : Nat) (q : Nat × Nat) : Value := fvq G q (gN S c j) (gR S c j) (gJ S c j)
def cellOf (G : VG) (S : St) (c : Nat) : va_E :=
  if (sh c).1 < 8 then .inr ((sh c).1, (sh c).2.2.mapIdx (fun j q => fv G S c j q)) else .inl (G.2.2.1 (sh c).1, (sh c).2.1, if (sh c).1 = 10 then .inr (.inl (S.2.1 c)) else .inl (S.1 c))
def wld (G : VG) (S : St) : va_W := (List.range 69).map (fun c => (G.2.1 c, cellOf G S c))
/-- which cells may be written -/
def Aw (G : VG) : Nat → Prop := fun q => ∃ k, k < 69 ∧ q = G.2.1 k
def tysG (G : VG) : List (ClassId × FieldType) := [(G.2.2.1 8, .byte), (G.2.2.1 9, .int), (G.2.2.1 10, .long), (G.2.2.1 11, .boolean)]
theorem wld_get (G : VG) (S : St) {c : Nat} (h : c < 69) : (wld G S)[c]? = some (G.2.1 c, cellOf G S c) := by
  simp [wld, h]
theorem wld_set (G : VG) (S S' : St) {c : Nat} {e : va_E} (he : e = cellOf G S' c) (ho : ∀ k, k ≠ c → cellOf G S k = cellOf G S' k) : (wld G S).set c (G.2.1 c, e) = wld G S' := by
  apply List.ext_getElem?
  intro i
  by_cases hi : i < 69
  · by_cases hc : c = i
    · subst hc
      rw [List.getElem?_set_self (by simp [wld, hi]), wld_get G S' hi, he]
    · rw [List.getElem?_set_ne hc, wld_get G S hi, wld_get G S' hi, ho i (Ne.symm hc)]
  · rw [List.getElem?_eq_none (by simp [wld]; omega), List.getElem?_eq_none (by simp [wld]; omega)]
theorem cellOf_eq {G : VG} {S S' : St} {c : Nat} (h1 : S.1 c = S'.1 c) (h2 : S.2.1 c = S'.2.1 c) (h3 : S.2.2 c = S'.2.2 c) : cellOf G S c = cellOf G S' c := by
  have e : ∀ j q, fv G S c j q = fv G S' c j q := fun j q => by simp only [fv, gN, gJ, gR, h1, h2, h3]
  simp only [cellOf, h1, h2, e]
theorem up_ne {α : Type} {f : Nat → α} {k j : Nat} {v : α} (h : j ≠ k) : va_up f k v j = f j := by simp [va_up, h]
theorem up_eq {α : Type} {f : Nat → α} {k : Nat} {v : α} : va_up f k v k = v := by simp [va_up]
/-- field j of the object cell c, of class ci, has that tag -/
def FI (c j ci tag d : Nat) : Prop := c < 69 ∧ (sh c).1 = ci ∧ ci < 8 ∧ (sh c).2.2[j]? = some (tag, d)
/-- the cell c is a row of kind k and length n -/
def AI (c k n : Nat) : Prop := c < 69 ∧ (sh c).1 = k ∧ 8 ≤ k ∧ (sh c).2.1 = n
theorem cell_obj {G : VG} {S : St} {c j ci tag d : Nat} (h : FI c j ci tag d) : ∃ fs : List Value, cellOf G S c = .inr (ci, fs) ∧ fs[j]? = some (fv G S c j (tag, d)) ∧ j < fs.length := by
  obtain ⟨h1, h2, h3, h4⟩ := h
  refine ⟨(sh c).2.2.mapIdx (fun j q => fv G S c j q), by simp [cellOf, h2, h3], by simp [h4], ?_⟩
  have := (List.getElem?_eq_some_iff.mp h4).1
  simpa using this
theorem cell_put {G : VG} {S S' : St} {c j ci tag d : Nat} {fs : List Value} {v : Value} (h : FI c j ci tag d) (hf : cellOf G S c = .inr (ci, fs)) (hv : fv G S' c j (tag, d) = v) (ho : ∀ i q, i ≠ j → fv G S' c i q = fv G S c i q) : (.inr (ci, fs.set j v) : va_E) = cellOf G S' c := by
  obtain ⟨h1, h2, h3, h4⟩ := h
  have hf' : fs = (sh c).2.2.mapIdx (fun j q => fv G S c j q) := by
    simp only [cellOf, h2, h3, if_true] at hf
    injection hf with hf
    injection hf with _ hf
    exact hf.symm
  subst hf'
  simp only [cellOf, h2, h3, if_true]
  congr 2
  apply List.ext_getElem?
  intro i
  by_cases hi : j = i
  · subst hi
    rw [List.getElem?_set_self (by have := (List.getElem?_eq_some_iff.mp h4).1; simpa using this)]
    simp [h4, hv]
  · rw [List.getElem?_set_ne hi]
    simp only [List.getElem?_mapIdx]
    cases (sh c).2.2[i]? with
    | none => rfl
    | some q => simp only [Option.map_some, ho i q (Ne.symm hi)]
theorem cell_arrI {G : VG} {S : St} {c k n : Nat} (h : AI c k n) (hk : k ≠ 10) : cellOf G S c = .inl (G.2.2.1 k, n, .inl (S.1 c)) := by
  obtain ⟨h1, h2, h3, h4⟩ := h
  have : ¬ k < 8 := by omega
  simp [cellOf, h2, this, h4, hk]
theorem cell_arrJ {G : VG} {S : St} {c n : Nat} (h : AI c 10 n) : cellOf G S c = .inl (G.2.2.1 10, n, .inr (.inl (S.2.1 c))) := by
  obtain ⟨h1, h2, h3, h4⟩ := h
  simp [cellOf, h2, h4]
theorem cellN_ne {G : VG} {S : St} {c j k : Nat} {v : Int32} (h : k ≠ c) : cellOf G S k = cellOf G (sN S c j v) k := cellOf_eq (by simp [sN, up_ne h]) rfl rfl
theorem cellJ_ne {G : VG} {S : St} {c j k : Nat} {v : Int64} (h : k ≠ c) : cellOf G S k = cellOf G (sJ S c j v) k := cellOf_eq rfl (by simp [sJ, up_ne h]) rfl
theorem cellR_ne {G : VG} {S : St} {c j k : Nat} {v : Nat} (h : k ≠ c) : cellOf G S k = cellOf G (sR S c j v) k := cellOf_eq rfl rfl (by simp [sR, up_ne h])
theorem cellP_ne {G : VG} {S : St} {c k : Nat} {f : Nat → Int32} (h : k ≠ c) : cellOf G S k = cellOf G (pN S c f) k := cellOf_eq (by simp [pN, up_ne h]) rfl rfl
theorem fvN {G : VG} {S : St} {c j : Nat} {v : Int32} {d : Nat} : fv G (sN S c j v) c j (0, d) = .int v := by simp [fv, fvq, gN, sN, up_eq]
theorem fvN_ne {G : VG} {S : St} {c j i : Nat} {v : Int32} {q : Nat × Nat} (h : i ≠ j) : fv G (sN S c j v) c i q = fv G S c i q := by simp [fv, gN, gJ, gR, sN, up_eq, up_ne h]
theorem fvJ {G : VG} {S : St} {c j : Nat} {v : Int64} {d : Nat} : fv G (sJ S c j v) c j (4, d) = .long v := by simp [fv, fvq, gJ, sJ, up_eq]
theorem fvJ_ne {G : VG} {S : St} {c j i : Nat} {v : Int64} {q : Nat × Nat} (h : i ≠ j) : fv G (sJ S c j v) c i q = fv G S c i q := by simp [fv, gN, gJ, gR, sJ, up_eq, up_ne h]
theorem fvR {G : VG} {S : St} {c j : Nat} {v : Nat} {d : Nat} : fv G (sR S c j v) c j (2, d) = .ref (G.2.1 v) := by simp [fv, fvq, gR, sR, up_eq]
theorem fvR3 {G : VG} {S : St} {c j : Nat} {v : Nat} {d : Nat} (h : v ≠ 99) : fv G (sR S c j v) c j (3, d) = .ref (G.2.1 v) := by simp [fv, fvq, gR, sR, up_eq, h]
theorem fvR_ne {G : VG} {S : St} {c j i : Nat} {v : Nat} {q : Nat × Nat} (h : i ≠ j) : fv G (sR S c j v) c i q = fv G S c i q := by simp [fv, gN, gJ, gR, sR, up_eq, up_ne h]
/-! ===== what is outside the world, and stays ===== -/
def tensF (j : Nat) : Int32 := [1, 10, 100, 1000, 10000].getD j 0
def strL : List Nat := [5, 5, 2]
def strB : List (List Int32) := [[116, 104, 105, 110, 103], [112, 117, 112, 105, 108], [111, 110]]
def XT (G : VG) (U : State) (H : Heap) : Prop :=
  va_Z "LeastTeaches" "TENS" "[I" (.ref G.2.2.2.1) (Aw G) U H ∧ va_T .int G.2.2.2.1 5 (fun j => .int (tensF j)) (Aw G) U H ∧ vk_S 3 strL strB G.2.2.2.2.1 G.2.2.2.2.2 (Aw G) U H ∧ va_Z "java/lang/String" "COMPACT_STRINGS" "Z" (.int 1) (Aw G) U H ∧ va_Zq "jdk/internal/util/Preconditions" "SIOOBE_FORMATTER" "Ljava/util/function/BiFunction;" (Aw G) U H
def XR (G : VG) (U : State) : Prop := vk_R RX2 46 "thing" (G.2.2.2.2.1 0) U ∧ vk_R RX2 55 "pupil" (G.2.2.2.2.1 1) U ∧ vk_R RX2 67 "on" (G.2.2.2.2.1 2) U
def EX (G : VG) (U : State) : Prop := va_K G.1 vwCl (tysG G) U ∧ (∀ i j : Nat, i < 69 → j < 69 → G.2.1 i = G.2.1 j → i = j) ∧ XT G U U.heap ∧ XR G U
theorem XT.moved {G : VG} {u U : State} {H : Heap} (hvm : u.vm.Alike U.vm) (h : XT G u H) : XT G U H :=
  ⟨h.1.moved hvm, h.2.1.moved hvm, h.2.2.1.moved hvm, h.2.2.2.1.moved hvm, h.2.2.2.2.moved hvm⟩
theorem XT.kept {G : VG} {U : State} {H H1 : Heap} (h : XT G U H) (hq : ∀ a : Nat, a < H.size → ¬ Aw G a → H1[a]? = H[a]?) : XT G U H1 :=
  ⟨h.1.kept hq, h.2.1.kept hq, h.2.2.1.kept hq, h.2.2.2.1.kept hq, h.2.2.2.2.kept hq⟩
theorem EX.go {G : VG} {s U : State} {H : Heap} {locs : List Loc} (h : EX G s) (hS : va_S (Aw G) s.heap H locs) (hU : U.heap = H) (hW : s.WarmedH U.vm) : EX G U := by
  subst hU
  exact ⟨va_K.moved hW.alike h.1, h.2.1, (h.2.2.1.kept hS.2.1).moved hW.alike, h.2.2.2.1.warm hW, h.2.2.2.2.1.warm hW, h.2.2.2.2.2.warm hW⟩
theorem EX.blind {G : VG} {U : State} {g : JFrame} {mk : MethodId} {a : Array Value} (h : EX G U) : EX G (U.calling g mk a) :=
  ⟨va_K.moved (u := U) (U := U.calling g mk a) (Vm.Alike.refl U.vm) h.1, h.2.1, XT.moved (u := U) (U := U.calling g mk a) (Vm.Alike.refl U.vm) h.2.2.1, vk_R.same (u := U) (U := U.calling g mk a) rfl h.2.2.2.1, vk_R.same (u := U) (U := U.calling g mk a) rfl h.2.2.2.2.1, vk_R.same (u := U) (U := U.calling g mk a) rfl h.2.2.2.2.2⟩
theorem wld_D {G : VG} {S : St} (h : ∀ i j : Nat, i < 69 → j < 69 → G.2.1 i = G.2.1 j → i = j) : va_D (Aw G) (wld G S) := by
  have key : ∀ (k : Nat) (q : Nat × va_E), (wld G S)[k]? = some q → k < 69 ∧ q.1 = G.2.1 k := by
    intro k q hk
    have hl : k < 69 := by
      have := (List.getElem?_eq_some_iff.mp hk).1
      simpa [wld] using this
    rw [wld_get G S hl] at hk
    cases hk
    exact ⟨hl, rfl⟩
  refine ⟨fun i j x y hi hj hxy => ?_, fun k q hk => ?_⟩
  · obtain ⟨a1, a2⟩ := key i x hi
    obtain ⟨b1, b2⟩ := key j y hj
    exact h i j a1 b1 (by rw [← a2, ← b2, hxy])
  · obtain ⟨a1, a2⟩ := key k q hk
    exact ⟨k, a1, a2⟩
/-! ===== locals by their places ===== -/
def lvR (ls : Array Slot) (nL : Nat) (lv : List (Option Value)) : Prop := ls.size = nL ∧ lv_wf ls ∧ ∀ (i : Nat) (v : Value), lv[i]? = some (some v) → ls[i]? = some (.val v)
def lvp (lv : List (Option Value)) : List (Nat × Value) := (List.range lv.length).filterMap (fun i => (lv[i]?.join).map (fun v => (i, v)))
theorem lvp_mem {lv : List (Option Value)} {i : Nat} {v : Value} : (i, v) ∈ lvp lv ↔ lv[i]? = some (some v) := by
  simp only [lvp, List.mem_filterMap, List.mem_range, Option.map_eq_some_iff, Option.join_eq_some_iff]
  constructor
  · rintro ⟨a, _, b, hb, e⟩
    cases e
    exact hb
  · intro h
    exact ⟨i, (List.getElem?_eq_some_iff.mp h).1, v, h, rfl⟩
theorem lvR_has {ls : Array Slot} {nL : Nat} {lv : List (Option Value)} : lvR ls nL lv ↔ lv_has ls nL (lvp lv) :=
  ⟨fun h => ⟨h.1, h.2.1, fun q hq => h.2.2 q.1 q.2 (lvp_mem.mp hq)⟩, fun h => ⟨h.1, h.2.1, fun i v hi => h.2.2 (i, v) (lvp_mem.mpr hi)⟩⟩
/-- nothing of two words ends in the place i -/
def lvOk (lv : List (Option Value)) (i : Nat) : Bool := match i with
  | 0 => true
  | k + 1 => match lv[k]? with
    | some (some v) => v.category != 2
    | _ => true
theorem lvOk_spec {lv : List (Option Value)} {i k : Nat} {w : Value} (h : lvOk lv i = true) (hk : k + 1 = i) (hw : lv[k]? = some (some w)) : ¬ w.category = 2 := by
  subst hk
  simpa [lvOk, hw] using h
theorem lvR_st1 {ls : Array Slot} {nL : Nat} {lv lv' : List (Option Value)} {i : Nat} {v : Value} (h : lvR ls nL lv) (hi : i < nL) (hc : v.category = 1) (hk : lvOk lv i = true) (hl : lv' = lv.set i (some v)) : ∃ ls', storeLocals ls i v = some ls' ∧ lvR ls' nL lv' := by
  obtain ⟨ls', e, h'⟩ := lv_store1 (v := v) (lvR_has.mp h) hi hc
  refine ⟨ls', e, h'.1, h'.2.1, fun j w hj => ?_⟩
  subst hl
  by_cases hji : i = j
  · subst hji
    rw [List.getElem?_set] at hj
    simp only [if_true] at hj
    split at hj
    · cases hj
      exact h'.2.2 (i, v) List.mem_cons_self
    · cases hj
  · rw [List.getElem?_set_ne hji] at hj
    refine h'.2.2 (j, w) (List.mem_cons_of_mem _ (List.mem_filter.mpr ⟨lvp_mem.mpr hj, ?_⟩))
    have h1 : ¬ j = i := fun q => hji q.symm
    simp only [Bool.and_eq_true, Bool.not_eq_true', beq_eq_false_iff_ne, ne_eq, h1, not_false_eq_true, true_and, Bool.and_eq_false_iff]
    by_cases h2 : j + 1 = i
    · exact Or.inr (lvOk_spec hk h2 hj)
    · exact Or.inl h2
theorem lvR_st2 {ls : Array Slot} {nL : Nat} {lv lv' : List (Option Value)} {i : Nat} {v : Value} (h : lvR ls nL lv) (hi : i + 1 < nL) (hc : v.category = 2) (hk : lvOk lv i = true) (hl : lv' = (lv.set i (some v)).set (i + 1) none) : ∃ ls', storeLocals ls i v = some ls' ∧ lvR ls' nL lv' := by
  obtain ⟨ls', e, h'⟩ := lv_store2 (v := v) (lvR_has.mp h) hi hc
  refine ⟨ls', e, h'.1, h'.2.1, fun j w hj => ?_⟩
  subst hl
  by_cases hj1 : i + 1 = j
  · subst hj1
    rw [List.getElem?_set] at hj
    simp only [if_true] at hj
    split at hj <;> cases hj
  · rw [List.getElem?_set_ne hj1] at hj
    by_cases hji : i = j
    · subst hji
      rw [List.getElem?_set] at hj
      simp only [if_true] at hj
      split at hj
      · cases hj
        exact h'.2.2 (i, v) List.mem_cons_self
      · cases hj
    · rw [List.getElem?_set_ne hji] at hj
      refine h'.2.2 (j, w) (List.mem_cons_of_mem _ (List.mem_filter.mpr ⟨lvp_mem.mpr hj, ?_⟩))
      have h1 : ¬ j = i := fun q => hji q.symm
      have h3 : ¬ j = i + 1 := fun q => hj1 q.symm
      simp only [Bool.and_eq_true, Bool.not_eq_true', beq_eq_false_iff_ne, ne_eq, h1, h3, not_false_eq_true, true_and, Bool.and_eq_false_iff]
      by_cases h2 : j + 1 = i
      · exact Or.inr (lvOk_spec hk h2 hj)
      · exact Or.inl h2
theorem lvR_drop {ls : Array Slot} {nL : Nat} {lv : List (Option Value)} {i : Nat} (h : lvR ls nL lv) : lvR ls nL (lv.set i none) := by
  refine ⟨h.1, h.2.1, fun j w hj => ?_⟩
  by_cases hji : i = j
  · subst hji
    rw [List.getElem?_set] at hj
    simp only [if_true] at hj
    split at hj <;> cases hj
  · rw [List.getElem?_set_ne hji] at hj
    exact h.2.2 j w hj
/-! ===== V ===== -/
/-- the tables' words that stay -/
def tb : List Cond := lw_tbl.filter goodWord
theorem mem_tb {w : Cond} (h : w ∈ lw_tbl) (g : goodWord w = true) : w ∈ tb := List.mem_filter.mpr ⟨h, g⟩
theorem tb_lw {w : Cond} (h : w ∈ tb) : w ∈ lw_tbl := (List.mem_filter.mp h).1
/-- program, launch, environment, room, start, method, arguments, frames below, the method's own, its code, cells and slots made -/
abbrev VX : Type := Program × Launch × Env × Room × State × MethodId × Array Value × List Frame × Method × Code × Nat × Nat
def V (X : VX) (G : VG) (nL : Nat) (Q : State → Prop) (pc : Nat) (lv : List (Option Value)) (st : List Value) (S : St) : Prop :=
  ∀ (H : Heap) (locs : List Loc) (ls : Array Slot), va_P G.1 vwCl (wld G S) H → va_S (Aw G) X.2.2.2.2.1.heap H locs → lvR ls nL lv →
    W X.1 X.2.1 X.2.2.1 X.2.2.2.1 X.2.2.2.2.1 X.2.2.2.2.2.1 X.2.2.2.2.2.2.1 X.2.2.2.2.2.2.2.1 X.2.2.2.2.2.2.2.2.1 X.2.2.2.2.2.2.2.2.2.1 H locs X.2.2.2.2.2.2.2.2.2.2.1 X.2.2.2.2.2.2.2.2.2.2.2 Q (F0 X.2.2.2.2.2.1 pc ls st)
/-- what a method's walk stands on -/
def Fx (X : VX) (G : VG) (cc : ByteArray) (nL : Nat) (own : String) (lev : Nat) : Prop :=
  X.1.tables.exec = Jvm.exec ∧ X.2.2.2.2.2.2.2.2.2.1.code = cc ∧ X.2.2.2.2.2.2.2.2.2.1.maxLocals = nL ∧ X.2.2.2.2.1.vm.findClass own = some X.2.2.2.2.2.1.cls ∧ (∀ w ∈ tb, w.before X.2.2.2.2.2.2.1 X.2.2.2.2.1 = true) ∧ EX G X.2.2.2.2.1 ∧ (lev + 1 ≤ X.2.2.2.1.frames ∧ 40 * (lev + 1) ≤ X.2.2.2.1.locals ∧ X.2.2.2.2.2.2.2.2.2.2.1 ≤ X.2.2.2.1.cells ∧ X.2.2.2.2.2.2.2.2.2.2.2 ≤ X.2.2.2.1.slots) ∧ X.2.2.2.2.2.2.2.2.1.locks = false
/-- an instruction, its length, the next place -/
def Dn (cc : ByteArray) (pc : Nat) (i : Instr) (len n : Nat) : Prop := decode cc pc = .ok (i, len) ∧ pc + len = n
end
section

theorem lvR_of1 {ls' : Array Slot} {nL : Nat} {lv lv' : List (Option Value)} {i : Nat} {v : Value} (h' : lv_has ls' nL ((i, v) :: (lvp lv).filter (fun q => !(q.1 == i) && !(q.1 + 1 == i && q.2.category == 2)))) (hk : lvOk lv i = true) (hl : lv' = lv.set i (some v)) : lvR ls' nL lv' := by
  refine ⟨h'.1, h'.2.1, fun j w hj => ?_⟩
  subst hl
  by_cases hji : i = j
  · subst hji
    rw [List.getElem?_set] at hj
    simp only [if_true] at hj
    split at hj
    · cases hj
      exact h'.2.2 (i, v) List.mem_cons_self
    · cases hj
  · rw [List.getElem?_set_ne hji] at hj
    refine h'.2.2 (j, w) (List.mem_cons_of_mem _ (List.mem_filter.mpr ⟨lvp_mem.mpr hj, ?_⟩))
    have h1 : ¬ j = i := fun q => hji q.symm
    simp only [Bool.and_eq_true, Bool.not_eq_true', beq_eq_false_iff_ne, ne_eq, h1, not_false_eq_true, true_and, Bool.and_eq_false_iff]
    by_cases h2 : j + 1 = i
    · exact Or.inr (lvOk_spec hk h2 hj)
    · exact Or.inl h2
theorem lvR_of2 {ls' : Array Slot} {nL : Nat} {lv lv' : List (Option Value)} {i : Nat} {v : Value} (h' : lv_has ls' nL ((i, v) :: (lvp lv).filter (fun q => !(q.1 == i) && (!(q.1 == i + 1) && !(q.1 + 1 == i && q.2.category == 2))))) (hk : lvOk lv i = true) (hl : lv' = (lv.set i (some v)).set (i + 1) none) : lvR ls' nL lv' := by
  refine ⟨h'.1, h'.2.1, fun j w hj => ?_⟩
  subst hl
  by_cases hj1 : i + 1 = j
  · subst hj1
    rw [List.getElem?_set] at hj
    simp only [if_true] at hj
    split at hj <;> cases hj
  · rw [List.getElem?_set_ne hj1] at hj
    by_cases hji : i = j
    · subst hji
      rw [List.getElem?_set] at hj
      simp only [if_true] at hj
      split at hj
      · cases hj
        exact h'.2.2 (i, v) List.mem_cons_self
      · cases hj
    · rw [List.getElem?_set_ne hji] at hj
      refine h'.2.2 (j, w) (List.mem_cons_of_mem _ (List.mem_filter.mpr ⟨lvp_mem.mpr hj, ?_⟩))
      have h1 : ¬ j = i := fun q => hji q.symm
      have h3 : ¬ j = i + 1 := fun q => hj1 q.symm
      simp only [Bool.and_eq_true, Bool.not_eq_true', beq_eq_false_iff_ne, ne_eq, h1, h3, not_false_eq_true, true_and, Bool.and_eq_false_iff]
      by_cases h2 : j + 1 = i
      · exact Or.inr (lvOk_spec hk h2 hj)
      · exact Or.inl h2
/-- a class of the world's list, its words among the tables', its types -/
def Cl (ci : Nat) (C : String) (T : u_T) (N : Nat) (ty : Nat → FieldType) : Prop := vwCl[ci]? = some (C, T, N) ∧ (∀ w ∈ u_ws C T N, w ∈ tb) ∧ (∀ k, k < N → parseFieldDescriptor (T k).2.2.1 = some (ty k)) ∧ ∀ a, a < N → ∀ b, b < N → a ≠ b → (T a).2.1 ≠ (T b).2.1
def isB (v : Int32) : Bool := v == 0 || v == 1
theorem isB_or {v : Int32} (h : isB v = true) : v = 0 ∨ v = 1 := by simpa [isB] using h
/-- an index within a row -/
def inB (i : Int32) (n : Nat) : Bool := decide (0 ≤ i) && decide (i.toNatClampNeg < n)
theorem inB_in {i : Int32} {n : Nat} (h : inB i n = true) : vp_in i n := by
  simp only [inB, Bool.and_eq_true, decide_eq_true_eq] at h
  rintro (h1 | h1)
  · exact absurd h.1 (Int32.not_le.mpr h1)
  · omega
theorem sN_row {S : St} {c j : Nat} {v : Int32} : (sN S c j v).1 c = upd (S.1 c) j v := by simp only [sN, up_eq]; rfl
theorem sJ_row {S : St} {c j : Nat} {v : Int64} : (sJ S c j v).2.1 c = vp_updL (S.2.1 c) j v := by simp only [sJ, up_eq]; rfl
theorem v_drop {X : VX} {G : VG} {nL pc : Nat} {Q : State → Prop} {lv lv' : List (Option Value)} {st : List Value} {S : St} (i : Nat) (h : lv' = lv.set i none) (k : V X G nL Q pc lv' st S) : V X G nL Q pc lv st S := by
  subst h
  exact fun H locs ls hP hS hl => k H locs ls hP hS (lvR_drop hl)
theorem v_iconst {X : VX} {G : VG} {cc : ByteArray} {nL lev pc n : Nat} {own : String} {Q : State → Prop} {lv : List (Option Value)} {st : List Value} {S : St} (hX : Fx X G cc nL own lev) {z : Int} {v : Int32} (hd : Dn cc pc (.iconst z) 1 n) (hv : Int32.ofInt z = v) (k : V X G nL Q n lv (.int v :: st) S) : V X G nL Q pc lv (st) S := by
  obtain ⟨hd, rfl⟩ := hd
  obtain ⟨hx, hb, hml, hown, hts, hE, hR, hlk⟩ := hX
  intro H locs ls hP hS hl
  exact lv_iconst hx hb hd hv (k H locs ls hP hS hl)

theorem v_bipush {X : VX} {G : VG} {cc : ByteArray} {nL lev pc n : Nat} {own : String} {Q : State → Prop} {lv : List (Option Value)} {st : List Value} {S : St} (hX : Fx X G cc nL own lev) {z : Int} {v : Int32} (hd : Dn cc pc (.bipush z) 2 n) (hv : (Int8.ofInt z).toInt32 = v) (k : V X G nL Q n lv (.int v :: st) S) : V X G nL Q pc lv (st) S := by
  obtain ⟨hd, rfl⟩ := hd
  obtain ⟨hx, hb, hml, hown, hts, hE, hR, hlk⟩ := hX
  intro H locs ls hP hS hl
  exact lv_bipush hx hb hd hv (k H locs ls hP hS hl)

theorem v_sipush {X : VX} {G : VG} {cc : ByteArray} {nL lev pc n : Nat} {own : String} {Q : State → Prop} {lv : List (Option Value)} {st : List Value} {S : St} (hX : Fx X G cc nL own lev) {z : Int} {v : Int32} (hd : Dn cc pc (.sipush z) 3 n) (hv : (Int16.ofInt z).toInt32 = v) (k : V X G nL Q n lv (.int v :: st) S) : V X G nL Q pc lv (st) S := by
  obtain ⟨hd, rfl⟩ := hd
  obtain ⟨hx, hb, hml, hown, hts, hE, hR, hlk⟩ := hX
  intro H locs ls hP hS hl
  exact lv_sipush hx hb hd hv (k H locs ls hP hS hl)

theorem v_lconst {X : VX} {G : VG} {cc : ByteArray} {nL lev pc n : Nat} {own : String} {Q : State → Prop} {lv : List (Option Value)} {st : List Value} {S : St} (hX : Fx X G cc nL own lev) {z : Fin 2} {v : Int64} (hd : Dn cc pc (.lconst z) 1 n) (hv : Int64.ofNat (z : Nat) = v) (k : V X G nL Q n lv (.long v :: st) S) : V X G nL Q pc lv (st) S := by
  obtain ⟨hd, rfl⟩ := hd
  obtain ⟨hx, hb, hml, hown, hts, hE, hR, hlk⟩ := hX
  intro H locs ls hP hS hl
  exact lv_lconst hx hb hd hv (k H locs ls hP hS hl)

theorem v_ldc {X : VX} {G : VG} {cc : ByteArray} {nL lev pc n : Nat} {own : String} {Q : State → Prop} {lv : List (Option Value)} {st : List Value} {S : St} (hX : Fx X G cc nL own lev) {i : Nat} {v : Int32} (hd : Dn cc pc (.ldc i) 2 n) (hc : Cond.constant own i v ∈ tb) (k : V X G nL Q n lv (.int v :: st) S) : V X G nL Q pc lv (st) S := by
  obtain ⟨hd, rfl⟩ := hd
  obtain ⟨hx, hb, hml, hown, hts, hE, hR, hlk⟩ := hX
  intro H locs ls hP hS hl
  exact lv_ldc hx hb hown (hts _ hc) hd (k H locs ls hP hS hl)

theorem v_ldcw {X : VX} {G : VG} {cc : ByteArray} {nL lev pc n : Nat} {own : String} {Q : State → Prop} {lv : List (Option Value)} {st : List Value} {S : St} (hX : Fx X G cc nL own lev) {i : Nat} {v : Int32} (hd : Dn cc pc (.ldc_w i) 3 n) (hc : Cond.constant own i v ∈ tb) (k : V X G nL Q n lv (.int v :: st) S) : V X G nL Q pc lv (st) S := by
  obtain ⟨hd, rfl⟩ := hd
  obtain ⟨hx, hb, hml, hown, hts, hE, hR, hlk⟩ := hX
  intro H locs ls hP hS hl
  exact lv_ldcw hx hb hown (hts _ hc) hd (k H locs ls hP hS hl)

theorem v_ldc2 {X : VX} {G : VG} {cc : ByteArray} {nL lev pc n : Nat} {own : String} {Q : State → Prop} {lv : List (Option Value)} {st : List Value} {S : St} (hX : Fx X G cc nL own lev) {i : Nat} {v : Int64} (hd : Dn cc pc (.ldc2_w i) 3 n) (hc : Cond.constantLong own i v ∈ tb) (k : V X G nL Q n lv (.long v :: st) S) : V X G nL Q pc lv (st) S := by
  obtain ⟨hd, rfl⟩ := hd
  obtain ⟨hx, hb, hml, hown, hts, hE, hR, hlk⟩ := hX
  intro H locs ls hP hS hl
  exact lv_ldc2 hx hb hown (hts _ hc) hd (k H locs ls hP hS hl)

theorem v_iload {X : VX} {G : VG} {cc : ByteArray} {nL lev pc n : Nat} {own : String} {Q : State → Prop} {lv : List (Option Value)} {st : List Value} {S : St} (hX : Fx X G cc nL own lev) {i : Nat} {x : Int32} (hd : Dn cc pc (.iload i) 2 n) (hv : lv[i]? = some (some (.int x))) (k : V X G nL Q n lv (.int x :: st) S) : V X G nL Q pc lv (st) S := by
  obtain ⟨hd, rfl⟩ := hd
  obtain ⟨hx, hb, hml, hown, hts, hE, hR, hlk⟩ := hX
  intro H locs ls hP hS hl
  exact lv_iload hx hb hd (hl.2.2 _ _ hv) (k H locs ls hP hS hl)

theorem v_iload_n {X : VX} {G : VG} {cc : ByteArray} {nL lev pc n : Nat} {own : String} {Q : State → Prop} {lv : List (Option Value)} {st : List Value} {S : St} (hX : Fx X G cc nL own lev) {i : Fin 4} {x : Int32} (hd : Dn cc pc (.iload_n i) 1 n) (hv : lv[(i : Nat)]? = some (some (.int x))) (k : V X G nL Q n lv (.int x :: st) S) : V X G nL Q pc lv (st) S := by
  obtain ⟨hd, rfl⟩ := hd
  obtain ⟨hx, hb, hml, hown, hts, hE, hR, hlk⟩ := hX
  intro H locs ls hP hS hl
  exact lv_iload_n hx hb hd rfl (hl.2.2 _ _ hv) (k H locs ls hP hS hl)

theorem v_lload {X : VX} {G : VG} {cc : ByteArray} {nL lev pc n : Nat} {own : String} {Q : State → Prop} {lv : List (Option Value)} {st : List Value} {S : St} (hX : Fx X G cc nL own lev) {i : Nat} {x : Int64} (hd : Dn cc pc (.lload i) 2 n) (hv : lv[i]? = some (some (.long x))) (k : V X G nL Q n lv (.long x :: st) S) : V X G nL Q pc lv (st) S := by
  obtain ⟨hd, rfl⟩ := hd
  obtain ⟨hx, hb, hml, hown, hts, hE, hR, hlk⟩ := hX
  intro H locs ls hP hS hl
  exact lv_lload hx hb hd (hl.2.2 _ _ hv) (k H locs ls hP hS hl)

theorem v_lload_n {X : VX} {G : VG} {cc : ByteArray} {nL lev pc n : Nat} {own : String} {Q : State → Prop} {lv : List (Option Value)} {st : List Value} {S : St} (hX : Fx X G cc nL own lev) {i : Fin 4} {x : Int64} (hd : Dn cc pc (.lload_n i) 1 n) (hv : lv[(i : Nat)]? = some (some (.long x))) (k : V X G nL Q n lv (.long x :: st) S) : V X G nL Q pc lv (st) S := by
  obtain ⟨hd, rfl⟩ := hd
  obtain ⟨hx, hb, hml, hown, hts, hE, hR, hlk⟩ := hX
  intro H locs ls hP hS hl
  exact lv_lload_n hx hb hd rfl (hl.2.2 _ _ hv) (k H locs ls hP hS hl)

theorem v_aload {X : VX} {G : VG} {cc : ByteArray} {nL lev pc n : Nat} {own : String} {Q : State → Prop} {lv : List (Option Value)} {st : List Value} {S : St} (hX : Fx X G cc nL own lev) {i : Nat} {x : Nat} (hd : Dn cc pc (.aload i) 2 n) (hv : lv[i]? = some (some (.ref x))) (k : V X G nL Q n lv (.ref x :: st) S) : V X G nL Q pc lv (st) S := by
  obtain ⟨hd, rfl⟩ := hd
  obtain ⟨hx, hb, hml, hown, hts, hE, hR, hlk⟩ := hX
  intro H locs ls hP hS hl
  exact lv_aload hx hb hd (hl.2.2 _ _ hv) (k H locs ls hP hS hl)

theorem v_aload_n {X : VX} {G : VG} {cc : ByteArray} {nL lev pc n : Nat} {own : String} {Q : State → Prop} {lv : List (Option Value)} {st : List Value} {S : St} (hX : Fx X G cc nL own lev) {i : Fin 4} {x : Nat} (hd : Dn cc pc (.aload_n i) 1 n) (hv : lv[(i : Nat)]? = some (some (.ref x))) (k : V X G nL Q n lv (.ref x :: st) S) : V X G nL Q pc lv (st) S := by
  obtain ⟨hd, rfl⟩ := hd
  obtain ⟨hx, hb, hml, hown, hts, hE, hR, hlk⟩ := hX
  intro H locs ls hP hS hl
  exact lv_aload_n hx hb hd rfl (hl.2.2 _ _ hv) (k H locs ls hP hS hl)

theorem v_istore {X : VX} {G : VG} {cc : ByteArray} {nL lev pc n : Nat} {own : String} {Q : State → Prop} {lv : List (Option Value)} {st : List Value} {S : St} (hX : Fx X G cc nL own lev) {i : Nat} {x : Int32} {lv' : List (Option Value)} (hd : Dn cc pc (.istore i) 2 n) (hi : i < nL) (ho : lvOk lv i = true) (hv : lv' = lv.set i (some (.int x))) (k : V X G nL Q n lv' st S) : V X G nL Q pc lv (.int x :: st) S := by
  obtain ⟨hd, rfl⟩ := hd
  obtain ⟨hx, hb, hml, hown, hts, hE, hR, hlk⟩ := hX
  intro H locs ls hP hS hl
  exact lv_istore hx hb hd (lvR_has.mp hl) hi rfl (fun ls' hl' => k H locs ls' hP hS (lvR_of1 hl' ho hv))

theorem v_istore_n {X : VX} {G : VG} {cc : ByteArray} {nL lev pc n : Nat} {own : String} {Q : State → Prop} {lv : List (Option Value)} {st : List Value} {S : St} (hX : Fx X G cc nL own lev) {i : Fin 4} {x : Int32} {lv' : List (Option Value)} (hd : Dn cc pc (.istore_n i) 1 n) (hi : (i : Nat) < nL) (ho : lvOk lv (i : Nat) = true) (hv : lv' = lv.set (i : Nat) (some (.int x))) (k : V X G nL Q n lv' st S) : V X G nL Q pc lv (.int x :: st) S := by
  obtain ⟨hd, rfl⟩ := hd
  obtain ⟨hx, hb, hml, hown, hts, hE, hR, hlk⟩ := hX
  intro H locs ls hP hS hl
  exact lv_istore_n hx hb hd rfl (lvR_has.mp hl) hi rfl (fun ls' hl' => k H locs ls' hP hS (lvR_of1 hl' ho hv))

theorem v_lstore {X : VX} {G : VG} {cc : ByteArray} {nL lev pc n : Nat} {own : String} {Q : State → Prop} {lv : List (Option Value)} {st : List Value} {S : St} (hX : Fx X G cc nL own lev) {i : Nat} {x : Int64} {lv' : List (Option Value)} (hd : Dn cc pc (.lstore i) 2 n) (hi : i + 1 < nL) (ho : lvOk lv i = true) (hv : lv' = (lv.set i (some (.long x))).set (i + 1) none) (k : V X G nL Q n lv' st S) : V X G nL Q pc lv (.long x :: st) S := by
  obtain ⟨hd, rfl⟩ := hd
  obtain ⟨hx, hb, hml, hown, hts, hE, hR, hlk⟩ := hX
  intro H locs ls hP hS hl
  exact lv_lstore hx hb hd (lvR_has.mp hl) hi rfl (fun ls' hl' => k H locs ls' hP hS (lvR_of2 hl' ho hv))

theorem v_lstore_n {X : VX} {G : VG} {cc : ByteArray} {nL lev pc n : Nat} {own : String} {Q : State → Prop} {lv : List (Option Value)} {st : List Value} {S : St} (hX : Fx X G cc nL own lev) {i : Fin 4} {x : Int64} {lv' : List (Option Value)} (hd : Dn cc pc (.lstore_n i) 1 n) (hi : (i : Nat) + 1 < nL) (ho : lvOk lv (i : Nat) = true) (hv : lv' = (lv.set (i : Nat) (some (.long x))).set ((i : Nat) + 1) none) (k : V X G nL Q n lv' st S) : V X G nL Q pc lv (.long x :: st) S := by
  obtain ⟨hd, rfl⟩ := hd
  obtain ⟨hx, hb, hml, hown, hts, hE, hR, hlk⟩ := hX
  intro H locs ls hP hS hl
  exact lv_lstore_n hx hb hd rfl (lvR_has.mp hl) hi rfl (fun ls' hl' => k H locs ls' hP hS (lvR_of2 hl' ho hv))

theorem v_astore {X : VX} {G : VG} {cc : ByteArray} {nL lev pc n : Nat} {own : String} {Q : State → Prop} {lv : List (Option Value)} {st : List Value} {S : St} (hX : Fx X G cc nL own lev) {i : Nat} {x : Nat} {lv' : List (Option Value)} (hd : Dn cc pc (.astore i) 2 n) (hi : i < nL) (ho : lvOk lv i = true) (hv : lv' = lv.set i (some (.ref x))) (k : V X G nL Q n lv' st S) : V X G nL Q pc lv (.ref x :: st) S := by
  obtain ⟨hd, rfl⟩ := hd
  obtain ⟨hx, hb, hml, hown, hts, hE, hR, hlk⟩ := hX
  intro H locs ls hP hS hl
  exact lv_astore hx hb hd (lvR_has.mp hl) hi rfl (fun ls' hl' => k H locs ls' hP hS (lvR_of1 hl' ho hv))

theorem v_astore_n {X : VX} {G : VG} {cc : ByteArray} {nL lev pc n : Nat} {own : String} {Q : State → Prop} {lv : List (Option Value)} {st : List Value} {S : St} (hX : Fx X G cc nL own lev) {i : Fin 4} {x : Nat} {lv' : List (Option Value)} (hd : Dn cc pc (.astore_n i) 1 n) (hi : (i : Nat) < nL) (ho : lvOk lv (i : Nat) = true) (hv : lv' = lv.set (i : Nat) (some (.ref x))) (k : V X G nL Q n lv' st S) : V X G nL Q pc lv (.ref x :: st) S := by
  obtain ⟨hd, rfl⟩ := hd
  obtain ⟨hx, hb, hml, hown, hts, hE, hR, hlk⟩ := hX
  intro H locs ls hP hS hl
  exact lv_astore_n hx hb hd rfl (lvR_has.mp hl) hi rfl (fun ls' hl' => k H locs ls' hP hS (lvR_of1 hl' ho hv))

theorem v_iinc {X : VX} {G : VG} {cc : ByteArray} {nL lev pc n : Nat} {own : String} {Q : State → Prop} {lv : List (Option Value)} {st : List Value} {S : St} (hX : Fx X G cc nL own lev) {i : Nat} {z : Int} {x y : Int32} {lv' : List (Option Value)} (hd : Dn cc pc (.iinc i z) 3 n) (hx0 : lv[i]? = some (some (.int x))) (hy : x + Int32.ofInt z = y) (hi : i < nL) (ho : lvOk lv i = true) (hv : lv' = lv.set i (some (.int y))) (k : V X G nL Q n lv' st S) : V X G nL Q pc lv st S := by
  obtain ⟨hd, rfl⟩ := hd
  obtain ⟨hx, hb, hml, hown, hts, hE, hR, hlk⟩ := hX
  intro H locs ls hP hS hl
  obtain ⟨kk, hkk⟩ := List.getElem?_of_mem (lvp_mem.mpr hx0)
  exact lv_iinc hx hb hd (lvR_has.mp hl) hkk hy hi rfl (fun ls' hl' => k H locs ls' hP hS (lvR_of1 hl' ho hv))

theorem v_iadd {X : VX} {G : VG} {cc : ByteArray} {nL lev pc n : Nat} {own : String} {Q : State → Prop} {lv : List (Option Value)} {st : List Value} {S : St} (hX : Fx X G cc nL own lev) {x y : Int32} (hd : Dn cc pc (.iadd) 1 n)  (k : V X G nL Q n lv (.int (x + y) :: st) S) : V X G nL Q pc lv (.int y :: .int x :: st) S := by
  obtain ⟨hd, rfl⟩ := hd
  obtain ⟨hx, hb, hml, hown, hts, hE, hR, hlk⟩ := hX
  intro H locs ls hP hS hl
  exact lv_iadd hx hb hd (k H locs ls hP hS hl)

theorem v_isub {X : VX} {G : VG} {cc : ByteArray} {nL lev pc n : Nat} {own : String} {Q : State → Prop} {lv : List (Option Value)} {st : List Value} {S : St} (hX : Fx X G cc nL own lev) {x y : Int32} (hd : Dn cc pc (.isub) 1 n)  (k : V X G nL Q n lv (.int (x - y) :: st) S) : V X G nL Q pc lv (.int y :: .int x :: st) S := by
  obtain ⟨hd, rfl⟩ := hd
  obtain ⟨hx, hb, hml, hown, hts, hE, hR, hlk⟩ := hX
  intro H locs ls hP hS hl
  exact lv_isub hx hb hd (k H locs ls hP hS hl)

theorem v_imul {X : VX} {G : VG} {cc : ByteArray} {nL lev pc n : Nat} {own : String} {Q : State → Prop} {lv : List (Option Value)} {st : List Value} {S : St} (hX : Fx X G cc nL own lev) {x y : Int32} (hd : Dn cc pc (.imul) 1 n)  (k : V X G nL Q n lv (.int (x * y) :: st) S) : V X G nL Q pc lv (.int y :: .int x :: st) S := by
  obtain ⟨hd, rfl⟩ := hd
  obtain ⟨hx, hb, hml, hown, hts, hE, hR, hlk⟩ := hX
  intro H locs ls hP hS hl
  exact lv_imul hx hb hd (k H locs ls hP hS hl)

theorem v_iand {X : VX} {G : VG} {cc : ByteArray} {nL lev pc n : Nat} {own : String} {Q : State → Prop} {lv : List (Option Value)} {st : List Value} {S : St} (hX : Fx X G cc nL own lev) {x y : Int32} (hd : Dn cc pc (.iand) 1 n)  (k : V X G nL Q n lv (.int (x &&& y) :: st) S) : V X G nL Q pc lv (.int y :: .int x :: st) S := by
  obtain ⟨hd, rfl⟩ := hd
  obtain ⟨hx, hb, hml, hown, hts, hE, hR, hlk⟩ := hX
  intro H locs ls hP hS hl
  exact lv_iand hx hb hd (k H locs ls hP hS hl)

theorem v_ior {X : VX} {G : VG} {cc : ByteArray} {nL lev pc n : Nat} {own : String} {Q : State → Prop} {lv : List (Option Value)} {st : List Value} {S : St} (hX : Fx X G cc nL own lev) {x y : Int32} (hd : Dn cc pc (.ior) 1 n)  (k : V X G nL Q n lv (.int (x ||| y) :: st) S) : V X G nL Q pc lv (.int y :: .int x :: st) S := by
  obtain ⟨hd, rfl⟩ := hd
  obtain ⟨hx, hb, hml, hown, hts, hE, hR, hlk⟩ := hX
  intro H locs ls hP hS hl
  exact lv_ior hx hb hd (k H locs ls hP hS hl)

theorem v_ixor {X : VX} {G : VG} {cc : ByteArray} {nL lev pc n : Nat} {own : String} {Q : State → Prop} {lv : List (Option Value)} {st : List Value} {S : St} (hX : Fx X G cc nL own lev) {x y : Int32} (hd : Dn cc pc (.ixor) 1 n)  (k : V X G nL Q n lv (.int (x ^^^ y) :: st) S) : V X G nL Q pc lv (.int y :: .int x :: st) S := by
  obtain ⟨hd, rfl⟩ := hd
  obtain ⟨hx, hb, hml, hown, hts, hE, hR, hlk⟩ := hX
  intro H locs ls hP hS hl
  exact lv_ixor hx hb hd (k H locs ls hP hS hl)

theorem v_ishl {X : VX} {G : VG} {cc : ByteArray} {nL lev pc n : Nat} {own : String} {Q : State → Prop} {lv : List (Option Value)} {st : List Value} {S : St} (hX : Fx X G cc nL own lev) {x y : Int32} (hd : Dn cc pc (.ishl) 1 n)  (k : V X G nL Q n lv (.int (x <<< (y &&& 31)) :: st) S) : V X G nL Q pc lv (.int y :: .int x :: st) S := by
  obtain ⟨hd, rfl⟩ := hd
  obtain ⟨hx, hb, hml, hown, hts, hE, hR, hlk⟩ := hX
  intro H locs ls hP hS hl
  exact lv_ishl hx hb hd (k H locs ls hP hS hl)

theorem v_ishr {X : VX} {G : VG} {cc : ByteArray} {nL lev pc n : Nat} {own : String} {Q : State → Prop} {lv : List (Option Value)} {st : List Value} {S : St} (hX : Fx X G cc nL own lev) {x y : Int32} (hd : Dn cc pc (.ishr) 1 n)  (k : V X G nL Q n lv (.int (x >>> (y &&& 31)) :: st) S) : V X G nL Q pc lv (.int y :: .int x :: st) S := by
  obtain ⟨hd, rfl⟩ := hd
  obtain ⟨hx, hb, hml, hown, hts, hE, hR, hlk⟩ := hX
  intro H locs ls hP hS hl
  exact lv_ishr hx hb hd (k H locs ls hP hS hl)

theorem v_idiv {X : VX} {G : VG} {cc : ByteArray} {nL lev pc n : Nat} {own : String} {Q : State → Prop} {lv : List (Option Value)} {st : List Value} {S : St} (hX : Fx X G cc nL own lev) {x y : Int32} (hd : Dn cc pc (.idiv) 1 n) (hne : ¬ y = 0) (k : V X G nL Q n lv (.int (x / y) :: st) S) : V X G nL Q pc lv (.int y :: .int x :: st) S := by
  obtain ⟨hd, rfl⟩ := hd
  obtain ⟨hx, hb, hml, hown, hts, hE, hR, hlk⟩ := hX
  intro H locs ls hP hS hl
  exact lv_idiv hx hb hd hne (k H locs ls hP hS hl)

theorem v_irem {X : VX} {G : VG} {cc : ByteArray} {nL lev pc n : Nat} {own : String} {Q : State → Prop} {lv : List (Option Value)} {st : List Value} {S : St} (hX : Fx X G cc nL own lev) {x y : Int32} (hd : Dn cc pc (.irem) 1 n) (hne : ¬ y = 0) (k : V X G nL Q n lv (.int (x - x / y * y) :: st) S) : V X G nL Q pc lv (.int y :: .int x :: st) S := by
  obtain ⟨hd, rfl⟩ := hd
  obtain ⟨hx, hb, hml, hown, hts, hE, hR, hlk⟩ := hX
  intro H locs ls hP hS hl
  exact lv_irem hx hb hd hne (k H locs ls hP hS hl)

theorem v_ladd {X : VX} {G : VG} {cc : ByteArray} {nL lev pc n : Nat} {own : String} {Q : State → Prop} {lv : List (Option Value)} {st : List Value} {S : St} (hX : Fx X G cc nL own lev) {x y : Int64} (hd : Dn cc pc (.ladd) 1 n)  (k : V X G nL Q n lv (.long (x + y) :: st) S) : V X G nL Q pc lv (.long y :: .long x :: st) S := by
  obtain ⟨hd, rfl⟩ := hd
  obtain ⟨hx, hb, hml, hown, hts, hE, hR, hlk⟩ := hX
  intro H locs ls hP hS hl
  exact lv_ladd hx hb hd (k H locs ls hP hS hl)

theorem v_lsub {X : VX} {G : VG} {cc : ByteArray} {nL lev pc n : Nat} {own : String} {Q : State → Prop} {lv : List (Option Value)} {st : List Value} {S : St} (hX : Fx X G cc nL own lev) {x y : Int64} (hd : Dn cc pc (.lsub) 1 n)  (k : V X G nL Q n lv (.long (x - y) :: st) S) : V X G nL Q pc lv (.long y :: .long x :: st) S := by
  obtain ⟨hd, rfl⟩ := hd
  obtain ⟨hx, hb, hml, hown, hts, hE, hR, hlk⟩ := hX
  intro H locs ls hP hS hl
  exact lv_lsub hx hb hd (k H locs ls hP hS hl)

theorem v_lmul {X : VX} {G : VG} {cc : ByteArray} {nL lev pc n : Nat} {own : String} {Q : State → Prop} {lv : List (Option Value)} {st : List Value} {S : St} (hX : Fx X G cc nL own lev) {x y : Int64} (hd : Dn cc pc (.lmul) 1 n)  (k : V X G nL Q n lv (.long (x * y) :: st) S) : V X G nL Q pc lv (.long y :: .long x :: st) S := by
  obtain ⟨hd, rfl⟩ := hd
  obtain ⟨hx, hb, hml, hown, hts, hE, hR, hlk⟩ := hX
  intro H locs ls hP hS hl
  exact lv_lmul hx hb hd (k H locs ls hP hS hl)

theorem v_land {X : VX} {G : VG} {cc : ByteArray} {nL lev pc n : Nat} {own : String} {Q : State → Prop} {lv : List (Option Value)} {st : List Value} {S : St} (hX : Fx X G cc nL own lev) {x y : Int64} (hd : Dn cc pc (.land) 1 n)  (k : V X G nL Q n lv (.long (x &&& y) :: st) S) : V X G nL Q pc lv (.long y :: .long x :: st) S := by
  obtain ⟨hd, rfl⟩ := hd
  obtain ⟨hx, hb, hml, hown, hts, hE, hR, hlk⟩ := hX
  intro H locs ls hP hS hl
  exact lv_land hx hb hd (k H locs ls hP hS hl)

theorem v_lor {X : VX} {G : VG} {cc : ByteArray} {nL lev pc n : Nat} {own : String} {Q : State → Prop} {lv : List (Option Value)} {st : List Value} {S : St} (hX : Fx X G cc nL own lev) {x y : Int64} (hd : Dn cc pc (.lor) 1 n)  (k : V X G nL Q n lv (.long (x ||| y) :: st) S) : V X G nL Q pc lv (.long y :: .long x :: st) S := by
  obtain ⟨hd, rfl⟩ := hd
  obtain ⟨hx, hb, hml, hown, hts, hE, hR, hlk⟩ := hX
  intro H locs ls hP hS hl
  exact lv_lor hx hb hd (k H locs ls hP hS hl)

theorem v_ldiv {X : VX} {G : VG} {cc : ByteArray} {nL lev pc n : Nat} {own : String} {Q : State → Prop} {lv : List (Option Value)} {st : List Value} {S : St} (hX : Fx X G cc nL own lev) {x y : Int64} (hd : Dn cc pc (.ldiv) 1 n) (hne : ¬ y = 0) (k : V X G nL Q n lv (.long (x / y) :: st) S) : V X G nL Q pc lv (.long y :: .long x :: st) S := by
  obtain ⟨hd, rfl⟩ := hd
  obtain ⟨hx, hb, hml, hown, hts, hE, hR, hlk⟩ := hX
  intro H locs ls hP hS hl
  exact lv_ldiv hx hb hd hne (k H locs ls hP hS hl)

theorem v_lrem {X : VX} {G : VG} {cc : ByteArray} {nL lev pc n : Nat} {own : String} {Q : State → Prop} {lv : List (Option Value)} {st : List Value} {S : St} (hX : Fx X G cc nL own lev) {x y : Int64} (hd : Dn cc pc (.lrem) 1 n) (hne : ¬ y = 0) (k : V X G nL Q n lv (.long (x - x / y * y) :: st) S) : V X G nL Q pc lv (.long y :: .long x :: st) S := by
  obtain ⟨hd, rfl⟩ := hd
  obtain ⟨hx, hb, hml, hown, hts, hE, hR, hlk⟩ := hX
  intro H locs ls hP hS hl
  exact lv_lrem hx hb hd hne (k H locs ls hP hS hl)

theorem v_lshl {X : VX} {G : VG} {cc : ByteArray} {nL lev pc n : Nat} {own : String} {Q : State → Prop} {lv : List (Option Value)} {st : List Value} {S : St} (hX : Fx X G cc nL own lev) {x : Int64} {y : Int32} (hd : Dn cc pc (.lshl) 1 n)  (k : V X G nL Q n lv (.long (x <<< (y.toInt64 &&& 63)) :: st) S) : V X G nL Q pc lv (.int y :: .long x :: st) S := by
  obtain ⟨hd, rfl⟩ := hd
  obtain ⟨hx, hb, hml, hown, hts, hE, hR, hlk⟩ := hX
  intro H locs ls hP hS hl
  exact lv_lshl hx hb hd rfl (k H locs ls hP hS hl)

theorem v_lshr {X : VX} {G : VG} {cc : ByteArray} {nL lev pc n : Nat} {own : String} {Q : State → Prop} {lv : List (Option Value)} {st : List Value} {S : St} (hX : Fx X G cc nL own lev) {x : Int64} {y : Int32} (hd : Dn cc pc (.lshr) 1 n)  (k : V X G nL Q n lv (.long (x >>> (y.toInt64 &&& 63)) :: st) S) : V X G nL Q pc lv (.int y :: .long x :: st) S := by
  obtain ⟨hd, rfl⟩ := hd
  obtain ⟨hx, hb, hml, hown, hts, hE, hR, hlk⟩ := hX
  intro H locs ls hP hS hl
  exact lv_lshr hx hb hd rfl (k H locs ls hP hS hl)

theorem v_lushr {X : VX} {G : VG} {cc : ByteArray} {nL lev pc n : Nat} {own : String} {Q : State → Prop} {lv : List (Option Value)} {st : List Value} {S : St} (hX : Fx X G cc nL own lev) {x : Int64} {y : Int32} (hd : Dn cc pc (.lushr) 1 n)  (k : V X G nL Q n lv (.long ((x.toUInt64 >>> (y.toInt64.toUInt64 &&& Int64.toUInt64 63)).toInt64) :: st) S) : V X G nL Q pc lv (.int y :: .long x :: st) S := by
  obtain ⟨hd, rfl⟩ := hd
  obtain ⟨hx, hb, hml, hown, hts, hE, hR, hlk⟩ := hX
  intro H locs ls hP hS hl
  exact lv_lushr hx hb hd rfl (k H locs ls hP hS hl)

theorem v_i2l {X : VX} {G : VG} {cc : ByteArray} {nL lev pc n : Nat} {own : String} {Q : State → Prop} {lv : List (Option Value)} {st : List Value} {S : St} (hX : Fx X G cc nL own lev) {x : Int32} (hd : Dn cc pc (.i2l) 1 n)  (k : V X G nL Q n lv (.long x.toInt64 :: st) S) : V X G nL Q pc lv (.int x :: st) S := by
  obtain ⟨hd, rfl⟩ := hd
  obtain ⟨hx, hb, hml, hown, hts, hE, hR, hlk⟩ := hX
  intro H locs ls hP hS hl
  exact lv_i2l hx hb hd rfl (k H locs ls hP hS hl)

theorem v_l2i {X : VX} {G : VG} {cc : ByteArray} {nL lev pc n : Nat} {own : String} {Q : State → Prop} {lv : List (Option Value)} {st : List Value} {S : St} (hX : Fx X G cc nL own lev) {x : Int64} (hd : Dn cc pc (.l2i) 1 n)  (k : V X G nL Q n lv (.int x.toInt32 :: st) S) : V X G nL Q pc lv (.long x :: st) S := by
  obtain ⟨hd, rfl⟩ := hd
  obtain ⟨hx, hb, hml, hown, hts, hE, hR, hlk⟩ := hX
  intro H locs ls hP hS hl
  exact lv_l2i hx hb hd rfl (k H locs ls hP hS hl)

theorem v_i2b {X : VX} {G : VG} {cc : ByteArray} {nL lev pc n : Nat} {own : String} {Q : State → Prop} {lv : List (Option Value)} {st : List Value} {S : St} (hX : Fx X G cc nL own lev) {x : Int32} (hd : Dn cc pc (.i2b) 1 n)  (k : V X G nL Q n lv (.int x.toInt8.toInt32 :: st) S) : V X G nL Q pc lv (.int x :: st) S := by
  obtain ⟨hd, rfl⟩ := hd
  obtain ⟨hx, hb, hml, hown, hts, hE, hR, hlk⟩ := hX
  intro H locs ls hP hS hl
  exact lv_i2b hx hb hd rfl (k H locs ls hP hS hl)

theorem v_i2c {X : VX} {G : VG} {cc : ByteArray} {nL lev pc n : Nat} {own : String} {Q : State → Prop} {lv : List (Option Value)} {st : List Value} {S : St} (hX : Fx X G cc nL own lev) {x : Int32} (hd : Dn cc pc (.i2c) 1 n)  (k : V X G nL Q n lv (.int (x.toUInt32 % 65536).toInt32 :: st) S) : V X G nL Q pc lv (.int x :: st) S := by
  obtain ⟨hd, rfl⟩ := hd
  obtain ⟨hx, hb, hml, hown, hts, hE, hR, hlk⟩ := hX
  intro H locs ls hP hS hl
  exact lv_i2c hx hb hd rfl (k H locs ls hP hS hl)

theorem v_lcmp {X : VX} {G : VG} {cc : ByteArray} {nL lev pc n : Nat} {own : String} {Q : State → Prop} {lv : List (Option Value)} {st : List Value} {S : St} (hX : Fx X G cc nL own lev) {x y : Int64} (hd : Dn cc pc (.lcmp) 1 n)  (k : V X G nL Q n lv (.int (lg_cmp x y) :: st) S) : V X G nL Q pc lv (.long y :: .long x :: st) S := by
  obtain ⟨hd, rfl⟩ := hd
  obtain ⟨hx, hb, hml, hown, hts, hE, hR, hlk⟩ := hX
  intro H locs ls hP hS hl
  exact W.lcmp hx hb hd (k H locs ls hP hS hl)

theorem v_dup {X : VX} {G : VG} {cc : ByteArray} {nL lev pc n : Nat} {own : String} {Q : State → Prop} {lv : List (Option Value)} {st : List Value} {S : St} (hX : Fx X G cc nL own lev) {x : Value} (hd : Dn cc pc (.dup) 1 n) (hc : x.category = 1) (k : V X G nL Q n lv (x :: x :: st) S) : V X G nL Q pc lv (x :: st) S := by
  obtain ⟨hd, rfl⟩ := hd
  obtain ⟨hx, hb, hml, hown, hts, hE, hR, hlk⟩ := hX
  intro H locs ls hP hS hl
  exact lv_dup hx hb hd hc (k H locs ls hP hS hl)

theorem v_pop {X : VX} {G : VG} {cc : ByteArray} {nL lev pc n : Nat} {own : String} {Q : State → Prop} {lv : List (Option Value)} {st : List Value} {S : St} (hX : Fx X G cc nL own lev) {x : Value} (hd : Dn cc pc (.pop) 1 n) (hc : x.category = 1) (k : V X G nL Q n lv (st) S) : V X G nL Q pc lv (x :: st) S := by
  obtain ⟨hd, rfl⟩ := hd
  obtain ⟨hx, hb, hml, hown, hts, hE, hR, hlk⟩ := hX
  intro H locs ls hP hS hl
  exact lv_pop hx hb hd hc (k H locs ls hP hS hl)

theorem v_dup2 {X : VX} {G : VG} {cc : ByteArray} {nL lev pc n : Nat} {own : String} {Q : State → Prop} {lv : List (Option Value)} {st : List Value} {S : St} (hX : Fx X G cc nL own lev) {x y : Value} (hd : Dn cc pc (.dup2) 1 n) (hc : x.category = 1) (hc2 : y.category = 1) (k : V X G nL Q n lv (x :: y :: x :: y :: st) S) : V X G nL Q pc lv (x :: y :: st) S := by
  obtain ⟨hd, rfl⟩ := hd
  obtain ⟨hx, hb, hml, hown, hts, hE, hR, hlk⟩ := hX
  intro H locs ls hP hS hl
  exact lv_dup2_11 hx hb hd hc hc2 (k H locs ls hP hS hl)

theorem v_null {X : VX} {G : VG} {cc : ByteArray} {nL lev pc n : Nat} {own : String} {Q : State → Prop} {lv : List (Option Value)} {st : List Value} {S : St} (hX : Fx X G cc nL own lev)  (hd : Dn cc pc (.aconst_null) 1 n)  (k : V X G nL Q n lv (.null :: st) S) : V X G nL Q pc lv (st) S := by
  obtain ⟨hd, rfl⟩ := hd
  obtain ⟨hx, hb, hml, hown, hts, hE, hR, hlk⟩ := hX
  intro H locs ls hP hS hl
  exact lv_null hx hb hd (k H locs ls hP hS hl)

theorem v_if_eq {X : VX} {G : VG} {cc : ByteArray} {nL lev pc n : Nat} {own : String} {Q : State → Prop} {lv : List (Option Value)} {st : List Value} {S : St} (hX : Fx X G cc nL own lev) {x : Int32} {z : Int} {tgt : Nat} (hd : Dn cc pc (.ifCond .eq z) 3 n) (ht : (pc : Int) + z = (tgt : Int)) (kt : x = 0 → V X G nL Q tgt lv st S) (kf : ¬ x = 0 → V X G nL Q n lv st S) : V X G nL Q pc lv (.int x :: st) S := by
  obtain ⟨hd, rfl⟩ := hd
  obtain ⟨hx, hb, hml, hown, hts, hE, hR, hlk⟩ := hX
  intro H locs ls hP hS hl
  exact lv_if_eq hx hb hd ht (fun h => kt h H locs ls hP hS hl) (fun h => kf h H locs ls hP hS hl)

theorem v_icmp_eq {X : VX} {G : VG} {cc : ByteArray} {nL lev pc n : Nat} {own : String} {Q : State → Prop} {lv : List (Option Value)} {st : List Value} {S : St} (hX : Fx X G cc nL own lev) {x y : Int32} {z : Int} {tgt : Nat} (hd : Dn cc pc (.if_icmp .eq z) 3 n) (ht : (pc : Int) + z = (tgt : Int)) (kt : x = y → V X G nL Q tgt lv st S) (kf : ¬ x = y → V X G nL Q n lv st S) : V X G nL Q pc lv (.int y :: .int x :: st) S := by
  obtain ⟨hd, rfl⟩ := hd
  obtain ⟨hx, hb, hml, hown, hts, hE, hR, hlk⟩ := hX
  intro H locs ls hP hS hl
  exact lv_icmp_eq hx hb hd ht (fun h => kt h H locs ls hP hS hl) (fun h => kf h H locs ls hP hS hl)

theorem v_if_ne {X : VX} {G : VG} {cc : ByteArray} {nL lev pc n : Nat} {own : String} {Q : State → Prop} {lv : List (Option Value)} {st : List Value} {S : St} (hX : Fx X G cc nL own lev) {x : Int32} {z : Int} {tgt : Nat} (hd : Dn cc pc (.ifCond .ne z) 3 n) (ht : (pc : Int) + z = (tgt : Int)) (kt : ¬ x = 0 → V X G nL Q tgt lv st S) (kf : x = 0 → V X G nL Q n lv st S) : V X G nL Q pc lv (.int x :: st) S := by
  obtain ⟨hd, rfl⟩ := hd
  obtain ⟨hx, hb, hml, hown, hts, hE, hR, hlk⟩ := hX
  intro H locs ls hP hS hl
  exact lv_if_ne hx hb hd ht (fun h => kt h H locs ls hP hS hl) (fun h => kf h H locs ls hP hS hl)

theorem v_icmp_ne {X : VX} {G : VG} {cc : ByteArray} {nL lev pc n : Nat} {own : String} {Q : State → Prop} {lv : List (Option Value)} {st : List Value} {S : St} (hX : Fx X G cc nL own lev) {x y : Int32} {z : Int} {tgt : Nat} (hd : Dn cc pc (.if_icmp .ne z) 3 n) (ht : (pc : Int) + z = (tgt : Int)) (kt : ¬ x = y → V X G nL Q tgt lv st S) (kf : x = y → V X G nL Q n lv st S) : V X G nL Q pc lv (.int y :: .int x :: st) S := by
  obtain ⟨hd, rfl⟩ := hd
  obtain ⟨hx, hb, hml, hown, hts, hE, hR, hlk⟩ := hX
  intro H locs ls hP hS hl
  exact lv_icmp_ne hx hb hd ht (fun h => kt h H locs ls hP hS hl) (fun h => kf h H locs ls hP hS hl)

theorem v_if_lt {X : VX} {G : VG} {cc : ByteArray} {nL lev pc n : Nat} {own : String} {Q : State → Prop} {lv : List (Option Value)} {st : List Value} {S : St} (hX : Fx X G cc nL own lev) {x : Int32} {z : Int} {tgt : Nat} (hd : Dn cc pc (.ifCond .lt z) 3 n) (ht : (pc : Int) + z = (tgt : Int)) (kt : x < 0 → V X G nL Q tgt lv st S) (kf : ¬ x < 0 → V X G nL Q n lv st S) : V X G nL Q pc lv (.int x :: st) S := by
  obtain ⟨hd, rfl⟩ := hd
  obtain ⟨hx, hb, hml, hown, hts, hE, hR, hlk⟩ := hX
  intro H locs ls hP hS hl
  exact lv_if_lt hx hb hd ht (fun h => kt h H locs ls hP hS hl) (fun h => kf h H locs ls hP hS hl)

theorem v_icmp_lt {X : VX} {G : VG} {cc : ByteArray} {nL lev pc n : Nat} {own : String} {Q : State → Prop} {lv : List (Option Value)} {st : List Value} {S : St} (hX : Fx X G cc nL own lev) {x y : Int32} {z : Int} {tgt : Nat} (hd : Dn cc pc (.if_icmp .lt z) 3 n) (ht : (pc : Int) + z = (tgt : Int)) (kt : x < y → V X G nL Q tgt lv st S) (kf : ¬ x < y → V X G nL Q n lv st S) : V X G nL Q pc lv (.int y :: .int x :: st) S := by
  obtain ⟨hd, rfl⟩ := hd
  obtain ⟨hx, hb, hml, hown, hts, hE, hR, hlk⟩ := hX
  intro H locs ls hP hS hl
  exact lv_icmp_lt hx hb hd ht (fun h => kt h H locs ls hP hS hl) (fun h => kf h H locs ls hP hS hl)

theorem v_if_ge {X : VX} {G : VG} {cc : ByteArray} {nL lev pc n : Nat} {own : String} {Q : State → Prop} {lv : List (Option Value)} {st : List Value} {S : St} (hX : Fx X G cc nL own lev) {x : Int32} {z : Int} {tgt : Nat} (hd : Dn cc pc (.ifCond .ge z) 3 n) (ht : (pc : Int) + z = (tgt : Int)) (kt : 0 ≤ x → V X G nL Q tgt lv st S) (kf : ¬ 0 ≤ x → V X G nL Q n lv st S) : V X G nL Q pc lv (.int x :: st) S := by
  obtain ⟨hd, rfl⟩ := hd
  obtain ⟨hx, hb, hml, hown, hts, hE, hR, hlk⟩ := hX
  intro H locs ls hP hS hl
  exact lv_if_ge hx hb hd ht (fun h => kt h H locs ls hP hS hl) (fun h => kf h H locs ls hP hS hl)

theorem v_icmp_ge {X : VX} {G : VG} {cc : ByteArray} {nL lev pc n : Nat} {own : String} {Q : State → Prop} {lv : List (Option Value)} {st : List Value} {S : St} (hX : Fx X G cc nL own lev) {x y : Int32} {z : Int} {tgt : Nat} (hd : Dn cc pc (.if_icmp .ge z) 3 n) (ht : (pc : Int) + z = (tgt : Int)) (kt : y ≤ x → V X G nL Q tgt lv st S) (kf : ¬ y ≤ x → V X G nL Q n lv st S) : V X G nL Q pc lv (.int y :: .int x :: st) S := by
  obtain ⟨hd, rfl⟩ := hd
  obtain ⟨hx, hb, hml, hown, hts, hE, hR, hlk⟩ := hX
  intro H locs ls hP hS hl
  exact lv_icmp_ge hx hb hd ht (fun h => kt h H locs ls hP hS hl) (fun h => kf h H locs ls hP hS hl)

theorem v_if_gt {X : VX} {G : VG} {cc : ByteArray} {nL lev pc n : Nat} {own : String} {Q : State → Prop} {lv : List (Option Value)} {st : List Value} {S : St} (hX : Fx X G cc nL own lev) {x : Int32} {z : Int} {tgt : Nat} (hd : Dn cc pc (.ifCond .gt z) 3 n) (ht : (pc : Int) + z = (tgt : Int)) (kt : 0 < x → V X G nL Q tgt lv st S) (kf : ¬ 0 < x → V X G nL Q n lv st S) : V X G nL Q pc lv (.int x :: st) S := by
  obtain ⟨hd, rfl⟩ := hd
  obtain ⟨hx, hb, hml, hown, hts, hE, hR, hlk⟩ := hX
  intro H locs ls hP hS hl
  exact lv_if_gt hx hb hd ht (fun h => kt h H locs ls hP hS hl) (fun h => kf h H locs ls hP hS hl)

theorem v_icmp_gt {X : VX} {G : VG} {cc : ByteArray} {nL lev pc n : Nat} {own : String} {Q : State → Prop} {lv : List (Option Value)} {st : List Value} {S : St} (hX : Fx X G cc nL own lev) {x y : Int32} {z : Int} {tgt : Nat} (hd : Dn cc pc (.if_icmp .gt z) 3 n) (ht : (pc : Int) + z = (tgt : Int)) (kt : y < x → V X G nL Q tgt lv st S) (kf : ¬ y < x → V X G nL Q n lv st S) : V X G nL Q pc lv (.int y :: .int x :: st) S := by
  obtain ⟨hd, rfl⟩ := hd
  obtain ⟨hx, hb, hml, hown, hts, hE, hR, hlk⟩ := hX
  intro H locs ls hP hS hl
  exact lv_icmp_gt hx hb hd ht (fun h => kt h H locs ls hP hS hl) (fun h => kf h H locs ls hP hS hl)

theorem v_if_le {X : VX} {G : VG} {cc : ByteArray} {nL lev pc n : Nat} {own : String} {Q : State → Prop} {lv : List (Option Value)} {st : List Value} {S : St} (hX : Fx X G cc nL own lev) {x : Int32} {z : Int} {tgt : Nat} (hd : Dn cc pc (.ifCond .le z) 3 n) (ht : (pc : Int) + z = (tgt : Int)) (kt : x ≤ 0 → V X G nL Q tgt lv st S) (kf : ¬ x ≤ 0 → V X G nL Q n lv st S) : V X G nL Q pc lv (.int x :: st) S := by
  obtain ⟨hd, rfl⟩ := hd
  obtain ⟨hx, hb, hml, hown, hts, hE, hR, hlk⟩ := hX
  intro H locs ls hP hS hl
  exact lv_if_le hx hb hd ht (fun h => kt h H locs ls hP hS hl) (fun h => kf h H locs ls hP hS hl)

theorem v_icmp_le {X : VX} {G : VG} {cc : ByteArray} {nL lev pc n : Nat} {own : String} {Q : State → Prop} {lv : List (Option Value)} {st : List Value} {S : St} (hX : Fx X G cc nL own lev) {x y : Int32} {z : Int} {tgt : Nat} (hd : Dn cc pc (.if_icmp .le z) 3 n) (ht : (pc : Int) + z = (tgt : Int)) (kt : x ≤ y → V X G nL Q tgt lv st S) (kf : ¬ x ≤ y → V X G nL Q n lv st S) : V X G nL Q pc lv (.int y :: .int x :: st) S := by
  obtain ⟨hd, rfl⟩ := hd
  obtain ⟨hx, hb, hml, hown, hts, hE, hR, hlk⟩ := hX
  intro H locs ls hP hS hl
  exact lv_icmp_le hx hb hd ht (fun h => kt h H locs ls hP hS hl) (fun h => kf h H locs ls hP hS hl)

theorem v_goto {X : VX} {G : VG} {cc : ByteArray} {nL lev pc n : Nat} {own : String} {Q : State → Prop} {lv : List (Option Value)} {st : List Value} {S : St} (hX : Fx X G cc nL own lev) {z : Int} {tgt : Nat} (hd : Dn cc pc (.goto z) 3 n) (ht : (pc : Int) + z = (tgt : Int)) (k : V X G nL Q tgt lv st S) : V X G nL Q pc lv st S := by
  obtain ⟨hd, rfl⟩ := hd
  obtain ⟨hx, hb, hml, hown, hts, hE, hR, hlk⟩ := hX
  intro H locs ls hP hS hl
  exact lv_goto hx hb hd ht (k H locs ls hP hS hl)

theorem v_tabIn {X : VX} {G : VG} {cc : ByteArray} {nL lev pc n : Nat} {own : String} {Q : State → Prop} {lv : List (Option Value)} {st : List Value} {S : St} (hX : Fx X G cc nL own lev) {x : Int32} {dflt lo hi off : Int} {offs : Array Int} {len tgt : Nat} (hd : Dn cc pc (.tableswitch dflt lo hi offs) len n) (h1 : ¬ x.toInt < lo) (h2 : ¬ hi < x.toInt) (ho : offs[(x.toInt - lo).toNat]? = some off) (ht : (pc : Int) + off = (tgt : Int)) (k : V X G nL Q tgt lv st S) : V X G nL Q pc lv (.int x :: st) S := by
  obtain ⟨hd, rfl⟩ := hd
  obtain ⟨hx, hb, hml, hown, hts, hE, hR, hlk⟩ := hX
  intro H locs ls hP hS hl
  exact lv_tableIn hx hb hd h1 h2 ho ht (k H locs ls hP hS hl)

theorem v_tabOut {X : VX} {G : VG} {cc : ByteArray} {nL lev pc n : Nat} {own : String} {Q : State → Prop} {lv : List (Option Value)} {st : List Value} {S : St} (hX : Fx X G cc nL own lev) {x : Int32} {dflt lo hi : Int} {offs : Array Int} {len tgt : Nat} (hd : Dn cc pc (.tableswitch dflt lo hi offs) len n) (h : x.toInt < lo ∨ hi < x.toInt) (ht : (pc : Int) + dflt = (tgt : Int)) (k : V X G nL Q tgt lv st S) : V X G nL Q pc lv (.int x :: st) S := by
  obtain ⟨hd, rfl⟩ := hd
  obtain ⟨hx, hb, hml, hown, hts, hE, hR, hlk⟩ := hX
  intro H locs ls hP hS hl
  exact lv_tableOut hx hb hd h ht (k H locs ls hP hS hl)

theorem v_look {X : VX} {G : VG} {cc : ByteArray} {nL lev pc n : Nat} {own : String} {Q : State → Prop} {lv : List (Option Value)} {st : List Value} {S : St} (hX : Fx X G cc nL own lev) {x : Int32} {dflt off : Int} {ps : Array (Int × Int)} {len tgt : Nat} (hd : Dn cc pc (.lookupswitch dflt ps) len n) (hp : (ps.toList.zip (ps.toList.drop 1)).all (fun (a, next) => a.1 < next.1) = true) (ho : Op.lookupswitch.offset ps.toList dflt x.toInt = off) (ht : (pc : Int) + off = (tgt : Int)) (k : V X G nL Q tgt lv st S) : V X G nL Q pc lv (.int x :: st) S := by
  obtain ⟨hd, rfl⟩ := hd
  obtain ⟨hx, hb, hml, hown, hts, hE, hR, hlk⟩ := hX
  intro H locs ls hP hS hl
  exact lv_lookup hx hb hd hp ho ht (k H locs ls hP hS hl)

theorem v_gfi {X : VX} {G : VG} {cc : ByteArray} {nL lev pc n : Nat} {own : String} {Q : State → Prop} {lv : List (Option Value)} {st : List Value} {S : St} (hX : Fx X G cc nL own lev) {C : String} {T : u_T} {N : Nat} {ty : Nat → FieldType} {c j ci d i : Nat} (hd : Dn cc pc (.getfield i) 3 n) (hc : Cl ci C T N ty) (hf : FI c j ci 0 d) (hj : j < N) (hk : Cond.fieldLink own i (T j).1 (T j).2.1 (T j).2.2.1 ∈ tb)  (k : V X G nL Q n lv (.int (gN S c j) :: st) S) : V X G nL Q pc lv (.ref (G.2.1 c) :: st) S := by
  obtain ⟨hd, rfl⟩ := hd
  obtain ⟨hx, hb, hml, hown, hts, hE, hR, hlk⟩ := hX
  intro H locs ls hP hS hl
  obtain ⟨fs, e1, e2, e3⟩ := cell_obj (G := G) (S := S) hf
  exact va_get (v := .int (gN S c j)) hx hb hts hc.2.1 hown hE.1 hP c (by rw [wld_get G S hf.1, e1]) hc.1 j hj (hts _ hk) (fun _ h => h) (by rw [e2]; rfl) hd (k H locs ls hP hS hl)

theorem v_gfl {X : VX} {G : VG} {cc : ByteArray} {nL lev pc n : Nat} {own : String} {Q : State → Prop} {lv : List (Option Value)} {st : List Value} {S : St} (hX : Fx X G cc nL own lev) {C : String} {T : u_T} {N : Nat} {ty : Nat → FieldType} {c j ci d i : Nat} (hd : Dn cc pc (.getfield i) 3 n) (hc : Cl ci C T N ty) (hf : FI c j ci 4 d) (hj : j < N) (hk : Cond.fieldLink own i (T j).1 (T j).2.1 (T j).2.2.1 ∈ tb)  (k : V X G nL Q n lv (.long (gJ S c j) :: st) S) : V X G nL Q pc lv (.ref (G.2.1 c) :: st) S := by
  obtain ⟨hd, rfl⟩ := hd
  obtain ⟨hx, hb, hml, hown, hts, hE, hR, hlk⟩ := hX
  intro H locs ls hP hS hl
  obtain ⟨fs, e1, e2, e3⟩ := cell_obj (G := G) (S := S) hf
  exact va_get (v := .long (gJ S c j)) hx hb hts hc.2.1 hown hE.1 hP c (by rw [wld_get G S hf.1, e1]) hc.1 j hj (hts _ hk) (fun _ h => h) (by rw [e2]; rfl) hd (k H locs ls hP hS hl)

theorem v_gfc {X : VX} {G : VG} {cc : ByteArray} {nL lev pc n : Nat} {own : String} {Q : State → Prop} {lv : List (Option Value)} {st : List Value} {S : St} (hX : Fx X G cc nL own lev) {C : String} {T : u_T} {N : Nat} {ty : Nat → FieldType} {c j ci d i : Nat} (hd : Dn cc pc (.getfield i) 3 n) (hc : Cl ci C T N ty) (hf : FI c j ci 1 d) (hj : j < N) (hk : Cond.fieldLink own i (T j).1 (T j).2.1 (T j).2.2.1 ∈ tb)  (k : V X G nL Q n lv (.ref (G.2.1 d) :: st) S) : V X G nL Q pc lv (.ref (G.2.1 c) :: st) S := by
  obtain ⟨hd, rfl⟩ := hd
  obtain ⟨hx, hb, hml, hown, hts, hE, hR, hlk⟩ := hX
  intro H locs ls hP hS hl
  obtain ⟨fs, e1, e2, e3⟩ := cell_obj (G := G) (S := S) hf
  exact va_get (v := .ref (G.2.1 d)) hx hb hts hc.2.1 hown hE.1 hP c (by rw [wld_get G S hf.1, e1]) hc.1 j hj (hts _ hk) (fun _ h => h) (by rw [e2]; rfl) hd (k H locs ls hP hS hl)

theorem v_gfr {X : VX} {G : VG} {cc : ByteArray} {nL lev pc n : Nat} {own : String} {Q : State → Prop} {lv : List (Option Value)} {st : List Value} {S : St} (hX : Fx X G cc nL own lev) {C : String} {T : u_T} {N : Nat} {ty : Nat → FieldType} {c j ci d i : Nat} (hd : Dn cc pc (.getfield i) 3 n) (hc : Cl ci C T N ty) (hf : FI c j ci 2 d) (hj : j < N) (hk : Cond.fieldLink own i (T j).1 (T j).2.1 (T j).2.2.1 ∈ tb)  (k : V X G nL Q n lv (.ref (G.2.1 (gR S c j)) :: st) S) : V X G nL Q pc lv (.ref (G.2.1 c) :: st) S := by
  obtain ⟨hd, rfl⟩ := hd
  obtain ⟨hx, hb, hml, hown, hts, hE, hR, hlk⟩ := hX
  intro H locs ls hP hS hl
  obtain ⟨fs, e1, e2, e3⟩ := cell_obj (G := G) (S := S) hf
  exact va_get (v := .ref (G.2.1 (gR S c j))) hx hb hts hc.2.1 hown hE.1 hP c (by rw [wld_get G S hf.1, e1]) hc.1 j hj (hts _ hk) (fun _ h => h) (by rw [e2]; rfl) hd (k H locs ls hP hS hl)

theorem v_gfn {X : VX} {G : VG} {cc : ByteArray} {nL lev pc n : Nat} {own : String} {Q : State → Prop} {lv : List (Option Value)} {st : List Value} {S : St} (hX : Fx X G cc nL own lev) {C : String} {T : u_T} {N : Nat} {ty : Nat → FieldType} {c j ci d i : Nat} (hd : Dn cc pc (.getfield i) 3 n) (hc : Cl ci C T N ty) (hf : FI c j ci 3 d) (hj : j < N) (hk : Cond.fieldLink own i (T j).1 (T j).2.1 (T j).2.2.1 ∈ tb) (hn : gR S c j ≠ 99) (k : V X G nL Q n lv (.ref (G.2.1 (gR S c j)) :: st) S) : V X G nL Q pc lv (.ref (G.2.1 c) :: st) S := by
  obtain ⟨hd, rfl⟩ := hd
  obtain ⟨hx, hb, hml, hown, hts, hE, hR, hlk⟩ := hX
  intro H locs ls hP hS hl
  obtain ⟨fs, e1, e2, e3⟩ := cell_obj (G := G) (S := S) hf
  exact va_get (v := .ref (G.2.1 (gR S c j))) hx hb hts hc.2.1 hown hE.1 hP c (by rw [wld_get G S hf.1, e1]) hc.1 j hj (hts _ hk) (fun _ h => h) (by rw [e2]; simp [fv, fvq, hn]) hd (k H locs ls hP hS hl)

theorem v_pfi {X : VX} {G : VG} {cc : ByteArray} {nL lev pc n : Nat} {own : String} {Q : State → Prop} {lv : List (Option Value)} {st : List Value} {S : St} (hX : Fx X G cc nL own lev) {C : String} {T : u_T} {N : Nat} {ty : Nat → FieldType} {c j ci d i : Nat} {v : Int32} (hd : Dn cc pc (.putfield i) 3 n) (hc : Cl ci C T N ty) (hf : FI c j ci 0 d) (hj : j < N) (hk : Cond.fieldLink own i (T j).1 (T j).2.1 (T j).2.2.1 ∈ tb) (hfin : (T j).2.2.2 = false) (hty : ty j = .int)  (k : V X G nL Q n lv st (sN S c j v)) : V X G nL Q pc lv (.int v :: .ref (G.2.1 c) :: st) S := by
  obtain ⟨hd, rfl⟩ := hd
  obtain ⟨hx, hb, hml, hown, hts, hE, hR, hlk⟩ := hX
  intro H locs ls hP hS hl
  obtain ⟨fs, e1, e2, e3⟩ := cell_obj (G := G) (S := S) hf
  refine va_put (v := .int v) hx hb hts hc.2.1 ty hc.2.2.1 hc.2.2.2 hown hE.1 hP (wld_D hE.2.1) hS c (by rw [wld_get G S hf.1, e1]) hc.1 j hj (hts _ hk) (fun _ h => h) hfin (hc.2.2.1 j hj) (by rw [hty]; rfl) (by rw [hty]; rfl) e3 hd (fun H1 locs1 hP1 _ hS1 => ?_)
  rw [wld_set G S (sN S c j v) (cell_put hf e1 fvN (fun i q h => fvN_ne h)) (fun k h => cellN_ne h)] at hP1
  exact k H1 locs1 ls hP1 hS1 hl

theorem v_pfz {X : VX} {G : VG} {cc : ByteArray} {nL lev pc n : Nat} {own : String} {Q : State → Prop} {lv : List (Option Value)} {st : List Value} {S : St} (hX : Fx X G cc nL own lev) {C : String} {T : u_T} {N : Nat} {ty : Nat → FieldType} {c j ci d i : Nat} {v : Int32} (hd : Dn cc pc (.putfield i) 3 n) (hc : Cl ci C T N ty) (hf : FI c j ci 0 d) (hj : j < N) (hk : Cond.fieldLink own i (T j).1 (T j).2.1 (T j).2.2.1 ∈ tb) (hfin : (T j).2.2.2 = false) (hty : ty j = .boolean) (hb0 : isB v = true) (k : V X G nL Q n lv st (sN S c j v)) : V X G nL Q pc lv (.int v :: .ref (G.2.1 c) :: st) S := by
  obtain ⟨hd, rfl⟩ := hd
  obtain ⟨hx, hb, hml, hown, hts, hE, hR, hlk⟩ := hX
  intro H locs ls hP hS hl
  obtain ⟨fs, e1, e2, e3⟩ := cell_obj (G := G) (S := S) hf
  refine va_put (v := .int v) hx hb hts hc.2.1 ty hc.2.2.1 hc.2.2.2 hown hE.1 hP (wld_D hE.2.1) hS c (by rw [wld_get G S hf.1, e1]) hc.1 j hj (hts _ hk) (fun _ h => h) hfin (hc.2.2.1 j hj) (by rw [hty]; rcases isB_or hb0 with rfl | rfl <;> rfl) (by rw [hty]; rcases isB_or hb0 with rfl | rfl <;> rfl) e3 hd (fun H1 locs1 hP1 _ hS1 => ?_)
  rw [wld_set G S (sN S c j v) (cell_put hf e1 fvN (fun i q h => fvN_ne h)) (fun k h => cellN_ne h)] at hP1
  exact k H1 locs1 ls hP1 hS1 hl

theorem v_pfl {X : VX} {G : VG} {cc : ByteArray} {nL lev pc n : Nat} {own : String} {Q : State → Prop} {lv : List (Option Value)} {st : List Value} {S : St} (hX : Fx X G cc nL own lev) {C : String} {T : u_T} {N : Nat} {ty : Nat → FieldType} {c j ci d i : Nat} {v : Int64} (hd : Dn cc pc (.putfield i) 3 n) (hc : Cl ci C T N ty) (hf : FI c j ci 4 d) (hj : j < N) (hk : Cond.fieldLink own i (T j).1 (T j).2.1 (T j).2.2.1 ∈ tb) (hfin : (T j).2.2.2 = false) (hty : ty j = .long)  (k : V X G nL Q n lv st (sJ S c j v)) : V X G nL Q pc lv (.long v :: .ref (G.2.1 c) :: st) S := by
  obtain ⟨hd, rfl⟩ := hd
  obtain ⟨hx, hb, hml, hown, hts, hE, hR, hlk⟩ := hX
  intro H locs ls hP hS hl
  obtain ⟨fs, e1, e2, e3⟩ := cell_obj (G := G) (S := S) hf
  refine va_put (v := .long v) hx hb hts hc.2.1 ty hc.2.2.1 hc.2.2.2 hown hE.1 hP (wld_D hE.2.1) hS c (by rw [wld_get G S hf.1, e1]) hc.1 j hj (hts _ hk) (fun _ h => h) hfin (hc.2.2.1 j hj) (by rw [hty]; rfl) (by rw [hty]; rfl) e3 hd (fun H1 locs1 hP1 _ hS1 => ?_)
  rw [wld_set G S (sJ S c j v) (cell_put hf e1 fvJ (fun i q h => fvJ_ne h)) (fun k h => cellJ_ne h)] at hP1
  exact k H1 locs1 ls hP1 hS1 hl

theorem v_pfr {X : VX} {G : VG} {cc : ByteArray} {nL lev pc n : Nat} {own : String} {Q : State → Prop} {lv : List (Option Value)} {st : List Value} {S : St} (hX : Fx X G cc nL own lev) {C : String} {T : u_T} {N : Nat} {ty : Nat → FieldType} {c j ci d i : Nat} {v : Nat} {nm : String} (hd : Dn cc pc (.putfield i) 3 n) (hc : Cl ci C T N ty) (hf : FI c j ci 2 d) (hj : j < N) (hk : Cond.fieldLink own i (T j).1 (T j).2.1 (T j).2.2.1 ∈ tb) (hfin : (T j).2.2.2 = false) (hty : ty j = .object nm)  (k : V X G nL Q n lv st (sR S c j v)) : V X G nL Q pc lv (.ref (G.2.1 v) :: .ref (G.2.1 c) :: st) S := by
  obtain ⟨hd, rfl⟩ := hd
  obtain ⟨hx, hb, hml, hown, hts, hE, hR, hlk⟩ := hX
  intro H locs ls hP hS hl
  obtain ⟨fs, e1, e2, e3⟩ := cell_obj (G := G) (S := S) hf
  refine va_put (v := .ref (G.2.1 v)) hx hb hts hc.2.1 ty hc.2.2.1 hc.2.2.2 hown hE.1 hP (wld_D hE.2.1) hS c (by rw [wld_get G S hf.1, e1]) hc.1 j hj (hts _ hk) (fun _ h => h) hfin (hc.2.2.1 j hj) (by rw [hty]; rfl) (by rw [hty]; rfl) e3 hd (fun H1 locs1 hP1 _ hS1 => ?_)
  rw [wld_set G S (sR S c j v) (cell_put hf e1 fvR (fun i q h => fvR_ne h)) (fun k h => cellR_ne h)] at hP1
  exact k H1 locs1 ls hP1 hS1 hl

theorem v_pfra {X : VX} {G : VG} {cc : ByteArray} {nL lev pc n : Nat} {own : String} {Q : State → Prop} {lv : List (Option Value)} {st : List Value} {S : St} (hX : Fx X G cc nL own lev) {C : String} {T : u_T} {N : Nat} {ty : Nat → FieldType} {c j ci d i : Nat} {v : Nat} {nt : FieldType} (hd : Dn cc pc (.putfield i) 3 n) (hc : Cl ci C T N ty) (hf : FI c j ci 2 d) (hj : j < N) (hk : Cond.fieldLink own i (T j).1 (T j).2.1 (T j).2.2.1 ∈ tb) (hfin : (T j).2.2.2 = false) (hty : ty j = .array nt)  (k : V X G nL Q n lv st (sR S c j v)) : V X G nL Q pc lv (.ref (G.2.1 v) :: .ref (G.2.1 c) :: st) S := by
  obtain ⟨hd, rfl⟩ := hd
  obtain ⟨hx, hb, hml, hown, hts, hE, hR, hlk⟩ := hX
  intro H locs ls hP hS hl
  obtain ⟨fs, e1, e2, e3⟩ := cell_obj (G := G) (S := S) hf
  refine va_put (v := .ref (G.2.1 v)) hx hb hts hc.2.1 ty hc.2.2.1 hc.2.2.2 hown hE.1 hP (wld_D hE.2.1) hS c (by rw [wld_get G S hf.1, e1]) hc.1 j hj (hts _ hk) (fun _ h => h) hfin (hc.2.2.1 j hj) (by rw [hty]; rfl) (by rw [hty]; rfl) e3 hd (fun H1 locs1 hP1 _ hS1 => ?_)
  rw [wld_set G S (sR S c j v) (cell_put hf e1 fvR (fun i q h => fvR_ne h)) (fun k h => cellR_ne h)] at hP1
  exact k H1 locs1 ls hP1 hS1 hl

theorem v_pfn {X : VX} {G : VG} {cc : ByteArray} {nL lev pc n : Nat} {own : String} {Q : State → Prop} {lv : List (Option Value)} {st : List Value} {S : St} (hX : Fx X G cc nL own lev) {C : String} {T : u_T} {N : Nat} {ty : Nat → FieldType} {c j ci d i : Nat} {v : Nat} {nm : String} (hd : Dn cc pc (.putfield i) 3 n) (hc : Cl ci C T N ty) (hf : FI c j ci 3 d) (hj : j < N) (hk : Cond.fieldLink own i (T j).1 (T j).2.1 (T j).2.2.1 ∈ tb) (hfin : (T j).2.2.2 = false) (hty : ty j = .object nm) (hn : v ≠ 99) (k : V X G nL Q n lv st (sR S c j v)) : V X G nL Q pc lv (.ref (G.2.1 v) :: .ref (G.2.1 c) :: st) S := by
  obtain ⟨hd, rfl⟩ := hd
  obtain ⟨hx, hb, hml, hown, hts, hE, hR, hlk⟩ := hX
  intro H locs ls hP hS hl
  obtain ⟨fs, e1, e2, e3⟩ := cell_obj (G := G) (S := S) hf
  refine va_put (v := .ref (G.2.1 v)) hx hb hts hc.2.1 ty hc.2.2.1 hc.2.2.2 hown hE.1 hP (wld_D hE.2.1) hS c (by rw [wld_get G S hf.1, e1]) hc.1 j hj (hts _ hk) (fun _ h => h) hfin (hc.2.2.1 j hj) (by rw [hty]; rfl) (by rw [hty]; rfl) e3 hd (fun H1 locs1 hP1 _ hS1 => ?_)
  rw [wld_set G S (sR S c j v) (cell_put hf e1 (fvR3 hn) (fun i q h => fvR_ne h)) (fun k h => cellR_ne h)] at hP1
  exact k H1 locs1 ls hP1 hS1 hl

theorem v_iaload {X : VX} {G : VG} {cc : ByteArray} {nL lev pc n : Nat} {own : String} {Q : State → Prop} {lv : List (Option Value)} {st : List Value} {S : St} (hX : Fx X G cc nL own lev) {c len : Nat} {i : Int32} (hd : Dn cc pc (.iaload) 1 n) (ha : AI c 9 len) (hi : inB i len = true) (k : V X G nL Q n lv (.int (gN S c i.toNatClampNeg) :: st) S) : V X G nL Q pc lv (.int i :: .ref (G.2.1 c) :: st) S := by
  obtain ⟨hd, rfl⟩ := hd
  obtain ⟨hx, hb, hml, hown, hts, hE, hR, hlk⟩ := hX
  intro H locs ls hP hS hl
  exact va_iald (f := S.1 c) hx hb hE.1 hP c 1 (by rw [wld_get G S ha.1, cell_arrI ha (by decide)]) rfl (inB_in hi) hd (k H locs ls hP hS hl)

theorem v_baload {X : VX} {G : VG} {cc : ByteArray} {nL lev pc n : Nat} {own : String} {Q : State → Prop} {lv : List (Option Value)} {st : List Value} {S : St} (hX : Fx X G cc nL own lev) {c len : Nat} {i : Int32} (hd : Dn cc pc (.baload) 1 n) (ha : AI c 8 len) (hi : inB i len = true) (k : V X G nL Q n lv (.int (gN S c i.toNatClampNeg) :: st) S) : V X G nL Q pc lv (.int i :: .ref (G.2.1 c) :: st) S := by
  obtain ⟨hd, rfl⟩ := hd
  obtain ⟨hx, hb, hml, hown, hts, hE, hR, hlk⟩ := hX
  intro H locs ls hP hS hl
  exact va_bald (f := S.1 c) hx hb hE.1 hP c 0 (by rw [wld_get G S ha.1, cell_arrI ha (by decide)]) rfl (inB_in hi) hd (k H locs ls hP hS hl)

theorem v_zaload {X : VX} {G : VG} {cc : ByteArray} {nL lev pc n : Nat} {own : String} {Q : State → Prop} {lv : List (Option Value)} {st : List Value} {S : St} (hX : Fx X G cc nL own lev) {c len : Nat} {i : Int32} (hd : Dn cc pc (.baload) 1 n) (ha : AI c 11 len) (hi : inB i len = true) (k : V X G nL Q n lv (.int (gN S c i.toNatClampNeg) :: st) S) : V X G nL Q pc lv (.int i :: .ref (G.2.1 c) :: st) S := by
  obtain ⟨hd, rfl⟩ := hd
  obtain ⟨hx, hb, hml, hown, hts, hE, hR, hlk⟩ := hX
  intro H locs ls hP hS hl
  exact va_zald (f := S.1 c) hx hb hE.1 hP c 3 (by rw [wld_get G S ha.1, cell_arrI ha (by decide)]) rfl (inB_in hi) hd (k H locs ls hP hS hl)

theorem v_laload {X : VX} {G : VG} {cc : ByteArray} {nL lev pc n : Nat} {own : String} {Q : State → Prop} {lv : List (Option Value)} {st : List Value} {S : St} (hX : Fx X G cc nL own lev) {c len : Nat} {i : Int32} (hd : Dn cc pc (.laload) 1 n) (ha : AI c 10 len) (hi : inB i len = true) (k : V X G nL Q n lv (.long (gJ S c i.toNatClampNeg) :: st) S) : V X G nL Q pc lv (.int i :: .ref (G.2.1 c) :: st) S := by
  obtain ⟨hd, rfl⟩ := hd
  obtain ⟨hx, hb, hml, hown, hts, hE, hR, hlk⟩ := hX
  intro H locs ls hP hS hl
  exact va_lald (f := S.2.1 c) hx hb hE.1 hP c 2 (by rw [wld_get G S ha.1, cell_arrJ ha]) rfl (inB_in hi) hd (k H locs ls hP hS hl)

theorem v_iastore {X : VX} {G : VG} {cc : ByteArray} {nL lev pc n : Nat} {own : String} {Q : State → Prop} {lv : List (Option Value)} {st : List Value} {S : St} (hX : Fx X G cc nL own lev) {c len : Nat} {i : Int32} {x : Int32} (hd : Dn cc pc (.iastore) 1 n) (ha : AI c 9 len) (hi : inB i len = true) (k : V X G nL Q n lv st (sN S c i.toNatClampNeg x)) : V X G nL Q pc lv (.int x :: .int i :: .ref (G.2.1 c) :: st) S := by
  obtain ⟨hd, rfl⟩ := hd
  obtain ⟨hx, hb, hml, hown, hts, hE, hR, hlk⟩ := hX
  intro H locs ls hP hS hl
  refine va_iast hx hb hE.1 hP (wld_D hE.2.1) hS c 1 (by rw [wld_get G S ha.1, cell_arrI ha (by decide)]) rfl (inB_in hi) hd (fun H1 locs1 hP1 _ hS1 => ?_)
  rw [wld_set G S (sN S c i.toNatClampNeg x) (by rw [cell_arrI ha (by decide)]; rw [sN_row]) (fun k h => cellN_ne h)] at hP1
  exact k H1 locs1 ls hP1 hS1 hl

theorem v_bastore {X : VX} {G : VG} {cc : ByteArray} {nL lev pc n : Nat} {own : String} {Q : State → Prop} {lv : List (Option Value)} {st : List Value} {S : St} (hX : Fx X G cc nL own lev) {c len : Nat} {i : Int32} {x : Int32} (hd : Dn cc pc (.bastore) 1 n) (ha : AI c 8 len) (hi : inB i len = true) (k : V X G nL Q n lv st (sN S c i.toNatClampNeg (vp_nar .byte x))) : V X G nL Q pc lv (.int x :: .int i :: .ref (G.2.1 c) :: st) S := by
  obtain ⟨hd, rfl⟩ := hd
  obtain ⟨hx, hb, hml, hown, hts, hE, hR, hlk⟩ := hX
  intro H locs ls hP hS hl
  refine va_bast hx hb hE.1 hP (wld_D hE.2.1) hS c 0 (by rw [wld_get G S ha.1, cell_arrI ha (by decide)]) rfl (inB_in hi) hd (fun H1 locs1 hP1 _ hS1 => ?_)
  rw [wld_set G S (sN S c i.toNatClampNeg (vp_nar .byte x)) (by rw [cell_arrI ha (by decide)]; rw [sN_row]) (fun k h => cellN_ne h)] at hP1
  exact k H1 locs1 ls hP1 hS1 hl

theorem v_zastore {X : VX} {G : VG} {cc : ByteArray} {nL lev pc n : Nat} {own : String} {Q : State → Prop} {lv : List (Option Value)} {st : List Value} {S : St} (hX : Fx X G cc nL own lev) {c len : Nat} {i : Int32} {x : Int32} (hd : Dn cc pc (.bastore) 1 n) (ha : AI c 11 len) (hi : inB i len = true) (k : V X G nL Q n lv st (sN S c i.toNatClampNeg (vp_nar .boolean x))) : V X G nL Q pc lv (.int x :: .int i :: .ref (G.2.1 c) :: st) S := by
  obtain ⟨hd, rfl⟩ := hd
  obtain ⟨hx, hb, hml, hown, hts, hE, hR, hlk⟩ := hX
  intro H locs ls hP hS hl
  refine va_zast hx hb hE.1 hP (wld_D hE.2.1) hS c 3 (by rw [wld_get G S ha.1, cell_arrI ha (by decide)]) rfl (inB_in hi) hd (fun H1 locs1 hP1 _ hS1 => ?_)
  rw [wld_set G S (sN S c i.toNatClampNeg (vp_nar .boolean x)) (by rw [cell_arrI ha (by decide)]; rw [sN_row]) (fun k h => cellN_ne h)] at hP1
  exact k H1 locs1 ls hP1 hS1 hl

theorem v_lastore {X : VX} {G : VG} {cc : ByteArray} {nL lev pc n : Nat} {own : String} {Q : State → Prop} {lv : List (Option Value)} {st : List Value} {S : St} (hX : Fx X G cc nL own lev) {c len : Nat} {i : Int32} {x : Int64} (hd : Dn cc pc (.lastore) 1 n) (ha : AI c 10 len) (hi : inB i len = true) (k : V X G nL Q n lv st (sJ S c i.toNatClampNeg x)) : V X G nL Q pc lv (.long x :: .int i :: .ref (G.2.1 c) :: st) S := by
  obtain ⟨hd, rfl⟩ := hd
  obtain ⟨hx, hb, hml, hown, hts, hE, hR, hlk⟩ := hX
  intro H locs ls hP hS hl
  refine va_last hx hb hE.1 hP (wld_D hE.2.1) hS c 2 (by rw [wld_get G S ha.1, cell_arrJ ha]) rfl (inB_in hi) hd (fun H1 locs1 hP1 _ hS1 => ?_)
  rw [wld_set G S (sJ S c i.toNatClampNeg x) (by rw [cell_arrJ ha]; rw [sJ_row]) (fun k h => cellJ_ne h)] at hP1
  exact k H1 locs1 ls hP1 hS1 hl

theorem v_alenJ {X : VX} {G : VG} {cc : ByteArray} {nL lev pc n : Nat} {own : String} {Q : State → Prop} {lv : List (Option Value)} {st : List Value} {S : St} (hX : Fx X G cc nL own lev) {c len : Nat} {v : Int32} (hd : Dn cc pc .arraylength 1 n) (ha : AI c 10 len) (hv : Int32.ofNat len = v) (k : V X G nL Q n lv (.int v :: st) S) : V X G nL Q pc lv (.ref (G.2.1 c) :: st) S := by
  obtain ⟨hd, rfl⟩ := hd
  obtain ⟨hx, hb, hml, hown, hts, hE, hR, hlk⟩ := hX
  intro H locs ls hP hS hl
  exact va_alen hx hb hE.1 hP c 2 (by rw [wld_get G S ha.1, cell_arrJ ha]) rfl hv hd (k H locs ls hP hS hl)

theorem v_alenI {X : VX} {G : VG} {cc : ByteArray} {nL lev pc n : Nat} {own : String} {Q : State → Prop} {lv : List (Option Value)} {st : List Value} {S : St} (hX : Fx X G cc nL own lev) {c len : Nat} {v : Int32} (hd : Dn cc pc .arraylength 1 n) (ha : AI c 9 len) (hv : Int32.ofNat len = v) (k : V X G nL Q n lv (.int v :: st) S) : V X G nL Q pc lv (.ref (G.2.1 c) :: st) S := by
  obtain ⟨hd, rfl⟩ := hd
  obtain ⟨hx, hb, hml, hown, hts, hE, hR, hlk⟩ := hX
  intro H locs ls hP hS hl
  exact va_alen hx hb hE.1 hP c 1 (by rw [wld_get G S ha.1, cell_arrI ha (by decide)]) rfl hv hd (k H locs ls hP hS hl)

theorem v_gtens {X : VX} {G : VG} {cc : ByteArray} {nL lev pc n : Nat} {own : String} {Q : State → Prop} {lv : List (Option Value)} {st : List Value} {S : St} (hX : Fx X G cc nL own lev) {i : Nat} (hd : Dn cc pc (.getstatic i) 3 n) (hk : Cond.fieldLink own i "LeastTeaches" "TENS" "[I" ∈ tb) (k : V X G nL Q n lv (.ref G.2.2.2.1 :: st) S) : V X G nL Q pc lv st S := by
  obtain ⟨hd, rfl⟩ := hd
  obtain ⟨hx, hb, hml, hown, hts, hE, hR, hlk⟩ := hX
  intro H locs ls hP hS hl
  exact va_gets hx hb hE.2.2.1.1 hS hown (hts _ hk) (fun _ h => h) hd (k H locs ls hP hS hl)

theorem v_tens {X : VX} {G : VG} {cc : ByteArray} {nL lev pc n : Nat} {own : String} {Q : State → Prop} {lv : List (Option Value)} {st : List Value} {S : St} (hX : Fx X G cc nL own lev) {i : Int32} (hd : Dn cc pc .iaload 1 n) (hi : inB i 5 = true) (k : V X G nL Q n lv (.int (tensF i.toNatClampNeg) :: st) S) : V X G nL Q pc lv (.int i :: .ref G.2.2.2.1 :: st) S := by
  obtain ⟨hd, rfl⟩ := hd
  obtain ⟨hx, hb, hml, hown, hts, hE, hR, hlk⟩ := hX
  intro H locs ls hP hS hl
  exact va_ti hx hb hE.2.2.1.2.1 hS (inB_in hi) rfl hd (k H locs ls hP hS hl)
end
section
/-! ===== contracts and calls ===== -/
def rmD (lev : Nat) : Room := { frames := lev + 1, cells := 0, slots := 0, locals := 40 * (lev + 1) }
def PW (G : VG) (S : St) (U : State) : Prop := va_P G.1 vwCl (wld G S) U.heap ∧ EX G U
def QI (G : VG) (q : Int32 × St) : Array Value → State → Outcome → State → Prop := va_Qi (fun (r : Int32) (u : St) => r = q.1 ∧ u = q.2) (fun u t => va_P G.1 vwCl (wld G u) t.heap) (Aw G)
def QL (G : VG) (q : Int64 × St) : Array Value → State → Outcome → State → Prop := va_Ql (fun (r : Int64) (u : St) => r = q.1 ∧ u = q.2) (fun u t => va_P G.1 vwCl (wld G u) t.heap) (Aw G)
def QV (G : VG) (q : Unit × St) : Array Value → State → Outcome → State → Prop := va_Qv (fun (u : St) => u = q.2) (fun u t => va_P G.1 vwCl (wld G u) t.heap) (Aw G)
def QR (G : VG) (q : Nat × St) : Array Value → State → Outcome → State → Prop := va_Qr (fun (u : St) => u = q.2) (fun u a t => a = G.2.1 q.1 ∧ va_P G.1 vwCl (wld G u) t.heap) (Aw G)
def MI (l : Launch) (G : VG) (y : MethodName) (bytes : ByteArray) (maxL : Nat) (rt : Option FieldType) (lev : Nat) (args : List Value) (S : St) (q : Int32 × St) : Prop :=
  Met l y (.code y bytes maxL rt :: tb) (rmD lev) (va_Pc args (PW G S)) (QI G q) 0 0 (Aw G)
def ML (l : Launch) (G : VG) (y : MethodName) (bytes : ByteArray) (maxL : Nat) (rt : Option FieldType) (lev : Nat) (args : List Value) (S : St) (q : Int64 × St) : Prop :=
  Met l y (.code y bytes maxL rt :: tb) (rmD lev) (va_Pc args (PW G S)) (QL G q) 0 0 (Aw G)
def MV (l : Launch) (G : VG) (y : MethodName) (bytes : ByteArray) (maxL : Nat) (rt : Option FieldType) (lev : Nat) (args : List Value) (S : St) (q : Unit × St) : Prop :=
  Met l y (.code y bytes maxL rt :: tb) (rmD lev) (va_Pc args (PW G S)) (QV G q) 0 0 (Aw G)
def MR (l : Launch) (G : VG) (y : MethodName) (bytes : ByteArray) (maxL : Nat) (rt : Option FieldType) (lev : Nat) (args : List Value) (S : St) (q : Nat × St) : Prop :=
  Met l y (.code y bytes maxL rt :: tb) (rmD lev) (va_Pc args (PW G S)) (QR G q) 0 0 (Aw G)
def Rt (X : VX) : Option FieldType := X.2.2.2.2.2.2.2.2.1.sig.returnType
def ZQ (X : VX) (G : VG) (Qc : Array Value → State → Outcome → State → Prop) : State → Prop := MQ X.2.2.2.2.2.2.2.1 Qc X.2.2.2.2.2.2.1 X.2.2.2.2.1 X.2.2.2.2.2.2.2.2.2.2.1 X.2.2.2.2.2.2.2.2.2.2.2 (Aw G)
theorem tbl_good : GoodIn tb tb := fun w hw => ⟨hw, good_of_word (List.mem_filter.mp hw).2⟩
/-! the locals at a method's entry -/
def lvQ : List Value → List (Option Value)
  | [] => []
  | v :: vs => if v.category = 2 then some v :: none :: lvQ vs else some v :: lvQ vs
def lvA (vs : List Value) (n : Nat) : List (Option Value) := lvQ vs ++ List.replicate (n - (lvQ vs).length) none
theorem lvQ_args : ∀ (vs : List Value) (k i : Nat) (v : Value), (lvQ vs)[i]? = some (some v) → (k + i, v) ∈ lv_args k vs := by
  intro vs
  induction vs with
  | nil => intro k i v h; simp [lvQ] at h
  | cons w vs ih =>
    intro k i v h
    by_cases hc : w.category = 2
    · simp only [lvQ, hc, if_true] at h
      simp only [lv_args, hc, if_true]
      match i, h with
      | 0, h => simp at h; subst h; simp
      | 1, h => simp at h
      | i + 2, h =>
        simp only [List.getElem?_cons_succ] at h
        have := ih (k + 2) i v h
        rw [show k + (i + 2) = k + 2 + i by omega]
        exact List.mem_cons_of_mem _ this
    · simp only [lvQ, hc, if_false] at h
      simp only [lv_args, hc, if_false]
      match i, h with
      | 0, h => simp at h; subst h; simp
      | i + 1, h =>
        simp only [List.getElem?_cons_succ] at h
        have := ih (k + 1) i v h
        rw [show k + (i + 1) = k + 1 + i by omega]
        exact List.mem_cons_of_mem _ this
theorem lvA_has {vs : List Value} {n : Nat} {ls : Array Slot} (h : lv_has ls n (lv_args 0 vs)) : lvR ls n (lvA vs n) := by
  refine ⟨h.1, h.2.1, fun i v hi => ?_⟩
  have h1 : (lvQ vs)[i]? = some (some v) := by
    by_cases hl : i < (lvQ vs).length
    · rw [lvA, List.getElem?_append_left hl] at hi
      exact hi
    · rw [lvA, List.getElem?_append_right (by omega)] at hi
      exact absurd (List.eq_of_mem_replicate (List.mem_of_getElem? hi)) (by simp)
  have := lvQ_args vs 0 i v h1
  rw [Nat.zero_add] at this
  exact h.2.2 (i, v) this
theorem met_of {l : Launch} {G : VG} {y : MethodName} {bytes : ByteArray} {maxL lev : Nat} {rt : Option FieldType} {args : List Value} {S : St} {Qc : Array Value → State → Outcome → State → Prop} (hy : plainName y.cls = true) (hn : (lg_sl args).length ≤ maxL)
    (body : ∀ X : VX, X.2.1 = l → Fx X G bytes maxL y.cls lev → Rt X = rt → V X G maxL (ZQ X G Qc) 0 (lvA args maxL) [] S) : Met l y (.code y bytes maxL rt :: tb) (rmD lev) (va_Pc args (PW G S)) Qc 0 0 (Aw G) := by
  refine Met.ofW (cc := bytes) (maxL := maxL) (ret := rt) hy rfl ?_
  intro p e s m args' below meth c s₁ B hml hv
  obtain ⟨rfl, hP, hE⟩ := hv
  have hts := atoms_spec (ws := .code y bytes maxL rt :: tb) B.pre
  have hl := lv_entry args (n := maxL) hn
  rw [lg_entry_eq]
  exact body (p, l, e, rmD lev, s, m, args.toArray, below, meth, c, 0, 0) rfl ⟨B.exec, B.bytes, hml, findClass_of_methodNamed B.named, fun w h => hts w (List.mem_cons_of_mem _ h), hE, ⟨Nat.le_refl _, Nat.le_refl _, Nat.le_refl _, Nat.le_refl _⟩, B.notSynchronized⟩ B.returns s.heap [] _ hP va_S.rf (lvA_has hl)
/-! returns -/
section
variable {X : VX} {G : VG} {cc : ByteArray} {nL lev pc n : Nat} {own : String} {lv : List (Option Value)} {S : St}
theorem v_iret {q : Int32 × St} {x : Int32} (hX : Fx X G cc nL own lev) (hr : Rt X = some .int) (hd : Dn cc pc .ireturn 1 n) (h : some (x, S) = some q) : V X G nL (ZQ X G (QI G q)) pc lv [.int x] S := by
  cases h
  obtain ⟨hx, hb, hml, hown, hts, hE, hR, hlk⟩ := hX
  intro H locs ls hP hS hl
  exact W.iret hx hb hr (fun t ht hW => ⟨⟨x, S, rfl, ⟨rfl, rfl⟩, by subst ht; exact hP⟩, hS.F ht⟩) hS.2.2 hd.1 hlk
theorem v_zret {q : Int32 × St} {x : Int32} (hX : Fx X G cc nL own lev) (hr : Rt X = some .boolean) (hd : Dn cc pc .ireturn 1 n) (hb0 : isB x = true) (h : some (x, S) = some q) : V X G nL (ZQ X G (QI G q)) pc lv [.int x] S := by
  cases h
  obtain ⟨hx, hb, hml, hown, hts, hE, hR, hlk⟩ := hX
  intro H locs ls hP hS hl
  exact W.zret hx hb hr (by rcases isB_or hb0 with rfl | rfl <;> rfl) (fun t ht hW => ⟨⟨x, S, rfl, ⟨rfl, rfl⟩, by subst ht; exact hP⟩, hS.F ht⟩) hS.2.2 hd.1 hlk
theorem v_lret {q : Int64 × St} {x : Int64} (hX : Fx X G cc nL own lev) (hr : Rt X = some .long) (hd : Dn cc pc .lreturn 1 n) (h : some (x, S) = some q) : V X G nL (ZQ X G (QL G q)) pc lv [.long x] S := by
  cases h
  obtain ⟨hx, hb, hml, hown, hts, hE, hR, hlk⟩ := hX
  intro H locs ls hP hS hl
  exact W.lret hx hb hr (fun t ht hW => ⟨⟨x, S, rfl, ⟨rfl, rfl⟩, by subst ht; exact hP⟩, hS.F ht⟩) hS.2.2 hd.1 hlk
theorem v_vret {q : Unit × St} (hX : Fx X G cc nL own lev) (hr : Rt X = none) (hd : Dn cc pc .return_ 1 n) (h : some ((), S) = some q) : V X G nL (ZQ X G (QV G q)) pc lv [] S := by
  cases h
  obtain ⟨hx, hb, hml, hown, hts, hE, hR, hlk⟩ := hX
  intro H locs ls hP hS hl
  exact W.vret hx hb hr (fun t ht hW => ⟨⟨S, rfl, rfl, by subst ht; exact hP⟩, hS.F ht⟩) hS.2.2 hd.1 hlk
theorem v_aret {q : Nat × St} {x : Nat} {nm : String} (hX : Fx X G cc nL own lev) (hr : Rt X = some (.object nm)) (hd : Dn cc pc .areturn 1 n) (h : some (x, S) = some q) : V X G nL (ZQ X G (QR G q)) pc lv [.ref (G.2.1 x)] S := by
  cases h
  obtain ⟨hx, hb, hml, hown, hts, hE, hR, hlk⟩ := hX
  intro H locs ls hP hS hl
  exact W.aret hx hb hr (Or.inl ⟨nm, rfl⟩) (Or.inr ⟨_, rfl⟩) (fun t ht hW => ⟨⟨S, _, rfl, rfl, rfl, by subst ht; exact hP⟩, hS.F ht⟩) hS.2.2 hd.1 hlk
end
/-! calls -/
/-- the words of a virtual call -/
def CW (own : String) (idx : Nat) (C : String) (y : MethodName) (bytes : ByteArray) (maxL : Nat) (rt : Option FieldType) (na : Nat) : Prop :=
  Cond.methodLink own idx y ∈ tb ∧ Cond.instanceMethod y ∈ tb ∧ Cond.selects C y y ∈ tb ∧ Cond.initialized C ∈ tb ∧ Cond.code y bytes maxL rt ∈ tb ∧ (y.cls = C ∧ y.cls ≠ "java/lang/invoke/MethodHandle" ∧ y.cls ≠ "java/lang/invoke/VarHandle" ∧ (parseMethodDescriptor y.desc).map (fun d => d.parameters.length) = some na) ∧ maxL ≤ 21
/-- the words of a static call -/
def CS (own : String) (idx : Nat) (y : MethodName) (bytes : ByteArray) (maxL : Nat) (rt : Option FieldType) (na : Nat) : Prop :=
  Cond.methodLink own idx y ∈ tb ∧ Cond.static y ∈ tb ∧ Cond.initialized y.cls ∈ tb ∧ Cond.code y bytes maxL rt ∈ tb ∧ (y.cls ≠ "java/lang/invoke/MethodHandle" ∧ y.cls ≠ "java/lang/invoke/VarHandle" ∧ (parseMethodDescriptor y.desc).map (fun d => d.parameters.length) = some na) ∧ maxL ≤ 21
/-- the cell c is an object of the class C -/
def OC (c : Nat) (C : String) : Prop := ∃ (ci : Nat) (q : vw_C), c < 69 ∧ (sh c).1 = ci ∧ ci < 8 ∧ vwCl[ci]? = some q ∧ q.1 = C
theorem tbl_cons {y : MethodName} {bytes : ByteArray} {maxL : Nat} {rt : Option FieldType} (h : Cond.code y bytes maxL rt ∈ tb) : GoodIn tb (.code y bytes maxL rt :: tb) := fun w hw => by
  rcases List.mem_cons.mp hw with rfl | hw
  · exact tbl_good _ h
  · exact tbl_good _ hw
theorem pw_blind {G : VG} {S : St} {as : List Value} : FrameBlind (va_Pc as (PW G S)) := fun a U g mk q => ⟨q.1, q.2.1, q.2.2.blind⟩
section
variable {X : VX} {G : VG} {cc : ByteArray} {nL lev pc n : Nat} {own : String} {Q : State → Prop} {lv : List (Option Value)} {st stk : List Value} {S : St} {C : String} {idx : Nat} {y : MethodName} {bytes : ByteArray} {maxL na lev' c : Nat} {rt : Option FieldType} {As : List Value} {Qc : Array Value → State → Outcome → State → Prop}
theorem run_V (hX : Fx X G cc nL own lev) (hd : Dn cc pc (.invokevirtual idx) 3 n) (hw : CW own idx C y bytes maxL rt na) (hlev : lev' + 1 ≤ lev) (hc : OC c C) (hst : stk = As.reverse ++ .ref (G.2.1 c) :: st) (hn : As.length = na) (hcat : (st.map fun v => v.category).sum ≤ 8)
    (hM : Met X.2.1 y (.code y bytes maxL rt :: tb) (rmD lev') (va_Pc (.ref (G.2.1 c) :: As) (PW G S)) Qc 0 0 (Aw G)) {H : Heap} {locs : List Loc} {ls : Array Slot} (hP : va_P G.1 vwCl (wld G S) H) (hS : va_S (Aw G) X.2.2.2.2.1.heap H locs) (hl : lvR ls nL lv) :
    va_Run X.1 X.2.1 X.2.2.1 X.2.2.2.1 X.2.2.2.2.1 X.2.2.2.2.2.1 X.2.2.2.2.2.2.1 X.2.2.2.2.2.2.2.1 X.2.2.2.2.2.2.2.2.1 X.2.2.2.2.2.2.2.2.2.1 H locs X.2.2.2.2.2.2.2.2.2.2.1 X.2.2.2.2.2.2.2.2.2.2.2 0 0 (F0 X.2.2.2.2.2.1 pc ls stk) st (Qc (Value.ref (G.2.1 c) :: As).toArray) (Aw G) := by
  obtain ⟨hx, hb, hml, hown, hts, hE, hR, hlk⟩ := hX
  obtain ⟨w1, w2, w3, w4, w5, w6, w7⟩ := hw
  obtain ⟨ci, q, c1, c2, c3, c4, c5⟩ := hc
  have hcell : ∃ fs : List Value, cellOf G S c = .inr (ci, fs) := ⟨_, by simp only [cellOf, c2, c3, if_true]; rfl⟩
  obtain ⟨fs, hfs⟩ := hcell
  have hrecv := va_recv hE.1 hP c4 (show (wld G S)[c]? = some (G.2.1 c, .inr (ci, fs)) by rw [wld_get G S c1, hfs])
  rw [c5] at hrecv
  have cb := callB_of (R := X.2.2.2.1) (rm := rmD lev') (mc := 0) (ms := 0) na hts (tbl_cons w5) rfl rfl rfl (hts _ (by rw [w6.1]; exact w4)) (hts _ w1) w6.2 (by
    refine ⟨?_, ?_⟩
    · show lev' + 1 + 1 ≤ _
      omega
    · show 8 + (maxL + 11) + 40 * (lev' + 1) ≤ _
      omega)
  subst hst
  exact va_runV (As := As) (rest := st) (Ts := tb) ⟨hx, hb, hml, hown, hts⟩ hM ⟨cb, hts _ w2, hts _ w3⟩ ⟨pw_blind, hrecv, fun U hU hW => ⟨rfl, by rw [hU]; exact hP, hE.go hS hU hW⟩⟩ rfl hn hl.1 rfl (lv_room hcat) hd.1 ⟨hR.2.2.1, hR.2.2.2⟩
theorem run_S (hX : Fx X G cc nL own lev) (hd : Dn cc pc (.invokestatic idx) 3 n) (hw : CS own idx y bytes maxL rt na) (hlev : lev' + 1 ≤ lev) (hst : stk = As.reverse ++ st) (hn : As.length = na) (hcat : (st.map fun v => v.category).sum ≤ 8)
    (hM : Met X.2.1 y (.code y bytes maxL rt :: tb) (rmD lev') (va_Pc As (PW G S)) Qc 0 0 (Aw G)) {H : Heap} {locs : List Loc} {ls : Array Slot} (hP : va_P G.1 vwCl (wld G S) H) (hS : va_S (Aw G) X.2.2.2.2.1.heap H locs) (hl : lvR ls nL lv) :
    va_Run X.1 X.2.1 X.2.2.1 X.2.2.2.1 X.2.2.2.2.1 X.2.2.2.2.2.1 X.2.2.2.2.2.2.1 X.2.2.2.2.2.2.2.1 X.2.2.2.2.2.2.2.2.1 X.2.2.2.2.2.2.2.2.2.1 H locs X.2.2.2.2.2.2.2.2.2.2.1 X.2.2.2.2.2.2.2.2.2.2.2 0 0 (F0 X.2.2.2.2.2.1 pc ls stk) st (Qc As.toArray) (Aw G) := by
  obtain ⟨hx, hb, hml, hown, hts, hE, hR, hlk⟩ := hX
  obtain ⟨w1, w2, w4, w5, w6, w7⟩ := hw
  have cb := callB_of (R := X.2.2.2.1) (rm := rmD lev') (mc := 0) (ms := 0) na hts (tbl_cons w5) rfl rfl rfl (hts _ w4) (hts _ w1) w6 (by
    refine ⟨?_, ?_⟩
    · show lev' + 1 + 1 ≤ _
      omega
    · show 8 + (maxL + 11) + 40 * (lev' + 1) ≤ _
      omega)
  subst hst
  exact va_runS (As := As) (rest := st) (Ts := tb) ⟨hx, hb, hml, hown, hts⟩ hM ⟨cb, hts _ w2⟩ ⟨pw_blind, fun U hU hW => ⟨rfl, by rw [hU]; exact hP, hE.go hS hU hW⟩⟩ rfl hn hl.1 rfl (lv_room hcat) hd.1 ⟨hR.2.2.1, hR.2.2.2⟩
theorem v_cvI {q : Int32 × St} (hX : Fx X G cc nL own lev) (hd : Dn cc pc (.invokevirtual idx) 3 n) (hw : CW own idx C y bytes maxL rt na) (hM : MI X.2.1 G y bytes maxL rt lev' (.ref (G.2.1 c) :: As) S q) (hlev : lev' + 1 ≤ lev) (hc : OC c C) (hst : stk = As.reverse ++ .ref (G.2.1 c) :: st) (hn : As.length = na) (hcat : (st.map fun v => v.category).sum ≤ 8) (k : V X G nL Q n lv (.int q.1 :: st) q.2) : V X G nL Q pc lv stk S := by
  intro H locs ls hP hS hl
  refine va_calli (run_V hX hd hw hlev hc hst hn hcat hM hP hS hl) hS (fun _ _ h => h) (fun _ h => h) (fun r u t H1 locs1 ht hvm hpo hB hz hk hS1 => ?_)
  obtain ⟨rfl, rfl⟩ := hpo
  obtain ⟨-, rfl⟩ := hd
  rw [ht] at hB
  exact k H1 locs1 ls hB hS1 hl
theorem v_cvL {q : Int64 × St} (hX : Fx X G cc nL own lev) (hd : Dn cc pc (.invokevirtual idx) 3 n) (hw : CW own idx C y bytes maxL rt na) (hM : ML X.2.1 G y bytes maxL rt lev' (.ref (G.2.1 c) :: As) S q) (hlev : lev' + 1 ≤ lev) (hc : OC c C) (hst : stk = As.reverse ++ .ref (G.2.1 c) :: st) (hn : As.length = na) (hcat : (st.map fun v => v.category).sum ≤ 8) (k : V X G nL Q n lv (.long q.1 :: st) q.2) : V X G nL Q pc lv stk S := by
  intro H locs ls hP hS hl
  refine va_calll (run_V hX hd hw hlev hc hst hn hcat hM hP hS hl) hS (fun _ _ h => h) (fun _ h => h) (fun r u t H1 locs1 ht hvm hpo hB hz hk hS1 => ?_)
  obtain ⟨rfl, rfl⟩ := hpo
  obtain ⟨-, rfl⟩ := hd
  rw [ht] at hB
  exact k H1 locs1 ls hB hS1 hl
theorem v_cvV {q : Unit × St} (hX : Fx X G cc nL own lev) (hd : Dn cc pc (.invokevirtual idx) 3 n) (hw : CW own idx C y bytes maxL rt na) (hM : MV X.2.1 G y bytes maxL rt lev' (.ref (G.2.1 c) :: As) S q) (hlev : lev' + 1 ≤ lev) (hc : OC c C) (hst : stk = As.reverse ++ .ref (G.2.1 c) :: st) (hn : As.length = na) (hcat : (st.map fun v => v.category).sum ≤ 8) (k : V X G nL Q n lv st q.2) : V X G nL Q pc lv stk S := by
  intro H locs ls hP hS hl
  refine va_callv (run_V hX hd hw hlev hc hst hn hcat hM hP hS hl) hS (fun _ _ h => h) (fun _ h => h) (fun u t H1 locs1 ht hvm hpo hB hz hk hS1 => ?_)
  cases hpo
  obtain ⟨-, rfl⟩ := hd
  rw [ht] at hB
  exact k H1 locs1 ls hB hS1 hl
theorem v_cvR {q : Nat × St} (hX : Fx X G cc nL own lev) (hd : Dn cc pc (.invokevirtual idx) 3 n) (hw : CW own idx C y bytes maxL rt na) (hM : MR X.2.1 G y bytes maxL rt lev' (.ref (G.2.1 c) :: As) S q) (hlev : lev' + 1 ≤ lev) (hc : OC c C) (hst : stk = As.reverse ++ .ref (G.2.1 c) :: st) (hn : As.length = na) (hcat : (st.map fun v => v.category).sum ≤ 8) (k : V X G nL Q n lv (.ref (G.2.1 q.1) :: st) q.2) : V X G nL Q pc lv stk S := by
  intro H locs ls hP hS hl
  refine va_callr (run_V hX hd hw hlev hc hst hn hcat hM hP hS hl) hS (fun _ _ h => h) (fun _ h => h) (fun u ra t H1 locs1 ht hvm hpo hB hz hk hS1 => ?_)
  cases hpo
  obtain ⟨-, rfl⟩ := hd
  obtain ⟨rfl, hB⟩ := hB
  rw [ht] at hB
  exact k H1 locs1 ls hB hS1 hl
theorem v_csI {q : Int32 × St} (hX : Fx X G cc nL own lev) (hd : Dn cc pc (.invokestatic idx) 3 n) (hw : CS own idx y bytes maxL rt na) (hM : MI X.2.1 G y bytes maxL rt lev' As S q) (hlev : lev' + 1 ≤ lev) (hst : stk = As.reverse ++ st) (hn : As.length = na) (hcat : (st.map fun v => v.category).sum ≤ 8) (k : V X G nL Q n lv (.int q.1 :: st) q.2) : V X G nL Q pc lv stk S := by
  intro H locs ls hP hS hl
  refine va_calli (run_S hX hd hw hlev hst hn hcat hM hP hS hl) hS (fun _ _ h => h) (fun _ h => h) (fun r u t H1 locs1 ht hvm hpo hB hz hk hS1 => ?_)
  obtain ⟨rfl, rfl⟩ := hpo
  obtain ⟨-, rfl⟩ := hd
  rw [ht] at hB
  exact k H1 locs1 ls hB hS1 hl
theorem v_csL {q : Int64 × St} (hX : Fx X G cc nL own lev) (hd : Dn cc pc (.invokestatic idx) 3 n) (hw : CS own idx y bytes maxL rt na) (hM : ML X.2.1 G y bytes maxL rt lev' As S q) (hlev : lev' + 1 ≤ lev) (hst : stk = As.reverse ++ st) (hn : As.length = na) (hcat : (st.map fun v => v.category).sum ≤ 8) (k : V X G nL Q n lv (.long q.1 :: st) q.2) : V X G nL Q pc lv stk S := by
  intro H locs ls hP hS hl
  refine va_calll (run_S hX hd hw hlev hst hn hcat hM hP hS hl) hS (fun _ _ h => h) (fun _ h => h) (fun r u t H1 locs1 ht hvm hpo hB hz hk hS1 => ?_)
  obtain ⟨rfl, rfl⟩ := hpo
  obtain ⟨-, rfl⟩ := hd
  rw [ht] at hB
  exact k H1 locs1 ls hB hS1 hl
theorem v_csV {q : Unit × St} (hX : Fx X G cc nL own lev) (hd : Dn cc pc (.invokestatic idx) 3 n) (hw : CS own idx y bytes maxL rt na) (hM : MV X.2.1 G y bytes maxL rt lev' As S q) (hlev : lev' + 1 ≤ lev) (hst : stk = As.reverse ++ st) (hn : As.length = na) (hcat : (st.map fun v => v.category).sum ≤ 8) (k : V X G nL Q n lv st q.2) : V X G nL Q pc lv stk S := by
  intro H locs ls hP hS hl
  refine va_callv (run_S hX hd hw hlev hst hn hcat hM hP hS hl) hS (fun _ _ h => h) (fun _ h => h) (fun u t H1 locs1 ht hvm hpo hB hz hk hS1 => ?_)
  cases hpo
  obtain ⟨-, rfl⟩ := hd
  rw [ht] at hB
  exact k H1 locs1 ls hB hS1 hl
end
end
