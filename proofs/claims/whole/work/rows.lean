section
-- ===== PART A: goes FIRST, ahead of the names: the tables' words, and 'selects' of the private methods out of them =====
/-- a private method of a class that the tables say can be made, by its rows of tables_1 -/
def lw_okq (q : MethodName × Nat) : Prop := (q.1.cls ≠ "java/lang/invoke/MethodHandle" ∧ q.1.cls ≠ "java/lang/invoke/VarHandle") ∧ Cond.instantiable q.1.cls q.2 ∈ tables_1 ∧ Cond.privateMethod q.1 ∈ tables_1 ∧ Cond.instanceMethod q.1 ∈ tables_1
theorem lw_p0 : lw_okq (⟨"ChairOld", "addPiece", "(II)V"⟩, 14) := ⟨⟨by decide +kernel, by decide +kernel⟩, List.mem_of_getElem? (i := 16) (by decide +kernel), List.mem_of_getElem? (i := 234) (by decide +kernel), List.mem_of_getElem? (i := 235) (by decide +kernel)⟩
theorem lw_p1 : lw_okq (⟨"ChairOld", "addFromRow", "(II)Z"⟩, 14) := ⟨⟨by decide +kernel, by decide +kernel⟩, List.mem_of_getElem? (i := 16) (by decide +kernel), List.mem_of_getElem? (i := 281) (by decide +kernel), List.mem_of_getElem? (i := 282) (by decide +kernel)⟩
theorem lw_p2 : lw_okq (⟨"ChairOld$Told", "remember", "(III)V"⟩, 6) := ⟨⟨by decide +kernel, by decide +kernel⟩, List.mem_of_getElem? (i := 24) (by decide +kernel), List.mem_of_getElem? (i := 311) (by decide +kernel), List.mem_of_getElem? (i := 312) (by decide +kernel)⟩
theorem lw_p3 : lw_okq (⟨"ChairOld$Told", "dropOldest", "()V"⟩, 6) := ⟨⟨by decide +kernel, by decide +kernel⟩, List.mem_of_getElem? (i := 24) (by decide +kernel), List.mem_of_getElem? (i := 315) (by decide +kernel), List.mem_of_getElem? (i := 316) (by decide +kernel)⟩
theorem lw_p4 : lw_okq (⟨"ChairOld$Told", "set", "(II)V"⟩, 6) := ⟨⟨by decide +kernel, by decide +kernel⟩, List.mem_of_getElem? (i := 24) (by decide +kernel), List.mem_of_getElem? (i := 322) (by decide +kernel), List.mem_of_getElem? (i := 323) (by decide +kernel)⟩
theorem lw_p5 : lw_okq (⟨"ChairOld", "pieceAt", "(I)LChairOld$Piece;"⟩, 14) := ⟨⟨by decide +kernel, by decide +kernel⟩, List.mem_of_getElem? (i := 16) (by decide +kernel), List.mem_of_getElem? (i := 330) (by decide +kernel), List.mem_of_getElem? (i := 331) (by decide +kernel)⟩
theorem lw_p6 : lw_okq (⟨"ChairOld", "numberTold", "(II)I"⟩, 14) := ⟨⟨by decide +kernel, by decide +kernel⟩, List.mem_of_getElem? (i := 16) (by decide +kernel), List.mem_of_getElem? (i := 352) (by decide +kernel), List.mem_of_getElem? (i := 353) (by decide +kernel)⟩
theorem lw_p7 : lw_okq (⟨"ChairOld$Reader", "line", "()V"⟩, 6) := ⟨⟨by decide +kernel, by decide +kernel⟩, List.mem_of_getElem? (i := 67) (by decide +kernel), List.mem_of_getElem? (i := 373) (by decide +kernel), List.mem_of_getElem? (i := 374) (by decide +kernel)⟩
theorem lw_p8 : lw_okq (⟨"ChairOld$Reader", "level", "(II)V"⟩, 6) := ⟨⟨by decide +kernel, by decide +kernel⟩, List.mem_of_getElem? (i := 67) (by decide +kernel), List.mem_of_getElem? (i := 377) (by decide +kernel), List.mem_of_getElem? (i := 378) (by decide +kernel)⟩
theorem lw_p9 : lw_okq (⟨"ChairOld$Reader", "operand", "(I)V"⟩, 6) := ⟨⟨by decide +kernel, by decide +kernel⟩, List.mem_of_getElem? (i := 67) (by decide +kernel), List.mem_of_getElem? (i := 381) (by decide +kernel), List.mem_of_getElem? (i := 382) (by decide +kernel)⟩
theorem lw_p10 : lw_okq (⟨"ChairOld$Reader", "sign", "()I"⟩, 6) := ⟨⟨by decide +kernel, by decide +kernel⟩, List.mem_of_getElem? (i := 67) (by decide +kernel), List.mem_of_getElem? (i := 385) (by decide +kernel), List.mem_of_getElem? (i := 386) (by decide +kernel)⟩
theorem lw_p11 : lw_okq (⟨"ChairOld$Reader", "digits", "()V"⟩, 6) := ⟨⟨by decide +kernel, by decide +kernel⟩, List.mem_of_getElem? (i := 67) (by decide +kernel), List.mem_of_getElem? (i := 392) (by decide +kernel), List.mem_of_getElem? (i := 393) (by decide +kernel)⟩
theorem lw_p12 : lw_okq (⟨"ChairOld$Reader", "emit", "(I)V"⟩, 6) := ⟨⟨by decide +kernel, by decide +kernel⟩, List.mem_of_getElem? (i := 67) (by decide +kernel), List.mem_of_getElem? (i := 396) (by decide +kernel), List.mem_of_getElem? (i := 397) (by decide +kernel)⟩
theorem lw_p13 : lw_okq (⟨"ChairOld$Reader", "opened", "(II)V"⟩, 6) := ⟨⟨by decide +kernel, by decide +kernel⟩, List.mem_of_getElem? (i := 67) (by decide +kernel), List.mem_of_getElem? (i := 400) (by decide +kernel), List.mem_of_getElem? (i := 401) (by decide +kernel)⟩
theorem lw_p14 : lw_okq (⟨"ChairOld$Scale", "weight", "(LChairOld$Piece;IIII)J"⟩, 6) := ⟨⟨by decide +kernel, by decide +kernel⟩, List.mem_of_getElem? (i := 95) (by decide +kernel), List.mem_of_getElem? (i := 465) (by decide +kernel), List.mem_of_getElem? (i := 466) (by decide +kernel)⟩
theorem lw_p15 : lw_okq (⟨"ChairOld$Scale", "weightFound", "(LChairOld$Piece;II)J"⟩, 6) := ⟨⟨by decide +kernel, by decide +kernel⟩, List.mem_of_getElem? (i := 95) (by decide +kernel), List.mem_of_getElem? (i := 505) (by decide +kernel), List.mem_of_getElem? (i := 506) (by decide +kernel)⟩
def lw_privs_1 : List (MethodName × Nat) := [(⟨"ChairOld", "addPiece", "(II)V"⟩, 14), (⟨"ChairOld", "addFromRow", "(II)Z"⟩, 14), (⟨"ChairOld$Told", "remember", "(III)V"⟩, 6), (⟨"ChairOld$Told", "dropOldest", "()V"⟩, 6), (⟨"ChairOld$Told", "set", "(II)V"⟩, 6), (⟨"ChairOld", "pieceAt", "(I)LChairOld$Piece;"⟩, 14), (⟨"ChairOld", "numberTold", "(II)I"⟩, 14), (⟨"ChairOld$Reader", "line", "()V"⟩, 6), (⟨"ChairOld$Reader", "level", "(II)V"⟩, 6), (⟨"ChairOld$Reader", "operand", "(I)V"⟩, 6), (⟨"ChairOld$Reader", "sign", "()I"⟩, 6), (⟨"ChairOld$Reader", "digits", "()V"⟩, 6), (⟨"ChairOld$Reader", "emit", "(I)V"⟩, 6), (⟨"ChairOld$Reader", "opened", "(II)V"⟩, 6), (⟨"ChairOld$Scale", "weight", "(LChairOld$Piece;IIII)J"⟩, 6), (⟨"ChairOld$Scale", "weightFound", "(LChairOld$Piece;II)J"⟩, 6)]
theorem lw_r1 : ∀ q ∈ lw_privs_1, lw_okq q := List.forall_mem_cons.mpr ⟨lw_p0, List.forall_mem_cons.mpr ⟨lw_p1, List.forall_mem_cons.mpr ⟨lw_p2, List.forall_mem_cons.mpr ⟨lw_p3, List.forall_mem_cons.mpr ⟨lw_p4, List.forall_mem_cons.mpr ⟨lw_p5, List.forall_mem_cons.mpr ⟨lw_p6, List.forall_mem_cons.mpr ⟨lw_p7, List.forall_mem_cons.mpr ⟨lw_p8, List.forall_mem_cons.mpr ⟨lw_p9, List.forall_mem_cons.mpr ⟨lw_p10, List.forall_mem_cons.mpr ⟨lw_p11, List.forall_mem_cons.mpr ⟨lw_p12, List.forall_mem_cons.mpr ⟨lw_p13, List.forall_mem_cons.mpr ⟨lw_p14, List.forall_mem_cons.mpr ⟨lw_p15, fun _ h => absurd h List.not_mem_nil⟩⟩⟩⟩⟩⟩⟩⟩⟩⟩⟩⟩⟩⟩⟩⟩
theorem lw_p16 : lw_okq (⟨"ChairOld", "allTrue", "()I"⟩, 14) := ⟨⟨by decide +kernel, by decide +kernel⟩, List.mem_of_getElem? (i := 16) (by decide +kernel), List.mem_of_getElem? (i := 521) (by decide +kernel), List.mem_of_getElem? (i := 522) (by decide +kernel)⟩
theorem lw_p17 : lw_okq (⟨"ChairOld", "atLeastTwoNot", "()I"⟩, 14) := ⟨⟨by decide +kernel, by decide +kernel⟩, List.mem_of_getElem? (i := 16) (by decide +kernel), List.mem_of_getElem? (i := 525) (by decide +kernel), List.mem_of_getElem? (i := 526) (by decide +kernel)⟩
theorem lw_p18 : lw_okq (⟨"ChairOld", "whenTrue", "(LChairOld$Piece;)I"⟩, 14) := ⟨⟨by decide +kernel, by decide +kernel⟩, List.mem_of_getElem? (i := 16) (by decide +kernel), List.mem_of_getElem? (i := 534) (by decide +kernel), List.mem_of_getElem? (i := 535) (by decide +kernel)⟩
theorem lw_p19 : lw_okq (⟨"ChairOld$Scale", "splitProducts", "(IZI)V"⟩, 6) := ⟨⟨by decide +kernel, by decide +kernel⟩, List.mem_of_getElem? (i := 95) (by decide +kernel), List.mem_of_getElem? (i := 570) (by decide +kernel), List.mem_of_getElem? (i := 571) (by decide +kernel)⟩
theorem lw_p20 : lw_okq (⟨"ChairOld$Scale", "addProducts", "(I)J"⟩, 6) := ⟨⟨by decide +kernel, by decide +kernel⟩, List.mem_of_getElem? (i := 95) (by decide +kernel), List.mem_of_getElem? (i := 574) (by decide +kernel), List.mem_of_getElem? (i := 575) (by decide +kernel)⟩
theorem lw_p21 : lw_okq (⟨"ChairOld", "bestPlan", "(IIJ)I"⟩, 14) := ⟨⟨by decide +kernel, by decide +kernel⟩, List.mem_of_getElem? (i := 16) (by decide +kernel), List.mem_of_getElem? (i := 587) (by decide +kernel), List.mem_of_getElem? (i := 588) (by decide +kernel)⟩
theorem lw_p22 : lw_okq (⟨"ChairOld", "beliefInMade", "(LChairOld$Piece;I)I"⟩, 14) := ⟨⟨by decide +kernel, by decide +kernel⟩, List.mem_of_getElem? (i := 16) (by decide +kernel), List.mem_of_getElem? (i := 600) (by decide +kernel), List.mem_of_getElem? (i := 601) (by decide +kernel)⟩
theorem lw_p23 : lw_okq (⟨"ChairOld", "worthOf", "(LChairOld$Piece;)I"⟩, 14) := ⟨⟨by decide +kernel, by decide +kernel⟩, List.mem_of_getElem? (i := 16) (by decide +kernel), List.mem_of_getElem? (i := 623) (by decide +kernel), List.mem_of_getElem? (i := 624) (by decide +kernel)⟩
theorem lw_p24 : lw_okq (⟨"ChairOld$Bodies", "run", "(IIIII)I"⟩, 4) := ⟨⟨by decide +kernel, by decide +kernel⟩, List.mem_of_getElem? (i := 142) (by decide +kernel), List.mem_of_getElem? (i := 709) (by decide +kernel), List.mem_of_getElem? (i := 710) (by decide +kernel)⟩
theorem lw_p25 : lw_okq (⟨"ChairOld$Bodies", "note", "(I)V"⟩, 4) := ⟨⟨by decide +kernel, by decide +kernel⟩, List.mem_of_getElem? (i := 142) (by decide +kernel), List.mem_of_getElem? (i := 724) (by decide +kernel), List.mem_of_getElem? (i := 725) (by decide +kernel)⟩
theorem lw_p26 : lw_okq (⟨"ChairOld$Shelves", "reaches", "(III)Z"⟩, 4) := ⟨⟨by decide +kernel, by decide +kernel⟩, List.mem_of_getElem? (i := 163) (by decide +kernel), List.mem_of_getElem? (i := 787) (by decide +kernel), List.mem_of_getElem? (i := 788) (by decide +kernel)⟩
theorem lw_p27 : lw_okq (⟨"ChairOld", "marksLookedFor", "()I"⟩, 14) := ⟨⟨by decide +kernel, by decide +kernel⟩, List.mem_of_getElem? (i := 16) (by decide +kernel), List.mem_of_getElem? (i := 808) (by decide +kernel), List.mem_of_getElem? (i := 809) (by decide +kernel)⟩
theorem lw_p28 : lw_okq (⟨"ChairOldModel", "adds", "(II)V"⟩, 44) := ⟨⟨by decide +kernel, by decide +kernel⟩, List.mem_of_getElem? (i := 818) (by decide +kernel), List.mem_of_getElem? (i := 973) (by decide +kernel), List.mem_of_getElem? (i := 974) (by decide +kernel)⟩
theorem lw_p29 : lw_okq (⟨"ChairOldModel", "becomes", "(II)I"⟩, 44) := ⟨⟨by decide +kernel, by decide +kernel⟩, List.mem_of_getElem? (i := 818) (by decide +kernel), List.mem_of_getElem? (i := 994) (by decide +kernel), List.mem_of_getElem? (i := 995) (by decide +kernel)⟩
theorem lw_p30 : lw_okq (⟨"ChairOldModel", "isPm", "(I)Z"⟩, 44) := ⟨⟨by decide +kernel, by decide +kernel⟩, List.mem_of_getElem? (i := 818) (by decide +kernel), List.mem_of_getElem? (i := 1005) (by decide +kernel), List.mem_of_getElem? (i := 1006) (by decide +kernel)⟩
theorem lw_p31 : lw_okq (⟨"ChairOldModel", "isPart", "(I)Z"⟩, 44) := ⟨⟨by decide +kernel, by decide +kernel⟩, List.mem_of_getElem? (i := 818) (by decide +kernel), List.mem_of_getElem? (i := 1009) (by decide +kernel), List.mem_of_getElem? (i := 1010) (by decide +kernel)⟩
def lw_privs_2 : List (MethodName × Nat) := [(⟨"ChairOld", "allTrue", "()I"⟩, 14), (⟨"ChairOld", "atLeastTwoNot", "()I"⟩, 14), (⟨"ChairOld", "whenTrue", "(LChairOld$Piece;)I"⟩, 14), (⟨"ChairOld$Scale", "splitProducts", "(IZI)V"⟩, 6), (⟨"ChairOld$Scale", "addProducts", "(I)J"⟩, 6), (⟨"ChairOld", "bestPlan", "(IIJ)I"⟩, 14), (⟨"ChairOld", "beliefInMade", "(LChairOld$Piece;I)I"⟩, 14), (⟨"ChairOld", "worthOf", "(LChairOld$Piece;)I"⟩, 14), (⟨"ChairOld$Bodies", "run", "(IIIII)I"⟩, 4), (⟨"ChairOld$Bodies", "note", "(I)V"⟩, 4), (⟨"ChairOld$Shelves", "reaches", "(III)Z"⟩, 4), (⟨"ChairOld", "marksLookedFor", "()I"⟩, 14), (⟨"ChairOldModel", "adds", "(II)V"⟩, 44), (⟨"ChairOldModel", "becomes", "(II)I"⟩, 44), (⟨"ChairOldModel", "isPm", "(I)Z"⟩, 44), (⟨"ChairOldModel", "isPart", "(I)Z"⟩, 44)]
theorem lw_r2 : ∀ q ∈ lw_privs_2, lw_okq q := List.forall_mem_cons.mpr ⟨lw_p16, List.forall_mem_cons.mpr ⟨lw_p17, List.forall_mem_cons.mpr ⟨lw_p18, List.forall_mem_cons.mpr ⟨lw_p19, List.forall_mem_cons.mpr ⟨lw_p20, List.forall_mem_cons.mpr ⟨lw_p21, List.forall_mem_cons.mpr ⟨lw_p22, List.forall_mem_cons.mpr ⟨lw_p23, List.forall_mem_cons.mpr ⟨lw_p24, List.forall_mem_cons.mpr ⟨lw_p25, List.forall_mem_cons.mpr ⟨lw_p26, List.forall_mem_cons.mpr ⟨lw_p27, List.forall_mem_cons.mpr ⟨lw_p28, List.forall_mem_cons.mpr ⟨lw_p29, List.forall_mem_cons.mpr ⟨lw_p30, List.forall_mem_cons.mpr ⟨lw_p31, fun _ h => absurd h List.not_mem_nil⟩⟩⟩⟩⟩⟩⟩⟩⟩⟩⟩⟩⟩⟩⟩⟩
theorem lw_p32 : lw_okq (⟨"ChairOldModel", "workOut", "(II)I"⟩, 44) := ⟨⟨by decide +kernel, by decide +kernel⟩, List.mem_of_getElem? (i := 818) (by decide +kernel), List.mem_of_getElem? (i := 1033) (by decide +kernel), List.mem_of_getElem? (i := 1034) (by decide +kernel)⟩
theorem lw_p33 : lw_okq (⟨"ChairOldModel", "either", "()I"⟩, 44) := ⟨⟨by decide +kernel, by decide +kernel⟩, List.mem_of_getElem? (i := 818) (by decide +kernel), List.mem_of_getElem? (i := 1037) (by decide +kernel), List.mem_of_getElem? (i := 1038) (by decide +kernel)⟩
theorem lw_p34 : lw_okq (⟨"ChairOldModel", "both", "()I"⟩, 44) := ⟨⟨by decide +kernel, by decide +kernel⟩, List.mem_of_getElem? (i := 818) (by decide +kernel), List.mem_of_getElem? (i := 1041) (by decide +kernel), List.mem_of_getElem? (i := 1042) (by decide +kernel)⟩
theorem lw_p35 : lw_okq (⟨"ChairOldModel", "compared", "()I"⟩, 44) := ⟨⟨by decide +kernel, by decide +kernel⟩, List.mem_of_getElem? (i := 818) (by decide +kernel), List.mem_of_getElem? (i := 1045) (by decide +kernel), List.mem_of_getElem? (i := 1046) (by decide +kernel)⟩
theorem lw_p36 : lw_okq (⟨"ChairOldModel", "sums", "()I"⟩, 44) := ⟨⟨by decide +kernel, by decide +kernel⟩, List.mem_of_getElem? (i := 818) (by decide +kernel), List.mem_of_getElem? (i := 1049) (by decide +kernel), List.mem_of_getElem? (i := 1050) (by decide +kernel)⟩
theorem lw_p37 : lw_okq (⟨"ChairOldModel", "product", "()I"⟩, 44) := ⟨⟨by decide +kernel, by decide +kernel⟩, List.mem_of_getElem? (i := 818) (by decide +kernel), List.mem_of_getElem? (i := 1053) (by decide +kernel), List.mem_of_getElem? (i := 1054) (by decide +kernel)⟩
theorem lw_p38 : lw_okq (⟨"ChairOldModel", "one", "()I"⟩, 44) := ⟨⟨by decide +kernel, by decide +kernel⟩, List.mem_of_getElem? (i := 818) (by decide +kernel), List.mem_of_getElem? (i := 1057) (by decide +kernel), List.mem_of_getElem? (i := 1058) (by decide +kernel)⟩
theorem lw_p39 : lw_okq (⟨"ChairOldModel", "byteAt", "()I"⟩, 44) := ⟨⟨by decide +kernel, by decide +kernel⟩, List.mem_of_getElem? (i := 818) (by decide +kernel), List.mem_of_getElem? (i := 1061) (by decide +kernel), List.mem_of_getElem? (i := 1062) (by decide +kernel)⟩
theorem lw_p40 : lw_okq (⟨"ChairOldModel", "wrong", "()I"⟩, 44) := ⟨⟨by decide +kernel, by decide +kernel⟩, List.mem_of_getElem? (i := 818) (by decide +kernel), List.mem_of_getElem? (i := 1065) (by decide +kernel), List.mem_of_getElem? (i := 1066) (by decide +kernel)⟩
theorem lw_p41 : lw_okq (⟨"ChairOldModel", "takes", "(I)Z"⟩, 44) := ⟨⟨by decide +kernel, by decide +kernel⟩, List.mem_of_getElem? (i := 818) (by decide +kernel), List.mem_of_getElem? (i := 1069) (by decide +kernel), List.mem_of_getElem? (i := 1070) (by decide +kernel)⟩
theorem lw_p42 : lw_okq (⟨"ChairOldModel", "numberOf", "(IIII)I"⟩, 44) := ⟨⟨by decide +kernel, by decide +kernel⟩, List.mem_of_getElem? (i := 818) (by decide +kernel), List.mem_of_getElem? (i := 1080) (by decide +kernel), List.mem_of_getElem? (i := 1081) (by decide +kernel)⟩
theorem lw_p43 : lw_okq (⟨"ChairOldModel", "isPk", "(I)Z"⟩, 44) := ⟨⟨by decide +kernel, by decide +kernel⟩, List.mem_of_getElem? (i := 818) (by decide +kernel), List.mem_of_getElem? (i := 1088) (by decide +kernel), List.mem_of_getElem? (i := 1089) (by decide +kernel)⟩
theorem lw_p44 : lw_okq (⟨"ChairOldModel", "weighsPart", "(I)V"⟩, 44) := ⟨⟨by decide +kernel, by decide +kernel⟩, List.mem_of_getElem? (i := 818) (by decide +kernel), List.mem_of_getElem? (i := 1093) (by decide +kernel), List.mem_of_getElem? (i := 1094) (by decide +kernel)⟩
theorem lw_p45 : lw_okq (⟨"ChairOldModel", "looksAt", "(I)V"⟩, 44) := ⟨⟨by decide +kernel, by decide +kernel⟩, List.mem_of_getElem? (i := 818) (by decide +kernel), List.mem_of_getElem? (i := 1097) (by decide +kernel), List.mem_of_getElem? (i := 1098) (by decide +kernel)⟩
theorem lw_p46 : lw_okq (⟨"ChairOldModel", "weighs", "()V"⟩, 44) := ⟨⟨by decide +kernel, by decide +kernel⟩, List.mem_of_getElem? (i := 818) (by decide +kernel), List.mem_of_getElem? (i := 1101) (by decide +kernel), List.mem_of_getElem? (i := 1102) (by decide +kernel)⟩
theorem lw_p47 : lw_okq (⟨"ChairOldModel", "percentNow", "(I)I"⟩, 44) := ⟨⟨by decide +kernel, by decide +kernel⟩, List.mem_of_getElem? (i := 818) (by decide +kernel), List.mem_of_getElem? (i := 1113) (by decide +kernel), List.mem_of_getElem? (i := 1114) (by decide +kernel)⟩
def lw_privs_3 : List (MethodName × Nat) := [(⟨"ChairOldModel", "workOut", "(II)I"⟩, 44), (⟨"ChairOldModel", "either", "()I"⟩, 44), (⟨"ChairOldModel", "both", "()I"⟩, 44), (⟨"ChairOldModel", "compared", "()I"⟩, 44), (⟨"ChairOldModel", "sums", "()I"⟩, 44), (⟨"ChairOldModel", "product", "()I"⟩, 44), (⟨"ChairOldModel", "one", "()I"⟩, 44), (⟨"ChairOldModel", "byteAt", "()I"⟩, 44), (⟨"ChairOldModel", "wrong", "()I"⟩, 44), (⟨"ChairOldModel", "takes", "(I)Z"⟩, 44), (⟨"ChairOldModel", "numberOf", "(IIII)I"⟩, 44), (⟨"ChairOldModel", "isPk", "(I)Z"⟩, 44), (⟨"ChairOldModel", "weighsPart", "(I)V"⟩, 44), (⟨"ChairOldModel", "looksAt", "(I)V"⟩, 44), (⟨"ChairOldModel", "weighs", "()V"⟩, 44), (⟨"ChairOldModel", "percentNow", "(I)I"⟩, 44)]
theorem lw_r3 : ∀ q ∈ lw_privs_3, lw_okq q := List.forall_mem_cons.mpr ⟨lw_p32, List.forall_mem_cons.mpr ⟨lw_p33, List.forall_mem_cons.mpr ⟨lw_p34, List.forall_mem_cons.mpr ⟨lw_p35, List.forall_mem_cons.mpr ⟨lw_p36, List.forall_mem_cons.mpr ⟨lw_p37, List.forall_mem_cons.mpr ⟨lw_p38, List.forall_mem_cons.mpr ⟨lw_p39, List.forall_mem_cons.mpr ⟨lw_p40, List.forall_mem_cons.mpr ⟨lw_p41, List.forall_mem_cons.mpr ⟨lw_p42, List.forall_mem_cons.mpr ⟨lw_p43, List.forall_mem_cons.mpr ⟨lw_p44, List.forall_mem_cons.mpr ⟨lw_p45, List.forall_mem_cons.mpr ⟨lw_p46, List.forall_mem_cons.mpr ⟨lw_p47, fun _ h => absurd h List.not_mem_nil⟩⟩⟩⟩⟩⟩⟩⟩⟩⟩⟩⟩⟩⟩⟩⟩
theorem lw_p48 : lw_okq (⟨"ChairOldModel", "mostOf", "()I"⟩, 44) := ⟨⟨by decide +kernel, by decide +kernel⟩, List.mem_of_getElem? (i := 818) (by decide +kernel), List.mem_of_getElem? (i := 1121) (by decide +kernel), List.mem_of_getElem? (i := 1122) (by decide +kernel)⟩
theorem lw_p49 : lw_okq (⟨"ChairOldModel", "whenNow", "(I)I"⟩, 44) := ⟨⟨by decide +kernel, by decide +kernel⟩, List.mem_of_getElem? (i := 818) (by decide +kernel), List.mem_of_getElem? (i := 1129) (by decide +kernel), List.mem_of_getElem? (i := 1130) (by decide +kernel)⟩
theorem lw_p50 : lw_okq (⟨"ChairOldModel", "unlooked", "(I)I"⟩, 44) := ⟨⟨by decide +kernel, by decide +kernel⟩, List.mem_of_getElem? (i := 818) (by decide +kernel), List.mem_of_getElem? (i := 1151) (by decide +kernel), List.mem_of_getElem? (i := 1152) (by decide +kernel)⟩
theorem lw_p51 : lw_okq (⟨"ChairOldModel", "namedBy", "(IIJ)I"⟩, 44) := ⟨⟨by decide +kernel, by decide +kernel⟩, List.mem_of_getElem? (i := 818) (by decide +kernel), List.mem_of_getElem? (i := 1155) (by decide +kernel), List.mem_of_getElem? (i := 1156) (by decide +kernel)⟩
theorem lw_p52 : lw_okq (⟨"ChairOldModel", "minutesOf", "(I)I"⟩, 44) := ⟨⟨by decide +kernel, by decide +kernel⟩, List.mem_of_getElem? (i := 818) (by decide +kernel), List.mem_of_getElem? (i := 1165) (by decide +kernel), List.mem_of_getElem? (i := 1166) (by decide +kernel)⟩
theorem lw_p53 : lw_okq (⟨"ChairOldModel", "believedBy", "(I)I"⟩, 44) := ⟨⟨by decide +kernel, by decide +kernel⟩, List.mem_of_getElem? (i := 818) (by decide +kernel), List.mem_of_getElem? (i := 1173) (by decide +kernel), List.mem_of_getElem? (i := 1174) (by decide +kernel)⟩
theorem lw_p54 : lw_okq (⟨"ChairOldModel", "costOf", "(I)I"⟩, 44) := ⟨⟨by decide +kernel, by decide +kernel⟩, List.mem_of_getElem? (i := 818) (by decide +kernel), List.mem_of_getElem? (i := 1181) (by decide +kernel), List.mem_of_getElem? (i := 1182) (by decide +kernel)⟩
theorem lw_p55 : lw_okq (⟨"ChairOldModel", "priceOf", "(I)I"⟩, 44) := ⟨⟨by decide +kernel, by decide +kernel⟩, List.mem_of_getElem? (i := 818) (by decide +kernel), List.mem_of_getElem? (i := 1193) (by decide +kernel), List.mem_of_getElem? (i := 1194) (by decide +kernel)⟩
theorem lw_p56 : lw_okq (⟨"ChairOldModel", "clash", "()I"⟩, 44) := ⟨⟨by decide +kernel, by decide +kernel⟩, List.mem_of_getElem? (i := 818) (by decide +kernel), List.mem_of_getElem? (i := 1205) (by decide +kernel), List.mem_of_getElem? (i := 1206) (by decide +kernel)⟩
theorem lw_p57 : lw_okq (⟨"ChairOldModel", "gaps", "()I"⟩, 44) := ⟨⟨by decide +kernel, by decide +kernel⟩, List.mem_of_getElem? (i := 818) (by decide +kernel), List.mem_of_getElem? (i := 1209) (by decide +kernel), List.mem_of_getElem? (i := 1210) (by decide +kernel)⟩
theorem lw_p58 : lw_okq (⟨"ChairOldModel", "houseOf", "(I)I"⟩, 44) := ⟨⟨by decide +kernel, by decide +kernel⟩, List.mem_of_getElem? (i := 818) (by decide +kernel), List.mem_of_getElem? (i := 1213) (by decide +kernel), List.mem_of_getElem? (i := 1214) (by decide +kernel)⟩
theorem lw_p59 : lw_okq (⟨"ChairOldModel", "isBody", "(I)Z"⟩, 44) := ⟨⟨by decide +kernel, by decide +kernel⟩, List.mem_of_getElem? (i := 818) (by decide +kernel), List.mem_of_getElem? (i := 1244) (by decide +kernel), List.mem_of_getElem? (i := 1245) (by decide +kernel)⟩
theorem lw_p60 : lw_okq (⟨"ChairOldModel", "agesAs", "(II)I"⟩, 44) := ⟨⟨by decide +kernel, by decide +kernel⟩, List.mem_of_getElem? (i := 818) (by decide +kernel), List.mem_of_getElem? (i := 1248) (by decide +kernel), List.mem_of_getElem? (i := 1249) (by decide +kernel)⟩
theorem lw_p61 : lw_okq (⟨"ChairOldModel", "begins", "(I)V"⟩, 44) := ⟨⟨by decide +kernel, by decide +kernel⟩, List.mem_of_getElem? (i := 818) (by decide +kernel), List.mem_of_getElem? (i := 1252) (by decide +kernel), List.mem_of_getElem? (i := 1253) (by decide +kernel)⟩
theorem lw_p62 : lw_okq (⟨"ChairOldModel", "joinsAs", "(II)I"⟩, 44) := ⟨⟨by decide +kernel, by decide +kernel⟩, List.mem_of_getElem? (i := 818) (by decide +kernel), List.mem_of_getElem? (i := 1256) (by decide +kernel), List.mem_of_getElem? (i := 1257) (by decide +kernel)⟩
theorem lw_p63 : lw_okq (⟨"ChairOldModel", "showsAs", "(II)I"⟩, 44) := ⟨⟨by decide +kernel, by decide +kernel⟩, List.mem_of_getElem? (i := 818) (by decide +kernel), List.mem_of_getElem? (i := 1260) (by decide +kernel), List.mem_of_getElem? (i := 1261) (by decide +kernel)⟩
def lw_privs_4 : List (MethodName × Nat) := [(⟨"ChairOldModel", "mostOf", "()I"⟩, 44), (⟨"ChairOldModel", "whenNow", "(I)I"⟩, 44), (⟨"ChairOldModel", "unlooked", "(I)I"⟩, 44), (⟨"ChairOldModel", "namedBy", "(IIJ)I"⟩, 44), (⟨"ChairOldModel", "minutesOf", "(I)I"⟩, 44), (⟨"ChairOldModel", "believedBy", "(I)I"⟩, 44), (⟨"ChairOldModel", "costOf", "(I)I"⟩, 44), (⟨"ChairOldModel", "priceOf", "(I)I"⟩, 44), (⟨"ChairOldModel", "clash", "()I"⟩, 44), (⟨"ChairOldModel", "gaps", "()I"⟩, 44), (⟨"ChairOldModel", "houseOf", "(I)I"⟩, 44), (⟨"ChairOldModel", "isBody", "(I)Z"⟩, 44), (⟨"ChairOldModel", "agesAs", "(II)I"⟩, 44), (⟨"ChairOldModel", "begins", "(I)V"⟩, 44), (⟨"ChairOldModel", "joinsAs", "(II)I"⟩, 44), (⟨"ChairOldModel", "showsAs", "(II)I"⟩, 44)]
theorem lw_r4 : ∀ q ∈ lw_privs_4, lw_okq q := List.forall_mem_cons.mpr ⟨lw_p48, List.forall_mem_cons.mpr ⟨lw_p49, List.forall_mem_cons.mpr ⟨lw_p50, List.forall_mem_cons.mpr ⟨lw_p51, List.forall_mem_cons.mpr ⟨lw_p52, List.forall_mem_cons.mpr ⟨lw_p53, List.forall_mem_cons.mpr ⟨lw_p54, List.forall_mem_cons.mpr ⟨lw_p55, List.forall_mem_cons.mpr ⟨lw_p56, List.forall_mem_cons.mpr ⟨lw_p57, List.forall_mem_cons.mpr ⟨lw_p58, List.forall_mem_cons.mpr ⟨lw_p59, List.forall_mem_cons.mpr ⟨lw_p60, List.forall_mem_cons.mpr ⟨lw_p61, List.forall_mem_cons.mpr ⟨lw_p62, List.forall_mem_cons.mpr ⟨lw_p63, fun _ h => absurd h List.not_mem_nil⟩⟩⟩⟩⟩⟩⟩⟩⟩⟩⟩⟩⟩⟩⟩⟩
theorem lw_p64 : lw_okq (⟨"ChairOldModel", "tellsAs", "(II)I"⟩, 44) := ⟨⟨by decide +kernel, by decide +kernel⟩, List.mem_of_getElem? (i := 818) (by decide +kernel), List.mem_of_getElem? (i := 1264) (by decide +kernel), List.mem_of_getElem? (i := 1265) (by decide +kernel)⟩
theorem lw_p65 : lw_okq (⟨"ChairOldModel", "refusal", "(II)I"⟩, 44) := ⟨⟨by decide +kernel, by decide +kernel⟩, List.mem_of_getElem? (i := 818) (by decide +kernel), List.mem_of_getElem? (i := 1285) (by decide +kernel), List.mem_of_getElem? (i := 1286) (by decide +kernel)⟩
theorem lw_p66 : lw_okq (⟨"ChairOldModel", "kindOf", "(I)I"⟩, 44) := ⟨⟨by decide +kernel, by decide +kernel⟩, List.mem_of_getElem? (i := 818) (by decide +kernel), List.mem_of_getElem? (i := 1304) (by decide +kernel), List.mem_of_getElem? (i := 1305) (by decide +kernel)⟩
theorem lw_p67 : lw_okq (⟨"ChairOldModel", "lookedFor", "()I"⟩, 44) := ⟨⟨by decide +kernel, by decide +kernel⟩, List.mem_of_getElem? (i := 818) (by decide +kernel), List.mem_of_getElem? (i := 1315) (by decide +kernel), List.mem_of_getElem? (i := 1316) (by decide +kernel)⟩
def lw_privs_5 : List (MethodName × Nat) := [(⟨"ChairOldModel", "tellsAs", "(II)I"⟩, 44), (⟨"ChairOldModel", "refusal", "(II)I"⟩, 44), (⟨"ChairOldModel", "kindOf", "(I)I"⟩, 44), (⟨"ChairOldModel", "lookedFor", "()I"⟩, 44)]
theorem lw_r5 : ∀ q ∈ lw_privs_5, lw_okq q := List.forall_mem_cons.mpr ⟨lw_p64, List.forall_mem_cons.mpr ⟨lw_p65, List.forall_mem_cons.mpr ⟨lw_p66, List.forall_mem_cons.mpr ⟨lw_p67, fun _ h => absurd h List.not_mem_nil⟩⟩⟩⟩
def lw_privs : List (MethodName × Nat) := lw_privs_1 ++ (lw_privs_2 ++ (lw_privs_3 ++ (lw_privs_4 ++ (lw_privs_5))))
def lw_tbl : List Cond := k2_sels lw_privs ++ tables_1
theorem lw_privs_ok : ∀ q ∈ lw_privs, lw_okq q := by
  show ∀ q ∈ lw_privs_1 ++ (lw_privs_2 ++ (lw_privs_3 ++ (lw_privs_4 ++ (lw_privs_5)))), lw_okq q
  exact List.forall_mem_append.mpr ⟨lw_r1, List.forall_mem_append.mpr ⟨lw_r2, List.forall_mem_append.mpr ⟨lw_r3, List.forall_mem_append.mpr ⟨lw_r4, lw_r5⟩⟩⟩⟩
end
section
/-! the ten classes: their fields in the order of the slots -/
def m_T0 : u_T := fun k => match k with
  | 0 => ("ChairOld$Bodies", "kinds", "[I", true)
  | 1 => ("ChairOld$Bodies", "many", "I", false)
  | 2 => ("ChairOld$Bodies", "ran", "[I", true)
  | _ => ("ChairOld$Bodies", "runs", "I", false)
def m_T1 : u_T := fun k => match k with
  | 0 => ("ChairOld$Laws", "code", "[I", true)
  | 1 => ("ChairOld$Laws", "sizes", "[I", true)
  | _ => ("ChairOld$Laws", "stack", "[I", true)
def m_T2 : u_T := fun k => match k with
  | 0 => ("ChairOld$Papers", "from", "[I", true)
  | 1 => ("ChairOld$Papers", "to", "[I", true)
  | 2 => ("ChairOld$Papers", "houses", "[I", true)
  | _ => ("ChairOld$Papers", "many", "I", false)
def m_T3 : u_T := fun k => match k with
  | 0 => ("ChairOld$Piece", "wood", "I", true)
  | 1 => ("ChairOld$Piece", "place", "I", true)
  | 2 => ("ChairOld$Piece", "looked", "I", false)
  | 3 => ("ChairOld$Piece", "there", "I", false)
  | 4 => ("ChairOld$Piece", "known", "I", false)
  | _ => ("ChairOld$Piece", "numbers", "[I", true)
def m_T4 : u_T := fun k => match k with
  | 0 => ("ChairOld$Reader", "tape", "[I", true)
  | 1 => ("ChairOld$Reader", "length", "I", false)
  | 2 => ("ChairOld$Reader", "code", "[I", true)
  | 3 => ("ChairOld$Reader", "size", "I", false)
  | 4 => ("ChairOld$Reader", "at", "I", false)
  | _ => ("ChairOld$Reader", "fault", "I", false)
def m_T5 : u_T := fun k => match k with
  | 0 => ("ChairOld$Scale", "told", "LChairOld$Told;", true)
  | 1 => ("ChairOld$Scale", "laws", "LChairOld$Laws;", true)
  | 2 => ("ChairOld$Scale", "sums", "[J", true)
  | 3 => ("ChairOld$Scale", "ways", "[J", true)
  | 4 => ("ChairOld$Scale", "merged", "[J", true)
  | _ => ("ChairOld$Scale", "products", "[J", true)
def m_T6 : u_T := fun k => match k with
  | 0 => ("ChairOld$Shelves", "sorts", "[I", true)
  | 1 => ("ChairOld$Shelves", "held", "[I", true)
  | 2 => ("ChairOld$Shelves", "lengths", "[I", true)
  | _ => ("ChairOld$Shelves", "cells", "[J", true)
def m_T7 : u_T := fun k => match k with
  | 0 => ("ChairOld$Told", "now", "[I", true)
  | 1 => ("ChairOld$Told", "cells", "[I", true)
  | 2 => ("ChairOld$Told", "before", "[I", true)
  | 3 => ("ChairOld$Told", "after", "[I", true)
  | 4 => ("ChairOld$Told", "done", "I", false)
  | _ => ("ChairOld$Told", "kept", "I", false)
def m_T8 : u_T := fun k => match k with
  | 0 => ("ChairOld", "told", "LChairOld$Told;", true)
  | 1 => ("ChairOld", "laws", "LChairOld$Laws;", true)
  | 2 => ("ChairOld", "reader", "LChairOld$Reader;", true)
  | 3 => ("ChairOld", "scale", "LChairOld$Scale;", true)
  | 4 => ("ChairOld", "papers", "LChairOld$Papers;", true)
  | 5 => ("ChairOld", "bodies", "LChairOld$Bodies;", true)
  | 6 => ("ChairOld", "shelves", "LChairOld$Shelves;", true)
  | 7 => ("ChairOld", "pieces", "[LChairOld$Piece;", true)
  | 8 => ("ChairOld", "pieceCount", "I", false)
  | 9 => ("ChairOld", "whens", "[I", true)
  | 10 => ("ChairOld", "keptLooked", "[I", true)
  | 11 => ("ChairOld", "keptThere", "[I", true)
  | 12 => ("ChairOld", "keptCount", "I", false)
  | _ => ("ChairOld", "hasImage", "Z", false)
def m_T9 : u_T := fun k => match k with
  | 0 => ("ChairOldModel", "may", "[I", true)
  | 1 => ("ChairOldModel", "changeAt", "[I", true)
  | 2 => ("ChairOldModel", "changeWas", "[I", true)
  | 3 => ("ChairOldModel", "changeIs", "[I", true)
  | 4 => ("ChairOldModel", "keptMany", "I", false)
  | 5 => ("ChairOldModel", "done", "I", false)
  | 6 => ("ChairOldModel", "parts", "I", false)
  | 7 => ("ChairOldModel", "wood", "[I", true)
  | 8 => ("ChairOldModel", "place", "[I", true)
  | 9 => ("ChairOldModel", "found", "[I", true)
  | 10 => ("ChairOldModel", "tape", "[I", true)
  | 11 => ("ChairOldModel", "tapeMany", "I", false)
  | 12 => ("ChairOldModel", "text", "[I", true)
  | 13 => ("ChairOldModel", "textMany", "[I", true)
  | 14 => ("ChairOldModel", "base", "I", false)
  | 15 => ("ChairOldModel", "at", "I", false)
  | 16 => ("ChairOldModel", "ends", "I", false)
  | 17 => ("ChairOldModel", "fault", "I", false)
  | 18 => ("ChairOldModel", "opened", "I", false)
  | 19 => ("ChairOldModel", "names", "[I", true)
  | 20 => ("ChairOldModel", "numbers", "[I", true)
  | 21 => ("ChairOldModel", "way", "[I", true)
  | 22 => ("ChairOldModel", "weight", "[J", true)
  | 23 => ("ChairOldModel", "kindSum", "[J", true)
  | 24 => ("ChairOldModel", "allSum", "J", false)
  | 25 => ("ChairOldModel", "trueWhen", "[I", true)
  | 26 => ("ChairOldModel", "sorted", "[I", true)
  | 27 => ("ChairOldModel", "papers", "I", false)
  | 28 => ("ChairOldModel", "paperFrom", "[I", true)
  | 29 => ("ChairOldModel", "paperTo", "[I", true)
  | 30 => ("ChairOldModel", "paperHouse", "[I", true)
  | 31 => ("ChairOldModel", "image", "[I", true)
  | 32 => ("ChairOldModel", "imageParts", "I", false)
  | 33 => ("ChairOldModel", "isKept", "Z", false)
  | 34 => ("ChairOldModel", "bodies", "I", false)
  | 35 => ("ChairOldModel", "bodyKind", "[I", true)
  | 36 => ("ChairOldModel", "trace", "[I", true)
  | 37 => ("ChairOldModel", "ran", "I", false)
  | 38 => ("ChairOldModel", "ownKind", "I", false)
  | 39 => ("ChairOldModel", "ownNumber", "I", false)
  | 40 => ("ChairOldModel", "shelf", "[I", true)
  | 41 => ("ChairOldModel", "many", "[I", true)
  | 42 => ("ChairOldModel", "items", "[J", true)
  | _ => ("ChairOldModel", "carried", "[J", true)
def m_cls : List vw_C := [("ChairOld$Bodies", m_T0, 4), ("ChairOld$Laws", m_T1, 3), ("ChairOld$Papers", m_T2, 4), ("ChairOld$Piece", m_T3, 6), ("ChairOld$Reader", m_T4, 6), ("ChairOld$Scale", m_T5, 6), ("ChairOld$Shelves", m_T6, 4), ("ChairOld$Told", m_T7, 6), ("ChairOld", m_T8, 14), ("ChairOldModel", m_T9, 44)]
/-- static arrays that nobody writes: class, name, descriptor -/
def m_stat : List (String × String × String) := [("ChairOld", "LEAST_TOLD", "[I"), ("ChairOld", "MOST_TOLD", "[I"), ("ChairOld$Bodies", "ABOVE", "[I"), ("ChairOld$Bodies", "OWN", "[I")]
def m_good : List Cond := lw_tbl.filter goodWord
def m_isNest : Cond → Bool
  | .methodLinkNest .. => true
  | _ => false
def m_nest : List Cond := lw_tbl.filter m_isNest
def m_ty0 (T : u_T) (k : Nat) : FieldType := (parseFieldDescriptor (T k).2.2.1).getD .int
def m_cok (q : vw_C) : Prop := (∀ w ∈ u_ws q.1 q.2.1 q.2.2, w ∈ m_good) ∧ (∀ a, a < q.2.2 → ∀ b, b < q.2.2 → a ≠ b → (q.2.1 a).2.1 ≠ (q.2.1 b).2.1) ∧ (∀ k, k < q.2.2 → parseFieldDescriptor (q.2.1 k).2.2.1 = some (m_ty0 q.2.1 k)) ∧ Cond.instantiable q.1 q.2.2 ∈ m_good ∧ Cond.initialized q.1 ∈ m_good ∧ (∀ k, k < q.2.2 → (q.2.1 k).1 = q.1)
theorem m_in {w : Cond} (h : w ∈ lw_tbl) (g : goodWord w = true) : w ∈ m_good := List.mem_filter.mpr ⟨h, g⟩
theorem m_ins_all {l : List Cond} (h : l.all (fun w => decide (w ∈ lw_tbl) && goodWord w) = true) : ∀ w ∈ l, w ∈ m_good := fun w hw => by
  have h1 := List.all_eq_true.mp h w hw
  simp only [Bool.and_eq_true, decide_eq_true_eq] at h1
  exact m_in h1.1 h1.2
set_option maxRecDepth 100000 in
theorem m_cok0 : m_cok ("ChairOld$Bodies", m_T0, 4) := ⟨m_ins_all (by decide +kernel), by decide +kernel, by decide +kernel, m_in (List.mem_of_getElem? (i := 210) (by decide +kernel)) rfl, m_in (List.mem_of_getElem? (i := 75) (by decide +kernel)) rfl, by decide +kernel⟩
set_option maxRecDepth 100000 in
theorem m_cok1 : m_cok ("ChairOld$Laws", m_T1, 3) := ⟨m_ins_all (by decide +kernel), by decide +kernel, by decide +kernel, m_in (List.mem_of_getElem? (i := 119) (by decide +kernel)) rfl, m_in (List.mem_of_getElem? (i := 71) (by decide +kernel)) rfl, by decide +kernel⟩
set_option maxRecDepth 100000 in
theorem m_cok2 : m_cok ("ChairOld$Papers", m_T2, 4) := ⟨m_ins_all (by decide +kernel), by decide +kernel, by decide +kernel, m_in (List.mem_of_getElem? (i := 190) (by decide +kernel)) rfl, m_in (List.mem_of_getElem? (i := 74) (by decide +kernel)) rfl, by decide +kernel⟩
set_option maxRecDepth 100000 in
theorem m_cok3 : m_cok ("ChairOld$Piece", m_T3, 6) := ⟨m_ins_all (by decide +kernel), by decide +kernel, by decide +kernel, m_in (List.mem_of_getElem? (i := 305) (by decide +kernel)) rfl, m_in (List.mem_of_getElem? (i := 78) (by decide +kernel)) rfl, by decide +kernel⟩
set_option maxRecDepth 100000 in
theorem m_cok4 : m_cok ("ChairOld$Reader", m_T4, 6) := ⟨m_ins_all (by decide +kernel), by decide +kernel, by decide +kernel, m_in (List.mem_of_getElem? (i := 135) (by decide +kernel)) rfl, m_in (List.mem_of_getElem? (i := 72) (by decide +kernel)) rfl, by decide +kernel⟩
set_option maxRecDepth 100000 in
theorem m_cok5 : m_cok ("ChairOld$Scale", m_T5, 6) := ⟨m_ins_all (by decide +kernel), by decide +kernel, by decide +kernel, m_in (List.mem_of_getElem? (i := 163) (by decide +kernel)) rfl, m_in (List.mem_of_getElem? (i := 73) (by decide +kernel)) rfl, by decide +kernel⟩
set_option maxRecDepth 100000 in
theorem m_cok6 : m_cok ("ChairOld$Shelves", m_T6, 4) := ⟨m_ins_all (by decide +kernel), by decide +kernel, by decide +kernel, m_in (List.mem_of_getElem? (i := 231) (by decide +kernel)) rfl, m_in (List.mem_of_getElem? (i := 76) (by decide +kernel)) rfl, by decide +kernel⟩
set_option maxRecDepth 100000 in
theorem m_cok7 : m_cok ("ChairOld$Told", m_T7, 6) := ⟨m_ins_all (by decide +kernel), by decide +kernel, by decide +kernel, m_in (List.mem_of_getElem? (i := 92) (by decide +kernel)) rfl, m_in (List.mem_of_getElem? (i := 70) (by decide +kernel)) rfl, by decide +kernel⟩
set_option maxRecDepth 100000 in
theorem m_cok8 : m_cok ("ChairOld", m_T8, 14) := ⟨m_ins_all (by decide +kernel), by decide +kernel, by decide +kernel, m_in (List.mem_of_getElem? (i := 84) (by decide +kernel)) rfl, m_in (List.mem_of_getElem? (i := 69) (by decide +kernel)) rfl, by decide +kernel⟩
set_option maxRecDepth 100000 in
theorem m_cok9 : m_cok ("ChairOldModel", m_T9, 44) := ⟨m_ins_all (by decide +kernel), by decide +kernel, by decide +kernel, m_in (List.mem_of_getElem? (i := 886) (by decide +kernel)) rfl, m_in (List.mem_of_getElem? (i := 77) (by decide +kernel)) rfl, by decide +kernel⟩
theorem m_cok_at : ∀ (c : Nat) (q : vw_C), m_cls[c]? = some q → m_cok q := by
  intro c q h
  match c, h with
  | 0, h => cases h; exact m_cok0
  | 1, h => cases h; exact m_cok1
  | 2, h => cases h; exact m_cok2
  | 3, h => cases h; exact m_cok3
  | 4, h => cases h; exact m_cok4
  | 5, h => cases h; exact m_cok5
  | 6, h => cases h; exact m_cok6
  | 7, h => cases h; exact m_cok7
  | 8, h => cases h; exact m_cok8
  | 9, h => cases h; exact m_cok9
  | c + 10, h => simp [m_cls] at h
end
