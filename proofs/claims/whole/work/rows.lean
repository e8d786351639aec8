section
-- ===== PART A: goes FIRST, ahead of the names: the tables' words, and 'selects' of the private methods out of them =====
/-- a private method of a class that the tables say can be made, by its rows of tables_1 -/
def lw_okq (q : MethodName × Nat) : Prop := (q.1.cls ≠ "java/lang/invoke/MethodHandle" ∧ q.1.cls ≠ "java/lang/invoke/VarHandle") ∧ Cond.instantiable q.1.cls q.2 ∈ tables_1 ∧ Cond.privateMethod q.1 ∈ tables_1 ∧ Cond.instanceMethod q.1 ∈ tables_1
theorem lw_p0 : lw_okq (⟨"ChairOld", "addPiece", "(II)V"⟩, 14) := ⟨⟨by decide +kernel, by decide +kernel⟩, List.mem_of_getElem? (i := 16) (by decide +kernel), List.mem_of_getElem? (i := 234) (by decide +kernel), List.mem_of_getElem? (i := 235) (by decide +kernel)⟩
theorem lw_p1 : lw_okq (⟨"ChairOld", "addFromRow", "(II)Z"⟩, 14) := ⟨⟨by decide +kernel, by decide +kernel⟩, List.mem_of_getElem? (i := 16) (by decide +kernel), List.mem_of_getElem? (i := 281) (by decide +kernel), List.mem_of_getElem? (i := 282) (by decide +kernel)⟩
theorem lw_p2 : lw_okq (⟨"ChairOld$Told", "remember", "(III)V"⟩, 6) := ⟨⟨by decide +kernel, by decide +kernel⟩, List.mem_of_getElem? (i := 24) (by decide +kernel), List.mem_of_getElem? (i := 311) (by decide +kernel), List.mem_of_getElem? (i := 312) (by decide +kernel)⟩
theorem lw_p3 : lw_okq (⟨"ChairOld$Told", "dropOldest", "()V"⟩, 6) := ⟨⟨by decide +kernel, by decide +kernel⟩, List.mem_of_getElem? (i := 24) (by decide +kernel), List.mem_of_getElem? (i := 315) (by decide +kernel), List.mem_of_getElem? (i := 316) (by decide +kernel)⟩
theorem lw_p4 : lw_okq (⟨"ChairOld$Told", "set", "(II)V"⟩, 6) := ⟨⟨by decide +kernel, by decide +kernel⟩, List.mem_of_getElem? (i := 24) (by decide +kernel), List.mem_of_getElem? (i := 322) (by decide +kernel), List.mem_of_getElem? (i := 323) (by decide +kernel)⟩
theorem lw_p5 : lw_okq (⟨"ChairOld", "pieceAt", "(I)LChairOld$Piece;"⟩, 14) := ⟨⟨by decide +kernel, by decide +kernel⟩, List.mem_of_getElem? (i := 16) (by decide +kernel), List.mem_of_getElem? (i := 330) (by decide +kernel), List.mem_of_getElem? (i := 331) (by decide +kernel)⟩
theorem lw_p6 : lw_okq (⟨"ChairOld", "numberTold", "(II)I"⟩, 14) := ⟨⟨by decide +kernel, by decide +kernel⟩, List.mem_of_getElem? (i := 16) (by decide +kernel), List.mem_of_getElem? (i := 352) (by decide +kernel), List.mem_of_getElem? (i := 353) (by decide +kernel)⟩
theorem lw_p7 : lw_okq (⟨"ChairOld$Reader", "line", "()V"⟩, 6) := ⟨⟨by decide +kernel, by decide +kernel⟩, List.mem_of_getElem? (i := 67) (by decide +kernel), List.mem_of_getElem? (i := 373) (by decide +kernel), List.mem_of_getElem? (i := 374) (by decide +kernel)⟩
theorem lw_p8 : lw_okq (⟨"ChairOld$Reader", "level", "(II)V"⟩, 6) := ⟨⟨by decide +kernel, by decide +kernel⟩, List.mem_of_getElem? (i := 67) (by decide +kernel), List.mem_of_getElem? (i := 377) (by decide +kernel), List.mem_of_getElem? (i := 378) (by decide +kernel)⟩
theorem lw_p9 : lw_okq (⟨"ChairOld$Reader", "operand", "(I)V"⟩, 6) := ⟨⟨by decide +kernel, by decide +kernel⟩, List.mem_of_getElem? (i := 67) (by decide +kernel), List.mem_of_getElem? (i := 381) (by decide +kernel), List.mem_of_getElem? (i := 382) (by decide +kernel)⟩
theorem lw_p10 : lw_okq (⟨"ChairOld$Reader", "sign", "()I"⟩, 6) := ⟨⟨by decide +kernel, by decide +kernel⟩, List.mem_of_getElem? (i := 67) (by decide +kernel), List.mem_of_getElem? (i := 385) (by decide +kernel), List.mem_of_getElem? (i := 386) (by decide +kernel)⟩
theorem lw_p11 : lw_okq (⟨"ChairOld$Reader", "digits", "()V"⟩, 6) := ⟨⟨by decide +kernel, by decide +kernel⟩, List.mem_of_getElem? (i := 67) (by decide +kernel), List.mem_of_getElem? (i := 392) (by decide +kernel), List.mem_of_getElem? (i := 393) (by decide +kernel)⟩
theorem lw_p12 : lw_okq (⟨"ChairOld$Reader", "emit", "(I)V"⟩, 6) := ⟨⟨by decide +kernel, by decide +kernel⟩, List.mem_of_getElem? (i := 67) (by decide +kernel), List.mem_of_getElem? (i := 396) (by decide +kernel), List.mem_of_getElem? (i := 397) (by decide +kernel)⟩
theorem lw_p13 : lw_okq (⟨"ChairOld$Reader", "opened", "(II)V"⟩, 6) := ⟨⟨by decide +kernel, by decide +kernel⟩, List.mem_of_getElem? (i := 67) (by decide +kernel), List.mem_of_getElem? (i := 400) (by decide +kernel), List.mem_of_getElem? (i := 401) (by decide +kernel)⟩
theorem lw_p14 : lw_okq (⟨"ChairOld$Scale", "weight", "(LChairOld$Piece;IIII)J"⟩, 6) := ⟨⟨by decide +kernel, by decide +kernel⟩, List.mem_of_getElem? (i := 95) (by decide +kernel), List.mem_of_getElem? (i := 465) (by decide +kernel), List.mem_of_getElem? (i := 466) (by decide +kernel)⟩
theorem lw_p15 : lw_okq (⟨"ChairOld$Scale", "weightFound", "(LChairOld$Piece;II)J"⟩, 6) := ⟨⟨by decide +kernel, by decide +kernel⟩, List.mem_of_getElem? (i := 95) (by decide +kernel), List.mem_of_getElem? (i := 505) (by decide +kernel), List.mem_of_getElem? (i := 506) (by decide +kernel)⟩
def lw_privs_1 : List (MethodName × Nat) := [(⟨"ChairOld", "addPiece", "(II)V"⟩, 14), (⟨"ChairOld", "addFromRow", "(II)Z"⟩, 14), (⟨"ChairOld$Told", "remember", "(III)V"⟩, 6), (⟨"ChairOld$Told", "dropOldest", "()V"⟩, 6), (⟨"ChairOld$Told", "set", "(II)V"⟩, 6), (⟨"ChairOld", "pieceAt", "(I)LChairOld$Piece;"⟩, 14), (⟨"ChairOld", "numberTold", "(II)I"⟩, 14), (⟨"ChairOld$Reader", "line", "()V"⟩, 6), (⟨"ChairOld$Reader", "level", "(II)V"⟩, 6), (⟨"ChairOld$Reader", "operand", "(I)V"⟩, 6), (⟨"ChairOld$Reader", "sign", "()I"⟩, 6), (⟨"ChairOld$Reader", "digits", "()V"⟩, 6), (⟨"ChairOld$Reader", "emit", "(I)V"⟩, 6), (⟨"ChairOld$Reader", "opened", "(II)V"⟩, 6), (⟨"ChairOld$Scale", "weight", "(LChairOld$Piece;IIII)J"⟩, 6), (⟨"ChairOld$Scale", "weightFound", "(LChairOld$Piece;II)J"⟩, 6)]
theorem lw_r1 : ∀ q ∈ lw_privs_1, lw_okq q := List.forall_mem_cons.mpr ⟨lw_p0, List.forall_mem_cons.mpr ⟨lw_p1, List.forall_mem_cons.mpr ⟨lw_p2, List.forall_mem_cons.mpr ⟨lw_p3, List.forall_mem_cons.mpr ⟨lw_p4, List.forall_mem_cons.mpr ⟨lw_p5, List.forall_mem_cons.mpr ⟨lw_p6, List.forall_mem_cons.mpr ⟨lw_p7, List.forall_mem_cons.mpr ⟨lw_p8, List.forall_mem_cons.mpr ⟨lw_p9, List.forall_mem_cons.mpr ⟨lw_p10, List.forall_mem_cons.mpr ⟨lw_p11, List.forall_mem_cons.mpr ⟨lw_p12, List.forall_mem_cons.mpr ⟨lw_p13, List.forall_mem_cons.mpr ⟨lw_p14, List.forall_mem_cons.mpr ⟨lw_p15, fun _ h => absurd h List.not_mem_nil⟩⟩⟩⟩⟩⟩⟩⟩⟩⟩⟩⟩⟩⟩⟩⟩
theorem lw_p16 : lw_okq (⟨"ChairOld", "allTrue", "()I"⟩, 14) := ⟨⟨by decide +kernel, by decide +kernel⟩, List.mem_of_getElem? (i := 16) (by decide +kernel), List.mem_of_getElem? (i := 521) (by decide +kernel), List.mem_of_getElem? (i := 522) (by decide +kernel)⟩
theorem lw_p17 : lw_okq (⟨"ChairOld", "atLeastTwoNot", "()I"⟩, 14) := ⟨⟨by decide +kernel, by decide +kernel⟩, List.mem_of_getElem? (i := 16) (by decide +kernel), List.mem_of_getElem? (i := 525) (by decide +kernel), List.mem_of_getElem? (i := 526) (by decide +kernel)⟩
theorem lw_p18 : lw_okq (⟨"ChairOld", "whenTrue", "(LChairOld$Piece;)I"⟩, 14) := ⟨⟨by decide +kernel, by decide +kernel⟩, List.mem_of_getElem? (i := 16) (by decide +kernel), List.mem_of_getElem? (i := 534) (by decide +kernel), List.mem_of_getElem? (i := 535) (by decide +kernel)⟩
theorem lw_p19 : lw_okq (⟨"ChairOld$Scale", "splitProducts", "(IZI)V"⟩, 6) := ⟨⟨by decide +kernel, by decide +kernel⟩, List.mem_of_getElem? (i := 95) (by decide +kernel), List.mem_of_getElem? (i := 570) (by decide +kernel), List.mem_of_getElem? (i := 571) (by decide +kernel)⟩
theorem lw_p20 : lw_okq (⟨"ChairOld$Scale", "addProducts", "(I)J"⟩, 6) := ⟨⟨by decide +kernel, by decide +kernel⟩, List.mem_of_getElem? (i := 95) (by decide +kernel), List.mem_of_getElem? (i := 574) (by decide +kernel), List.mem_of_getElem? (i := 575) (by decide +kernel)⟩
theorem lw_p21 : lw_okq (⟨"ChairOld", "bestPlan", "(IIJ)I"⟩, 14) := ⟨⟨by decide +kernel, by decide +kernel⟩, List.mem_of_getElem? (i := 16) (by decide +kernel), List.mem_of_getElem? (i := 587) (by decide +kernel), List.mem_of_getElem? (i := 588) (by decide +kernel)⟩
theorem lw_p22 : lw_okq (⟨"ChairOld", "beliefInMade", "(LChairOld$Piece;I)I"⟩, 14) := ⟨⟨by decide +kernel, by decide +kernel⟩, List.mem_of_getElem? (i := 16) (by decide +kernel), List.mem_of_getElem? (i := 600) (by decide +kernel), List.mem_of_getElem? (i := 601) (by decide +kernel)⟩
theorem lw_p23 : lw_okq (⟨"ChairOld", "worthOf", "(LChairOld$Piece;)I"⟩, 14) := ⟨⟨by decide +kernel, by decide +kernel⟩, List.mem_of_getElem? (i := 16) (by decide +kernel), List.mem_of_getElem? (i := 623) (by decide +kernel), List.mem_of_getElem? (i := 624) (by decide +kernel)⟩
theorem lw_p24 : lw_okq (⟨"ChairOld$Bodies", "run", "(IIIII)I"⟩, 4) := ⟨⟨by decide +kernel, by decide +kernel⟩, List.mem_of_getElem? (i := 142) (by decide +kernel), List.mem_of_getElem? (i := 709) (by decide +kernel), List.mem_of_getElem? (i := 710) (by decide +kernel)⟩
theorem lw_p25 : lw_okq (⟨"ChairOld$Bodies", "note", "(I)V"⟩, 4) := ⟨⟨by decide +kernel, by decide +kernel⟩, List.mem_of_getElem? (i := 142) (by decide +kernel), List.mem_of_getElem? (i := 724) (by decide +kernel), List.mem_of_getElem? (i := 725) (by decide +kernel)⟩
theorem lw_p26 : lw_okq (⟨"ChairOld$Shelves", "reaches", "(III)Z"⟩, 4) := ⟨⟨by decide +kernel, by decide +kernel⟩, List.mem_of_getElem? (i := 163) (by decide +kernel), List.mem_of_getElem? (i := 787) (by decide +kernel), List.mem_of_getElem? (i := 788) (by decide +kernel)⟩
theorem lw_p27 : lw_okq (⟨"ChairOld", "marksLookedFor", "()I"⟩, 14) := ⟨⟨by decide +kernel, by decide +kernel⟩, List.mem_of_getElem? (i := 16) (by decide +kernel), List.mem_of_getElem? (i := 808) (by decide +kernel), List.mem_of_getElem? (i := 809) (by decide +kernel)⟩
theorem lw_p28 : lw_okq (⟨"ChairOldModel", "adds", "(II)V"⟩, 44) := ⟨⟨by decide +kernel, by decide +kernel⟩, List.mem_of_getElem? (i := 818) (by decide +kernel), List.mem_of_getElem? (i := 973) (by decide +kernel), List.mem_of_getElem? (i := 974) (by decide +kernel)⟩
theorem lw_p29 : lw_okq (⟨"ChairOldModel", "becomes", "(II)I"⟩, 44) := ⟨⟨by decide +kernel, by decide +kernel⟩, List.mem_of_getElem? (i := 818) (by decide +kernel), List.mem_of_getElem? (i := 994) (by decide +kernel), List.mem_of_getElem? (i := 995) (by decide +kernel)⟩
theorem lw_p30 : lw_okq (⟨"ChairOldModel", "isPm", "(I)Z"⟩, 44) := ⟨⟨by decide +kernel, by decide +kernel⟩, List.mem_of_getElem? (i := 818) (by decide +kernel), List.mem_of_getElem? (i := 1005) (by decide +kernel), List.mem_of_getElem? (i := 1006) (by decide +kernel)⟩
theorem lw_p31 : lw_okq (⟨"ChairOldModel", "isPart", "(I)Z"⟩, 44) := ⟨⟨by decide +kernel, by decide +kernel⟩, List.mem_of_getElem? (i := 818) (by decide +kernel), List.mem_of_getElem? (i := 1009) (by decide +kernel), List.mem_of_getElem? (i := 1010) (by decide +kernel)⟩
def lw_privs_2 : List (MethodName × Nat) := [(⟨"ChairOld", "allTrue", "()I"⟩, 14), (⟨"ChairOld", "atLeastTwoNot", "()I"⟩, 14), (⟨"ChairOld", "whenTrue", "(LChairOld$Piece;)I"⟩, 14), (⟨"ChairOld$Scale", "splitProducts", "(IZI)V"⟩, 6), (⟨"ChairOld$Scale", "addProducts", "(I)J"⟩, 6), (⟨"ChairOld", "bestPlan", "(IIJ)I"⟩, 14), (⟨"ChairOld", "beliefInMade", "(LChairOld$Piece;I)I"⟩, 14), (⟨"ChairOld", "worthOf", "(LChairOld$Piece;)I"⟩, 14), (⟨"ChairOld$Bodies", "run", "(IIIII)I"⟩, 4), (⟨"ChairOld$Bodies", "note", "(I)V"⟩, 4), (⟨"ChairOld$Shelves", "reaches", "(III)Z"⟩, 4), (⟨"ChairOld", "marksLookedFor", "()I"⟩, 14), (⟨"ChairOldModel", "adds", "(II)V"⟩, 44), (⟨"ChairOldModel", "becomes", "(II)I"⟩, 44), (⟨"ChairOldModel", "isPm", "(I)Z"⟩, 44), (⟨"ChairOldModel", "isPart", "(I)Z"⟩, 44)]
theorem lw_r2 : ∀ q ∈ lw_privs_2, lw_okq q := List.forall_mem_cons.mpr ⟨lw_p16, List.forall_mem_cons.mpr ⟨lw_p17, List.forall_mem_cons.mpr ⟨lw_p18, List.forall_mem_cons.mpr ⟨lw_p19, List.forall_mem_cons.mpr ⟨lw_p20, List.forall_mem_cons.mpr ⟨lw_p21, List.forall_mem_cons.mpr ⟨lw_p22, List.forall_mem_cons.mpr ⟨lw_p23, List.forall_mem_cons.mpr ⟨lw_p24, List.forall_mem_cons.mpr ⟨lw_p25, List.forall_mem_cons.mpr ⟨lw_p26, List.forall_mem_cons.mpr ⟨lw_p27, List.forall_mem_cons.mpr ⟨lw_p28, List.forall_mem_cons.mpr ⟨lw_p29, List.forall_mem_cons.mpr ⟨lw_p30, List.forall_mem_cons.mpr ⟨lw_p31, fun _ h => absurd h List.not_mem_nil⟩⟩⟩⟩⟩⟩⟩⟩⟩⟩⟩⟩⟩⟩⟩⟩
theorem lw_p32 : lw_okq (⟨"ChairOldModel", "workOut", "(II)I"⟩, 44) := ⟨⟨by decide +kernel, by decide +kernel⟩, List.mem_of_getElem? (i := 818) (by decide +kernel), List.mem_of_getElem? (i := 1033) (by decide +kernel), List.mem_of_getElem? (i := 1034) (by decide +kernel)⟩
theorem lw_p33 : lw_okq (⟨"ChairOldModel", "either", "()I"⟩, 44) := ⟨⟨by decide +kernel, by decide +kernel⟩, List.mem_of_getElem? (i := 818) (by decide +kernel), List.mem_of_getElem? (i := 1037) (by decide +kernel), List.mem_of_getElem? (i := 1038) (by decide +kernel)⟩
theorem lw_p34 : lw_okq (⟨"ChairOldModel", "both", "()I"⟩, 44) := ⟨⟨by decide +kernel, by decide +kernel⟩, List.mem_of_getElem? (i := 818) (by decide +kernel), List.mem_of_getElem? (i := 1041) (by decide +kernel), List.mem_of_getElem? (i := 1042) (by decide +kernel)⟩
theorem lw_p35 : lw_okq (⟨"ChairOldModel", "compared", "()I"⟩, 44) := ⟨⟨by decide +kernel, by decide +kernel⟩, List.mem_of_getElem? (i := 818) (by decide +kernel), List.mem_of_getElem? (i := 1045) (by decide +kernel), List.mem_of_getElem? (i := 1046) (by decide +kernel)⟩
theorem lw_p36 : lw_okq (⟨"ChairOldModel", "sums", "()I"⟩, 44) := ⟨⟨by decide +kernel, by decide +kernel⟩, List.mem_of_getElem? (i := 818) (by decide +kernel), List.mem_of_getElem? (i := 1049) (by decide +kernel), List.mem_of_getElem? (i := 1050) (by decide +kernel)⟩
theorem lw_p37 : lw_okq (⟨"ChairOldModel", "product", "()I"⟩, 44) := ⟨⟨by decide +kernel, by decide +kernel⟩, List.mem_of_getElem? (i := 818) (by decide +kernel), List.mem_of_getElem? (i := 1053) (by decide +kernel), List.mem_of_getElem? (i := 1054) (by decide +kernel)⟩
theorem lw_p38 : lw_okq (⟨"ChairOldModel", "one", "()I"⟩, 44) := ⟨⟨by decide +kernel, by decide +kernel⟩, List.mem_of_getElem? (i := 818) (by decide +kernel), List.mem_of_getElem? (i := 1057) (by decide +kernel), List.mem_of_getElem? (i := 1058) (by decide +kernel)⟩
theorem lw_p39 : lw_okq (⟨"ChairOldModel", "byteAt", "()I"⟩, 44) := ⟨⟨by decide +kernel, by decide +kernel⟩, List.mem_of_getElem? (i := 818) (by decide +kernel), List.mem_of_getElem? (i := 1061) (by decide +kernel), List.mem_of_getElem? (i := 1062) (by decide +kernel)⟩
theorem lw_p40 : lw_okq (⟨"ChairOldModel", "wrong", "()I"⟩, 44) := ⟨⟨by decide +kernel, by decide +kernel⟩, List.mem_of_getElem? (i := 818) (by decide +kernel), List.mem_of_getElem? (i := 1065) (by decide +kernel), List.mem_of_getElem? (i := 1066) (by decide +kernel)⟩
theorem lw_p41 : lw_okq (⟨"ChairOldModel", "takes", "(I)Z"⟩, 44) := ⟨⟨by decide +kernel, by decide +kernel⟩, List.mem_of_getElem? (i := 818) (by decide +kernel), List.mem_of_getElem? (i := 1069) (by decide +kernel), List.mem_of_getElem? (i := 1070) (by decide +kernel)⟩
theorem lw_p42 : lw_okq (⟨"ChairOldModel", "numberOf", "(IIII)I"⟩, 44) := ⟨⟨by decide +kernel, by decide +kernel⟩, List.mem_of_getElem? (i := 818) (by decide +kernel), List.mem_of_getElem? (i := 1080) (by decide +kernel), List.mem_of_getElem? (i := 1081) (by decide +kernel)⟩
theorem lw_p43 : lw_okq (⟨"ChairOldModel", "isPk", "(I)Z"⟩, 44) := ⟨⟨by decide +kernel, by decide +kernel⟩, List.mem_of_getElem? (i := 818) (by decide +kernel), List.mem_of_getElem? (i := 1088) (by decide +kernel), List.mem_of_getElem? (i := 1089) (by decide +kernel)⟩
theorem lw_p44 : lw_okq (⟨"ChairOldModel", "weighsPart", "(I)V"⟩, 44) := ⟨⟨by decide +kernel, by decide +kernel⟩, List.mem_of_getElem? (i := 818) (by decide +kernel), List.mem_of_getElem? (i := 1093) (by decide +kernel), List.mem_of_getElem? (i := 1094) (by decide +kernel)⟩
theorem lw_p45 : lw_okq (⟨"ChairOldModel", "looksAt", "(I)V"⟩, 44) := ⟨⟨by decide +kernel, by decide +kernel⟩, List.mem_of_getElem? (i := 818) (by decide +kernel), List.mem_of_getElem? (i := 1097) (by decide +kernel), List.mem_of_getElem? (i := 1098) (by decide +kernel)⟩
theorem lw_p46 : lw_okq (⟨"ChairOldModel", "weighs", "()V"⟩, 44) := ⟨⟨by decide +kernel, by decide +kernel⟩, List.mem_of_getElem? (i := 818) (by decide +kernel), List.mem_of_getElem? (i := 1101) (by decide +kernel), List.mem_of_getElem? (i := 1102) (by decide +kernel)⟩
theorem lw_p47 : lw_okq (⟨"ChairOldModel", "percentNow", "(I)I"⟩, 44) := ⟨⟨by decide +kernel, by decide +kernel⟩, List.mem_of_getElem? (i := 818) (by decide +kernel), List.mem_of_getElem? (i := 1113) (by decide +kernel), List.mem_of_getElem? (i := 1114) (by decide +kernel)⟩
def lw_privs_3 : List (MethodName × Nat) := [(⟨"ChairOldModel", "workOut", "(II)I"⟩, 44), (⟨"ChairOldModel", "either", "()I"⟩, 44), (⟨"ChairOldModel", "both", "()I"⟩, 44), (⟨"ChairOldModel", "compared", "()I"⟩, 44), (⟨"ChairOldModel", "sums", "()I"⟩, 44), (⟨"ChairOldModel", "product", "()I"⟩, 44), (⟨"ChairOldModel", "one", "()I"⟩, 44), (⟨"ChairOldModel", "byteAt", "()I"⟩, 44), (⟨"ChairOldModel", "wrong", "()I"⟩, 44), (⟨"ChairOldModel", "takes", "(I)Z"⟩, 44), (⟨"ChairOldModel", "numberOf", "(IIII)I"⟩, 44), (⟨"ChairOldModel", "isPk", "(I)Z"⟩, 44), (⟨"ChairOldModel", "weighsPart", "(I)V"⟩, 44), (⟨"ChairOldModel", "looksAt", "(I)V"⟩, 44), (⟨"ChairOldModel", "weighs", "()V"⟩, 44), (⟨"ChairOldModel", "percentNow", "(I)I"⟩, 44)]
theorem lw_r3 : ∀ q ∈ lw_privs_3, lw_okq q := List.forall_mem_cons.mpr ⟨lw_p32, List.forall_mem_cons.mpr ⟨lw_p33, List.forall_mem_cons.mpr ⟨lw_p34, List.forall_mem_cons.mpr ⟨lw_p35, List.forall_mem_cons.mpr ⟨lw_p36, List.forall_mem_cons.mpr ⟨lw_p37, List.forall_mem_cons.mpr ⟨lw_p38, List.forall_mem_cons.mpr ⟨lw_p39, List.forall_mem_cons.mpr ⟨lw_p40, List.forall_mem_cons.mpr ⟨lw_p41, List.forall_mem_cons.mpr ⟨lw_p42, List.forall_mem_cons.mpr ⟨lw_p43, List.forall_mem_cons.mpr ⟨lw_p44, List.forall_mem_cons.mpr ⟨lw_p45, List.forall_mem_cons.mpr ⟨lw_p46, List.forall_mem_cons.mpr ⟨lw_p47, fun _ h => absurd h List.not_mem_nil⟩⟩⟩⟩⟩⟩⟩⟩⟩⟩⟩⟩⟩⟩⟩⟩
theorem lw_p48 : lw_okq (⟨"ChairOldModel", "mostOf", "()I"⟩, 44) := ⟨⟨by decide +kernel, by decide +kernel⟩, List.mem_of_getElem? (i := 818) (by decide +kernel), List.mem_of_getElem? (i := 1121) (by decide +kernel), List.mem_of_getElem? (i := 1122) (by decide +kernel)⟩
theorem lw_p49 : lw_okq (⟨"ChairOldModel", "whenNow", "(I)I"⟩, 44) := ⟨⟨by decide +kernel, by decide +kernel⟩, List.mem_of_getElem? (i := 818) (by decide +kernel), List.mem_of_getElem? (i := 1129) (by decide +kernel), List.mem_of_getElem? (i := 1130) (by decide +kernel)⟩
theorem lw_p50 : lw_okq (⟨"ChairOldModel", "unlooked", "(I)I"⟩, 44) := ⟨⟨by decide +kernel, by decide +kernel⟩, List.mem_of_getElem? (i := 818) (by decide +kernel), List.mem_of_getElem? (i := 1151) (by decide +kernel), List.mem_of_getElem? (i := 1152) (by decide +kernel)⟩
theorem lw_p51 : lw_okq (⟨"ChairOldModel", "namedBy", "(IIJ)I"⟩, 44) := ⟨⟨by decide +kernel, by decide +kernel⟩, List.mem_of_getElem? (i := 818) (by decide +kernel), List.mem_of_getElem? (i := 1155) (by decide +kernel), List.mem_of_getElem? (i := 1156) (by decide +kernel)⟩
theorem lw_p52 : lw_okq (⟨"ChairOldModel", "minutesOf", "(I)I"⟩, 44) := ⟨⟨by decide +kernel, by decide +kernel⟩, List.mem_of_getElem? (i := 818) (by decide +kernel), List.mem_of_getElem? (i := 1165) (by decide +kernel), List.mem_of_getElem? (i := 1166) (by decide +kernel)⟩
theorem lw_p53 : lw_okq (⟨"ChairOldModel", "believedBy", "(I)I"⟩, 44) := ⟨⟨by decide +kernel, by decide +kernel⟩, List.mem_of_getElem? (i := 818) (by decide +kernel), List.mem_of_getElem? (i := 1173) (by decide +kernel), List.mem_of_getElem? (i := 1174) (by decide +kernel)⟩
theorem lw_p54 : lw_okq (⟨"ChairOldModel", "costOf", "(I)I"⟩, 44) := ⟨⟨by decide +kernel, by decide +kernel⟩, List.mem_of_getElem? (i := 818) (by decide +kernel), List.mem_of_getElem? (i := 1181) (by decide +kernel), List.mem_of_getElem? (i := 1182) (by decide +kernel)⟩
theorem lw_p55 : lw_okq (⟨"ChairOldModel", "priceOf", "(I)I"⟩, 44) := ⟨⟨by decide +kernel, by decide +kernel⟩, List.mem_of_getElem? (i := 818) (by decide +kernel), List.mem_of_getElem? (i := 1193) (by decide +kernel), List.mem_of_getElem? (i := 1194) (by decide +kernel)⟩
theorem lw_p56 : lw_okq (⟨"ChairOldModel", "clash", "()I"⟩, 44) := ⟨⟨by decide +kernel, by decide +kernel⟩, List.mem_of_getElem? (i := 818) (by decide +kernel), List.mem_of_getElem? (i := 1205) (by decide +kernel), List.mem_of_getElem? (i := 1206) (by decide +kernel)⟩
theorem lw_p57 : lw_okq (⟨"ChairOldModel", "gaps", "()I"⟩, 44) := ⟨⟨by decide +kernel, by decide +kernel⟩, List.mem_of_getElem? (i := 818) (by decide +kernel), List.mem_of_getElem? (i := 1209) (by decide +kernel), List.mem_of_getElem? (i := 1210) (by decide +kernel)⟩
theorem lw_p58 : lw_okq (⟨"ChairOldModel", "houseOf", "(I)I"⟩, 44) := ⟨⟨by decide +kernel, by decide +kernel⟩, List.mem_of_getElem? (i := 818) (by decide +kernel), List.mem_of_getElem? (i := 1213) (by decide +kernel), List.mem_of_getElem? (i := 1214) (by decide +kernel)⟩
theorem lw_p59 : lw_okq (⟨"ChairOldModel", "isBody", "(I)Z"⟩, 44) := ⟨⟨by decide +kernel, by decide +kernel⟩, List.mem_of_getElem? (i := 818) (by decide +kernel), List.mem_of_getElem? (i := 1244) (by decide +kernel), List.mem_of_getElem? (i := 1245) (by decide +kernel)⟩
theorem lw_p60 : lw_okq (⟨"ChairOldModel", "agesAs", "(II)I"⟩, 44) := ⟨⟨by decide +kernel, by decide +kernel⟩, List.mem_of_getElem? (i := 818) (by decide +kernel), List.mem_of_getElem? (i := 1248) (by decide +kernel), List.mem_of_getElem? (i := 1249) (by decide +kernel)⟩
theorem lw_p61 : lw_okq (⟨"ChairOldModel", "begins", "(I)V"⟩, 44) := ⟨⟨by decide +kernel, by decide +kernel⟩, List.mem_of_getElem? (i := 818) (by decide +kernel), List.mem_of_getElem? (i := 1252) (by decide +kernel), List.mem_of_getElem? (i := 1253) (by decide +kernel)⟩
theorem lw_p62 : lw_okq (⟨"ChairOldModel", "joinsAs", "(II)I"⟩, 44) := ⟨⟨by decide +kernel, by decide +kernel⟩, List.mem_of_getElem? (i := 818) (by decide +kernel), List.mem_of_getElem? (i := 1256) (by decide +kernel), List.mem_of_getElem? (i := 1257) (by decide +kernel)⟩
theorem lw_p63 : lw_okq (⟨"ChairOldModel", "showsAs", "(II)I"⟩, 44) := ⟨⟨by decide +kernel, by decide +kernel⟩, List.mem_of_getElem? (i := 818) (by decide +kernel), List.mem_of_getElem? (i := 1260) (by decide +kernel), List.mem_of_getElem? (i := 1261) (by decide +kernel)⟩
def lw_privs_4 : List (MethodName × Nat) := [(⟨"ChairOldModel", "mostOf", "()I"⟩, 44), (⟨"ChairOldModel", "whenNow", "(I)I"⟩, 44), (⟨"ChairOldModel", "unlooked", "(I)I"⟩, 44), (⟨"ChairOldModel", "namedBy", "(IIJ)I"⟩, 44), (⟨"ChairOldModel", "minutesOf", "(I)I"⟩, 44), (⟨"ChairOldModel", "believedBy", "(I)I"⟩, 44), (⟨"ChairOldModel", "costOf", "(I)I"⟩, 44), (⟨"ChairOldModel", "priceOf", "(I)I"⟩, 44), (⟨"ChairOldModel", "clash", "()I"⟩, 44), (⟨"ChairOldModel", "gaps", "()I"⟩, 44), (⟨"ChairOldModel", "houseOf", "(I)I"⟩, 44), (⟨"ChairOldModel", "isBody", "(I)Z"⟩, 44), (⟨"ChairOldModel", "agesAs", "(II)I"⟩, 44), (⟨"ChairOldModel", "begins", "(I)V"⟩, 44), (⟨"ChairOldModel", "joinsAs", "(II)I"⟩, 44), (⟨"ChairOldModel", "showsAs", "(II)I"⟩, 44)]
theorem lw_r4 : ∀ q ∈ lw_privs_4, lw_okq q := List.forall_mem_cons.mpr ⟨lw_p48, List.forall_mem_cons.mpr ⟨lw_p49, List.forall_mem_cons.mpr ⟨lw_p50, List.forall_mem_cons.mpr ⟨lw_p51, List.forall_mem_cons.mpr ⟨lw_p52, List.forall_mem_cons.mpr ⟨lw_p53, List.forall_mem_cons.mpr ⟨lw_p54, List.forall_mem_cons.mpr ⟨lw_p55, List.forall_mem_cons.mpr ⟨lw_p56, List.forall_mem_cons.mpr ⟨lw_p57, List.forall_mem_cons.mpr ⟨lw_p58, List.forall_mem_cons.mpr ⟨lw_p59, List.forall_mem_cons.mpr ⟨lw_p60, List.forall_mem_cons.mpr ⟨lw_p61, List.forall_mem_cons.mpr ⟨lw_p62, List.forall_mem_cons.mpr ⟨lw_p63, fun _ h => absurd h List.not_mem_nil⟩⟩⟩⟩⟩⟩⟩⟩⟩⟩⟩⟩⟩⟩⟩⟩
theorem lw_p64 : lw_okq (⟨"ChairOldModel", "tellsAs", "(II)I"⟩, 44) := ⟨⟨by decide +kernel, by decide +kernel⟩, List.mem_of_getElem? (i := 818) (by decide +kernel), List.mem_of_getElem? (i := 1264) (by decide +kernel), List.mem_of_getElem? (i := 1265) (by decide +kernel)⟩
theorem lw_p65 : lw_okq (⟨"ChairOldModel", "refusal", "(II)I"⟩, 44) := ⟨⟨by decide +kernel, by decide +kernel⟩, List.mem_of_getElem? (i := 818) (by decide +kernel), List.mem_of_getElem? (i := 1285) (by decide +kernel), List.mem_of_getElem? (i := 1286) (by decide +kernel)⟩
theorem lw_p66 : lw_okq (⟨"ChairOldModel", "kindOf", "(I)I"⟩, 44) := ⟨⟨by decide +kernel, by decide +kernel⟩, List.mem_of_getElem? (i := 818) (by decide +kernel), List.mem_of_getElem? (i := 1304) (by decide +kernel), List.mem_of_getElem? (i := 1305) (by decide +kernel)⟩
theorem lw_p67 : lw_okq (⟨"ChairOldModel", "lookedFor", "()I"⟩, 44) := ⟨⟨by decide +kernel, by decide +kernel⟩, List.mem_of_getElem? (i := 818) (by decide +kernel), List.mem_of_getElem? (i := 1315) (by decide +kernel), List.mem_of_getElem? (i := 1316) (by decide +kernel)⟩
def lw_privs_5 : List (MethodName × Nat) := [(⟨"ChairOldModel", "tellsAs", "(II)I"⟩, 44), (⟨"ChairOldModel", "refusal", "(II)I"⟩, 44), (⟨"ChairOldModel", "kindOf", "(I)I"⟩, 44), (⟨"ChairOldModel", "lookedFor", "()I"⟩, 44)]
theorem lw_r5 : ∀ q ∈ lw_privs_5, lw_okq q := List.forall_mem_cons.mpr ⟨lw_p64, List.forall_mem_cons.mpr ⟨lw_p65, List.forall_mem_cons.mpr ⟨lw_p66, List.forall_mem_cons.mpr ⟨lw_p67, fun _ h => absurd h List.not_mem_nil⟩⟩⟩⟩
def lw_privs : List (MethodName × Nat) := lw_privs_1 ++ (lw_privs_2 ++ (lw_privs_3 ++ (lw_privs_4 ++ (lw_privs_5))))
def lw_tbl : List Cond := k2_sels lw_privs ++ tables_1
theorem lw_privs_ok : ∀ q ∈ lw_privs, lw_okq q := by
  show ∀ q ∈ lw_privs_1 ++ (lw_privs_2 ++ (lw_privs_3 ++ (lw_privs_4 ++ (lw_privs_5)))), lw_okq q
  exact List.forall_mem_append.mpr ⟨lw_r1, List.forall_mem_append.mpr ⟨lw_r2, List.forall_mem_append.mpr ⟨lw_r3, List.forall_mem_append.mpr ⟨lw_r4, lw_r5⟩⟩⟩⟩
end
section
/-! the ten classes: their fields in the order of the slots -/
def m_T0 : u_T := fun k => match k with
  | 0 => ("ChairOld$Bodies", "kinds", "[I", true)
  | 1 => ("ChairOld$Bodies", "many", "I", false)
  | 2 => ("ChairOld$Bodies", "ran", "[I", true)
  | _ => ("ChairOld$Bodies", "runs", "I", false)
def m_T1 : u_T := fun k => match k with
  | 0 => ("ChairOld$Laws", "code", "[I", true)
  | 1 => ("ChairOld$Laws", "sizes", "[I", true)
  | _ => ("ChairOld$Laws", "stack", "[I", true)
def m_T2 : u_T := fun k => match k with
  | 0 => ("ChairOld$Papers", "from", "[I", true)
  | 1 => ("ChairOld$Papers", "to", "[I", true)
  | 2 => ("ChairOld$Papers", "houses", "[I", true)
  | _ => ("ChairOld$Papers", "many", "I", false)
def m_T3 : u_T := fun k => match k with
  | 0 => ("ChairOld$Piece", "wood", "I", true)
  | 1 => ("ChairOld$Piece", "place", "I", true)
  | 2 => ("ChairOld$Piece", "looked", "I", false)
  | 3 => ("ChairOld$Piece", "there", "I", false)
  | 4 => ("ChairOld$Piece", "known", "I", false)
  | _ => ("ChairOld$Piece", "numbers", "[I", true)
def m_T4 : u_T := fun k => match k with
  | 0 => ("ChairOld$Reader", "tape", "[I", true)
  | 1 => ("ChairOld$Reader", "length", "I", false)
  | 2 => ("ChairOld$Reader", "code", "[I", true)
  | 3 => ("ChairOld$Reader", "size", "I", false)
  | 4 => ("ChairOld$Reader", "at", "I", false)
  | _ => ("ChairOld$Reader", "fault", "I", false)
def m_T5 : u_T := fun k => match k with
  | 0 => ("ChairOld$Scale", "told", "LChairOld$Told;", true)
  | 1 => ("ChairOld$Scale", "laws", "LChairOld$Laws;", true)
  | 2 => ("ChairOld$Scale", "sums", "[J", true)
  | 3 => ("ChairOld$Scale", "ways", "[J", true)
  | 4 => ("ChairOld$Scale", "merged", "[J", true)
  | _ => ("ChairOld$Scale", "products", "[J", true)
def m_T6 : u_T := fun k => match k with
  | 0 => ("ChairOld$Shelves", "sorts", "[I", true)
  | 1 => ("ChairOld$Shelves", "held", "[I", true)
  | 2 => ("ChairOld$Shelves", "lengths", "[I", true)
  | _ => ("ChairOld$Shelves", "cells", "[J", true)
def m_T7 : u_T := fun k => match k with
  | 0 => ("ChairOld$Told", "now", "[I", true)
  | 1 => ("ChairOld$Told", "cells", "[I", true)
  | 2 => ("ChairOld$Told", "before", "[I", true)
  | 3 => ("ChairOld$Told", "after", "[I", true)
  | 4 => ("ChairOld$Told", "done", "I", false)
  | _ => ("ChairOld$Told", "kept", "I", false)
def m_T8 : u_T := fun k => match k with
  | 0 => ("ChairOld", "told", "LChairOld$Told;", true)
  | 1 => ("ChairOld", "laws", "LChairOld$Laws;", true)
  | 2 => ("ChairOld", "reader", "LChairOld$Reader;", true)
  | 3 => ("ChairOld", "scale", "LChairOld$Scale;", true)
  | 4 => ("ChairOld", "papers", "LChairOld$Papers;", true)
  | 5 => ("ChairOld", "bodies", "LChairOld$Bodies;", true)
  | 6 => ("ChairOld", "shelves", "LChairOld$Shelves;", true)
  | 7 => ("ChairOld", "pieces", "[LChairOld$Piece;", true)
  | 8 => ("ChairOld", "pieceCount", "I", false)
  | 9 => ("ChairOld", "whens", "[I", true)
  | 10 => ("ChairOld", "keptLooked", "[I", true)
  | 11 => ("ChairOld", "keptThere", "[I", true)
  | 12 => ("ChairOld", "keptCount", "I", false)
  | _ => ("ChairOld", "hasImage", "Z", false)
def m_T9 : u_T := fun k => match k with
  | 0 => ("ChairOldModel", "may", "[I", true)
  | 1 => ("ChairOldModel", "changeAt", "[I", true)
  | 2 => ("ChairOldModel", "changeWas", "[I", true)
  | 3 => ("ChairOldModel", "changeIs", "[I", true)
  | 4 => ("ChairOldModel", "keptMany", "I", false)
  | 5 => ("ChairOldModel", "done", "I", false)
  | 6 => ("ChairOldModel", "parts", "I", false)
  | 7 => ("ChairOldModel", "wood", "[I", true)
  | 8 => ("ChairOldModel", "place", "[I", true)
  | 9 => ("ChairOldModel", "found", "[I", true)
  | 10 => ("ChairOldModel", "tape", "[I", true)
  | 11 => ("ChairOldModel", "tapeMany", "I", false)
  | 12 => ("ChairOldModel", "text", "[I", true)
  | 13 => ("ChairOldModel", "textMany", "[I", true)
  | 14 => ("ChairOldModel", "base", "I", false)
  | 15 => ("ChairOldModel", "at", "I", false)
  | 16 => ("ChairOldModel", "ends", "I", false)
  | 17 => ("ChairOldModel", "fault", "I", false)
  | 18 => ("ChairOldModel", "opened", "I", false)
  | 19 => ("ChairOldModel", "names", "[I", true)
  | 20 => ("ChairOldModel", "numbers", "[I", true)
  | 21 => ("ChairOldModel", "way", "[I", true)
  | 22 => ("ChairOldModel", "weight", "[J", true)
  | 23 => ("ChairOldModel", "kindSum", "[J", true)
  | 24 => ("ChairOldModel", "allSum", "J", false)
  | 25 => ("ChairOldModel", "trueWhen", "[I", true)
  | 26 => ("ChairOldModel", "sorted", "[I", true)
  | 27 => ("ChairOldModel", "papers", "I", false)
  | 28 => ("ChairOldModel", "paperFrom", "[I", true)
  | 29 => ("ChairOldModel", "paperTo", "[I", true)
  | 30 => ("ChairOldModel", "paperHouse", "[I", true)
  | 31 => ("ChairOldModel", "image", "[I", true)
  | 32 => ("ChairOldModel", "imageParts", "I", false)
  | 33 => ("ChairOldModel", "isKept", "Z", false)
  | 34 => ("ChairOldModel", "bodies", "I", false)
  | 35 => ("ChairOldModel", "bodyKind", "[I", true)
  | 36 => ("ChairOldModel", "trace", "[I", true)
  | 37 => ("ChairOldModel", "ran", "I", false)
  | 38 => ("ChairOldModel", "ownKind", "I", false)
  | 39 => ("ChairOldModel", "ownNumber", "I", false)
  | 40 => ("ChairOldModel", "shelf", "[I", true)
  | 41 => ("ChairOldModel", "many", "[I", true)
  | 42 => ("ChairOldModel", "items", "[J", true)
  | _ => ("ChairOldModel", "carried", "[J", true)
def m_cls : List vw_C := [("ChairOld$Bodies", m_T0, 4), ("ChairOld$Laws", m_T1, 3), ("ChairOld$Papers", m_T2, 4), ("ChairOld$Piece", m_T3, 6), ("ChairOld$Reader", m_T4, 6), ("ChairOld$Scale", m_T5, 6), ("ChairOld$Shelves", m_T6, 4), ("ChairOld$Told", m_T7, 6), ("ChairOld", m_T8, 14), ("ChairOldModel", m_T9, 44)]
/-- static arrays that nobody writes: class, name, descriptor -/
def m_stat : List (String × String × String) := [("ChairOld", "LEAST_TOLD", "[I"), ("ChairOld", "MOST_TOLD", "[I"), ("ChairOld$Bodies", "ABOVE", "[I"), ("ChairOld$Bodies", "OWN", "[I")]
def m_good : List Cond := lw_tbl.filter goodWord
def m_isNest : Cond → Bool
  | .methodLinkNest .. => true
  | _ => false
def m_nest : List Cond := lw_tbl.filter m_isNest
def m_ty0 (T : u_T) (k : Nat) : FieldType := (parseFieldDescriptor (T k).2.2.1).getD .int
def m_cok (q : vw_C) : Prop := (∀ w ∈ u_ws q.1 q.2.1 q.2.2, w ∈ m_good) ∧ (∀ a, a < q.2.2 → ∀ b, b < q.2.2 → a ≠ b → (q.2.1 a).2.1 ≠ (q.2.1 b).2.1) ∧ (∀ k, k < q.2.2 → parseFieldDescriptor (q.2.1 k).2.2.1 = some (m_ty0 q.2.1 k)) ∧ Cond.instantiable q.1 q.2.2 ∈ m_good ∧ Cond.initialized q.1 ∈ m_good ∧ (∀ k, k < q.2.2 → (q.2.1 k).1 = q.1)
theorem m_in {w : Cond} (h : w ∈ lw_tbl) (g : goodWord w = true) : w ∈ m_good := List.mem_filter.mpr ⟨h, g⟩
theorem m_ins_all {l : List Cond} (h : l.all (fun w => decide (w ∈ lw_tbl) && goodWord w) = true) : ∀ w ∈ l, w ∈ m_good := fun w hw => by
  have h1 := List.all_eq_true.mp h w hw
  simp only [Bool.and_eq_true, decide_eq_true_eq] at h1
  exact m_in h1.1 h1.2
set_option maxRecDepth 100000 in
theorem m_cok0 : m_cok ("ChairOld$Bodies", m_T0, 4) := ⟨m_ins_all (by decide +kernel), by decide +kernel, by decide +kernel, m_in (List.mem_of_getElem? (i := 210) (by decide +kernel)) rfl, m_in (List.mem_of_getElem? (i := 75) (by decide +kernel)) rfl, by decide +kernel⟩
set_option maxRecDepth 100000 in
theorem m_cok1 : m_cok ("ChairOld$Laws", m_T1, 3) := ⟨m_ins_all (by decide +kernel), by decide +kernel, by decide +kernel, m_in (List.mem_of_getElem? (i := 119) (by decide +kernel)) rfl, m_in (List.mem_of_getElem? (i := 71) (by decide +kernel)) rfl, by decide +kernel⟩
set_option maxRecDepth 100000 in
theorem m_cok2 : m_cok ("ChairOld$Papers", m_T2, 4) := ⟨m_ins_all (by decide +kernel), by decide +kernel, by decide +kernel, m_in (List.mem_of_getElem? (i := 190) (by decide +kernel)) rfl, m_in (List.mem_of_getElem? (i := 74) (by decide +kernel)) rfl, by decide +kernel⟩
set_option maxRecDepth 100000 in
theorem m_cok3 : m_cok ("ChairOld$Piece", m_T3, 6) := ⟨m_ins_all (by decide +kernel), by decide +kernel, by decide +kernel, m_in (List.mem_of_getElem? (i := 305) (by decide +kernel)) rfl, m_in (List.mem_of_getElem? (i := 78) (by decide +kernel)) rfl, by decide +kernel⟩
set_option maxRecDepth 100000 in
theorem m_cok4 : m_cok ("ChairOld$Reader", m_T4, 6) := ⟨m_ins_all (by decide +kernel), by decide +kernel, by decide +kernel, m_in (List.mem_of_getElem? (i := 135) (by decide +kernel)) rfl, m_in (List.mem_of_getElem? (i := 72) (by decide +kernel)) rfl, by decide +kernel⟩
set_option maxRecDepth 100000 in
theorem m_cok5 : m_cok ("ChairOld$Scale", m_T5, 6) := ⟨m_ins_all (by decide +kernel), by decide +kernel, by decide +kernel, m_in (List.mem_of_getElem? (i := 163) (by decide +kernel)) rfl, m_in (List.mem_of_getElem? (i := 73) (by decide +kernel)) rfl, by decide +kernel⟩
set_option maxRecDepth 100000 in
theorem m_cok6 : m_cok ("ChairOld$Shelves", m_T6, 4) := ⟨m_ins_all (by decide +kernel), by decide +kernel, by decide +kernel, m_in (List.mem_of_getElem? (i := 231) (by decide +kernel)) rfl, m_in (List.mem_of_getElem? (i := 76) (by decide +kernel)) rfl, by decide +kernel⟩
set_option maxRecDepth 100000 in
theorem m_cok7 : m_cok ("ChairOld$Told", m_T7, 6) := ⟨m_ins_all (by decide +kernel), by decide +kernel, by decide +kernel, m_in (List.mem_of_getElem? (i := 92) (by decide +kernel)) rfl, m_in (List.mem_of_getElem? (i := 70) (by decide +kernel)) rfl, by decide +kernel⟩
set_option maxRecDepth 100000 in
theorem m_cok8 : m_cok ("ChairOld", m_T8, 14) := ⟨m_ins_all (by decide +kernel), by decide +kernel, by decide +kernel, m_in (List.mem_of_getElem? (i := 84) (by decide +kernel)) rfl, m_in (List.mem_of_getElem? (i := 69) (by decide +kernel)) rfl, by decide +kernel⟩
set_option maxRecDepth 100000 in
theorem m_cok9 : m_cok ("ChairOldModel", m_T9, 44) := ⟨m_ins_all (by decide +kernel), by decide +kernel, by decide +kernel, m_in (List.mem_of_getElem? (i := 886) (by decide +kernel)) rfl, m_in (List.mem_of_getElem? (i := 77) (by decide +kernel)) rfl, by decide +kernel⟩
theorem m_cok_at : ∀ (c : Nat) (q : vw_C), m_cls[c]? = some q → m_cok q := by
  intro c q h
  match c, h with
  | 0, h => cases h; exact m_cok0
  | 1, h => cases h; exact m_cok1
  | 2, h => cases h; exact m_cok2
  | 3, h => cases h; exact m_cok3
  | 4, h => cases h; exact m_cok4
  | 5, h => cases h; exact m_cok5
  | 6, h => cases h; exact m_cok6
  | 7, h => cases h; exact m_cok7
  | 8, h => cases h; exact m_cok8
  | 9, h => cases h; exact m_cok9
  | c + 10, h => simp [m_cls] at h
end
section
/-! the M machine: cells, values, worlds -/
abbrev MCell : Type := (FieldType × vp_A) ⊕ (Nat × List Value)
abbrev MH : Type := List MCell
abbrev ML : Type := List (Nat × Value)
abbrev ME : Type := Instr × Nat × Nat × Nat × Nat × MethodName × Value
abbrev MD : Type := MethodName × ByteArray × Nat × Option FieldType × (Nat × Nat × Nat) × List (Nat × ME)
def m_tv (α : Nat → Nat) : Value → Value
  | .ref i => .ref (α i)
  | .int x => .int x
  | .long x => .long x
  | .float x => .float x
  | .double x => .double x
  | .null => .null
  | .retAddr x => .retAddr x
def m_ta (α : Nat → Nat) (a : vp_A) : vp_A := (a.1, match a.2 with
  | .inl f => .inl f
  | .inr (.inl f) => .inr (.inl f)
  | .inr (.inr (.inl f)) => .inr (.inr (.inl f))
  | .inr (.inr (.inr (.inl f))) => .inr (.inr (.inr (.inl f)))
  | .inr (.inr (.inr (.inr f))) => .inr (.inr (.inr (.inr fun j => (f j).map α))))
def m_te (α : Nat → Nat) (cA : FieldType → ClassId) (c : MCell) : va_E := match c with
  | .inl q => .inl (cA q.1, m_ta α q.2)
  | .inr o => .inr (o.1, o.2.map (m_tv α))
def m_tw (α : Nat → Nat) (cA : FieldType → ClassId) : Nat → MH → va_W
  | _, [] => []
  | i, c :: h => (α i, m_te α cA c) :: m_tw α cA (i + 1) h
def m_ws (α : Nat → Nat) (cA : FieldType → ClassId) (h : MH) : va_W := m_tw α cA 5 (h.drop 5)
def m_tl (α : Nat → Nat) (l : ML) : ML := l.map (fun q => (q.1, m_tv α q.2))
def m_okv (n : Nat) (v : Value) : Prop := ∀ i : Nat, v = .ref i → i < n
def m_oka (n : Nat) (a : vp_A) : Prop := ∀ f : Nat → Option Nat, a.2 = .inr (.inr (.inr (.inr f))) → ∀ j i : Nat, f j = some i → i < n
def m_okc (n : Nat) (c : MCell) : Prop := match c with
  | .inl q => m_oka n q.2
  | .inr o => ∀ v ∈ o.2, m_okv n v
def m_okh (h : MH) : Prop := ∀ (k : Nat) (c : MCell), h[k]? = some c → m_okc h.length c
def m_oks (n : Nat) (st : List Value) : Prop := ∀ v ∈ st, m_okv n v
def m_okl (n : Nat) (l : ML) : Prop := ∀ q ∈ l, m_okv n q.2
theorem m_tv_cat (α : Nat → Nat) (v : Value) : (m_tv α v).category = v.category := by cases v <;> rfl
theorem m_tw_len (α : Nat → Nat) (cA : FieldType → ClassId) : ∀ (h : MH) (i : Nat), (m_tw α cA i h).length = h.length
  | [], _ => rfl
  | _ :: h, i => by simp [m_tw, m_tw_len α cA h (i + 1)]
theorem m_tw_get (α : Nat → Nat) (cA : FieldType → ClassId) : ∀ (h : MH) (i k : Nat), (m_tw α cA i h)[k]? = (h[k]?).map fun c => (α (i + k), m_te α cA c)
  | [], i, k => by simp [m_tw]
  | c :: h, i, 0 => by simp [m_tw]
  | c :: h, i, k + 1 => by
    simp only [m_tw, List.getElem?_cons_succ, m_tw_get α cA h (i + 1) k]
    rw [show i + 1 + k = i + (k + 1) by omega]
theorem m_tw_set (α : Nat → Nat) (cA : FieldType → ClassId) (c : MCell) : ∀ (h : MH) (i k : Nat), m_tw α cA i (h.set k c) = (m_tw α cA i h).set k (α (i + k), m_te α cA c)
  | [], i, k => by simp [m_tw]
  | d :: h, i, 0 => by simp [m_tw]
  | d :: h, i, k + 1 => by
    simp only [m_tw, List.set_cons_succ, m_tw_set α cA c h (i + 1) k]
    rw [show i + 1 + k = i + (k + 1) by omega]
theorem m_tw_app (α : Nat → Nat) (cA : FieldType → ClassId) (c : MCell) : ∀ (h : MH) (i : Nat), m_tw α cA i (h ++ [c]) = m_tw α cA i h ++ [(α (i + h.length), m_te α cA c)]
  | [], i => by simp [m_tw]
  | d :: h, i => by
    simp only [m_tw, List.cons_append, m_tw_app α cA c h (i + 1), List.length_cons]
    rw [show i + 1 + h.length = i + (h.length + 1) by omega]
theorem m_ws_get {α : Nat → Nat} {cA : FieldType → ClassId} {h : MH} {k : Nat} {c : MCell} (hk : 5 ≤ k) (hc : h[k]? = some c) : (m_ws α cA h)[k - 5]? = some (α k, m_te α cA c) := by
  unfold m_ws
  rw [m_tw_get, List.getElem?_drop, show 5 + (k - 5) = k by omega, hc]
  rfl
theorem m_ws_set {α : Nat → Nat} {cA : FieldType → ClassId} {h : MH} {k : Nat} {c : MCell} (hk : 5 ≤ k) : m_ws α cA (h.set k c) = (m_ws α cA h).set (k - 5) (α k, m_te α cA c) := by
  unfold m_ws
  rw [List.drop_set, if_neg (by omega), m_tw_set, show 5 + (k - 5) = k by omega]
theorem m_ws_app {α : Nat → Nat} {cA : FieldType → ClassId} {h : MH} {c : MCell} (hk : 5 ≤ h.length) : m_ws α cA (h ++ [c]) = m_ws α cA h ++ [(α h.length, m_te α cA c)] := by
  unfold m_ws
  rw [List.drop_append_of_le_length hk, m_tw_app, List.length_drop, show 5 + (h.length - 5) = h.length by omega]
theorem m_okv_mono {n n' : Nat} (h : n ≤ n') {v : Value} (hv : m_okv n v) : m_okv n' v := fun i e => Nat.lt_of_lt_of_le (hv i e) h
theorem m_okc_mono {n n' : Nat} (h : n ≤ n') {c : MCell} (hc : m_okc n c) : m_okc n' c := by
  cases c with
  | inl q => exact fun f e j i hi => Nat.lt_of_lt_of_le (hc f e j i hi) h
  | inr o => exact fun v hv => m_okv_mono h (hc v hv)
theorem m_tv_congr {α α' : Nat → Nat} {n : Nat} (ha : ∀ i, i < n → α' i = α i) {v : Value} (hv : m_okv n v) : m_tv α' v = m_tv α v := by
  cases v with
  | ref i => simp only [m_tv]; rw [ha i (hv i rfl)]
  | _ => rfl
theorem m_ta_congr {α α' : Nat → Nat} {n : Nat} (ha : ∀ i, i < n → α' i = α i) {a : vp_A} (hv : m_oka n a) : m_ta α' a = m_ta α a := by
  obtain ⟨k, x⟩ := a
  rcases x with f | f | f | f | f
  · rfl
  · rfl
  · rfl
  · rfl
  · have e : (fun j => (f j).map α') = fun j => (f j).map α := by
      funext j
      cases hj : f j with
      | none => rfl
      | some i => simp only [Option.map_some]; rw [ha i (hv f rfl j i hj)]
    simp only [m_ta, e]
theorem m_te_congr {α α' : Nat → Nat} {cA : FieldType → ClassId} {n : Nat} (ha : ∀ i, i < n → α' i = α i) {c : MCell} (hv : m_okc n c) : m_te α' cA c = m_te α cA c := by
  cases c with
  | inl q => simp only [m_te, m_ta_congr ha (a := q.2) hv]
  | inr o =>
    simp only [m_te]
    rw [show o.2.map (m_tv α') = o.2.map (m_tv α) from List.map_congr_left fun v h => m_tv_congr ha (hv v h)]
theorem m_tw_congr {α α' : Nat → Nat} {cA : FieldType → ClassId} {n : Nat} (ha : ∀ i, i < n → α' i = α i) : ∀ (h : MH) (i : Nat), i + h.length ≤ n → (∀ c ∈ h, m_okc n c) → m_tw α' cA i h = m_tw α cA i h
  | [], _, _, _ => rfl
  | c :: h, i, hn, hc => by
    simp only [m_tw, List.length_cons] at hn ⊢
    rw [m_tw_congr ha h (i + 1) (by omega) (fun c hm => hc c (List.mem_cons_of_mem _ hm)), m_te_congr ha (hc c List.mem_cons_self), ha i (by omega)]
theorem m_ws_congr {α α' : Nat → Nat} {cA : FieldType → ClassId} {h : MH} (ha : ∀ i, i < h.length → α' i = α i) (h5 : 5 ≤ h.length) (ho : m_okh h) : m_ws α' cA h = m_ws α cA h := by
  refine m_tw_congr ha _ 5 (by simp; omega) (fun c hc => ?_)
  obtain ⟨k, hk⟩ := List.getElem?_of_mem (List.mem_of_mem_drop hc)
  exact ho k c hk
theorem m_stack_congr {α α' : Nat → Nat} {n : Nat} (ha : ∀ i, i < n → α' i = α i) {st : List Value} (hs : m_oks n st) : st.map (m_tv α') = st.map (m_tv α) := List.map_congr_left fun v h => m_tv_congr ha (hs v h)
theorem m_tl_congr {α α' : Nat → Nat} {n : Nat} (ha : ∀ i, i < n → α' i = α i) {l : ML} (hs : m_okl n l) : m_tl α' l = m_tl α l := List.map_congr_left fun q h => by rw [m_tv_congr ha (hs q h)]
theorem m_okh_set {h : MH} (ho : m_okh h) {k : Nat} {c : MCell} (hc : m_okc h.length c) : m_okh (h.set k c) := by
  intro j d hj
  rw [List.length_set]
  by_cases e : k = j
  · subst e
    by_cases hl : k < h.length
    · rw [List.getElem?_set_self hl] at hj
      cases hj
      exact hc
    · rw [List.set_eq_of_length_le (by omega)] at hj
      exact ho _ _ hj
  · rw [List.getElem?_set_ne e] at hj
    exact ho j d hj
theorem m_okh_app {h : MH} (ho : m_okh h) {c : MCell} (hc : m_okc (h.length + 1) c) : m_okh (h ++ [c]) := by
  intro j d hj
  rw [List.length_append, List.length_singleton]
  by_cases e : j < h.length
  · rw [List.getElem?_append_left e] at hj
    exact m_okc_mono (Nat.le_succ _) (ho j d hj)
  · rw [List.getElem?_append_right (by omega)] at hj
    have hz : j - h.length < 1 := (List.getElem?_eq_some_iff.mp hj).1
    rw [show j - h.length = 0 by omega] at hj
    cases hj
    exact hc
def m_get (i : Nat) : ML → Option Value
  | [] => none
  | (j, v) :: r => bif Nat.beq j i then some v else m_get i r
theorem m_get_mem {i : Nat} {v : Value} : ∀ {l : ML}, m_get i l = some v → (i, v) ∈ l
  | [], h => by cases h
  | (j, w) :: r, h => by
    simp only [m_get] at h
    cases e : Nat.beq j i with
    | true =>
      rw [e] at h
      cases h
      rw [Nat.eq_of_beq_eq_true e]
      exact List.mem_cons_self
    | false =>
      rw [e] at h
      exact List.mem_cons_of_mem _ (m_get_mem h)
theorem m_get_at {α : Nat → Nat} {i nL : Nat} {v : Value} {l : ML} {ls : Array Slot} (hl : lv_has ls nL (m_tl α l)) (h : m_get i l = some v) : ls[i]? = some (.val (m_tv α v)) :=
  hl.2.2 (i, m_tv α v) (List.mem_map.mpr ⟨(i, v), m_get_mem h, rfl⟩)
theorem m_get_ok {n i : Nat} {v : Value} {l : ML} (hl : m_okl n l) (h : m_get i l = some v) : m_okv n v := hl (i, v) (m_get_mem h)
def m_set1 (i : Nat) (v : Value) (l : ML) : ML := (i, v) :: l.filter (fun q => !(q.1 == i) && !(q.1 + 1 == i && q.2.category == 2))
def m_set2 (i : Nat) (v : Value) (l : ML) : ML := (i, v) :: l.filter (fun q => !(q.1 == i) && (!(q.1 == i + 1) && !(q.1 + 1 == i && q.2.category == 2)))
theorem m_tl_filter (α : Nat → Nat) (P : Nat → Nat → Bool) (l : ML) : (m_tl α l).filter (fun q => P q.1 q.2.category) = m_tl α (l.filter (fun q => P q.1 q.2.category)) := by
  unfold m_tl
  rw [List.filter_map]
  congr 1
  apply List.filter_congr
  intro q _
  simp only [Function.comp, m_tv_cat]
theorem m_tl_set1 (α : Nat → Nat) (i : Nat) (v : Value) (l : ML) : (i, m_tv α v) :: (m_tl α l).filter (fun q => !(q.1 == i) && !(q.1 + 1 == i && q.2.category == 2)) = m_tl α (m_set1 i v l) := by
  rw [m_tl_filter α (fun a b => !(a == i) && !(a + 1 == i && b == 2))]
  rfl
theorem m_tl_set2 (α : Nat → Nat) (i : Nat) (v : Value) (l : ML) : (i, m_tv α v) :: (m_tl α l).filter (fun q => !(q.1 == i) && (!(q.1 == i + 1) && !(q.1 + 1 == i && q.2.category == 2))) = m_tl α (m_set2 i v l) := by
  rw [m_tl_filter α (fun a b => !(a == i) && (!(a == i + 1) && !(a + 1 == i && b == 2)))]
  rfl
theorem m_okl_set1 {n i : Nat} {v : Value} {l : ML} (hl : m_okl n l) (hv : m_okv n v) : m_okl n (m_set1 i v l) := by
  intro q hq
  rcases List.mem_cons.mp hq with rfl | hq
  · exact hv
  · exact hl q (List.mem_filter.mp hq).1
theorem m_okl_set2 {n i : Nat} {v : Value} {l : ML} (hl : m_okl n l) (hv : m_okv n v) : m_okl n (m_set2 i v l) := by
  intro q hq
  rcases List.mem_cons.mp hq with rfl | hq
  · exact hv
  · exact hl q (List.mem_filter.mp hq).1
theorem m_ok_int (n : Nat) (x : Int32) : m_okv n (.int x) := fun _ e => by cases e
theorem m_ok_long (n : Nat) (x : Int64) : m_okv n (.long x) := fun _ e => by cases e
theorem m_ok_null (n : Nat) : m_okv n .null := fun _ e => by cases e
theorem m_oks_nil (n : Nat) : m_oks n [] := fun _ h => by cases h
theorem m_oks_cons {n : Nat} {v : Value} {st : List Value} (hv : m_okv n v) (hs : m_oks n st) : m_oks n (v :: st) := fun w hw => by
  rcases List.mem_cons.mp hw with rfl | h
  · exact hv
  · exact hs w h
theorem m_oks_tail {n : Nat} {v : Value} {st : List Value} (hs : m_oks n (v :: st)) : m_oks n st := fun w hw => hs w (List.mem_cons_of_mem _ hw)
theorem m_oks_head {n : Nat} {v : Value} {st : List Value} (hs : m_oks n (v :: st)) : m_okv n v := hs v List.mem_cons_self
/-- locals by their numbers -/
def m_pick (l : ML) : List Nat → ML
  | [] => []
  | i :: r => match m_get i l with
    | some v => (i, v) :: m_pick l r
    | none => m_pick l r
theorem m_pick_mem {l : ML} : ∀ {ks : List Nat} {q : Nat × Value}, q ∈ m_pick l ks → q ∈ l
  | [], q, h => by cases h
  | i :: r, q, h => by
    simp only [m_pick] at h
    cases e : m_get i l with
    | none =>
      rw [e] at h
      exact m_pick_mem h
    | some v =>
      rw [e] at h
      rcases List.mem_cons.mp h with rfl | h
      · exact m_get_mem e
      · exact m_pick_mem h
end
section
/-! entries: what is checked of them, what a plain one does -/
def m_find (pc : Nat) : List (Nat × ME) → Option ME
  | [] => none
  | (k, e) :: r => bif Nat.beq k pc then some e else m_find pc r
theorem m_find_mem {pc : Nat} {e : ME} : ∀ {l : List (Nat × ME)}, m_find pc l = some e → (pc, e) ∈ l
  | [], h => by cases h
  | (j, w) :: r, h => by
    simp only [m_find] at h
    cases e : Nat.beq j pc with
    | true =>
      rw [e] at h
      cases h
      rw [Nat.eq_of_beq_eq_true e]
      exact List.mem_cons_self
    | false =>
      rw [e] at h
      exact List.mem_cons_of_mem _ (m_find_mem h)
def m_len (ins : Instr) (a : Nat) : Nat := match ins with
  | .tableswitch .. => a
  | .lookupswitch .. => a
  | .bipush _ => 2
  | .iload _ => 2
  | .lload _ => 2
  | .aload _ => 2
  | .istore _ => 2
  | .lstore _ => 2
  | .astore _ => 2
  | .ldc _ => 2
  | .newarray _ => 2
  | .sipush _ => 3
  | .ldc_w _ => 3
  | .ldc2_w _ => 3
  | .iinc _ _ => 3
  | .goto _ => 3
  | .ifCond _ _ => 3
  | .if_icmp _ _ => 3
  | .ifnull _ => 3
  | .ifnonnull _ => 3
  | .getfield _ => 3
  | .putfield _ => 3
  | .getstatic _ => 3
  | .invokestatic _ => 3
  | .invokevirtual _ => 3
  | .invokespecial _ => 3
  | .new _ => 3
  | .anewarray _ => 3
  | _ => 1
def m_wd (pos : Nat) (w : Cond) : Bool := decide (lw_tbl[pos]? = some w) && goodWord w
def m_wn (pos : Nat) (w : Cond) : Bool := decide (lw_tbl[pos]? = some w) && m_isNest w
def m_isInt (w : Value) : Bool := match w with
  | .int _ => true
  | _ => false
def m_isLong (w : Value) : Bool := match w with
  | .long _ => true
  | _ => false
/-- the kind of value that a field of this type takes, by a sample -/
def m_kind (ty : FieldType) (w : Value) : Bool := match ty, w with
  | .int, .int x => x == 0
  | .boolean, .int x => x == 1
  | .long, .long _ => true
  | .object _, .null => true
  | .array _, .null => true
  | _, _ => false
def m_lok (y0 : MethodName) (maxL pc : Nat) (ins : Instr) (a k pos : Nat) (y : MethodName) (w : Value) : Bool := match ins with
  | .iconst n => decide (Value.int (Int32.ofInt n) = w)
  | .bipush n => decide (Value.int (Int8.ofInt n).toInt32 = w)
  | .sipush n => decide (Value.int (Int16.ofInt n).toInt32 = w)
  | .lconst n => decide (Value.long (Int64.ofNat (n : Nat)) = w)
  | .ldc i => match w with
    | .int x => m_wd pos (.constant y0.cls i x)
    | _ => false
  | .ldc_w i => match w with
    | .int x => m_wd pos (.constant y0.cls i x)
    | _ => false
  | .ldc2_w i => match w with
    | .long x => m_wd pos (.constantLong y0.cls i x)
    | _ => false
  | .iload i => a == i
  | .lload i => a == i
  | .aload i => a == i
  | .iload_n i => a == (i : Nat)
  | .lload_n i => a == (i : Nat)
  | .aload_n i => a == (i : Nat)
  | .istore i => a == i && decide (a < maxL)
  | .astore i => a == i && decide (a < maxL)
  | .lstore i => a == i && decide (a + 1 < maxL)
  | .istore_n i => a == (i : Nat) && decide (a < maxL)
  | .astore_n i => a == (i : Nat) && decide (a < maxL)
  | .lstore_n i => a == (i : Nat) && decide (a + 1 < maxL)
  | .iinc i n => a == i && decide (a < maxL) && decide (Value.int (Int32.ofInt n) = w)
  | .goto off => decide ((pc : Int) + off = (a : Int))
  | .ifCond _ off => decide ((pc : Int) + off = (a : Int))
  | .if_icmp _ off => decide ((pc : Int) + off = (a : Int))
  | .ifnull off => decide ((pc : Int) + off = (a : Int))
  | .ifnonnull off => decide ((pc : Int) + off = (a : Int))
  | .getfield i => match m_cls[a]? with
    | some (_, T, N) => decide (k < N) && m_wd pos (.fieldLink y0.cls i (T k).1 (T k).2.1 (T k).2.2.1)
    | none => false
  | .putfield i => match m_cls[a]? with
    | some (_, T, N) => decide (k < N) && m_wd pos (.fieldLink y0.cls i (T k).1 (T k).2.1 (T k).2.2.1) && m_kind (m_ty0 T k) w && ((T k).2.2.2 == false || (y0.name == "<init>" && (T k).1 == y0.cls))
    | none => false
  | .getstatic i => match m_stat[a]? with
    | some (C, n, d) => m_wd pos (.fieldLink y0.cls i C n d)
    | none => false
  | .new i => match m_cls[a]? with
    | some (C, _, _) => m_wd pos (.classLink y0.cls i C)
    | none => false
  | .anewarray i => m_wd pos (.classLink y0.cls i "ChairOld$Piece")
  | .invokestatic i => bif k == 0 then m_wd pos (.methodLink y0.cls i y) else m_wn pos (.methodLinkNest y0.cls i y "ChairOld")
  | .invokevirtual i => m_wd pos (.methodLink y0.cls i y)
  | .invokespecial i => bif k == 0 then m_wd pos (.methodLink y0.cls i y) else m_wn pos (.methodLinkNest y0.cls i y "ChairOld")
  | .lookupswitch _ ps => (ps.toList.zip (ps.toList.drop 1)).all (fun (a, next) => a.1 < next.1)
  | _ => true
def m_eok (y0 : MethodName) (b : ByteArray) (maxL : Nat) (q : Nat × ME) : Bool := match q with
  | (pc, ins, nx, a, k, pos, y, w) => decide (decode b pc = .ok (ins, m_len ins a)) && (nx == pc + m_len ins a) && m_lok y0 maxL pc ins a k pos y w
theorem m_eok_spec {y0 : MethodName} {b : ByteArray} {maxL pc nx a k pos : Nat} {ins : Instr} {y : MethodName} {w : Value} (h : m_eok y0 b maxL (pc, ins, nx, a, k, pos, y, w) = true) :
    decode b pc = .ok (ins, m_len ins a) ∧ nx = pc + m_len ins a ∧ m_lok y0 maxL pc ins a k pos y w = true := by
  simp only [m_eok, Bool.and_eq_true, decide_eq_true_eq, beq_iff_eq] at h
  exact ⟨h.1.1, h.1.2, h.2⟩
theorem m_wd_spec {pos : Nat} {w : Cond} (h : m_wd pos w = true) : w ∈ m_good := by
  simp only [m_wd, Bool.and_eq_true, decide_eq_true_eq] at h
  exact m_in (List.mem_of_getElem? h.1) h.2
theorem m_wn_spec {pos : Nat} {w : Cond} (h : m_wn pos w = true) : w ∈ m_nest := by
  simp only [m_wn, Bool.and_eq_true, decide_eq_true_eq] at h
  exact List.mem_filter.mpr ⟨List.mem_of_getElem? h.1, h.2⟩
def m_fit (w v : Value) : Bool := match w, v with
  | .int x, .int z => bif x == 1 then z == 0 || z == 1 else true
  | .long _, .long _ => true
  | .null, .ref _ => true
  | .null, .null => true
  | _, _ => false
/-! stores that leave a plain list -/
def m_isL (w : Value) : Bool := match w with
  | .long _ => true
  | .double _ => true
  | _ => false
def m_fltK {β : Type} (i : Nat) : ML → (ML → β) → β
  | [], k => k []
  | (j, w) :: r, k => bif Nat.beq j i then m_fltK i r k else bif Nat.beq (Nat.succ j) i && m_isL w then m_fltK i r k else m_fltK i r (fun r' => k ((j, w) :: r'))
def m_fltK2 {β : Type} (i : Nat) : ML → (ML → β) → β
  | [], k => k []
  | (j, w) :: r, k => bif Nat.beq j i then m_fltK2 i r k else bif Nat.beq j (Nat.succ i) then m_fltK2 i r k else bif Nat.beq (Nat.succ j) i && m_isL w then m_fltK2 i r k else m_fltK2 i r (fun r' => k ((j, w) :: r'))
def m_pickK {β : Type} (l : ML) : List Nat → (ML → β) → β
  | [], k => k []
  | i :: r, k => match m_get i l with
    | some v => m_pickK l r (fun r' => k ((i, v) :: r'))
    | none => m_pickK l r k
theorem m_isL_eq (w : Value) : m_isL w = (w.category == 2) := by cases w <;> rfl
theorem m_beq_eq (a b : Nat) : Nat.beq a b = (a == b) := by
  cases h : Nat.beq a b with
  | true => rw [Nat.eq_of_beq_eq_true h]; simp
  | false =>
    have := Nat.ne_of_beq_eq_false h
    simp [this]
theorem m_fltK_eq {β : Type} (i : Nat) : ∀ (l : ML) (k : ML → β), m_fltK i l k = k (l.filter (fun q => !(q.1 == i) && !(q.1 + 1 == i && q.2.category == 2)))
  | [], k => rfl
  | (j, w) :: r, k => by
    simp only [m_fltK, List.filter_cons, m_fltK_eq i r, m_beq_eq, m_isL_eq, Nat.succ_eq_add_one]
    cases h1 : (j == i) with
    | true => simp
    | false =>
      cases h2 : (j + 1 == i && w.category == 2) with
      | true => simp
      | false => simp
theorem m_fltK2_eq {β : Type} (i : Nat) : ∀ (l : ML) (k : ML → β), m_fltK2 i l k = k (l.filter (fun q => !(q.1 == i) && (!(q.1 == i + 1) && !(q.1 + 1 == i && q.2.category == 2))))
  | [], k => rfl
  | (j, w) :: r, k => by
    simp only [m_fltK2, List.filter_cons, m_fltK2_eq i r, m_beq_eq, m_isL_eq, Nat.succ_eq_add_one]
    cases h1 : (j == i) with
    | true => simp
    | false =>
      cases h3 : (j == i + 1) with
      | true => simp
      | false =>
        cases h2 : (j + 1 == i && w.category == 2) with
        | true => simp
        | false => simp
theorem m_pickK_eq {β : Type} (l : ML) : ∀ (ks : List Nat) (k : ML → β), m_pickK l ks k = k (m_pick l ks)
  | [], k => rfl
  | i :: r, k => by
    simp only [m_pickK, m_pick]
    cases m_get i l with
    | none => exact m_pickK_eq l r k
    | some v => exact m_pickK_eq l r _
/-- a plain instruction -/
def m_ins (ins : Instr) (nx a k : Nat) (w : Value) (l : ML) (st : List Value) (h : MH) : Option (Nat × ML × List Value × MH) := match ins with
  | .iconst _ => some (nx, l, w :: st, h)
  | .bipush _ => some (nx, l, w :: st, h)
  | .sipush _ => some (nx, l, w :: st, h)
  | .lconst _ => some (nx, l, w :: st, h)
  | .ldc _ => some (nx, l, w :: st, h)
  | .ldc_w _ => some (nx, l, w :: st, h)
  | .ldc2_w _ => some (nx, l, w :: st, h)
  | .aconst_null => some (nx, l, .null :: st, h)
  | .iload _ => match m_get a l with
    | some (.int x) => some (nx, l, .int x :: st, h)
    | _ => none
  | .iload_n _ => match m_get a l with
    | some (.int x) => some (nx, l, .int x :: st, h)
    | _ => none
  | .lload _ => match m_get a l with
    | some (.long x) => some (nx, l, .long x :: st, h)
    | _ => none
  | .lload_n _ => match m_get a l with
    | some (.long x) => some (nx, l, .long x :: st, h)
    | _ => none
  | .aload _ => match m_get a l with
    | some (.ref x) => some (nx, l, .ref x :: st, h)
    | some .null => some (nx, l, .null :: st, h)
    | _ => none
  | .aload_n _ => match m_get a l with
    | some (.ref x) => some (nx, l, .ref x :: st, h)
    | some .null => some (nx, l, .null :: st, h)
    | _ => none
  | .istore _ => match st with
    | .int x :: r => m_fltK a l (fun l1 => some (nx, (a, (.int x)) :: l1, r, h))
    | _ => none
  | .istore_n _ => match st with
    | .int x :: r => m_fltK a l (fun l1 => some (nx, (a, (.int x)) :: l1, r, h))
    | _ => none
  | .lstore _ => match st with
    | .long x :: r => m_fltK2 a l (fun l1 => some (nx, (a, (.long x)) :: l1, r, h))
    | _ => none
  | .lstore_n _ => match st with
    | .long x :: r => m_fltK2 a l (fun l1 => some (nx, (a, (.long x)) :: l1, r, h))
    | _ => none
  | .astore _ => match st with
    | .ref x :: r => m_fltK a l (fun l1 => some (nx, (a, (.ref x)) :: l1, r, h))
    | .null :: r => m_fltK a l (fun l1 => some (nx, (a, .null) :: l1, r, h))
    | _ => none
  | .astore_n _ => match st with
    | .ref x :: r => m_fltK a l (fun l1 => some (nx, (a, (.ref x)) :: l1, r, h))
    | .null :: r => m_fltK a l (fun l1 => some (nx, (a, .null) :: l1, r, h))
    | _ => none
  | .iinc _ _ => match m_get a l, w with
    | some (.int x), .int n => m_fltK a l (fun l1 => some (nx, (a, (.int (x + n))) :: l1, st, h))
    | _, _ => none
  | .iadd => match st with
    | .int y :: .int x :: r => some (nx, l, .int (x + y) :: r, h)
    | _ => none
  | .isub => match st with
    | .int y :: .int x :: r => some (nx, l, .int (x - y) :: r, h)
    | _ => none
  | .imul => match st with
    | .int y :: .int x :: r => some (nx, l, .int (x * y) :: r, h)
    | _ => none
  | .iand => match st with
    | .int y :: .int x :: r => some (nx, l, .int (x &&& y) :: r, h)
    | _ => none
  | .ior => match st with
    | .int y :: .int x :: r => some (nx, l, .int (x ||| y) :: r, h)
    | _ => none
  | .ixor => match st with
    | .int y :: .int x :: r => some (nx, l, .int (x ^^^ y) :: r, h)
    | _ => none
  | .ishl => match st with
    | .int y :: .int x :: r => some (nx, l, .int (x <<< (y &&& 31)) :: r, h)
    | _ => none
  | .ishr => match st with
    | .int y :: .int x :: r => some (nx, l, .int (x >>> (y &&& 31)) :: r, h)
    | _ => none
  | .iushr => match st with
    | .int y :: .int x :: r => some (nx, l, .int (x.toUInt32 >>> (y.toUInt32 &&& Int32.toUInt32 31)).toInt32 :: r, h)
    | _ => none
  | .ineg => match st with
    | .int x :: r => some (nx, l, .int (-x) :: r, h)
    | _ => none
  | .ladd => match st with
    | .long y :: .long x :: r => some (nx, l, .long (x + y) :: r, h)
    | _ => none
  | .lsub => match st with
    | .long y :: .long x :: r => some (nx, l, .long (x - y) :: r, h)
    | _ => none
  | .lmul => match st with
    | .long y :: .long x :: r => some (nx, l, .long (x * y) :: r, h)
    | _ => none
  | .land => match st with
    | .long y :: .long x :: r => some (nx, l, .long (x &&& y) :: r, h)
    | _ => none
  | .lor => match st with
    | .long y :: .long x :: r => some (nx, l, .long (x ||| y) :: r, h)
    | _ => none
  | .lshl => match st with
    | .int y :: .long x :: r => some (nx, l, .long (x <<< (y.toInt64 &&& 63)) :: r, h)
    | _ => none
  | .lcmp => match st with
    | .long y :: .long x :: r => some (nx, l, .int (lg_cmp x y) :: r, h)
    | _ => none
  | .i2l => match st with
    | .int x :: r => some (nx, l, .long x.toInt64 :: r, h)
    | _ => none
  | .l2i => match st with
    | .long x :: r => some (nx, l, .int x.toInt32 :: r, h)
    | _ => none
  | .i2b => match st with
    | .int x :: r => some (nx, l, .int x.toInt8.toInt32 :: r, h)
    | _ => none
  | .i2s => match st with
    | .int x :: r => some (nx, l, .int x.toInt16.toInt32 :: r, h)
    | _ => none
  | .dup => match st with
    | .int x :: r => some (nx, l, .int x :: .int x :: r, h)
    | .ref x :: r => some (nx, l, .ref x :: .ref x :: r, h)
    | _ => none
  | .dup2 => match st with
    | .int y :: .ref x :: r => some (nx, l, .int y :: .ref x :: .int y :: .ref x :: r, h)
    | _ => none
  | .pop2 => match st with
    | .long _ :: r => some (nx, l, r, h)
    | _ => none
  | .goto _ => some (a, l, st, h)
  | .ifnull _ => match st with
    | .null :: r => some (a, l, r, h)
    | .ref _ :: r => some (nx, l, r, h)
    | _ => none
  | .ifnonnull _ => match st with
    | .null :: r => some (nx, l, r, h)
    | .ref _ :: r => some (a, l, r, h)
    | _ => none
  | .getfield _ => match st with
    | .ref i :: r => match h[i]? with
      | some (.inr (ci, fs)) => match fs[k]? with
        | some v => bif Nat.beq ci a && Nat.ble 5 i then some (nx, l, v :: r, h) else none
        | none => none
      | _ => none
    | _ => none
  | .putfield _ => match st with
    | v :: .ref i :: r => match h[i]? with
      | some (.inr (ci, fs)) => bif Nat.beq ci a && Nat.ble 5 i && Nat.blt k fs.length && m_fit w v then some (nx, l, r, h.set i (.inr (ci, fs.set k v))) else none
      | _ => none
    | _ => none
  | .getstatic _ => some (nx, l, .ref a :: st, h)
  | .arraylength => match st with
    | .ref i :: r => match h[i]? with
      | some (.inl (_, n, _)) => some (nx, l, .int (Int32.ofNat n) :: r, h)
      | _ => none
    | _ => none
  | _ => none
/-- which array types there are -/
def m_tys (cA : FieldType → ClassId) : List (ClassId × FieldType) := [(cA .int, .int), (cA .long, .long), (cA (.object "ChairOld$Piece"), .object "ChairOld$Piece")]
def m_cst (α : Nat → Nat) (A : Nat → Prop) (s : State) (H : Heap) (h : MH) : Prop := 5 ≤ h.length ∧ (∀ i, i < 5 → ∃ (n : Nat) (f : Nat → Int32), h[i]? = some (.inl (.int, n, .inl f)) ∧ va_T .int (α i) n (fun j => .int (f j)) A s H) ∧ ∀ (i : Nat) (q : String × String × String), m_stat[i]? = some q → va_Z q.1 q.2.1 q.2.2 (.ref (α i)) A s H
/-- an array's type is one of the three, its contents of that kind -/
def m_tyc (c : MCell) : Prop := match c with
  | .inl (ty, _, x) => (ty = .int ∧ ∃ f, x = .inl f) ∨ (ty = .long ∧ ∃ f, x = .inr (.inl f)) ∨ (ty = .object "ChairOld$Piece" ∧ ∃ f, x = .inr (.inr (.inr (.inr f))))
  | .inr _ => True
def MR (s : State) (A : Nat → Prop) (D : va_G) (cA : FieldType → ClassId) (α : Nat → Nat) (h : MH) (H : Heap) (locs : List Loc) : Prop :=
  va_K D m_cls (m_tys cA) s ∧ va_P D m_cls (m_ws α cA h) H ∧ va_D A (m_ws α cA h) ∧ va_S A s.heap H locs ∧ (∀ q, s.heap.size ≤ q → A q) ∧ m_cst α A s s.heap h ∧ m_okh h ∧ (∀ (k : Nat) (c : MCell), h[k]? = some c → m_tyc c)
end
section
theorem m_same (h : MH) : h.length = h.length ∧ ∀ i, i < 5 → h[i]? = h[i]? := ⟨rfl, fun _ _ => rfl⟩
theorem m_set_same {h : MH} {i : Nat} {c : MCell} (h5 : 5 ≤ i) : (h.set i c).length = h.length ∧ ∀ j, j < 5 → (h.set i c)[j]? = h[j]? := ⟨List.length_set .., fun j hj => List.getElem?_set_ne (by omega)⟩
theorem m_fit_spec {ty : FieldType} {w v : Value} (hd : m_kind ty w = true) (hf : m_fit w v = true) (α : Nat → Nat) : narrow ty (m_tv α v) = m_tv α v ∧ fits ty (m_tv α v) = true := by
  cases w <;> cases v <;> cases ty <;> first
    | (simp [m_kind] at hd; done)
    | (simp [m_fit] at hf; done)
    | exact ⟨rfl, rfl⟩
    | (simp only [m_kind, beq_iff_eq] at hd
       subst hd
       simp only [m_fit, beq_self_eq_true, cond_true, Bool.or_eq_true, beq_iff_eq] at hf
       rcases hf with rfl | rfl <;> exact ⟨rfl, rfl⟩)
theorem m_set_cst {α : Nat → Nat} {A : Nat → Prop} {s : State} {H : Heap} {h : MH} (hc : m_cst α A s H h) {i : Nat} (h5 : 5 ≤ i) (d : MCell) : m_cst α A s H (h.set i d) := by
  obtain ⟨a1, a2, a3⟩ := hc
  refine ⟨by rw [List.length_set]; exact a1, fun j hj => ?_, a3⟩
  obtain ⟨n, f, b1, b2⟩ := a2 j hj
  exact ⟨n, f, by rw [List.getElem?_set_ne (by omega)]; exact b1, b2⟩
theorem m_set_tyc {h : MH} (ht : ∀ (k : Nat) (c : MCell), h[k]? = some c → m_tyc c) {i : Nat} {d : MCell} (hd : m_tyc d) : ∀ (k : Nat) (c : MCell), (h.set i d)[k]? = some c → m_tyc c := by
  intro k c hk
  by_cases e : i = k
  · subst e
    by_cases hl : i < h.length
    · rw [List.getElem?_set_self hl] at hk
      cases hk
      exact hd
    · rw [List.set_eq_of_length_le (by omega)] at hk
      exact ht _ _ hk
  · rw [List.getElem?_set_ne e] at hk
    exact ht k c hk
theorem m_set_R {s : State} {A : Nat → Prop} {D : va_G} {cA : FieldType → ClassId} {α : Nat → Nat} {h : MH} {H H1 : Heap} {locs locs1 : List Loc} {i : Nat} {d : MCell} (hR : MR s A D cA α h H locs) (h5 : 5 ≤ i) (hok : m_okc h.length d) (hty : m_tyc d)
    (q1 : va_P D m_cls ((m_ws α cA h).set (i - 5) (α i, m_te α cA d)) H1) (q2 : va_D A ((m_ws α cA h).set (i - 5) (α i, m_te α cA d))) (q3 : va_S A s.heap H1 locs1) : MR s A D cA α (h.set i d) H1 locs1 := by
  obtain ⟨a1, a2, a3, a4, a5, a6, a7, a8⟩ := hR
  rw [← m_ws_set h5] at q1 q2
  exact ⟨a1, q1, q2, q3, a5, m_set_cst a6 h5 d, m_okh_set a7 hok, m_set_tyc a8 hty⟩
theorem m_put_ok {s : State} {A : Nat → Prop} {D : va_G} {cA : FieldType → ClassId} {α : Nat → Nat} {h : MH} {H H1 : Heap} {locs locs1 : List Loc} {i ci k : Nat} {fs : List Value} {v : Value} (hR : MR s A D cA α h H locs) (h5 : 5 ≤ i) (hi : h[i]? = some (.inr (ci, fs))) (hv : m_okv h.length v)
    (q1 : va_P D m_cls ((m_ws α cA h).set (i - 5) (α i, .inr (ci, (fs.map (m_tv α)).set k (m_tv α v)))) H1) (q2 : va_D A ((m_ws α cA h).set (i - 5) (α i, .inr (ci, (fs.map (m_tv α)).set k (m_tv α v))))) (q3 : va_S A s.heap H1 locs1) : MR s A D cA α (h.set i (.inr (ci, fs.set k v))) H1 locs1 := by
  have e : (fs.map (m_tv α)).set k (m_tv α v) = (fs.set k v).map (m_tv α) := by rw [List.map_set]
  rw [e] at q1 q2
  refine m_set_R hR h5 ?_ trivial q1 q2 q3
  intro z hz
  rcases List.mem_or_eq_of_mem_set hz with hz | rfl
  · exact hR.2.2.2.2.2.2.1 i _ hi z hz
  · exact hv
section MI
variable {p : Program} {la : Launch} {e : Env} {R : Room} {s : State} {m : MethodId} {args : Array Value} {below : List Frame} {meth : Method} {c : Code} {H : Heap} {locs : List Loc} {cells slots : Nat} {Q : State → Prop}
variable {A : Nat → Prop} {D : va_G} {cA : FieldType → ClassId} {α : Nat → Nat} {ls : Array Slot}
theorem m_cells {h : MH} {i : Nat} {d : MCell} (hR : MR s A D cA α h H locs) (h5 : 5 ≤ i) (hc : h[i]? = some d) : (m_ws α cA h)[i - 5]? = some (α i, m_te α cA d) := m_ws_get h5 hc
theorem m_cst_ne {h : MH} {i ci : Nat} {fs : List Value} (hR : MR s A D cA α h H locs) (hc : h[i]? = some (.inr (ci, fs))) : 5 ≤ i := by
  refine Nat.le_of_not_lt fun hi => ?_
  obtain ⟨n, f, h1, -⟩ := hR.2.2.2.2.2.1.2.1 i hi
  rw [hc] at h1
  cases h1
set_option maxHeartbeats 4000000 in
/-- what a plain instruction does, the machine does -/
theorem m_ins_ok {y0 : MethodName} {b : ByteArray} {maxL pc nx a k pos : Nat} {ins : Instr} {y : MethodName} {w : Value} {l l' : ML} {st st' : List Value} {h h' : MH} {pc' : Nat}
    (hx : p.tables.exec = Jvm.exec) (hb : c.code = b) (hown : s.vm.findClass y0.cls = some m.cls) (hts : ∀ w ∈ m_good, w.before args s = true) (hin : y0.name = "<init>" → meth.name = "<init>")
    (he : m_eok y0 b maxL (pc, ins, nx, a, k, pos, y, w) = true) (hs : m_ins ins nx a k w l st h = some (pc', l', st', h'))
    (hR : MR s A D cA α h H locs) (hl : lv_has ls maxL (m_tl α l)) (hol : m_okl h.length l) (hos : m_oks h.length st)
    (K : ∀ (H' : Heap) (locs' : List Loc) (ls' : Array Slot), MR s A D cA α h' H' locs' → lv_has ls' maxL (m_tl α l') → m_okl h'.length l' → m_oks h'.length st' → (h'.length = h.length ∧ ∀ i, i < 5 → h'[i]? = h[i]?) → W p la e R s m args below meth c H' locs' cells slots Q (F0 m pc' ls' (st'.map (m_tv α)))) :
    W p la e R s m args below meth c H locs cells slots Q (F0 m pc ls (st.map (m_tv α))) := by
  obtain ⟨hd, hnx, hk⟩ := m_eok_spec he
  cases ins with
  | iconst n =>
    simp only [m_lok, decide_eq_true_eq] at hk
    subst hk
    cases hs
    simp only [m_len] at hd hnx
    subst hnx
    exact lv_iconst hx hb hd rfl (K H locs ls hR hl hol (m_oks_cons (m_ok_int _ _) hos) (m_same h))
  | bipush n =>
    simp only [m_lok, decide_eq_true_eq] at hk
    subst hk
    cases hs
    simp only [m_len] at hd hnx
    subst hnx
    exact lv_bipush hx hb hd rfl (K H locs ls hR hl hol (m_oks_cons (m_ok_int _ _) hos) (m_same h))
  | sipush n =>
    simp only [m_lok, decide_eq_true_eq] at hk
    subst hk
    cases hs
    simp only [m_len] at hd hnx
    subst hnx
    exact lv_sipush hx hb hd rfl (K H locs ls hR hl hol (m_oks_cons (m_ok_int _ _) hos) (m_same h))
  | lconst n =>
    simp only [m_lok, decide_eq_true_eq] at hk
    subst hk
    cases hs
    simp only [m_len] at hd hnx
    subst hnx
    exact lv_lconst hx hb hd rfl (K H locs ls hR hl hol (m_oks_cons (m_ok_long _ _) hos) (m_same h))
  | ldc n =>
    cases w with
    | int x =>
      simp only [m_lok] at hk
      cases hs
      simp only [m_len] at hd hnx
      subst hnx
      exact lv_ldc hx hb hown (hts _ (m_wd_spec hk)) hd (K H locs ls hR hl hol (m_oks_cons (m_ok_int _ _) hos) (m_same h))
    | _ => simp [m_lok] at hk
  | ldc_w n =>
    cases w with
    | int x =>
      simp only [m_lok] at hk
      cases hs
      simp only [m_len] at hd hnx
      subst hnx
      exact lv_ldcw hx hb hown (hts _ (m_wd_spec hk)) hd (K H locs ls hR hl hol (m_oks_cons (m_ok_int _ _) hos) (m_same h))
    | _ => simp [m_lok] at hk
  | ldc2_w n =>
    cases w with
    | long x =>
      simp only [m_lok] at hk
      cases hs
      simp only [m_len] at hd hnx
      subst hnx
      exact lv_ldc2 hx hb hown (hts _ (m_wd_spec hk)) hd (K H locs ls hR hl hol (m_oks_cons (m_ok_long _ _) hos) (m_same h))
    | _ => simp [m_lok] at hk
  | aconst_null =>
    cases hs
    simp only [m_len] at hd hnx
    subst hnx
    exact lv_null hx hb hd (K H locs ls hR hl hol (m_oks_cons (m_ok_null _) hos) (m_same h))
  | iload n =>
    simp only [m_lok, beq_iff_eq] at hk
    simp only [m_ins] at hs
    split at hs
    · next x hg =>
      cases hs
      simp only [m_len] at hd hnx
      subst hnx
      have hq := m_get_at hl hg
      subst hk
      exact lv_iload hx hb hd hq (K H locs ls hR hl hol (m_oks_cons (m_ok_int _ _) hos) (m_same h))
    · cases hs
  | iload_n n =>
    simp only [m_lok, beq_iff_eq] at hk
    simp only [m_ins] at hs
    split at hs
    · next x hg =>
      cases hs
      simp only [m_len] at hd hnx
      subst hnx
      have hq := m_get_at hl hg
      exact lv_iload_n hx hb hd hk.symm hq (K H locs ls hR hl hol (m_oks_cons (m_ok_int _ _) hos) (m_same h))
    · cases hs
  | lload n =>
    simp only [m_lok, beq_iff_eq] at hk
    simp only [m_ins] at hs
    split at hs
    · next x hg =>
      cases hs
      simp only [m_len] at hd hnx
      subst hnx
      have hq := m_get_at hl hg
      subst hk
      exact lv_lload hx hb hd hq (K H locs ls hR hl hol (m_oks_cons (m_ok_long _ _) hos) (m_same h))
    · cases hs
  | lload_n n =>
    simp only [m_lok, beq_iff_eq] at hk
    simp only [m_ins] at hs
    split at hs
    · next x hg =>
      cases hs
      simp only [m_len] at hd hnx
      subst hnx
      have hq := m_get_at hl hg
      exact lv_lload_n hx hb hd hk.symm hq (K H locs ls hR hl hol (m_oks_cons (m_ok_long _ _) hos) (m_same h))
    · cases hs
  | aload n =>
    simp only [m_lok, beq_iff_eq] at hk
    simp only [m_ins] at hs
    split at hs
    · next x hg =>
      cases hs
      simp only [m_len] at hd hnx
      subst hnx
      have hq := m_get_at hl hg
      have ho := m_get_ok hol hg
      subst hk
      exact lv_aload hx hb hd hq (K H locs ls hR hl hol (m_oks_cons ho hos) (m_same h))
    · next hg =>
      cases hs
      simp only [m_len] at hd hnx
      subst hnx
      have hq := m_get_at hl hg
      subst hk
      exact lv_aloadN hx hb hd hq (K H locs ls hR hl hol (m_oks_cons (m_ok_null _) hos) (m_same h))
    · cases hs
  | aload_n n =>
    simp only [m_lok, beq_iff_eq] at hk
    simp only [m_ins] at hs
    split at hs
    · next x hg =>
      cases hs
      simp only [m_len] at hd hnx
      subst hnx
      have hq := m_get_at hl hg
      have ho := m_get_ok hol hg
      exact lv_aload_n hx hb hd hk.symm hq (K H locs ls hR hl hol (m_oks_cons ho hos) (m_same h))
    · next hg =>
      cases hs
      simp only [m_len] at hd hnx
      subst hnx
      have hq := m_get_at hl hg
      exact lv_aload_nN hx hb hd hk.symm hq (K H locs ls hR hl hol (m_oks_cons (m_ok_null _) hos) (m_same h))
    · cases hs
  | istore n =>
    simp only [m_lok, Bool.and_eq_true, beq_iff_eq, decide_eq_true_eq] at hk
    simp only [m_ins, m_fltK_eq, m_fltK2_eq] at hs
    split at hs
    · next x r =>
      cases hs
      simp only [m_len] at hd hnx
      subst hnx
      obtain ⟨hk1, hk2⟩ := hk
      subst hk1
      exact lv_istore hx hb hd hl hk2 (m_tl_set1 α _ (.int x) l) (fun ls' hl' => K H locs ls' hR hl' (m_okl_set1 hol (m_ok_int _ _)) (m_oks_tail hos) (m_same h))
    · cases hs
  | istore_n n =>
    simp only [m_lok, Bool.and_eq_true, beq_iff_eq, decide_eq_true_eq] at hk
    simp only [m_ins, m_fltK_eq, m_fltK2_eq] at hs
    split at hs
    · next x r =>
      cases hs
      simp only [m_len] at hd hnx
      subst hnx
      exact lv_istore_n hx hb hd hk.1.symm hl hk.2 (m_tl_set1 α _ (.int x) l) (fun ls' hl' => K H locs ls' hR hl' (m_okl_set1 hol (m_ok_int _ _)) (m_oks_tail hos) (m_same h))
    · cases hs
  | lstore n =>
    simp only [m_lok, Bool.and_eq_true, beq_iff_eq, decide_eq_true_eq] at hk
    simp only [m_ins, m_fltK_eq, m_fltK2_eq] at hs
    split at hs
    · next x r =>
      cases hs
      simp only [m_len] at hd hnx
      subst hnx
      obtain ⟨hk1, hk2⟩ := hk
      subst hk1
      exact lv_lstore hx hb hd hl hk2 (m_tl_set2 α _ (.long x) l) (fun ls' hl' => K H locs ls' hR hl' (m_okl_set2 hol (m_ok_long _ _)) (m_oks_tail hos) (m_same h))
    · cases hs
  | lstore_n n =>
    simp only [m_lok, Bool.and_eq_true, beq_iff_eq, decide_eq_true_eq] at hk
    simp only [m_ins, m_fltK_eq, m_fltK2_eq] at hs
    split at hs
    · next x r =>
      cases hs
      simp only [m_len] at hd hnx
      subst hnx
      exact lv_lstore_n hx hb hd hk.1.symm hl hk.2 (m_tl_set2 α _ (.long x) l) (fun ls' hl' => K H locs ls' hR hl' (m_okl_set2 hol (m_ok_long _ _)) (m_oks_tail hos) (m_same h))
    · cases hs
  | astore n =>
    simp only [m_lok, Bool.and_eq_true, beq_iff_eq, decide_eq_true_eq] at hk
    simp only [m_ins, m_fltK_eq, m_fltK2_eq] at hs
    split at hs
    · next x r =>
      cases hs
      simp only [m_len] at hd hnx
      subst hnx
      obtain ⟨hk1, hk2⟩ := hk
      subst hk1
      exact lv_astore hx hb hd hl hk2 (m_tl_set1 α _ (.ref x) l) (fun ls' hl' => K H locs ls' hR hl' (m_okl_set1 hol (m_oks_head hos)) (m_oks_tail hos) (m_same h))
    · next r =>
      cases hs
      simp only [m_len] at hd hnx
      subst hnx
      obtain ⟨hk1, hk2⟩ := hk
      subst hk1
      exact lv_astoreN hx hb hd hl hk2 (m_tl_set1 α _ .null l) (fun ls' hl' => K H locs ls' hR hl' (m_okl_set1 hol (m_ok_null _)) (m_oks_tail hos) (m_same h))
    · cases hs
  | astore_n n =>
    simp only [m_lok, Bool.and_eq_true, beq_iff_eq, decide_eq_true_eq] at hk
    simp only [m_ins, m_fltK_eq, m_fltK2_eq] at hs
    split at hs
    · next x r =>
      cases hs
      simp only [m_len] at hd hnx
      subst hnx
      exact lv_astore_n hx hb hd hk.1.symm hl hk.2 (m_tl_set1 α _ (.ref x) l) (fun ls' hl' => K H locs ls' hR hl' (m_okl_set1 hol (m_oks_head hos)) (m_oks_tail hos) (m_same h))
    · next r =>
      cases hs
      simp only [m_len] at hd hnx
      subst hnx
      exact lv_astore_nN hx hb hd hk.1.symm hl hk.2 (m_tl_set1 α _ .null l) (fun ls' hl' => K H locs ls' hR hl' (m_okl_set1 hol (m_ok_null _)) (m_oks_tail hos) (m_same h))
    · cases hs
  | iinc i n =>
    simp only [m_lok, Bool.and_eq_true, beq_iff_eq, decide_eq_true_eq] at hk
    obtain ⟨⟨hk1, hk2⟩, hk3⟩ := hk
    subst hk3
    subst hk1
    simp only [m_ins, m_fltK_eq] at hs
    split at hs
    · next x n2 hg hn2 =>
      cases hn2
      cases hs
      simp only [m_len] at hd hnx
      subst hnx
      obtain ⟨j, hj⟩ := List.getElem?_of_mem (List.mem_map.mpr ⟨(a, Value.int x), m_get_mem hg, rfl⟩ : (a, m_tv α (.int x)) ∈ m_tl α l)
      exact lv_iinc hx hb hd hl hj rfl hk2 (m_tl_set1 α a (.int (x + Int32.ofInt n)) l) (fun ls' hl' => K H locs ls' hR hl' (m_okl_set1 hol (m_ok_int _ _)) hos (m_same h))
    · cases hs
  | iadd =>
    simp only [m_ins] at hs
    split at hs
    · next y2 x2 r =>
      cases hs
      simp only [m_len] at hd hnx
      subst hnx
      exact lv_iadd hx hb hd (K H locs ls hR hl hol (m_oks_cons (m_ok_int _ _) (m_oks_tail (m_oks_tail hos))) (m_same h))
    · cases hs
  | isub =>
    simp only [m_ins] at hs
    split at hs
    · next y2 x2 r =>
      cases hs
      simp only [m_len] at hd hnx
      subst hnx
      exact lv_isub hx hb hd (K H locs ls hR hl hol (m_oks_cons (m_ok_int _ _) (m_oks_tail (m_oks_tail hos))) (m_same h))
    · cases hs
  | imul =>
    simp only [m_ins] at hs
    split at hs
    · next y2 x2 r =>
      cases hs
      simp only [m_len] at hd hnx
      subst hnx
      exact lv_imul hx hb hd (K H locs ls hR hl hol (m_oks_cons (m_ok_int _ _) (m_oks_tail (m_oks_tail hos))) (m_same h))
    · cases hs
  | iand =>
    simp only [m_ins] at hs
    split at hs
    · next y2 x2 r =>
      cases hs
      simp only [m_len] at hd hnx
      subst hnx
      exact lv_iand hx hb hd (K H locs ls hR hl hol (m_oks_cons (m_ok_int _ _) (m_oks_tail (m_oks_tail hos))) (m_same h))
    · cases hs
  | ior =>
    simp only [m_ins] at hs
    split at hs
    · next y2 x2 r =>
      cases hs
      simp only [m_len] at hd hnx
      subst hnx
      exact lv_ior hx hb hd (K H locs ls hR hl hol (m_oks_cons (m_ok_int _ _) (m_oks_tail (m_oks_tail hos))) (m_same h))
    · cases hs
  | ixor =>
    simp only [m_ins] at hs
    split at hs
    · next y2 x2 r =>
      cases hs
      simp only [m_len] at hd hnx
      subst hnx
      exact lv_ixor hx hb hd (K H locs ls hR hl hol (m_oks_cons (m_ok_int _ _) (m_oks_tail (m_oks_tail hos))) (m_same h))
    · cases hs
  | ishl =>
    simp only [m_ins] at hs
    split at hs
    · next y2 x2 r =>
      cases hs
      simp only [m_len] at hd hnx
      subst hnx
      exact lv_ishl hx hb hd (K H locs ls hR hl hol (m_oks_cons (m_ok_int _ _) (m_oks_tail (m_oks_tail hos))) (m_same h))
    · cases hs
  | ishr =>
    simp only [m_ins] at hs
    split at hs
    · next y2 x2 r =>
      cases hs
      simp only [m_len] at hd hnx
      subst hnx
      exact lv_ishr hx hb hd (K H locs ls hR hl hol (m_oks_cons (m_ok_int _ _) (m_oks_tail (m_oks_tail hos))) (m_same h))
    · cases hs
  | iushr =>
    simp only [m_ins] at hs
    split at hs
    · next y2 x2 r =>
      cases hs
      simp only [m_len] at hd hnx
      subst hnx
      exact lv_iushr hx hb hd rfl (K H locs ls hR hl hol (m_oks_cons (m_ok_int _ _) (m_oks_tail (m_oks_tail hos))) (m_same h))
    · cases hs
  | ladd =>
    simp only [m_ins] at hs
    split at hs
    · next y2 x2 r =>
      cases hs
      simp only [m_len] at hd hnx
      subst hnx
      exact lv_ladd hx hb hd (K H locs ls hR hl hol (m_oks_cons (m_ok_long _ _) (m_oks_tail (m_oks_tail hos))) (m_same h))
    · cases hs
  | lsub =>
    simp only [m_ins] at hs
    split at hs
    · next y2 x2 r =>
      cases hs
      simp only [m_len] at hd hnx
      subst hnx
      exact lv_lsub hx hb hd (K H locs ls hR hl hol (m_oks_cons (m_ok_long _ _) (m_oks_tail (m_oks_tail hos))) (m_same h))
    · cases hs
  | lmul =>
    simp only [m_ins] at hs
    split at hs
    · next y2 x2 r =>
      cases hs
      simp only [m_len] at hd hnx
      subst hnx
      exact lv_lmul hx hb hd (K H locs ls hR hl hol (m_oks_cons (m_ok_long _ _) (m_oks_tail (m_oks_tail hos))) (m_same h))
    · cases hs
  | land =>
    simp only [m_ins] at hs
    split at hs
    · next y2 x2 r =>
      cases hs
      simp only [m_len] at hd hnx
      subst hnx
      exact lv_land hx hb hd (K H locs ls hR hl hol (m_oks_cons (m_ok_long _ _) (m_oks_tail (m_oks_tail hos))) (m_same h))
    · cases hs
  | lor =>
    simp only [m_ins] at hs
    split at hs
    · next y2 x2 r =>
      cases hs
      simp only [m_len] at hd hnx
      subst hnx
      exact lv_lor hx hb hd (K H locs ls hR hl hol (m_oks_cons (m_ok_long _ _) (m_oks_tail (m_oks_tail hos))) (m_same h))
    · cases hs
  | lshl =>
    simp only [m_ins] at hs
    split at hs
    · next y2 x2 r =>
      cases hs
      simp only [m_len] at hd hnx
      subst hnx
      exact lv_lshl hx hb hd rfl (K H locs ls hR hl hol (m_oks_cons (m_ok_long _ _) (m_oks_tail (m_oks_tail hos))) (m_same h))
    · cases hs
  | lcmp =>
    simp only [m_ins] at hs
    split at hs
    · next y2 x2 r =>
      cases hs
      simp only [m_len] at hd hnx
      subst hnx
      exact W.lcmp hx hb hd (K H locs ls hR hl hol (m_oks_cons (m_ok_int _ _) (m_oks_tail (m_oks_tail hos))) (m_same h))
    · cases hs
  | ineg =>
    simp only [m_ins] at hs
    split at hs
    · next x2 r =>
      cases hs
      simp only [m_len] at hd hnx
      subst hnx
      exact lv_ineg hx hb hd (K H locs ls hR hl hol (m_oks_cons (m_ok_int _ _) (m_oks_tail hos)) (m_same h))
    · cases hs
  | i2l =>
    simp only [m_ins] at hs
    split at hs
    · next x2 r =>
      cases hs
      simp only [m_len] at hd hnx
      subst hnx
      exact lv_i2l hx hb hd rfl (K H locs ls hR hl hol (m_oks_cons (m_ok_long _ _) (m_oks_tail hos)) (m_same h))
    · cases hs
  | l2i =>
    simp only [m_ins] at hs
    split at hs
    · next x2 r =>
      cases hs
      simp only [m_len] at hd hnx
      subst hnx
      exact lv_l2i hx hb hd rfl (K H locs ls hR hl hol (m_oks_cons (m_ok_int _ _) (m_oks_tail hos)) (m_same h))
    · cases hs
  | i2b =>
    simp only [m_ins] at hs
    split at hs
    · next x2 r =>
      cases hs
      simp only [m_len] at hd hnx
      subst hnx
      exact lv_i2b hx hb hd rfl (K H locs ls hR hl hol (m_oks_cons (m_ok_int _ _) (m_oks_tail hos)) (m_same h))
    · cases hs
  | i2s =>
    simp only [m_ins] at hs
    split at hs
    · next x2 r =>
      cases hs
      simp only [m_len] at hd hnx
      subst hnx
      exact lv_i2s hx hb hd rfl (K H locs ls hR hl hol (m_oks_cons (m_ok_int _ _) (m_oks_tail hos)) (m_same h))
    · cases hs
  | dup =>
    simp only [m_ins] at hs
    split at hs
    · next x2 r =>
      cases hs
      simp only [m_len] at hd hnx
      subst hnx
      exact lv_dup hx hb hd rfl (K H locs ls hR hl hol (m_oks_cons (m_oks_head hos) hos) (m_same h))
    · next x2 r =>
      cases hs
      simp only [m_len] at hd hnx
      subst hnx
      exact lv_dup hx hb hd rfl (K H locs ls hR hl hol (m_oks_cons (m_oks_head hos) hos) (m_same h))
    · cases hs
  | dup2 =>
    simp only [m_ins] at hs
    split at hs
    · next y2 x2 r =>
      cases hs
      simp only [m_len] at hd hnx
      subst hnx
      exact lv_dup2_11 hx hb hd rfl rfl (K H locs ls hR hl hol (m_oks_cons (m_oks_head hos) (m_oks_cons (m_oks_head (m_oks_tail hos)) hos)) (m_same h))
    · cases hs
  | pop2 =>
    simp only [m_ins] at hs
    split at hs
    · next x2 r =>
      cases hs
      simp only [m_len] at hd hnx
      subst hnx
      exact lv_pop2_2 hx hb hd rfl (K H locs ls hR hl hol (m_oks_tail hos) (m_same h))
    · cases hs
  | goto off =>
    simp only [m_lok, decide_eq_true_eq] at hk
    cases hs
    simp only [m_len] at hd hnx
    exact lv_goto hx hb hd hk (K H locs ls hR hl hol hos (m_same h))
  | ifnull off =>
    simp only [m_lok, decide_eq_true_eq] at hk
    simp only [m_ins] at hs
    simp only [m_len] at hd hnx
    split at hs
    · next r =>
      cases hs
      exact lv_ifnullN hx hb hd hk (K H locs ls hR hl hol (m_oks_tail hos) (m_same h))
    · next x2 r =>
      cases hs
      subst hnx
      exact lv_ifnull hx hb hd (K H locs ls hR hl hol (m_oks_tail hos) (m_same h))
    · cases hs
  | ifnonnull off =>
    simp only [m_lok, decide_eq_true_eq] at hk
    simp only [m_ins] at hs
    simp only [m_len] at hd hnx
    split at hs
    · next r =>
      cases hs
      subst hnx
      exact lv_ifnonnullN hx hb hd (K H locs ls hR hl hol (m_oks_tail hos) (m_same h))
    · next x2 r =>
      cases hs
      exact lv_ifnonnull hx hb hd hk (K H locs ls hR hl hol (m_oks_tail hos) (m_same h))
    · cases hs
  | getfield idx =>
    simp only [m_ins] at hs
    split at hs
    · next i r =>
      split at hs
      · next ci fs hi =>
        split at hs
        · next v hv =>
          cases hbb : (Nat.beq ci a && Nat.ble 5 i) with
          | false => rw [hbb] at hs; cases hs
          | true =>
            rw [hbb] at hs
            cases hs
            simp only [Bool.and_eq_true] at hbb
            have e1 := Nat.eq_of_beq_eq_true hbb.1
            have h5 : 5 ≤ i := Nat.le_of_ble_eq_true hbb.2
            subst e1
            simp only [m_lok] at hk
            split at hk
            · next C T N hcl =>
              simp only [Bool.and_eq_true, decide_eq_true_eq] at hk
              obtain ⟨hkN, hkl⟩ := hk
              have hck := m_cok_at _ _ hcl
              simp only [m_len] at hd hnx
              subst hnx
              exact va_get hx hb hts hck.1 hown hR.1 hR.2.1 (i - 5) (m_ws_get h5 hi) hcl k hkN (hts _ (m_wd_spec hkl)) (fun _ z => z) (by simp [hv]) hd (K H locs ls hR hl hol (m_oks_cons (hR.2.2.2.2.2.2.1 i _ hi v (List.mem_of_getElem? hv)) (m_oks_tail hos)) (m_same h))
            · cases hk
        · cases hs
      · cases hs
    · cases hs
  | getstatic idx =>
    cases hs
    simp only [m_len] at hd hnx
    subst hnx
    simp only [m_lok] at hk
    split at hk
    · next C n2 d2 hst =>
      obtain ⟨hc5, hcT, hcZ⟩ := hR.2.2.2.2.2.1
      have hlt : a < 5 := Nat.lt_of_lt_of_le (List.getElem?_eq_some_iff.mp hst).1 (by decide)
      exact va_gets hx hb (hcZ a _ hst) hR.2.2.2.1 hown (hts _ (m_wd_spec hk)) (fun _ z => z) hd (K H locs ls hR hl hol (m_oks_cons (fun i2 e2 => by cases e2; exact Nat.lt_of_lt_of_le hlt hc5) hos) (m_same h))
    · cases hk
  | arraylength =>
    simp only [m_ins] at hs
    simp only [m_len] at hd hnx
    split at hs
    · next i r =>
      split at hs
      · next ty n2 x2 hi =>
        cases hs
        subst hnx
        have kk := K H locs ls hR hl hol (m_oks_cons (m_ok_int _ (Int32.ofNat n2)) (m_oks_tail hos)) (m_same h)
        by_cases h5 : 5 ≤ i
        · rcases hR.2.2.2.2.2.2.2 i _ hi with ⟨e1, -⟩ | ⟨e1, -⟩ | ⟨e1, -⟩
          · subst e1
            exact va_alen hx hb hR.1 hR.2.1 (i - 5) 0 (m_ws_get h5 hi) rfl rfl hd kk
          · subst e1
            exact va_alen hx hb hR.1 hR.2.1 (i - 5) 1 (m_ws_get h5 hi) rfl rfl hd kk
          · subst e1
            exact va_alen hx hb hR.1 hR.2.1 (i - 5) 2 (m_ws_get h5 hi) rfl rfl hd kk
        · obtain ⟨n3, f3, h1, hT⟩ := hR.2.2.2.2.2.1.2.1 i (Nat.lt_of_not_le h5)
          rw [hi] at h1
          cases h1
          exact va_tlen hx hb hT hR.2.2.2.1 rfl hd kk
      · cases hs
    · cases hs
  | putfield idx =>
    simp only [m_ins] at hs
    split at hs
    · next v i r =>
      split at hs
      · next ci fs hi =>
        cases hbb : (Nat.beq ci a && Nat.ble 5 i && Nat.blt k fs.length && m_fit w v) with
        | false => rw [hbb] at hs; cases hs
        | true =>
          rw [hbb] at hs
          cases hs
          simp only [Bool.and_eq_true] at hbb
          obtain ⟨⟨⟨b1, b2⟩, b3⟩, b4⟩ := hbb
          have e1 := Nat.eq_of_beq_eq_true b1
          have h5 : 5 ≤ i := Nat.le_of_ble_eq_true b2
          have hkl : k < fs.length := Nat.le_of_ble_eq_true b3
          subst e1
          simp only [m_lok] at hk
          split at hk
          · next C T N hcl =>
            simp only [Bool.and_eq_true, decide_eq_true_eq] at hk
            obtain ⟨⟨⟨hkN, hkw⟩, hkd⟩, hkf⟩ := hk
            obtain ⟨c1, c2, c3, c4, c5, c6⟩ := m_cok_at _ _ hcl
            obtain ⟨f1, f2⟩ := m_fit_spec hkd b4 α
            simp only [m_len] at hd hnx
            subst hnx
            have hRn := fun (H1 : Heap) (locs1 : List Loc) (q1 : va_P D m_cls ((m_ws α cA h).set (i - 5) (α i, .inr (ci, (fs.map (m_tv α)).set k (m_tv α v)))) H1) (q2 : va_D A ((m_ws α cA h).set (i - 5) (α i, .inr (ci, (fs.map (m_tv α)).set k (m_tv α v))))) (q3 : va_S A s.heap H1 locs1) => m_put_ok hR h5 hi (m_oks_head hos) q1 q2 q3
            cases hfn : (T k).2.2.2 with
            | false =>
              exact va_put hx hb hts c1 (m_ty0 T) c3 c2 hown hR.1 hR.2.1 hR.2.2.1 hR.2.2.2.1 (i - 5) (m_ws_get h5 hi) hcl k hkN (hts _ (m_wd_spec hkw)) (fun _ z => z) hfn (c3 k hkN) f1 f2 (by simpa using hkl) hd (fun H1 locs1 q1 q2 q3 => K H1 locs1 ls (hRn H1 locs1 q1 q2 q3) hl (by rw [List.length_set]; exact hol) (by rw [List.length_set]; exact m_oks_tail (m_oks_tail hos)) (m_set_same h5))
            | true =>
              rw [hfn] at hkf
              simp only [Bool.or_eq_true, Bool.and_eq_true, beq_iff_eq] at hkf
              rcases hkf with z | ⟨z1, z2⟩
              · cases z
              · exact va_putF hx hb hts c1 (m_ty0 T) c3 c2 hown hR.1 hR.2.1 hR.2.2.1 hR.2.2.2.1 (i - 5) (m_ws_get h5 hi) hcl k hkN (hts _ (m_wd_spec hkw)) (fun _ z => z) hfn (hin z1) z2 (c3 k hkN) f1 f2 (by simpa using hkl) hd (fun H1 locs1 q1 q2 q3 => K H1 locs1 ls (hRn H1 locs1 q1 q2 q3) hl (by rw [List.length_set]; exact hol) (by rw [List.length_set]; exact m_oks_tail (m_oks_tail hos)) (m_set_same h5))
          · cases hk
      · cases hs
    · cases hs
  | _ => cases hs
end MI
end
section
/-! methods standing: MW, and its rules -/
def MOk1 (M : MD) : Prop := ∀ q ∈ M.2.2.2.2.2, m_eok M.1 M.2.1 M.2.2.1 q = true
def MX (M : MD) (d mc ms : Nat) (p : Program) (R : Room) (s : State) (m : MethodId) (args : Array Value) (meth : Method) (c : Code) : Prop :=
  p.tables.exec = Jvm.exec ∧ c.code = M.2.1 ∧ c.maxLocals = M.2.2.1 ∧ s.vm.findClass M.1.cls = some m.cls ∧ (∀ w ∈ m_good, w.before args s = true) ∧ (∀ w ∈ m_nest, va_Nw w s) ∧ va_AO "ChairOld$Piece" s ∧ (M.1.name = "<init>" → meth.name = "<init>") ∧ d ≤ R.frames ∧ 40 * d ≤ R.locals ∧ mc ≤ R.cells ∧ ms ≤ R.slots
def m_isret (M : MD) (pc : Nat) (v : Option Value) : Prop := match M.2.2.2.1, v with
  | none, none => decode M.2.1 pc = .ok (.return_, 1)
  | some .int, some (.int _) => decode M.2.1 pc = .ok (.ireturn, 1)
  | some .boolean, some (.int x) => decode M.2.1 pc = .ok (.ireturn, 1) ∧ narrow .boolean (.int x) = .int x
  | some .long, some (.long _) => decode M.2.1 pc = .ok (.lreturn, 1)
  | some (.object _), some .null => decode M.2.1 pc = .ok (.areturn, 1)
  | some (.object _), some (.ref _) => decode M.2.1 pc = .ok (.areturn, 1)
  | _, _ => False
/-- addresses as at the entry, the first five cells too -/
def MA (α0 : Nat → Nat) (h0 : MH) (α : Nat → Nat) (h : MH) : Prop := (∀ i, i < h0.length → α i = α0 i) ∧ h0.length ≤ h.length ∧ ∀ i, i < 5 → h[i]? = h0[i]?
def MW (M : MD) (d mc ms : Nat) (v : Option Value) (hT : MH) (cells slots pc : Nat) (l : ML) (st : List Value) (h : MH) : Prop :=
  MOk1 M → ∀ (p : Program) (la : Launch) (e : Env) (R : Room) (s : State) (m : MethodId) (args : Array Value) (below : List Frame) (meth : Method) (c : Code) (A : Nat → Prop) (D : va_G) (cA : FieldType → ClassId) (Q : State → Prop) (α0 : Nat → Nat) (h0 : MH),
    MX M d mc ms p R s m args meth c →
    (∀ (α' : Nat → Nat) (H' : Heap) (locs' : List Loc) (pc' : Nat) (ls' : Array Slot), MR s A D cA α' hT H' locs' → MA α0 h0 α' hT → m_isret M pc' v → m_oks hT.length v.toList → W p la e R s m args below meth c H' locs' mc ms Q (F0 m pc' ls' (v.toList.map (m_tv α')))) →
    ∀ (α : Nat → Nat) (H : Heap) (locs : List Loc) (ls : Array Slot), MR s A D cA α h H locs → MA α0 h0 α h → lv_has ls M.2.2.1 (m_tl α l) → m_okl h.length l → m_oks h.length st →
      W p la e R s m args below meth c H locs cells slots Q (F0 m pc ls (st.map (m_tv α)))
def m_step (M : MD) (pc : Nat) (l : ML) (st : List Value) (h : MH) : Option (Nat × ML × List Value × MH) := match m_find pc M.2.2.2.2.2 with
  | some (ins, nx, a, k, _, _, w) => m_ins ins nx a k w l st h
  | none => none
section RU
variable {M : MD} {d mc ms : Nat} {v : Option Value} {hT : MH} {cells slots pc : Nat} {l : ML} {st : List Value} {h : MH}
theorem mw_step {pc' : Nat} {l' : ML} {st' : List Value} {h' : MH} (hs : m_step M pc l st h = some (pc', l', st', h')) (K : MW M d mc ms v hT cells slots pc' l' st' h') : MW M d mc ms v hT cells slots pc l st h := by
  intro hM p la e R s m args below meth c A D cA Q α0 h0 hX hret α H locs ls hR hA hl hol hos
  unfold m_step at hs
  split at hs
  · next ins nx a k pos y w hf =>
    obtain ⟨x1, x2, x3, x4, x5, x6, x7, x8, x9⟩ := id hX
    exact m_ins_ok x1 x2 x4 x5 x8 (hM _ (m_find_mem hf)) hs hR hl hol hos (fun H' locs' ls' hR' hl' hol' hos' hlen => K hM p la e R s m args below meth c A D cA Q α0 h0 hX hret α H' locs' ls' hR' ⟨hA.1, by rw [hlen.1]; exact hA.2.1, fun i hi => (hlen.2 i hi).trans (hA.2.2 i hi)⟩ hl' hol' hos')
  · cases hs
/-- the same, but not from place t on -/
theorem mw_to (t : Nat) {pc' : Nat} {l' : ML} {st' : List Value} {h' : MH} (_ : Nat.beq pc t = false) (hs : m_step M pc l st h = some (pc', l', st', h')) (K : MW M d mc ms v hT cells slots pc' l' st' h') : MW M d mc ms v hT cells slots pc l st h := mw_step hs K
theorem mw_pick (ks : List Nat) {l' : ML} (hk : m_pickK l ks (fun l1 => some l1) = some l') (K : MW M d mc ms v hT cells slots pc l' st h) : MW M d mc ms v hT cells slots pc l st h := by
  rw [m_pickK_eq] at hk
  cases hk
  intro hM p la e R s m args below meth c A D cA Q α0 h0 hX hret α H locs ls hR hA hl hol hos
  refine K hM p la e R s m args below meth c A D cA Q α0 h0 hX hret α H locs ls hR hA ⟨hl.1, hl.2.1, fun q hq => ?_⟩ (fun q hq => hol q (m_pick_mem hq)) hos
  obtain ⟨q', h1, rfl⟩ := List.mem_map.mp hq
  exact hl.2.2 _ (List.mem_map.mpr ⟨q', m_pick_mem h1, rfl⟩)
theorem mw_widen {k n : Nat} (h1 : cells ≤ k) (h2 : slots ≤ n) (K : MW M d mc ms v hT k n pc l st h) : MW M d mc ms v hT cells slots pc l st h := by
  intro hM p la e R s m args below meth c A D cA Q α0 h0 hX hret α H locs ls hR hA hl hol hos
  exact W.widen h1 h2 (K hM p la e R s m args below meth c A D cA Q α0 h0 hX hret α H locs ls hR hA hl hol hos)
def m_br (M : MD) (pc : Nat) (st : List Value) : Option (Prop × Nat × Nat × List Value) := match m_find pc M.2.2.2.2.2 with
  | some (.ifCond cd _, nx, a, _) => match st with
    | .int x :: r => match cd with
      | .eq => some (x = 0, a, nx, r)
      | .ne => some (x = 0, nx, a, r)
      | .lt => some (x < 0, a, nx, r)
      | .ge => some (x < 0, nx, a, r)
      | .gt => some (0 < x, a, nx, r)
      | .le => some (0 < x, nx, a, r)
    | _ => none
  | some (.if_icmp cd _, nx, a, _) => match st with
    | .int y :: .int x :: r => match cd with
      | .eq => some (x = y, a, nx, r)
      | .ne => some (x = y, nx, a, r)
      | .lt => some (x < y, a, nx, r)
      | .ge => some (x < y, nx, a, r)
      | .gt => some (y < x, a, nx, r)
      | .le => some (y < x, nx, a, r)
    | _ => none
  | _ => none
theorem m_nlt {x y : Int32} (h : x ≤ y) : ¬ y < x := by
  rw [Int32.lt_iff_toInt_lt]
  rw [Int32.le_iff_toInt_le] at h
  omega
theorem m_nle {x y : Int32} (h : ¬ x ≤ y) : y < x := by
  rw [Int32.lt_iff_toInt_lt]
  rw [Int32.le_iff_toInt_le] at h
  omega
theorem mw_br {cnd : Prop} {t f : Nat} {r : List Value} (hs : m_br M pc st = some (cnd, t, f, r)) (kt : cnd → MW M d mc ms v hT cells slots t l r h) (kf : ¬ cnd → MW M d mc ms v hT cells slots f l r h) : MW M d mc ms v hT cells slots pc l st h := by
  intro hM p la e R s m args below meth c A D cA Q α0 h0 hX hret α H locs ls hR hA hl hol hos
  obtain ⟨x1, x2, x3, x4, x5, x6, x7, x8, x9⟩ := id hX
  have KT := fun (z : cnd) (ho : m_oks h.length r) => kt z hM p la e R s m args below meth c A D cA Q α0 h0 hX hret α H locs ls hR hA hl hol ho
  have KF := fun (z : ¬ cnd) (ho : m_oks h.length r) => kf z hM p la e R s m args below meth c A D cA Q α0 h0 hX hret α H locs ls hR hA hl hol ho
  unfold m_br at hs
  split at hs
  · next cd off nx a rest hf =>
    obtain ⟨k, pos, y, w⟩ := rest
    obtain ⟨hd, hnx, hk⟩ := m_eok_spec (hM _ (m_find_mem hf))
    simp only [m_lok, decide_eq_true_eq] at hk
    simp only [m_len] at hd hnx
    split at hs
    · next x r2 =>
      have ho := m_oks_tail hos
      cases cd <;> cases hs
      · subst hnx; exact lv_if_eq x1 x2 hd hk (fun z => KT z ho) (fun z => KF z ho)
      · subst hnx; exact lv_if_ne x1 x2 hd hk (fun z => KF z ho) (fun z => KT z ho)
      · subst hnx; exact lv_if_lt x1 x2 hd hk (fun z => KT z ho) (fun z => KF z ho)
      · subst hnx; exact lv_if_ge x1 x2 hd hk (fun z => KF (m_nlt z) ho) (fun z => KT (m_nle z) ho)
      · subst hnx; exact lv_if_gt x1 x2 hd hk (fun z => KT z ho) (fun z => KF z ho)
      · subst hnx; exact lv_if_le x1 x2 hd hk (fun z => KF (m_nlt z) ho) (fun z => KT (m_nle z) ho)
    · cases hs
  · next cd off nx a rest hf =>
    obtain ⟨k, pos, y, w⟩ := rest
    obtain ⟨hd, hnx, hk⟩ := m_eok_spec (hM _ (m_find_mem hf))
    simp only [m_lok, decide_eq_true_eq] at hk
    simp only [m_len] at hd hnx
    split at hs
    · next y2 x r2 =>
      have ho := m_oks_tail (m_oks_tail hos)
      cases cd <;> cases hs
      · subst hnx; exact lv_icmp_eq x1 x2 hd hk (fun z => KT z ho) (fun z => KF z ho)
      · subst hnx; exact lv_icmp_ne x1 x2 hd hk (fun z => KF z ho) (fun z => KT z ho)
      · subst hnx; exact lv_icmp_lt x1 x2 hd hk (fun z => KT z ho) (fun z => KF z ho)
      · subst hnx; exact lv_icmp_ge x1 x2 hd hk (fun z => KF (m_nlt z) ho) (fun z => KT (m_nle z) ho)
      · subst hnx; exact lv_icmp_gt x1 x2 hd hk (fun z => KT z ho) (fun z => KF z ho)
      · subst hnx; exact lv_icmp_le x1 x2 hd hk (fun z => KF (m_nlt z) ho) (fun z => KT (m_nle z) ho)
    · cases hs
  · cases hs
theorem mw_brT {cnd : Prop} {t f : Nat} {r : List Value} (hs : m_br M pc st = some (cnd, t, f, r)) (hc : cnd) (kt : MW M d mc ms v hT cells slots t l r h) : MW M d mc ms v hT cells slots pc l st h := mw_br hs (fun _ => kt) (fun z => absurd hc z)
theorem mw_brF {cnd : Prop} {t f : Nat} {r : List Value} (hs : m_br M pc st = some (cnd, t, f, r)) (hc : ¬ cnd) (kf : MW M d mc ms v hT cells slots f l r h) : MW M d mc ms v hT cells slots pc l st h := mw_br hs (fun z => absurd z hc) (fun _ => kf)
/-- array loads: length, index, value, next place, rest -/
def m_ald (M : MD) (pc : Nat) (st : List Value) (h : MH) : Option (Nat × Int32 × Value × Nat × List Value) := match m_find pc M.2.2.2.2.2 with
  | some (.iaload, nx, _) => match st with
    | .int j :: .ref i :: r => match h[i]? with
      | some (.inl (_, n, .inl f)) => some (n, j, .int (f j.toNatClampNeg), nx, r)
      | _ => none
    | _ => none
  | some (.laload, nx, _) => match st with
    | .int j :: .ref i :: r => match h[i]? with
      | some (.inl (_, n, .inr (.inl f))) => bif Nat.ble 5 i then some (n, j, .long (f j.toNatClampNeg), nx, r) else none
      | _ => none
    | _ => none
  | some (.aaload, nx, _) => match st with
    | .int j :: .ref i :: r => match h[i]? with
      | some (.inl (_, n, .inr (.inr (.inr (.inr f))))) => bif Nat.ble 5 i then some (n, j, va_rf (f j.toNatClampNeg), nx, r) else none
      | _ => none
    | _ => none
  | _ => none
theorem m_cond {b : Bool} {α : Type} {x y : α} (h : (bif b then some x else none) = some y) : b = true ∧ x = y := by
  cases b with
  | false => cases h
  | true => exact ⟨rfl, Option.some.inj h⟩
theorem mw_ald {n nx : Nat} {j : Int32} {x : Value} {r : List Value} (hs : m_ald M pc st h = some (n, j, x, nx, r)) (hin : vp_in j n) (K : MW M d mc ms v hT cells slots nx l (x :: r) h) : MW M d mc ms v hT cells slots pc l st h := by
  intro hM p la e R s m args below meth c A D cA Q α0 h0 hX hret α H locs ls hR hA hl hol hos
  obtain ⟨x1, x2, x3, x4, x5, x6, x7, x8, x9⟩ := id hX
  have KK := fun (ho : m_oks h.length (x :: r)) => K hM p la e R s m args below meth c A D cA Q α0 h0 hX hret α H locs ls hR hA hl hol ho
  unfold m_ald at hs
  split at hs
  · next nx2 rest hf =>
    obtain ⟨a, k, pos, y, w⟩ := rest
    obtain ⟨hd, hnx, hk⟩ := m_eok_spec (hM _ (m_find_mem hf))
    simp only [m_len] at hd hnx
    split at hs
    · next j2 i r2 =>
      split at hs
      · next ty n2 f hi =>
        cases hs
        subst hnx
        have ho := m_oks_cons (m_ok_int h.length (f j.toNatClampNeg)) (m_oks_tail (m_oks_tail hos))
        by_cases h5 : 5 ≤ i
        · rcases hR.2.2.2.2.2.2.2 i _ hi with ⟨e1, -⟩ | ⟨-, f2, e2⟩ | ⟨-, f2, e2⟩
          · subst e1
            exact va_iald x1 x2 hR.1 hR.2.1 (i - 5) 0 (m_ws_get h5 hi) rfl hin hd (KK ho)
          · cases e2
          · cases e2
        · obtain ⟨n3, f3, h1, hT⟩ := hR.2.2.2.2.2.1.2.1 i (Nat.lt_of_not_le h5)
          rw [hi] at h1
          cases h1
          exact va_ti x1 x2 hT hR.2.2.2.1 hin rfl hd (KK ho)
      · cases hs
    · cases hs
  · next nx2 rest hf =>
    obtain ⟨a, k, pos, y, w⟩ := rest
    obtain ⟨hd, hnx, hk⟩ := m_eok_spec (hM _ (m_find_mem hf))
    simp only [m_len] at hd hnx
    split at hs
    · next j2 i r2 =>
      split at hs
      · next ty n2 f hi =>
        obtain ⟨h5, hs⟩ := m_cond hs
        cases hs
        subst hnx
        have h5 : 5 ≤ i := Nat.le_of_ble_eq_true h5
        have ho := m_oks_cons (m_ok_long h.length (f j.toNatClampNeg)) (m_oks_tail (m_oks_tail hos))
        rcases hR.2.2.2.2.2.2.2 i _ hi with ⟨-, f2, e2⟩ | ⟨e1, -⟩ | ⟨-, f2, e2⟩
        · cases e2
        · subst e1
          exact va_lald x1 x2 hR.1 hR.2.1 (i - 5) 1 (m_ws_get h5 hi) rfl hin hd (KK ho)
        · cases e2
      · cases hs
    · cases hs
  · next nx2 rest hf =>
    obtain ⟨a, k, pos, y, w⟩ := rest
    obtain ⟨hd, hnx, hk⟩ := m_eok_spec (hM _ (m_find_mem hf))
    simp only [m_len] at hd hnx
    split at hs
    · next j2 i r2 =>
      split at hs
      · next ty n2 f hi =>
        obtain ⟨h5, hs⟩ := m_cond hs
        cases hs
        subst hnx
        have h5 : 5 ≤ i := Nat.le_of_ble_eq_true h5
        have hov : m_okv h.length (va_rf (f j.toNatClampNeg)) := by
          cases hj : f j.toNatClampNeg with
          | none => exact m_ok_null _
          | some a => exact fun i2 e2 => by cases e2; exact hR.2.2.2.2.2.2.1 i _ hi f rfl _ _ hj
        have ho := m_oks_cons hov (m_oks_tail (m_oks_tail hos))
        have KK := KK ho
        have ev : m_tv α (va_rf (f j.toNatClampNeg)) = va_rf ((f j.toNatClampNeg).map α) := by cases f j.toNatClampNeg <;> rfl
        rw [List.map_cons, ev] at KK
        rcases hR.2.2.2.2.2.2.2 i _ hi with ⟨-, f2, e2⟩ | ⟨-, f2, e2⟩ | ⟨e1, -⟩
        · cases e2
        · cases e2
        · subst e1
          exact va_aldq x1 x2 hR.1 hR.2.1 (i - 5) 2 (m_ws_get h5 hi) rfl hin hd KK
      · cases hs
    · cases hs
  · cases hs
/-- array stores: length, index, new heap, next place, rest -/
def m_ast (M : MD) (pc : Nat) (st : List Value) (h : MH) : Option (Nat × Int32 × MH × Nat × List Value) := match m_find pc M.2.2.2.2.2 with
  | some (.iastore, nx, _) => match st with
    | .int x :: .int j :: .ref i :: r => match h[i]? with
      | some (.inl (ty, n, .inl f)) => bif Nat.ble 5 i then some (n, j, h.set i (.inl (ty, n, .inl (upd f j.toNatClampNeg x))), nx, r) else none
      | _ => none
    | _ => none
  | some (.lastore, nx, _) => match st with
    | .long x :: .int j :: .ref i :: r => match h[i]? with
      | some (.inl (ty, n, .inr (.inl f))) => bif Nat.ble 5 i then some (n, j, h.set i (.inl (ty, n, .inr (.inl (vp_updL f j.toNatClampNeg x)))), nx, r) else none
      | _ => none
    | _ => none
  | some (.aastore, nx, _) => match st with
    | .ref x :: .int j :: .ref i :: r => match h[i]?, h[x]? with
      | some (.inl (ty, n, .inr (.inr (.inr (.inr f))))), some (.inr (ci, _)) => bif Nat.ble 5 i && Nat.ble 5 x && Nat.beq ci 3 then some (n, j, h.set i (.inl (ty, n, .inr (.inr (.inr (.inr (va_up f j.toNatClampNeg (some x))))))), nx, r) else none
      | _, _ => none
    | _ => none
  | _ => none
theorem mw_ast {n nx : Nat} {j : Int32} {r : List Value} {h' : MH} (hs : m_ast M pc st h = some (n, j, h', nx, r)) (hin : vp_in j n) (K : MW M d mc ms v hT cells slots nx l r h') : MW M d mc ms v hT cells slots pc l st h := by
  intro hM p la e R s m args below meth c A D cA Q α0 h0 hX hret α H locs ls hR hA hl hol hos
  obtain ⟨x1, x2, x3, x4, x5, x6, x7, x8, x9⟩ := id hX
  have KK := fun (H1 : Heap) (locs1 : List Loc) (hlen : h'.length = h.length ∧ ∀ i, i < 5 → h'[i]? = h[i]?) (hR' : MR s A D cA α h' H1 locs1) (ho : m_oks h.length r) => K hM p la e R s m args below meth c A D cA Q α0 h0 hX hret α H1 locs1 ls hR' ⟨hA.1, by rw [hlen.1]; exact hA.2.1, fun i hi => (hlen.2 i hi).trans (hA.2.2 i hi)⟩ hl (by rw [hlen.1]; exact hol) (by rw [hlen.1]; exact ho)
  unfold m_ast at hs
  split at hs
  · next nx2 rest hf =>
    obtain ⟨a, k, pos, y, w⟩ := rest
    obtain ⟨hd, hnx, hk⟩ := m_eok_spec (hM _ (m_find_mem hf))
    simp only [m_len] at hd hnx
    split at hs
    · next x j2 i r2 =>
      split at hs
      · next ty n2 f hi =>
        obtain ⟨h5, hs⟩ := m_cond hs
        cases hs
        subst hnx
        have h5 : 5 ≤ i := Nat.le_of_ble_eq_true h5
        rcases hR.2.2.2.2.2.2.2 i _ hi with ⟨e1, -⟩ | ⟨-, f2, e2⟩ | ⟨-, f2, e2⟩
        · subst e1
          exact va_iast x1 x2 hR.1 hR.2.1 hR.2.2.1 hR.2.2.2.1 (i - 5) 0 (m_ws_get h5 hi) rfl hin hd (fun H1 locs1 q1 q2 q3 => KK H1 locs1 (m_set_same h5) (m_set_R hR h5 (fun f3 e3 => by cases e3) (Or.inl ⟨rfl, _, rfl⟩) q1 q2 q3) (m_oks_tail (m_oks_tail (m_oks_tail hos))))
        · cases e2
        · cases e2
      · cases hs
    · cases hs
  · next nx2 rest hf =>
    obtain ⟨a, k, pos, y, w⟩ := rest
    obtain ⟨hd, hnx, hk⟩ := m_eok_spec (hM _ (m_find_mem hf))
    simp only [m_len] at hd hnx
    split at hs
    · next x j2 i r2 =>
      split at hs
      · next ty n2 f hi =>
        obtain ⟨h5, hs⟩ := m_cond hs
        cases hs
        subst hnx
        have h5 : 5 ≤ i := Nat.le_of_ble_eq_true h5
        rcases hR.2.2.2.2.2.2.2 i _ hi with ⟨-, f2, e2⟩ | ⟨e1, -⟩ | ⟨-, f2, e2⟩
        · cases e2
        · subst e1
          exact va_last x1 x2 hR.1 hR.2.1 hR.2.2.1 hR.2.2.2.1 (i - 5) 1 (m_ws_get h5 hi) rfl hin hd (fun H1 locs1 q1 q2 q3 => KK H1 locs1 (m_set_same h5) (m_set_R hR h5 (fun f3 e3 => by cases e3) (Or.inr (Or.inl ⟨rfl, _, rfl⟩)) q1 q2 q3) (m_oks_tail (m_oks_tail (m_oks_tail hos))))
        · cases e2
      · cases hs
    · cases hs
  · next nx2 rest hf =>
    obtain ⟨a, k, pos, y, w⟩ := rest
    obtain ⟨hd, hnx, hk⟩ := m_eok_spec (hM _ (m_find_mem hf))
    simp only [m_len] at hd hnx
    split at hs
    · next x j2 i r2 =>
      split at hs
      · next ty n2 f ci fs hi hxx =>
        obtain ⟨h5, hs⟩ := m_cond hs
        cases hs
        subst hnx
        simp only [Bool.and_eq_true] at h5
        obtain ⟨⟨h5, h6⟩, h7⟩ := h5
        have h5 : 5 ≤ i := Nat.le_of_ble_eq_true h5
        have h6 : 5 ≤ x := Nat.le_of_ble_eq_true h6
        have h7 := Nat.eq_of_beq_eq_true h7
        subst h7
        have hfo := hR.2.2.2.2.2.2.1 i _ hi f rfl
        have hxo : x < h.length := (List.getElem?_eq_some_iff.mp hxx).1
        have eu : (fun z => (va_up f j.toNatClampNeg (some x) z).map α) = va_up (fun z => (f z).map α) j.toNatClampNeg (some (α x)) := by
          funext z
          simp only [va_up]
          split <;> rfl
        rcases hR.2.2.2.2.2.2.2 i _ hi with ⟨-, f2, e2⟩ | ⟨-, f2, e2⟩ | ⟨e1, -⟩
        · cases e2
        · cases e2
        · subst e1
          refine va_astq (r := ("ChairOld$Piece", m_T3, 6)) x1 x2 hR.1 hR.2.1 hR.2.2.1 hR.2.2.2.1 (i - 5) 2 (x - 5) 3 (m_ws_get h5 hi) rfl (m_ws_get h6 hxx) rfl hin hd (fun H1 locs1 q1 q2 q3 => KK H1 locs1 (m_set_same h5) (m_set_R hR h5 ?_ (Or.inr (Or.inr ⟨rfl, _, rfl⟩)) ?_ ?_ q3) (m_oks_tail (m_oks_tail (m_oks_tail hos))))
          · intro f3 e3 z2 z3 hz
            cases e3
            simp only [va_up] at hz
            split at hz
            · cases hz
              exact hxo
            · exact hfo z2 z3 hz
          · simp only [m_te, m_ta, eu]
            exact q1
          · simp only [m_te, m_ta, eu]
            exact q2
      · cases hs
    · cases hs
  · cases hs
def m_div (M : MD) (pc : Nat) (st : List Value) : Option (Prop × Value × Nat × List Value) := match m_find pc M.2.2.2.2.2 with
  | some (.idiv, nx, _) => match st with
    | .int y :: .int x :: r => some (y = 0, .int (x / y), nx, r)
    | _ => none
  | some (.irem, nx, _) => match st with
    | .int y :: .int x :: r => some (y = 0, .int (x - x / y * y), nx, r)
    | _ => none
  | some (.ldiv, nx, _) => match st with
    | .long y :: .long x :: r => some (y = 0, .long (x / y), nx, r)
    | _ => none
  | some (.lrem, nx, _) => match st with
    | .long y :: .long x :: r => some (y = 0, .long (x - x / y * y), nx, r)
    | _ => none
  | _ => none
theorem mw_div {cnd : Prop} {x : Value} {nx : Nat} {r : List Value} (hs : m_div M pc st = some (cnd, x, nx, r)) (hne : ¬ cnd) (K : MW M d mc ms v hT cells slots nx l (x :: r) h) : MW M d mc ms v hT cells slots pc l st h := by
  intro hM p la e R s m args below meth c A D cA Q α0 h0 hX hret α H locs ls hR hA hl hol hos
  obtain ⟨x1, x2, x3, x4, x5, x6, x7, x8, x9⟩ := id hX
  have KK := fun (ho : m_oks h.length (x :: r)) => K hM p la e R s m args below meth c A D cA Q α0 h0 hX hret α H locs ls hR hA hl hol ho
  unfold m_div at hs
  split at hs
  · next nx2 rest hf =>
    obtain ⟨a, k, pos, y, w⟩ := rest
    obtain ⟨hd, hnx, hk⟩ := m_eok_spec (hM _ (m_find_mem hf))
    simp only [m_len] at hd hnx
    split at hs
    · cases hs
      subst hnx
      exact lv_idiv x1 x2 hd hne (KK (m_oks_cons (m_ok_int _ _) (m_oks_tail (m_oks_tail hos))))
    · cases hs
  · next nx2 rest hf =>
    obtain ⟨a, k, pos, y, w⟩ := rest
    obtain ⟨hd, hnx, hk⟩ := m_eok_spec (hM _ (m_find_mem hf))
    simp only [m_len] at hd hnx
    split at hs
    · cases hs
      subst hnx
      exact lv_irem x1 x2 hd hne (KK (m_oks_cons (m_ok_int _ _) (m_oks_tail (m_oks_tail hos))))
    · cases hs
  · next nx2 rest hf =>
    obtain ⟨a, k, pos, y, w⟩ := rest
    obtain ⟨hd, hnx, hk⟩ := m_eok_spec (hM _ (m_find_mem hf))
    simp only [m_len] at hd hnx
    split at hs
    · cases hs
      subst hnx
      exact lv_ldiv x1 x2 hd hne (KK (m_oks_cons (m_ok_long _ _) (m_oks_tail (m_oks_tail hos))))
    · cases hs
  · next nx2 rest hf =>
    obtain ⟨a, k, pos, y, w⟩ := rest
    obtain ⟨hd, hnx, hk⟩ := m_eok_spec (hM _ (m_find_mem hf))
    simp only [m_len] at hd hnx
    split at hs
    · cases hs
      subst hnx
      exact lv_lrem x1 x2 hd hne (KK (m_oks_cons (m_ok_long _ _) (m_oks_tail (m_oks_tail hos))))
    · cases hs
  · cases hs
/-- where a switch goes -/
def m_sw (M : MD) (pc : Nat) (x : Int) : Option Int := match m_find pc M.2.2.2.2.2 with
  | some (.tableswitch dflt lo hi offs, _) => bif decide (x < lo) || decide (hi < x) then some ((pc : Int) + dflt) else (offs[(x - lo).toNat]?).map fun o => (pc : Int) + o
  | some (.lookupswitch dflt ps, _) => some ((pc : Int) + Op.lookupswitch.offset ps.toList dflt x)
  | _ => none
theorem mw_sw {x : Int32} {t : Nat} {r : List Value} (hs : m_sw M pc x.toInt = some (t : Int)) (K : MW M d mc ms v hT cells slots t l r h) : MW M d mc ms v hT cells slots pc l (.int x :: r) h := by
  intro hM p la e R s m args below meth c A D cA Q α0 h0 hX hret α H locs ls hR hA hl hol hos
  obtain ⟨x1, x2, x3, x4, x5, x6, x7, x8, x9⟩ := id hX
  have KK := K hM p la e R s m args below meth c A D cA Q α0 h0 hX hret α H locs ls hR hA hl hol (m_oks_tail hos)
  unfold m_sw at hs
  split at hs
  · next dflt lo hi offs rest hf =>
    obtain ⟨nx, a, k, pos, y, w⟩ := rest
    obtain ⟨hd, hnx, hk⟩ := m_eok_spec (hM _ (m_find_mem hf))
    cases hbb : (decide (x.toInt < lo) || decide (hi < x.toInt)) with
    | true =>
      rw [hbb] at hs
      simp only [Bool.or_eq_true, decide_eq_true_eq] at hbb
      exact lv_tableOut x1 x2 hd hbb (Option.some.inj hs) KK
    | false =>
      rw [hbb] at hs
      simp only [Bool.or_eq_false_iff, decide_eq_false_iff_not] at hbb
      cases ho : offs[(x.toInt - lo).toNat]? with
      | none =>
        rw [ho] at hs
        cases hs
      | some off =>
        rw [ho] at hs
        exact lv_tableIn x1 x2 hd hbb.1 hbb.2 ho (Option.some.inj hs) KK
  · next dflt ps rest hf =>
    obtain ⟨nx, a, k, pos, y, w⟩ := rest
    obtain ⟨hd, hnx, hk⟩ := m_eok_spec (hM _ (m_find_mem hf))
    exact lv_lookup x1 x2 hd hk rfl (Option.some.inj hs) KK
  · cases hs
/-- a return -/
def m_ret (M : MD) (pc : Nat) (v : Option Value) : Bool := match m_find pc M.2.2.2.2.2 with
  | some (.return_, _) => match M.2.2.2.1, v with
    | none, none => true
    | _, _ => false
  | some (.ireturn, _) => match M.2.2.2.1, v with
    | some .int, some (.int _) => true
    | some .boolean, some (.int _) => true
    | _, _ => false
  | some (.lreturn, _) => match M.2.2.2.1, v with
    | some .long, some (.long _) => true
    | _, _ => false
  | some (.areturn, _) => match M.2.2.2.1, v with
    | some (.object _), some .null => true
    | some (.object _), some (.ref _) => true
    | _, _ => false
  | _ => false
/-- a boolean's answer is 0 or 1 -/
def m_bool (M : MD) (v : Option Value) : Prop := match M.2.2.2.1, v with
  | some .boolean, some (.int x) => narrow .boolean (.int x) = .int x
  | _, _ => True
theorem m_ret_spec (hM : MOk1 M) (hr : m_ret M pc v = true) (hb : m_bool M v) : m_isret M pc v := by
  unfold m_ret at hr
  unfold m_isret
  unfold m_bool at hb
  split at hr
  · next rest hf =>
    obtain ⟨nx, a, k, pos, y, w⟩ := rest
    obtain ⟨hd, hnx, hk⟩ := m_eok_spec (hM _ (m_find_mem hf))
    split at hr
    · next e1 => rw [e1]; exact hd
    · cases hr
  · next rest hf =>
    obtain ⟨nx, a, k, pos, y, w⟩ := rest
    obtain ⟨hd, hnx, hk⟩ := m_eok_spec (hM _ (m_find_mem hf))
    split at hr
    · next e1 => rw [e1]; exact hd
    · next e1 => rw [e1] at hb ⊢; exact ⟨hd, hb⟩
    · cases hr
  · next rest hf =>
    obtain ⟨nx, a, k, pos, y, w⟩ := rest
    obtain ⟨hd, hnx, hk⟩ := m_eok_spec (hM _ (m_find_mem hf))
    split at hr
    · next e1 => rw [e1]; exact hd
    · cases hr
  · next rest hf =>
    obtain ⟨nx, a, k, pos, y, w⟩ := rest
    obtain ⟨hd, hnx, hk⟩ := m_eok_spec (hM _ (m_find_mem hf))
    split at hr
    · next e1 => rw [e1]; exact hd
    · next e1 => rw [e1]; exact hd
    · cases hr
  · cases hr
theorem mw_ret (hr : m_ret M pc v = true) (hb : m_bool M v) (hc : cells ≤ mc) (hs : slots ≤ ms) : MW M d mc ms v h cells slots pc l v.toList h := by
  intro hM p la e R s m args below meth c A D cA Q α0 h0 hX hret α H locs ls hR hA hl hol hos
  exact W.widen hc hs (hret α H locs pc ls hR hA (m_ret_spec hM hr hb) hos)
end RU
end
section
/-! what is made; calls; contracts -/
def m_al (α : Nat → Nat) (n q : Nat) : Nat → Nat := fun i => if i = n then q else α i
theorem m_al_lt {α : Nat → Nat} {n q : Nat} : ∀ i, i < n → m_al α n q i = α i := fun i hi => if_neg (by omega)
theorem m_al_at {α : Nat → Nat} {n q : Nat} : m_al α n q n = q := if_pos rfl
theorem m_grow_R {s : State} {A : Nat → Prop} {D : va_G} {cA : FieldType → ClassId} {α : Nat → Nat} {h : MH} {H H1 : Heap} {locs locs1 : List Loc} {q : Nat} {d : MCell} (hR : MR s A D cA α h H locs) (hok : m_okc h.length d) (hty : m_tyc d)
    (q1 : va_P D m_cls (m_ws α cA h ++ [(q, m_te α cA d)]) H1) (q2 : va_D A (m_ws α cA h ++ [(q, m_te α cA d)])) (q3 : va_S A s.heap H1 locs1) : MR s A D cA (m_al α h.length q) (h ++ [d]) H1 locs1 := by
  obtain ⟨a1, a2, a3, a4, a5, ⟨b1, b2, b3⟩, a7, a8⟩ := hR
  have e : m_ws (m_al α h.length q) cA (h ++ [d]) = m_ws α cA h ++ [(q, m_te α cA d)] := by
    rw [m_ws_app b1, m_ws_congr m_al_lt b1 a7, m_al_at, m_te_congr m_al_lt hok]
  rw [← e] at q1 q2
  refine ⟨a1, q1, q2, q3, a5, ⟨by rw [List.length_append]; omega, fun i hi => ?_, fun i z hz => ?_⟩, m_okh_app a7 (m_okc_mono (Nat.le_succ _) hok), fun k c hk => ?_⟩
  · obtain ⟨n, f, c1, c2⟩ := b2 i hi
    exact ⟨n, f, by rw [List.getElem?_append_left (by omega)]; exact c1, by rw [m_al_lt i (by omega)]; exact c2⟩
  · have hi : i < 4 := (List.getElem?_eq_some_iff.mp hz).1
    rw [m_al_lt i (by omega)]
    exact b3 i z hz
  · by_cases hl : k < h.length
    · rw [List.getElem?_append_left hl] at hk
      exact a8 k c hk
    · rw [List.getElem?_append_right (by omega)] at hk
      have hz : k - h.length < 1 := (List.getElem?_eq_some_iff.mp hk).1
      rw [show k - h.length = 0 by omega] at hk
      cases hk
      exact hty
theorem m_grow_A {α0 α : Nat → Nat} {h0 h : MH} {q : Nat} {d : MCell} (h5 : 5 ≤ h.length) (hA : MA α0 h0 α h) : MA α0 h0 (m_al α h.length q) (h ++ [d]) :=
  ⟨fun i hi => (m_al_lt i (Nat.lt_of_lt_of_le hi hA.2.1)).trans (hA.1 i hi), by rw [List.length_append]; exact Nat.le_trans hA.2.1 (Nat.le_add_right _ _), fun i hi => by rw [List.getElem?_append_left (by omega)]; exact hA.2.2 i hi⟩
theorem m_oks_mono {n n' : Nat} (hn : n ≤ n') {st : List Value} (h : m_oks n st) : m_oks n' st := fun v hv => m_okv_mono hn (h v hv)
theorem m_okl_mono {n n' : Nat} (hn : n ≤ n') {l : ML} (h : m_okl n l) : m_okl n' l := fun v hv => m_okv_mono hn (h v hv)
/-- the fields of a new object -/
def m_dfl : Nat → List Value
  | 0 => [.null, .int 0, .null, .int 0]
  | 1 => [.null, .null, .null]
  | 2 => [.null, .null, .null, .int 0]
  | 3 => [.int 0, .int 0, .int 0, .int 0, .int 0, .null]
  | 4 => [.null, .int 0, .null, .int 0, .int 0, .int 0]
  | 5 => [.null, .null, .null, .null, .null, .null]
  | 6 => [.null, .null, .null, .null]
  | 7 => [.null, .null, .null, .null, .int 0, .int 0]
  | 8 => [.null, .null, .null, .null, .null, .null, .null, .null, .int 0, .null, .null, .null, .int 0, .int 0]
  | _ => [.null, .null, .null, .null, .int 0, .int 0, .int 0, .null, .null, .null, .null, .int 0, .null, .null, .int 0, .int 0, .int 0, .int 0, .int 0, .null, .null, .null, .null, .null, .long 0, .null, .null, .int 0, .null, .null, .null, .null, .int 0, .int 0, .int 0, .null, .null, .int 0, .int 0, .int 0, .null, .null, .null, .null]
theorem m_dfl_ok : ∀ (ci : Nat) (q : vw_C), m_cls[ci]? = some q → ∀ j, j < q.2.2 → defaultValue (m_ty0 q.2.1 j) = vp_V (m_dfl ci) j := by
  intro c q h
  match c, h with
  | 0, h => cases h; decide +kernel
  | 1, h => cases h; decide +kernel
  | 2, h => cases h; decide +kernel
  | 3, h => cases h; decide +kernel
  | 4, h => cases h; decide +kernel
  | 5, h => cases h; decide +kernel
  | 6, h => cases h; decide +kernel
  | 7, h => cases h; decide +kernel
  | 8, h => cases h; decide +kernel
  | 9, h => cases h; decide +kernel
  | c + 10, h => simp [m_cls] at h
theorem m_dfl_noref : ∀ (ci : Nat) (v : Value), v ∈ m_dfl ci → ∀ i, v ≠ .ref i := by
  intro c v h i e
  subst e
  unfold m_dfl at h
  split at h <;> simp at h
def m_arr0 (M : MD) (pc : Nat) (n : Nat) : Option (MCell × Nat) := match m_find pc M.2.2.2.2.2 with
  | some (.newarray .int, nx, _) => some (.inl (.int, n, .inl fun _ => 0), nx)
  | some (.newarray .long, nx, _) => some (.inl (.long, n, .inr (.inl fun _ => 0)), nx)
  | _ => none
def m_new (M : MD) (pc : Nat) : Option (Nat × Nat × Nat) := match m_find pc M.2.2.2.2.2 with
  | some (.new _, nx, a, _) => match m_cls[a]? with
    | some (_, _, N) => some (a, N, nx)
    | none => none
  | _ => none
def m_anew (M : MD) (pc : Nat) : Option Nat := match m_find pc M.2.2.2.2.2 with
  | some (.anewarray _, nx, _) => some nx
  | _ => none
theorem m_objW : (Cond.instanceMethod Lib.objectInit ∈ m_good) ∧ Cond.code Lib.objectInit ⟨#[0xb1]⟩ 1 none ∈ m_good := ⟨m_in (List.mem_of_getElem? (i := 89) (by decide +kernel)) rfl, m_in (List.mem_of_getElem? (i := 90) (by decide +kernel)) rfl⟩
theorem m_arrW : Cond.arrayClass .int ∈ m_good ∧ Cond.arrayClass .long ∈ m_good := ⟨m_in (List.mem_of_getElem? (i := 117) (by decide +kernel)) rfl, m_in (List.mem_of_getElem? (i := 188) (by decide +kernel)) rfl⟩
theorem m_cpyW : Cond.native arraycopyName ∈ m_good ∧ Cond.static arraycopyName ∈ m_good ∧ Cond.initialized "java/lang/System" ∈ m_good := ⟨m_in (List.mem_of_getElem? (i := 388) (by decide +kernel)) rfl, m_in (List.mem_of_getElem? (i := 387) (by decide +kernel)) rfl, m_in (List.mem_of_getElem? (i := 79) (by decide +kernel)) rfl⟩
section RV
variable {M : MD} {d mc ms : Nat} {v : Option Value} {hT : MH} {cells slots pc : Nat} {l : ML} {st : List Value} {h : MH}
theorem mw_newa {n : Int32} {N nx : Nat} {cell : MCell} (hn : ¬ n < 0) (hN : n.toNatClampNeg = N) (hs : m_arr0 M pc N = some (cell, nx)) (hB : N * 8 ≤ 536870912) (hc : cells + 1 ≤ mc) (hsl : slots + N ≤ ms)
    (K : MW M d mc ms v hT (cells + 1) (slots + N) nx l (.ref h.length :: st) (h ++ [cell])) : MW M d mc ms v hT cells slots pc l (.int n :: st) h := by
  intro hM p la e R s m args below meth c A D cA Q α0 h0 hX hret α H locs ls hR hA hl hol hos
  obtain ⟨x1, x2, x3, x4, x5, x6, x7, x8, x9, x10, x11, x12⟩ := id hX
  have h5 := hR.2.2.2.2.2.1.1
  have KK := fun (q : Nat) (H1 : Heap) (locs1 : List Loc) (hR' : MR s A D cA (m_al α h.length q) (h ++ [cell]) H1 locs1) => K hM p la e R s m args below meth c A D cA Q α0 h0 hX hret (m_al α h.length q) H1 locs1 ls hR' (m_grow_A h5 hA) (by rw [m_tl_congr m_al_lt hol]; exact hl) (m_okl_mono (by rw [List.length_append]; omega) hol) (m_oks_cons (fun i ei => by cases ei; rw [List.length_append]; exact Nat.lt_succ_self _) (m_oks_mono (by rw [List.length_append]; omega) (m_oks_tail hos)))
  have es : ∀ q : Nat, (Value.ref h.length :: st).map (m_tv (m_al α h.length q)) = .ref q :: st.map (m_tv α) := fun q => by
    rw [List.map_cons, m_stack_congr m_al_lt (m_oks_tail hos)]
    simp only [m_tv, m_al_at]
  unfold m_arr0 at hs
  split at hs
  · next nx2 rest hf =>
    obtain ⟨a, k, pos, y, w⟩ := rest
    obtain ⟨hd, hnx, hk⟩ := m_eok_spec (hM _ (m_find_mem hf))
    simp only [m_len] at hd hnx
    cases hs
    subst hnx
    refine va_newa (atype := .int) (ty := .int) (a0 := (N, .inl fun _ => 0)) x1 x2 (x5 _ m_arrW.1) rfl hR.1 hR.2.1 hR.2.2.1 hR.2.2.2.1 hR.2.2.2.2.1 (fun _ => rfl) hn hN (by show N * 4 ≤ _; omega) (by omega) (by omega) hd (fun q cA' H1 qK qP qD qS => ?_)
    have ec : cA' = cA .int := by
      have r1 : va_RA s cA' .int := (qK.2 3 _ rfl).2
      have r2 : va_RA s (cA .int) .int := (qK.2 0 _ rfl).2
      exact Option.some.inj (r1.symm.trans r2)
    subst ec
    have KQ := KK q H1 locs (m_grow_R hR (fun f3 e3 => by cases e3) (Or.inl ⟨rfl, _, rfl⟩) qP qD qS)
    rw [es] at KQ
    exact KQ
  · next nx2 rest hf =>
    obtain ⟨a, k, pos, y, w⟩ := rest
    obtain ⟨hd, hnx, hk⟩ := m_eok_spec (hM _ (m_find_mem hf))
    simp only [m_len] at hd hnx
    cases hs
    subst hnx
    refine va_newa (atype := .long) (ty := .long) (a0 := (N, .inr (.inl fun _ => 0))) x1 x2 (x5 _ m_arrW.2) rfl hR.1 hR.2.1 hR.2.2.1 hR.2.2.2.1 hR.2.2.2.2.1 (fun _ => rfl) hn hN (by show N * 8 ≤ _; omega) (by omega) (by omega) hd (fun q cA' H1 qK qP qD qS => ?_)
    have ec : cA' = cA .long := by
      have r1 : va_RA s cA' .long := (qK.2 3 _ rfl).2
      have r2 : va_RA s (cA .long) .long := (qK.2 1 _ rfl).2
      exact Option.some.inj (r1.symm.trans r2)
    subst ec
    have KQ := KK q H1 locs (m_grow_R hR (fun f3 e3 => by cases e3) (Or.inr (Or.inl ⟨rfl, _, rfl⟩)) qP qD qS)
    rw [es] at KQ
    exact KQ
  · cases hs
theorem mw_anew {n : Int32} {N nx : Nat} (hn : ¬ n < 0) (hN : n.toNatClampNeg = N) (hs : m_anew M pc = some nx) (hB : N * 4 ≤ 536870912) (hc : cells + 1 ≤ mc) (hsl : slots + N ≤ ms)
    (K : MW M d mc ms v hT (cells + 1) (slots + N) nx l (.ref h.length :: st) (h ++ [.inl (.object "ChairOld$Piece", N, .inr (.inr (.inr (.inr fun _ => none))))])) : MW M d mc ms v hT cells slots pc l (.int n :: st) h := by
  intro hM p la e R s m args below meth c A D cA Q α0 h0 hX hret α H locs ls hR hA hl hol hos
  obtain ⟨x1, x2, x3, x4, x5, x6, x7, x8, x9, x10, x11, x12⟩ := id hX
  have h5 := hR.2.2.2.2.2.1.1
  have es : ∀ q : Nat, (Value.ref h.length :: st).map (m_tv (m_al α h.length q)) = .ref q :: st.map (m_tv α) := fun q => by
    rw [List.map_cons, m_stack_congr m_al_lt (m_oks_tail hos)]
    simp only [m_tv, m_al_at]
  unfold m_anew at hs
  split at hs
  · next idx nx2 rest hf =>
    obtain ⟨a, k, pos, y, w⟩ := rest
    obtain ⟨hd, hnx, hk⟩ := m_eok_spec (hM _ (m_find_mem hf))
    simp only [m_len] at hd hnx
    simp only [m_lok] at hk
    cases hs
    subst hnx
    refine va_newq x1 x2 x4 (x5 _ (m_wd_spec hk)) x7 hR.1 hR.2.1 hR.2.2.1 hR.2.2.2.1 hR.2.2.2.2.1 hn hN hB (by omega) (by omega) hd (fun q cA' H1 qK qP qD qS => ?_)
    have ec : cA' = cA (.object "ChairOld$Piece") := by
      obtain ⟨_, _, _, _, _, r1⟩ : va_RA s cA' (.object "ChairOld$Piece") := (qK.2 3 _ rfl).2
      obtain ⟨_, _, _, _, _, r2⟩ : va_RA s (cA (.object "ChairOld$Piece")) (.object "ChairOld$Piece") := (qK.2 2 _ rfl).2
      exact Option.some.inj (r1.symm.trans r2)
    subst ec
    have KQ := K hM p la e R s m args below meth c A D cA Q α0 h0 hX hret (m_al α h.length q) H1 locs ls (m_grow_R hR (fun f3 e3 => by cases e3; exact fun j i hj => by cases hj) (Or.inr (Or.inr ⟨rfl, _, rfl⟩)) qP qD qS) (m_grow_A h5 hA) (by rw [m_tl_congr m_al_lt hol]; exact hl) (m_okl_mono (by rw [List.length_append]; omega) hol) (m_oks_cons (fun i ei => by cases ei; rw [List.length_append]; exact Nat.lt_succ_self _) (m_oks_mono (by rw [List.length_append]; omega) (m_oks_tail hos)))
    rw [es] at KQ
    exact KQ
  · cases hs
theorem mw_new {ci N nx : Nat} (hs : m_new M pc = some (ci, N, nx)) (hc : cells + 1 ≤ mc) (hsl : slots + N ≤ ms)
    (K : MW M d mc ms v hT (cells + 1) (slots + N) nx l (.ref h.length :: st) (h ++ [.inr (ci, m_dfl ci)])) : MW M d mc ms v hT cells slots pc l st h := by
  intro hM p la e R s m args below meth c A D cA Q α0 h0 hX hret α H locs ls hR hA hl hol hos
  obtain ⟨x1, x2, x3, x4, x5, x6, x7, x8, x9, x10, x11, x12⟩ := id hX
  have h5 := hR.2.2.2.2.2.1.1
  have es : ∀ q : Nat, (Value.ref h.length :: st).map (m_tv (m_al α h.length q)) = .ref q :: st.map (m_tv α) := fun q => by
    rw [List.map_cons, m_stack_congr m_al_lt hos]
    simp only [m_tv, m_al_at]
  have ed : ∀ β : Nat → Nat, (m_dfl ci).map (m_tv β) = m_dfl ci := fun β => by
    refine (List.map_congr_left fun z hz => ?_).trans (List.map_id _)
    cases z with
    | ref i => exact absurd rfl (m_dfl_noref ci _ hz i)
    | _ => rfl
  unfold m_new at hs
  split at hs
  · next idx nx2 a rest hf =>
    obtain ⟨k, pos, y, w⟩ := rest
    obtain ⟨hd, hnx, hk⟩ := m_eok_spec (hM _ (m_find_mem hf))
    simp only [m_len] at hd hnx
    simp only [m_lok] at hk
    split at hs
    · next C T N2 hcl =>
      rw [hcl] at hk
      cases hs
      subst hnx
      obtain ⟨c1, c2, c3, c4, c5, c6⟩ := m_cok_at _ _ hcl
      refine va_new (fs := m_dfl ci) x1 x2 x5 c1 (m_ty0 T) c3 x4 (x5 _ (m_wd_spec hk)) (x5 _ c4) (x5 _ c5) hR.1 hR.2.1 hR.2.2.1 hR.2.2.2.1 hR.2.2.2.2.1 hcl (m_dfl_ok _ _ hcl) (by omega) (by show slots + N ≤ R.slots; omega) hd (fun q H1 qP qD qS => ?_)
      have KQ := K hM p la e R s m args below meth c A D cA Q α0 h0 hX hret (m_al α h.length q) H1 locs ls (m_grow_R hR (fun z hz i ei => absurd ei (m_dfl_noref ci z hz i)) trivial (by simp only [m_te, ed]; exact qP) (by simp only [m_te, ed]; exact qD) qS) (m_grow_A h5 hA) (by rw [m_tl_congr m_al_lt hol]; exact hl) (m_okl_mono (by rw [List.length_append]; omega) hol) (m_oks_cons (fun i ei => by cases ei; rw [List.length_append]; exact Nat.lt_succ_self _) (m_oks_mono (by rw [List.length_append]; omega) hos))
      rw [es] at KQ
      exact KQ
    · cases hs
  · cases hs
def m_obj (M : MD) (pc : Nat) : Option Nat := match m_find pc M.2.2.2.2.2 with
  | some (.invokespecial _, nx, _, k, _, y, _) => bif decide (y = Lib.objectInit) && Nat.beq k 0 then some nx else none
  | _ => none
theorem mw_obj {i nx : Nat} (hs : m_obj M pc = some nx) (hd1 : 1 ≤ d) (K : MW M d mc ms v hT cells slots nx l [] h) : MW M d mc ms v hT cells slots pc l [.ref i] h := by
  intro hM p la e R s m args below meth c A D cA Q α0 h0 hX hret α H locs ls hR hA hl hol hos
  obtain ⟨x1, x2, x3, x4, x5, x6, x7, x8, x9, x10, x11, x12⟩ := id hX
  have KK := K hM p la e R s m args below meth c A D cA Q α0 h0 hX hret α H locs ls hR hA hl hol (m_oks_tail hos)
  unfold m_obj at hs
  split at hs
  · next idx nx2 a k pos y w hf =>
    obtain ⟨hd, hnx, hk⟩ := m_eok_spec (hM _ (m_find_mem hf))
    obtain ⟨hy, hs⟩ := m_cond hs
    subst hs
    simp only [m_len] at hd hnx
    subst hnx
    simp only [Bool.and_eq_true, decide_eq_true_eq] at hy
    obtain ⟨hy, hk0⟩ := hy
    have hk0 := Nat.eq_of_beq_eq_true hk0
    subst hy
    subst hk0
    exact W.objInit x1 x2 x4 (x5 _ (m_wd_spec hk)) (x5 _ m_objW.1) (x5 _ m_objW.2) rfl (hl.1.trans x3.symm) rfl hd (by omega) (by show 2 * 0 + 0 + 12 ≤ _; omega) KK
  · cases hs
def m_cpy (M : MD) (pc : Nat) : Option Nat := match m_find pc M.2.2.2.2.2 with
  | some (.invokestatic _, nx, _, k, _, y, _) => bif decide (y = arraycopyName) && Nat.beq k 0 then some nx else none
  | _ => none
theorem mw_cpyi {i0 i1 nx n0 n1 : Nat} {sp dp n : Int32} {ty0 ty1 : FieldType} {f g : Nat → Int32} (hs : m_cpy M pc = some nx) (hd1 : 1 ≤ d) (hi0 : h[i0]? = some (.inl (ty0, n0, .inl f))) (hi1 : h[i1]? = some (.inl (ty1, n1, .inl g))) (g0 : 5 ≤ i0) (g1 : 5 ≤ i1)
    (h1 : ¬ sp < 0) (h2 : ¬ dp < 0) (h3 : ¬ n < 0) (h4 : sp.toNatClampNeg + n.toNatClampNeg ≤ n0) (h5 : dp.toNatClampNeg + n.toNatClampNeg ≤ n1)
    (K : MW M d mc ms v hT cells slots nx l [] (h.set i1 (.inl (ty1, n1, .inl (va_cpy f g sp.toNatClampNeg dp.toNatClampNeg n.toNatClampNeg))))) : MW M d mc ms v hT cells slots pc l [.int n, .int dp, .ref i1, .int sp, .ref i0] h := by
  intro hM p la e R s m args below meth c A D cA Q α0 h0 hX hret α H locs ls hR hA hl hol hos
  obtain ⟨x1, x2, x3, x4, x5, x6, x7, x8, x9, x10, x11, x12⟩ := id hX
  have KK := fun (H1 : Heap) (locs1 : List Loc) hR' => K hM p la e R s m args below meth c A D cA Q α0 h0 hX hret α H1 locs1 ls hR' ⟨hA.1, by rw [List.length_set]; exact hA.2.1, fun i hi => ((m_set_same g1).2 i hi).trans (hA.2.2 i hi)⟩ hl (by rw [List.length_set]; exact hol) (m_oks_nil _)
  unfold m_cpy at hs
  split at hs
  · next idx nx2 a k pos y w hf =>
    obtain ⟨hd, hnx, hk⟩ := m_eok_spec (hM _ (m_find_mem hf))
    obtain ⟨hy, hs⟩ := m_cond hs
    subst hs
    simp only [m_len] at hd hnx
    subst hnx
    simp only [Bool.and_eq_true, decide_eq_true_eq] at hy
    obtain ⟨hy, hk0⟩ := hy
    have hk0 := Nat.eq_of_beq_eq_true hk0
    subst hy
    subst hk0
    rcases hR.2.2.2.2.2.2.2 i0 _ hi0 with ⟨e1, -⟩ | ⟨-, f2, e2⟩ | ⟨-, f2, e2⟩
    · rcases hR.2.2.2.2.2.2.2 i1 _ hi1 with ⟨e3, -⟩ | ⟨-, f2, e2⟩ | ⟨-, f2, e2⟩
      · subst e1
        subst e3
        exact va_copyi (ty := .int) x1 x2 (x3.trans hl.1.symm) x4 (x5 _ (m_wd_spec hk)) (x5 _ m_cpyW.1) (x5 _ m_cpyW.2.1) (x5 _ m_cpyW.2.2) hR.1 hR.2.1 hR.2.2.1 hR.2.2.2.1 (i0 - 5) (i1 - 5) 0 0 (m_ws_get g0 hi0) (m_ws_get g1 hi1) rfl rfl rfl h1 h2 h3 h4 h5 (fun _ _ => rfl) (by omega) (by show 0 + (7 + 11) ≤ _; omega) hd (fun H1 locs1 q1 q2 q3 => KK H1 locs1 (m_set_R hR g1 (fun f3 e3 => by cases e3) (Or.inl ⟨rfl, _, rfl⟩) q1 q2 q3))
      · cases e2
      · cases e2
    · cases e2
    · cases e2
  · cases hs
theorem mw_cpyl {i0 i1 nx n0 n1 : Nat} {sp dp n : Int32} {ty0 ty1 : FieldType} {f g : Nat → Int64} (hs : m_cpy M pc = some nx) (hd1 : 1 ≤ d) (hi0 : h[i0]? = some (.inl (ty0, n0, .inr (.inl f)))) (hi1 : h[i1]? = some (.inl (ty1, n1, .inr (.inl g)))) (g0 : 5 ≤ i0) (g1 : 5 ≤ i1)
    (h1 : ¬ sp < 0) (h2 : ¬ dp < 0) (h3 : ¬ n < 0) (h4 : sp.toNatClampNeg + n.toNatClampNeg ≤ n0) (h5 : dp.toNatClampNeg + n.toNatClampNeg ≤ n1)
    (K : MW M d mc ms v hT cells slots nx l [] (h.set i1 (.inl (ty1, n1, .inr (.inl (va_cpy f g sp.toNatClampNeg dp.toNatClampNeg n.toNatClampNeg)))))) : MW M d mc ms v hT cells slots pc l [.int n, .int dp, .ref i1, .int sp, .ref i0] h := by
  intro hM p la e R s m args below meth c A D cA Q α0 h0 hX hret α H locs ls hR hA hl hol hos
  obtain ⟨x1, x2, x3, x4, x5, x6, x7, x8, x9, x10, x11, x12⟩ := id hX
  have KK := fun (H1 : Heap) (locs1 : List Loc) hR' => K hM p la e R s m args below meth c A D cA Q α0 h0 hX hret α H1 locs1 ls hR' ⟨hA.1, by rw [List.length_set]; exact hA.2.1, fun i hi => ((m_set_same g1).2 i hi).trans (hA.2.2 i hi)⟩ hl (by rw [List.length_set]; exact hol) (m_oks_nil _)
  unfold m_cpy at hs
  split at hs
  · next idx nx2 a k pos y w hf =>
    obtain ⟨hd, hnx, hk⟩ := m_eok_spec (hM _ (m_find_mem hf))
    obtain ⟨hy, hs⟩ := m_cond hs
    subst hs
    simp only [m_len] at hd hnx
    subst hnx
    simp only [Bool.and_eq_true, decide_eq_true_eq] at hy
    obtain ⟨hy, hk0⟩ := hy
    have hk0 := Nat.eq_of_beq_eq_true hk0
    subst hy
    subst hk0
    rcases hR.2.2.2.2.2.2.2 i0 _ hi0 with ⟨-, f2, e2⟩ | ⟨e1, -⟩ | ⟨-, f2, e2⟩
    · cases e2
    · rcases hR.2.2.2.2.2.2.2 i1 _ hi1 with ⟨-, f2, e2⟩ | ⟨e3, -⟩ | ⟨-, f2, e2⟩
      · cases e2
      · subst e1
        subst e3
        exact va_copyl (ty := .long) x1 x2 (x3.trans hl.1.symm) x4 (x5 _ (m_wd_spec hk)) (x5 _ m_cpyW.1) (x5 _ m_cpyW.2.1) (x5 _ m_cpyW.2.2) hR.1 hR.2.1 hR.2.2.1 hR.2.2.2.1 (i0 - 5) (i1 - 5) 1 1 (m_ws_get g0 hi0) (m_ws_get g1 hi1) rfl rfl rfl h1 h2 h3 h4 h5 (fun _ _ => rfl) (by omega) (by show 0 + (7 + 11) ≤ _; omega) hd (fun H1 locs1 q1 q2 q3 => KK H1 locs1 (m_set_R hR g1 (fun f3 e3 => by cases e3) (Or.inr (Or.inl ⟨rfl, _, rfl⟩)) q1 q2 q3))
      · cases e2
    · cases e2
  · cases hs
end RV
/-! contracts -/
def m_wsM (M : MD) : List Cond := Cond.code M.1 M.2.1 M.2.2.1 M.2.2.2.1 :: m_good
def m_rm (d mc ms : Nat) : Room := { frames := d, cells := mc, slots := ms, locals := 40 * d }
def MOk2 (M : MD) : Prop := Cond.code M.1 M.2.1 M.2.2.1 M.2.2.2.1 ∈ m_good ∧ Cond.initialized M.1.cls ∈ m_good ∧ plainFor M.1 = true ∧ (M.1.cls ≠ "java/lang/invoke/MethodHandle" ∧ M.1.cls ≠ "java/lang/invoke/VarHandle") ∧ (parseMethodDescriptor M.1.desc).map (fun d => d.parameters.length) = some M.2.2.2.2.1.2.1 ∧ M.2.2.1 ≤ 21 ∧
  (M.2.2.2.2.1.1 = 0 → Cond.static M.1 ∈ m_good) ∧ (M.2.2.2.2.1.1 = 1 → Cond.instanceMethod M.1 ∈ m_good ∧ Cond.selects M.1.cls M.1 M.1 ∈ m_good ∧ (m_cls[M.2.2.2.2.1.2.2]?).map (fun q => q.1) = some M.1.cls) ∧ (M.2.2.2.2.1.1 = 2 → Cond.instanceMethod M.1 ∈ m_good ∧ M.1.name = "<init>" ∧ M.2.2.2.1 = none)
def m_tyh (h : MH) : Prop := ∀ (k : Nat) (c : MCell), h[k]? = some c → m_tyc c
def MPre (D : va_G) (cA : FieldType → ClassId) (α : Nat → Nat) (h : MH) (sz : Nat) (U : State) : Prop :=
  U.heap.size = sz ∧ va_K D m_cls (m_tys cA) U ∧ va_P D m_cls (m_ws α cA h) U.heap ∧ va_D (fun _ => True) (m_ws α cA h) ∧ m_cst α (va_A (m_ws α cA h) sz) U U.heap h ∧ m_okh h ∧ m_tyh h ∧ (∀ w ∈ m_nest, va_Nw w U) ∧ va_AO "ChairOld$Piece" U
def MQc (D : va_G) (cA : FieldType → ClassId) (α : Nat → Nat) (h : MH) (v : Option Value) (hT : MH) (sz : Nat) : Array Value → State → Outcome → State → Prop := fun _ st oc t =>
  (∃ α' : Nat → Nat, MA α h α' hT ∧ oc = .returned (v.map (m_tv α')) ∧ va_P D m_cls (m_ws α' cA hT) t.heap ∧ va_D (va_A (m_ws α cA h) sz) (m_ws α' cA hT) ∧ m_okh hT ∧ m_tyh hT ∧ m_oks hT.length v.toList) ∧ va_F (va_A (m_ws α cA h) sz) st t
/-- a method's contract: from the arguments av and the heap h it comes back with v and the heap hT -/
def MC (M : MD) (d mc ms : Nat) (av : List Value) (h : MH) (v : Option Value) (hT : MH) : Prop :=
  MOk2 M ∧ ∀ (la : Launch) (D : va_G) (cA : FieldType → ClassId) (α : Nat → Nat) (sz : Nat), m_oks h.length av → Met la M.1 (m_wsM M) (m_rm d mc ms) (va_Pc (av.map (m_tv α)) (MPre D cA α h sz)) (MQc D cA α h v hT sz) mc ms (va_A (m_ws α cA h) sz)
theorem m_args_tl (α : Nat → Nat) : ∀ (vs : List Value) (i : Nat), lv_args i (vs.map (m_tv α)) = m_tl α (lv_args i vs)
  | [], _ => rfl
  | v :: vs, i => by
    simp only [List.map_cons, lv_args, m_tl, m_tv_cat]
    exact congrArg _ (m_args_tl α vs _)
theorem m_args_ok {n : Nat} : ∀ (vs : List Value) (i : Nat), m_oks n vs → m_okl n (lv_args i vs)
  | [], _, _ => fun _ h => by cases h
  | v :: vs, i, h => fun q hq => by
    rcases List.mem_cons.mp hq with rfl | hq
    · exact h v List.mem_cons_self
    · exact m_args_ok vs _ (m_oks_tail h) q hq
theorem m_sl_len (α : Nat → Nat) : ∀ vs : List Value, (lg_sl (vs.map (m_tv α))).length = (lg_sl vs).length
  | [] => rfl
  | v :: vs => by
    have ih := m_sl_len α vs
    simp only [lg_sl, List.map_cons, List.flatMap_cons, List.length_append, m_tv_cat] at ih ⊢
    rw [ih]
    congr 1
    split <;> rfl
theorem m_cst_moved {α : Nat → Nat} {A : Nat → Prop} {u U : State} {H : Heap} {h : MH} (hvm : u.vm.Alike U.vm) (hc : m_cst α A u H h) : m_cst α A U H h := by
  obtain ⟨a1, a2, a3⟩ := hc
  refine ⟨a1, fun i hi => ?_, fun i q hq => (a3 i q hq).moved hvm⟩
  obtain ⟨n, f, b1, b2⟩ := a2 i hi
  exact ⟨n, f, b1, b2.moved hvm⟩
theorem m_cst_kept {α : Nat → Nat} {A B : Nat → Prop} {U : State} {H H1 : Heap} {h : MH} (hc : m_cst α A U H h) (hq : ∀ a : Nat, a < H.size → ¬ A a → H1[a]? = H[a]?) (hAB : ∀ q, B q → A q) : m_cst α B U H1 h := by
  obtain ⟨a1, a2, a3⟩ := hc
  refine ⟨a1, fun i hi => ?_, fun i q hz => ((a3 i q hz).kept hq).narrow hAB⟩
  obtain ⟨n, f, b1, b2⟩ := a2 i hi
  exact ⟨n, f, b1, (b2.kept hq).narrow hAB⟩
theorem m_nest_warm {s U : State} (hW : s.WarmedH U.vm) (h : ∀ w ∈ m_nest, va_Nw w s) : ∀ w ∈ m_nest, va_Nw w U := by
  intro w hw
  have h1 := h w hw
  have h2 := (List.mem_filter.mp hw).2
  cases w <;> first | (simp [m_isNest] at h2; done) | exact va_Nw.warmM hW h1
theorem m_nest_same {s U : State} (e : s.vm = U.vm) (h : ∀ w ∈ m_nest, va_Nw w s) : ∀ w ∈ m_nest, va_Nw w U := by
  intro w hw
  have h1 := h w hw
  have h2 := (List.mem_filter.mp hw).2
  cases w <;> first | (simp [m_isNest] at h2; done) | exact va_Nw.same rfl e h1
theorem m_blind {D : va_G} {cA : FieldType → ClassId} {α : Nat → Nat} {h : MH} {sz : Nat} {av : List Value} : FrameBlind (va_Pc av (MPre D cA α h sz)) := by
  intro a U g mk hq
  obtain ⟨q0, q1, q2, q3, q4, q5, q6, q7, q8, q9⟩ := hq
  exact ⟨q0, q1, va_K.moved (u := U) (U := U.calling g mk a) (Vm.Alike.refl U.vm) q2, q3, q4, m_cst_moved (u := U) (U := U.calling g mk a) (Vm.Alike.refl U.vm) q5, q6, q7, m_nest_same (s := U) (U := U.calling g mk a) rfl q8, va_AO.moved (u := U) (U := U.calling g mk a) (Vm.Alike.refl U.vm) q9⟩
theorem m_preU {s : State} {A : Nat → Prop} {D : va_G} {cA : FieldType → ClassId} {α : Nat → Nat} {h : MH} {H : Heap} {locs : List Loc} (hR : MR s A D cA α h H locs) (hn : ∀ w ∈ m_nest, va_Nw w s) (ha : va_AO "ChairOld$Piece" s) (hF : ∀ q, va_A (m_ws α cA h) H.size q → A q) :
    ∀ U : State, U.heap = H → s.WarmedH U.vm → MPre D cA α h H.size U := by
  intro U hU hW
  obtain ⟨a1, a2, a3, a4, a5, a6, a7, a8⟩ := hR
  refine ⟨by rw [hU], va_K.moved hW.alike a1, by rw [hU]; exact a2, a3.weaken (fun _ _ _ _ => trivial), ?_, a7, a8, m_nest_warm hW hn, va_AO.moved hW.alike ha⟩
  rw [hU]
  exact m_cst_moved hW.alike (m_cst_kept a6 (fun q h1 h2 => a4.2.1 q h1 h2) hF)
theorem m_freeA {s : State} {A : Nat → Prop} {D : va_G} {cA : FieldType → ClassId} {α : Nat → Nat} {h : MH} {H : Heap} {locs : List Loc} (hR : MR s A D cA α h H locs) : ∀ q, va_A (m_ws α cA h) H.size q → A q := by
  intro q hq
  obtain ⟨a1, a2, a3, a4, a5, a6, a7, a8⟩ := hR
  rcases hq with ⟨k, e, hk⟩ | hq
  · exact a3.2 k (q, e) hk
  · exact a5 q (Nat.le_trans a4.1 hq)
theorem m_after {p : Program} {la : Launch} {e : Env} {R : Room} {s : State} {m : MethodId} {args : Array Value} {below : List Frame} {meth : Method} {c : Code} {H : Heap} {locs : List Loc} {cells slots mc' ms' pc : Nat} {Q : State → Prop} {A : Nat → Prop} {D : va_G} {cA : FieldType → ClassId} {α : Nat → Nat} {ls : Array Slot} {h h' : MH} {v : Option Value} {st0 rest : List Value} {a : Array Value}
    (hr : va_Run p la e R s m args below meth c H locs cells slots mc' ms' (F0 m pc ls st0) rest (MQc D cA α h v h' H.size a) (va_A (m_ws α cA h) H.size)) (hR : MR s A D cA α h H locs)
    (K : ∀ (α' : Nat → Nat) (H' : Heap) (locs' : List Loc), MR s A D cA α' h' H' locs' → MA α h α' h' → m_oks h'.length v.toList → W p la e R s m args below meth c H' locs' (cells + mc') (slots + ms') Q (F0 m (pc + 3) ls ((v.map (m_tv α')).toList ++ rest))) :
    W p la e R s m args below meth c H locs cells slots Q (F0 m pc ls st0) := by
  intro T hT X
  obtain ⟨v1, st₀, t, T', L, h0, X', hL, e1, e2, ⟨⟨α', g1, g2, g3, g4, g5, g6, g7⟩, hz, hk⟩, go⟩ := hr T hT X
  have g2 : v1 = v.map (m_tv α') := by injection g2
  subst g2
  rw [h0] at hz hk
  have hF := m_freeA hR
  obtain ⟨a1, a2, a3, a4, a5, a6, a7, a8⟩ := hR
  have h5 := a6.1
  have hR' : MR s A D cA α' h' T'.heap (locs ++ L) := by
    refine ⟨a1, by rw [e1]; exact g3, g4.weaken (fun _ q _ hq => hF q.1 hq), ⟨Nat.le_trans a4.1 (by rw [e1]; exact hz), fun q h1 h2 => ?_, fun q hq => ?_⟩, a5, ⟨Nat.le_trans h5 g1.2.1, fun i hi => ?_, fun i q hq => ?_⟩, g5, g6⟩
    · rw [e1, hk q (Nat.lt_of_lt_of_le h1 a4.1) (fun z => h2 (hF q z))]
      exact a4.2.1 q h1 h2
    · rcases List.mem_append.mp hq with h | h
      · exact a4.2.2 q h
      · exact hF _ (hL q h)
    · obtain ⟨n, f, b1, b2⟩ := a6.2.1 i hi
      exact ⟨n, f, (g1.2.2 i hi).trans b1, by rw [g1.1 i (by omega)]; exact b2⟩
    · have hi : i < 4 := (List.getElem?_eq_some_iff.mp hq).1
      rw [g1.1 i (by omega)]
      exact a6.2.2 i q hq
  obtain ⟨t2, b1, b2⟩ := K α' T'.heap (locs ++ L) hR' g1 g7 T' rfl X'
  exact ⟨t2, go t2 b1, b2⟩
set_option maxHeartbeats 1000000 in
/-- a contract out of a walk from the entry -/
theorem mc_of {M : MD} {d mc ms : Nat} {av : List Value} {h hT : MH} {v : Option Value} (hM1 : MOk1 M) (hM2 : MOk2 M) (hav : (lg_sl av).length ≤ M.2.2.1) (K : MW M d mc ms v hT 0 0 0 (lv_args 0 av) [] h) : MC M d mc ms av h v hT := by
  refine ⟨hM2, fun la D cA α sz hok => va_MetF (cc := M.2.1) (maxL := M.2.2.1) (ret := M.2.2.2.1) hM2.2.2.1 rfl ?_⟩
  intro p e s m args below meth c s₁ B hml hv
  obtain ⟨rfl, rfl, hK, hP, hD0, hc, ho, ht, hn, hao⟩ := hv
  have hx := B.exec
  have hb := B.bytes
  have hr := B.returns
  have hts := atoms_spec (ws := m_wsM M) B.pre
  have hown : s.vm.findClass M.1.cls = some m.cls := findClass_of_methodNamed B.named
  have hlocks := B.notSynchronized
  have hin : meth.name = M.1.name := (name_of_methodNamed B.named B.method).1
  have hl := lv_entry (av.map (m_tv α)) (n := M.2.2.1) (by rw [m_sl_len]; exact hav)
  rw [lg_entry_eq]
  rw [m_args_tl] at hl
  refine K hM1 p la e (headSpec (m_wsM M) (m_rm d mc ms)).room s m (av.map (m_tv α)).toArray below meth c (va_A (m_ws α cA h) s.heap.size) D cA _ α h ⟨hx, hb, hml, hown, fun w hw => hts w (List.mem_cons_of_mem _ hw), hn, hao, fun z => hin.trans z, Nat.le_refl d, Nat.le_refl (40 * d), Nat.le_refl mc, Nat.le_refl ms⟩ ?_ α s.heap [] _ ⟨hK, hP, hD0.self, va_S.rf, fun q hq => Or.inr hq, hc, ho, ht⟩ ⟨fun _ _ => rfl, Nat.le_refl _, fun _ _ => rfl⟩ hl (m_args_ok av 0 hok) (m_oks_nil _)
  intro α' H' locs' pc' ls' hR' hA' hret hos
  obtain ⟨a1, a2, a3, a4, a5, a6, a7, a8⟩ := hR'
  have hq : ∀ t : State, t.heap = H' → s.WarmedH t.vm → MQc D cA α h v hT s.heap.size (av.map (m_tv α)).toArray s (.returned (v.map (m_tv α'))) t := fun t ht' _ => ⟨⟨α', hA', rfl, by rw [ht']; exact a2, a3, a7, a8, hos⟩, a4.F ht'⟩
  unfold m_isret at hret
  split at hret
  · next e1 => exact W.vret hx hb (hr.trans e1) hq a4.2.2 hret
  · next e1 => exact W.iret hx hb (hr.trans e1) hq a4.2.2 hret
  · next e1 => exact W.zret hx hb (hr.trans e1) hret.2 hq a4.2.2 hret.1
  · next e1 => exact W.lret hx hb (hr.trans e1) hq a4.2.2 hret
  · next e1 => exact W.aret hx hb (hr.trans e1) (Or.inl ⟨_, rfl⟩) (Or.inl rfl) hq a4.2.2 hret
  · next e1 => exact W.aret hx hb (hr.trans e1) (Or.inl ⟨_, rfl⟩) (Or.inr ⟨_, rfl⟩) hq a4.2.2 hret
  · cases hret
/-- a call: what it names, its arguments (receiver first), the rest -/
def m_split : Nat → List Value → List Value → Option (List Value × List Value)
  | 0, acc, st => some (acc, st)
  | n + 1, acc, v :: st => m_split n (v :: acc) st
  | _ + 1, _, [] => none
theorem m_split_spec : ∀ (n : Nat) (acc st av r : List Value), m_split n acc st = some (av, r) → acc.reverse ++ st = av.reverse ++ r
  | 0, acc, st, av, r, h => by cases h; rfl
  | n + 1, acc, v :: st, av, r, h => by
    rw [← m_split_spec n (v :: acc) st av r h]
    simp
  | n + 1, acc, [], av, r, h => by cases h
def m_sum (r : List Value) : Nat := (r.map Value.category).sum
def m_inv (M : MD) (pc : Nat) (st : List Value) : Option (MethodName × List Value × Nat × List Value) := match m_find pc M.2.2.2.2.2 with
  | some (.invokestatic _, nx, a, _, _, y, _) => match m_split a [] st with
    | some (av, r) => bif Nat.ble (m_sum r) 8 then some (y, av, nx, r) else none
    | none => none
  | some (.invokevirtual _, nx, a, _, _, y, _) => match m_split a [] st with
    | some (av, r) => bif Nat.ble (m_sum r) 8 then some (y, av, nx, r) else none
    | none => none
  | some (.invokespecial _, nx, a, _, _, y, _) => match m_split a [] st with
    | some (av, r) => bif Nat.ble (m_sum r) 8 then some (y, av, nx, r) else none
    | none => none
  | _ => none
end
section
def m_kok (M : MD) (pc : Nat) (M' : MD) (h : MH) (av : List Value) : Bool := match m_find pc M.2.2.2.2.2 with
  | some (.invokestatic _, _) => Nat.beq M'.2.2.2.2.1.1 0 && Nat.beq av.length M'.2.2.2.2.1.2.1
  | some (.invokevirtual _, _) => match av with
    | .ref i :: As => match h[i]? with
      | some (.inr (ci, _)) => Nat.beq M'.2.2.2.2.1.1 1 && Nat.beq As.length M'.2.2.2.2.1.2.1 && Nat.beq ci M'.2.2.2.2.1.2.2 && Nat.ble 5 i
      | _ => false
    | _ => false
  | some (.invokespecial _, _) => match av with
    | .ref _ :: As => Nat.beq M'.2.2.2.2.1.1 2 && Nat.beq As.length M'.2.2.2.2.1.2.1
    | _ => false
  | _ => false
theorem m_sum_tv (α : Nat → Nat) (r : List Value) : ((r.map (m_tv α)).map fun v => v.category).sum = m_sum r := by
  unfold m_sum
  rw [List.map_map]
  congr 1
  exact List.map_congr_left fun v _ => m_tv_cat α v
theorem m_len_of {y : MethodName} {n : Nat} (h : (parseMethodDescriptor y.desc).map (fun d => d.parameters.length) = some n) : ∀ sig, parseMethodDescriptor y.desc = some sig → n = sig.parameters.length := fun sig e => by
  rw [e] at h
  exact (Option.some.inj h).symm
theorem m_good_kept {args : Array Value} {s : State} (hts : ∀ w ∈ m_good, w.before args s = true) : ∀ w ∈ m_good, ∀ (a' : Array Value) (U : State), s.WarmedH U.vm → w.before a' U = true := by
  intro w hw a' U hW
  exact word_at hW (good_of_word (List.mem_filter.mp hw).2) (hts w hw)
theorem m_wsM_kept {M : MD} (hc : Cond.code M.1 M.2.1 M.2.2.1 M.2.2.2.1 ∈ m_good) {args : Array Value} {s : State} (hts : ∀ w ∈ m_good, w.before args s = true) : ∀ w ∈ m_wsM M, ∀ (a' : Array Value) (U : State), s.WarmedH U.vm → w.before a' U = true := by
  intro w hw
  rcases List.mem_cons.mp hw with rfl | hw
  · exact m_good_kept hts _ hc
  · exact m_good_kept hts _ hw
set_option maxHeartbeats 1000000 in
theorem mw_call {M : MD} {d mc ms : Nat} {v : Option Value} {hT : MH} {cells slots pc : Nat} {l : ML} {st : List Value} {h : MH} {M' : MD} {d' mc' ms' nx : Nat} {av r : List Value} {w : Option Value} {h' : MH}
    (hC : MC M' d' mc' ms' av h w h') (hs : m_inv M pc st = some (M'.1, av, nx, r)) (hk : m_kok M pc M' h av = true) (hd : d' + 1 ≤ d) (hc : cells + mc' ≤ mc) (hsl : slots + ms' ≤ ms)
    (K : MW M d mc ms v hT (cells + mc') (slots + ms') nx l (w.toList ++ r) h') : MW M d mc ms v hT cells slots pc l st h := by
  intro hM p la e R s m args below meth c A D cA Q α0 h0 hX hret α H locs ls hR hA hl hol hos
  obtain ⟨x1, x2, x3, x4, x5, x6, x7, x8, x9, x10, x11, x12⟩ := id hX
  obtain ⟨⟨o1, o2, o3, o4, o5, o6, o7, o8, o9⟩, hC⟩ := hC
  have hF := m_freeA hR
  have hpre := m_preU hR x6 x7 hF
  have h5 := hR.2.2.2.2.2.1.1
  have hrm : (m_rm d' mc' ms').frames + 1 ≤ R.frames ∧ 8 + (M'.2.2.1 + 11) + (m_rm d' mc' ms').locals ≤ R.locals := ⟨by show d' + 1 ≤ _; omega, by show 8 + (M'.2.2.1 + 11) + 40 * d' ≤ _; omega⟩
  have hws := m_wsM_kept (M := M') o1 x5
  have fin : ∀ (e1 : st = av.reverse ++ r) (α' : Nat → Nat) (H' : Heap) (locs' : List Loc), MR s A D cA α' h' H' locs' → MA α h α' h' → m_oks h'.length w.toList → W p la e R s m args below meth c H' locs' (cells + mc') (slots + ms') Q (F0 m nx ls ((w.map (m_tv α')).toList ++ r.map (m_tv α))) := by
    intro e1 α' H' locs' hR' hA' hw'
    have hor : m_oks h.length r := fun z hz => hos z (by rw [e1]; exact List.mem_append_right _ hz)
    have KQ := K hM p la e R s m args below meth c A D cA Q α0 h0 hX hret α' H' locs' ls hR' ⟨fun i hi => (hA'.1 i (Nat.lt_of_lt_of_le hi hA.2.1)).trans (hA.1 i hi), Nat.le_trans hA.2.1 hA'.2.1, fun i hi => (hA'.2.2 i hi).trans (hA.2.2 i hi)⟩ (by rw [m_tl_congr hA'.1 hol]; exact hl) (m_okl_mono hA'.2.1 hol) (fun z hz => by
      rcases List.mem_append.mp hz with hz | hz
      · exact hw' z hz
      · exact m_okv_mono hA'.2.1 (hor z hz))
    rw [List.map_append, m_stack_congr hA'.1 hor] at KQ
    have ew : w.toList.map (m_tv α') = (w.map (m_tv α')).toList := by cases w <;> rfl
    rw [ew] at KQ
    exact KQ
  unfold m_inv at hs
  unfold m_kok at hk
  split at hs
  · next idx nx2 a k pos y w2 hf =>
    rw [hf] at hk
    obtain ⟨hde, hnx, hlo⟩ := m_eok_spec (hM _ (m_find_mem hf))
    simp only [m_len] at hde hnx
    split at hs
    · next av2 r2 hsp =>
      obtain ⟨h8, hs⟩ := m_cond hs
      cases hs
      subst hnx
      have e1 := m_split_spec a [] st _ _ hsp
      simp only [List.reverse_nil, List.nil_append] at e1
      have hoa : m_oks h.length av := fun z hz => hos z (by rw [e1]; exact List.mem_append_left _ (List.mem_reverse.mpr hz))
      simp only [Bool.and_eq_true] at hk
      have k1 := Nat.eq_of_beq_eq_true hk.1
      have k2 := Nat.eq_of_beq_eq_true hk.2
      have h8 : m_sum r ≤ 8 := Nat.le_of_ble_eq_true h8
      simp only [m_lok] at hlo
      cases hkz : (k == 0) with
      | true =>
        rw [hkz] at hlo
        exact m_after (pc := pc) (rest := r.map (m_tv α)) (va_runS (As := av.map (m_tv α)) (Ts := m_good) ⟨x1, x2, x3, x4, x5⟩ (hC la D cA α H.size hoa) ⟨⟨rfl, rfl, hrm.1, hrm.2, hws, List.mem_cons_self, x5 _ o1, x5 _ o2, o4, m_len_of o5, x5 _ (m_wd_spec hlo)⟩, x5 _ (o7 k1)⟩ ⟨m_blind, fun U hU hW => ⟨rfl, hpre U hU hW⟩⟩ rfl (by rw [List.length_map]; exact k2) hl.1 (by rw [e1]; simp [List.map_reverse]) (lv_room (by rw [m_sum_tv]; exact h8)) hde ⟨by omega, by omega⟩) hR (fin e1)
      | false =>
        rw [hkz] at hlo
        exact m_after (pc := pc) (rest := r.map (m_tv α)) (va_runSN (As := av.map (m_tv α)) (Ts := m_good) (host := "ChairOld") ⟨x1, x2, x3, x4, x5⟩ (hC la D cA α H.size hoa) ⟨⟨⟨rfl, rfl, hrm.1, hrm.2, hws, List.mem_cons_self⟩, x5 _ o1, x5 _ o2, o4, m_len_of o5, (x6 _ (m_wn_spec hlo)).use rfl⟩, x5 _ (o7 k1), trivial⟩ ⟨m_blind, fun U hU hW => ⟨rfl, hpre U hU hW⟩⟩ rfl (by rw [List.length_map]; exact k2) hl.1 (by rw [e1]; simp [List.map_reverse]) (lv_room (by rw [m_sum_tv]; exact h8)) hde ⟨by omega, by omega⟩) hR (fin e1)
    · cases hs
  · next idx nx2 a k pos y w2 hf =>
    rw [hf] at hk
    obtain ⟨hde, hnx, hlo⟩ := m_eok_spec (hM _ (m_find_mem hf))
    simp only [m_len] at hde hnx
    split at hs
    · next av2 r2 hsp =>
      obtain ⟨h8, hs⟩ := m_cond hs
      cases hs
      subst hnx
      have e1 := m_split_spec a [] st _ _ hsp
      simp only [List.reverse_nil, List.nil_append] at e1
      have hoa : m_oks h.length av := fun z hz => hos z (by rw [e1]; exact List.mem_append_left _ (List.mem_reverse.mpr hz))
      have h8 : m_sum r ≤ 8 := Nat.le_of_ble_eq_true h8
      simp only [m_lok] at hlo
      simp only [] at hk
      split at hk
      · next i As =>
        split at hk
        · next ci fs hi =>
          simp only [Bool.and_eq_true] at hk
          obtain ⟨⟨⟨k1, k2⟩, k3⟩, k4⟩ := hk
          have k1 := Nat.eq_of_beq_eq_true k1
          have k2 := Nat.eq_of_beq_eq_true k2
          have k3 := Nat.eq_of_beq_eq_true k3
          have k4 : 5 ≤ i := Nat.le_of_ble_eq_true k4
          obtain ⟨p1, p2, p3⟩ := o8 k1
          rw [← k3] at p3
          obtain ⟨q, q1, q2⟩ := Option.map_eq_some_iff.mp p3
          have hrec := va_recv hR.1 hR.2.1 q1 (m_ws_get k4 hi)
          rw [q2] at hrec
          exact m_after (pc := pc) (rest := r.map (m_tv α)) (va_runV (C := M'.1.cls) (b := α i) (As := As.map (m_tv α)) (Ts := m_good) ⟨x1, x2, x3, x4, x5⟩ (hC la D cA α H.size hoa) ⟨⟨rfl, rfl, hrm.1, hrm.2, hws, List.mem_cons_self, x5 _ o1, x5 _ o2, o4, m_len_of o5, x5 _ (m_wd_spec hlo)⟩, x5 _ p1, x5 _ p2⟩ ⟨m_blind, hrec, fun U hU hW => ⟨rfl, hpre U hU hW⟩⟩ rfl (by rw [List.length_map]; exact k2) hl.1 (by rw [e1]; simp [List.map_reverse, m_tv]) (lv_room (by rw [m_sum_tv]; exact h8)) hde ⟨by omega, by omega⟩) hR (fin e1)
        · cases hk
      · cases hk
    · cases hs
  · next idx nx2 a k pos y w2 hf =>
    rw [hf] at hk
    obtain ⟨hde, hnx, hlo⟩ := m_eok_spec (hM _ (m_find_mem hf))
    simp only [m_len] at hde hnx
    split at hs
    · next av2 r2 hsp =>
      obtain ⟨h8, hs⟩ := m_cond hs
      cases hs
      subst hnx
      have e1 := m_split_spec a [] st _ _ hsp
      simp only [List.reverse_nil, List.nil_append] at e1
      have hoa : m_oks h.length av := fun z hz => hos z (by rw [e1]; exact List.mem_append_left _ (List.mem_reverse.mpr hz))
      have h8 : m_sum r ≤ 8 := Nat.le_of_ble_eq_true h8
      simp only [m_lok] at hlo
      simp only [] at hk
      split at hk
      · next i As =>
        simp only [Bool.and_eq_true] at hk
        have k1 := Nat.eq_of_beq_eq_true hk.1
        have k2 := Nat.eq_of_beq_eq_true hk.2
        obtain ⟨p1, p2, p3⟩ := o9 k1
        rw [p3] at o1
        have hcm : Cond.code M'.1 M'.2.1 M'.2.2.1 none ∈ m_wsM M' := List.mem_cons_of_mem _ o1
        cases hkz : (k == 0) with
        | true =>
          rw [hkz] at hlo
          exact m_after (pc := pc) (rest := r.map (m_tv α)) (va_runI (b := α i) (As := As.map (m_tv α)) (Ts := m_good) ⟨x1, x2, x3, x4, x5⟩ (hC la D cA α H.size hoa) ⟨⟨rfl, rfl, hrm.1, hrm.2, hws, hcm, x5 _ o1, x5 _ o2, o4, m_len_of o5, x5 _ (m_wd_spec hlo)⟩, p2, x5 _ p1⟩ ⟨m_blind, fun U hU hW => ⟨rfl, hpre U hU hW⟩⟩ rfl (by rw [List.length_map]; exact k2) hl.1 (by rw [e1]; simp [List.map_reverse, m_tv]) (lv_room (by rw [m_sum_tv]; exact h8)) hde ⟨by omega, by omega⟩) hR (fin e1)
        | false =>
          rw [hkz] at hlo
          exact m_after (pc := pc) (rest := r.map (m_tv α)) (va_runIN (b := α i) (As := As.map (m_tv α)) (Ts := m_good) (host := "ChairOld") ⟨x1, x2, x3, x4, x5⟩ (hC la D cA α H.size hoa) ⟨⟨⟨rfl, rfl, hrm.1, hrm.2, hws, hcm⟩, x5 _ o1, x5 _ o2, o4, m_len_of o5, (x6 _ (m_wn_spec hlo)).use rfl⟩, p2, x5 _ p1⟩ ⟨m_blind, fun U hU hW => ⟨rfl, hpre U hU hW⟩⟩ rfl (by rw [List.length_map]; exact k2) hl.1 (by rw [e1]; simp [List.map_reverse, m_tv]) (lv_room (by rw [m_sum_tv]; exact h8)) hde ⟨by omega, by omega⟩) hR (fin e1)
      · cases hk
    · cases hs
  · cases hs
end
