section
-- ===== PART A: goes FIRST, ahead of the names: the tables' words, and 'selects' of the private methods out of them =====
/-- a private method of a class that the tables say can be made, by its rows of tables_1 -/
def lw_okq (q : MethodName × Nat) : Prop := (q.1.cls ≠ "java/lang/invoke/MethodHandle" ∧ q.1.cls ≠ "java/lang/invoke/VarHandle") ∧ Cond.instantiable q.1.cls q.2 ∈ tables_1 ∧ Cond.privateMethod q.1 ∈ tables_1 ∧ Cond.instanceMethod q.1 ∈ tables_1
theorem lw_p0 : lw_okq (⟨"ChairOld", "addPiece", "(II)V"⟩, 14) := ⟨⟨by decide +kernel, by decide +kernel⟩, List.mem_of_getElem? (i := 16) (by decide +kernel), List.mem_of_getElem? (i := 234) (by decide +kernel), List.mem_of_getElem? (i := 235) (by decide +kernel)⟩
theorem lw_p1 : lw_okq (⟨"ChairOld", "addFromRow", "(II)Z"⟩, 14) := ⟨⟨by decide +kernel, by decide +kernel⟩, List.mem_of_getElem? (i := 16) (by decide +kernel), List.mem_of_getElem? (i := 281) (by decide +kernel), List.mem_of_getElem? (i := 282) (by decide +kernel)⟩
theorem lw_p2 : lw_okq (⟨"ChairOld$Told", "remember", "(III)V"⟩, 6) := ⟨⟨by decide +kernel, by decide +kernel⟩, List.mem_of_getElem? (i := 24) (by decide +kernel), List.mem_of_getElem? (i := 311) (by decide +kernel), List.mem_of_getElem? (i := 312) (by decide +kernel)⟩
theorem lw_p3 : lw_okq (⟨"ChairOld$Told", "dropOldest", "()V"⟩, 6) := ⟨⟨by decide +kernel, by decide +kernel⟩, List.mem_of_getElem? (i := 24) (by decide +kernel), List.mem_of_getElem? (i := 315) (by decide +kernel), List.mem_of_getElem? (i := 316) (by decide +kernel)⟩
theorem lw_p4 : lw_okq (⟨"ChairOld$Told", "set", "(II)V"⟩, 6) := ⟨⟨by decide +kernel, by decide +kernel⟩, List.mem_of_getElem? (i := 24) (by decide +kernel), List.mem_of_getElem? (i := 322) (by decide +kernel), List.mem_of_getElem? (i := 323) (by decide +kernel)⟩
theorem lw_p5 : lw_okq (⟨"ChairOld", "pieceAt", "(I)LChairOld$Piece;"⟩, 14) := ⟨⟨by decide +kernel, by decide +kernel⟩, List.mem_of_getElem? (i := 16) (by decide +kernel), List.mem_of_getElem? (i := 330) (by decide +kernel), List.mem_of_getElem? (i := 331) (by decide +kernel)⟩
theorem lw_p6 : lw_okq (⟨"ChairOld", "numberTold", "(II)I"⟩, 14) := ⟨⟨by decide +kernel, by decide +kernel⟩, List.mem_of_getElem? (i := 16) (by decide +kernel), List.mem_of_getElem? (i := 352) (by decide +kernel), List.mem_of_getElem? (i := 353) (by decide +kernel)⟩
theorem lw_p7 : lw_okq (⟨"ChairOld$Reader", "line", "()V"⟩, 6) := ⟨⟨by decide +kernel, by decide +kernel⟩, List.mem_of_getElem? (i := 67) (by decide +kernel), List.mem_of_getElem? (i := 373) (by decide +kernel), List.mem_of_getElem? (i := 374) (by decide +kernel)⟩
theorem lw_p8 : lw_okq (⟨"ChairOld$Reader", "level", "(II)V"⟩, 6) := ⟨⟨by decide +kernel, by decide +kernel⟩, List.mem_of_getElem? (i := 67) (by decide +kernel), List.mem_of_getElem? (i := 377) (by decide +kernel), List.mem_of_getElem? (i := 378) (by decide +kernel)⟩
theorem lw_p9 : lw_okq (⟨"ChairOld$Reader", "operand", "(I)V"⟩, 6) := ⟨⟨by decide +kernel, by decide +kernel⟩, List.mem_of_getElem? (i := 67) (by decide +kernel), List.mem_of_getElem? (i := 381) (by decide +kernel), List.mem_of_getElem? (i := 382) (by decide +kernel)⟩
theorem lw_p10 : lw_okq (⟨"ChairOld$Reader", "sign", "()I"⟩, 6) := ⟨⟨by decide +kernel, by decide +kernel⟩, List.mem_of_getElem? (i := 67) (by decide +kernel), List.mem_of_getElem? (i := 385) (by decide +kernel), List.mem_of_getElem? (i := 386) (by decide +kernel)⟩
theorem lw_p11 : lw_okq (⟨"ChairOld$Reader", "digits", "()V"⟩, 6) := ⟨⟨by decide +kernel, by decide +kernel⟩, List.mem_of_getElem? (i := 67) (by decide +kernel), List.mem_of_getElem? (i := 392) (by decide +kernel), List.mem_of_getElem? (i := 393) (by decide +kernel)⟩
theorem lw_p12 : lw_okq (⟨"ChairOld$Reader", "emit", "(I)V"⟩, 6) := ⟨⟨by decide +kernel, by decide +kernel⟩, List.mem_of_getElem? (i := 67) (by decide +kernel), List.mem_of_getElem? (i := 396) (by decide +kernel), List.mem_of_getElem? (i := 397) (by decide +kernel)⟩
theorem lw_p13 : lw_okq (⟨"ChairOld$Reader", "opened", "(II)V"⟩, 6) := ⟨⟨by decide +kernel, by decide +kernel⟩, List.mem_of_getElem? (i := 67) (by decide +kernel), List.mem_of_getElem? (i := 400) (by decide +kernel), List.mem_of_getElem? (i := 401) (by decide +kernel)⟩
theorem lw_p14 : lw_okq (⟨"ChairOld$Scale", "weight", "(LChairOld$Piece;IIII)J"⟩, 6) := ⟨⟨by decide +kernel, by decide +kernel⟩, List.mem_of_getElem? (i := 95) (by decide +kernel), List.mem_of_getElem? (i := 465) (by decide +kernel), List.mem_of_getElem? (i := 466) (by decide +kernel)⟩
theorem lw_p15 : lw_okq (⟨"ChairOld$Scale", "weightFound", "(LChairOld$Piece;II)J"⟩, 6) := ⟨⟨by decide +kernel, by decide +kernel⟩, List.mem_of_getElem? (i := 95) (by decide +kernel), List.mem_of_getElem? (i := 505) (by decide +kernel), List.mem_of_getElem? (i := 506) (by decide +kernel)⟩
def lw_privs_1 : List (MethodName × Nat) := [(⟨"ChairOld", "addPiece", "(II)V"⟩, 14), (⟨"ChairOld", "addFromRow", "(II)Z"⟩, 14), (⟨"ChairOld$Told", "remember", "(III)V"⟩, 6), (⟨"ChairOld$Told", "dropOldest", "()V"⟩, 6), (⟨"ChairOld$Told", "set", "(II)V"⟩, 6), (⟨"ChairOld", "pieceAt", "(I)LChairOld$Piece;"⟩, 14), (⟨"ChairOld", "numberTold", "(II)I"⟩, 14), (⟨"ChairOld$Reader", "line", "()V"⟩, 6), (⟨"ChairOld$Reader", "level", "(II)V"⟩, 6), (⟨"ChairOld$Reader", "operand", "(I)V"⟩, 6), (⟨"ChairOld$Reader", "sign", "()I"⟩, 6), (⟨"ChairOld$Reader", "digits", "()V"⟩, 6), (⟨"ChairOld$Reader", "emit", "(I)V"⟩, 6), (⟨"ChairOld$Reader", "opened", "(II)V"⟩, 6), (⟨"ChairOld$Scale", "weight", "(LChairOld$Piece;IIII)J"⟩, 6), (⟨"ChairOld$Scale", "weightFound", "(LChairOld$Piece;II)J"⟩, 6)]
theorem lw_r1 : ∀ q ∈ lw_privs_1, lw_okq q := List.forall_mem_cons.mpr ⟨lw_p0, List.forall_mem_cons.mpr ⟨lw_p1, List.forall_mem_cons.mpr ⟨lw_p2, List.forall_mem_cons.mpr ⟨lw_p3, List.forall_mem_cons.mpr ⟨lw_p4, List.forall_mem_cons.mpr ⟨lw_p5, List.forall_mem_cons.mpr ⟨lw_p6, List.forall_mem_cons.mpr ⟨lw_p7, List.forall_mem_cons.mpr ⟨lw_p8, List.forall_mem_cons.mpr ⟨lw_p9, List.forall_mem_cons.mpr ⟨lw_p10, List.forall_mem_cons.mpr ⟨lw_p11, List.forall_mem_cons.mpr ⟨lw_p12, List.forall_mem_cons.mpr ⟨lw_p13, List.forall_mem_cons.mpr ⟨lw_p14, List.forall_mem_cons.mpr ⟨lw_p15, fun _ h => absurd h List.not_mem_nil⟩⟩⟩⟩⟩⟩⟩⟩⟩⟩⟩⟩⟩⟩⟩⟩
theorem lw_p16 : lw_okq (⟨"ChairOld", "allTrue", "()I"⟩, 14) := ⟨⟨by decide +kernel, by decide +kernel⟩, List.mem_of_getElem? (i := 16) (by decide +kernel), List.mem_of_getElem? (i := 521) (by decide +kernel), List.mem_of_getElem? (i := 522) (by decide +kernel)⟩
theorem lw_p17 : lw_okq (⟨"ChairOld", "atLeastTwoNot", "()I"⟩, 14) := ⟨⟨by decide +kernel, by decide +kernel⟩, List.mem_of_getElem? (i := 16) (by decide +kernel), List.mem_of_getElem? (i := 525) (by decide +kernel), List.mem_of_getElem? (i := 526) (by decide +kernel)⟩
theorem lw_p18 : lw_okq (⟨"ChairOld", "whenTrue", "(LChairOld$Piece;)I"⟩, 14) := ⟨⟨by decide +kernel, by decide +kernel⟩, List.mem_of_getElem? (i := 16) (by decide +kernel), List.mem_of_getElem? (i := 534) (by decide +kernel), List.mem_of_getElem? (i := 535) (by decide +kernel)⟩
theorem lw_p19 : lw_okq (⟨"ChairOld$Scale", "splitProducts", "(IZI)V"⟩, 6) := ⟨⟨by decide +kernel, by decide +kernel⟩, List.mem_of_getElem? (i := 95) (by decide +kernel), List.mem_of_getElem? (i := 570) (by decide +kernel), List.mem_of_getElem? (i := 571) (by decide +kernel)⟩
theorem lw_p20 : lw_okq (⟨"ChairOld$Scale", "addProducts", "(I)J"⟩, 6) := ⟨⟨by decide +kernel, by decide +kernel⟩, List.mem_of_getElem? (i := 95) (by decide +kernel), List.mem_of_getElem? (i := 574) (by decide +kernel), List.mem_of_getElem? (i := 575) (by decide +kernel)⟩
theorem lw_p21 : lw_okq (⟨"ChairOld", "bestPlan", "(IIJ)I"⟩, 14) := ⟨⟨by decide +kernel, by decide +kernel⟩, List.mem_of_getElem? (i := 16) (by decide +kernel), List.mem_of_getElem? (i := 587) (by decide +kernel), List.mem_of_getElem? (i := 588) (by decide +kernel)⟩
theorem lw_p22 : lw_okq (⟨"ChairOld", "beliefInMade", "(LChairOld$Piece;I)I"⟩, 14) := ⟨⟨by decide +kernel, by decide +kernel⟩, List.mem_of_getElem? (i := 16) (by decide +kernel), List.mem_of_getElem? (i := 600) (by decide +kernel), List.mem_of_getElem? (i := 601) (by decide +kernel)⟩
theorem lw_p23 : lw_okq (⟨"ChairOld", "worthOf", "(LChairOld$Piece;)I"⟩, 14) := ⟨⟨by decide +kernel, by decide +kernel⟩, List.mem_of_getElem? (i := 16) (by decide +kernel), List.mem_of_getElem? (i := 623) (by decide +kernel), List.mem_of_getElem? (i := 624) (by decide +kernel)⟩
theorem lw_p24 : lw_okq (⟨"ChairOld$Bodies", "run", "(IIIII)I"⟩, 4) := ⟨⟨by decide +kernel, by decide +kernel⟩, List.mem_of_getElem? (i := 142) (by decide +kernel), List.mem_of_getElem? (i := 709) (by decide +kernel), List.mem_of_getElem? (i := 710) (by decide +kernel)⟩
theorem lw_p25 : lw_okq (⟨"ChairOld$Bodies", "note", "(I)V"⟩, 4) := ⟨⟨by decide +kernel, by decide +kernel⟩, List.mem_of_getElem? (i := 142) (by decide +kernel), List.mem_of_getElem? (i := 724) (by decide +kernel), List.mem_of_getElem? (i := 725) (by decide +kernel)⟩
theorem lw_p26 : lw_okq (⟨"ChairOld$Shelves", "reaches", "(III)Z"⟩, 4) := ⟨⟨by decide +kernel, by decide +kernel⟩, List.mem_of_getElem? (i := 163) (by decide +kernel), List.mem_of_getElem? (i := 787) (by decide +kernel), List.mem_of_getElem? (i := 788) (by decide +kernel)⟩
theorem lw_p27 : lw_okq (⟨"ChairOld", "marksLookedFor", "()I"⟩, 14) := ⟨⟨by decide +kernel, by decide +kernel⟩, List.mem_of_getElem? (i := 16) (by decide +kernel), List.mem_of_getElem? (i := 808) (by decide +kernel), List.mem_of_getElem? (i := 809) (by decide +kernel)⟩
theorem lw_p28 : lw_okq (⟨"ChairOldModel", "adds", "(II)V"⟩, 44) := ⟨⟨by decide +kernel, by decide +kernel⟩, List.mem_of_getElem? (i := 818) (by decide +kernel), List.mem_of_getElem? (i := 973) (by decide +kernel), List.mem_of_getElem? (i := 974) (by decide +kernel)⟩
theorem lw_p29 : lw_okq (⟨"ChairOldModel", "becomes", "(II)I"⟩, 44) := ⟨⟨by decide +kernel, by decide +kernel⟩, List.mem_of_getElem? (i := 818) (by decide +kernel), List.mem_of_getElem? (i := 994) (by decide +kernel), List.mem_of_getElem? (i := 995) (by decide +kernel)⟩
theorem lw_p30 : lw_okq (⟨"ChairOldModel", "isPm", "(I)Z"⟩, 44) := ⟨⟨by decide +kernel, by decide +kernel⟩, List.mem_of_getElem? (i := 818) (by decide +kernel), List.mem_of_getElem? (i := 1005) (by decide +kernel), List.mem_of_getElem? (i := 1006) (by decide +kernel)⟩
theorem lw_p31 : lw_okq (⟨"ChairOldModel", "isPart", "(I)Z"⟩, 44) := ⟨⟨by decide +kernel, by decide +kernel⟩, List.mem_of_getElem? (i := 818) (by decide +kernel), List.mem_of_getElem? (i := 1009) (by decide +kernel), List.mem_of_getElem? (i := 1010) (by decide +kernel)⟩
def lw_privs_2 : List (MethodName × Nat) := [(⟨"ChairOld", "allTrue", "()I"⟩, 14), (⟨"ChairOld", "atLeastTwoNot", "()I"⟩, 14), (⟨"ChairOld", "whenTrue", "(LChairOld$Piece;)I"⟩, 14), (⟨"ChairOld$Scale", "splitProducts", "(IZI)V"⟩, 6), (⟨"ChairOld$Scale", "addProducts", "(I)J"⟩, 6), (⟨"ChairOld", "bestPlan", "(IIJ)I"⟩, 14), (⟨"ChairOld", "beliefInMade", "(LChairOld$Piece;I)I"⟩, 14), (⟨"ChairOld", "worthOf", "(LChairOld$Piece;)I"⟩, 14), (⟨"ChairOld$Bodies", "run", "(IIIII)I"⟩, 4), (⟨"ChairOld$Bodies", "note", "(I)V"⟩, 4), (⟨"ChairOld$Shelves", "reaches", "(III)Z"⟩, 4), (⟨"ChairOld", "marksLookedFor", "()I"⟩, 14), (⟨"ChairOldModel", "adds", "(II)V"⟩, 44), (⟨"ChairOldModel", "becomes", "(II)I"⟩, 44), (⟨"ChairOldModel", "isPm", "(I)Z"⟩, 44), (⟨"ChairOldModel", "isPart", "(I)Z"⟩, 44)]
theorem lw_r2 : ∀ q ∈ lw_privs_2, lw_okq q := List.forall_mem_cons.mpr ⟨lw_p16, List.forall_mem_cons.mpr ⟨lw_p17, List.forall_mem_cons.mpr ⟨lw_p18, List.forall_mem_cons.mpr ⟨lw_p19, List.forall_mem_cons.mpr ⟨lw_p20, List.forall_mem_cons.mpr ⟨lw_p21, List.forall_mem_cons.mpr ⟨lw_p22, List.forall_mem_cons.mpr ⟨lw_p23, List.forall_mem_cons.mpr ⟨lw_p24, List.forall_mem_cons.mpr ⟨lw_p25, List.forall_mem_cons.mpr ⟨lw_p26, List.forall_mem_cons.mpr ⟨lw_p27, List.forall_mem_cons.mpr ⟨lw_p28, List.forall_mem_cons.mpr ⟨lw_p29, List.forall_mem_cons.mpr ⟨lw_p30, List.forall_mem_cons.mpr ⟨lw_p31, fun _ h => absurd h List.not_mem_nil⟩⟩⟩⟩⟩⟩⟩⟩⟩⟩⟩⟩⟩⟩⟩⟩
theorem lw_p32 : lw_okq (⟨"ChairOldModel", "workOut", "(II)I"⟩, 44) := ⟨⟨by decide +kernel, by decide +kernel⟩, List.mem_of_getElem? (i := 818) (by decide +kernel), List.mem_of_getElem? (i := 1033) (by decide +kernel), List.mem_of_getElem? (i := 1034) (by decide +kernel)⟩
theorem lw_p33 : lw_okq (⟨"ChairOldModel", "either", "()I"⟩, 44) := ⟨⟨by decide +kernel, by decide +kernel⟩, List.mem_of_getElem? (i := 818) (by decide +kernel), List.mem_of_getElem? (i := 1037) (by decide +kernel), List.mem_of_getElem? (i := 1038) (by decide +kernel)⟩
theorem lw_p34 : lw_okq (⟨"ChairOldModel", "both", "()I"⟩, 44) := ⟨⟨by decide +kernel, by decide +kernel⟩, List.mem_of_getElem? (i := 818) (by decide +kernel), List.mem_of_getElem? (i := 1041) (by decide +kernel), List.mem_of_getElem? (i := 1042) (by decide +kernel)⟩
theorem lw_p35 : lw_okq (⟨"ChairOldModel", "compared", "()I"⟩, 44) := ⟨⟨by decide +kernel, by decide +kernel⟩, List.mem_of_getElem? (i := 818) (by decide +kernel), List.mem_of_getElem? (i := 1045) (by decide +kernel), List.mem_of_getElem? (i := 1046) (by decide +kernel)⟩
theorem lw_p36 : lw_okq (⟨"ChairOldModel", "sums", "()I"⟩, 44) := ⟨⟨by decide +kernel, by decide +kernel⟩, List.mem_of_getElem? (i := 818) (by decide +kernel), List.mem_of_getElem? (i := 1049) (by decide +kernel), List.mem_of_getElem? (i := 1050) (by decide +kernel)⟩
theorem lw_p37 : lw_okq (⟨"ChairOldModel", "product", "()I"⟩, 44) := ⟨⟨by decide +kernel, by decide +kernel⟩, List.mem_of_getElem? (i := 818) (by decide +kernel), List.mem_of_getElem? (i := 1053) (by decide +kernel), List.mem_of_getElem? (i := 1054) (by decide +kernel)⟩
theorem lw_p38 : lw_okq (⟨"ChairOldModel", "one", "()I"⟩, 44) := ⟨⟨by decide +kernel, by decide +kernel⟩, List.mem_of_getElem? (i := 818) (by decide +kernel), List.mem_of_getElem? (i := 1057) (by decide +kernel), List.mem_of_getElem? (i := 1058) (by decide +kernel)⟩
theorem lw_p39 : lw_okq (⟨"ChairOldModel", "byteAt", "()I"⟩, 44) := ⟨⟨by decide +kernel, by decide +kernel⟩, List.mem_of_getElem? (i := 818) (by decide +kernel), List.mem_of_getElem? (i := 1061) (by decide +kernel), List.mem_of_getElem? (i := 1062) (by decide +kernel)⟩
theorem lw_p40 : lw_okq (⟨"ChairOldModel", "wrong", "()I"⟩, 44) := ⟨⟨by decide +kernel, by decide +kernel⟩, List.mem_of_getElem? (i := 818) (by decide +kernel), List.mem_of_getElem? (i := 1065) (by decide +kernel), List.mem_of_getElem? (i := 1066) (by decide +kernel)⟩
theorem lw_p41 : lw_okq (⟨"ChairOldModel", "takes", "(I)Z"⟩, 44) := ⟨⟨by decide +kernel, by decide +kernel⟩, List.mem_of_getElem? (i := 818) (by decide +kernel), List.mem_of_getElem? (i := 1069) (by decide +kernel), List.mem_of_getElem? (i := 1070) (by decide +kernel)⟩
theorem lw_p42 : lw_okq (⟨"ChairOldModel", "numberOf", "(IIII)I"⟩, 44) := ⟨⟨by decide +kernel, by decide +kernel⟩, List.mem_of_getElem? (i := 818) (by decide +kernel), List.mem_of_getElem? (i := 1080) (by decide +kernel), List.mem_of_getElem? (i := 1081) (by decide +kernel)⟩
theorem lw_p43 : lw_okq (⟨"ChairOldModel", "isPk", "(I)Z"⟩, 44) := ⟨⟨by decide +kernel, by decide +kernel⟩, List.mem_of_getElem? (i := 818) (by decide +kernel), List.mem_of_getElem? (i := 1088) (by decide +kernel), List.mem_of_getElem? (i := 1089) (by decide +kernel)⟩
theorem lw_p44 : lw_okq (⟨"ChairOldModel", "weighsPart", "(I)V"⟩, 44) := ⟨⟨by decide +kernel, by decide +kernel⟩, List.mem_of_getElem? (i := 818) (by decide +kernel), List.mem_of_getElem? (i := 1093) (by decide +kernel), List.mem_of_getElem? (i := 1094) (by decide +kernel)⟩
theorem lw_p45 : lw_okq (⟨"ChairOldModel", "looksAt", "(I)V"⟩, 44) := ⟨⟨by decide +kernel, by decide +kernel⟩, List.mem_of_getElem? (i := 818) (by decide +kernel), List.mem_of_getElem? (i := 1097) (by decide +kernel), List.mem_of_getElem? (i := 1098) (by decide +kernel)⟩
theorem lw_p46 : lw_okq (⟨"ChairOldModel", "weighs", "()V"⟩, 44) := ⟨⟨by decide +kernel, by decide +kernel⟩, List.mem_of_getElem? (i := 818) (by decide +kernel), List.mem_of_getElem? (i := 1101) (by decide +kernel), List.mem_of_getElem? (i := 1102) (by decide +kernel)⟩
theorem lw_p47 : lw_okq (⟨"ChairOldModel", "percentNow", "(I)I"⟩, 44) := ⟨⟨by decide +kernel, by decide +kernel⟩, List.mem_of_getElem? (i := 818) (by decide +kernel), List.mem_of_getElem? (i := 1113) (by decide +kernel), List.mem_of_getElem? (i := 1114) (by decide +kernel)⟩
def lw_privs_3 : List (MethodName × Nat) := [(⟨"ChairOldModel", "workOut", "(II)I"⟩, 44), (⟨"ChairOldModel", "either", "()I"⟩, 44), (⟨"ChairOldModel", "both", "()I"⟩, 44), (⟨"ChairOldModel", "compared", "()I"⟩, 44), (⟨"ChairOldModel", "sums", "()I"⟩, 44), (⟨"ChairOldModel", "product", "()I"⟩, 44), (⟨"ChairOldModel", "one", "()I"⟩, 44), (⟨"ChairOldModel", "byteAt", "()I"⟩, 44), (⟨"ChairOldModel", "wrong", "()I"⟩, 44), (⟨"ChairOldModel", "takes", "(I)Z"⟩, 44), (⟨"ChairOldModel", "numberOf", "(IIII)I"⟩, 44), (⟨"ChairOldModel", "isPk", "(I)Z"⟩, 44), (⟨"ChairOldModel", "weighsPart", "(I)V"⟩, 44), (⟨"ChairOldModel", "looksAt", "(I)V"⟩, 44), (⟨"ChairOldModel", "weighs", "()V"⟩, 44), (⟨"ChairOldModel", "percentNow", "(I)I"⟩, 44)]
theorem lw_r3 : ∀ q ∈ lw_privs_3, lw_okq q := List.forall_mem_cons.mpr ⟨lw_p32, List.forall_mem_cons.mpr ⟨lw_p33, List.forall_mem_cons.mpr ⟨lw_p34, List.forall_mem_cons.mpr ⟨lw_p35, List.forall_mem_cons.mpr ⟨lw_p36, List.forall_mem_cons.mpr ⟨lw_p37, List.forall_mem_cons.mpr ⟨lw_p38, List.forall_mem_cons.mpr ⟨lw_p39, List.forall_mem_cons.mpr ⟨lw_p40, List.forall_mem_cons.mpr ⟨lw_p41, List.forall_mem_cons.mpr ⟨lw_p42, List.forall_mem_cons.mpr ⟨lw_p43, List.forall_mem_cons.mpr ⟨lw_p44, List.forall_mem_cons.mpr ⟨lw_p45, List.forall_mem_cons.mpr ⟨lw_p46, List.forall_mem_cons.mpr ⟨lw_p47, fun _ h => absurd h List.not_mem_nil⟩⟩⟩⟩⟩⟩⟩⟩⟩⟩⟩⟩⟩⟩⟩⟩
theorem lw_p48 : lw_okq (⟨"ChairOldModel", "mostOf", "()I"⟩, 44) := ⟨⟨by decide +kernel, by decide +kernel⟩, List.mem_of_getElem? (i := 818) (by decide +kernel), List.mem_of_getElem? (i := 1121) (by decide +kernel), List.mem_of_getElem? (i := 1122) (by decide +kernel)⟩
theorem lw_p49 : lw_okq (⟨"ChairOldModel", "whenNow", "(I)I"⟩, 44) := ⟨⟨by decide +kernel, by decide +kernel⟩, List.mem_of_getElem? (i := 818) (by decide +kernel), List.mem_of_getElem? (i := 1129) (by decide +kernel), List.mem_of_getElem? (i := 1130) (by decide +kernel)⟩
theorem lw_p50 : lw_okq (⟨"ChairOldModel", "unlooked", "(I)I"⟩, 44) := ⟨⟨by decide +kernel, by decide +kernel⟩, List.mem_of_getElem? (i := 818) (by decide +kernel), List.mem_of_getElem? (i := 1151) (by decide +kernel), List.mem_of_getElem? (i := 1152) (by decide +kernel)⟩
theorem lw_p51 : lw_okq (⟨"ChairOldModel", "namedBy", "(IIJ)I"⟩, 44) := ⟨⟨by decide +kernel, by decide +kernel⟩, List.mem_of_getElem? (i := 818) (by decide +kernel), List.mem_of_getElem? (i := 1155) (by decide +kernel), List.mem_of_getElem? (i := 1156) (by decide +kernel)⟩
theorem lw_p52 : lw_okq (⟨"ChairOldModel", "minutesOf", "(I)I"⟩, 44) := ⟨⟨by decide +kernel, by decide +kernel⟩, List.mem_of_getElem? (i := 818) (by decide +kernel), List.mem_of_getElem? (i := 1165) (by decide +kernel), List.mem_of_getElem? (i := 1166) (by decide +kernel)⟩
theorem lw_p53 : lw_okq (⟨"ChairOldModel", "believedBy", "(I)I"⟩, 44) := ⟨⟨by decide +kernel, by decide +kernel⟩, List.mem_of_getElem? (i := 818) (by decide +kernel), List.mem_of_getElem? (i := 1173) (by decide +kernel), List.mem_of_getElem? (i := 1174) (by decide +kernel)⟩
theorem lw_p54 : lw_okq (⟨"ChairOldModel", "costOf", "(I)I"⟩, 44) := ⟨⟨by decide +kernel, by decide +kernel⟩, List.mem_of_getElem? (i := 818) (by decide +kernel), List.mem_of_getElem? (i := 1181) (by decide +kernel), List.mem_of_getElem? (i := 1182) (by decide +kernel)⟩
theorem lw_p55 : lw_okq (⟨"ChairOldModel", "priceOf", "(I)I"⟩, 44) := ⟨⟨by decide +kernel, by decide +kernel⟩, List.mem_of_getElem? (i := 818) (by decide +kernel), List.mem_of_getElem? (i := 1193) (by decide +kernel), List.mem_of_getElem? (i := 1194) (by decide +kernel)⟩
theorem lw_p56 : lw_okq (⟨"ChairOldModel", "clash", "()I"⟩, 44) := ⟨⟨by decide +kernel, by decide +kernel⟩, List.mem_of_getElem? (i := 818) (by decide +kernel), List.mem_of_getElem? (i := 1205) (by decide +kernel), List.mem_of_getElem? (i := 1206) (by decide +kernel)⟩
theorem lw_p57 : lw_okq (⟨"ChairOldModel", "gaps", "()I"⟩, 44) := ⟨⟨by decide +kernel, by decide +kernel⟩, List.mem_of_getElem? (i := 818) (by decide +kernel), List.mem_of_getElem? (i := 1209) (by decide +kernel), List.mem_of_getElem? (i := 1210) (by decide +kernel)⟩
theorem lw_p58 : lw_okq (⟨"ChairOldModel", "houseOf", "(I)I"⟩, 44) := ⟨⟨by decide +kernel, by decide +kernel⟩, List.mem_of_getElem? (i := 818) (by decide +kernel), List.mem_of_getElem? (i := 1213) (by decide +kernel), List.mem_of_getElem? (i := 1214) (by decide +kernel)⟩
theorem lw_p59 : lw_okq (⟨"ChairOldModel", "isBody", "(I)Z"⟩, 44) := ⟨⟨by decide +kernel, by decide +kernel⟩, List.mem_of_getElem? (i := 818) (by decide +kernel), List.mem_of_getElem? (i := 1244) (by decide +kernel), List.mem_of_getElem? (i := 1245) (by decide +kernel)⟩
theorem lw_p60 : lw_okq (⟨"ChairOldModel", "agesAs", "(II)I"⟩, 44) := ⟨⟨by decide +kernel, by decide +kernel⟩, List.mem_of_getElem? (i := 818) (by decide +kernel), List.mem_of_getElem? (i := 1248) (by decide +kernel), List.mem_of_getElem? (i := 1249) (by decide +kernel)⟩
theorem lw_p61 : lw_okq (⟨"ChairOldModel", "begins", "(I)V"⟩, 44) := ⟨⟨by decide +kernel, by decide +kernel⟩, List.mem_of_getElem? (i := 818) (by decide +kernel), List.mem_of_getElem? (i := 1252) (by decide +kernel), List.mem_of_getElem? (i := 1253) (by decide +kernel)⟩
theorem lw_p62 : lw_okq (⟨"ChairOldModel", "joinsAs", "(II)I"⟩, 44) := ⟨⟨by decide +kernel, by decide +kernel⟩, List.mem_of_getElem? (i := 818) (by decide +kernel), List.mem_of_getElem? (i := 1256) (by decide +kernel), List.mem_of_getElem? (i := 1257) (by decide +kernel)⟩
theorem lw_p63 : lw_okq (⟨"ChairOldModel", "showsAs", "(II)I"⟩, 44) := ⟨⟨by decide +kernel, by decide +kernel⟩, List.mem_of_getElem? (i := 818) (by decide +kernel), List.mem_of_getElem? (i := 1260) (by decide +kernel), List.mem_of_getElem? (i := 1261) (by decide +kernel)⟩
def lw_privs_4 : List (MethodName × Nat) := [(⟨"ChairOldModel", "mostOf", "()I"⟩, 44), (⟨"ChairOldModel", "whenNow", "(I)I"⟩, 44), (⟨"ChairOldModel", "unlooked", "(I)I"⟩, 44), (⟨"ChairOldModel", "namedBy", "(IIJ)I"⟩, 44), (⟨"ChairOldModel", "minutesOf", "(I)I"⟩, 44), (⟨"ChairOldModel", "believedBy", "(I)I"⟩, 44), (⟨"ChairOldModel", "costOf", "(I)I"⟩, 44), (⟨"ChairOldModel", "priceOf", "(I)I"⟩, 44), (⟨"ChairOldModel", "clash", "()I"⟩, 44), (⟨"ChairOldModel", "gaps", "()I"⟩, 44), (⟨"ChairOldModel", "houseOf", "(I)I"⟩, 44), (⟨"ChairOldModel", "isBody", "(I)Z"⟩, 44), (⟨"ChairOldModel", "agesAs", "(II)I"⟩, 44), (⟨"ChairOldModel", "begins", "(I)V"⟩, 44), (⟨"ChairOldModel", "joinsAs", "(II)I"⟩, 44), (⟨"ChairOldModel", "showsAs", "(II)I"⟩, 44)]
theorem lw_r4 : ∀ q ∈ lw_privs_4, lw_okq q := List.forall_mem_cons.mpr ⟨lw_p48, List.forall_mem_cons.mpr ⟨lw_p49, List.forall_mem_cons.mpr ⟨lw_p50, List.forall_mem_cons.mpr ⟨lw_p51, List.forall_mem_cons.mpr ⟨lw_p52, List.forall_mem_cons.mpr ⟨lw_p53, List.forall_mem_cons.mpr ⟨lw_p54, List.forall_mem_cons.mpr ⟨lw_p55, List.forall_mem_cons.mpr ⟨lw_p56, List.forall_mem_cons.mpr ⟨lw_p57, List.forall_mem_cons.mpr ⟨lw_p58, List.forall_mem_cons.mpr ⟨lw_p59, List.forall_mem_cons.mpr ⟨lw_p60, List.forall_mem_cons.mpr ⟨lw_p61, List.forall_mem_cons.mpr ⟨lw_p62, List.forall_mem_cons.mpr ⟨lw_p63, fun _ h => absurd h List.not_mem_nil⟩⟩⟩⟩⟩⟩⟩⟩⟩⟩⟩⟩⟩⟩⟩⟩
theorem lw_p64 : lw_okq (⟨"ChairOldModel", "tellsAs", "(II)I"⟩, 44) := ⟨⟨by decide +kernel, by decide +kernel⟩, List.mem_of_getElem? (i := 818) (by decide +kernel), List.mem_of_getElem? (i := 1264) (by decide +kernel), List.mem_of_getElem? (i := 1265) (by decide +kernel)⟩
theorem lw_p65 : lw_okq (⟨"ChairOldModel", "refusal", "(II)I"⟩, 44) := ⟨⟨by decide +kernel, by decide +kernel⟩, List.mem_of_getElem? (i := 818) (by decide +kernel), List.mem_of_getElem? (i := 1285) (by decide +kernel), List.mem_of_getElem? (i := 1286) (by decide +kernel)⟩
theorem lw_p66 : lw_okq (⟨"ChairOldModel", "kindOf", "(I)I"⟩, 44) := ⟨⟨by decide +kernel, by decide +kernel⟩, List.mem_of_getElem? (i := 818) (by decide +kernel), List.mem_of_getElem? (i := 1304) (by decide +kernel), List.mem_of_getElem? (i := 1305) (by decide +kernel)⟩
theorem lw_p67 : lw_okq (⟨"ChairOldModel", "lookedFor", "()I"⟩, 44) := ⟨⟨by decide +kernel, by decide +kernel⟩, List.mem_of_getElem? (i := 818) (by decide +kernel), List.mem_of_getElem? (i := 1315) (by decide +kernel), List.mem_of_getElem? (i := 1316) (by decide +kernel)⟩
def lw_privs_5 : List (MethodName × Nat) := [(⟨"ChairOldModel", "tellsAs", "(II)I"⟩, 44), (⟨"ChairOldModel", "refusal", "(II)I"⟩, 44), (⟨"ChairOldModel", "kindOf", "(I)I"⟩, 44), (⟨"ChairOldModel", "lookedFor", "()I"⟩, 44)]
theorem lw_r5 : ∀ q ∈ lw_privs_5, lw_okq q := List.forall_mem_cons.mpr ⟨lw_p64, List.forall_mem_cons.mpr ⟨lw_p65, List.forall_mem_cons.mpr ⟨lw_p66, List.forall_mem_cons.mpr ⟨lw_p67, fun _ h => absurd h List.not_mem_nil⟩⟩⟩⟩
def lw_privs : List (MethodName × Nat) := lw_privs_1 ++ (lw_privs_2 ++ (lw_privs_3 ++ (lw_privs_4 ++ (lw_privs_5))))
def lw_tbl : List Cond := k2_sels lw_privs ++ tables_1
theorem lw_privs_ok : ∀ q ∈ lw_privs, lw_okq q := by
  show ∀ q ∈ lw_privs_1 ++ (lw_privs_2 ++ (lw_privs_3 ++ (lw_privs_4 ++ (lw_privs_5)))), lw_okq q
  exact List.forall_mem_append.mpr ⟨lw_r1, List.forall_mem_append.mpr ⟨lw_r2, List.forall_mem_append.mpr ⟨lw_r3, List.forall_mem_append.mpr ⟨lw_r4, lw_r5⟩⟩⟩⟩
end
section
/-! the ten classes: their fields in the order of the slots -/
def m_T0 : u_T := fun k => match k with
  | 0 => ("ChairOld$Bodies", "kinds", "[I", true)
  | 1 => ("ChairOld$Bodies", "many", "I", false)
  | 2 => ("ChairOld$Bodies", "ran", "[I", true)
  | _ => ("ChairOld$Bodies", "runs", "I", false)
def m_T1 : u_T := fun k => match k with
  | 0 => ("ChairOld$Laws", "code", "[I", true)
  | 1 => ("ChairOld$Laws", "sizes", "[I", true)
  | _ => ("ChairOld$Laws", "stack", "[I", true)
def m_T2 : u_T := fun k => match k with
  | 0 => ("ChairOld$Papers", "from", "[I", true)
  | 1 => ("ChairOld$Papers", "to", "[I", true)
  | 2 => ("ChairOld$Papers", "houses", "[I", true)
  | _ => ("ChairOld$Papers", "many", "I", false)
def m_T3 : u_T := fun k => match k with
  | 0 => ("ChairOld$Piece", "wood", "I", true)
  | 1 => ("ChairOld$Piece", "place", "I", true)
  | 2 => ("ChairOld$Piece", "looked", "I", false)
  | 3 => ("ChairOld$Piece", "there", "I", false)
  | 4 => ("ChairOld$Piece", "known", "I", false)
  | _ => ("ChairOld$Piece", "numbers", "[I", true)
def m_T4 : u_T := fun k => match k with
  | 0 => ("ChairOld$Reader", "tape", "[I", true)
  | 1 => ("ChairOld$Reader", "length", "I", false)
  | 2 => ("ChairOld$Reader", "code", "[I", true)
  | 3 => ("ChairOld$Reader", "size", "I", false)
  | 4 => ("ChairOld$Reader", "at", "I", false)
  | _ => ("ChairOld$Reader", "fault", "I", false)
def m_T5 : u_T := fun k => match k with
  | 0 => ("ChairOld$Scale", "told", "LChairOld$Told;", true)
  | 1 => ("ChairOld$Scale", "laws", "LChairOld$Laws;", true)
  | 2 => ("ChairOld$Scale", "sums", "[J", true)
  | 3 => ("ChairOld$Scale", "ways", "[J", true)
  | 4 => ("ChairOld$Scale", "merged", "[J", true)
  | _ => ("ChairOld$Scale", "products", "[J", true)
def m_T6 : u_T := fun k => match k with
  | 0 => ("ChairOld$Shelves", "sorts", "[I", true)
  | 1 => ("ChairOld$Shelves", "held", "[I", true)
  | 2 => ("ChairOld$Shelves", "lengths", "[I", true)
  | _ => ("ChairOld$Shelves", "cells", "[J", true)
def m_T7 : u_T := fun k => match k with
  | 0 => ("ChairOld$Told", "now", "[I", true)
  | 1 => ("ChairOld$Told", "cells", "[I", true)
  | 2 => ("ChairOld$Told", "before", "[I", true)
  | 3 => ("ChairOld$Told", "after", "[I", true)
  | 4 => ("ChairOld$Told", "done", "I", false)
  | _ => ("ChairOld$Told", "kept", "I", false)
def m_T8 : u_T := fun k => match k with
  | 0 => ("ChairOld", "told", "LChairOld$Told;", true)
  | 1 => ("ChairOld", "laws", "LChairOld$Laws;", true)
  | 2 => ("ChairOld", "reader", "LChairOld$Reader;", true)
  | 3 => ("ChairOld", "scale", "LChairOld$Scale;", true)
  | 4 => ("ChairOld", "papers", "LChairOld$Papers;", true)
  | 5 => ("ChairOld", "bodies", "LChairOld$Bodies;", true)
  | 6 => ("ChairOld", "shelves", "LChairOld$Shelves;", true)
  | 7 => ("ChairOld", "pieces", "[LChairOld$Piece;", true)
  | 8 => ("ChairOld", "pieceCount", "I", false)
  | 9 => ("ChairOld", "whens", "[I", true)
  | 10 => ("ChairOld", "keptLooked", "[I", true)
  | 11 => ("ChairOld", "keptThere", "[I", true)
  | 12 => ("ChairOld", "keptCount", "I", false)
  | _ => ("ChairOld", "hasImage", "Z", false)
def m_T9 : u_T := fun k => match k with
  | 0 => ("ChairOldModel", "may", "[I", true)
  | 1 => ("ChairOldModel", "changeAt", "[I", true)
  | 2 => ("ChairOldModel", "changeWas", "[I", true)
  | 3 => ("ChairOldModel", "changeIs", "[I", true)
  | 4 => ("ChairOldModel", "keptMany", "I", false)
  | 5 => ("ChairOldModel", "done", "I", false)
  | 6 => ("ChairOldModel", "parts", "I", false)
  | 7 => ("ChairOldModel", "wood", "[I", true)
  | 8 => ("ChairOldModel", "place", "[I", true)
  | 9 => ("ChairOldModel", "found", "[I", true)
  | 10 => ("ChairOldModel", "tape", "[I", true)
  | 11 => ("ChairOldModel", "tapeMany", "I", false)
  | 12 => ("ChairOldModel", "text", "[I", true)
  | 13 => ("ChairOldModel", "textMany", "[I", true)
  | 14 => ("ChairOldModel", "base", "I", false)
  | 15 => ("ChairOldModel", "at", "I", false)
  | 16 => ("ChairOldModel", "ends", "I", false)
  | 17 => ("ChairOldModel", "fault", "I", false)
  | 18 => ("ChairOldModel", "opened", "I", false)
  | 19 => ("ChairOldModel", "names", "[I", true)
  | 20 => ("ChairOldModel", "numbers", "[I", true)
  | 21 => ("ChairOldModel", "way", "[I", true)
  | 22 => ("ChairOldModel", "weight", "[J", true)
  | 23 => ("ChairOldModel", "kindSum", "[J", true)
  | 24 => ("ChairOldModel", "allSum", "J", false)
  | 25 => ("ChairOldModel", "trueWhen", "[I", true)
  | 26 => ("ChairOldModel", "sorted", "[I", true)
  | 27 => ("ChairOldModel", "papers", "I", false)
  | 28 => ("ChairOldModel", "paperFrom", "[I", true)
  | 29 => ("ChairOldModel", "paperTo", "[I", true)
  | 30 => ("ChairOldModel", "paperHouse", "[I", true)
  | 31 => ("ChairOldModel", "image", "[I", true)
  | 32 => ("ChairOldModel", "imageParts", "I", false)
  | 33 => ("ChairOldModel", "isKept", "Z", false)
  | 34 => ("ChairOldModel", "bodies", "I", false)
  | 35 => ("ChairOldModel", "bodyKind", "[I", true)
  | 36 => ("ChairOldModel", "trace", "[I", true)
  | 37 => ("ChairOldModel", "ran", "I", false)
  | 38 => ("ChairOldModel", "ownKind", "I", false)
  | 39 => ("ChairOldModel", "ownNumber", "I", false)
  | 40 => ("ChairOldModel", "shelf", "[I", true)
  | 41 => ("ChairOldModel", "many", "[I", true)
  | 42 => ("ChairOldModel", "items", "[J", true)
  | _ => ("ChairOldModel", "carried", "[J", true)
def m_cls : List vw_C := [("ChairOld$Bodies", m_T0, 4), ("ChairOld$Laws", m_T1, 3), ("ChairOld$Papers", m_T2, 4), ("ChairOld$Piece", m_T3, 6), ("ChairOld$Reader", m_T4, 6), ("ChairOld$Scale", m_T5, 6), ("ChairOld$Shelves", m_T6, 4), ("ChairOld$Told", m_T7, 6), ("ChairOld", m_T8, 14), ("ChairOldModel", m_T9, 44)]
/-- static arrays that nobody writes: class, name, descriptor -/
def m_stat : List (String × String × String) := [("ChairOld", "LEAST_TOLD", "[I"), ("ChairOld", "MOST_TOLD", "[I"), ("ChairOld$Bodies", "ABOVE", "[I"), ("ChairOld$Bodies", "OWN", "[I")]
def m_good : List Cond := lw_tbl.filter goodWord
def m_isNest : Cond → Bool
  | .methodLinkNest .. => true
  | _ => false
def m_nest : List Cond := lw_tbl.filter m_isNest
def m_ty0 (T : u_T) (k : Nat) : FieldType := (parseFieldDescriptor (T k).2.2.1).getD .int
def m_cok (q : vw_C) : Prop := (∀ w ∈ u_ws q.1 q.2.1 q.2.2, w ∈ m_good) ∧ (∀ a, a < q.2.2 → ∀ b, b < q.2.2 → a ≠ b → (q.2.1 a).2.1 ≠ (q.2.1 b).2.1) ∧ (∀ k, k < q.2.2 → parseFieldDescriptor (q.2.1 k).2.2.1 = some (m_ty0 q.2.1 k)) ∧ Cond.instantiable q.1 q.2.2 ∈ m_good ∧ Cond.initialized q.1 ∈ m_good ∧ (∀ k, k < q.2.2 → (q.2.1 k).1 = q.1)
theorem m_in {w : Cond} (h : w ∈ lw_tbl) (g : goodWord w = true) : w ∈ m_good := List.mem_filter.mpr ⟨h, g⟩
theorem m_ins_all {l : List Cond} (h : l.all (fun w => decide (w ∈ lw_tbl) && goodWord w) = true) : ∀ w ∈ l, w ∈ m_good := fun w hw => by
  have h1 := List.all_eq_true.mp h w hw
  simp only [Bool.and_eq_true, decide_eq_true_eq] at h1
  exact m_in h1.1 h1.2
set_option maxRecDepth 100000 in
theorem m_cok0 : m_cok ("ChairOld$Bodies", m_T0, 4) := ⟨m_ins_all (by decide +kernel), by decide +kernel, by decide +kernel, m_in (List.mem_of_getElem? (i := 210) (by decide +kernel)) rfl, m_in (List.mem_of_getElem? (i := 75) (by decide +kernel)) rfl, by decide +kernel⟩
set_option maxRecDepth 100000 in
theorem m_cok1 : m_cok ("ChairOld$Laws", m_T1, 3) := ⟨m_ins_all (by decide +kernel), by decide +kernel, by decide +kernel, m_in (List.mem_of_getElem? (i := 119) (by decide +kernel)) rfl, m_in (List.mem_of_getElem? (i := 71) (by decide +kernel)) rfl, by decide +kernel⟩
set_option maxRecDepth 100000 in
theorem m_cok2 : m_cok ("ChairOld$Papers", m_T2, 4) := ⟨m_ins_all (by decide +kernel), by decide +kernel, by decide +kernel, m_in (List.mem_of_getElem? (i := 190) (by decide +kernel)) rfl, m_in (List.mem_of_getElem? (i := 74) (by decide +kernel)) rfl, by decide +kernel⟩
set_option maxRecDepth 100000 in
theorem m_cok3 : m_cok ("ChairOld$Piece", m_T3, 6) := ⟨m_ins_all (by decide +kernel), by decide +kernel, by decide +kernel, m_in (List.mem_of_getElem? (i := 305) (by decide +kernel)) rfl, m_in (List.mem_of_getElem? (i := 78) (by decide +kernel)) rfl, by decide +kernel⟩
set_option maxRecDepth 100000 in
theorem m_cok4 : m_cok ("ChairOld$Reader", m_T4, 6) := ⟨m_ins_all (by decide +kernel), by decide +kernel, by decide +kernel, m_in (List.mem_of_getElem? (i := 135) (by decide +kernel)) rfl, m_in (List.mem_of_getElem? (i := 72) (by decide +kernel)) rfl, by decide +kernel⟩
set_option maxRecDepth 100000 in
theorem m_cok5 : m_cok ("ChairOld$Scale", m_T5, 6) := ⟨m_ins_all (by decide +kernel), by decide +kernel, by decide +kernel, m_in (List.mem_of_getElem? (i := 163) (by decide +kernel)) rfl, m_in (List.mem_of_getElem? (i := 73) (by decide +kernel)) rfl, by decide +kernel⟩
set_option maxRecDepth 100000 in
theorem m_cok6 : m_cok ("ChairOld$Shelves", m_T6, 4) := ⟨m_ins_all (by decide +kernel), by decide +kernel, by decide +kernel, m_in (List.mem_of_getElem? (i := 231) (by decide +kernel)) rfl, m_in (List.mem_of_getElem? (i := 76) (by decide +kernel)) rfl, by decide +kernel⟩
set_option maxRecDepth 100000 in
theorem m_cok7 : m_cok ("ChairOld$Told", m_T7, 6) := ⟨m_ins_all (by decide +kernel), by decide +kernel, by decide +kernel, m_in (List.mem_of_getElem? (i := 92) (by decide +kernel)) rfl, m_in (List.mem_of_getElem? (i := 70) (by decide +kernel)) rfl, by decide +kernel⟩
set_option maxRecDepth 100000 in
theorem m_cok8 : m_cok ("ChairOld", m_T8, 14) := ⟨m_ins_all (by decide +kernel), by decide +kernel, by decide +kernel, m_in (List.mem_of_getElem? (i := 84) (by decide +kernel)) rfl, m_in (List.mem_of_getElem? (i := 69) (by decide +kernel)) rfl, by decide +kernel⟩
set_option maxRecDepth 100000 in
theorem m_cok9 : m_cok ("ChairOldModel", m_T9, 44) := ⟨m_ins_all (by decide +kernel), by decide +kernel, by decide +kernel, m_in (List.mem_of_getElem? (i := 886) (by decide +kernel)) rfl, m_in (List.mem_of_getElem? (i := 77) (by decide +kernel)) rfl, by decide +kernel⟩
theorem m_cok_at : ∀ (c : Nat) (q : vw_C), m_cls[c]? = some q → m_cok q := by
  intro c q h
  match c, h with
  | 0, h => cases h; exact m_cok0
  | 1, h => cases h; exact m_cok1
  | 2, h => cases h; exact m_cok2
  | 3, h => cases h; exact m_cok3
  | 4, h => cases h; exact m_cok4
  | 5, h => cases h; exact m_cok5
  | 6, h => cases h; exact m_cok6
  | 7, h => cases h; exact m_cok7
  | 8, h => cases h; exact m_cok8
  | 9, h => cases h; exact m_cok9
  | c + 10, h => simp [m_cls] at h
end
section
/-! the M machine: cells, values, worlds -/
abbrev MCell : Type := (FieldType × vp_A) ⊕ (Nat × List Value)
abbrev MH : Type := List MCell
abbrev ML : Type := List (Nat × Value)
abbrev ME : Type := Instr × Nat × Nat × Nat × Nat × MethodName × Value
abbrev MD : Type := MethodName × ByteArray × Nat × Option FieldType × (Nat × Nat × Nat) × List (Nat × ME)
def m_tv (α : Nat → Nat) : Value → Value
  | .ref i => .ref (α i)
  | .int x => .int x
  | .long x => .long x
  | .float x => .float x
  | .double x => .double x
  | .null => .null
  | .retAddr x => .retAddr x
def m_ta (α : Nat → Nat) (a : vp_A) : vp_A := (a.1, match a.2 with
  | .inl f => .inl f
  | .inr (.inl f) => .inr (.inl f)
  | .inr (.inr (.inl f)) => .inr (.inr (.inl f))
  | .inr (.inr (.inr (.inl f))) => .inr (.inr (.inr (.inl f)))
  | .inr (.inr (.inr (.inr f))) => .inr (.inr (.inr (.inr fun j => (f j).map α))))
def m_te (α : Nat → Nat) (cA : FieldType → ClassId) (c : MCell) : va_E := match c with
  | .inl q => .inl (cA q.1, m_ta α q.2)
  | .inr o => .inr (o.1, o.2.map (m_tv α))
def m_tw (α : Nat → Nat) (cA : FieldType → ClassId) : Nat → MH → va_W
  | _, [] => []
  | i, c :: h => (α i, m_te α cA c) :: m_tw α cA (i + 1) h
def m_ws (α : Nat → Nat) (cA : FieldType → ClassId) (h : MH) : va_W := m_tw α cA 5 (h.drop 5)
def m_tl (α : Nat → Nat) (l : ML) : ML := l.map (fun q => (q.1, m_tv α q.2))
def m_okv (n : Nat) (v : Value) : Prop := ∀ i : Nat, v = .ref i → i < n
def m_oka (n : Nat) (a : vp_A) : Prop := ∀ f : Nat → Option Nat, a.2 = .inr (.inr (.inr (.inr f))) → ∀ j i : Nat, f j = some i → i < n
def m_okc (n : Nat) (c : MCell) : Prop := match c with
  | .inl q => m_oka n q.2
  | .inr o => ∀ v ∈ o.2, m_okv n v
def m_okh (h : MH) : Prop := ∀ (k : Nat) (c : MCell), h[k]? = some c → m_okc h.length c
def m_oks (n : Nat) (st : List Value) : Prop := ∀ v ∈ st, m_okv n v
def m_okl (n : Nat) (l : ML) : Prop := ∀ q ∈ l, m_okv n q.2
theorem m_tv_cat (α : Nat → Nat) (v : Value) : (m_tv α v).category = v.category := by cases v <;> rfl
theorem m_tw_len (α : Nat → Nat) (cA : FieldType → ClassId) : ∀ (h : MH) (i : Nat), (m_tw α cA i h).length = h.length
  | [], _ => rfl
  | _ :: h, i => by simp [m_tw, m_tw_len α cA h (i + 1)]
theorem m_tw_get (α : Nat → Nat) (cA : FieldType → ClassId) : ∀ (h : MH) (i k : Nat), (m_tw α cA i h)[k]? = (h[k]?).map fun c => (α (i + k), m_te α cA c)
  | [], i, k => by simp [m_tw]
  | c :: h, i, 0 => by simp [m_tw]
  | c :: h, i, k + 1 => by
    simp only [m_tw, List.getElem?_cons_succ, m_tw_get α cA h (i + 1) k]
    rw [show i + 1 + k = i + (k + 1) by omega]
theorem m_tw_set (α : Nat → Nat) (cA : FieldType → ClassId) (c : MCell) : ∀ (h : MH) (i k : Nat), m_tw α cA i (h.set k c) = (m_tw α cA i h).set k (α (i + k), m_te α cA c)
  | [], i, k => by simp [m_tw]
  | d :: h, i, 0 => by simp [m_tw]
  | d :: h, i, k + 1 => by
    simp only [m_tw, List.set_cons_succ, m_tw_set α cA c h (i + 1) k]
    rw [show i + 1 + k = i + (k + 1) by omega]
theorem m_tw_app (α : Nat → Nat) (cA : FieldType → ClassId) (c : MCell) : ∀ (h : MH) (i : Nat), m_tw α cA i (h ++ [c]) = m_tw α cA i h ++ [(α (i + h.length), m_te α cA c)]
  | [], i => by simp [m_tw]
  | d :: h, i => by
    simp only [m_tw, List.cons_append, m_tw_app α cA c h (i + 1), List.length_cons]
    rw [show i + 1 + h.length = i + (h.length + 1) by omega]
theorem m_ws_get {α : Nat → Nat} {cA : FieldType → ClassId} {h : MH} {k : Nat} {c : MCell} (hk : 5 ≤ k) (hc : h[k]? = some c) : (m_ws α cA h)[k - 5]? = some (α k, m_te α cA c) := by
  unfold m_ws
  rw [m_tw_get, List.getElem?_drop, show 5 + (k - 5) = k by omega, hc]
  rfl
theorem m_ws_set {α : Nat → Nat} {cA : FieldType → ClassId} {h : MH} {k : Nat} {c : MCell} (hk : 5 ≤ k) : m_ws α cA (h.set k c) = (m_ws α cA h).set (k - 5) (α k, m_te α cA c) := by
  unfold m_ws
  rw [List.drop_set, if_neg (by omega), m_tw_set, show 5 + (k - 5) = k by omega]
theorem m_ws_app {α : Nat → Nat} {cA : FieldType → ClassId} {h : MH} {c : MCell} (hk : 5 ≤ h.length) : m_ws α cA (h ++ [c]) = m_ws α cA h ++ [(α h.length, m_te α cA c)] := by
  unfold m_ws
  rw [List.drop_append_of_le_length hk, m_tw_app, List.length_drop, show 5 + (h.length - 5) = h.length by omega]
theorem m_okv_mono {n n' : Nat} (h : n ≤ n') {v : Value} (hv : m_okv n v) : m_okv n' v := fun i e => Nat.lt_of_lt_of_le (hv i e) h
theorem m_okc_mono {n n' : Nat} (h : n ≤ n') {c : MCell} (hc : m_okc n c) : m_okc n' c := by
  cases c with
  | inl q => exact fun f e j i hi => Nat.lt_of_lt_of_le (hc f e j i hi) h
  | inr o => exact fun v hv => m_okv_mono h (hc v hv)
theorem m_tv_congr {α α' : Nat → Nat} {n : Nat} (ha : ∀ i, i < n → α' i = α i) {v : Value} (hv : m_okv n v) : m_tv α' v = m_tv α v := by
  cases v with
  | ref i => simp only [m_tv]; rw [ha i (hv i rfl)]
  | _ => rfl
theorem m_ta_congr {α α' : Nat → Nat} {n : Nat} (ha : ∀ i, i < n → α' i = α i) {a : vp_A} (hv : m_oka n a) : m_ta α' a = m_ta α a := by
  obtain ⟨k, x⟩ := a
  rcases x with f | f | f | f | f
  · rfl
  · rfl
  · rfl
  · rfl
  · have e : (fun j => (f j).map α') = fun j => (f j).map α := by
      funext j
      cases hj : f j with
      | none => rfl
      | some i => simp only [Option.map_some]; rw [ha i (hv f rfl j i hj)]
    simp only [m_ta, e]
theorem m_te_congr {α α' : Nat → Nat} {cA : FieldType → ClassId} {n : Nat} (ha : ∀ i, i < n → α' i = α i) {c : MCell} (hv : m_okc n c) : m_te α' cA c = m_te α cA c := by
  cases c with
  | inl q => simp only [m_te, m_ta_congr ha (a := q.2) hv]
  | inr o =>
    simp only [m_te]
    rw [show o.2.map (m_tv α') = o.2.map (m_tv α) from List.map_congr_left fun v h => m_tv_congr ha (hv v h)]
theorem m_tw_congr {α α' : Nat → Nat} {cA : FieldType → ClassId} {n : Nat} (ha : ∀ i, i < n → α' i = α i) : ∀ (h : MH) (i : Nat), i + h.length ≤ n → (∀ c ∈ h, m_okc n c) → m_tw α' cA i h = m_tw α cA i h
  | [], _, _, _ => rfl
  | c :: h, i, hn, hc => by
    simp only [m_tw, List.length_cons] at hn ⊢
    rw [m_tw_congr ha h (i + 1) (by omega) (fun c hm => hc c (List.mem_cons_of_mem _ hm)), m_te_congr ha (hc c List.mem_cons_self), ha i (by omega)]
theorem m_ws_congr {α α' : Nat → Nat} {cA : FieldType → ClassId} {h : MH} (ha : ∀ i, i < h.length → α' i = α i) (h5 : 5 ≤ h.length) (ho : m_okh h) : m_ws α' cA h = m_ws α cA h := by
  refine m_tw_congr ha _ 5 (by simp; omega) (fun c hc => ?_)
  obtain ⟨k, hk⟩ := List.getElem?_of_mem (List.mem_of_mem_drop hc)
  exact ho k c hk
theorem m_stack_congr {α α' : Nat → Nat} {n : Nat} (ha : ∀ i, i < n → α' i = α i) {st : List Value} (hs : m_oks n st) : st.map (m_tv α') = st.map (m_tv α) := List.map_congr_left fun v h => m_tv_congr ha (hs v h)
theorem m_tl_congr {α α' : Nat → Nat} {n : Nat} (ha : ∀ i, i < n → α' i = α i) {l : ML} (hs : m_okl n l) : m_tl α' l = m_tl α l := List.map_congr_left fun q h => by rw [m_tv_congr ha (hs q h)]
theorem m_okh_set {h : MH} (ho : m_okh h) {k : Nat} {c : MCell} (hc : m_okc h.length c) : m_okh (h.set k c) := by
  intro j d hj
  rw [List.length_set]
  by_cases e : k = j
  · subst e
    by_cases hl : k < h.length
    · rw [List.getElem?_set_self hl] at hj
      cases hj
      exact hc
    · rw [List.set_eq_of_length_le (by omega)] at hj
      exact ho _ _ hj
  · rw [List.getElem?_set_ne e] at hj
    exact ho j d hj
theorem m_okh_app {h : MH} (ho : m_okh h) {c : MCell} (hc : m_okc (h.length + 1) c) : m_okh (h ++ [c]) := by
  intro j d hj
  rw [List.length_append, List.length_singleton]
  by_cases e : j < h.length
  · rw [List.getElem?_append_left e] at hj
    exact m_okc_mono (Nat.le_succ _) (ho j d hj)
  · rw [List.getElem?_append_right (by omega)] at hj
    have hz : j - h.length < 1 := (List.getElem?_eq_some_iff.mp hj).1
    rw [show j - h.length = 0 by omega] at hj
    cases hj
    exact hc
def m_get (i : Nat) : ML → Option Value
  | [] => none
  | (j, v) :: r => bif Nat.beq j i then some v else m_get i r
theorem m_get_mem {i : Nat} {v : Value} : ∀ {l : ML}, m_get i l = some v → (i, v) ∈ l
  | [], h => by cases h
  | (j, w) :: r, h => by
    simp only [m_get] at h
    cases e : Nat.beq j i with
    | true =>
      rw [e] at h
      cases h
      rw [Nat.eq_of_beq_eq_true e]
      exact List.mem_cons_self
    | false =>
      rw [e] at h
      exact List.mem_cons_of_mem _ (m_get_mem h)
theorem m_get_at {α : Nat → Nat} {i nL : Nat} {v : Value} {l : ML} {ls : Array Slot} (hl : lv_has ls nL (m_tl α l)) (h : m_get i l = some v) : ls[i]? = some (.val (m_tv α v)) :=
  hl.2.2 (i, m_tv α v) (List.mem_map.mpr ⟨(i, v), m_get_mem h, rfl⟩)
theorem m_get_ok {n i : Nat} {v : Value} {l : ML} (hl : m_okl n l) (h : m_get i l = some v) : m_okv n v := hl (i, v) (m_get_mem h)
def m_set1 (i : Nat) (v : Value) (l : ML) : ML := (i, v) :: l.filter (fun q => !(q.1 == i) && !(q.1 + 1 == i && q.2.category == 2))
def m_set2 (i : Nat) (v : Value) (l : ML) : ML := (i, v) :: l.filter (fun q => !(q.1 == i) && (!(q.1 == i + 1) && !(q.1 + 1 == i && q.2.category == 2)))
theorem m_tl_filter (α : Nat → Nat) (P : Nat → Nat → Bool) (l : ML) : (m_tl α l).filter (fun q => P q.1 q.2.category) = m_tl α (l.filter (fun q => P q.1 q.2.category)) := by
  unfold m_tl
  rw [List.filter_map]
  congr 1
  apply List.filter_congr
  intro q _
  simp only [Function.comp, m_tv_cat]
theorem m_tl_set1 (α : Nat → Nat) (i : Nat) (v : Value) (l : ML) : (i, m_tv α v) :: (m_tl α l).filter (fun q => !(q.1 == i) && !(q.1 + 1 == i && q.2.category == 2)) = m_tl α (m_set1 i v l) := by
  rw [m_tl_filter α (fun a b => !(a == i) && !(a + 1 == i && b == 2))]
  rfl
theorem m_tl_set2 (α : Nat → Nat) (i : Nat) (v : Value) (l : ML) : (i, m_tv α v) :: (m_tl α l).filter (fun q => !(q.1 == i) && (!(q.1 == i + 1) && !(q.1 + 1 == i && q.2.category == 2))) = m_tl α (m_set2 i v l) := by
  rw [m_tl_filter α (fun a b => !(a == i) && (!(a == i + 1) && !(a + 1 == i && b == 2)))]
  rfl
theorem m_okl_set1 {n i : Nat} {v : Value} {l : ML} (hl : m_okl n l) (hv : m_okv n v) : m_okl n (m_set1 i v l) := by
  intro q hq
  rcases List.mem_cons.mp hq with rfl | hq
  · exact hv
  · exact hl q (List.mem_filter.mp hq).1
theorem m_okl_set2 {n i : Nat} {v : Value} {l : ML} (hl : m_okl n l) (hv : m_okv n v) : m_okl n (m_set2 i v l) := by
  intro q hq
  rcases List.mem_cons.mp hq with rfl | hq
  · exact hv
  · exact hl q (List.mem_filter.mp hq).1
theorem m_ok_int (n : Nat) (x : Int32) : m_okv n (.int x) := fun _ e => by cases e
theorem m_ok_long (n : Nat) (x : Int64) : m_okv n (.long x) := fun _ e => by cases e
theorem m_ok_null (n : Nat) : m_okv n .null := fun _ e => by cases e
theorem m_oks_nil (n : Nat) : m_oks n [] := fun _ h => by cases h
theorem m_oks_cons {n : Nat} {v : Value} {st : List Value} (hv : m_okv n v) (hs : m_oks n st) : m_oks n (v :: st) := fun w hw => by
  rcases List.mem_cons.mp hw with rfl | h
  · exact hv
  · exact hs w h
theorem m_oks_tail {n : Nat} {v : Value} {st : List Value} (hs : m_oks n (v :: st)) : m_oks n st := fun w hw => hs w (List.mem_cons_of_mem _ hw)
theorem m_oks_head {n : Nat} {v : Value} {st : List Value} (hs : m_oks n (v :: st)) : m_okv n v := hs v List.mem_cons_self
/-- locals by their numbers -/
def m_pick (l : ML) : List Nat → ML
  | [] => []
  | i :: r => match m_get i l with
    | some v => (i, v) :: m_pick l r
    | none => m_pick l r
theorem m_pick_mem {l : ML} : ∀ {ks : List Nat} {q : Nat × Value}, q ∈ m_pick l ks → q ∈ l
  | [], q, h => by cases h
  | i :: r, q, h => by
    simp only [m_pick] at h
    cases e : m_get i l with
    | none =>
      rw [e] at h
      exact m_pick_mem h
    | some v =>
      rw [e] at h
      rcases List.mem_cons.mp h with rfl | h
      · exact m_get_mem e
      · exact m_pick_mem h
end
section
/-! entries: what is checked of them, what a plain one does -/
def m_find (pc : Nat) : List (Nat × ME) → Option ME
  | [] => none
  | (k, e) :: r => bif Nat.beq k pc then some e else m_find pc r
theorem m_find_mem {pc : Nat} {e : ME} : ∀ {l : List (Nat × ME)}, m_find pc l = some e → (pc, e) ∈ l
  | [], h => by cases h
  | (j, w) :: r, h => by
    simp only [m_find] at h
    cases e : Nat.beq j pc with
    | true =>
      rw [e] at h
      cases h
      rw [Nat.eq_of_beq_eq_true e]
      exact List.mem_cons_self
    | false =>
      rw [e] at h
      exact List.mem_cons_of_mem _ (m_find_mem h)
def m_len (ins : Instr) (a : Nat) : Nat := match ins with
  | .tableswitch .. => a
  | .lookupswitch .. => a
  | .bipush _ => 2
  | .iload _ => 2
  | .lload _ => 2
  | .aload _ => 2
  | .istore _ => 2
  | .lstore _ => 2
  | .astore _ => 2
  | .ldc _ => 2
  | .newarray _ => 2
  | .sipush _ => 3
  | .ldc_w _ => 3
  | .ldc2_w _ => 3
  | .iinc _ _ => 3
  | .goto _ => 3
  | .ifCond _ _ => 3
  | .if_icmp _ _ => 3
  | .ifnull _ => 3
  | .ifnonnull _ => 3
  | .getfield _ => 3
  | .putfield _ => 3
  | .getstatic _ => 3
  | .invokestatic _ => 3
  | .invokevirtual _ => 3
  | .invokespecial _ => 3
  | .new _ => 3
  | .anewarray _ => 3
  | _ => 1
def m_wd (pos : Nat) (w : Cond) : Bool := decide (lw_tbl[pos]? = some w) && goodWord w
def m_wn (pos : Nat) (w : Cond) : Bool := decide (lw_tbl[pos]? = some w) && m_isNest w
def m_isInt (w : Value) : Bool := match w with
  | .int _ => true
  | _ => false
def m_isLong (w : Value) : Bool := match w with
  | .long _ => true
  | _ => false
/-- the kind of value that a field of this type takes, by a sample -/
def m_kind (ty : FieldType) (w : Value) : Bool := match ty, w with
  | .int, .int x => x == 0
  | .boolean, .int x => x == 1
  | .long, .long _ => true
  | .object _, .null => true
  | .array _, .null => true
  | _, _ => false
def m_lok (y0 : MethodName) (maxL pc : Nat) (ins : Instr) (a k pos : Nat) (y : MethodName) (w : Value) : Bool := match ins with
  | .iconst n => decide (Value.int (Int32.ofInt n) = w)
  | .bipush n => decide (Value.int (Int8.ofInt n).toInt32 = w)
  | .sipush n => decide (Value.int (Int16.ofInt n).toInt32 = w)
  | .lconst n => decide (Value.long (Int64.ofNat (n : Nat)) = w)
  | .ldc i => match w with
    | .int x => m_wd pos (.constant y0.cls i x)
    | _ => false
  | .ldc_w i => match w with
    | .int x => m_wd pos (.constant y0.cls i x)
    | _ => false
  | .ldc2_w i => match w with
    | .long x => m_wd pos (.constantLong y0.cls i x)
    | _ => false
  | .iload i => a == i
  | .lload i => a == i
  | .aload i => a == i
  | .iload_n i => a == (i : Nat)
  | .lload_n i => a == (i : Nat)
  | .aload_n i => a == (i : Nat)
  | .istore i => a == i && decide (a < maxL)
  | .astore i => a == i && decide (a < maxL)
  | .lstore i => a == i && decide (a + 1 < maxL)
  | .istore_n i => a == (i : Nat) && decide (a < maxL)
  | .astore_n i => a == (i : Nat) && decide (a < maxL)
  | .lstore_n i => a == (i : Nat) && decide (a + 1 < maxL)
  | .iinc i n => a == i && decide (a < maxL) && decide (Value.int (Int32.ofInt n) = w)
  | .goto off => decide ((pc : Int) + off = (a : Int))
  | .ifCond _ off => decide ((pc : Int) + off = (a : Int))
  | .if_icmp _ off => decide ((pc : Int) + off = (a : Int))
  | .ifnull off => decide ((pc : Int) + off = (a : Int))
  | .ifnonnull off => decide ((pc : Int) + off = (a : Int))
  | .getfield i => match m_cls[a]? with
    | some (_, T, N) => decide (k < N) && m_wd pos (.fieldLink y0.cls i (T k).1 (T k).2.1 (T k).2.2.1)
    | none => false
  | .putfield i => match m_cls[a]? with
    | some (_, T, N) => decide (k < N) && m_wd pos (.fieldLink y0.cls i (T k).1 (T k).2.1 (T k).2.2.1) && m_kind (m_ty0 T k) w && ((T k).2.2.2 == false || (y0.name == "<init>" && (T k).1 == y0.cls))
    | none => false
  | .getstatic i => match m_stat[a]? with
    | some (C, n, d) => m_wd pos (.fieldLink y0.cls i C n d)
    | none => false
  | .new i => match m_cls[a]? with
    | some (C, _, _) => m_wd pos (.classLink y0.cls i C)
    | none => false
  | .anewarray i => m_wd pos (.classLink y0.cls i "ChairOld$Piece")
  | .invokestatic i => bif k == 0 then m_wd pos (.methodLink y0.cls i y) else m_wn pos (.methodLinkNest y0.cls i y "ChairOld")
  | .invokevirtual i => m_wd pos (.methodLink y0.cls i y)
  | .invokespecial i => bif k == 0 then m_wd pos (.methodLink y0.cls i y) else m_wn pos (.methodLinkNest y0.cls i y "ChairOld")
  | .lookupswitch _ ps => (ps.toList.zip (ps.toList.drop 1)).all (fun (a, next) => a.1 < next.1)
  | _ => true
def m_eok (y0 : MethodName) (b : ByteArray) (maxL : Nat) (q : Nat × ME) : Bool := match q with
  | (pc, ins, nx, a, k, pos, y, w) => decide (decode b pc = .ok (ins, m_len ins a)) && (nx == pc + m_len ins a) && m_lok y0 maxL pc ins a k pos y w
theorem m_eok_spec {y0 : MethodName} {b : ByteArray} {maxL pc nx a k pos : Nat} {ins : Instr} {y : MethodName} {w : Value} (h : m_eok y0 b maxL (pc, ins, nx, a, k, pos, y, w) = true) :
    decode b pc = .ok (ins, m_len ins a) ∧ nx = pc + m_len ins a ∧ m_lok y0 maxL pc ins a k pos y w = true := by
  simp only [m_eok, Bool.and_eq_true, decide_eq_true_eq, beq_iff_eq] at h
  exact ⟨h.1.1, h.1.2, h.2⟩
theorem m_wd_spec {pos : Nat} {w : Cond} (h : m_wd pos w = true) : w ∈ m_good := by
  simp only [m_wd, Bool.and_eq_true, decide_eq_true_eq] at h
  exact m_in (List.mem_of_getElem? h.1) h.2
theorem m_wn_spec {pos : Nat} {w : Cond} (h : m_wn pos w = true) : w ∈ m_nest := by
  simp only [m_wn, Bool.and_eq_true, decide_eq_true_eq] at h
  exact List.mem_filter.mpr ⟨List.mem_of_getElem? h.1, h.2⟩
def m_fit (w v : Value) : Bool := match w, v with
  | .int x, .int z => bif x == 1 then z == 0 || z == 1 else true
  | .long _, .long _ => true
  | .null, .ref _ => true
  | .null, .null => true
  | _, _ => false
/-- a plain instruction -/
def m_ins (ins : Instr) (nx a k : Nat) (w : Value) (l : ML) (st : List Value) (h : MH) : Option (Nat × ML × List Value × MH) := match ins with
  | .iconst _ => some (nx, l, w :: st, h)
  | .bipush _ => some (nx, l, w :: st, h)
  | .sipush _ => some (nx, l, w :: st, h)
  | .lconst _ => some (nx, l, w :: st, h)
  | .ldc _ => some (nx, l, w :: st, h)
  | .ldc_w _ => some (nx, l, w :: st, h)
  | .ldc2_w _ => some (nx, l, w :: st, h)
  | .aconst_null => some (nx, l, .null :: st, h)
  | .iload _ => match m_get a l with
    | some (.int x) => some (nx, l, .int x :: st, h)
    | _ => none
  | .iload_n _ => match m_get a l with
    | some (.int x) => some (nx, l, .int x :: st, h)
    | _ => none
  | .lload _ => match m_get a l with
    | some (.long x) => some (nx, l, .long x :: st, h)
    | _ => none
  | .lload_n _ => match m_get a l with
    | some (.long x) => some (nx, l, .long x :: st, h)
    | _ => none
  | .aload _ => match m_get a l with
    | some (.ref x) => some (nx, l, .ref x :: st, h)
    | some .null => some (nx, l, .null :: st, h)
    | _ => none
  | .aload_n _ => match m_get a l with
    | some (.ref x) => some (nx, l, .ref x :: st, h)
    | some .null => some (nx, l, .null :: st, h)
    | _ => none
  | .istore _ => match st with
    | .int x :: r => some (nx, m_set1 a (.int x) l, r, h)
    | _ => none
  | .istore_n _ => match st with
    | .int x :: r => some (nx, m_set1 a (.int x) l, r, h)
    | _ => none
  | .lstore _ => match st with
    | .long x :: r => some (nx, m_set2 a (.long x) l, r, h)
    | _ => none
  | .lstore_n _ => match st with
    | .long x :: r => some (nx, m_set2 a (.long x) l, r, h)
    | _ => none
  | .astore _ => match st with
    | .ref x :: r => some (nx, m_set1 a (.ref x) l, r, h)
    | .null :: r => some (nx, m_set1 a .null l, r, h)
    | _ => none
  | .astore_n _ => match st with
    | .ref x :: r => some (nx, m_set1 a (.ref x) l, r, h)
    | .null :: r => some (nx, m_set1 a .null l, r, h)
    | _ => none
  | .iinc _ _ => match m_get a l, w with
    | some (.int x), .int n => some (nx, m_set1 a (.int (x + n)) l, st, h)
    | _, _ => none
  | .iadd => match st with
    | .int y :: .int x :: r => some (nx, l, .int (x + y) :: r, h)
    | _ => none
  | .isub => match st with
    | .int y :: .int x :: r => some (nx, l, .int (x - y) :: r, h)
    | _ => none
  | .imul => match st with
    | .int y :: .int x :: r => some (nx, l, .int (x * y) :: r, h)
    | _ => none
  | .iand => match st with
    | .int y :: .int x :: r => some (nx, l, .int (x &&& y) :: r, h)
    | _ => none
  | .ior => match st with
    | .int y :: .int x :: r => some (nx, l, .int (x ||| y) :: r, h)
    | _ => none
  | .ixor => match st with
    | .int y :: .int x :: r => some (nx, l, .int (x ^^^ y) :: r, h)
    | _ => none
  | .ishl => match st with
    | .int y :: .int x :: r => some (nx, l, .int (x <<< (y &&& 31)) :: r, h)
    | _ => none
  | .ishr => match st with
    | .int y :: .int x :: r => some (nx, l, .int (x >>> (y &&& 31)) :: r, h)
    | _ => none
  | .iushr => match st with
    | .int y :: .int x :: r => some (nx, l, .int (x.toUInt32 >>> (y.toUInt32 &&& Int32.toUInt32 31)).toInt32 :: r, h)
    | _ => none
  | .ineg => match st with
    | .int x :: r => some (nx, l, .int (-x) :: r, h)
    | _ => none
  | .ladd => match st with
    | .long y :: .long x :: r => some (nx, l, .long (x + y) :: r, h)
    | _ => none
  | .lsub => match st with
    | .long y :: .long x :: r => some (nx, l, .long (x - y) :: r, h)
    | _ => none
  | .lmul => match st with
    | .long y :: .long x :: r => some (nx, l, .long (x * y) :: r, h)
    | _ => none
  | .land => match st with
    | .long y :: .long x :: r => some (nx, l, .long (x &&& y) :: r, h)
    | _ => none
  | .lor => match st with
    | .long y :: .long x :: r => some (nx, l, .long (x ||| y) :: r, h)
    | _ => none
  | .lshl => match st with
    | .int y :: .long x :: r => some (nx, l, .long (x <<< (y.toInt64 &&& 63)) :: r, h)
    | _ => none
  | .lcmp => match st with
    | .long y :: .long x :: r => some (nx, l, .int (lg_cmp x y) :: r, h)
    | _ => none
  | .i2l => match st with
    | .int x :: r => some (nx, l, .long x.toInt64 :: r, h)
    | _ => none
  | .l2i => match st with
    | .long x :: r => some (nx, l, .int x.toInt32 :: r, h)
    | _ => none
  | .i2b => match st with
    | .int x :: r => some (nx, l, .int x.toInt8.toInt32 :: r, h)
    | _ => none
  | .i2s => match st with
    | .int x :: r => some (nx, l, .int x.toInt16.toInt32 :: r, h)
    | _ => none
  | .dup => match st with
    | .int x :: r => some (nx, l, .int x :: .int x :: r, h)
    | .ref x :: r => some (nx, l, .ref x :: .ref x :: r, h)
    | _ => none
  | .dup2 => match st with
    | .int y :: .ref x :: r => some (nx, l, .int y :: .ref x :: .int y :: .ref x :: r, h)
    | _ => none
  | .pop2 => match st with
    | .long _ :: r => some (nx, l, r, h)
    | _ => none
  | .goto _ => some (a, l, st, h)
  | .ifnull _ => match st with
    | .null :: r => some (a, l, r, h)
    | .ref _ :: r => some (nx, l, r, h)
    | _ => none
  | .ifnonnull _ => match st with
    | .null :: r => some (nx, l, r, h)
    | .ref _ :: r => some (a, l, r, h)
    | _ => none
  | .getfield _ => match st with
    | .ref i :: r => match h[i]? with
      | some (.inr (ci, fs)) => match fs[k]? with
        | some v => bif Nat.beq ci a && Nat.ble 5 i then some (nx, l, v :: r, h) else none
        | none => none
      | _ => none
    | _ => none
  | .putfield _ => match st with
    | v :: .ref i :: r => match h[i]? with
      | some (.inr (ci, fs)) => bif Nat.beq ci a && Nat.ble 5 i && Nat.blt k fs.length && m_fit w v then some (nx, l, r, h.set i (.inr (ci, fs.set k v))) else none
      | _ => none
    | _ => none
  | .getstatic _ => some (nx, l, .ref a :: st, h)
  | .arraylength => match st with
    | .ref i :: r => match h[i]? with
      | some (.inl (_, n, _)) => some (nx, l, .int (Int32.ofNat n) :: r, h)
      | _ => none
    | _ => none
  | _ => none
/-- which array types there are -/
def m_tys (cA : FieldType → ClassId) : List (ClassId × FieldType) := [(cA .int, .int), (cA .long, .long), (cA (.object "ChairOld$Piece"), .object "ChairOld$Piece")]
def m_cst (α : Nat → Nat) (A : Nat → Prop) (s : State) (H : Heap) (h : MH) : Prop := 5 ≤ h.length ∧ (∀ i, i < 5 → ∃ (n : Nat) (f : Nat → Int32), h[i]? = some (.inl (.int, n, .inl f)) ∧ va_T .int (α i) n (fun j => .int (f j)) A s H) ∧ ∀ (i : Nat) (q : String × String × String), m_stat[i]? = some q → va_Z q.1 q.2.1 q.2.2 (.ref (α i)) A s H
/-- an array's type is one of the three, its contents of that kind -/
def m_tyc (c : MCell) : Prop := match c with
  | .inl (ty, _, x) => (ty = .int ∧ ∃ f, x = .inl f) ∨ (ty = .long ∧ ∃ f, x = .inr (.inl f)) ∨ (ty = .object "ChairOld$Piece" ∧ ∃ f, x = .inr (.inr (.inr (.inr f))))
  | .inr _ => True
def MR (s : State) (A : Nat → Prop) (D : va_G) (cA : FieldType → ClassId) (α : Nat → Nat) (h : MH) (H : Heap) (locs : List Loc) : Prop :=
  va_K D m_cls (m_tys cA) s ∧ va_P D m_cls (m_ws α cA h) H ∧ va_D A (m_ws α cA h) ∧ va_S A s.heap H locs ∧ (∀ q, s.heap.size ≤ q → A q) ∧ m_cst α A s s.heap h ∧ m_okh h ∧ (∀ (k : Nat) (c : MCell), h[k]? = some c → m_tyc c)
end
section
theorem m_same (h : MH) : h.length = h.length ∧ ∀ i, i < 5 → h[i]? = h[i]? := ⟨rfl, fun _ _ => rfl⟩
theorem m_set_same {h : MH} {i : Nat} {c : MCell} (h5 : 5 ≤ i) : (h.set i c).length = h.length ∧ ∀ j, j < 5 → (h.set i c)[j]? = h[j]? := ⟨List.length_set .., fun j hj => List.getElem?_set_ne (by omega)⟩
theorem m_fit_spec {ty : FieldType} {w v : Value} (hd : m_kind ty w = true) (hf : m_fit w v = true) (α : Nat → Nat) : narrow ty (m_tv α v) = m_tv α v ∧ fits ty (m_tv α v) = true := by
  cases w <;> cases v <;> cases ty <;> first
    | (simp [m_kind] at hd; done)
    | (simp [m_fit] at hf; done)
    | exact ⟨rfl, rfl⟩
    | (simp only [m_kind, beq_iff_eq] at hd
       subst hd
       simp only [m_fit, beq_self_eq_true, cond_true, Bool.or_eq_true, beq_iff_eq] at hf
       rcases hf with rfl | rfl <;> exact ⟨rfl, rfl⟩)
theorem m_set_cst {α : Nat → Nat} {A : Nat → Prop} {s : State} {H : Heap} {h : MH} (hc : m_cst α A s H h) {i : Nat} (h5 : 5 ≤ i) (d : MCell) : m_cst α A s H (h.set i d) := by
  obtain ⟨a1, a2, a3⟩ := hc
  refine ⟨by rw [List.length_set]; exact a1, fun j hj => ?_, a3⟩
  obtain ⟨n, f, b1, b2⟩ := a2 j hj
  exact ⟨n, f, by rw [List.getElem?_set_ne (by omega)]; exact b1, b2⟩
theorem m_set_tyc {h : MH} (ht : ∀ (k : Nat) (c : MCell), h[k]? = some c → m_tyc c) {i : Nat} {d : MCell} (hd : m_tyc d) : ∀ (k : Nat) (c : MCell), (h.set i d)[k]? = some c → m_tyc c := by
  intro k c hk
  by_cases e : i = k
  · subst e
    by_cases hl : i < h.length
    · rw [List.getElem?_set_self hl] at hk
      cases hk
      exact hd
    · rw [List.set_eq_of_length_le (by omega)] at hk
      exact ht _ _ hk
  · rw [List.getElem?_set_ne e] at hk
    exact ht k c hk
theorem m_set_R {s : State} {A : Nat → Prop} {D : va_G} {cA : FieldType → ClassId} {α : Nat → Nat} {h : MH} {H H1 : Heap} {locs locs1 : List Loc} {i : Nat} {d : MCell} (hR : MR s A D cA α h H locs) (h5 : 5 ≤ i) (hok : m_okc h.length d) (hty : m_tyc d)
    (q1 : va_P D m_cls ((m_ws α cA h).set (i - 5) (α i, m_te α cA d)) H1) (q2 : va_D A ((m_ws α cA h).set (i - 5) (α i, m_te α cA d))) (q3 : va_S A s.heap H1 locs1) : MR s A D cA α (h.set i d) H1 locs1 := by
  obtain ⟨a1, a2, a3, a4, a5, a6, a7, a8⟩ := hR
  rw [← m_ws_set h5] at q1 q2
  exact ⟨a1, q1, q2, q3, a5, m_set_cst a6 h5 d, m_okh_set a7 hok, m_set_tyc a8 hty⟩
theorem m_put_ok {s : State} {A : Nat → Prop} {D : va_G} {cA : FieldType → ClassId} {α : Nat → Nat} {h : MH} {H H1 : Heap} {locs locs1 : List Loc} {i ci k : Nat} {fs : List Value} {v : Value} (hR : MR s A D cA α h H locs) (h5 : 5 ≤ i) (hi : h[i]? = some (.inr (ci, fs))) (hv : m_okv h.length v)
    (q1 : va_P D m_cls ((m_ws α cA h).set (i - 5) (α i, .inr (ci, (fs.map (m_tv α)).set k (m_tv α v)))) H1) (q2 : va_D A ((m_ws α cA h).set (i - 5) (α i, .inr (ci, (fs.map (m_tv α)).set k (m_tv α v))))) (q3 : va_S A s.heap H1 locs1) : MR s A D cA α (h.set i (.inr (ci, fs.set k v))) H1 locs1 := by
  have e : (fs.map (m_tv α)).set k (m_tv α v) = (fs.set k v).map (m_tv α) := by rw [List.map_set]
  rw [e] at q1 q2
  refine m_set_R hR h5 ?_ trivial q1 q2 q3
  intro z hz
  rcases List.mem_or_eq_of_mem_set hz with hz | rfl
  · exact hR.2.2.2.2.2.2.1 i _ hi z hz
  · exact hv
section MI
variable {p : Program} {la : Launch} {e : Env} {R : Room} {s : State} {m : MethodId} {args : Array Value} {below : List Frame} {meth : Method} {c : Code} {H : Heap} {locs : List Loc} {cells slots : Nat} {Q : State → Prop}
variable {A : Nat → Prop} {D : va_G} {cA : FieldType → ClassId} {α : Nat → Nat} {ls : Array Slot}
theorem m_cells {h : MH} {i : Nat} {d : MCell} (hR : MR s A D cA α h H locs) (h5 : 5 ≤ i) (hc : h[i]? = some d) : (m_ws α cA h)[i - 5]? = some (α i, m_te α cA d) := m_ws_get h5 hc
theorem m_cst_ne {h : MH} {i ci : Nat} {fs : List Value} (hR : MR s A D cA α h H locs) (hc : h[i]? = some (.inr (ci, fs))) : 5 ≤ i := by
  refine Nat.le_of_not_lt fun hi => ?_
  obtain ⟨n, f, h1, -⟩ := hR.2.2.2.2.2.1.2.1 i hi
  rw [hc] at h1
  cases h1
set_option maxHeartbeats 4000000 in
/-- what a plain instruction does, the machine does -/
theorem m_ins_ok {y0 : MethodName} {b : ByteArray} {maxL pc nx a k pos : Nat} {ins : Instr} {y : MethodName} {w : Value} {l l' : ML} {st st' : List Value} {h h' : MH} {pc' : Nat}
    (hx : p.tables.exec = Jvm.exec) (hb : c.code = b) (hown : s.vm.findClass y0.cls = some m.cls) (hts : ∀ w ∈ m_good, w.before args s = true) (hin : y0.name = "<init>" → meth.name = "<init>")
    (he : m_eok y0 b maxL (pc, ins, nx, a, k, pos, y, w) = true) (hs : m_ins ins nx a k w l st h = some (pc', l', st', h'))
    (hR : MR s A D cA α h H locs) (hl : lv_has ls maxL (m_tl α l)) (hol : m_okl h.length l) (hos : m_oks h.length st)
    (K : ∀ (H' : Heap) (locs' : List Loc) (ls' : Array Slot), MR s A D cA α h' H' locs' → lv_has ls' maxL (m_tl α l') → m_okl h'.length l' → m_oks h'.length st' → (h'.length = h.length ∧ ∀ i, i < 5 → h'[i]? = h[i]?) → W p la e R s m args below meth c H' locs' cells slots Q (F0 m pc' ls' (st'.map (m_tv α)))) :
    W p la e R s m args below meth c H locs cells slots Q (F0 m pc ls (st.map (m_tv α))) := by
  obtain ⟨hd, hnx, hk⟩ := m_eok_spec he
  cases ins with
  | iconst n =>
    simp only [m_lok, decide_eq_true_eq] at hk
    subst hk
    cases hs
    simp only [m_len] at hd hnx
    subst hnx
    exact lv_iconst hx hb hd rfl (K H locs ls hR hl hol (m_oks_cons (m_ok_int _ _) hos) (m_same h))
  | bipush n =>
    simp only [m_lok, decide_eq_true_eq] at hk
    subst hk
    cases hs
    simp only [m_len] at hd hnx
    subst hnx
    exact lv_bipush hx hb hd rfl (K H locs ls hR hl hol (m_oks_cons (m_ok_int _ _) hos) (m_same h))
  | sipush n =>
    simp only [m_lok, decide_eq_true_eq] at hk
    subst hk
    cases hs
    simp only [m_len] at hd hnx
    subst hnx
    exact lv_sipush hx hb hd rfl (K H locs ls hR hl hol (m_oks_cons (m_ok_int _ _) hos) (m_same h))
  | lconst n =>
    simp only [m_lok, decide_eq_true_eq] at hk
    subst hk
    cases hs
    simp only [m_len] at hd hnx
    subst hnx
    exact lv_lconst hx hb hd rfl (K H locs ls hR hl hol (m_oks_cons (m_ok_long _ _) hos) (m_same h))
  | ldc n =>
    cases w with
    | int x =>
      simp only [m_lok] at hk
      cases hs
      simp only [m_len] at hd hnx
      subst hnx
      exact lv_ldc hx hb hown (hts _ (m_wd_spec hk)) hd (K H locs ls hR hl hol (m_oks_cons (m_ok_int _ _) hos) (m_same h))
    | _ => simp [m_lok] at hk
  | ldc_w n =>
    cases w with
    | int x =>
      simp only [m_lok] at hk
      cases hs
      simp only [m_len] at hd hnx
      subst hnx
      exact lv_ldcw hx hb hown (hts _ (m_wd_spec hk)) hd (K H locs ls hR hl hol (m_oks_cons (m_ok_int _ _) hos) (m_same h))
    | _ => simp [m_lok] at hk
  | ldc2_w n =>
    cases w with
    | long x =>
      simp only [m_lok] at hk
      cases hs
      simp only [m_len] at hd hnx
      subst hnx
      exact lv_ldc2 hx hb hown (hts _ (m_wd_spec hk)) hd (K H locs ls hR hl hol (m_oks_cons (m_ok_long _ _) hos) (m_same h))
    | _ => simp [m_lok] at hk
  | aconst_null =>
    cases hs
    simp only [m_len] at hd hnx
    subst hnx
    exact lv_null hx hb hd (K H locs ls hR hl hol (m_oks_cons (m_ok_null _) hos) (m_same h))
  | iload n =>
    simp only [m_lok, beq_iff_eq] at hk
    simp only [m_ins] at hs
    split at hs
    · next x hg =>
      cases hs
      simp only [m_len] at hd hnx
      subst hnx
      have hq := m_get_at hl hg
      subst hk
      exact lv_iload hx hb hd hq (K H locs ls hR hl hol (m_oks_cons (m_ok_int _ _) hos) (m_same h))
    · cases hs
  | iload_n n =>
    simp only [m_lok, beq_iff_eq] at hk
    simp only [m_ins] at hs
    split at hs
    · next x hg =>
      cases hs
      simp only [m_len] at hd hnx
      subst hnx
      have hq := m_get_at hl hg
      exact lv_iload_n hx hb hd hk.symm hq (K H locs ls hR hl hol (m_oks_cons (m_ok_int _ _) hos) (m_same h))
    · cases hs
  | lload n =>
    simp only [m_lok, beq_iff_eq] at hk
    simp only [m_ins] at hs
    split at hs
    · next x hg =>
      cases hs
      simp only [m_len] at hd hnx
      subst hnx
      have hq := m_get_at hl hg
      subst hk
      exact lv_lload hx hb hd hq (K H locs ls hR hl hol (m_oks_cons (m_ok_long _ _) hos) (m_same h))
    · cases hs
  | lload_n n =>
    simp only [m_lok, beq_iff_eq] at hk
    simp only [m_ins] at hs
    split at hs
    · next x hg =>
      cases hs
      simp only [m_len] at hd hnx
      subst hnx
      have hq := m_get_at hl hg
      exact lv_lload_n hx hb hd hk.symm hq (K H locs ls hR hl hol (m_oks_cons (m_ok_long _ _) hos) (m_same h))
    · cases hs
  | aload n =>
    simp only [m_lok, beq_iff_eq] at hk
    simp only [m_ins] at hs
    split at hs
    · next x hg =>
      cases hs
      simp only [m_len] at hd hnx
      subst hnx
      have hq := m_get_at hl hg
      have ho := m_get_ok hol hg
      subst hk
      exact lv_aload hx hb hd hq (K H locs ls hR hl hol (m_oks_cons ho hos) (m_same h))
    · next hg =>
      cases hs
      simp only [m_len] at hd hnx
      subst hnx
      have hq := m_get_at hl hg
      subst hk
      exact lv_aloadN hx hb hd hq (K H locs ls hR hl hol (m_oks_cons (m_ok_null _) hos) (m_same h))
    · cases hs
  | aload_n n =>
    simp only [m_lok, beq_iff_eq] at hk
    simp only [m_ins] at hs
    split at hs
    · next x hg =>
      cases hs
      simp only [m_len] at hd hnx
      subst hnx
      have hq := m_get_at hl hg
      have ho := m_get_ok hol hg
      exact lv_aload_n hx hb hd hk.symm hq (K H locs ls hR hl hol (m_oks_cons ho hos) (m_same h))
    · next hg =>
      cases hs
      simp only [m_len] at hd hnx
      subst hnx
      have hq := m_get_at hl hg
      exact lv_aload_nN hx hb hd hk.symm hq (K H locs ls hR hl hol (m_oks_cons (m_ok_null _) hos) (m_same h))
    · cases hs
  | istore n =>
    simp only [m_lok, Bool.and_eq_true, beq_iff_eq, decide_eq_true_eq] at hk
    simp only [m_ins] at hs
    split at hs
    · next x r =>
      cases hs
      simp only [m_len] at hd hnx
      subst hnx
      obtain ⟨hk1, hk2⟩ := hk
      subst hk1
      exact lv_istore hx hb hd hl hk2 (m_tl_set1 α _ (.int x) l) (fun ls' hl' => K H locs ls' hR hl' (m_okl_set1 hol (m_ok_int _ _)) (m_oks_tail hos) (m_same h))
    · cases hs
  | istore_n n =>
    simp only [m_lok, Bool.and_eq_true, beq_iff_eq, decide_eq_true_eq] at hk
    simp only [m_ins] at hs
    split at hs
    · next x r =>
      cases hs
      simp only [m_len] at hd hnx
      subst hnx
      exact lv_istore_n hx hb hd hk.1.symm hl hk.2 (m_tl_set1 α _ (.int x) l) (fun ls' hl' => K H locs ls' hR hl' (m_okl_set1 hol (m_ok_int _ _)) (m_oks_tail hos) (m_same h))
    · cases hs
  | lstore n =>
    simp only [m_lok, Bool.and_eq_true, beq_iff_eq, decide_eq_true_eq] at hk
    simp only [m_ins] at hs
    split at hs
    · next x r =>
      cases hs
      simp only [m_len] at hd hnx
      subst hnx
      obtain ⟨hk1, hk2⟩ := hk
      subst hk1
      exact lv_lstore hx hb hd hl hk2 (m_tl_set2 α _ (.long x) l) (fun ls' hl' => K H locs ls' hR hl' (m_okl_set2 hol (m_ok_long _ _)) (m_oks_tail hos) (m_same h))
    · cases hs
  | lstore_n n =>
    simp only [m_lok, Bool.and_eq_true, beq_iff_eq, decide_eq_true_eq] at hk
    simp only [m_ins] at hs
    split at hs
    · next x r =>
      cases hs
      simp only [m_len] at hd hnx
      subst hnx
      exact lv_lstore_n hx hb hd hk.1.symm hl hk.2 (m_tl_set2 α _ (.long x) l) (fun ls' hl' => K H locs ls' hR hl' (m_okl_set2 hol (m_ok_long _ _)) (m_oks_tail hos) (m_same h))
    · cases hs
  | astore n =>
    simp only [m_lok, Bool.and_eq_true, beq_iff_eq, decide_eq_true_eq] at hk
    simp only [m_ins] at hs
    split at hs
    · next x r =>
      cases hs
      simp only [m_len] at hd hnx
      subst hnx
      obtain ⟨hk1, hk2⟩ := hk
      subst hk1
      exact lv_astore hx hb hd hl hk2 (m_tl_set1 α _ (.ref x) l) (fun ls' hl' => K H locs ls' hR hl' (m_okl_set1 hol (m_oks_head hos)) (m_oks_tail hos) (m_same h))
    · next r =>
      cases hs
      simp only [m_len] at hd hnx
      subst hnx
      obtain ⟨hk1, hk2⟩ := hk
      subst hk1
      exact lv_astoreN hx hb hd hl hk2 (m_tl_set1 α _ .null l) (fun ls' hl' => K H locs ls' hR hl' (m_okl_set1 hol (m_ok_null _)) (m_oks_tail hos) (m_same h))
    · cases hs
  | astore_n n =>
    simp only [m_lok, Bool.and_eq_true, beq_iff_eq, decide_eq_true_eq] at hk
    simp only [m_ins] at hs
    split at hs
    · next x r =>
      cases hs
      simp only [m_len] at hd hnx
      subst hnx
      exact lv_astore_n hx hb hd hk.1.symm hl hk.2 (m_tl_set1 α _ (.ref x) l) (fun ls' hl' => K H locs ls' hR hl' (m_okl_set1 hol (m_oks_head hos)) (m_oks_tail hos) (m_same h))
    · next r =>
      cases hs
      simp only [m_len] at hd hnx
      subst hnx
      exact lv_astore_nN hx hb hd hk.1.symm hl hk.2 (m_tl_set1 α _ .null l) (fun ls' hl' => K H locs ls' hR hl' (m_okl_set1 hol (m_ok_null _)) (m_oks_tail hos) (m_same h))
    · cases hs
  | iinc i n =>
    simp only [m_lok, Bool.and_eq_true, beq_iff_eq, decide_eq_true_eq] at hk
    obtain ⟨⟨hk1, hk2⟩, hk3⟩ := hk
    subst hk3
    subst hk1
    simp only [m_ins] at hs
    split at hs
    · next x n2 hg hn2 =>
      cases hn2
      cases hs
      simp only [m_len] at hd hnx
      subst hnx
      obtain ⟨j, hj⟩ := List.getElem?_of_mem (List.mem_map.mpr ⟨(a, Value.int x), m_get_mem hg, rfl⟩ : (a, m_tv α (.int x)) ∈ m_tl α l)
      exact lv_iinc hx hb hd hl hj rfl hk2 (m_tl_set1 α a (.int (x + Int32.ofInt n)) l) (fun ls' hl' => K H locs ls' hR hl' (m_okl_set1 hol (m_ok_int _ _)) hos (m_same h))
    · cases hs
  | iadd =>
    simp only [m_ins] at hs
    split at hs
    · next y2 x2 r =>
      cases hs
      simp only [m_len] at hd hnx
      subst hnx
      exact lv_iadd hx hb hd (K H locs ls hR hl hol (m_oks_cons (m_ok_int _ _) (m_oks_tail (m_oks_tail hos))) (m_same h))
    · cases hs
  | isub =>
    simp only [m_ins] at hs
    split at hs
    · next y2 x2 r =>
      cases hs
      simp only [m_len] at hd hnx
      subst hnx
      exact lv_isub hx hb hd (K H locs ls hR hl hol (m_oks_cons (m_ok_int _ _) (m_oks_tail (m_oks_tail hos))) (m_same h))
    · cases hs
  | imul =>
    simp only [m_ins] at hs
    split at hs
    · next y2 x2 r =>
      cases hs
      simp only [m_len] at hd hnx
      subst hnx
      exact lv_imul hx hb hd (K H locs ls hR hl hol (m_oks_cons (m_ok_int _ _) (m_oks_tail (m_oks_tail hos))) (m_same h))
    · cases hs
  | iand =>
    simp only [m_ins] at hs
    split at hs
    · next y2 x2 r =>
      cases hs
      simp only [m_len] at hd hnx
      subst hnx
      exact lv_iand hx hb hd (K H locs ls hR hl hol (m_oks_cons (m_ok_int _ _) (m_oks_tail (m_oks_tail hos))) (m_same h))
    · cases hs
  | ior =>
    simp only [m_ins] at hs
    split at hs
    · next y2 x2 r =>
      cases hs
      simp only [m_len] at hd hnx
      subst hnx
      exact lv_ior hx hb hd (K H locs ls hR hl hol (m_oks_cons (m_ok_int _ _) (m_oks_tail (m_oks_tail hos))) (m_same h))
    · cases hs
  | ixor =>
    simp only [m_ins] at hs
    split at hs
    · next y2 x2 r =>
      cases hs
      simp only [m_len] at hd hnx
      subst hnx
      exact lv_ixor hx hb hd (K H locs ls hR hl hol (m_oks_cons (m_ok_int _ _) (m_oks_tail (m_oks_tail hos))) (m_same h))
    · cases hs
  | ishl =>
    simp only [m_ins] at hs
    split at hs
    · next y2 x2 r =>
      cases hs
      simp only [m_len] at hd hnx
      subst hnx
      exact lv_ishl hx hb hd (K H locs ls hR hl hol (m_oks_cons (m_ok_int _ _) (m_oks_tail (m_oks_tail hos))) (m_same h))
    · cases hs
  | ishr =>
    simp only [m_ins] at hs
    split at hs
    · next y2 x2 r =>
      cases hs
      simp only [m_len] at hd hnx
      subst hnx
      exact lv_ishr hx hb hd (K H locs ls hR hl hol (m_oks_cons (m_ok_int _ _) (m_oks_tail (m_oks_tail hos))) (m_same h))
    · cases hs
  | iushr =>
    simp only [m_ins] at hs
    split at hs
    · next y2 x2 r =>
      cases hs
      simp only [m_len] at hd hnx
      subst hnx
      exact lv_iushr hx hb hd rfl (K H locs ls hR hl hol (m_oks_cons (m_ok_int _ _) (m_oks_tail (m_oks_tail hos))) (m_same h))
    · cases hs
  | ladd =>
    simp only [m_ins] at hs
    split at hs
    · next y2 x2 r =>
      cases hs
      simp only [m_len] at hd hnx
      subst hnx
      exact lv_ladd hx hb hd (K H locs ls hR hl hol (m_oks_cons (m_ok_long _ _) (m_oks_tail (m_oks_tail hos))) (m_same h))
    · cases hs
  | lsub =>
    simp only [m_ins] at hs
    split at hs
    · next y2 x2 r =>
      cases hs
      simp only [m_len] at hd hnx
      subst hnx
      exact lv_lsub hx hb hd (K H locs ls hR hl hol (m_oks_cons (m_ok_long _ _) (m_oks_tail (m_oks_tail hos))) (m_same h))
    · cases hs
  | lmul =>
    simp only [m_ins] at hs
    split at hs
    · next y2 x2 r =>
      cases hs
      simp only [m_len] at hd hnx
      subst hnx
      exact lv_lmul hx hb hd (K H locs ls hR hl hol (m_oks_cons (m_ok_long _ _) (m_oks_tail (m_oks_tail hos))) (m_same h))
    · cases hs
  | land =>
    simp only [m_ins] at hs
    split at hs
    · next y2 x2 r =>
      cases hs
      simp only [m_len] at hd hnx
      subst hnx
      exact lv_land hx hb hd (K H locs ls hR hl hol (m_oks_cons (m_ok_long _ _) (m_oks_tail (m_oks_tail hos))) (m_same h))
    · cases hs
  | lor =>
    simp only [m_ins] at hs
    split at hs
    · next y2 x2 r =>
      cases hs
      simp only [m_len] at hd hnx
      subst hnx
      exact lv_lor hx hb hd (K H locs ls hR hl hol (m_oks_cons (m_ok_long _ _) (m_oks_tail (m_oks_tail hos))) (m_same h))
    · cases hs
  | lshl =>
    simp only [m_ins] at hs
    split at hs
    · next y2 x2 r =>
      cases hs
      simp only [m_len] at hd hnx
      subst hnx
      exact lv_lshl hx hb hd rfl (K H locs ls hR hl hol (m_oks_cons (m_ok_long _ _) (m_oks_tail (m_oks_tail hos))) (m_same h))
    · cases hs
  | lcmp =>
    simp only [m_ins] at hs
    split at hs
    · next y2 x2 r =>
      cases hs
      simp only [m_len] at hd hnx
      subst hnx
      exact W.lcmp hx hb hd (K H locs ls hR hl hol (m_oks_cons (m_ok_int _ _) (m_oks_tail (m_oks_tail hos))) (m_same h))
    · cases hs
  | ineg =>
    simp only [m_ins] at hs
    split at hs
    · next x2 r =>
      cases hs
      simp only [m_len] at hd hnx
      subst hnx
      exact lv_ineg hx hb hd (K H locs ls hR hl hol (m_oks_cons (m_ok_int _ _) (m_oks_tail hos)) (m_same h))
    · cases hs
  | i2l =>
    simp only [m_ins] at hs
    split at hs
    · next x2 r =>
      cases hs
      simp only [m_len] at hd hnx
      subst hnx
      exact lv_i2l hx hb hd rfl (K H locs ls hR hl hol (m_oks_cons (m_ok_long _ _) (m_oks_tail hos)) (m_same h))
    · cases hs
  | l2i =>
    simp only [m_ins] at hs
    split at hs
    · next x2 r =>
      cases hs
      simp only [m_len] at hd hnx
      subst hnx
      exact lv_l2i hx hb hd rfl (K H locs ls hR hl hol (m_oks_cons (m_ok_int _ _) (m_oks_tail hos)) (m_same h))
    · cases hs
  | i2b =>
    simp only [m_ins] at hs
    split at hs
    · next x2 r =>
      cases hs
      simp only [m_len] at hd hnx
      subst hnx
      exact lv_i2b hx hb hd rfl (K H locs ls hR hl hol (m_oks_cons (m_ok_int _ _) (m_oks_tail hos)) (m_same h))
    · cases hs
  | i2s =>
    simp only [m_ins] at hs
    split at hs
    · next x2 r =>
      cases hs
      simp only [m_len] at hd hnx
      subst hnx
      exact lv_i2s hx hb hd rfl (K H locs ls hR hl hol (m_oks_cons (m_ok_int _ _) (m_oks_tail hos)) (m_same h))
    · cases hs
  | dup =>
    simp only [m_ins] at hs
    split at hs
    · next x2 r =>
      cases hs
      simp only [m_len] at hd hnx
      subst hnx
      exact lv_dup hx hb hd rfl (K H locs ls hR hl hol (m_oks_cons (m_oks_head hos) hos) (m_same h))
    · next x2 r =>
      cases hs
      simp only [m_len] at hd hnx
      subst hnx
      exact lv_dup hx hb hd rfl (K H locs ls hR hl hol (m_oks_cons (m_oks_head hos) hos) (m_same h))
    · cases hs
  | dup2 =>
    simp only [m_ins] at hs
    split at hs
    · next y2 x2 r =>
      cases hs
      simp only [m_len] at hd hnx
      subst hnx
      exact lv_dup2_11 hx hb hd rfl rfl (K H locs ls hR hl hol (m_oks_cons (m_oks_head hos) (m_oks_cons (m_oks_head (m_oks_tail hos)) hos)) (m_same h))
    · cases hs
  | pop2 =>
    simp only [m_ins] at hs
    split at hs
    · next x2 r =>
      cases hs
      simp only [m_len] at hd hnx
      subst hnx
      exact lv_pop2_2 hx hb hd rfl (K H locs ls hR hl hol (m_oks_tail hos) (m_same h))
    · cases hs
  | goto off =>
    simp only [m_lok, decide_eq_true_eq] at hk
    cases hs
    simp only [m_len] at hd hnx
    exact lv_goto hx hb hd hk (K H locs ls hR hl hol hos (m_same h))
  | ifnull off =>
    simp only [m_lok, decide_eq_true_eq] at hk
    simp only [m_ins] at hs
    simp only [m_len] at hd hnx
    split at hs
    · next r =>
      cases hs
      exact lv_ifnullN hx hb hd hk (K H locs ls hR hl hol (m_oks_tail hos) (m_same h))
    · next x2 r =>
      cases hs
      subst hnx
      exact lv_ifnull hx hb hd (K H locs ls hR hl hol (m_oks_tail hos) (m_same h))
    · cases hs
  | ifnonnull off =>
    simp only [m_lok, decide_eq_true_eq] at hk
    simp only [m_ins] at hs
    simp only [m_len] at hd hnx
    split at hs
    · next r =>
      cases hs
      subst hnx
      exact lv_ifnonnullN hx hb hd (K H locs ls hR hl hol (m_oks_tail hos) (m_same h))
    · next x2 r =>
      cases hs
      exact lv_ifnonnull hx hb hd hk (K H locs ls hR hl hol (m_oks_tail hos) (m_same h))
    · cases hs
  | getfield idx =>
    simp only [m_ins] at hs
    split at hs
    · next i r =>
      split at hs
      · next ci fs hi =>
        split at hs
        · next v hv =>
          cases hbb : (Nat.beq ci a && Nat.ble 5 i) with
          | false => rw [hbb] at hs; cases hs
          | true =>
            rw [hbb] at hs
            cases hs
            simp only [Bool.and_eq_true] at hbb
            have e1 := Nat.eq_of_beq_eq_true hbb.1
            have h5 : 5 ≤ i := Nat.le_of_ble_eq_true hbb.2
            subst e1
            simp only [m_lok] at hk
            split at hk
            · next C T N hcl =>
              simp only [Bool.and_eq_true, decide_eq_true_eq] at hk
              obtain ⟨hkN, hkl⟩ := hk
              have hck := m_cok_at _ _ hcl
              simp only [m_len] at hd hnx
              subst hnx
              exact va_get hx hb hts hck.1 hown hR.1 hR.2.1 (i - 5) (m_ws_get h5 hi) hcl k hkN (hts _ (m_wd_spec hkl)) (fun _ z => z) (by simp [hv]) hd (K H locs ls hR hl hol (m_oks_cons (hR.2.2.2.2.2.2.1 i _ hi v (List.mem_of_getElem? hv)) (m_oks_tail hos)) (m_same h))
            · cases hk
        · cases hs
      · cases hs
    · cases hs
  | getstatic idx =>
    cases hs
    simp only [m_len] at hd hnx
    subst hnx
    simp only [m_lok] at hk
    split at hk
    · next C n2 d2 hst =>
      obtain ⟨hc5, hcT, hcZ⟩ := hR.2.2.2.2.2.1
      have hlt : a < 5 := Nat.lt_of_lt_of_le (List.getElem?_eq_some_iff.mp hst).1 (by decide)
      exact va_gets hx hb (hcZ a _ hst) hR.2.2.2.1 hown (hts _ (m_wd_spec hk)) (fun _ z => z) hd (K H locs ls hR hl hol (m_oks_cons (fun i2 e2 => by cases e2; exact Nat.lt_of_lt_of_le hlt hc5) hos) (m_same h))
    · cases hk
  | arraylength =>
    simp only [m_ins] at hs
    simp only [m_len] at hd hnx
    split at hs
    · next i r =>
      split at hs
      · next ty n2 x2 hi =>
        cases hs
        subst hnx
        have kk := K H locs ls hR hl hol (m_oks_cons (m_ok_int _ (Int32.ofNat n2)) (m_oks_tail hos)) (m_same h)
        by_cases h5 : 5 ≤ i
        · rcases hR.2.2.2.2.2.2.2 i _ hi with ⟨e1, -⟩ | ⟨e1, -⟩ | ⟨e1, -⟩
          · subst e1
            exact va_alen hx hb hR.1 hR.2.1 (i - 5) 0 (m_ws_get h5 hi) rfl rfl hd kk
          · subst e1
            exact va_alen hx hb hR.1 hR.2.1 (i - 5) 1 (m_ws_get h5 hi) rfl rfl hd kk
          · subst e1
            exact va_alen hx hb hR.1 hR.2.1 (i - 5) 2 (m_ws_get h5 hi) rfl rfl hd kk
        · obtain ⟨n3, f3, h1, hT⟩ := hR.2.2.2.2.2.1.2.1 i (Nat.lt_of_not_le h5)
          rw [hi] at h1
          cases h1
          exact va_tlen hx hb hT hR.2.2.2.1 rfl hd kk
      · cases hs
    · cases hs
  | putfield idx =>
    simp only [m_ins] at hs
    split at hs
    · next v i r =>
      split at hs
      · next ci fs hi =>
        cases hbb : (Nat.beq ci a && Nat.ble 5 i && Nat.blt k fs.length && m_fit w v) with
        | false => rw [hbb] at hs; cases hs
        | true =>
          rw [hbb] at hs
          cases hs
          simp only [Bool.and_eq_true] at hbb
          obtain ⟨⟨⟨b1, b2⟩, b3⟩, b4⟩ := hbb
          have e1 := Nat.eq_of_beq_eq_true b1
          have h5 : 5 ≤ i := Nat.le_of_ble_eq_true b2
          have hkl : k < fs.length := Nat.le_of_ble_eq_true b3
          subst e1
          simp only [m_lok] at hk
          split at hk
          · next C T N hcl =>
            simp only [Bool.and_eq_true, decide_eq_true_eq] at hk
            obtain ⟨⟨⟨hkN, hkw⟩, hkd⟩, hkf⟩ := hk
            obtain ⟨c1, c2, c3, c4, c5, c6⟩ := m_cok_at _ _ hcl
            obtain ⟨f1, f2⟩ := m_fit_spec hkd b4 α
            simp only [m_len] at hd hnx
            subst hnx
            have hRn := fun (H1 : Heap) (locs1 : List Loc) (q1 : va_P D m_cls ((m_ws α cA h).set (i - 5) (α i, .inr (ci, (fs.map (m_tv α)).set k (m_tv α v)))) H1) (q2 : va_D A ((m_ws α cA h).set (i - 5) (α i, .inr (ci, (fs.map (m_tv α)).set k (m_tv α v))))) (q3 : va_S A s.heap H1 locs1) => m_put_ok hR h5 hi (m_oks_head hos) q1 q2 q3
            cases hfn : (T k).2.2.2 with
            | false =>
              exact va_put hx hb hts c1 (m_ty0 T) c3 c2 hown hR.1 hR.2.1 hR.2.2.1 hR.2.2.2.1 (i - 5) (m_ws_get h5 hi) hcl k hkN (hts _ (m_wd_spec hkw)) (fun _ z => z) hfn (c3 k hkN) f1 f2 (by simpa using hkl) hd (fun H1 locs1 q1 q2 q3 => K H1 locs1 ls (hRn H1 locs1 q1 q2 q3) hl (by rw [List.length_set]; exact hol) (by rw [List.length_set]; exact m_oks_tail (m_oks_tail hos)) (m_set_same h5))
            | true =>
              rw [hfn] at hkf
              simp only [Bool.or_eq_true, Bool.and_eq_true, beq_iff_eq] at hkf
              rcases hkf with z | ⟨z1, z2⟩
              · cases z
              · exact va_putF hx hb hts c1 (m_ty0 T) c3 c2 hown hR.1 hR.2.1 hR.2.2.1 hR.2.2.2.1 (i - 5) (m_ws_get h5 hi) hcl k hkN (hts _ (m_wd_spec hkw)) (fun _ z => z) hfn (hin z1) z2 (c3 k hkN) f1 f2 (by simpa using hkl) hd (fun H1 locs1 q1 q2 q3 => K H1 locs1 ls (hRn H1 locs1 q1 q2 q3) hl (by rw [List.length_set]; exact hol) (by rw [List.length_set]; exact m_oks_tail (m_oks_tail hos)) (m_set_same h5))
          · cases hk
      · cases hs
    · cases hs
  | _ => cases hs
end MI
end
section
/-! methods standing: MW, and its rules -/
def MOk1 (M : MD) : Prop := ∀ q ∈ M.2.2.2.2.2, m_eok M.1 M.2.1 M.2.2.1 q = true
def MX (M : MD) (d mc ms : Nat) (p : Program) (R : Room) (s : State) (m : MethodId) (args : Array Value) (meth : Method) (c : Code) : Prop :=
  p.tables.exec = Jvm.exec ∧ c.code = M.2.1 ∧ c.maxLocals = M.2.2.1 ∧ s.vm.findClass M.1.cls = some m.cls ∧ (∀ w ∈ m_good, w.before args s = true) ∧ (∀ w ∈ m_nest, va_Nw w s) ∧ va_AO "ChairOld$Piece" s ∧ (M.1.name = "<init>" → meth.name = "<init>") ∧ d ≤ R.frames ∧ 40 * d ≤ R.locals ∧ mc ≤ R.cells ∧ ms ≤ R.slots
def m_isret (M : MD) (pc : Nat) (v : Option Value) : Prop := match M.2.2.2.1, v with
  | none, none => decode M.2.1 pc = .ok (.return_, 1)
  | some .int, some (.int _) => decode M.2.1 pc = .ok (.ireturn, 1)
  | some .boolean, some (.int x) => decode M.2.1 pc = .ok (.ireturn, 1) ∧ narrow .boolean (.int x) = .int x
  | some .long, some (.long _) => decode M.2.1 pc = .ok (.lreturn, 1)
  | some (.object _), some .null => decode M.2.1 pc = .ok (.areturn, 1)
  | some (.object _), some (.ref _) => decode M.2.1 pc = .ok (.areturn, 1)
  | _, _ => False
/-- addresses as at the entry, the first five cells too -/
def MA (α0 : Nat → Nat) (h0 : MH) (α : Nat → Nat) (h : MH) : Prop := (∀ i, i < h0.length → α i = α0 i) ∧ h0.length ≤ h.length ∧ ∀ i, i < 5 → h[i]? = h0[i]?
def MW (M : MD) (d mc ms : Nat) (v : Option Value) (hT : MH) (cells slots pc : Nat) (l : ML) (st : List Value) (h : MH) : Prop :=
  MOk1 M → ∀ (p : Program) (la : Launch) (e : Env) (R : Room) (s : State) (m : MethodId) (args : Array Value) (below : List Frame) (meth : Method) (c : Code) (A : Nat → Prop) (D : va_G) (cA : FieldType → ClassId) (Q : State → Prop) (α0 : Nat → Nat) (h0 : MH),
    MX M d mc ms p R s m args meth c →
    (∀ (α' : Nat → Nat) (H' : Heap) (locs' : List Loc) (pc' : Nat) (ls' : Array Slot), MR s A D cA α' hT H' locs' → MA α0 h0 α' hT → m_isret M pc' v → m_oks hT.length v.toList → W p la e R s m args below meth c H' locs' mc ms Q (F0 m pc' ls' (v.toList.map (m_tv α')))) →
    ∀ (α : Nat → Nat) (H : Heap) (locs : List Loc) (ls : Array Slot), MR s A D cA α h H locs → MA α0 h0 α h → lv_has ls M.2.2.1 (m_tl α l) → m_okl h.length l → m_oks h.length st →
      W p la e R s m args below meth c H locs cells slots Q (F0 m pc ls (st.map (m_tv α)))
def m_step (M : MD) (pc : Nat) (l : ML) (st : List Value) (h : MH) : Option (Nat × ML × List Value × MH) := match m_find pc M.2.2.2.2.2 with
  | some (ins, nx, a, k, _, _, w) => m_ins ins nx a k w l st h
  | none => none
section RU
variable {M : MD} {d mc ms : Nat} {v : Option Value} {hT : MH} {cells slots pc : Nat} {l : ML} {st : List Value} {h : MH}
theorem mw_step {pc' : Nat} {l' : ML} {st' : List Value} {h' : MH} (hs : m_step M pc l st h = some (pc', l', st', h')) (K : MW M d mc ms v hT cells slots pc' l' st' h') : MW M d mc ms v hT cells slots pc l st h := by
  intro hM p la e R s m args below meth c A D cA Q α0 h0 hX hret α H locs ls hR hA hl hol hos
  unfold m_step at hs
  split at hs
  · next ins nx a k pos y w hf =>
    obtain ⟨x1, x2, x3, x4, x5, x6, x7, x8, x9⟩ := id hX
    exact m_ins_ok x1 x2 x4 x5 x8 (hM _ (m_find_mem hf)) hs hR hl hol hos (fun H' locs' ls' hR' hl' hol' hos' hlen => K hM p la e R s m args below meth c A D cA Q α0 h0 hX hret α H' locs' ls' hR' ⟨hA.1, by rw [hlen.1]; exact hA.2.1, fun i hi => (hlen.2 i hi).trans (hA.2.2 i hi)⟩ hl' hol' hos')
  · cases hs
/-- the same, but not from place t on -/
theorem mw_to (t : Nat) {pc' : Nat} {l' : ML} {st' : List Value} {h' : MH} (_ : Nat.beq pc t = false) (hs : m_step M pc l st h = some (pc', l', st', h')) (K : MW M d mc ms v hT cells slots pc' l' st' h') : MW M d mc ms v hT cells slots pc l st h := mw_step hs K
theorem mw_pick (ks : List Nat) (K : MW M d mc ms v hT cells slots pc (m_pick l ks) st h) : MW M d mc ms v hT cells slots pc l st h := by
  intro hM p la e R s m args below meth c A D cA Q α0 h0 hX hret α H locs ls hR hA hl hol hos
  refine K hM p la e R s m args below meth c A D cA Q α0 h0 hX hret α H locs ls hR hA ⟨hl.1, hl.2.1, fun q hq => ?_⟩ (fun q hq => hol q (m_pick_mem hq)) hos
  obtain ⟨q', h1, rfl⟩ := List.mem_map.mp hq
  exact hl.2.2 _ (List.mem_map.mpr ⟨q', m_pick_mem h1, rfl⟩)
theorem mw_widen {k n : Nat} (h1 : cells ≤ k) (h2 : slots ≤ n) (K : MW M d mc ms v hT k n pc l st h) : MW M d mc ms v hT cells slots pc l st h := by
  intro hM p la e R s m args below meth c A D cA Q α0 h0 hX hret α H locs ls hR hA hl hol hos
  exact W.widen h1 h2 (K hM p la e R s m args below meth c A D cA Q α0 h0 hX hret α H locs ls hR hA hl hol hos)
def m_br (M : MD) (pc : Nat) (st : List Value) : Option (Prop × Nat × Nat × List Value) := match m_find pc M.2.2.2.2.2 with
  | some (.ifCond cd _, nx, a, _) => match st with
    | .int x :: r => match cd with
      | .eq => some (x = 0, a, nx, r)
      | .ne => some (x = 0, nx, a, r)
      | .lt => some (x < 0, a, nx, r)
      | .ge => some (x < 0, nx, a, r)
      | .gt => some (0 < x, a, nx, r)
      | .le => some (0 < x, nx, a, r)
    | _ => none
  | some (.if_icmp cd _, nx, a, _) => match st with
    | .int y :: .int x :: r => match cd with
      | .eq => some (x = y, a, nx, r)
      | .ne => some (x = y, nx, a, r)
      | .lt => some (x < y, a, nx, r)
      | .ge => some (x < y, nx, a, r)
      | .gt => some (y < x, a, nx, r)
      | .le => some (y < x, nx, a, r)
    | _ => none
  | _ => none
theorem m_nlt {x y : Int32} (h : x ≤ y) : ¬ y < x := by
  rw [Int32.lt_iff_toInt_lt]
  rw [Int32.le_iff_toInt_le] at h
  omega
theorem m_nle {x y : Int32} (h : ¬ x ≤ y) : y < x := by
  rw [Int32.lt_iff_toInt_lt]
  rw [Int32.le_iff_toInt_le] at h
  omega
theorem mw_br {cnd : Prop} {t f : Nat} {r : List Value} (hs : m_br M pc st = some (cnd, t, f, r)) (kt : cnd → MW M d mc ms v hT cells slots t l r h) (kf : ¬ cnd → MW M d mc ms v hT cells slots f l r h) : MW M d mc ms v hT cells slots pc l st h := by
  intro hM p la e R s m args below meth c A D cA Q α0 h0 hX hret α H locs ls hR hA hl hol hos
  obtain ⟨x1, x2, x3, x4, x5, x6, x7, x8, x9⟩ := id hX
  have KT := fun (z : cnd) (ho : m_oks h.length r) => kt z hM p la e R s m args below meth c A D cA Q α0 h0 hX hret α H locs ls hR hA hl hol ho
  have KF := fun (z : ¬ cnd) (ho : m_oks h.length r) => kf z hM p la e R s m args below meth c A D cA Q α0 h0 hX hret α H locs ls hR hA hl hol ho
  unfold m_br at hs
  split at hs
  · next cd off nx a rest hf =>
    obtain ⟨k, pos, y, w⟩ := rest
    obtain ⟨hd, hnx, hk⟩ := m_eok_spec (hM _ (m_find_mem hf))
    simp only [m_lok, decide_eq_true_eq] at hk
    simp only [m_len] at hd hnx
    split at hs
    · next x r2 =>
      have ho := m_oks_tail hos
      cases cd <;> cases hs
      · subst hnx; exact lv_if_eq x1 x2 hd hk (fun z => KT z ho) (fun z => KF z ho)
      · subst hnx; exact lv_if_ne x1 x2 hd hk (fun z => KF z ho) (fun z => KT z ho)
      · subst hnx; exact lv_if_lt x1 x2 hd hk (fun z => KT z ho) (fun z => KF z ho)
      · subst hnx; exact lv_if_ge x1 x2 hd hk (fun z => KF (m_nlt z) ho) (fun z => KT (m_nle z) ho)
      · subst hnx; exact lv_if_gt x1 x2 hd hk (fun z => KT z ho) (fun z => KF z ho)
      · subst hnx; exact lv_if_le x1 x2 hd hk (fun z => KF (m_nlt z) ho) (fun z => KT (m_nle z) ho)
    · cases hs
  · next cd off nx a rest hf =>
    obtain ⟨k, pos, y, w⟩ := rest
    obtain ⟨hd, hnx, hk⟩ := m_eok_spec (hM _ (m_find_mem hf))
    simp only [m_lok, decide_eq_true_eq] at hk
    simp only [m_len] at hd hnx
    split at hs
    · next y2 x r2 =>
      have ho := m_oks_tail (m_oks_tail hos)
      cases cd <;> cases hs
      · subst hnx; exact lv_icmp_eq x1 x2 hd hk (fun z => KT z ho) (fun z => KF z ho)
      · subst hnx; exact lv_icmp_ne x1 x2 hd hk (fun z => KF z ho) (fun z => KT z ho)
      · subst hnx; exact lv_icmp_lt x1 x2 hd hk (fun z => KT z ho) (fun z => KF z ho)
      · subst hnx; exact lv_icmp_ge x1 x2 hd hk (fun z => KF (m_nlt z) ho) (fun z => KT (m_nle z) ho)
      · subst hnx; exact lv_icmp_gt x1 x2 hd hk (fun z => KT z ho) (fun z => KF z ho)
      · subst hnx; exact lv_icmp_le x1 x2 hd hk (fun z => KF (m_nlt z) ho) (fun z => KT (m_nle z) ho)
    · cases hs
  · cases hs
theorem mw_brT {cnd : Prop} {t f : Nat} {r : List Value} (hs : m_br M pc st = some (cnd, t, f, r)) (hc : cnd) (kt : MW M d mc ms v hT cells slots t l r h) : MW M d mc ms v hT cells slots pc l st h := mw_br hs (fun _ => kt) (fun z => absurd hc z)
theorem mw_brF {cnd : Prop} {t f : Nat} {r : List Value} (hs : m_br M pc st = some (cnd, t, f, r)) (hc : ¬ cnd) (kf : MW M d mc ms v hT cells slots f l r h) : MW M d mc ms v hT cells slots pc l st h := mw_br hs (fun z => absurd z hc) (fun _ => kf)
/-- array loads: length, index, value, next place, rest -/
def m_ald (M : MD) (pc : Nat) (st : List Value) (h : MH) : Option (Nat × Int32 × Value × Nat × List Value) := match m_find pc M.2.2.2.2.2 with
  | some (.iaload, nx, _) => match st with
    | .int j :: .ref i :: r => match h[i]? with
      | some (.inl (_, n, .inl f)) => some (n, j, .int (f j.toNatClampNeg), nx, r)
      | _ => none
    | _ => none
  | some (.laload, nx, _) => match st with
    | .int j :: .ref i :: r => match h[i]? with
      | some (.inl (_, n, .inr (.inl f))) => bif Nat.ble 5 i then some (n, j, .long (f j.toNatClampNeg), nx, r) else none
      | _ => none
    | _ => none
  | some (.aaload, nx, _) => match st with
    | .int j :: .ref i :: r => match h[i]? with
      | some (.inl (_, n, .inr (.inr (.inr (.inr f))))) => bif Nat.ble 5 i then some (n, j, va_rf (f j.toNatClampNeg), nx, r) else none
      | _ => none
    | _ => none
  | _ => none
theorem m_cond {b : Bool} {α : Type} {x y : α} (h : (bif b then some x else none) = some y) : b = true ∧ x = y := by
  cases b with
  | false => cases h
  | true => exact ⟨rfl, Option.some.inj h⟩
theorem mw_ald {n nx : Nat} {j : Int32} {x : Value} {r : List Value} (hs : m_ald M pc st h = some (n, j, x, nx, r)) (hin : vp_in j n) (K : MW M d mc ms v hT cells slots nx l (x :: r) h) : MW M d mc ms v hT cells slots pc l st h := by
  intro hM p la e R s m args below meth c A D cA Q α0 h0 hX hret α H locs ls hR hA hl hol hos
  obtain ⟨x1, x2, x3, x4, x5, x6, x7, x8, x9⟩ := id hX
  have KK := fun (ho : m_oks h.length (x :: r)) => K hM p la e R s m args below meth c A D cA Q α0 h0 hX hret α H locs ls hR hA hl hol ho
  unfold m_ald at hs
  split at hs
  · next nx2 rest hf =>
    obtain ⟨a, k, pos, y, w⟩ := rest
    obtain ⟨hd, hnx, hk⟩ := m_eok_spec (hM _ (m_find_mem hf))
    simp only [m_len] at hd hnx
    split at hs
    · next j2 i r2 =>
      split at hs
      · next ty n2 f hi =>
        cases hs
        subst hnx
        have ho := m_oks_cons (m_ok_int h.length (f j.toNatClampNeg)) (m_oks_tail (m_oks_tail hos))
        by_cases h5 : 5 ≤ i
        · rcases hR.2.2.2.2.2.2.2 i _ hi with ⟨e1, -⟩ | ⟨-, f2, e2⟩ | ⟨-, f2, e2⟩
          · subst e1
            exact va_iald x1 x2 hR.1 hR.2.1 (i - 5) 0 (m_ws_get h5 hi) rfl hin hd (KK ho)
          · cases e2
          · cases e2
        · obtain ⟨n3, f3, h1, hT⟩ := hR.2.2.2.2.2.1.2.1 i (Nat.lt_of_not_le h5)
          rw [hi] at h1
          cases h1
          exact va_ti x1 x2 hT hR.2.2.2.1 hin rfl hd (KK ho)
      · cases hs
    · cases hs
  · next nx2 rest hf =>
    obtain ⟨a, k, pos, y, w⟩ := rest
    obtain ⟨hd, hnx, hk⟩ := m_eok_spec (hM _ (m_find_mem hf))
    simp only [m_len] at hd hnx
    split at hs
    · next j2 i r2 =>
      split at hs
      · next ty n2 f hi =>
        obtain ⟨h5, hs⟩ := m_cond hs
        cases hs
        subst hnx
        have h5 : 5 ≤ i := Nat.le_of_ble_eq_true h5
        have ho := m_oks_cons (m_ok_long h.length (f j.toNatClampNeg)) (m_oks_tail (m_oks_tail hos))
        rcases hR.2.2.2.2.2.2.2 i _ hi with ⟨-, f2, e2⟩ | ⟨e1, -⟩ | ⟨-, f2, e2⟩
        · cases e2
        · subst e1
          exact va_lald x1 x2 hR.1 hR.2.1 (i - 5) 1 (m_ws_get h5 hi) rfl hin hd (KK ho)
        · cases e2
      · cases hs
    · cases hs
  · next nx2 rest hf =>
    obtain ⟨a, k, pos, y, w⟩ := rest
    obtain ⟨hd, hnx, hk⟩ := m_eok_spec (hM _ (m_find_mem hf))
    simp only [m_len] at hd hnx
    split at hs
    · next j2 i r2 =>
      split at hs
      · next ty n2 f hi =>
        obtain ⟨h5, hs⟩ := m_cond hs
        cases hs
        subst hnx
        have h5 : 5 ≤ i := Nat.le_of_ble_eq_true h5
        have hov : m_okv h.length (va_rf (f j.toNatClampNeg)) := by
          cases hj : f j.toNatClampNeg with
          | none => exact m_ok_null _
          | some a => exact fun i2 e2 => by cases e2; exact hR.2.2.2.2.2.2.1 i _ hi f rfl _ _ hj
        have ho := m_oks_cons hov (m_oks_tail (m_oks_tail hos))
        have KK := KK ho
        have ev : m_tv α (va_rf (f j.toNatClampNeg)) = va_rf ((f j.toNatClampNeg).map α) := by cases f j.toNatClampNeg <;> rfl
        rw [List.map_cons, ev] at KK
        rcases hR.2.2.2.2.2.2.2 i _ hi with ⟨-, f2, e2⟩ | ⟨-, f2, e2⟩ | ⟨e1, -⟩
        · cases e2
        · cases e2
        · subst e1
          exact va_aldq x1 x2 hR.1 hR.2.1 (i - 5) 2 (m_ws_get h5 hi) rfl hin hd KK
      · cases hs
    · cases hs
  · cases hs
/-- array stores: length, index, new heap, next place, rest -/
def m_ast (M : MD) (pc : Nat) (st : List Value) (h : MH) : Option (Nat × Int32 × MH × Nat × List Value) := match m_find pc M.2.2.2.2.2 with
  | some (.iastore, nx, _) => match st with
    | .int x :: .int j :: .ref i :: r => match h[i]? with
      | some (.inl (ty, n, .inl f)) => bif Nat.ble 5 i then some (n, j, h.set i (.inl (ty, n, .inl (upd f j.toNatClampNeg x))), nx, r) else none
      | _ => none
    | _ => none
  | some (.lastore, nx, _) => match st with
    | .long x :: .int j :: .ref i :: r => match h[i]? with
      | some (.inl (ty, n, .inr (.inl f))) => bif Nat.ble 5 i then some (n, j, h.set i (.inl (ty, n, .inr (.inl (vp_updL f j.toNatClampNeg x)))), nx, r) else none
      | _ => none
    | _ => none
  | some (.aastore, nx, _) => match st with
    | .ref x :: .int j :: .ref i :: r => match h[i]?, h[x]? with
      | some (.inl (ty, n, .inr (.inr (.inr (.inr f))))), some (.inr (ci, _)) => bif Nat.ble 5 i && Nat.ble 5 x && Nat.beq ci 3 then some (n, j, h.set i (.inl (ty, n, .inr (.inr (.inr (.inr (va_up f j.toNatClampNeg (some x))))))), nx, r) else none
      | _, _ => none
    | _ => none
  | _ => none
theorem mw_ast {n nx : Nat} {j : Int32} {r : List Value} {h' : MH} (hs : m_ast M pc st h = some (n, j, h', nx, r)) (hin : vp_in j n) (K : MW M d mc ms v hT cells slots nx l r h') : MW M d mc ms v hT cells slots pc l st h := by
  intro hM p la e R s m args below meth c A D cA Q α0 h0 hX hret α H locs ls hR hA hl hol hos
  obtain ⟨x1, x2, x3, x4, x5, x6, x7, x8, x9⟩ := id hX
  have KK := fun (H1 : Heap) (locs1 : List Loc) (hlen : h'.length = h.length ∧ ∀ i, i < 5 → h'[i]? = h[i]?) (hR' : MR s A D cA α h' H1 locs1) (ho : m_oks h.length r) => K hM p la e R s m args below meth c A D cA Q α0 h0 hX hret α H1 locs1 ls hR' ⟨hA.1, by rw [hlen.1]; exact hA.2.1, fun i hi => (hlen.2 i hi).trans (hA.2.2 i hi)⟩ hl (by rw [hlen.1]; exact hol) (by rw [hlen.1]; exact ho)
  unfold m_ast at hs
  split at hs
  · next nx2 rest hf =>
    obtain ⟨a, k, pos, y, w⟩ := rest
    obtain ⟨hd, hnx, hk⟩ := m_eok_spec (hM _ (m_find_mem hf))
    simp only [m_len] at hd hnx
    split at hs
    · next x j2 i r2 =>
      split at hs
      · next ty n2 f hi =>
        obtain ⟨h5, hs⟩ := m_cond hs
        cases hs
        subst hnx
        have h5 : 5 ≤ i := Nat.le_of_ble_eq_true h5
        rcases hR.2.2.2.2.2.2.2 i _ hi with ⟨e1, -⟩ | ⟨-, f2, e2⟩ | ⟨-, f2, e2⟩
        · subst e1
          exact va_iast x1 x2 hR.1 hR.2.1 hR.2.2.1 hR.2.2.2.1 (i - 5) 0 (m_ws_get h5 hi) rfl hin hd (fun H1 locs1 q1 q2 q3 => KK H1 locs1 (m_set_same h5) (m_set_R hR h5 (fun f3 e3 => by cases e3) (Or.inl ⟨rfl, _, rfl⟩) q1 q2 q3) (m_oks_tail (m_oks_tail (m_oks_tail hos))))
        · cases e2
        · cases e2
      · cases hs
    · cases hs
  · next nx2 rest hf =>
    obtain ⟨a, k, pos, y, w⟩ := rest
    obtain ⟨hd, hnx, hk⟩ := m_eok_spec (hM _ (m_find_mem hf))
    simp only [m_len] at hd hnx
    split at hs
    · next x j2 i r2 =>
      split at hs
      · next ty n2 f hi =>
        obtain ⟨h5, hs⟩ := m_cond hs
        cases hs
        subst hnx
        have h5 : 5 ≤ i := Nat.le_of_ble_eq_true h5
        rcases hR.2.2.2.2.2.2.2 i _ hi with ⟨-, f2, e2⟩ | ⟨e1, -⟩ | ⟨-, f2, e2⟩
        · cases e2
        · subst e1
          exact va_last x1 x2 hR.1 hR.2.1 hR.2.2.1 hR.2.2.2.1 (i - 5) 1 (m_ws_get h5 hi) rfl hin hd (fun H1 locs1 q1 q2 q3 => KK H1 locs1 (m_set_same h5) (m_set_R hR h5 (fun f3 e3 => by cases e3) (Or.inr (Or.inl ⟨rfl, _, rfl⟩)) q1 q2 q3) (m_oks_tail (m_oks_tail (m_oks_tail hos))))
        · cases e2
      · cases hs
    · cases hs
  · next nx2 rest hf =>
    obtain ⟨a, k, pos, y, w⟩ := rest
    obtain ⟨hd, hnx, hk⟩ := m_eok_spec (hM _ (m_find_mem hf))
    simp only [m_len] at hd hnx
    split at hs
    · next x j2 i r2 =>
      split at hs
      · next ty n2 f ci fs hi hxx =>
        obtain ⟨h5, hs⟩ := m_cond hs
        cases hs
        subst hnx
        simp only [Bool.and_eq_true] at h5
        obtain ⟨⟨h5, h6⟩, h7⟩ := h5
        have h5 : 5 ≤ i := Nat.le_of_ble_eq_true h5
        have h6 : 5 ≤ x := Nat.le_of_ble_eq_true h6
        have h7 := Nat.eq_of_beq_eq_true h7
        subst h7
        have hfo := hR.2.2.2.2.2.2.1 i _ hi f rfl
        have hxo : x < h.length := (List.getElem?_eq_some_iff.mp hxx).1
        have eu : (fun z => (va_up f j.toNatClampNeg (some x) z).map α) = va_up (fun z => (f z).map α) j.toNatClampNeg (some (α x)) := by
          funext z
          simp only [va_up]
          split <;> rfl
        rcases hR.2.2.2.2.2.2.2 i _ hi with ⟨-, f2, e2⟩ | ⟨-, f2, e2⟩ | ⟨e1, -⟩
        · cases e2
        · cases e2
        · subst e1
          refine va_astq (r := ("ChairOld$Piece", m_T3, 6)) x1 x2 hR.1 hR.2.1 hR.2.2.1 hR.2.2.2.1 (i - 5) 2 (x - 5) 3 (m_ws_get h5 hi) rfl (m_ws_get h6 hxx) rfl hin hd (fun H1 locs1 q1 q2 q3 => KK H1 locs1 (m_set_same h5) (m_set_R hR h5 ?_ (Or.inr (Or.inr ⟨rfl, _, rfl⟩)) ?_ ?_ q3) (m_oks_tail (m_oks_tail (m_oks_tail hos))))
          · intro f3 e3 z2 z3 hz
            cases e3
            simp only [va_up] at hz
            split at hz
            · cases hz
              exact hxo
            · exact hfo z2 z3 hz
          · simp only [m_te, m_ta, eu]
            exact q1
          · simp only [m_te, m_ta, eu]
            exact q2
      · cases hs
    · cases hs
  · cases hs
def m_div (M : MD) (pc : Nat) (st : List Value) : Option (Prop × Value × Nat × List Value) := match m_find pc M.2.2.2.2.2 with
  | some (.idiv, nx, _) => match st with
    | .int y :: .int x :: r => some (y = 0, .int (x / y), nx, r)
    | _ => none
  | some (.irem, nx, _) => match st with
    | .int y :: .int x :: r => some (y = 0, .int (x - x / y * y), nx, r)
    | _ => none
  | some (.ldiv, nx, _) => match st with
    | .long y :: .long x :: r => some (y = 0, .long (x / y), nx, r)
    | _ => none
  | some (.lrem, nx, _) => match st with
    | .long y :: .long x :: r => some (y = 0, .long (x - x / y * y), nx, r)
    | _ => none
  | _ => none
theorem mw_div {cnd : Prop} {x : Value} {nx : Nat} {r : List Value} (hs : m_div M pc st = some (cnd, x, nx, r)) (hne : ¬ cnd) (K : MW M d mc ms v hT cells slots nx l (x :: r) h) : MW M d mc ms v hT cells slots pc l st h := by
  intro hM p la e R s m args below meth c A D cA Q α0 h0 hX hret α H locs ls hR hA hl hol hos
  obtain ⟨x1, x2, x3, x4, x5, x6, x7, x8, x9⟩ := id hX
  have KK := fun (ho : m_oks h.length (x :: r)) => K hM p la e R s m args below meth c A D cA Q α0 h0 hX hret α H locs ls hR hA hl hol ho
  unfold m_div at hs
  split at hs
  · next nx2 rest hf =>
    obtain ⟨a, k, pos, y, w⟩ := rest
    obtain ⟨hd, hnx, hk⟩ := m_eok_spec (hM _ (m_find_mem hf))
    simp only [m_len] at hd hnx
    split at hs
    · cases hs
      subst hnx
      exact lv_idiv x1 x2 hd hne (KK (m_oks_cons (m_ok_int _ _) (m_oks_tail (m_oks_tail hos))))
    · cases hs
  · next nx2 rest hf =>
    obtain ⟨a, k, pos, y, w⟩ := rest
    obtain ⟨hd, hnx, hk⟩ := m_eok_spec (hM _ (m_find_mem hf))
    simp only [m_len] at hd hnx
    split at hs
    · cases hs
      subst hnx
      exact lv_irem x1 x2 hd hne (KK (m_oks_cons (m_ok_int _ _) (m_oks_tail (m_oks_tail hos))))
    · cases hs
  · next nx2 rest hf =>
    obtain ⟨a, k, pos, y, w⟩ := rest
    obtain ⟨hd, hnx, hk⟩ := m_eok_spec (hM _ (m_find_mem hf))
    simp only [m_len] at hd hnx
    split at hs
    · cases hs
      subst hnx
      exact lv_ldiv x1 x2 hd hne (KK (m_oks_cons (m_ok_long _ _) (m_oks_tail (m_oks_tail hos))))
    · cases hs
  · next nx2 rest hf =>
    obtain ⟨a, k, pos, y, w⟩ := rest
    obtain ⟨hd, hnx, hk⟩ := m_eok_spec (hM _ (m_find_mem hf))
    simp only [m_len] at hd hnx
    split at hs
    · cases hs
      subst hnx
      exact lv_lrem x1 x2 hd hne (KK (m_oks_cons (m_ok_long _ _) (m_oks_tail (m_oks_tail hos))))
    · cases hs
  · cases hs
/-- where a switch goes -/
def m_sw (M : MD) (pc : Nat) (x : Int) : Option Int := match m_find pc M.2.2.2.2.2 with
  | some (.tableswitch dflt lo hi offs, _) => bif decide (x < lo) || decide (hi < x) then some ((pc : Int) + dflt) else (offs[(x - lo).toNat]?).map fun o => (pc : Int) + o
  | some (.lookupswitch dflt ps, _) => some ((pc : Int) + Op.lookupswitch.offset ps.toList dflt x)
  | _ => none
theorem mw_sw {x : Int32} {t : Nat} {r : List Value} (hs : m_sw M pc x.toInt = some (t : Int)) (K : MW M d mc ms v hT cells slots t l r h) : MW M d mc ms v hT cells slots pc l (.int x :: r) h := by
  intro hM p la e R s m args below meth c A D cA Q α0 h0 hX hret α H locs ls hR hA hl hol hos
  obtain ⟨x1, x2, x3, x4, x5, x6, x7, x8, x9⟩ := id hX
  have KK := K hM p la e R s m args below meth c A D cA Q α0 h0 hX hret α H locs ls hR hA hl hol (m_oks_tail hos)
  unfold m_sw at hs
  split at hs
  · next dflt lo hi offs rest hf =>
    obtain ⟨nx, a, k, pos, y, w⟩ := rest
    obtain ⟨hd, hnx, hk⟩ := m_eok_spec (hM _ (m_find_mem hf))
    cases hbb : (decide (x.toInt < lo) || decide (hi < x.toInt)) with
    | true =>
      rw [hbb] at hs
      simp only [Bool.or_eq_true, decide_eq_true_eq] at hbb
      exact lv_tableOut x1 x2 hd hbb (Option.some.inj hs) KK
    | false =>
      rw [hbb] at hs
      simp only [Bool.or_eq_false_iff, decide_eq_false_iff_not] at hbb
      cases ho : offs[(x.toInt - lo).toNat]? with
      | none =>
        rw [ho] at hs
        cases hs
      | some off =>
        rw [ho] at hs
        exact lv_tableIn x1 x2 hd hbb.1 hbb.2 ho (Option.some.inj hs) KK
  · next dflt ps rest hf =>
    obtain ⟨nx, a, k, pos, y, w⟩ := rest
    obtain ⟨hd, hnx, hk⟩ := m_eok_spec (hM _ (m_find_mem hf))
    exact lv_lookup x1 x2 hd hk rfl (Option.some.inj hs) KK
  · cases hs
/-- a return -/
def m_ret (M : MD) (pc : Nat) (v : Option Value) : Bool := match m_find pc M.2.2.2.2.2 with
  | some (.return_, _) => match M.2.2.2.1, v with
    | none, none => true
    | _, _ => false
  | some (.ireturn, _) => match M.2.2.2.1, v with
    | some .int, some (.int _) => true
    | some .boolean, some (.int _) => true
    | _, _ => false
  | some (.lreturn, _) => match M.2.2.2.1, v with
    | some .long, some (.long _) => true
    | _, _ => false
  | some (.areturn, _) => match M.2.2.2.1, v with
    | some (.object _), some .null => true
    | some (.object _), some (.ref _) => true
    | _, _ => false
  | _ => false
/-- a boolean's answer is 0 or 1 -/
def m_bool (M : MD) (v : Option Value) : Prop := match M.2.2.2.1, v with
  | some .boolean, some (.int x) => narrow .boolean (.int x) = .int x
  | _, _ => True
theorem m_ret_spec (hM : MOk1 M) (hr : m_ret M pc v = true) (hb : m_bool M v) : m_isret M pc v := by
  unfold m_ret at hr
  unfold m_isret
  unfold m_bool at hb
  split at hr
  · next rest hf =>
    obtain ⟨nx, a, k, pos, y, w⟩ := rest
    obtain ⟨hd, hnx, hk⟩ := m_eok_spec (hM _ (m_find_mem hf))
    split at hr
    · next e1 => rw [e1]; exact hd
    · cases hr
  · next rest hf =>
    obtain ⟨nx, a, k, pos, y, w⟩ := rest
    obtain ⟨hd, hnx, hk⟩ := m_eok_spec (hM _ (m_find_mem hf))
    split at hr
    · next e1 => rw [e1]; exact hd
    · next e1 => rw [e1] at hb ⊢; exact ⟨hd, hb⟩
    · cases hr
  · next rest hf =>
    obtain ⟨nx, a, k, pos, y, w⟩ := rest
    obtain ⟨hd, hnx, hk⟩ := m_eok_spec (hM _ (m_find_mem hf))
    split at hr
    · next e1 => rw [e1]; exact hd
    · cases hr
  · next rest hf =>
    obtain ⟨nx, a, k, pos, y, w⟩ := rest
    obtain ⟨hd, hnx, hk⟩ := m_eok_spec (hM _ (m_find_mem hf))
    split at hr
    · next e1 => rw [e1]; exact hd
    · next e1 => rw [e1]; exact hd
    · cases hr
  · cases hr
theorem mw_ret (hr : m_ret M pc v = true) (hb : m_bool M v) (hc : cells ≤ mc) (hs : slots ≤ ms) : MW M d mc ms v h cells slots pc l v.toList h := by
  intro hM p la e R s m args below meth c A D cA Q α0 h0 hX hret α H locs ls hR hA hl hol hos
  exact W.widen hc hs (hret α H locs pc ls hR hA (m_ret_spec hM hr hb) hos)
end RU
end
section
/-! what is made; calls; contracts -/
def m_al (α : Nat → Nat) (n q : Nat) : Nat → Nat := fun i => if i = n then q else α i
theorem m_al_lt {α : Nat → Nat} {n q : Nat} : ∀ i, i < n → m_al α n q i = α i := fun i hi => if_neg (by omega)
theorem m_al_at {α : Nat → Nat} {n q : Nat} : m_al α n q n = q := if_pos rfl
theorem m_grow_R {s : State} {A : Nat → Prop} {D : va_G} {cA : FieldType → ClassId} {α : Nat → Nat} {h : MH} {H H1 : Heap} {locs locs1 : List Loc} {q : Nat} {d : MCell} (hR : MR s A D cA α h H locs) (hok : m_okc h.length d) (hty : m_tyc d)
    (q1 : va_P D m_cls (m_ws α cA h ++ [(q, m_te α cA d)]) H1) (q2 : va_D A (m_ws α cA h ++ [(q, m_te α cA d)])) (q3 : va_S A s.heap H1 locs1) : MR s A D cA (m_al α h.length q) (h ++ [d]) H1 locs1 := by
  obtain ⟨a1, a2, a3, a4, a5, ⟨b1, b2, b3⟩, a7, a8⟩ := hR
  have e : m_ws (m_al α h.length q) cA (h ++ [d]) = m_ws α cA h ++ [(q, m_te α cA d)] := by
    rw [m_ws_app b1, m_ws_congr m_al_lt b1 a7, m_al_at, m_te_congr m_al_lt hok]
  rw [← e] at q1 q2
  refine ⟨a1, q1, q2, q3, a5, ⟨by rw [List.length_append]; omega, fun i hi => ?_, fun i z hz => ?_⟩, m_okh_app a7 (m_okc_mono (Nat.le_succ _) hok), fun k c hk => ?_⟩
  · obtain ⟨n, f, c1, c2⟩ := b2 i hi
    exact ⟨n, f, by rw [List.getElem?_append_left (by omega)]; exact c1, by rw [m_al_lt i (by omega)]; exact c2⟩
  · have hi : i < 4 := (List.getElem?_eq_some_iff.mp hz).1
    rw [m_al_lt i (by omega)]
    exact b3 i z hz
  · by_cases hl : k < h.length
    · rw [List.getElem?_append_left hl] at hk
      exact a8 k c hk
    · rw [List.getElem?_append_right (by omega)] at hk
      have hz : k - h.length < 1 := (List.getElem?_eq_some_iff.mp hk).1
      rw [show k - h.length = 0 by omega] at hk
      cases hk
      exact hty
theorem m_grow_A {α0 α : Nat → Nat} {h0 h : MH} {q : Nat} {d : MCell} (h5 : 5 ≤ h.length) (hA : MA α0 h0 α h) : MA α0 h0 (m_al α h.length q) (h ++ [d]) :=
  ⟨fun i hi => (m_al_lt i (Nat.lt_of_lt_of_le hi hA.2.1)).trans (hA.1 i hi), by rw [List.length_append]; exact Nat.le_trans hA.2.1 (Nat.le_add_right _ _), fun i hi => by rw [List.getElem?_append_left (by omega)]; exact hA.2.2 i hi⟩
theorem m_oks_mono {n n' : Nat} (hn : n ≤ n') {st : List Value} (h : m_oks n st) : m_oks n' st := fun v hv => m_okv_mono hn (h v hv)
theorem m_okl_mono {n n' : Nat} (hn : n ≤ n') {l : ML} (h : m_okl n l) : m_okl n' l := fun v hv => m_okv_mono hn (h v hv)
/-- the fields of a new object -/
def m_dfl : Nat → List Value
  | 0 => [.null, .int 0, .null, .int 0]
  | 1 => [.null, .null, .null]
  | 2 => [.null, .null, .null, .int 0]
  | 3 => [.int 0, .int 0, .int 0, .int 0, .int 0, .null]
  | 4 => [.null, .int 0, .null, .int 0, .int 0, .int 0]
  | 5 => [.null, .null, .null, .null, .null, .null]
  | 6 => [.null, .null, .null, .null]
  | 7 => [.null, .null, .null, .null, .int 0, .int 0]
  | 8 => [.null, .null, .null, .null, .null, .null, .null, .null, .int 0, .null, .null, .null, .int 0, .int 0]
  | _ => [.null, .null, .null, .null, .int 0, .int 0, .int 0, .null, .null, .null, .null, .int 0, .null, .null, .int 0, .int 0, .int 0, .int 0, .int 0, .null, .null, .null, .null, .null, .long 0, .null, .null, .int 0, .null, .null, .null, .null, .int 0, .int 0, .int 0, .null, .null, .int 0, .int 0, .int 0, .null, .null, .null, .null]
theorem m_dfl_ok : ∀ (ci : Nat) (q : vw_C), m_cls[ci]? = some q → ∀ j, j < q.2.2 → defaultValue (m_ty0 q.2.1 j) = vp_V (m_dfl ci) j := by
  intro c q h
  match c, h with
  | 0, h => cases h; decide +kernel
  | 1, h => cases h; decide +kernel
  | 2, h => cases h; decide +kernel
  | 3, h => cases h; decide +kernel
  | 4, h => cases h; decide +kernel
  | 5, h => cases h; decide +kernel
  | 6, h => cases h; decide +kernel
  | 7, h => cases h; decide +kernel
  | 8, h => cases h; decide +kernel
  | 9, h => cases h; decide +kernel
  | c + 10, h => simp [m_cls] at h
theorem m_dfl_noref : ∀ (ci : Nat) (v : Value), v ∈ m_dfl ci → ∀ i, v ≠ .ref i := by
  intro c v h i e
  subst e
  unfold m_dfl at h
  split at h <;> simp at h
def m_arr0 (M : MD) (pc : Nat) (n : Nat) : Option (MCell × Nat) := match m_find pc M.2.2.2.2.2 with
  | some (.newarray .int, nx, _) => some (.inl (.int, n, .inl fun _ => 0), nx)
  | some (.newarray .long, nx, _) => some (.inl (.long, n, .inr (.inl fun _ => 0)), nx)
  | _ => none
def m_new (M : MD) (pc : Nat) : Option (Nat × Nat × Nat) := match m_find pc M.2.2.2.2.2 with
  | some (.new _, nx, a, _) => match m_cls[a]? with
    | some (_, _, N) => some (a, N, nx)
    | none => none
  | _ => none
def m_anew (M : MD) (pc : Nat) : Option Nat := match m_find pc M.2.2.2.2.2 with
  | some (.anewarray _, nx, _) => some nx
  | _ => none
theorem m_objW : (Cond.instanceMethod Lib.objectInit ∈ m_good) ∧ Cond.code Lib.objectInit ⟨#[0xb1]⟩ 1 none ∈ m_good := ⟨m_in (List.mem_of_getElem? (i := 89) (by decide +kernel)) rfl, m_in (List.mem_of_getElem? (i := 90) (by decide +kernel)) rfl⟩
theorem m_arrW : Cond.arrayClass .int ∈ m_good ∧ Cond.arrayClass .long ∈ m_good := ⟨m_in (List.mem_of_getElem? (i := 117) (by decide +kernel)) rfl, m_in (List.mem_of_getElem? (i := 188) (by decide +kernel)) rfl⟩
theorem m_cpyW : Cond.native arraycopyName ∈ m_good ∧ Cond.static arraycopyName ∈ m_good ∧ Cond.initialized "java/lang/System" ∈ m_good := ⟨m_in (List.mem_of_getElem? (i := 388) (by decide +kernel)) rfl, m_in (List.mem_of_getElem? (i := 387) (by decide +kernel)) rfl, m_in (List.mem_of_getElem? (i := 79) (by decide +kernel)) rfl⟩
section RV
variable {M : MD} {d mc ms : Nat} {v : Option Value} {hT : MH} {cells slots pc : Nat} {l : ML} {st : List Value} {h : MH}
theorem mw_newa {n : Int32} {N nx : Nat} {cell : MCell} (hn : ¬ n < 0) (hN : n.toNatClampNeg = N) (hs : m_arr0 M pc N = some (cell, nx)) (hB : N * 8 ≤ 536870912) (hc : cells + 1 ≤ mc) (hsl : slots + N ≤ ms)
    (K : MW M d mc ms v hT (cells + 1) (slots + N) nx l (.ref h.length :: st) (h ++ [cell])) : MW M d mc ms v hT cells slots pc l (.int n :: st) h := by
  intro hM p la e R s m args below meth c A D cA Q α0 h0 hX hret α H locs ls hR hA hl hol hos
  obtain ⟨x1, x2, x3, x4, x5, x6, x7, x8, x9, x10, x11, x12⟩ := id hX
  have h5 := hR.2.2.2.2.2.1.1
  have KK := fun (q : Nat) (H1 : Heap) (locs1 : List Loc) (hR' : MR s A D cA (m_al α h.length q) (h ++ [cell]) H1 locs1) => K hM p la e R s m args below meth c A D cA Q α0 h0 hX hret (m_al α h.length q) H1 locs1 ls hR' (m_grow_A h5 hA) (by rw [m_tl_congr m_al_lt hol]; exact hl) (m_okl_mono (by rw [List.length_append]; omega) hol) (m_oks_cons (fun i ei => by cases ei; rw [List.length_append]; exact Nat.lt_succ_self _) (m_oks_mono (by rw [List.length_append]; omega) (m_oks_tail hos)))
  have es : ∀ q : Nat, (Value.ref h.length :: st).map (m_tv (m_al α h.length q)) = .ref q :: st.map (m_tv α) := fun q => by
    rw [List.map_cons, m_stack_congr m_al_lt (m_oks_tail hos)]
    simp only [m_tv, m_al_at]
  unfold m_arr0 at hs
  split at hs
  · next nx2 rest hf =>
    obtain ⟨a, k, pos, y, w⟩ := rest
    obtain ⟨hd, hnx, hk⟩ := m_eok_spec (hM _ (m_find_mem hf))
    simp only [m_len] at hd hnx
    cases hs
    subst hnx
    refine va_newa (atype := .int) (ty := .int) (a0 := (N, .inl fun _ => 0)) x1 x2 (x5 _ m_arrW.1) rfl hR.1 hR.2.1 hR.2.2.1 hR.2.2.2.1 hR.2.2.2.2.1 (fun _ => rfl) hn hN (by show N * 4 ≤ _; omega) (by omega) (by omega) hd (fun q cA' H1 qK qP qD qS => ?_)
    have ec : cA' = cA .int := by
      have r1 : va_RA s cA' .int := (qK.2 3 _ rfl).2
      have r2 : va_RA s (cA .int) .int := (qK.2 0 _ rfl).2
      exact Option.some.inj (r1.symm.trans r2)
    subst ec
    have KQ := KK q H1 locs (m_grow_R hR (fun f3 e3 => by cases e3) (Or.inl ⟨rfl, _, rfl⟩) qP qD qS)
    rw [es] at KQ
    exact KQ
  · next nx2 rest hf =>
    obtain ⟨a, k, pos, y, w⟩ := rest
    obtain ⟨hd, hnx, hk⟩ := m_eok_spec (hM _ (m_find_mem hf))
    simp only [m_len] at hd hnx
    cases hs
    subst hnx
    refine va_newa (atype := .long) (ty := .long) (a0 := (N, .inr (.inl fun _ => 0))) x1 x2 (x5 _ m_arrW.2) rfl hR.1 hR.2.1 hR.2.2.1 hR.2.2.2.1 hR.2.2.2.2.1 (fun _ => rfl) hn hN (by show N * 8 ≤ _; omega) (by omega) (by omega) hd (fun q cA' H1 qK qP qD qS => ?_)
    have ec : cA' = cA .long := by
      have r1 : va_RA s cA' .long := (qK.2 3 _ rfl).2
      have r2 : va_RA s (cA .long) .long := (qK.2 1 _ rfl).2
      exact Option.some.inj (r1.symm.trans r2)
    subst ec
    have KQ := KK q H1 locs (m_grow_R hR (fun f3 e3 => by cases e3) (Or.inr (Or.inl ⟨rfl, _, rfl⟩)) qP qD qS)
    rw [es] at KQ
    exact KQ
  · cases hs
theorem mw_anew {n : Int32} {N nx : Nat} (hn : ¬ n < 0) (hN : n.toNatClampNeg = N) (hs : m_anew M pc = some nx) (hB : N * 4 ≤ 536870912) (hc : cells + 1 ≤ mc) (hsl : slots + N ≤ ms)
    (K : MW M d mc ms v hT (cells + 1) (slots + N) nx l (.ref h.length :: st) (h ++ [.inl (.object "ChairOld$Piece", N, .inr (.inr (.inr (.inr fun _ => none))))])) : MW M d mc ms v hT cells slots pc l (.int n :: st) h := by
  intro hM p la e R s m args below meth c A D cA Q α0 h0 hX hret α H locs ls hR hA hl hol hos
  obtain ⟨x1, x2, x3, x4, x5, x6, x7, x8, x9, x10, x11, x12⟩ := id hX
  have h5 := hR.2.2.2.2.2.1.1
  have es : ∀ q : Nat, (Value.ref h.length :: st).map (m_tv (m_al α h.length q)) = .ref q :: st.map (m_tv α) := fun q => by
    rw [List.map_cons, m_stack_congr m_al_lt (m_oks_tail hos)]
    simp only [m_tv, m_al_at]
  unfold m_anew at hs
  split at hs
  · next idx nx2 rest hf =>
    obtain ⟨a, k, pos, y, w⟩ := rest
    obtain ⟨hd, hnx, hk⟩ := m_eok_spec (hM _ (m_find_mem hf))
    simp only [m_len] at hd hnx
    simp only [m_lok] at hk
    cases hs
    subst hnx
    refine va_newq x1 x2 x4 (x5 _ (m_wd_spec hk)) x7 hR.1 hR.2.1 hR.2.2.1 hR.2.2.2.1 hR.2.2.2.2.1 hn hN hB (by omega) (by omega) hd (fun q cA' H1 qK qP qD qS => ?_)
    have ec : cA' = cA (.object "ChairOld$Piece") := by
      obtain ⟨_, _, _, _, _, r1⟩ : va_RA s cA' (.object "ChairOld$Piece") := (qK.2 3 _ rfl).2
      obtain ⟨_, _, _, _, _, r2⟩ : va_RA s (cA (.object "ChairOld$Piece")) (.object "ChairOld$Piece") := (qK.2 2 _ rfl).2
      exact Option.some.inj (r1.symm.trans r2)
    subst ec
    have KQ := K hM p la e R s m args below meth c A D cA Q α0 h0 hX hret (m_al α h.length q) H1 locs ls (m_grow_R hR (fun f3 e3 => by cases e3; exact fun j i hj => by cases hj) (Or.inr (Or.inr ⟨rfl, _, rfl⟩)) qP qD qS) (m_grow_A h5 hA) (by rw [m_tl_congr m_al_lt hol]; exact hl) (m_okl_mono (by rw [List.length_append]; omega) hol) (m_oks_cons (fun i ei => by cases ei; rw [List.length_append]; exact Nat.lt_succ_self _) (m_oks_mono (by rw [List.length_append]; omega) (m_oks_tail hos)))
    rw [es] at KQ
    exact KQ
  · cases hs
theorem mw_new {ci N nx : Nat} (hs : m_new M pc = some (ci, N, nx)) (hc : cells + 1 ≤ mc) (hsl : slots + N ≤ ms)
    (K : MW M d mc ms v hT (cells + 1) (slots + N) nx l (.ref h.length :: st) (h ++ [.inr (ci, m_dfl ci)])) : MW M d mc ms v hT cells slots pc l st h := by
  intro hM p la e R s m args below meth c A D cA Q α0 h0 hX hret α H locs ls hR hA hl hol hos
  obtain ⟨x1, x2, x3, x4, x5, x6, x7, x8, x9, x10, x11, x12⟩ := id hX
  have h5 := hR.2.2.2.2.2.1.1
  have es : ∀ q : Nat, (Value.ref h.length :: st).map (m_tv (m_al α h.length q)) = .ref q :: st.map (m_tv α) := fun q => by
    rw [List.map_cons, m_stack_congr m_al_lt hos]
    simp only [m_tv, m_al_at]
  have ed : ∀ β : Nat → Nat, (m_dfl ci).map (m_tv β) = m_dfl ci := fun β => by
    refine (List.map_congr_left fun z hz => ?_).trans (List.map_id _)
    cases z with
    | ref i => exact absurd rfl (m_dfl_noref ci _ hz i)
    | _ => rfl
  unfold m_new at hs
  split at hs
  · next idx nx2 a rest hf =>
    obtain ⟨k, pos, y, w⟩ := rest
    obtain ⟨hd, hnx, hk⟩ := m_eok_spec (hM _ (m_find_mem hf))
    simp only [m_len] at hd hnx
    simp only [m_lok] at hk
    split at hs
    · next C T N2 hcl =>
      rw [hcl] at hk
      cases hs
      subst hnx
      obtain ⟨c1, c2, c3, c4, c5, c6⟩ := m_cok_at _ _ hcl
      refine va_new (fs := m_dfl ci) x1 x2 x5 c1 (m_ty0 T) c3 x4 (x5 _ (m_wd_spec hk)) (x5 _ c4) (x5 _ c5) hR.1 hR.2.1 hR.2.2.1 hR.2.2.2.1 hR.2.2.2.2.1 hcl (m_dfl_ok _ _ hcl) (by omega) (by show slots + N ≤ R.slots; omega) hd (fun q H1 qP qD qS => ?_)
      have KQ := K hM p la e R s m args below meth c A D cA Q α0 h0 hX hret (m_al α h.length q) H1 locs ls (m_grow_R hR (fun z hz i ei => absurd ei (m_dfl_noref ci z hz i)) trivial (by simp only [m_te, ed]; exact qP) (by simp only [m_te, ed]; exact qD) qS) (m_grow_A h5 hA) (by rw [m_tl_congr m_al_lt hol]; exact hl) (m_okl_mono (by rw [List.length_append]; omega) hol) (m_oks_cons (fun i ei => by cases ei; rw [List.length_append]; exact Nat.lt_succ_self _) (m_oks_mono (by rw [List.length_append]; omega) hos))
      rw [es] at KQ
      exact KQ
    · cases hs
  · cases hs
def m_obj (M : MD) (pc : Nat) : Option Nat := match m_find pc M.2.2.2.2.2 with
  | some (.invokespecial _, nx, _, k, _, y, _) => bif decide (y = Lib.objectInit) && Nat.beq k 0 then some nx else none
  | _ => none
theorem mw_obj {i nx : Nat} (hs : m_obj M pc = some nx) (hd1 : 1 ≤ d) (K : MW M d mc ms v hT cells slots nx l [] h) : MW M d mc ms v hT cells slots pc l [.ref i] h := by
  intro hM p la e R s m args below meth c A D cA Q α0 h0 hX hret α H locs ls hR hA hl hol hos
  obtain ⟨x1, x2, x3, x4, x5, x6, x7, x8, x9, x10, x11, x12⟩ := id hX
  have KK := K hM p la e R s m args below meth c A D cA Q α0 h0 hX hret α H locs ls hR hA hl hol (m_oks_tail hos)
  unfold m_obj at hs
  split at hs
  · next idx nx2 a k pos y w hf =>
    obtain ⟨hd, hnx, hk⟩ := m_eok_spec (hM _ (m_find_mem hf))
    obtain ⟨hy, hs⟩ := m_cond hs
    subst hs
    simp only [m_len] at hd hnx
    subst hnx
    simp only [Bool.and_eq_true, decide_eq_true_eq] at hy
    obtain ⟨hy, hk0⟩ := hy
    have hk0 := Nat.eq_of_beq_eq_true hk0
    subst hy
    subst hk0
    exact W.objInit x1 x2 x4 (x5 _ (m_wd_spec hk)) (x5 _ m_objW.1) (x5 _ m_objW.2) rfl (hl.1.trans x3.symm) rfl hd (by omega) (by show 2 * 0 + 0 + 12 ≤ _; omega) KK
  · cases hs
def m_cpy (M : MD) (pc : Nat) : Option Nat := match m_find pc M.2.2.2.2.2 with
  | some (.invokestatic _, nx, _, k, _, y, _) => bif decide (y = arraycopyName) && Nat.beq k 0 then some nx else none
  | _ => none
theorem mw_cpyi {i0 i1 nx n0 n1 : Nat} {sp dp n : Int32} {ty0 ty1 : FieldType} {f g : Nat → Int32} (hs : m_cpy M pc = some nx) (hd1 : 1 ≤ d) (hi0 : h[i0]? = some (.inl (ty0, n0, .inl f))) (hi1 : h[i1]? = some (.inl (ty1, n1, .inl g))) (g0 : 5 ≤ i0) (g1 : 5 ≤ i1)
    (h1 : ¬ sp < 0) (h2 : ¬ dp < 0) (h3 : ¬ n < 0) (h4 : sp.toNatClampNeg + n.toNatClampNeg ≤ n0) (h5 : dp.toNatClampNeg + n.toNatClampNeg ≤ n1)
    (K : MW M d mc ms v hT cells slots nx l [] (h.set i1 (.inl (ty1, n1, .inl (va_cpy f g sp.toNatClampNeg dp.toNatClampNeg n.toNatClampNeg))))) : MW M d mc ms v hT cells slots pc l [.int n, .int dp, .ref i1, .int sp, .ref i0] h := by
  intro hM p la e R s m args below meth c A D cA Q α0 h0 hX hret α H locs ls hR hA hl hol hos
  obtain ⟨x1, x2, x3, x4, x5, x6, x7, x8, x9, x10, x11, x12⟩ := id hX
  have KK := fun (H1 : Heap) (locs1 : List Loc) hR' => K hM p la e R s m args below meth c A D cA Q α0 h0 hX hret α H1 locs1 ls hR' ⟨hA.1, by rw [List.length_set]; exact hA.2.1, fun i hi => ((m_set_same g1).2 i hi).trans (hA.2.2 i hi)⟩ hl (by rw [List.length_set]; exact hol) (m_oks_nil _)
  unfold m_cpy at hs
  split at hs
  · next idx nx2 a k pos y w hf =>
    obtain ⟨hd, hnx, hk⟩ := m_eok_spec (hM _ (m_find_mem hf))
    obtain ⟨hy, hs⟩ := m_cond hs
    subst hs
    simp only [m_len] at hd hnx
    subst hnx
    simp only [Bool.and_eq_true, decide_eq_true_eq] at hy
    obtain ⟨hy, hk0⟩ := hy
    have hk0 := Nat.eq_of_beq_eq_true hk0
    subst hy
    subst hk0
    rcases hR.2.2.2.2.2.2.2 i0 _ hi0 with ⟨e1, -⟩ | ⟨-, f2, e2⟩ | ⟨-, f2, e2⟩
    · rcases hR.2.2.2.2.2.2.2 i1 _ hi1 with ⟨e3, -⟩ | ⟨-, f2, e2⟩ | ⟨-, f2, e2⟩
      · subst e1
        subst e3
        exact va_copyi (ty := .int) x1 x2 (x3.trans hl.1.symm) x4 (x5 _ (m_wd_spec hk)) (x5 _ m_cpyW.1) (x5 _ m_cpyW.2.1) (x5 _ m_cpyW.2.2) hR.1 hR.2.1 hR.2.2.1 hR.2.2.2.1 (i0 - 5) (i1 - 5) 0 0 (m_ws_get g0 hi0) (m_ws_get g1 hi1) rfl rfl rfl h1 h2 h3 h4 h5 (fun _ _ => rfl) (by omega) (by show 0 + (7 + 11) ≤ _; omega) hd (fun H1 locs1 q1 q2 q3 => KK H1 locs1 (m_set_R hR g1 (fun f3 e3 => by cases e3) (Or.inl ⟨rfl, _, rfl⟩) q1 q2 q3))
      · cases e2
      · cases e2
    · cases e2
    · cases e2
  · cases hs
theorem mw_cpyl {i0 i1 nx n0 n1 : Nat} {sp dp n : Int32} {ty0 ty1 : FieldType} {f g : Nat → Int64} (hs : m_cpy M pc = some nx) (hd1 : 1 ≤ d) (hi0 : h[i0]? = some (.inl (ty0, n0, .inr (.inl f)))) (hi1 : h[i1]? = some (.inl (ty1, n1, .inr (.inl g)))) (g0 : 5 ≤ i0) (g1 : 5 ≤ i1)
    (h1 : ¬ sp < 0) (h2 : ¬ dp < 0) (h3 : ¬ n < 0) (h4 : sp.toNatClampNeg + n.toNatClampNeg ≤ n0) (h5 : dp.toNatClampNeg + n.toNatClampNeg ≤ n1)
    (K : MW M d mc ms v hT cells slots nx l [] (h.set i1 (.inl (ty1, n1, .inr (.inl (va_cpy f g sp.toNatClampNeg dp.toNatClampNeg n.toNatClampNeg)))))) : MW M d mc ms v hT cells slots pc l [.int n, .int dp, .ref i1, .int sp, .ref i0] h := by
  intro hM p la e R s m args below meth c A D cA Q α0 h0 hX hret α H locs ls hR hA hl hol hos
  obtain ⟨x1, x2, x3, x4, x5, x6, x7, x8, x9, x10, x11, x12⟩ := id hX
  have KK := fun (H1 : Heap) (locs1 : List Loc) hR' => K hM p la e R s m args below meth c A D cA Q α0 h0 hX hret α H1 locs1 ls hR' ⟨hA.1, by rw [List.length_set]; exact hA.2.1, fun i hi => ((m_set_same g1).2 i hi).trans (hA.2.2 i hi)⟩ hl (by rw [List.length_set]; exact hol) (m_oks_nil _)
  unfold m_cpy at hs
  split at hs
  · next idx nx2 a k pos y w hf =>
    obtain ⟨hd, hnx, hk⟩ := m_eok_spec (hM _ (m_find_mem hf))
    obtain ⟨hy, hs⟩ := m_cond hs
    subst hs
    simp only [m_len] at hd hnx
    subst hnx
    simp only [Bool.and_eq_true, decide_eq_true_eq] at hy
    obtain ⟨hy, hk0⟩ := hy
    have hk0 := Nat.eq_of_beq_eq_true hk0
    subst hy
    subst hk0
    rcases hR.2.2.2.2.2.2.2 i0 _ hi0 with ⟨-, f2, e2⟩ | ⟨e1, -⟩ | ⟨-, f2, e2⟩
    · cases e2
    · rcases hR.2.2.2.2.2.2.2 i1 _ hi1 with ⟨-, f2, e2⟩ | ⟨e3, -⟩ | ⟨-, f2, e2⟩
      · cases e2
      · subst e1
        subst e3
        exact va_copyl (ty := .long) x1 x2 (x3.trans hl.1.symm) x4 (x5 _ (m_wd_spec hk)) (x5 _ m_cpyW.1) (x5 _ m_cpyW.2.1) (x5 _ m_cpyW.2.2) hR.1 hR.2.1 hR.2.2.1 hR.2.2.2.1 (i0 - 5) (i1 - 5) 1 1 (m_ws_get g0 hi0) (m_ws_get g1 hi1) rfl rfl rfl h1 h2 h3 h4 h5 (fun _ _ => rfl) (by omega) (by show 0 + (7 + 11) ≤ _; omega) hd (fun H1 locs1 q1 q2 q3 => KK H1 locs1 (m_set_R hR g1 (fun f3 e3 => by cases e3) (Or.inr (Or.inl ⟨rfl, _, rfl⟩)) q1 q2 q3))
      · cases e2
    · cases e2
  · cases hs
end RV
/-! contracts -/
def m_wsM (M : MD) : List Cond := Cond.code M.1 M.2.1 M.2.2.1 M.2.2.2.1 :: m_good
def m_rm (d mc ms : Nat) : Room := { frames := d, cells := mc, slots := ms, locals := 40 * d }
def MOk2 (M : MD) : Prop := Cond.code M.1 M.2.1 M.2.2.1 M.2.2.2.1 ∈ m_good ∧ Cond.initialized M.1.cls ∈ m_good ∧ plainFor M.1 = true ∧ (M.1.cls ≠ "java/lang/invoke/MethodHandle" ∧ M.1.cls ≠ "java/lang/invoke/VarHandle") ∧ (parseMethodDescriptor M.1.desc).map (fun d => d.parameters.length) = some M.2.2.2.2.1.2.1 ∧ M.2.2.1 ≤ 21 ∧
  (M.2.2.2.2.1.1 = 0 → Cond.static M.1 ∈ m_good) ∧ (M.2.2.2.2.1.1 = 1 → Cond.instanceMethod M.1 ∈ m_good ∧ Cond.selects M.1.cls M.1 M.1 ∈ m_good ∧ (m_cls[M.2.2.2.2.1.2.2]?).map (fun q => q.1) = some M.1.cls) ∧ (M.2.2.2.2.1.1 = 2 → Cond.instanceMethod M.1 ∈ m_good ∧ M.1.name = "<init>" ∧ M.2.2.2.1 = none)
def m_tyh (h : MH) : Prop := ∀ (k : Nat) (c : MCell), h[k]? = some c → m_tyc c
def MPre (D : va_G) (cA : FieldType → ClassId) (α : Nat → Nat) (h : MH) (sz : Nat) (U : State) : Prop :=
  U.heap.size = sz ∧ va_K D m_cls (m_tys cA) U ∧ va_P D m_cls (m_ws α cA h) U.heap ∧ va_D (fun _ => True) (m_ws α cA h) ∧ m_cst α (va_A (m_ws α cA h) sz) U U.heap h ∧ m_okh h ∧ m_tyh h ∧ (∀ w ∈ m_nest, va_Nw w U) ∧ va_AO "ChairOld$Piece" U
def MQc (D : va_G) (cA : FieldType → ClassId) (α : Nat → Nat) (h : MH) (v : Option Value) (hT : MH) (sz : Nat) : Array Value → State → Outcome → State → Prop := fun _ st oc t =>
  (∃ α' : Nat → Nat, MA α h α' hT ∧ oc = .returned (v.map (m_tv α')) ∧ va_P D m_cls (m_ws α' cA hT) t.heap ∧ va_D (va_A (m_ws α cA h) sz) (m_ws α' cA hT) ∧ m_okh hT ∧ m_tyh hT ∧ m_oks hT.length v.toList) ∧ va_F (va_A (m_ws α cA h) sz) st t
/-- a method's contract: from the arguments av and the heap h it comes back with v and the heap hT -/
def MC (M : MD) (d mc ms : Nat) (av : List Value) (h : MH) (v : Option Value) (hT : MH) : Prop :=
  MOk2 M ∧ ∀ (la : Launch) (D : va_G) (cA : FieldType → ClassId) (α : Nat → Nat) (sz : Nat), m_oks h.length av → Met la M.1 (m_wsM M) (m_rm d mc ms) (va_Pc (av.map (m_tv α)) (MPre D cA α h sz)) (MQc D cA α h v hT sz) mc ms (va_A (m_ws α cA h) sz)
theorem m_args_tl (α : Nat → Nat) : ∀ (vs : List Value) (i : Nat), lv_args i (vs.map (m_tv α)) = m_tl α (lv_args i vs)
  | [], _ => rfl
  | v :: vs, i => by
    simp only [List.map_cons, lv_args, m_tl, m_tv_cat]
    exact congrArg _ (m_args_tl α vs _)
theorem m_args_ok {n : Nat} : ∀ (vs : List Value) (i : Nat), m_oks n vs → m_okl n (lv_args i vs)
  | [], _, _ => fun _ h => by cases h
  | v :: vs, i, h => fun q hq => by
    rcases List.mem_cons.mp hq with rfl | hq
    · exact h v List.mem_cons_self
    · exact m_args_ok vs _ (m_oks_tail h) q hq
theorem m_sl_len (α : Nat → Nat) : ∀ vs : List Value, (lg_sl (vs.map (m_tv α))).length = (lg_sl vs).length
  | [] => rfl
  | v :: vs => by
    have ih := m_sl_len α vs
    simp only [lg_sl, List.map_cons, List.flatMap_cons, List.length_append, m_tv_cat] at ih ⊢
    rw [ih]
    congr 1
    split <;> rfl
theorem m_cst_moved {α : Nat → Nat} {A : Nat → Prop} {u U : State} {H : Heap} {h : MH} (hvm : u.vm.Alike U.vm) (hc : m_cst α A u H h) : m_cst α A U H h := by
  obtain ⟨a1, a2, a3⟩ := hc
  refine ⟨a1, fun i hi => ?_, fun i q hq => (a3 i q hq).moved hvm⟩
  obtain ⟨n, f, b1, b2⟩ := a2 i hi
  exact ⟨n, f, b1, b2.moved hvm⟩
theorem m_cst_kept {α : Nat → Nat} {A B : Nat → Prop} {U : State} {H H1 : Heap} {h : MH} (hc : m_cst α A U H h) (hq : ∀ a : Nat, a < H.size → ¬ A a → H1[a]? = H[a]?) (hAB : ∀ q, B q → A q) : m_cst α B U H1 h := by
  obtain ⟨a1, a2, a3⟩ := hc
  refine ⟨a1, fun i hi => ?_, fun i q hz => ((a3 i q hz).kept hq).narrow hAB⟩
  obtain ⟨n, f, b1, b2⟩ := a2 i hi
  exact ⟨n, f, b1, (b2.kept hq).narrow hAB⟩
theorem m_nest_warm {s U : State} (hW : s.WarmedH U.vm) (h : ∀ w ∈ m_nest, va_Nw w s) : ∀ w ∈ m_nest, va_Nw w U := by
  intro w hw
  have h1 := h w hw
  have h2 := (List.mem_filter.mp hw).2
  cases w <;> first | (simp [m_isNest] at h2; done) | exact va_Nw.warmM hW h1
theorem m_nest_same {s U : State} (e : s.vm = U.vm) (h : ∀ w ∈ m_nest, va_Nw w s) : ∀ w ∈ m_nest, va_Nw w U := by
  intro w hw
  have h1 := h w hw
  have h2 := (List.mem_filter.mp hw).2
  cases w <;> first | (simp [m_isNest] at h2; done) | exact va_Nw.same rfl e h1
theorem m_blind {D : va_G} {cA : FieldType → ClassId} {α : Nat → Nat} {h : MH} {sz : Nat} {av : List Value} : FrameBlind (va_Pc av (MPre D cA α h sz)) := by
  intro a U g mk hq
  obtain ⟨q0, q1, q2, q3, q4, q5, q6, q7, q8, q9⟩ := hq
  exact ⟨q0, q1, va_K.moved (u := U) (U := U.calling g mk a) (Vm.Alike.refl U.vm) q2, q3, q4, m_cst_moved (u := U) (U := U.calling g mk a) (Vm.Alike.refl U.vm) q5, q6, q7, m_nest_same (s := U) (U := U.calling g mk a) rfl q8, va_AO.moved (u := U) (U := U.calling g mk a) (Vm.Alike.refl U.vm) q9⟩
theorem m_preU {s : State} {A : Nat → Prop} {D : va_G} {cA : FieldType → ClassId} {α : Nat → Nat} {h : MH} {H : Heap} {locs : List Loc} (hR : MR s A D cA α h H locs) (hn : ∀ w ∈ m_nest, va_Nw w s) (ha : va_AO "ChairOld$Piece" s) (hF : ∀ q, va_A (m_ws α cA h) H.size q → A q) :
    ∀ U : State, U.heap = H → s.WarmedH U.vm → MPre D cA α h H.size U := by
  intro U hU hW
  obtain ⟨a1, a2, a3, a4, a5, a6, a7, a8⟩ := hR
  refine ⟨by rw [hU], va_K.moved hW.alike a1, by rw [hU]; exact a2, a3.weaken (fun _ _ _ _ => trivial), ?_, a7, a8, m_nest_warm hW hn, va_AO.moved hW.alike ha⟩
  rw [hU]
  exact m_cst_moved hW.alike (m_cst_kept a6 (fun q h1 h2 => a4.2.1 q h1 h2) hF)
theorem m_freeA {s : State} {A : Nat → Prop} {D : va_G} {cA : FieldType → ClassId} {α : Nat → Nat} {h : MH} {H : Heap} {locs : List Loc} (hR : MR s A D cA α h H locs) : ∀ q, va_A (m_ws α cA h) H.size q → A q := by
  intro q hq
  obtain ⟨a1, a2, a3, a4, a5, a6, a7, a8⟩ := hR
  rcases hq with ⟨k, e, hk⟩ | hq
  · exact a3.2 k (q, e) hk
  · exact a5 q (Nat.le_trans a4.1 hq)
theorem m_after {p : Program} {la : Launch} {e : Env} {R : Room} {s : State} {m : MethodId} {args : Array Value} {below : List Frame} {meth : Method} {c : Code} {H : Heap} {locs : List Loc} {cells slots mc' ms' pc : Nat} {Q : State → Prop} {A : Nat → Prop} {D : va_G} {cA : FieldType → ClassId} {α : Nat → Nat} {ls : Array Slot} {h h' : MH} {v : Option Value} {st0 rest : List Value} {a : Array Value}
    (hr : va_Run p la e R s m args below meth c H locs cells slots mc' ms' (F0 m pc ls st0) rest (MQc D cA α h v h' H.size a) (va_A (m_ws α cA h) H.size)) (hR : MR s A D cA α h H locs)
    (K : ∀ (α' : Nat → Nat) (H' : Heap) (locs' : List Loc), MR s A D cA α' h' H' locs' → MA α h α' h' → m_oks h'.length v.toList → W p la e R s m args below meth c H' locs' (cells + mc') (slots + ms') Q (F0 m (pc + 3) ls ((v.map (m_tv α')).toList ++ rest))) :
    W p la e R s m args below meth c H locs cells slots Q (F0 m pc ls st0) := by
  intro T hT X
  obtain ⟨v1, st₀, t, T', L, h0, X', hL, e1, e2, ⟨⟨α', g1, g2, g3, g4, g5, g6, g7⟩, hz, hk⟩, go⟩ := hr T hT X
  have g2 : v1 = v.map (m_tv α') := by injection g2
  subst g2
  rw [h0] at hz hk
  have hF := m_freeA hR
  obtain ⟨a1, a2, a3, a4, a5, a6, a7, a8⟩ := hR
  have h5 := a6.1
  have hR' : MR s A D cA α' h' T'.heap (locs ++ L) := by
    refine ⟨a1, by rw [e1]; exact g3, g4.weaken (fun _ q _ hq => hF q.1 hq), ⟨Nat.le_trans a4.1 (by rw [e1]; exact hz), fun q h1 h2 => ?_, fun q hq => ?_⟩, a5, ⟨Nat.le_trans h5 g1.2.1, fun i hi => ?_, fun i q hq => ?_⟩, g5, g6⟩
    · rw [e1, hk q (Nat.lt_of_lt_of_le h1 a4.1) (fun z => h2 (hF q z))]
      exact a4.2.1 q h1 h2
    · rcases List.mem_append.mp hq with h | h
      · exact a4.2.2 q h
      · exact hF _ (hL q h)
    · obtain ⟨n, f, b1, b2⟩ := a6.2.1 i hi
      exact ⟨n, f, (g1.2.2 i hi).trans b1, by rw [g1.1 i (by omega)]; exact b2⟩
    · have hi : i < 4 := (List.getElem?_eq_some_iff.mp hq).1
      rw [g1.1 i (by omega)]
      exact a6.2.2 i q hq
  obtain ⟨t2, b1, b2⟩ := K α' T'.heap (locs ++ L) hR' g1 g7 T' rfl X'
  exact ⟨t2, go t2 b1, b2⟩
set_option maxHeartbeats 1000000 in
/-- a contract out of a walk from the entry -/
theorem mc_of {M : MD} {d mc ms : Nat} {av : List Value} {h hT : MH} {v : Option Value} (hM1 : MOk1 M) (hM2 : MOk2 M) (hav : (lg_sl av).length ≤ M.2.2.1) (K : MW M d mc ms v hT 0 0 0 (lv_args 0 av) [] h) : MC M d mc ms av h v hT := by
  refine ⟨hM2, fun la D cA α sz hok => va_MetF (cc := M.2.1) (maxL := M.2.2.1) (ret := M.2.2.2.1) hM2.2.2.1 rfl ?_⟩
  intro p e s m args below meth c s₁ B hml hv
  obtain ⟨rfl, rfl, hK, hP, hD0, hc, ho, ht, hn, hao⟩ := hv
  have hx := B.exec
  have hb := B.bytes
  have hr := B.returns
  have hts := atoms_spec (ws := m_wsM M) B.pre
  have hown : s.vm.findClass M.1.cls = some m.cls := findClass_of_methodNamed B.named
  have hlocks := B.notSynchronized
  have hin : meth.name = M.1.name := (name_of_methodNamed B.named B.method).1
  have hl := lv_entry (av.map (m_tv α)) (n := M.2.2.1) (by rw [m_sl_len]; exact hav)
  rw [lg_entry_eq]
  rw [m_args_tl] at hl
  refine K hM1 p la e (headSpec (m_wsM M) (m_rm d mc ms)).room s m (av.map (m_tv α)).toArray below meth c (va_A (m_ws α cA h) s.heap.size) D cA _ α h ⟨hx, hb, hml, hown, fun w hw => hts w (List.mem_cons_of_mem _ hw), hn, hao, fun z => hin.trans z, Nat.le_refl d, Nat.le_refl (40 * d), Nat.le_refl mc, Nat.le_refl ms⟩ ?_ α s.heap [] _ ⟨hK, hP, hD0.self, va_S.rf, fun q hq => Or.inr hq, hc, ho, ht⟩ ⟨fun _ _ => rfl, Nat.le_refl _, fun _ _ => rfl⟩ hl (m_args_ok av 0 hok) (m_oks_nil _)
  intro α' H' locs' pc' ls' hR' hA' hret hos
  obtain ⟨a1, a2, a3, a4, a5, a6, a7, a8⟩ := hR'
  have hq : ∀ t : State, t.heap = H' → s.WarmedH t.vm → MQc D cA α h v hT s.heap.size (av.map (m_tv α)).toArray s (.returned (v.map (m_tv α'))) t := fun t ht' _ => ⟨⟨α', hA', rfl, by rw [ht']; exact a2, a3, a7, a8, hos⟩, a4.F ht'⟩
  unfold m_isret at hret
  split at hret
  · next e1 => exact W.vret hx hb (hr.trans e1) hq a4.2.2 hret
  · next e1 => exact W.iret hx hb (hr.trans e1) hq a4.2.2 hret
  · next e1 => exact W.zret hx hb (hr.trans e1) hret.2 hq a4.2.2 hret.1
  · next e1 => exact W.lret hx hb (hr.trans e1) hq a4.2.2 hret
  · next e1 => exact W.aret hx hb (hr.trans e1) (Or.inl ⟨_, rfl⟩) (Or.inl rfl) hq a4.2.2 hret
  · next e1 => exact W.aret hx hb (hr.trans e1) (Or.inl ⟨_, rfl⟩) (Or.inr ⟨_, rfl⟩) hq a4.2.2 hret
  · cases hret
/-- a call: what it names, its arguments (receiver first), the rest -/
def m_split : Nat → List Value → List Value → Option (List Value × List Value)
  | 0, acc, st => some (acc, st)
  | n + 1, acc, v :: st => m_split n (v :: acc) st
  | _ + 1, _, [] => none
theorem m_split_spec : ∀ (n : Nat) (acc st av r : List Value), m_split n acc st = some (av, r) → acc.reverse ++ st = av.reverse ++ r
  | 0, acc, st, av, r, h => by cases h; rfl
  | n + 1, acc, v :: st, av, r, h => by
    rw [← m_split_spec n (v :: acc) st av r h]
    simp
  | n + 1, acc, [], av, r, h => by cases h
def m_sum (r : List Value) : Nat := (r.map Value.category).sum
def m_inv (M : MD) (pc : Nat) (st : List Value) : Option (MethodName × List Value × Nat × List Value) := match m_find pc M.2.2.2.2.2 with
  | some (.invokestatic _, nx, a, _, _, y, _) => match m_split a [] st with
    | some (av, r) => bif Nat.ble (m_sum r) 8 then some (y, av, nx, r) else none
    | none => none
  | some (.invokevirtual _, nx, a, _, _, y, _) => match m_split a [] st with
    | some (av, r) => bif Nat.ble (m_sum r) 8 then some (y, av, nx, r) else none
    | none => none
  | some (.invokespecial _, nx, a, _, _, y, _) => match m_split a [] st with
    | some (av, r) => bif Nat.ble (m_sum r) 8 then some (y, av, nx, r) else none
    | none => none
  | _ => none
end
section
def m_kok (M : MD) (pc : Nat) (M' : MD) (h : MH) (av : List Value) : Bool := match m_find pc M.2.2.2.2.2 with
  | some (.invokestatic _, _) => Nat.beq M'.2.2.2.2.1.1 0 && Nat.beq av.length M'.2.2.2.2.1.2.1
  | some (.invokevirtual _, _) => match av with
    | .ref i :: As => match h[i]? with
      | some (.inr (ci, _)) => Nat.beq M'.2.2.2.2.1.1 1 && Nat.beq As.length M'.2.2.2.2.1.2.1 && Nat.beq ci M'.2.2.2.2.1.2.2 && Nat.ble 5 i
      | _ => false
    | _ => false
  | some (.invokespecial _, _) => match av with
    | .ref _ :: As => Nat.beq M'.2.2.2.2.1.1 2 && Nat.beq As.length M'.2.2.2.2.1.2.1
    | _ => false
  | _ => false
theorem m_sum_tv (α : Nat → Nat) (r : List Value) : ((r.map (m_tv α)).map fun v => v.category).sum = m_sum r := by
  unfold m_sum
  rw [List.map_map]
  congr 1
  exact List.map_congr_left fun v _ => m_tv_cat α v
theorem m_len_of {y : MethodName} {n : Nat} (h : (parseMethodDescriptor y.desc).map (fun d => d.parameters.length) = some n) : ∀ sig, parseMethodDescriptor y.desc = some sig → n = sig.parameters.length := fun sig e => by
  rw [e] at h
  exact (Option.some.inj h).symm
theorem m_good_kept {args : Array Value} {s : State} (hts : ∀ w ∈ m_good, w.before args s = true) : ∀ w ∈ m_good, ∀ (a' : Array Value) (U : State), s.WarmedH U.vm → w.before a' U = true := by
  intro w hw a' U hW
  exact word_at hW (good_of_word (List.mem_filter.mp hw).2) (hts w hw)
theorem m_wsM_kept {M : MD} (hc : Cond.code M.1 M.2.1 M.2.2.1 M.2.2.2.1 ∈ m_good) {args : Array Value} {s : State} (hts : ∀ w ∈ m_good, w.before args s = true) : ∀ w ∈ m_wsM M, ∀ (a' : Array Value) (U : State), s.WarmedH U.vm → w.before a' U = true := by
  intro w hw
  rcases List.mem_cons.mp hw with rfl | hw
  · exact m_good_kept hts _ hc
  · exact m_good_kept hts _ hw
set_option maxHeartbeats 1000000 in
theorem mw_call {M : MD} {d mc ms : Nat} {v : Option Value} {hT : MH} {cells slots pc : Nat} {l : ML} {st : List Value} {h : MH} {M' : MD} {d' mc' ms' nx : Nat} {av r : List Value} {w : Option Value} {h' : MH}
    (hC : MC M' d' mc' ms' av h w h') (hs : m_inv M pc st = some (M'.1, av, nx, r)) (hk : m_kok M pc M' h av = true) (hd : d' + 1 ≤ d) (hc : cells + mc' ≤ mc) (hsl : slots + ms' ≤ ms)
    (K : MW M d mc ms v hT (cells + mc') (slots + ms') nx l (w.toList ++ r) h') : MW M d mc ms v hT cells slots pc l st h := by
  intro hM p la e R s m args below meth c A D cA Q α0 h0 hX hret α H locs ls hR hA hl hol hos
  obtain ⟨x1, x2, x3, x4, x5, x6, x7, x8, x9, x10, x11, x12⟩ := id hX
  obtain ⟨⟨o1, o2, o3, o4, o5, o6, o7, o8, o9⟩, hC⟩ := hC
  have hF := m_freeA hR
  have hpre := m_preU hR x6 x7 hF
  have h5 := hR.2.2.2.2.2.1.1
  have hrm : (m_rm d' mc' ms').frames + 1 ≤ R.frames ∧ 8 + (M'.2.2.1 + 11) + (m_rm d' mc' ms').locals ≤ R.locals := ⟨by show d' + 1 ≤ _; omega, by show 8 + (M'.2.2.1 + 11) + 40 * d' ≤ _; omega⟩
  have hws := m_wsM_kept (M := M') o1 x5
  have fin : ∀ (e1 : st = av.reverse ++ r) (α' : Nat → Nat) (H' : Heap) (locs' : List Loc), MR s A D cA α' h' H' locs' → MA α h α' h' → m_oks h'.length w.toList → W p la e R s m args below meth c H' locs' (cells + mc') (slots + ms') Q (F0 m nx ls ((w.map (m_tv α')).toList ++ r.map (m_tv α))) := by
    intro e1 α' H' locs' hR' hA' hw'
    have hor : m_oks h.length r := fun z hz => hos z (by rw [e1]; exact List.mem_append_right _ hz)
    have KQ := K hM p la e R s m args below meth c A D cA Q α0 h0 hX hret α' H' locs' ls hR' ⟨fun i hi => (hA'.1 i (Nat.lt_of_lt_of_le hi hA.2.1)).trans (hA.1 i hi), Nat.le_trans hA.2.1 hA'.2.1, fun i hi => (hA'.2.2 i hi).trans (hA.2.2 i hi)⟩ (by rw [m_tl_congr hA'.1 hol]; exact hl) (m_okl_mono hA'.2.1 hol) (fun z hz => by
      rcases List.mem_append.mp hz with hz | hz
      · exact hw' z hz
      · exact m_okv_mono hA'.2.1 (hor z hz))
    rw [List.map_append, m_stack_congr hA'.1 hor] at KQ
    have ew : w.toList.map (m_tv α') = (w.map (m_tv α')).toList := by cases w <;> rfl
    rw [ew] at KQ
    exact KQ
  unfold m_inv at hs
  unfold m_kok at hk
  split at hs
  · next idx nx2 a k pos y w2 hf =>
    rw [hf] at hk
    obtain ⟨hde, hnx, hlo⟩ := m_eok_spec (hM _ (m_find_mem hf))
    simp only [m_len] at hde hnx
    split at hs
    · next av2 r2 hsp =>
      obtain ⟨h8, hs⟩ := m_cond hs
      cases hs
      subst hnx
      have e1 := m_split_spec a [] st _ _ hsp
      simp only [List.reverse_nil, List.nil_append] at e1
      have hoa : m_oks h.length av := fun z hz => hos z (by rw [e1]; exact List.mem_append_left _ (List.mem_reverse.mpr hz))
      simp only [Bool.and_eq_true] at hk
      have k1 := Nat.eq_of_beq_eq_true hk.1
      have k2 := Nat.eq_of_beq_eq_true hk.2
      have h8 : m_sum r ≤ 8 := Nat.le_of_ble_eq_true h8
      simp only [m_lok] at hlo
      cases hkz : (k == 0) with
      | true =>
        rw [hkz] at hlo
        exact m_after (pc := pc) (rest := r.map (m_tv α)) (va_runS (As := av.map (m_tv α)) (Ts := m_good) ⟨x1, x2, x3, x4, x5⟩ (hC la D cA α H.size hoa) ⟨⟨rfl, rfl, hrm.1, hrm.2, hws, List.mem_cons_self, x5 _ o1, x5 _ o2, o4, m_len_of o5, x5 _ (m_wd_spec hlo)⟩, x5 _ (o7 k1)⟩ ⟨m_blind, fun U hU hW => ⟨rfl, hpre U hU hW⟩⟩ rfl (by rw [List.length_map]; exact k2) hl.1 (by rw [e1]; simp [List.map_reverse]) (lv_room (by rw [m_sum_tv]; exact h8)) hde ⟨by omega, by omega⟩) hR (fin e1)
      | false =>
        rw [hkz] at hlo
        exact m_after (pc := pc) (rest := r.map (m_tv α)) (va_runSN (As := av.map (m_tv α)) (Ts := m_good) (host := "ChairOld") ⟨x1, x2, x3, x4, x5⟩ (hC la D cA α H.size hoa) ⟨⟨⟨rfl, rfl, hrm.1, hrm.2, hws, List.mem_cons_self⟩, x5 _ o1, x5 _ o2, o4, m_len_of o5, (x6 _ (m_wn_spec hlo)).use rfl⟩, x5 _ (o7 k1), trivial⟩ ⟨m_blind, fun U hU hW => ⟨rfl, hpre U hU hW⟩⟩ rfl (by rw [List.length_map]; exact k2) hl.1 (by rw [e1]; simp [List.map_reverse]) (lv_room (by rw [m_sum_tv]; exact h8)) hde ⟨by omega, by omega⟩) hR (fin e1)
    · cases hs
  · next idx nx2 a k pos y w2 hf =>
    rw [hf] at hk
    obtain ⟨hde, hnx, hlo⟩ := m_eok_spec (hM _ (m_find_mem hf))
    simp only [m_len] at hde hnx
    split at hs
    · next av2 r2 hsp =>
      obtain ⟨h8, hs⟩ := m_cond hs
      cases hs
      subst hnx
      have e1 := m_split_spec a [] st _ _ hsp
      simp only [List.reverse_nil, List.nil_append] at e1
      have hoa : m_oks h.length av := fun z hz => hos z (by rw [e1]; exact List.mem_append_left _ (List.mem_reverse.mpr hz))
      have h8 : m_sum r ≤ 8 := Nat.le_of_ble_eq_true h8
      simp only [m_lok] at hlo
      simp only [] at hk
      split at hk
      · next i As =>
        split at hk
        · next ci fs hi =>
          simp only [Bool.and_eq_true] at hk
          obtain ⟨⟨⟨k1, k2⟩, k3⟩, k4⟩ := hk
          have k1 := Nat.eq_of_beq_eq_true k1
          have k2 := Nat.eq_of_beq_eq_true k2
          have k3 := Nat.eq_of_beq_eq_true k3
          have k4 : 5 ≤ i := Nat.le_of_ble_eq_true k4
          obtain ⟨p1, p2, p3⟩ := o8 k1
          rw [← k3] at p3
          obtain ⟨q, q1, q2⟩ := Option.map_eq_some_iff.mp p3
          have hrec := va_recv hR.1 hR.2.1 q1 (m_ws_get k4 hi)
          rw [q2] at hrec
          exact m_after (pc := pc) (rest := r.map (m_tv α)) (va_runV (C := M'.1.cls) (b := α i) (As := As.map (m_tv α)) (Ts := m_good) ⟨x1, x2, x3, x4, x5⟩ (hC la D cA α H.size hoa) ⟨⟨rfl, rfl, hrm.1, hrm.2, hws, List.mem_cons_self, x5 _ o1, x5 _ o2, o4, m_len_of o5, x5 _ (m_wd_spec hlo)⟩, x5 _ p1, x5 _ p2⟩ ⟨m_blind, hrec, fun U hU hW => ⟨rfl, hpre U hU hW⟩⟩ rfl (by rw [List.length_map]; exact k2) hl.1 (by rw [e1]; simp [List.map_reverse, m_tv]) (lv_room (by rw [m_sum_tv]; exact h8)) hde ⟨by omega, by omega⟩) hR (fin e1)
        · cases hk
      · cases hk
    · cases hs
  · next idx nx2 a k pos y w2 hf =>
    rw [hf] at hk
    obtain ⟨hde, hnx, hlo⟩ := m_eok_spec (hM _ (m_find_mem hf))
    simp only [m_len] at hde hnx
    split at hs
    · next av2 r2 hsp =>
      obtain ⟨h8, hs⟩ := m_cond hs
      cases hs
      subst hnx
      have e1 := m_split_spec a [] st _ _ hsp
      simp only [List.reverse_nil, List.nil_append] at e1
      have hoa : m_oks h.length av := fun z hz => hos z (by rw [e1]; exact List.mem_append_left _ (List.mem_reverse.mpr hz))
      have h8 : m_sum r ≤ 8 := Nat.le_of_ble_eq_true h8
      simp only [m_lok] at hlo
      simp only [] at hk
      split at hk
      · next i As =>
        simp only [Bool.and_eq_true] at hk
        have k1 := Nat.eq_of_beq_eq_true hk.1
        have k2 := Nat.eq_of_beq_eq_true hk.2
        obtain ⟨p1, p2, p3⟩ := o9 k1
        rw [p3] at o1
        have hcm : Cond.code M'.1 M'.2.1 M'.2.2.1 none ∈ m_wsM M' := List.mem_cons_of_mem _ o1
        cases hkz : (k == 0) with
        | true =>
          rw [hkz] at hlo
          exact m_after (pc := pc) (rest := r.map (m_tv α)) (va_runI (b := α i) (As := As.map (m_tv α)) (Ts := m_good) ⟨x1, x2, x3, x4, x5⟩ (hC la D cA α H.size hoa) ⟨⟨rfl, rfl, hrm.1, hrm.2, hws, hcm, x5 _ o1, x5 _ o2, o4, m_len_of o5, x5 _ (m_wd_spec hlo)⟩, p2, x5 _ p1⟩ ⟨m_blind, fun U hU hW => ⟨rfl, hpre U hU hW⟩⟩ rfl (by rw [List.length_map]; exact k2) hl.1 (by rw [e1]; simp [List.map_reverse, m_tv]) (lv_room (by rw [m_sum_tv]; exact h8)) hde ⟨by omega, by omega⟩) hR (fin e1)
        | false =>
          rw [hkz] at hlo
          exact m_after (pc := pc) (rest := r.map (m_tv α)) (va_runIN (b := α i) (As := As.map (m_tv α)) (Ts := m_good) (host := "ChairOld") ⟨x1, x2, x3, x4, x5⟩ (hC la D cA α H.size hoa) ⟨⟨⟨rfl, rfl, hrm.1, hrm.2, hws, hcm⟩, x5 _ o1, x5 _ o2, o4, m_len_of o5, (x6 _ (m_wn_spec hlo)).use rfl⟩, p2, x5 _ p1⟩ ⟨m_blind, fun U hU hW => ⟨rfl, hpre U hU hW⟩⟩ rfl (by rw [List.length_map]; exact k2) hl.1 (by rw [e1]; simp [List.map_reverse, m_tv]) (lv_room (by rw [m_sum_tv]; exact h8)) hde ⟨by omega, by omega⟩) hR (fin e1)
      · cases hk
    · cases hs
  · cases hs
end
section
/-! the names of the methods -/
def m_y0 : MethodName := ⟨"", "", ""⟩
def y_J_abs : MethodName := ⟨"java/lang/Math", "abs", "(I)I"⟩
def y_J_maxI : MethodName := ⟨"java/lang/Math", "max", "(II)I"⟩
def y_J_maxL : MethodName := ⟨"java/lang/Math", "max", "(JJ)J"⟩
def y_J_minI : MethodName := ⟨"java/lang/Math", "min", "(II)I"⟩
def y_J_bits : MethodName := ⟨"java/lang/Integer", "bitCount", "(I)I"⟩
def y_J_range : MethodName := ⟨"java/util/Arrays", "rangeCheck", "(III)V"⟩
def y_J_fillA : MethodName := ⟨"java/util/Arrays", "fill", "([JJ)V"⟩
def y_J_fillR : MethodName := ⟨"java/util/Arrays", "fill", "([JIIJ)V"⟩
def y_C_init : MethodName := ⟨"ChairOld", "<init>", "()V"⟩
def y_C_part : MethodName := ⟨"ChairOld", "part", "(I)I"⟩
def y_C_parts : MethodName := ⟨"ChairOld", "parts", "(III)I"⟩
def y_C_mend : MethodName := ⟨"ChairOld", "mend", "(III)I"⟩
def y_C_find : MethodName := ⟨"ChairOld", "find", "(II)I"⟩
def y_C_of : MethodName := ⟨"ChairOld", "of", "(II)I"⟩
def y_C_feed : MethodName := ⟨"ChairOld", "feed", "(I)I"⟩
def y_C_law : MethodName := ⟨"ChairOld", "law", "(I)I"⟩
def y_C_number : MethodName := ⟨"ChairOld", "number", "(II)I"⟩
def y_C_likely : MethodName := ⟨"ChairOld", "likely", "(II)J"⟩
def y_C_percent : MethodName := ⟨"ChairOld", "percent", "(I)I"⟩
def y_C_likeliest : MethodName := ⟨"ChairOld", "likeliest", "(I)I"⟩
def y_C_when : MethodName := ⟨"ChairOld", "when", "(II)I"⟩
def y_C_whole : MethodName := ⟨"ChairOld", "whole", "(I)I"⟩
def y_C_odd : MethodName := ⟨"ChairOld", "odd", "()I"⟩
def y_C_next : MethodName := ⟨"ChairOld", "next", "(I)I"⟩
def y_C_named : MethodName := ⟨"ChairOld", "named", "(II)I"⟩
def y_C_plan : MethodName := ⟨"ChairOld", "plan", "(II)I"⟩
def y_C_believed : MethodName := ⟨"ChairOld", "believed", "(II)I"⟩
def y_C_cheapest : MethodName := ⟨"ChairOld", "cheapest", "(III)I"⟩
def y_C_spoils : MethodName := ⟨"ChairOld", "spoils", "(II)I"⟩
def y_C_price : MethodName := ⟨"ChairOld", "price", "(I)I"⟩
def y_C_paper : MethodName := ⟨"ChairOld", "paper", "(II)I"⟩
def y_C_papers : MethodName := ⟨"ChairOld", "papers", "(I)I"⟩
def y_C_house : MethodName := ⟨"ChairOld", "house", "(I)I"⟩
def y_C_drawn : MethodName := ⟨"ChairOld", "drawn", "(III)I"⟩
def y_C_image : MethodName := ⟨"ChairOld", "image", "()I"⟩
def y_C_back : MethodName := ⟨"ChairOld", "back", "()I"⟩
def y_C_undo : MethodName := ⟨"ChairOld", "undo", "()I"⟩
def y_C_redo : MethodName := ⟨"ChairOld", "redo", "()I"⟩
def y_C_body : MethodName := ⟨"ChairOld", "body", "(I)I"⟩
def y_C_act : MethodName := ⟨"ChairOld", "act", "(III)I"⟩
def y_C_trace : MethodName := ⟨"ChairOld", "trace", "(I)I"⟩
def y_C_keep : MethodName := ⟨"ChairOld", "keep", "(II)I"⟩
def y_C_row : MethodName := ⟨"ChairOld", "row", "(III)I"⟩
def y_C_put : MethodName := ⟨"ChairOld", "put", "(IIJ)I"⟩
def y_C_element : MethodName := ⟨"ChairOld", "element", "(II)J"⟩
def y_C_shift : MethodName := ⟨"ChairOld", "shift", "(IIIII)I"⟩
def y_C_taken : MethodName := ⟨"ChairOld", "taken", "(II)I"⟩
def y_C_count : MethodName := ⟨"ChairOld", "count", "(I)I"⟩
def y_C_within : MethodName := ⟨"ChairOld", "within", "(III)Z"⟩
def y_C_isKind : MethodName := ⟨"ChairOld", "isKind", "(I)Z"⟩
def y_C_isMark : MethodName := ⟨"ChairOld", "isMark", "(I)Z"⟩
def y_C_isTime : MethodName := ⟨"ChairOld", "isTime", "(I)Z"⟩
def y_C_isSet : MethodName := ⟨"ChairOld", "isSet", "(I)Z"⟩
def y_C_isShelf : MethodName := ⟨"ChairOld", "isShelf", "(I)Z"⟩
def y_C_hasBit : MethodName := ⟨"ChairOld", "hasBit", "(II)Z"⟩
def y_C_greatestDivisor : MethodName := ⟨"ChairOld", "greatestDivisor", "(JJ)J"⟩
def y_C_valueAtRank : MethodName := ⟨"ChairOld", "valueAtRank", "([III)I"⟩
def y_C_pieceAt : MethodName := ⟨"ChairOld", "pieceAt", "(I)LChairOld$Piece;"⟩
def y_C_addPiece : MethodName := ⟨"ChairOld", "addPiece", "(II)V"⟩
def y_C_addFromRow : MethodName := ⟨"ChairOld", "addFromRow", "(II)Z"⟩
def y_C_numberTold : MethodName := ⟨"ChairOld", "numberTold", "(II)I"⟩
def y_C_forgetNumbers : MethodName := ⟨"ChairOld", "forgetNumbers", "(LChairOld$Piece;I)V"⟩
def y_C_allTrue : MethodName := ⟨"ChairOld", "allTrue", "()I"⟩
def y_C_atLeastTwoNot : MethodName := ⟨"ChairOld", "atLeastTwoNot", "()I"⟩
def y_C_whenTrue : MethodName := ⟨"ChairOld", "whenTrue", "(LChairOld$Piece;)I"⟩
def y_C_bestPlan : MethodName := ⟨"ChairOld", "bestPlan", "(IIJ)I"⟩
def y_C_beliefInMade : MethodName := ⟨"ChairOld", "beliefInMade", "(LChairOld$Piece;I)I"⟩
def y_C_worthOf : MethodName := ⟨"ChairOld", "worthOf", "(LChairOld$Piece;)I"⟩
def y_C_marksLookedFor : MethodName := ⟨"ChairOld", "marksLookedFor", "()I"⟩
def y_B_init : MethodName := ⟨"ChairOld$Bodies", "<init>", "()V"⟩
def y_B_isBodyKind : MethodName := ⟨"ChairOld$Bodies", "isBodyKind", "(I)Z"⟩
def y_B_isUnder : MethodName := ⟨"ChairOld$Bodies", "isUnder", "(II)Z"⟩
def y_B_add : MethodName := ⟨"ChairOld$Bodies", "add", "(I)I"⟩
def y_B_kindOf : MethodName := ⟨"ChairOld$Bodies", "kindOf", "(I)I"⟩
def y_B_ranAt : MethodName := ⟨"ChairOld$Bodies", "ranAt", "(I)I"⟩
def y_B_perform : MethodName := ⟨"ChairOld$Bodies", "perform", "(III)I"⟩
def y_B_bodyIn : MethodName := ⟨"ChairOld$Bodies", "bodyIn", "(II)I"⟩
def y_B_above : MethodName := ⟨"ChairOld$Bodies", "above", "(I)I"⟩
def y_B_run : MethodName := ⟨"ChairOld$Bodies", "run", "(IIIII)I"⟩
def y_B_note : MethodName := ⟨"ChairOld$Bodies", "note", "(I)V"⟩
def y_L_init : MethodName := ⟨"ChairOld$Laws", "<init>", "()V"⟩
def y_L_set : MethodName := ⟨"ChairOld$Laws", "set", "(I[II)V"⟩
def y_L_worth : MethodName := ⟨"ChairOld$Laws", "worth", "(IIIII)I"⟩
def y_L_joined : MethodName := ⟨"ChairOld$Laws", "joined", "(III)I"⟩
def y_P_init : MethodName := ⟨"ChairOld$Papers", "<init>", "()V"⟩
def y_P_add : MethodName := ⟨"ChairOld$Papers", "add", "(III)I"⟩
def y_P_firstClash : MethodName := ⟨"ChairOld$Papers", "firstClash", "()I"⟩
def y_P_gaps : MethodName := ⟨"ChairOld$Papers", "gaps", "()I"⟩
def y_P_houseAt : MethodName := ⟨"ChairOld$Papers", "houseAt", "(I)I"⟩
def y_I_init : MethodName := ⟨"ChairOld$Piece", "<init>", "(II)V"⟩
def y_I_foundOf : MethodName := ⟨"ChairOld$Piece", "foundOf", "(I)I"⟩
def y_I_setFound : MethodName := ⟨"ChairOld$Piece", "setFound", "(II)V"⟩
def y_I_numberAt : MethodName := ⟨"ChairOld$Piece", "numberAt", "(III)I"⟩
def y_I_learn : MethodName := ⟨"ChairOld$Piece", "learn", "(LChairOld$Laws;I)V"⟩
def y_R_init : MethodName := ⟨"ChairOld$Reader", "<init>", "()V"⟩
def y_R_take : MethodName := ⟨"ChairOld$Reader", "take", "(I)Z"⟩
def y_R_read : MethodName := ⟨"ChairOld$Reader", "read", "()I"⟩
def y_R_line : MethodName := ⟨"ChairOld$Reader", "line", "()V"⟩
def y_R_level : MethodName := ⟨"ChairOld$Reader", "level", "(II)V"⟩
def y_R_operand : MethodName := ⟨"ChairOld$Reader", "operand", "(I)V"⟩
def y_R_opened : MethodName := ⟨"ChairOld$Reader", "opened", "(II)V"⟩
def y_R_digits : MethodName := ⟨"ChairOld$Reader", "digits", "()V"⟩
def y_R_isDigit : MethodName := ⟨"ChairOld$Reader", "isDigit", "(I)Z"⟩
def y_R_closenessOf : MethodName := ⟨"ChairOld$Reader", "closenessOf", "(I)I"⟩
def y_R_sign : MethodName := ⟨"ChairOld$Reader", "sign", "()I"⟩
def y_R_emit : MethodName := ⟨"ChairOld$Reader", "emit", "(I)V"⟩
def y_H_init : MethodName := ⟨"ChairOld$Shelves", "<init>", "()V"⟩
def y_H_sortOn : MethodName := ⟨"ChairOld$Shelves", "sortOn", "(I)I"⟩
def y_H_bodyOn : MethodName := ⟨"ChairOld$Shelves", "bodyOn", "(I)I"⟩
def y_H_lengthOn : MethodName := ⟨"ChairOld$Shelves", "lengthOn", "(I)I"⟩
def y_H_hold : MethodName := ⟨"ChairOld$Shelves", "hold", "(II)V"⟩
def y_H_holdRow : MethodName := ⟨"ChairOld$Shelves", "holdRow", "(III)V"⟩
def y_H_refusal : MethodName := ⟨"ChairOld$Shelves", "refusal", "(II)I"⟩
def y_H_cell : MethodName := ⟨"ChairOld$Shelves", "cell", "(II)J"⟩
def y_H_setCell : MethodName := ⟨"ChairOld$Shelves", "setCell", "(IIJ)V"⟩
def y_H_lowestBits : MethodName := ⟨"ChairOld$Shelves", "lowestBits", "(IJ)J"⟩
def y_H_copy : MethodName := ⟨"ChairOld$Shelves", "copy", "(IIIII)I"⟩
def y_H_reaches : MethodName := ⟨"ChairOld$Shelves", "reaches", "(III)Z"⟩
def y_T_init : MethodName := ⟨"ChairOld$Told", "<init>", "()V"⟩
def y_T_get : MethodName := ⟨"ChairOld$Told", "get", "(II)I"⟩
def y_T_change : MethodName := ⟨"ChairOld$Told", "change", "(III)I"⟩
def y_T_sumOver : MethodName := ⟨"ChairOld$Told", "sumOver", "(II)I"⟩
def y_T_stepBack : MethodName := ⟨"ChairOld$Told", "stepBack", "()I"⟩
def y_T_stepAgain : MethodName := ⟨"ChairOld$Told", "stepAgain", "()I"⟩
def y_T_set : MethodName := ⟨"ChairOld$Told", "set", "(II)V"⟩
def y_T_remember : MethodName := ⟨"ChairOld$Told", "remember", "(III)V"⟩
def y_T_dropOldest : MethodName := ⟨"ChairOld$Told", "dropOldest", "()V"⟩
def y_S_init : MethodName := ⟨"ChairOld$Scale", "<init>", "(LChairOld$Told;LChairOld$Laws;)V"⟩
def y_S_weighFound : MethodName := ⟨"ChairOld$Scale", "weighFound", "(LChairOld$Piece;)J"⟩
def y_S_weigh : MethodName := ⟨"ChairOld$Scale", "weigh", "(LChairOld$Piece;II)J"⟩
def y_S_weight : MethodName := ⟨"ChairOld$Scale", "weight", "(LChairOld$Piece;IIII)J"⟩
def y_S_weightFound : MethodName := ⟨"ChairOld$Scale", "weightFound", "(LChairOld$Piece;II)J"⟩
def y_S_percentFound : MethodName := ⟨"ChairOld$Scale", "percentFound", "(LChairOld$Piece;I)I"⟩
def y_S_percentOf : MethodName := ⟨"ChairOld$Scale", "percentOf", "(IJ)I"⟩
def y_S_greatestKind : MethodName := ⟨"ChairOld$Scale", "greatestKind", "()I"⟩
def y_S_timeOfGreatest : MethodName := ⟨"ChairOld$Scale", "timeOfGreatest", "(LChairOld$Piece;I)I"⟩
def y_S_firstTime : MethodName := ⟨"ChairOld$Scale", "firstTime", "(LChairOld$Piece;I)I"⟩
def y_S_lastTime : MethodName := ⟨"ChairOld$Scale", "lastTime", "(LChairOld$Piece;I)I"⟩
def y_S_greaterSum : MethodName := ⟨"ChairOld$Scale", "greaterSum", "(LChairOld$Piece;I)J"⟩
def y_S_fillWays : MethodName := ⟨"ChairOld$Scale", "fillWays", "(LChairOld$Piece;III)J"⟩
def y_S_splitProducts : MethodName := ⟨"ChairOld$Scale", "splitProducts", "(IZI)V"⟩
def y_S_addProducts : MethodName := ⟨"ChairOld$Scale", "addProducts", "(I)J"⟩
def y_S_takeWay : MethodName := ⟨"ChairOld$Scale", "takeWay", "(I)J"⟩
def y_S_namedBy : MethodName := ⟨"ChairOld$Scale", "namedBy", "(IJ)I"⟩
def y_O_within : MethodName := ⟨"ChairOldModel", "within", "(JJJ)Z"⟩
def y_O_init : MethodName := ⟨"ChairOldModel", "<init>", "()V"⟩
def y_O_becomes : MethodName := ⟨"ChairOldModel", "becomes", "(II)I"⟩
def y_O_undo : MethodName := ⟨"ChairOldModel", "undo", "()I"⟩
def y_O_redo : MethodName := ⟨"ChairOldModel", "redo", "()I"⟩
def y_O_isPart : MethodName := ⟨"ChairOldModel", "isPart", "(I)Z"⟩
def y_O_isKind : MethodName := ⟨"ChairOldModel", "isKind", "(I)Z"⟩
def y_O_isMark : MethodName := ⟨"ChairOldModel", "isMark", "(I)Z"⟩
def y_O_adds : MethodName := ⟨"ChairOldModel", "adds", "(II)V"⟩
def y_O_part : MethodName := ⟨"ChairOldModel", "part", "(I)I"⟩
def y_O_parts : MethodName := ⟨"ChairOldModel", "parts", "(III)I"⟩
def y_O_mend : MethodName := ⟨"ChairOldModel", "mend", "(III)I"⟩
def y_O_isPm : MethodName := ⟨"ChairOldModel", "isPm", "(I)Z"⟩
def y_O_find : MethodName := ⟨"ChairOldModel", "find", "(II)I"⟩
def y_O_of : MethodName := ⟨"ChairOldModel", "of", "(II)I"⟩
def y_O_feed : MethodName := ⟨"ChairOldModel", "feed", "(I)I"⟩
def y_O_byteAt : MethodName := ⟨"ChairOldModel", "byteAt", "()I"⟩
def y_O_wrong : MethodName := ⟨"ChairOldModel", "wrong", "()I"⟩
def y_O_takes : MethodName := ⟨"ChairOldModel", "takes", "(I)Z"⟩
def y_O_either : MethodName := ⟨"ChairOldModel", "either", "()I"⟩
def y_O_both : MethodName := ⟨"ChairOldModel", "both", "()I"⟩
def y_O_compared : MethodName := ⟨"ChairOldModel", "compared", "()I"⟩
def y_O_sums : MethodName := ⟨"ChairOldModel", "sums", "()I"⟩
def y_O_product : MethodName := ⟨"ChairOldModel", "product", "()I"⟩
def y_O_nameOf : MethodName := ⟨"ChairOldModel", "nameOf", "(I)I"⟩
def y_O_one : MethodName := ⟨"ChairOldModel", "one", "()I"⟩
def y_O_workOut : MethodName := ⟨"ChairOldModel", "workOut", "(II)I"⟩
def y_O_law : MethodName := ⟨"ChairOldModel", "law", "(I)I"⟩
def y_O_numberOf : MethodName := ⟨"ChairOldModel", "numberOf", "(IIII)I"⟩
def y_O_number : MethodName := ⟨"ChairOldModel", "number", "(II)I"⟩
def y_O_looksAt : MethodName := ⟨"ChairOldModel", "looksAt", "(I)V"⟩
def y_O_weighs : MethodName := ⟨"ChairOldModel", "weighs", "()V"⟩
def y_O_weighsPart : MethodName := ⟨"ChairOldModel", "weighsPart", "(I)V"⟩
def y_O_mostOf : MethodName := ⟨"ChairOldModel", "mostOf", "()I"⟩
def y_O_percentNow : MethodName := ⟨"ChairOldModel", "percentNow", "(I)I"⟩
def y_O_isPk : MethodName := ⟨"ChairOldModel", "isPk", "(I)Z"⟩
def y_O_common : MethodName := ⟨"ChairOldModel", "common", "(JJ)J"⟩
def y_O_likely : MethodName := ⟨"ChairOldModel", "likely", "(II)J"⟩
def y_O_percent : MethodName := ⟨"ChairOldModel", "percent", "(I)I"⟩
def y_O_likeliest : MethodName := ⟨"ChairOldModel", "likeliest", "(I)I"⟩
def y_O_whenNow : MethodName := ⟨"ChairOldModel", "whenNow", "(I)I"⟩
def y_O_when : MethodName := ⟨"ChairOldModel", "when", "(II)I"⟩
def y_O_whole : MethodName := ⟨"ChairOldModel", "whole", "(I)I"⟩
def y_O_odd : MethodName := ⟨"ChairOldModel", "odd", "()I"⟩
def y_O_next : MethodName := ⟨"ChairOldModel", "next", "(I)I"⟩
def y_O_unlooked : MethodName := ⟨"ChairOldModel", "unlooked", "(I)I"⟩
def y_O_namedBy : MethodName := ⟨"ChairOldModel", "namedBy", "(IIJ)I"⟩
def y_O_named : MethodName := ⟨"ChairOldModel", "named", "(II)I"⟩
def y_O_minutesOf : MethodName := ⟨"ChairOldModel", "minutesOf", "(I)I"⟩
def y_O_plan : MethodName := ⟨"ChairOldModel", "plan", "(II)I"⟩
def y_O_believedBy : MethodName := ⟨"ChairOldModel", "believedBy", "(I)I"⟩
def y_O_believed : MethodName := ⟨"ChairOldModel", "believed", "(II)I"⟩
def y_O_costOf : MethodName := ⟨"ChairOldModel", "costOf", "(I)I"⟩
def y_O_cheapest : MethodName := ⟨"ChairOldModel", "cheapest", "(III)I"⟩
def y_O_spoils : MethodName := ⟨"ChairOldModel", "spoils", "(II)I"⟩
def y_O_priceOf : MethodName := ⟨"ChairOldModel", "priceOf", "(I)I"⟩
def y_O_price : MethodName := ⟨"ChairOldModel", "price", "(I)I"⟩
def y_O_paper : MethodName := ⟨"ChairOldModel", "paper", "(II)I"⟩
def y_O_clash : MethodName := ⟨"ChairOldModel", "clash", "()I"⟩
def y_O_houseOf : MethodName := ⟨"ChairOldModel", "houseOf", "(I)I"⟩
def y_O_gaps : MethodName := ⟨"ChairOldModel", "gaps", "()I"⟩
def y_O_papers : MethodName := ⟨"ChairOldModel", "papers", "(I)I"⟩
def y_O_house : MethodName := ⟨"ChairOldModel", "house", "(I)I"⟩
def y_O_drawn : MethodName := ⟨"ChairOldModel", "drawn", "(III)I"⟩
def y_O_image : MethodName := ⟨"ChairOldModel", "image", "()I"⟩
def y_O_back : MethodName := ⟨"ChairOldModel", "back", "()I"⟩
def y_O_lookedFor : MethodName := ⟨"ChairOldModel", "lookedFor", "()I"⟩
def y_O_isBody : MethodName := ⟨"ChairOldModel", "isBody", "(I)Z"⟩
def y_O_kindOf : MethodName := ⟨"ChairOldModel", "kindOf", "(I)I"⟩
def y_O_body : MethodName := ⟨"ChairOldModel", "body", "(I)I"⟩
def y_O_above : MethodName := ⟨"ChairOldModel", "above", "(I)I"⟩
def y_O_begins : MethodName := ⟨"ChairOldModel", "begins", "(I)V"⟩
def y_O_agesAs : MethodName := ⟨"ChairOldModel", "agesAs", "(II)I"⟩
def y_O_joinsAs : MethodName := ⟨"ChairOldModel", "joinsAs", "(II)I"⟩
def y_O_showsAs : MethodName := ⟨"ChairOldModel", "showsAs", "(II)I"⟩
def y_O_tellsAs : MethodName := ⟨"ChairOldModel", "tellsAs", "(II)I"⟩
def y_O_act : MethodName := ⟨"ChairOldModel", "act", "(III)I"⟩
def y_O_trace : MethodName := ⟨"ChairOldModel", "trace", "(I)I"⟩
def y_O_isShelf : MethodName := ⟨"ChairOldModel", "isShelf", "(I)Z"⟩
def y_O_keep : MethodName := ⟨"ChairOldModel", "keep", "(II)I"⟩
def y_O_row : MethodName := ⟨"ChairOldModel", "row", "(III)I"⟩
def y_O_refusal : MethodName := ⟨"ChairOldModel", "refusal", "(II)I"⟩
def y_O_asSort : MethodName := ⟨"ChairOldModel", "asSort", "(IJ)J"⟩
def y_O_put : MethodName := ⟨"ChairOldModel", "put", "(IIJ)I"⟩
def y_O_element : MethodName := ⟨"ChairOldModel", "element", "(II)J"⟩
def y_O_shift : MethodName := ⟨"ChairOldModel", "shift", "(IIIII)I"⟩
def y_O_taken : MethodName := ⟨"ChairOldModel", "taken", "(II)I"⟩
def y_O_count : MethodName := ⟨"ChairOldModel", "count", "(I)I"⟩
def y_W_law : MethodName := ⟨"ChairOldLaw", "law", "([I)Z"⟩
def m_ok2 (M : MD) (p0 p1 p2 p3 : Nat) : Bool := m_wd p0 (.code M.1 M.2.1 M.2.2.1 M.2.2.2.1) && m_wd p1 (.initialized M.1.cls) && plainFor M.1 && decide (M.1.cls ≠ "java/lang/invoke/MethodHandle") && decide (M.1.cls ≠ "java/lang/invoke/VarHandle") && decide ((parseMethodDescriptor M.1.desc).map (fun d => d.parameters.length) = some M.2.2.2.2.1.2.1) && decide (M.2.2.1 ≤ 21) &&
  (match M.2.2.2.2.1.1 with
    | 0 => m_wd p2 (.static M.1)
    | 1 => m_wd p2 (.instanceMethod M.1) && m_wd p3 (.selects M.1.cls M.1 M.1) && decide ((m_cls[M.2.2.2.2.1.2.2]?).map (fun q => q.1) = some M.1.cls)
    | 2 => m_wd p2 (.instanceMethod M.1) && decide (M.1.name = "<init>") && decide (M.2.2.2.1 = none)
    | _ => false)
theorem m_ok2_spec {M : MD} {p0 p1 p2 p3 : Nat} (h : m_ok2 M p0 p1 p2 p3 = true) : MOk2 M := by
  unfold m_ok2 at h
  simp only [Bool.and_eq_true, decide_eq_true_eq] at h
  obtain ⟨⟨⟨⟨⟨⟨⟨h1, h2⟩, h3⟩, h4⟩, h5⟩, h6⟩, h7⟩, h8⟩ := h
  refine ⟨m_wd_spec h1, m_wd_spec h2, h3, ⟨h4, h5⟩, h6, h7, fun e => ?_, fun e => ?_, fun e => ?_⟩
  · rw [e] at h8
    exact m_wd_spec h8
  · rw [e] at h8
    simp only [Bool.and_eq_true, decide_eq_true_eq] at h8
    exact ⟨m_wd_spec h8.1.1, m_wd_spec h8.1.2, h8.2⟩
  · rw [e] at h8
    simp only [Bool.and_eq_true, decide_eq_true_eq] at h8
    exact ⟨m_wd_spec h8.1.1, h8.1.2, h8.2⟩
theorem m_ok1_of {M : MD} (h : M.2.2.2.2.2.all (m_eok M.1 M.2.1 M.2.2.1) = true) : MOk1 M := fun q hq => List.all_eq_true.mp h q hq
theorem m_all_app {y : MethodName} {b : ByteArray} {n : Nat} {l1 l2 : List (Nat × ME)} (h1 : l1.all (m_eok y b n) = true) (h2 : l2.all (m_eok y b n) = true) : (l1 ++ l2).all (m_eok y b n) = true := by
  rw [List.all_append, h1, h2]
  rfl
end
section
def M_J_abs : MD := (y_J_abs, prog_13_method_59_code, 1, (some .int), (0, 1, 0), [
  (0, .iload_n 0, 1, 0, 0, 0, m_y0, .null),
  (1, .ifCond .ge 8, 4, 9, 0, 0, m_y0, .null),
  (4, .iload_n 0, 5, 0, 0, 0, m_y0, .null),
  (5, .ineg, 6, 0, 0, 0, m_y0, .null),
  (6, .goto 4, 9, 10, 0, 0, m_y0, .null),
  (9, .iload_n 0, 10, 0, 0, 0, m_y0, .null),
  (10, .ireturn, 11, 0, 0, 0, m_y0, .null)])
set_option maxRecDepth 100000 in
theorem k1_J_abs : MOk1 M_J_abs := m_ok1_of (by decide +kernel)
set_option maxRecDepth 100000 in
theorem k2_J_abs : MOk2 M_J_abs := m_ok2_spec (p0 := 610) (p1 := 80) (p2 := 609) (p3 := 0) (by decide +kernel)
def M_J_maxI : MD := (y_J_maxI, prog_13_method_65_code, 2, (some .int), (0, 2, 0), [
  (0, .iload_n 0, 1, 0, 0, 0, m_y0, .null),
  (1, .iload_n 1, 2, 1, 0, 0, m_y0, .null),
  (2, .if_icmp .lt 7, 5, 9, 0, 0, m_y0, .null),
  (5, .iload_n 0, 6, 0, 0, 0, m_y0, .null),
  (6, .goto 4, 9, 10, 0, 0, m_y0, .null),
  (9, .iload_n 1, 10, 1, 0, 0, m_y0, .null),
  (10, .ireturn, 11, 0, 0, 0, m_y0, .null)])
set_option maxRecDepth 100000 in
theorem k1_J_maxI : MOk1 M_J_maxI := m_ok1_of (by decide +kernel)
set_option maxRecDepth 100000 in
theorem k2_J_maxI : MOk2 M_J_maxI := m_ok2_spec (p0 := 510) (p1 := 80) (p2 := 509) (p3 := 0) (by decide +kernel)
def M_J_maxL : MD := (y_J_maxL, prog_13_method_66_code, 4, (some .long), (0, 2, 0), [
  (0, .lload_n 0, 1, 0, 0, 0, m_y0, .null),
  (1, .lload_n 2, 2, 2, 0, 0, m_y0, .null),
  (2, .lcmp, 3, 0, 0, 0, m_y0, .null),
  (3, .ifCond .lt 7, 6, 10, 0, 0, m_y0, .null),
  (6, .lload_n 0, 7, 0, 0, 0, m_y0, .null),
  (7, .goto 4, 10, 11, 0, 0, m_y0, .null),
  (10, .lload_n 2, 11, 2, 0, 0, m_y0, .null),
  (11, .lreturn, 12, 0, 0, 0, m_y0, .null)])
set_option maxRecDepth 100000 in
theorem k1_J_maxL : MOk1 M_J_maxL := m_ok1_of (by decide +kernel)
set_option maxRecDepth 100000 in
theorem k2_J_maxL : MOk2 M_J_maxL := m_ok2_spec (p0 := 622) (p1 := 80) (p2 := 621) (p3 := 0) (by decide +kernel)
def M_J_minI : MD := (y_J_minI, prog_13_method_69_code, 2, (some .int), (0, 2, 0), [
  (0, .iload_n 0, 1, 0, 0, 0, m_y0, .null),
  (1, .iload_n 1, 2, 1, 0, 0, m_y0, .null),
  (2, .if_icmp .gt 7, 5, 9, 0, 0, m_y0, .null),
  (5, .iload_n 0, 6, 0, 0, 0, m_y0, .null),
  (6, .goto 4, 9, 10, 0, 0, m_y0, .null),
  (9, .iload_n 1, 10, 1, 0, 0, m_y0, .null),
  (10, .ireturn, 11, 0, 0, 0, m_y0, .null)])
set_option maxRecDepth 100000 in
theorem k1_J_minI : MOk1 M_J_minI := m_ok1_of (by decide +kernel)
set_option maxRecDepth 100000 in
theorem k2_J_minI : MOk2 M_J_minI := m_ok2_spec (p0 := 504) (p1 := 80) (p2 := 503) (p3 := 0) (by decide +kernel)
def M_J_bits : MD := (y_J_bits, prog_12_method_49_code, 1, (some .int), (0, 1, 0), [
  (0, .iload_n 0, 1, 0, 0, 0, m_y0, .null),
  (1, .iload_n 0, 2, 0, 0, 0, m_y0, .null),
  (2, .iconst 1, 3, 0, 0, 0, m_y0, .int 1),
  (3, .iushr, 4, 0, 0, 0, m_y0, .null),
  (4, .ldc_w 265, 7, 0, 0, 882, m_y0, .int 1431655765),
  (7, .iand, 8, 0, 0, 0, m_y0, .null),
  (8, .isub, 9, 0, 0, 0, m_y0, .null),
  (9, .istore_n 0, 10, 0, 0, 0, m_y0, .null),
  (10, .iload_n 0, 11, 0, 0, 0, m_y0, .null),
  (11, .ldc_w 266, 14, 0, 0, 883, m_y0, .int 858993459),
  (14, .iand, 15, 0, 0, 0, m_y0, .null),
  (15, .iload_n 0, 16, 0, 0, 0, m_y0, .null),
  (16, .iconst 2, 17, 0, 0, 0, m_y0, .int 2),
  (17, .iushr, 18, 0, 0, 0, m_y0, .null),
  (18, .ldc_w 266, 21, 0, 0, 883, m_y0, .int 858993459),
  (21, .iand, 22, 0, 0, 0, m_y0, .null),
  (22, .iadd, 23, 0, 0, 0, m_y0, .null),
  (23, .istore_n 0, 24, 0, 0, 0, m_y0, .null),
  (24, .iload_n 0, 25, 0, 0, 0, m_y0, .null),
  (25, .iload_n 0, 26, 0, 0, 0, m_y0, .null),
  (26, .iconst 4, 27, 0, 0, 0, m_y0, .int 4),
  (27, .iushr, 28, 0, 0, 0, m_y0, .null),
  (28, .iadd, 29, 0, 0, 0, m_y0, .null),
  (29, .ldc_w 267, 32, 0, 0, 884, m_y0, .int 252645135),
  (32, .iand, 33, 0, 0, 0, m_y0, .null),
  (33, .istore_n 0, 34, 0, 0, 0, m_y0, .null),
  (34, .iload_n 0, 35, 0, 0, 0, m_y0, .null),
  (35, .iload_n 0, 36, 0, 0, 0, m_y0, .null),
  (36, .bipush 8, 38, 0, 0, 0, m_y0, .int 8),
  (38, .iushr, 39, 0, 0, 0, m_y0, .null),
  (39, .iadd, 40, 0, 0, 0, m_y0, .null),
  (40, .istore_n 0, 41, 0, 0, 0, m_y0, .null),
  (41, .iload_n 0, 42, 0, 0, 0, m_y0, .null),
  (42, .iload_n 0, 43, 0, 0, 0, m_y0, .null),
  (43, .bipush 16, 45, 0, 0, 0, m_y0, .int 16),
  (45, .iushr, 46, 0, 0, 0, m_y0, .null),
  (46, .iadd, 47, 0, 0, 0, m_y0, .null),
  (47, .istore_n 0, 48, 0, 0, 0, m_y0, .null),
  (48, .iload_n 0, 49, 0, 0, 0, m_y0, .null),
  (49, .bipush 63, 51, 0, 0, 0, m_y0, .int 63),
  (51, .iand, 52, 0, 0, 0, m_y0, .null),
  (52, .ireturn, 53, 0, 0, 0, m_y0, .null)])
set_option maxRecDepth 100000 in
theorem k1_J_bits : MOk1 M_J_bits := m_ok1_of (by decide +kernel)
set_option maxRecDepth 100000 in
theorem k2_J_bits : MOk2 M_J_bits := m_ok2_spec (p0 := 881) (p1 := 82) (p2 := 880) (p3 := 0) (by decide +kernel)
def M_J_range : MD := (y_J_range, prog_15_method_30_code, 3, none, (0, 3, 0), [
  (0, .iload_n 1, 1, 1, 0, 0, m_y0, .null),
  (1, .iload_n 2, 2, 2, 0, 0, m_y0, .null),
  (2, .if_icmp .le 44, 5, 46, 0, 0, m_y0, .null),
  (8, .dup, 9, 0, 0, 0, m_y0, .null),
  (12, .dup, 13, 0, 0, 0, m_y0, .null),
  (21, .iload_n 1, 22, 1, 0, 0, m_y0, .null),
  (30, .iload_n 2, 31, 2, 0, 0, m_y0, .null),
  (46, .iload_n 1, 47, 1, 0, 0, m_y0, .null),
  (47, .ifCond .ge 12, 50, 59, 0, 0, m_y0, .null),
  (53, .dup, 54, 0, 0, 0, m_y0, .null),
  (54, .iload_n 1, 55, 1, 0, 0, m_y0, .null),
  (59, .iload_n 2, 60, 2, 0, 0, m_y0, .null),
  (60, .iload_n 0, 61, 0, 0, 0, m_y0, .null),
  (61, .if_icmp .le 12, 64, 73, 0, 0, m_y0, .null),
  (67, .dup, 68, 0, 0, 0, m_y0, .null),
  (68, .iload_n 2, 69, 2, 0, 0, m_y0, .null),
  (73, .return_, 74, 0, 0, 0, m_y0, .null)])
set_option maxRecDepth 100000 in
theorem k1_J_range : MOk1 M_J_range := m_ok1_of (by decide +kernel)
set_option maxRecDepth 100000 in
theorem k2_J_range : MOk2 M_J_range := m_ok2_spec (p0 := 824) (p1 := 81) (p2 := 823) (p3 := 0) (by decide +kernel)
def M_J_fillA : MD := (y_J_fillA, prog_15_method_101_code, 5, none, (0, 2, 0), [
  (0, .iconst 0, 1, 0, 0, 0, m_y0, .int 0),
  (1, .istore_n 3, 2, 3, 0, 0, m_y0, .null),
  (2, .aload_n 0, 3, 0, 0, 0, m_y0, .null),
  (3, .arraylength, 4, 0, 0, 0, m_y0, .null),
  (4, .istore 4, 6, 4, 0, 0, m_y0, .null),
  (6, .iload_n 3, 7, 3, 0, 0, m_y0, .null),
  (7, .iload 4, 9, 4, 0, 0, m_y0, .null),
  (9, .if_icmp .ge 13, 12, 22, 0, 0, m_y0, .null),
  (12, .aload_n 0, 13, 0, 0, 0, m_y0, .null),
  (13, .iload_n 3, 14, 3, 0, 0, m_y0, .null),
  (14, .lload_n 1, 15, 1, 0, 0, m_y0, .null),
  (15, .lastore, 16, 0, 0, 0, m_y0, .null),
  (16, .iinc 3 1, 19, 3, 0, 0, m_y0, .int 1),
  (19, .goto (-13), 22, 6, 0, 0, m_y0, .null),
  (22, .return_, 23, 0, 0, 0, m_y0, .null)])
set_option maxRecDepth 100000 in
theorem k1_J_fillA : MOk1 M_J_fillA := m_ok1_of (by decide +kernel)
set_option maxRecDepth 100000 in
theorem k2_J_fillA : MOk2 M_J_fillA := m_ok2_spec (p0 := 636) (p1 := 81) (p2 := 635) (p3 := 0) (by decide +kernel)
def M_J_fillR : MD := (y_J_fillR, prog_15_method_102_code, 6, none, (0, 4, 0), [
  (0, .aload_n 0, 1, 0, 0, 0, m_y0, .null),
  (1, .arraylength, 2, 0, 0, 0, m_y0, .null),
  (2, .iload_n 1, 3, 1, 0, 0, m_y0, .null),
  (3, .iload_n 2, 4, 2, 0, 0, m_y0, .null),
  (4, .invokestatic 13, 7, 3, 0, 822, y_J_range, .null),
  (7, .iload_n 1, 8, 1, 0, 0, m_y0, .null),
  (8, .istore 5, 10, 5, 0, 0, m_y0, .null),
  (10, .iload 5, 12, 5, 0, 0, m_y0, .null),
  (12, .iload_n 2, 13, 2, 0, 0, m_y0, .null),
  (13, .if_icmp .ge 14, 16, 27, 0, 0, m_y0, .null),
  (16, .aload_n 0, 17, 0, 0, 0, m_y0, .null),
  (17, .iload 5, 19, 5, 0, 0, m_y0, .null),
  (19, .lload_n 3, 20, 3, 0, 0, m_y0, .null),
  (20, .lastore, 21, 0, 0, 0, m_y0, .null),
  (21, .iinc 5 1, 24, 5, 0, 0, m_y0, .int 1),
  (24, .goto (-14), 27, 10, 0, 0, m_y0, .null),
  (27, .return_, 28, 0, 0, 0, m_y0, .null)])
set_option maxRecDepth 100000 in
theorem k1_J_fillR : MOk1 M_J_fillR := m_ok1_of (by decide +kernel)
set_option maxRecDepth 100000 in
theorem k2_J_fillR : MOk2 M_J_fillR := m_ok2_spec (p0 := 821) (p1 := 81) (p2 := 820) (p3 := 0) (by decide +kernel)
def M_C_init_0 : List (Nat × ME) := [
  (0, .aload_n 0, 1, 0, 0, 0, m_y0, .null),
  (1, .invokespecial 1, 4, 1, 0, 88, Lib.objectInit, .null),
  (4, .aload_n 0, 5, 0, 0, 0, m_y0, .null),
  (5, .new 7, 8, 7, 0, 91, m_y0, .null),
  (8, .dup, 9, 0, 0, 0, m_y0, .null),
  (9, .invokespecial 9, 12, 1, 1, 93, y_T_init, .null),
  (12, .putfield 10, 15, 8, 0, 251, m_y0, .null),
  (15, .aload_n 0, 16, 0, 0, 0, m_y0, .null),
  (16, .new 16, 19, 1, 0, 118, m_y0, .null),
  (19, .dup, 20, 0, 0, 0, m_y0, .null),
  (20, .invokespecial 18, 23, 1, 1, 120, y_L_init, .null),
  (23, .putfield 19, 26, 8, 1, 252, m_y0, .null),
  (26, .aload_n 0, 27, 0, 0, 0, m_y0, .null),
  (27, .new 23, 30, 4, 0, 134, m_y0, .null),
  (30, .dup, 31, 0, 0, 0, m_y0, .null),
  (31, .invokespecial 25, 34, 1, 1, 136, y_R_init, .null),
  (34, .putfield 26, 37, 8, 2, 253, m_y0, .null),
  (37, .aload_n 0, 38, 0, 0, 0, m_y0, .null),
  (38, .new 30, 41, 5, 0, 162, m_y0, .null),
  (41, .dup, 42, 0, 0, 0, m_y0, .null),
  (42, .aload_n 0, 43, 0, 0, 0, m_y0, .null),
  (43, .getfield 10, 46, 8, 0, 251, m_y0, .null),
  (46, .aload_n 0, 47, 0, 0, 0, m_y0, .null),
  (47, .getfield 19, 50, 8, 1, 252, m_y0, .null),
  (50, .invokespecial 32, 53, 3, 0, 164, y_S_init, .null),
  (53, .putfield 35, 56, 8, 3, 254, m_y0, .null),
  (56, .aload_n 0, 57, 0, 0, 0, m_y0, .null),
  (57, .new 39, 60, 2, 0, 189, m_y0, .null),
  (60, .dup, 61, 0, 0, 0, m_y0, .null),
  (61, .invokespecial 41, 64, 1, 1, 191, y_P_init, .null),
  (64, .putfield 42, 67, 8, 4, 255, m_y0, .null),
  (67, .aload_n 0, 68, 0, 0, 0, m_y0, .null),
  (68, .new 46, 71, 0, 0, 209, m_y0, .null),
  (71, .dup, 72, 0, 0, 0, m_y0, .null),
  (72, .invokespecial 48, 75, 1, 1, 211, y_B_init, .null),
  (75, .putfield 49, 78, 8, 5, 256, m_y0, .null),
  (78, .aload_n 0, 79, 0, 0, 0, m_y0, .null),
  (79, .new 53, 82, 6, 0, 230, m_y0, .null),
  (82, .dup, 83, 0, 0, 0, m_y0, .null),
  (83, .invokespecial 55, 86, 1, 1, 232, y_H_init, .null),
  (86, .putfield 56, 89, 8, 6, 257, m_y0, .null),
  (89, .aload_n 0, 90, 0, 0, 0, m_y0, .null),
  (90, .bipush 8, 92, 0, 0, 0, m_y0, .int 8),
  (92, .anewarray 60, 95, 0, 0, 249, m_y0, .null),
  (95, .putfield 62, 98, 8, 7, 258, m_y0, .null),
  (98, .aload_n 0, 99, 0, 0, 0, m_y0, .null),
  (99, .iconst 0, 100, 0, 0, 0, m_y0, .int 0),
  (100, .putfield 66, 103, 8, 8, 259, m_y0, .int 0),
  (103, .aload_n 0, 104, 0, 0, 0, m_y0, .null),
  (104, .bipush 8, 106, 0, 0, 0, m_y0, .int 8)]
def M_C_init_1 : List (Nat × ME) := [
  (106, .newarray .int, 108, 0, 0, 0, m_y0, .null),
  (108, .putfield 70, 111, 8, 9, 260, m_y0, .null),
  (111, .aload_n 0, 112, 0, 0, 0, m_y0, .null),
  (112, .bipush 8, 114, 0, 0, 0, m_y0, .int 8),
  (114, .newarray .int, 116, 0, 0, 0, m_y0, .null),
  (116, .putfield 74, 119, 8, 10, 261, m_y0, .null),
  (119, .aload_n 0, 120, 0, 0, 0, m_y0, .null),
  (120, .bipush 8, 122, 0, 0, 0, m_y0, .int 8),
  (122, .newarray .int, 124, 0, 0, 0, m_y0, .null),
  (124, .putfield 77, 127, 8, 11, 262, m_y0, .null),
  (127, .aload_n 0, 128, 0, 0, 0, m_y0, .null),
  (128, .iconst 0, 129, 0, 0, 0, m_y0, .int 0),
  (129, .putfield 80, 132, 8, 12, 263, m_y0, .int 0),
  (132, .aload_n 0, 133, 0, 0, 0, m_y0, .null),
  (133, .iconst 0, 134, 0, 0, 0, m_y0, .int 0),
  (134, .putfield 83, 137, 8, 13, 264, m_y0, .int 1),
  (137, .return_, 138, 0, 0, 0, m_y0, .null)]
def M_C_init : MD := (y_C_init, prog_1_method_1_code, 1, none, (2, 0, 8), M_C_init_0 ++ (M_C_init_1))
set_option maxRecDepth 100000 in
theorem k1_C_init_0 : M_C_init_0.all (m_eok y_C_init prog_1_method_1_code 1) = true := by decide +kernel
set_option maxRecDepth 100000 in
theorem k1_C_init_1 : M_C_init_1.all (m_eok y_C_init prog_1_method_1_code 1) = true := by decide +kernel
theorem k1_C_init : MOk1 M_C_init := m_ok1_of (m_all_app k1_C_init_0 k1_C_init_1)
set_option maxRecDepth 100000 in
theorem k2_C_init : MOk2 M_C_init := m_ok2_spec (p0 := 87) (p1 := 69) (p2 := 86) (p3 := 0) (by decide +kernel)
def M_C_part : MD := (y_C_part, prog_1_method_2_code, 2, (some .int), (1, 1, 8), [
  (0, .iload_n 1, 1, 1, 0, 0, m_y0, .null),
  (1, .iconst 0, 2, 0, 0, 0, m_y0, .int 0),
  (2, .bipush 99, 4, 0, 0, 0, m_y0, .int 99),
  (4, .invokestatic 87, 7, 3, 0, 298, y_C_within, .null),
  (7, .ifCond .ne 5, 10, 12, 0, 0, m_y0, .null),
  (10, .iconst (-1), 11, 0, 0, 0, m_y0, .int (-1)),
  (11, .ireturn, 12, 0, 0, 0, m_y0, .null),
  (12, .aload_n 0, 13, 0, 0, 0, m_y0, .null),
  (13, .getfield 66, 16, 8, 8, 259, m_y0, .null),
  (16, .bipush 8, 18, 0, 0, 0, m_y0, .int 8),
  (18, .if_icmp .lt 6, 21, 24, 0, 0, m_y0, .null),
  (21, .bipush (-3), 23, 0, 0, 0, m_y0, .int (-3)),
  (23, .ireturn, 24, 0, 0, 0, m_y0, .null),
  (24, .aload_n 0, 25, 0, 0, 0, m_y0, .null),
  (25, .iload_n 1, 26, 1, 0, 0, m_y0, .null),
  (26, .bipush 10, 28, 0, 0, 0, m_y0, .int 10),
  (28, .idiv, 29, 0, 0, 0, m_y0, .null),
  (29, .iload_n 1, 30, 1, 0, 0, m_y0, .null),
  (30, .bipush 10, 32, 0, 0, 0, m_y0, .int 10),
  (32, .irem, 33, 0, 0, 0, m_y0, .null),
  (33, .invokevirtual 91, 36, 3, 0, 301, y_C_addPiece, .null),
  (36, .aload_n 0, 37, 0, 0, 0, m_y0, .null),
  (37, .getfield 66, 40, 8, 8, 259, m_y0, .null),
  (40, .iconst 1, 41, 0, 0, 0, m_y0, .int 1),
  (41, .isub, 42, 0, 0, 0, m_y0, .null),
  (42, .ireturn, 43, 0, 0, 0, m_y0, .null)])
set_option maxRecDepth 100000 in
theorem k1_C_part : MOk1 M_C_part := m_ok1_of (by decide +kernel)
set_option maxRecDepth 100000 in
theorem k2_C_part : MOk2 M_C_part := m_ok2_spec (p0 := 297) (p1 := 69) (p2 := 295) (p3 := 296) (by decide +kernel)
def M_C_parts : MD := (y_C_parts, prog_1_method_3_code, 6, (some .int), (1, 3, 8), [
  (0, .iload_n 1, 1, 1, 0, 0, m_y0, .null),
  (1, .invokestatic 95, 4, 1, 0, 340, y_C_isShelf, .null),
  (4, .ifCond .eq 13, 7, 17, 0, 0, m_y0, .null),
  (7, .iload_n 3, 8, 3, 0, 0, m_y0, .null),
  (8, .iconst 1, 9, 0, 0, 0, m_y0, .int 1),
  (9, .bipush 8, 11, 0, 0, 0, m_y0, .int 8),
  (11, .invokestatic 87, 14, 3, 0, 298, y_C_within, .null),
  (14, .ifCond .ne 5, 17, 19, 0, 0, m_y0, .null),
  (17, .iconst (-1), 18, 0, 0, 0, m_y0, .int (-1)),
  (18, .ireturn, 19, 0, 0, 0, m_y0, .null),
  (19, .aload_n 0, 20, 0, 0, 0, m_y0, .null),
  (20, .getfield 56, 23, 8, 6, 257, m_y0, .null),
  (23, .iload_n 1, 24, 1, 0, 0, m_y0, .null),
  (24, .invokevirtual 99, 27, 2, 0, 343, y_H_sortOn, .null),
  (27, .istore 4, 29, 4, 0, 0, m_y0, .null),
  (29, .iload 4, 31, 4, 0, 0, m_y0, .null),
  (31, .bipush (-2), 33, 0, 0, 0, m_y0, .int (-2)),
  (33, .if_icmp .ne 5, 36, 38, 0, 0, m_y0, .null),
  (36, .iconst 0, 37, 0, 0, 0, m_y0, .int 0),
  (37, .ireturn, 38, 0, 0, 0, m_y0, .null),
  (38, .iload 4, 40, 4, 0, 0, m_y0, .null),
  (40, .ifCond .eq 6, 43, 46, 0, 0, m_y0, .null),
  (43, .bipush (-12), 45, 0, 0, 0, m_y0, .int (-12)),
  (45, .ireturn, 46, 0, 0, 0, m_y0, .null),
  (46, .iconst 0, 47, 0, 0, 0, m_y0, .int 0),
  (47, .istore 5, 49, 5, 0, 0, m_y0, .null),
  (49, .iload 5, 51, 5, 0, 0, m_y0, .null),
  (51, .iload_n 3, 52, 3, 0, 0, m_y0, .null),
  (52, .if_icmp .ge 23, 55, 75, 0, 0, m_y0, .null),
  (55, .aload_n 0, 56, 0, 0, 0, m_y0, .null),
  (56, .iload_n 1, 57, 1, 0, 0, m_y0, .null),
  (57, .iload_n 2, 58, 2, 0, 0, m_y0, .null),
  (58, .iconst 2, 59, 0, 0, 0, m_y0, .int 2),
  (59, .iload 5, 61, 5, 0, 0, m_y0, .null),
  (61, .imul, 62, 0, 0, 0, m_y0, .null),
  (62, .iadd, 63, 0, 0, 0, m_y0, .null),
  (63, .invokevirtual 103, 66, 3, 0, 348, y_C_addFromRow, .null),
  (66, .ifCond .eq 9, 69, 75, 0, 0, m_y0, .null),
  (69, .iinc 5 1, 72, 5, 0, 0, m_y0, .int 1),
  (72, .goto (-23), 75, 49, 0, 0, m_y0, .null),
  (75, .iload 5, 77, 5, 0, 0, m_y0, .null),
  (77, .ireturn, 78, 0, 0, 0, m_y0, .null)])
set_option maxRecDepth 100000 in
theorem k1_C_parts : MOk1 M_C_parts := m_ok1_of (by decide +kernel)
set_option maxRecDepth 100000 in
theorem k2_C_parts : MOk2 M_C_parts := m_ok2_spec (p0 := 339) (p1 := 69) (p2 := 337) (p3 := 338) (by decide +kernel)
def M_C_mend : MD := (y_C_mend, prog_1_method_4_code, 4, (some .int), (1, 3, 8), [
  (0, .iload_n 2, 1, 2, 0, 0, m_y0, .null),
  (1, .iconst 0, 2, 0, 0, 0, m_y0, .int 0),
  (2, .iconst 3, 3, 0, 0, 0, m_y0, .int 3),
  (3, .invokestatic 87, 6, 3, 0, 298, y_C_within, .null),
  (6, .ifCond .eq 12, 9, 18, 0, 0, m_y0, .null),
  (9, .iload_n 1, 10, 1, 0, 0, m_y0, .null),
  (10, .iconst 0, 11, 0, 0, 0, m_y0, .int 0),
  (11, .iconst 5, 12, 0, 0, 0, m_y0, .int 5),
  (12, .invokestatic 87, 15, 3, 0, 298, y_C_within, .null),
  (15, .ifCond .ne 5, 18, 20, 0, 0, m_y0, .null),
  (18, .iconst (-1), 19, 0, 0, 0, m_y0, .int (-1)),
  (19, .ireturn, 20, 0, 0, 0, m_y0, .null),
  (20, .iload_n 3, 21, 3, 0, 0, m_y0, .null),
  (21, .getstatic 107, 24, 0, 0, 366, m_y0, .null),
  (24, .iload_n 2, 25, 2, 0, 0, m_y0, .null),
  (25, .iaload, 26, 0, 0, 0, m_y0, .null),
  (26, .getstatic 110, 29, 1, 0, 368, m_y0, .null),
  (29, .iload_n 2, 30, 2, 0, 0, m_y0, .null),
  (30, .iaload, 31, 0, 0, 0, m_y0, .null),
  (31, .invokestatic 87, 34, 3, 0, 298, y_C_within, .null),
  (34, .ifCond .ne 5, 37, 39, 0, 0, m_y0, .null),
  (37, .iconst (-1), 38, 0, 0, 0, m_y0, .int (-1)),
  (38, .ireturn, 39, 0, 0, 0, m_y0, .null),
  (39, .aload_n 0, 40, 0, 0, 0, m_y0, .null),
  (40, .getfield 10, 43, 8, 0, 251, m_y0, .null),
  (43, .iload_n 2, 44, 2, 0, 0, m_y0, .null),
  (44, .iload_n 1, 45, 1, 0, 0, m_y0, .null),
  (45, .iload_n 3, 46, 3, 0, 0, m_y0, .null),
  (46, .invokevirtual 113, 49, 4, 0, 370, y_T_change, .null),
  (49, .ireturn, 50, 0, 0, 0, m_y0, .null)])
set_option maxRecDepth 100000 in
theorem k1_C_mend : MOk1 M_C_mend := m_ok1_of (by decide +kernel)
set_option maxRecDepth 100000 in
theorem k2_C_mend : MOk2 M_C_mend := m_ok2_spec (p0 := 365) (p1 := 69) (p2 := 363) (p3 := 364) (by decide +kernel)
def M_C_find : MD := (y_C_find, prog_1_method_5_code, 6, (some .int), (1, 2, 8), [
  (0, .aload_n 0, 1, 0, 0, 0, m_y0, .null),
  (1, .iload_n 1, 2, 1, 0, 0, m_y0, .null),
  (2, .bipush 10, 4, 0, 0, 0, m_y0, .int 10),
  (4, .idiv, 5, 0, 0, 0, m_y0, .null),
  (5, .invokevirtual 117, 8, 2, 0, 397, y_C_pieceAt, .null),
  (8, .astore_n 3, 9, 3, 0, 0, m_y0, .null),
  (9, .iload_n 1, 10, 1, 0, 0, m_y0, .null),
  (10, .bipush 10, 12, 0, 0, 0, m_y0, .int 10),
  (12, .irem, 13, 0, 0, 0, m_y0, .null),
  (13, .istore 4, 15, 4, 0, 0, m_y0, .null),
  (15, .aload_n 3, 16, 3, 0, 0, m_y0, .null),
  (16, .ifnull 20, 19, 36, 0, 0, m_y0, .null),
  (19, .iload 4, 21, 4, 0, 0, m_y0, .null),
  (21, .invokestatic 121, 24, 1, 0, 401, y_C_isMark, .null),
  (24, .ifCond .eq 12, 27, 36, 0, 0, m_y0, .null),
  (27, .iload_n 2, 28, 2, 0, 0, m_y0, .null),
  (28, .iconst 0, 29, 0, 0, 0, m_y0, .int 0),
  (29, .iconst 2, 30, 0, 0, 0, m_y0, .int 2),
  (30, .invokestatic 87, 33, 3, 0, 298, y_C_within, .null),
  (33, .ifCond .ne 5, 36, 38, 0, 0, m_y0, .null),
  (36, .iconst (-1), 37, 0, 0, 0, m_y0, .int (-1)),
  (37, .ireturn, 38, 0, 0, 0, m_y0, .null),
  (38, .aload_n 3, 39, 3, 0, 0, m_y0, .null),
  (39, .iload 4, 41, 4, 0, 0, m_y0, .null),
  (41, .invokevirtual 124, 44, 2, 0, 404, y_I_foundOf, .null),
  (44, .istore 5, 46, 5, 0, 0, m_y0, .null),
  (46, .aload_n 3, 47, 3, 0, 0, m_y0, .null),
  (47, .iload 4, 49, 4, 0, 0, m_y0, .null),
  (49, .iload_n 2, 50, 2, 0, 0, m_y0, .null),
  (50, .invokevirtual 127, 53, 3, 0, 411, y_I_setFound, .null),
  (53, .iload 5, 55, 5, 0, 0, m_y0, .null),
  (55, .ireturn, 56, 0, 0, 0, m_y0, .null)])
set_option maxRecDepth 100000 in
theorem k1_C_find : MOk1 M_C_find := m_ok1_of (by decide +kernel)
set_option maxRecDepth 100000 in
theorem k2_C_find : MOk2 M_C_find := m_ok2_spec (p0 := 396) (p1 := 69) (p2 := 394) (p3 := 395) (by decide +kernel)
def M_C_of : MD := (y_C_of, prog_1_method_6_code, 4, (some .int), (1, 2, 8), [
  (0, .iload_n 2, 1, 2, 0, 0, m_y0, .null),
  (1, .bipush 20, 3, 0, 0, 0, m_y0, .int 20),
  (3, .if_icmp .lt 10, 6, 13, 0, 0, m_y0, .null),
  (6, .aload_n 0, 7, 0, 0, 0, m_y0, .null),
  (7, .iload_n 1, 8, 1, 0, 0, m_y0, .null),
  (8, .iload_n 2, 9, 2, 0, 0, m_y0, .null),
  (9, .invokevirtual 130, 12, 3, 0, 419, y_C_numberTold, .null),
  (12, .ireturn, 13, 0, 0, 0, m_y0, .null),
  (13, .aload_n 0, 14, 0, 0, 0, m_y0, .null),
  (14, .iload_n 1, 15, 1, 0, 0, m_y0, .null),
  (15, .invokevirtual 117, 18, 2, 0, 397, y_C_pieceAt, .null),
  (18, .astore_n 3, 19, 3, 0, 0, m_y0, .null),
  (19, .aload_n 3, 20, 3, 0, 0, m_y0, .null),
  (20, .ifnonnull 5, 23, 25, 0, 0, m_y0, .null),
  (23, .iconst (-1), 24, 0, 0, 0, m_y0, .int (-1)),
  (24, .ireturn, 25, 0, 0, 0, m_y0, .null),
  (25, .iload_n 2, 26, 2, 0, 0, m_y0, .null),
  (26, .ifCond .ne 8, 29, 34, 0, 0, m_y0, .null),
  (29, .aload_n 3, 30, 3, 0, 0, m_y0, .null),
  (30, .getfield 134, 33, 3, 0, 311, m_y0, .null),
  (33, .ireturn, 34, 0, 0, 0, m_y0, .null),
  (34, .iload_n 2, 35, 2, 0, 0, m_y0, .null),
  (35, .iconst 1, 36, 0, 0, 0, m_y0, .int 1),
  (36, .if_icmp .ne 8, 39, 44, 0, 0, m_y0, .null),
  (39, .aload_n 3, 40, 3, 0, 0, m_y0, .null),
  (40, .getfield 137, 43, 3, 1, 313, m_y0, .null),
  (43, .ireturn, 44, 0, 0, 0, m_y0, .null),
  (44, .iload_n 2, 45, 2, 0, 0, m_y0, .null),
  (45, .bipush 10, 47, 0, 0, 0, m_y0, .int 10),
  (47, .bipush 15, 49, 0, 0, 0, m_y0, .int 15),
  (49, .invokestatic 87, 52, 3, 0, 298, y_C_within, .null),
  (52, .ifCond .eq 14, 55, 66, 0, 0, m_y0, .null),
  (55, .aload_n 3, 56, 3, 0, 0, m_y0, .null),
  (56, .iload_n 2, 57, 2, 0, 0, m_y0, .null),
  (57, .bipush 10, 59, 0, 0, 0, m_y0, .int 10),
  (59, .isub, 60, 0, 0, 0, m_y0, .null),
  (60, .invokevirtual 124, 63, 2, 0, 404, y_I_foundOf, .null),
  (63, .goto 4, 66, 67, 0, 0, m_y0, .null),
  (66, .iconst (-1), 67, 0, 0, 0, m_y0, .int (-1)),
  (67, .ireturn, 68, 0, 0, 0, m_y0, .null)])
set_option maxRecDepth 100000 in
theorem k1_C_of : MOk1 M_C_of := m_ok1_of (by decide +kernel)
set_option maxRecDepth 100000 in
theorem k2_C_of : MOk2 M_C_of := m_ok2_spec (p0 := 418) (p1 := 69) (p2 := 416) (p3 := 417) (by decide +kernel)
def M_C_feed : MD := (y_C_feed, prog_1_method_7_code, 2, (some .int), (1, 1, 8), [
  (0, .iload_n 1, 1, 1, 0, 0, m_y0, .null),
  (1, .iconst 0, 2, 0, 0, 0, m_y0, .int 0),
  (2, .sipush 255, 5, 0, 0, 0, m_y0, .int 255),
  (5, .invokestatic 87, 8, 3, 0, 298, y_C_within, .null),
  (8, .ifCond .ne 5, 11, 13, 0, 0, m_y0, .null),
  (11, .iconst (-1), 12, 0, 0, 0, m_y0, .int (-1)),
  (12, .ireturn, 13, 0, 0, 0, m_y0, .null),
  (13, .aload_n 0, 14, 0, 0, 0, m_y0, .null),
  (14, .getfield 26, 17, 8, 2, 253, m_y0, .null),
  (17, .iload_n 1, 18, 1, 0, 0, m_y0, .null),
  (18, .invokevirtual 140, 21, 2, 0, 428, y_R_take, .null),
  (21, .ifCond .eq 13, 24, 34, 0, 0, m_y0, .null),
  (24, .aload_n 0, 25, 0, 0, 0, m_y0, .null),
  (25, .getfield 26, 28, 8, 2, 253, m_y0, .null),
  (28, .getfield 143, 31, 4, 1, 142, m_y0, .null),
  (31, .goto 5, 34, 36, 0, 0, m_y0, .null),
  (34, .bipush (-3), 36, 0, 0, 0, m_y0, .int (-3)),
  (36, .ireturn, 37, 0, 0, 0, m_y0, .null)])
set_option maxRecDepth 100000 in
theorem k1_C_feed : MOk1 M_C_feed := m_ok1_of (by decide +kernel)
set_option maxRecDepth 100000 in
theorem k2_C_feed : MOk2 M_C_feed := m_ok2_spec (p0 := 427) (p1 := 69) (p2 := 425) (p3 := 426) (by decide +kernel)
def M_C_law : MD := (y_C_law, prog_1_method_8_code, 4, (some .int), (1, 1, 8), [
  (0, .iload_n 1, 1, 1, 0, 0, m_y0, .null),
  (1, .invokestatic 121, 4, 1, 0, 401, y_C_isMark, .null),
  (4, .ifCond .ne 5, 7, 9, 0, 0, m_y0, .null),
  (7, .iconst (-1), 8, 0, 0, 0, m_y0, .int (-1)),
  (8, .ireturn, 9, 0, 0, 0, m_y0, .null),
  (9, .aload_n 0, 10, 0, 0, 0, m_y0, .null),
  (10, .getfield 26, 13, 8, 2, 253, m_y0, .null),
  (13, .invokevirtual 146, 16, 1, 0, 436, y_R_read, .null),
  (16, .istore_n 2, 17, 2, 0, 0, m_y0, .null),
  (17, .aload_n 0, 18, 0, 0, 0, m_y0, .null),
  (18, .getfield 26, 21, 8, 2, 253, m_y0, .null),
  (21, .iconst 0, 22, 0, 0, 0, m_y0, .int 0),
  (22, .putfield 143, 25, 4, 1, 142, m_y0, .int 0),
  (25, .iload_n 2, 26, 2, 0, 0, m_y0, .null),
  (26, .ifCond .lt 8, 29, 34, 0, 0, m_y0, .null),
  (29, .bipush (-100), 31, 0, 0, 0, m_y0, .int (-100)),
  (31, .iload_n 2, 32, 2, 0, 0, m_y0, .null),
  (32, .isub, 33, 0, 0, 0, m_y0, .null),
  (33, .ireturn, 34, 0, 0, 0, m_y0, .null),
  (34, .aload_n 0, 35, 0, 0, 0, m_y0, .null),
  (35, .getfield 19, 38, 8, 1, 252, m_y0, .null),
  (38, .iload_n 1, 39, 1, 0, 0, m_y0, .null),
  (39, .aload_n 0, 40, 0, 0, 0, m_y0, .null),
  (40, .getfield 26, 43, 8, 2, 253, m_y0, .null),
  (43, .getfield 150, 46, 4, 2, 144, m_y0, .null),
  (46, .aload_n 0, 47, 0, 0, 0, m_y0, .null),
  (47, .getfield 26, 50, 8, 2, 253, m_y0, .null),
  (50, .getfield 153, 53, 4, 3, 146, m_y0, .null),
  (53, .invokevirtual 156, 56, 4, 0, 474, y_L_set, .null),
  (56, .iconst 0, 57, 0, 0, 0, m_y0, .int 0),
  (57, .istore_n 3, 58, 3, 0, 0, m_y0, .null),
  (58, .iload_n 3, 59, 3, 0, 0, m_y0, .null),
  (59, .aload_n 0, 60, 0, 0, 0, m_y0, .null),
  (60, .getfield 66, 63, 8, 8, 259, m_y0, .null),
  (63, .if_icmp .ge 18, 66, 81, 0, 0, m_y0, .null),
  (66, .aload_n 0, 67, 0, 0, 0, m_y0, .null),
  (67, .iload_n 3, 68, 3, 0, 0, m_y0, .null),
  (68, .invokevirtual 117, 71, 2, 0, 397, y_C_pieceAt, .null),
  (71, .iload_n 1, 72, 1, 0, 0, m_y0, .null),
  (72, .invokestatic 160, 75, 2, 0, 481, y_C_forgetNumbers, .null),
  (75, .iinc 3 1, 78, 3, 0, 0, m_y0, .int 1),
  (78, .goto (-20), 81, 58, 0, 0, m_y0, .null),
  (81, .iconst 1, 82, 0, 0, 0, m_y0, .int 1),
  (82, .ireturn, 83, 0, 0, 0, m_y0, .null)])
set_option maxRecDepth 100000 in
theorem k1_C_law : MOk1 M_C_law := m_ok1_of (by decide +kernel)
set_option maxRecDepth 100000 in
theorem k2_C_law : MOk2 M_C_law := m_ok2_spec (p0 := 435) (p1 := 69) (p2 := 433) (p3 := 434) (by decide +kernel)
def M_C_number : MD := (y_C_number, prog_1_method_9_code, 7, (some .int), (1, 2, 8), [
  (0, .aload_n 0, 1, 0, 0, 0, m_y0, .null),
  (1, .iload_n 1, 2, 1, 0, 0, m_y0, .null),
  (2, .bipush 10, 4, 0, 0, 0, m_y0, .int 10),
  (4, .idiv, 5, 0, 0, 0, m_y0, .null),
  (5, .invokevirtual 117, 8, 2, 0, 397, y_C_pieceAt, .null),
  (8, .astore_n 3, 9, 3, 0, 0, m_y0, .null),
  (9, .iload_n 1, 10, 1, 0, 0, m_y0, .null),
  (10, .bipush 10, 12, 0, 0, 0, m_y0, .int 10),
  (12, .irem, 13, 0, 0, 0, m_y0, .null),
  (13, .istore 4, 15, 4, 0, 0, m_y0, .null),
  (15, .iload_n 2, 16, 2, 0, 0, m_y0, .null),
  (16, .bipush 100, 18, 0, 0, 0, m_y0, .int 100),
  (18, .idiv, 19, 0, 0, 0, m_y0, .null),
  (19, .istore 5, 21, 5, 0, 0, m_y0, .null),
  (21, .iload_n 2, 22, 2, 0, 0, m_y0, .null),
  (22, .bipush 100, 24, 0, 0, 0, m_y0, .int 100),
  (24, .irem, 25, 0, 0, 0, m_y0, .null),
  (25, .istore 6, 27, 6, 0, 0, m_y0, .null),
  (27, .aload_n 3, 28, 3, 0, 0, m_y0, .null),
  (28, .ifnull 27, 31, 55, 0, 0, m_y0, .null),
  (31, .iload 4, 33, 4, 0, 0, m_y0, .null),
  (33, .invokestatic 121, 36, 1, 0, 401, y_C_isMark, .null),
  (36, .ifCond .eq 19, 39, 55, 0, 0, m_y0, .null),
  (39, .iload 5, 41, 5, 0, 0, m_y0, .null),
  (41, .invokestatic 164, 44, 1, 0, 488, y_C_isKind, .null),
  (44, .ifCond .eq 11, 47, 55, 0, 0, m_y0, .null),
  (47, .iload 6, 49, 6, 0, 0, m_y0, .null),
  (49, .invokestatic 167, 52, 1, 0, 491, y_C_isTime, .null),
  (52, .ifCond .ne 5, 55, 57, 0, 0, m_y0, .null),
  (55, .iconst (-1), 56, 0, 0, 0, m_y0, .int (-1)),
  (56, .ireturn, 57, 0, 0, 0, m_y0, .null),
  (57, .aload_n 3, 58, 3, 0, 0, m_y0, .null),
  (58, .aload_n 0, 59, 0, 0, 0, m_y0, .null),
  (59, .getfield 19, 62, 8, 1, 252, m_y0, .null),
  (62, .iconst 1, 63, 0, 0, 0, m_y0, .int 1),
  (63, .iload 4, 65, 4, 0, 0, m_y0, .null),
  (65, .ishl, 66, 0, 0, 0, m_y0, .null),
  (66, .invokevirtual 170, 69, 3, 0, 494, y_I_learn, .null),
  (69, .aload_n 3, 70, 3, 0, 0, m_y0, .null),
  (70, .iload 4, 72, 4, 0, 0, m_y0, .null),
  (72, .iload 5, 74, 5, 0, 0, m_y0, .null),
  (74, .iload 6, 76, 6, 0, 0, m_y0, .null),
  (76, .invokevirtual 174, 79, 4, 0, 513, y_I_numberAt, .null),
  (79, .ireturn, 80, 0, 0, 0, m_y0, .null)])
set_option maxRecDepth 100000 in
theorem k1_C_number : MOk1 M_C_number := m_ok1_of (by decide +kernel)
set_option maxRecDepth 100000 in
theorem k2_C_number : MOk2 M_C_number := m_ok2_spec (p0 := 487) (p1 := 69) (p2 := 485) (p3 := 486) (by decide +kernel)
def M_C_likely : MD := (y_C_likely, prog_1_method_10_code, 11, (some .long), (1, 2, 8), [
  (0, .aload_n 0, 1, 0, 0, 0, m_y0, .null),
  (1, .iload_n 1, 2, 1, 0, 0, m_y0, .null),
  (2, .bipush 10, 4, 0, 0, 0, m_y0, .int 10),
  (4, .idiv, 5, 0, 0, 0, m_y0, .null),
  (5, .invokevirtual 117, 8, 2, 0, 397, y_C_pieceAt, .null),
  (8, .astore_n 3, 9, 3, 0, 0, m_y0, .null),
  (9, .iload_n 1, 10, 1, 0, 0, m_y0, .null),
  (10, .bipush 10, 12, 0, 0, 0, m_y0, .int 10),
  (12, .irem, 13, 0, 0, 0, m_y0, .null),
  (13, .istore 4, 15, 4, 0, 0, m_y0, .null),
  (15, .aload_n 3, 16, 3, 0, 0, m_y0, .null),
  (16, .ifnull 20, 19, 36, 0, 0, m_y0, .null),
  (19, .iload 4, 21, 4, 0, 0, m_y0, .null),
  (21, .invokestatic 164, 24, 1, 0, 488, y_C_isKind, .null),
  (24, .ifCond .eq 12, 27, 36, 0, 0, m_y0, .null),
  (27, .iload_n 2, 28, 2, 0, 0, m_y0, .null),
  (28, .iconst 0, 29, 0, 0, 0, m_y0, .int 0),
  (29, .iconst 1, 30, 0, 0, 0, m_y0, .int 1),
  (30, .invokestatic 87, 33, 3, 0, 298, y_C_within, .null),
  (33, .ifCond .ne 7, 36, 40, 0, 0, m_y0, .null),
  (36, .ldc2_w 179, 39, 0, 0, 521, m_y0, .long (-9223372036854775808)),
  (39, .lreturn, 40, 0, 0, 0, m_y0, .null),
  (40, .aload_n 0, 41, 0, 0, 0, m_y0, .null),
  (41, .getfield 35, 44, 8, 3, 254, m_y0, .null),
  (44, .aload_n 3, 45, 3, 0, 0, m_y0, .null),
  (45, .invokevirtual 181, 48, 2, 0, 522, y_S_weighFound, .null),
  (48, .lstore 5, 50, 5, 0, 0, m_y0, .null),
  (50, .aload_n 0, 51, 0, 0, 0, m_y0, .null),
  (51, .getfield 35, 54, 8, 3, 254, m_y0, .null),
  (54, .getfield 185, 57, 5, 2, 171, m_y0, .null),
  (57, .iload 4, 59, 4, 0, 0, m_y0, .null),
  (59, .laload, 60, 0, 0, 0, m_y0, .null),
  (60, .lstore 7, 62, 7, 0, 0, m_y0, .null),
  (62, .lload 5, 64, 5, 0, 0, m_y0, .null),
  (64, .lload 7, 66, 7, 0, 0, m_y0, .null),
  (66, .invokestatic 189, 69, 2, 0, 538, y_C_greatestDivisor, .null),
  (69, .lstore 9, 71, 9, 0, 0, m_y0, .null),
  (71, .lload 9, 73, 9, 0, 0, m_y0, .null),
  (73, .lconst 0, 74, 0, 0, 0, m_y0, .long 0),
  (74, .lcmp, 75, 0, 0, 0, m_y0, .null),
  (75, .ifCond .ne 6, 78, 81, 0, 0, m_y0, .null),
  (78, .iload_n 2, 79, 2, 0, 0, m_y0, .null),
  (79, .i2l, 80, 0, 0, 0, m_y0, .null),
  (80, .lreturn, 81, 0, 0, 0, m_y0, .null),
  (81, .iload_n 2, 82, 2, 0, 0, m_y0, .null),
  (82, .ifCond .ne 11, 85, 93, 0, 0, m_y0, .null),
  (85, .lload 7, 87, 7, 0, 0, m_y0, .null),
  (87, .lload 9, 89, 9, 0, 0, m_y0, .null),
  (89, .ldiv, 90, 0, 0, 0, m_y0, .null),
  (90, .goto 8, 93, 98, 0, 0, m_y0, .null),
  (93, .lload 5, 95, 5, 0, 0, m_y0, .null),
  (95, .lload 9, 97, 9, 0, 0, m_y0, .null),
  (97, .ldiv, 98, 0, 0, 0, m_y0, .null),
  (98, .lreturn, 99, 0, 0, 0, m_y0, .null)])
set_option maxRecDepth 100000 in
theorem k1_C_likely : MOk1 M_C_likely := m_ok1_of (by decide +kernel)
set_option maxRecDepth 100000 in
theorem k2_C_likely : MOk2 M_C_likely := m_ok2_spec (p0 := 520) (p1 := 69) (p2 := 518) (p3 := 519) (by decide +kernel)
def M_C_percent : MD := (y_C_percent, prog_1_method_11_code, 4, (some .int), (1, 1, 8), [
  (0, .aload_n 0, 1, 0, 0, 0, m_y0, .null),
  (1, .iload_n 1, 2, 1, 0, 0, m_y0, .null),
  (2, .bipush 10, 4, 0, 0, 0, m_y0, .int 10),
  (4, .idiv, 5, 0, 0, 0, m_y0, .null),
  (5, .invokevirtual 117, 8, 2, 0, 397, y_C_pieceAt, .null),
  (8, .astore_n 2, 9, 2, 0, 0, m_y0, .null),
  (9, .iload_n 1, 10, 1, 0, 0, m_y0, .null),
  (10, .bipush 10, 12, 0, 0, 0, m_y0, .int 10),
  (12, .irem, 13, 0, 0, 0, m_y0, .null),
  (13, .istore_n 3, 14, 3, 0, 0, m_y0, .null),
  (14, .aload_n 2, 15, 2, 0, 0, m_y0, .null),
  (15, .ifnull 10, 18, 25, 0, 0, m_y0, .null),
  (18, .iload_n 3, 19, 3, 0, 0, m_y0, .null),
  (19, .invokestatic 164, 22, 1, 0, 488, y_C_isKind, .null),
  (22, .ifCond .ne 5, 25, 27, 0, 0, m_y0, .null),
  (25, .iconst (-1), 26, 0, 0, 0, m_y0, .int (-1)),
  (26, .ireturn, 27, 0, 0, 0, m_y0, .null),
  (27, .aload_n 0, 28, 0, 0, 0, m_y0, .null),
  (28, .getfield 35, 31, 8, 3, 254, m_y0, .null),
  (31, .aload_n 2, 32, 2, 0, 0, m_y0, .null),
  (32, .iload_n 3, 33, 3, 0, 0, m_y0, .null),
  (33, .invokevirtual 193, 36, 3, 0, 545, y_S_percentFound, .null),
  (36, .ireturn, 37, 0, 0, 0, m_y0, .null)])
set_option maxRecDepth 100000 in
theorem k1_C_percent : MOk1 M_C_percent := m_ok1_of (by decide +kernel)
set_option maxRecDepth 100000 in
theorem k2_C_percent : MOk2 M_C_percent := m_ok2_spec (p0 := 544) (p1 := 69) (p2 := 542) (p3 := 543) (by decide +kernel)
def M_C_likeliest : MD := (y_C_likeliest, prog_1_method_12_code, 3, (some .int), (1, 1, 8), [
  (0, .aload_n 0, 1, 0, 0, 0, m_y0, .null),
  (1, .iload_n 1, 2, 1, 0, 0, m_y0, .null),
  (2, .invokevirtual 117, 5, 2, 0, 397, y_C_pieceAt, .null),
  (5, .astore_n 2, 6, 2, 0, 0, m_y0, .null),
  (6, .aload_n 2, 7, 2, 0, 0, m_y0, .null),
  (7, .ifnonnull 5, 10, 12, 0, 0, m_y0, .null),
  (10, .iconst (-1), 11, 0, 0, 0, m_y0, .int (-1)),
  (11, .ireturn, 12, 0, 0, 0, m_y0, .null),
  (12, .aload_n 0, 13, 0, 0, 0, m_y0, .null),
  (13, .getfield 35, 16, 8, 3, 254, m_y0, .null),
  (16, .aload_n 2, 17, 2, 0, 0, m_y0, .null),
  (17, .invokevirtual 181, 20, 2, 0, 522, y_S_weighFound, .null),
  (20, .pop2, 21, 0, 0, 0, m_y0, .null),
  (21, .aload_n 0, 22, 0, 0, 0, m_y0, .null),
  (22, .getfield 35, 25, 8, 3, 254, m_y0, .null),
  (25, .invokevirtual 197, 28, 1, 0, 560, y_S_greatestKind, .null),
  (28, .ireturn, 29, 0, 0, 0, m_y0, .null)])
set_option maxRecDepth 100000 in
theorem k1_C_likeliest : MOk1 M_C_likeliest := m_ok1_of (by decide +kernel)
set_option maxRecDepth 100000 in
theorem k2_C_likeliest : MOk2 M_C_likeliest := m_ok2_spec (p0 := 559) (p1 := 69) (p2 := 557) (p3 := 558) (by decide +kernel)
def M_C_when : MD := (y_C_when, prog_1_method_13_code, 5, (some .int), (1, 2, 8), [
  (0, .aload_n 0, 1, 0, 0, 0, m_y0, .null),
  (1, .iload_n 1, 2, 1, 0, 0, m_y0, .null),
  (2, .bipush 10, 4, 0, 0, 0, m_y0, .int 10),
  (4, .idiv, 5, 0, 0, 0, m_y0, .null),
  (5, .invokevirtual 117, 8, 2, 0, 397, y_C_pieceAt, .null),
  (8, .astore_n 3, 9, 3, 0, 0, m_y0, .null),
  (9, .iload_n 1, 10, 1, 0, 0, m_y0, .null),
  (10, .bipush 10, 12, 0, 0, 0, m_y0, .int 10),
  (12, .irem, 13, 0, 0, 0, m_y0, .null),
  (13, .istore 4, 15, 4, 0, 0, m_y0, .null),
  (15, .aload_n 3, 16, 3, 0, 0, m_y0, .null),
  (16, .ifnull 20, 19, 36, 0, 0, m_y0, .null),
  (19, .iload 4, 21, 4, 0, 0, m_y0, .null),
  (21, .invokestatic 164, 24, 1, 0, 488, y_C_isKind, .null),
  (24, .ifCond .eq 12, 27, 36, 0, 0, m_y0, .null),
  (27, .iload_n 2, 28, 2, 0, 0, m_y0, .null),
  (28, .iconst 0, 29, 0, 0, 0, m_y0, .int 0),
  (29, .iconst 2, 30, 0, 0, 0, m_y0, .int 2),
  (30, .invokestatic 87, 33, 3, 0, 298, y_C_within, .null),
  (33, .ifCond .ne 5, 36, 38, 0, 0, m_y0, .null),
  (36, .iconst (-1), 37, 0, 0, 0, m_y0, .int (-1)),
  (37, .ireturn, 38, 0, 0, 0, m_y0, .null),
  (38, .aload_n 0, 39, 0, 0, 0, m_y0, .null),
  (39, .getfield 35, 42, 8, 3, 254, m_y0, .null),
  (42, .aload_n 3, 43, 3, 0, 0, m_y0, .null),
  (43, .invokevirtual 181, 46, 2, 0, 522, y_S_weighFound, .null),
  (46, .pop2, 47, 0, 0, 0, m_y0, .null),
  (47, .iload_n 2, 48, 2, 0, 0, m_y0, .null),
  (48, .ifCond .ne 14, 51, 62, 0, 0, m_y0, .null),
  (51, .aload_n 0, 52, 0, 0, 0, m_y0, .null),
  (52, .getfield 35, 55, 8, 3, 254, m_y0, .null),
  (55, .aload_n 3, 56, 3, 0, 0, m_y0, .null),
  (56, .iload 4, 58, 4, 0, 0, m_y0, .null),
  (58, .invokevirtual 200, 61, 3, 0, 568, y_S_timeOfGreatest, .null),
  (61, .ireturn, 62, 0, 0, 0, m_y0, .null),
  (62, .iload_n 2, 63, 2, 0, 0, m_y0, .null),
  (63, .iconst 1, 64, 0, 0, 0, m_y0, .int 1),
  (64, .if_icmp .ne 16, 67, 80, 0, 0, m_y0, .null),
  (67, .aload_n 0, 68, 0, 0, 0, m_y0, .null),
  (68, .getfield 35, 71, 8, 3, 254, m_y0, .null),
  (71, .aload_n 3, 72, 3, 0, 0, m_y0, .null),
  (72, .iload 4, 74, 4, 0, 0, m_y0, .null),
  (74, .invokevirtual 203, 77, 3, 0, 576, y_S_firstTime, .null),
  (77, .goto 13, 80, 90, 0, 0, m_y0, .null),
  (80, .aload_n 0, 81, 0, 0, 0, m_y0, .null),
  (81, .getfield 35, 84, 8, 3, 254, m_y0, .null),
  (84, .aload_n 3, 85, 3, 0, 0, m_y0, .null),
  (85, .iload 4, 87, 4, 0, 0, m_y0, .null),
  (87, .invokevirtual 206, 90, 3, 0, 580, y_S_lastTime, .null),
  (90, .ireturn, 91, 0, 0, 0, m_y0, .null)])
set_option maxRecDepth 100000 in
theorem k1_C_when : MOk1 M_C_when := m_ok1_of (by decide +kernel)
set_option maxRecDepth 100000 in
theorem k2_C_when : MOk2 M_C_when := m_ok2_spec (p0 := 567) (p1 := 69) (p2 := 565) (p3 := 566) (by decide +kernel)
def M_C_whole : MD := (y_C_whole, prog_1_method_14_code, 2, (some .int), (1, 1, 8), [
  (0, .iload_n 1, 1, 1, 0, 0, m_y0, .null),
  (1, .iconst 0, 2, 0, 0, 0, m_y0, .int 0),
  (2, .iconst 1, 3, 0, 0, 0, m_y0, .int 1),
  (3, .invokestatic 87, 6, 3, 0, 298, y_C_within, .null),
  (6, .ifCond .ne 5, 9, 11, 0, 0, m_y0, .null),
  (9, .iconst (-1), 10, 0, 0, 0, m_y0, .int (-1)),
  (10, .ireturn, 11, 0, 0, 0, m_y0, .null),
  (11, .iload_n 1, 12, 1, 0, 0, m_y0, .null),
  (12, .ifCond .ne 10, 15, 22, 0, 0, m_y0, .null),
  (15, .aload_n 0, 16, 0, 0, 0, m_y0, .null),
  (16, .invokevirtual 209, 19, 1, 0, 588, y_C_allTrue, .null),
  (19, .goto 7, 22, 26, 0, 0, m_y0, .null),
  (22, .aload_n 0, 23, 0, 0, 0, m_y0, .null),
  (23, .invokevirtual 212, 26, 1, 0, 592, y_C_atLeastTwoNot, .null),
  (26, .ireturn, 27, 0, 0, 0, m_y0, .null)])
set_option maxRecDepth 100000 in
theorem k1_C_whole : MOk1 M_C_whole := m_ok1_of (by decide +kernel)
set_option maxRecDepth 100000 in
theorem k2_C_whole : MOk2 M_C_whole := m_ok2_spec (p0 := 587) (p1 := 69) (p2 := 585) (p3 := 586) (by decide +kernel)
def M_C_odd_0 : List (Nat × ME) := [
  (0, .iconst 0, 1, 0, 0, 0, m_y0, .int 0),
  (1, .istore_n 1, 2, 1, 0, 0, m_y0, .null),
  (2, .iconst 0, 3, 0, 0, 0, m_y0, .int 0),
  (3, .istore_n 2, 4, 2, 0, 0, m_y0, .null),
  (4, .iload_n 2, 5, 2, 0, 0, m_y0, .null),
  (5, .aload_n 0, 6, 0, 0, 0, m_y0, .null),
  (6, .getfield 66, 9, 8, 8, 259, m_y0, .null),
  (9, .if_icmp .ge 41, 12, 50, 0, 0, m_y0, .null),
  (12, .aload_n 0, 13, 0, 0, 0, m_y0, .null),
  (13, .getfield 70, 16, 8, 9, 260, m_y0, .null),
  (16, .iload_n 2, 17, 2, 0, 0, m_y0, .null),
  (17, .aload_n 0, 18, 0, 0, 0, m_y0, .null),
  (18, .aload_n 0, 19, 0, 0, 0, m_y0, .null),
  (19, .iload_n 2, 20, 2, 0, 0, m_y0, .null),
  (20, .invokevirtual 117, 23, 2, 0, 397, y_C_pieceAt, .null),
  (23, .invokevirtual 215, 26, 2, 0, 601, y_C_whenTrue, .null),
  (26, .iastore, 27, 0, 0, 0, m_y0, .null),
  (27, .iload_n 1, 28, 1, 0, 0, m_y0, .null),
  (28, .aload_n 0, 29, 0, 0, 0, m_y0, .null),
  (29, .getfield 70, 32, 8, 9, 260, m_y0, .null),
  (32, .iload_n 2, 33, 2, 0, 0, m_y0, .null),
  (33, .iaload, 34, 0, 0, 0, m_y0, .null),
  (34, .ifCond .lt 7, 37, 41, 0, 0, m_y0, .null),
  (37, .iconst 1, 38, 0, 0, 0, m_y0, .int 1),
  (38, .goto 4, 41, 42, 0, 0, m_y0, .null),
  (41, .iconst 0, 42, 0, 0, 0, m_y0, .int 0),
  (42, .iadd, 43, 0, 0, 0, m_y0, .null),
  (43, .istore_n 1, 44, 1, 0, 0, m_y0, .null),
  (44, .iinc 2 1, 47, 2, 0, 0, m_y0, .int 1),
  (47, .goto (-43), 50, 4, 0, 0, m_y0, .null),
  (50, .aload_n 0, 51, 0, 0, 0, m_y0, .null),
  (51, .getfield 70, 54, 8, 9, 260, m_y0, .null),
  (54, .aload_n 0, 55, 0, 0, 0, m_y0, .null),
  (55, .getfield 66, 58, 8, 8, 259, m_y0, .null),
  (58, .iload_n 1, 59, 1, 0, 0, m_y0, .null),
  (59, .iconst 1, 60, 0, 0, 0, m_y0, .int 1),
  (60, .isub, 61, 0, 0, 0, m_y0, .null),
  (61, .iconst 2, 62, 0, 0, 0, m_y0, .int 2),
  (62, .idiv, 63, 0, 0, 0, m_y0, .null),
  (63, .invokestatic 219, 66, 3, 0, 605, y_C_valueAtRank, .null),
  (66, .istore_n 2, 67, 2, 0, 0, m_y0, .null),
  (67, .iconst 0, 68, 0, 0, 0, m_y0, .int 0),
  (68, .istore_n 3, 69, 3, 0, 0, m_y0, .null),
  (69, .iconst 0, 70, 0, 0, 0, m_y0, .int 0),
  (70, .istore 4, 72, 4, 0, 0, m_y0, .null),
  (72, .iload 4, 74, 4, 0, 0, m_y0, .null),
  (74, .aload_n 0, 75, 0, 0, 0, m_y0, .null),
  (75, .getfield 66, 78, 8, 8, 259, m_y0, .null),
  (78, .if_icmp .ge 42, 81, 120, 0, 0, m_y0, .null),
  (81, .aload_n 0, 82, 0, 0, 0, m_y0, .null)]
def M_C_odd_1 : List (Nat × ME) := [
  (82, .getfield 70, 85, 8, 9, 260, m_y0, .null),
  (85, .iload 4, 87, 4, 0, 0, m_y0, .null),
  (87, .iaload, 88, 0, 0, 0, m_y0, .null),
  (88, .ifCond .lt 26, 91, 114, 0, 0, m_y0, .null),
  (91, .aload_n 0, 92, 0, 0, 0, m_y0, .null),
  (92, .getfield 70, 95, 8, 9, 260, m_y0, .null),
  (95, .iload 4, 97, 4, 0, 0, m_y0, .null),
  (97, .iaload, 98, 0, 0, 0, m_y0, .null),
  (98, .iload_n 2, 99, 2, 0, 0, m_y0, .null),
  (99, .isub, 100, 0, 0, 0, m_y0, .null),
  (100, .invokestatic 223, 103, 1, 0, 608, y_J_abs, .null),
  (103, .iconst 2, 104, 0, 0, 0, m_y0, .int 2),
  (104, .if_icmp .le 10, 107, 114, 0, 0, m_y0, .null),
  (107, .iload_n 3, 108, 3, 0, 0, m_y0, .null),
  (108, .iconst 1, 109, 0, 0, 0, m_y0, .int 1),
  (109, .iload 4, 111, 4, 0, 0, m_y0, .null),
  (111, .ishl, 112, 0, 0, 0, m_y0, .null),
  (112, .ior, 113, 0, 0, 0, m_y0, .null),
  (113, .istore_n 3, 114, 3, 0, 0, m_y0, .null),
  (114, .iinc 4 1, 117, 4, 0, 0, m_y0, .int 1),
  (117, .goto (-45), 120, 72, 0, 0, m_y0, .null),
  (120, .iload_n 3, 121, 3, 0, 0, m_y0, .null),
  (121, .ireturn, 122, 0, 0, 0, m_y0, .null)]
def M_C_odd : MD := (y_C_odd, prog_1_method_15_code, 5, (some .int), (1, 0, 8), M_C_odd_0 ++ (M_C_odd_1))
set_option maxRecDepth 100000 in
theorem k1_C_odd_0 : M_C_odd_0.all (m_eok y_C_odd prog_1_method_15_code 5) = true := by decide +kernel
set_option maxRecDepth 100000 in
theorem k1_C_odd_1 : M_C_odd_1.all (m_eok y_C_odd prog_1_method_15_code 5) = true := by decide +kernel
theorem k1_C_odd : MOk1 M_C_odd := m_ok1_of (m_all_app k1_C_odd_0 k1_C_odd_1)
set_option maxRecDepth 100000 in
theorem k2_C_odd : MOk2 M_C_odd := m_ok2_spec (p0 := 600) (p1 := 69) (p2 := 598) (p3 := 599) (by decide +kernel)
def M_C_next : MD := (y_C_next, prog_1_method_16_code, 9, (some .int), (1, 1, 8), [
  (0, .aload_n 0, 1, 0, 0, 0, m_y0, .null),
  (1, .iload_n 1, 2, 1, 0, 0, m_y0, .null),
  (2, .invokevirtual 117, 5, 2, 0, 397, y_C_pieceAt, .null),
  (5, .astore_n 2, 6, 2, 0, 0, m_y0, .null),
  (6, .aload_n 2, 7, 2, 0, 0, m_y0, .null),
  (7, .ifnonnull 5, 10, 12, 0, 0, m_y0, .null),
  (10, .iconst (-1), 11, 0, 0, 0, m_y0, .int (-1)),
  (11, .ireturn, 12, 0, 0, 0, m_y0, .null),
  (12, .bipush (-2), 14, 0, 0, 0, m_y0, .int (-2)),
  (14, .istore_n 3, 15, 3, 0, 0, m_y0, .null),
  (15, .lconst 0, 16, 0, 0, 0, m_y0, .long 0),
  (16, .lstore 4, 18, 4, 0, 0, m_y0, .null),
  (18, .iconst 0, 19, 0, 0, 0, m_y0, .int 0),
  (19, .istore 6, 21, 6, 0, 0, m_y0, .null),
  (21, .iload 6, 23, 6, 0, 0, m_y0, .null),
  (23, .bipush 6, 25, 0, 0, 0, m_y0, .int 6),
  (25, .if_icmp .ge 66, 28, 91, 0, 0, m_y0, .null),
  (28, .aload_n 2, 29, 2, 0, 0, m_y0, .null),
  (29, .getfield 228, 32, 3, 2, 316, m_y0, .null),
  (32, .iload 6, 34, 6, 0, 0, m_y0, .null),
  (34, .invokestatic 231, 37, 2, 0, 615, y_C_hasBit, .null),
  (37, .ifCond .ne 48, 40, 85, 0, 0, m_y0, .null),
  (40, .aload_n 0, 41, 0, 0, 0, m_y0, .null),
  (41, .getfield 35, 44, 8, 3, 254, m_y0, .null),
  (44, .aload_n 2, 45, 2, 0, 0, m_y0, .null),
  (45, .iload 6, 47, 6, 0, 0, m_y0, .null),
  (47, .invokevirtual 234, 50, 3, 0, 616, y_S_greaterSum, .null),
  (50, .aload_n 0, 51, 0, 0, 0, m_y0, .null),
  (51, .getfield 10, 54, 8, 0, 251, m_y0, .null),
  (54, .iconst 2, 55, 0, 0, 0, m_y0, .int 2),
  (55, .iload 6, 57, 6, 0, 0, m_y0, .null),
  (57, .invokevirtual 238, 60, 3, 0, 423, y_T_get, .null),
  (60, .i2l, 61, 0, 0, 0, m_y0, .null),
  (61, .lmul, 62, 0, 0, 0, m_y0, .null),
  (62, .lstore 7, 64, 7, 0, 0, m_y0, .null),
  (64, .iload_n 3, 65, 3, 0, 0, m_y0, .null),
  (65, .bipush (-2), 67, 0, 0, 0, m_y0, .int (-2)),
  (67, .if_icmp .eq 11, 70, 78, 0, 0, m_y0, .null),
  (70, .lload 7, 72, 7, 0, 0, m_y0, .null),
  (72, .lload 4, 74, 4, 0, 0, m_y0, .null),
  (74, .lcmp, 75, 0, 0, 0, m_y0, .null),
  (75, .ifCond .ge 10, 78, 85, 0, 0, m_y0, .null),
  (78, .iload 6, 80, 6, 0, 0, m_y0, .null),
  (80, .istore_n 3, 81, 3, 0, 0, m_y0, .null),
  (81, .lload 7, 83, 7, 0, 0, m_y0, .null),
  (83, .lstore 4, 85, 4, 0, 0, m_y0, .null),
  (85, .iinc 6 1, 88, 6, 0, 0, m_y0, .int 1),
  (88, .goto (-67), 91, 21, 0, 0, m_y0, .null),
  (91, .iload_n 3, 92, 3, 0, 0, m_y0, .null),
  (92, .ireturn, 93, 0, 0, 0, m_y0, .null)])
set_option maxRecDepth 100000 in
theorem k1_C_next : MOk1 M_C_next := m_ok1_of (by decide +kernel)
set_option maxRecDepth 100000 in
theorem k2_C_next : MOk2 M_C_next := m_ok2_spec (p0 := 614) (p1 := 69) (p2 := 612) (p3 := 613) (by decide +kernel)
def M_C_named : MD := (y_C_named, prog_1_method_17_code, 7, (some .int), (1, 2, 8), [
  (0, .aload_n 0, 1, 0, 0, 0, m_y0, .null),
  (1, .iload_n 1, 2, 1, 0, 0, m_y0, .null),
  (2, .invokevirtual 117, 5, 2, 0, 397, y_C_pieceAt, .null),
  (5, .astore_n 3, 6, 3, 0, 0, m_y0, .null),
  (6, .aload_n 3, 7, 3, 0, 0, m_y0, .null),
  (7, .ifnull 10, 10, 17, 0, 0, m_y0, .null),
  (10, .iload_n 2, 11, 2, 0, 0, m_y0, .null),
  (11, .invokestatic 241, 14, 1, 0, 627, y_C_isSet, .null),
  (14, .ifCond .ne 5, 17, 19, 0, 0, m_y0, .null),
  (17, .iconst (-1), 18, 0, 0, 0, m_y0, .int (-1)),
  (18, .ireturn, 19, 0, 0, 0, m_y0, .null),
  (19, .iload_n 2, 20, 2, 0, 0, m_y0, .null),
  (20, .aload_n 3, 21, 3, 0, 0, m_y0, .null),
  (21, .getfield 228, 24, 3, 2, 316, m_y0, .null),
  (24, .iconst (-1), 25, 0, 0, 0, m_y0, .int (-1)),
  (25, .ixor, 26, 0, 0, 0, m_y0, .null),
  (26, .iand, 27, 0, 0, 0, m_y0, .null),
  (27, .istore 4, 29, 4, 0, 0, m_y0, .null),
  (29, .aload_n 0, 30, 0, 0, 0, m_y0, .null),
  (30, .getfield 35, 33, 8, 3, 254, m_y0, .null),
  (33, .aload_n 3, 34, 3, 0, 0, m_y0, .null),
  (34, .aload_n 3, 35, 3, 0, 0, m_y0, .null),
  (35, .getfield 228, 38, 3, 2, 316, m_y0, .null),
  (38, .aload_n 3, 39, 3, 0, 0, m_y0, .null),
  (39, .getfield 244, 42, 3, 3, 319, m_y0, .null),
  (42, .iload 4, 44, 4, 0, 0, m_y0, .null),
  (44, .invokevirtual 247, 47, 5, 0, 630, y_S_fillWays, .null),
  (47, .lstore 5, 49, 5, 0, 0, m_y0, .null),
  (49, .aload_n 0, 50, 0, 0, 0, m_y0, .null),
  (50, .getfield 35, 53, 8, 3, 254, m_y0, .null),
  (53, .iload 4, 55, 4, 0, 0, m_y0, .null),
  (55, .lload 5, 57, 5, 0, 0, m_y0, .null),
  (57, .invokevirtual 251, 60, 3, 0, 645, y_S_namedBy, .null),
  (60, .ireturn, 61, 0, 0, 0, m_y0, .null)])
set_option maxRecDepth 100000 in
theorem k1_C_named : MOk1 M_C_named := m_ok1_of (by decide +kernel)
set_option maxRecDepth 100000 in
theorem k2_C_named : MOk2 M_C_named := m_ok2_spec (p0 := 626) (p1 := 69) (p2 := 624) (p3 := 625) (by decide +kernel)
def M_C_plan : MD := (y_C_plan, prog_1_method_18_code, 7, (some .int), (1, 2, 8), [
  (0, .aload_n 0, 1, 0, 0, 0, m_y0, .null),
  (1, .iload_n 1, 2, 1, 0, 0, m_y0, .null),
  (2, .invokevirtual 117, 5, 2, 0, 397, y_C_pieceAt, .null),
  (5, .astore_n 3, 6, 3, 0, 0, m_y0, .null),
  (6, .aload_n 3, 7, 3, 0, 0, m_y0, .null),
  (7, .ifnull 13, 10, 20, 0, 0, m_y0, .null),
  (10, .iload_n 2, 11, 2, 0, 0, m_y0, .null),
  (11, .iconst 0, 12, 0, 0, 0, m_y0, .int 0),
  (12, .bipush 54, 14, 0, 0, 0, m_y0, .int 54),
  (14, .invokestatic 87, 17, 3, 0, 298, y_C_within, .null),
  (17, .ifCond .ne 5, 20, 22, 0, 0, m_y0, .null),
  (20, .iconst (-1), 21, 0, 0, 0, m_y0, .int (-1)),
  (21, .ireturn, 22, 0, 0, 0, m_y0, .null),
  (22, .bipush 63, 24, 0, 0, 0, m_y0, .int 63),
  (24, .aload_n 3, 25, 3, 0, 0, m_y0, .null),
  (25, .getfield 228, 28, 3, 2, 316, m_y0, .null),
  (28, .iconst (-1), 29, 0, 0, 0, m_y0, .int (-1)),
  (29, .ixor, 30, 0, 0, 0, m_y0, .null),
  (30, .iand, 31, 0, 0, 0, m_y0, .null),
  (31, .istore 4, 33, 4, 0, 0, m_y0, .null),
  (33, .aload_n 0, 34, 0, 0, 0, m_y0, .null),
  (34, .getfield 35, 37, 8, 3, 254, m_y0, .null),
  (37, .aload_n 3, 38, 3, 0, 0, m_y0, .null),
  (38, .aload_n 3, 39, 3, 0, 0, m_y0, .null),
  (39, .getfield 228, 42, 3, 2, 316, m_y0, .null),
  (42, .aload_n 3, 43, 3, 0, 0, m_y0, .null),
  (43, .getfield 244, 46, 3, 3, 319, m_y0, .null),
  (46, .iload 4, 48, 4, 0, 0, m_y0, .null),
  (48, .invokevirtual 247, 51, 5, 0, 630, y_S_fillWays, .null),
  (51, .lstore 5, 53, 5, 0, 0, m_y0, .null),
  (53, .lload 5, 55, 5, 0, 0, m_y0, .null),
  (55, .lconst 0, 56, 0, 0, 0, m_y0, .long 0),
  (56, .lcmp, 57, 0, 0, 0, m_y0, .null),
  (57, .ifCond .ne 8, 60, 65, 0, 0, m_y0, .null),
  (60, .bipush (-2), 62, 0, 0, 0, m_y0, .int (-2)),
  (62, .goto 12, 65, 74, 0, 0, m_y0, .null),
  (65, .aload_n 0, 66, 0, 0, 0, m_y0, .null),
  (66, .iload 4, 68, 4, 0, 0, m_y0, .null),
  (68, .iload_n 2, 69, 2, 0, 0, m_y0, .null),
  (69, .lload 5, 71, 5, 0, 0, m_y0, .null),
  (71, .invokevirtual 255, 74, 4, 0, 654, y_C_bestPlan, .null),
  (74, .ireturn, 75, 0, 0, 0, m_y0, .null)])
set_option maxRecDepth 100000 in
theorem k1_C_plan : MOk1 M_C_plan := m_ok1_of (by decide +kernel)
set_option maxRecDepth 100000 in
theorem k2_C_plan : MOk2 M_C_plan := m_ok2_spec (p0 := 653) (p1 := 69) (p2 := 651) (p3 := 652) (by decide +kernel)
def M_C_believed : MD := (y_C_believed, prog_1_method_19_code, 4, (some .int), (1, 2, 8), [
  (0, .aload_n 0, 1, 0, 0, 0, m_y0, .null),
  (1, .iload_n 1, 2, 1, 0, 0, m_y0, .null),
  (2, .invokevirtual 117, 5, 2, 0, 397, y_C_pieceAt, .null),
  (5, .astore_n 3, 6, 3, 0, 0, m_y0, .null),
  (6, .aload_n 3, 7, 3, 0, 0, m_y0, .null),
  (7, .ifnull 10, 10, 17, 0, 0, m_y0, .null),
  (10, .iload_n 2, 11, 2, 0, 0, m_y0, .null),
  (11, .invokestatic 241, 14, 1, 0, 627, y_C_isSet, .null),
  (14, .ifCond .ne 5, 17, 19, 0, 0, m_y0, .null),
  (17, .iconst (-1), 18, 0, 0, 0, m_y0, .int (-1)),
  (18, .ireturn, 19, 0, 0, 0, m_y0, .null),
  (19, .aload_n 0, 20, 0, 0, 0, m_y0, .null),
  (20, .aload_n 3, 21, 3, 0, 0, m_y0, .null),
  (21, .iload_n 2, 22, 2, 0, 0, m_y0, .null),
  (22, .invokevirtual 259, 25, 3, 0, 667, y_C_beliefInMade, .null),
  (25, .ireturn, 26, 0, 0, 0, m_y0, .null)])
set_option maxRecDepth 100000 in
theorem k1_C_believed : MOk1 M_C_believed := m_ok1_of (by decide +kernel)
set_option maxRecDepth 100000 in
theorem k2_C_believed : MOk2 M_C_believed := m_ok2_spec (p0 := 666) (p1 := 69) (p2 := 664) (p3 := 665) (by decide +kernel)
def M_C_cheapest_0 : List (Nat × ME) := [
  (0, .aload_n 0, 1, 0, 0, 0, m_y0, .null),
  (1, .iload_n 1, 2, 1, 0, 0, m_y0, .null),
  (2, .invokevirtual 117, 5, 2, 0, 397, y_C_pieceAt, .null),
  (5, .astore 4, 7, 4, 0, 0, m_y0, .null),
  (7, .aload 4, 9, 4, 0, 0, m_y0, .null),
  (9, .ifnull 22, 12, 31, 0, 0, m_y0, .null),
  (12, .iload_n 2, 13, 2, 0, 0, m_y0, .null),
  (13, .iconst 0, 14, 0, 0, 0, m_y0, .int 0),
  (14, .bipush 100, 16, 0, 0, 0, m_y0, .int 100),
  (16, .invokestatic 87, 19, 3, 0, 298, y_C_within, .null),
  (19, .ifCond .eq 12, 22, 31, 0, 0, m_y0, .null),
  (22, .iload_n 3, 23, 3, 0, 0, m_y0, .null),
  (23, .iconst 0, 24, 0, 0, 0, m_y0, .int 0),
  (24, .iconst 1, 25, 0, 0, 0, m_y0, .int 1),
  (25, .invokestatic 87, 28, 3, 0, 298, y_C_within, .null),
  (28, .ifCond .ne 5, 31, 33, 0, 0, m_y0, .null),
  (31, .iconst (-1), 32, 0, 0, 0, m_y0, .int (-1)),
  (32, .ireturn, 33, 0, 0, 0, m_y0, .null),
  (33, .aload_n 0, 34, 0, 0, 0, m_y0, .null),
  (34, .getfield 35, 37, 8, 3, 254, m_y0, .null),
  (37, .aload 4, 39, 4, 0, 0, m_y0, .null),
  (39, .iconst 0, 40, 0, 0, 0, m_y0, .int 0),
  (40, .iconst 0, 41, 0, 0, 0, m_y0, .int 0),
  (41, .bipush 63, 43, 0, 0, 0, m_y0, .int 63),
  (43, .invokevirtual 247, 46, 5, 0, 630, y_S_fillWays, .null),
  (46, .pop2, 47, 0, 0, 0, m_y0, .null),
  (47, .bipush (-2), 49, 0, 0, 0, m_y0, .int (-2)),
  (49, .istore 5, 51, 5, 0, 0, m_y0, .null),
  (51, .bipush (-2), 53, 0, 0, 0, m_y0, .int (-2)),
  (53, .istore 6, 55, 6, 0, 0, m_y0, .null),
  (55, .iconst 0, 56, 0, 0, 0, m_y0, .int 0),
  (56, .istore 7, 58, 7, 0, 0, m_y0, .null),
  (58, .iload 7, 60, 7, 0, 0, m_y0, .null),
  (60, .bipush 64, 62, 0, 0, 0, m_y0, .int 64),
  (62, .if_icmp .ge 64, 65, 126, 0, 0, m_y0, .null),
  (65, .aload_n 0, 66, 0, 0, 0, m_y0, .null),
  (66, .getfield 10, 69, 8, 0, 251, m_y0, .null),
  (69, .iconst 3, 70, 0, 0, 0, m_y0, .int 3),
  (70, .iload 7, 72, 7, 0, 0, m_y0, .null),
  (72, .invokevirtual 262, 75, 3, 0, 658, y_T_sumOver, .null),
  (75, .istore 8, 77, 8, 0, 0, m_y0, .null),
  (77, .iload 5, 79, 5, 0, 0, m_y0, .null),
  (79, .bipush (-2), 81, 0, 0, 0, m_y0, .int (-2)),
  (81, .if_icmp .eq 10, 84, 91, 0, 0, m_y0, .null),
  (84, .iload 8, 86, 8, 0, 0, m_y0, .null),
  (86, .iload 6, 88, 6, 0, 0, m_y0, .null),
  (88, .if_icmp .ge 32, 91, 120, 0, 0, m_y0, .null),
  (91, .aload_n 0, 92, 0, 0, 0, m_y0, .null),
  (92, .getfield 35, 95, 8, 3, 254, m_y0, .null),
  (95, .iconst 0, 96, 0, 0, 0, m_y0, .int 0)]
def M_C_cheapest_1 : List (Nat × ME) := [
  (96, .aload_n 0, 97, 0, 0, 0, m_y0, .null),
  (97, .getfield 35, 100, 8, 3, 254, m_y0, .null),
  (100, .iload 7, 102, 7, 0, 0, m_y0, .null),
  (102, .invokevirtual 265, 105, 2, 0, 677, y_S_takeWay, .null),
  (105, .invokevirtual 269, 108, 3, 0, 672, y_S_percentOf, .null),
  (108, .iload_n 2, 109, 2, 0, 0, m_y0, .null),
  (109, .if_icmp .lt 11, 112, 120, 0, 0, m_y0, .null),
  (112, .iload 7, 114, 7, 0, 0, m_y0, .null),
  (114, .istore 5, 116, 5, 0, 0, m_y0, .null),
  (116, .iload 8, 118, 8, 0, 0, m_y0, .null),
  (118, .istore 6, 120, 6, 0, 0, m_y0, .null),
  (120, .iinc 7 1, 123, 7, 0, 0, m_y0, .int 1),
  (123, .goto (-65), 126, 58, 0, 0, m_y0, .null),
  (126, .iload_n 3, 127, 3, 0, 0, m_y0, .null),
  (127, .ifCond .ne 8, 130, 135, 0, 0, m_y0, .null),
  (130, .iload 5, 132, 5, 0, 0, m_y0, .null),
  (132, .goto 5, 135, 137, 0, 0, m_y0, .null),
  (135, .iload 6, 137, 6, 0, 0, m_y0, .null),
  (137, .ireturn, 138, 0, 0, 0, m_y0, .null)]
def M_C_cheapest : MD := (y_C_cheapest, prog_1_method_20_code, 9, (some .int), (1, 3, 8), M_C_cheapest_0 ++ (M_C_cheapest_1))
set_option maxRecDepth 100000 in
theorem k1_C_cheapest_0 : M_C_cheapest_0.all (m_eok y_C_cheapest prog_1_method_20_code 9) = true := by decide +kernel
set_option maxRecDepth 100000 in
theorem k1_C_cheapest_1 : M_C_cheapest_1.all (m_eok y_C_cheapest prog_1_method_20_code 9) = true := by decide +kernel
theorem k1_C_cheapest : MOk1 M_C_cheapest := m_ok1_of (m_all_app k1_C_cheapest_0 k1_C_cheapest_1)
set_option maxRecDepth 100000 in
theorem k2_C_cheapest : MOk2 M_C_cheapest := m_ok2_spec (p0 := 676) (p1 := 69) (p2 := 674) (p3 := 675) (by decide +kernel)
def M_C_spoils : MD := (y_C_spoils, prog_1_method_21_code, 8, (some .int), (1, 2, 8), [
  (0, .aload_n 0, 1, 0, 0, 0, m_y0, .null),
  (1, .iload_n 1, 2, 1, 0, 0, m_y0, .null),
  (2, .invokevirtual 117, 5, 2, 0, 397, y_C_pieceAt, .null),
  (5, .astore_n 3, 6, 3, 0, 0, m_y0, .null),
  (6, .aload_n 3, 7, 3, 0, 0, m_y0, .null),
  (7, .ifnull 10, 10, 17, 0, 0, m_y0, .null),
  (10, .iload_n 2, 11, 2, 0, 0, m_y0, .null),
  (11, .invokestatic 241, 14, 1, 0, 627, y_C_isSet, .null),
  (14, .ifCond .ne 5, 17, 19, 0, 0, m_y0, .null),
  (17, .iconst (-1), 18, 0, 0, 0, m_y0, .int (-1)),
  (18, .ireturn, 19, 0, 0, 0, m_y0, .null),
  (19, .bipush (-2), 21, 0, 0, 0, m_y0, .int (-2)),
  (21, .istore 4, 23, 4, 0, 0, m_y0, .null),
  (23, .iconst 0, 24, 0, 0, 0, m_y0, .int 0),
  (24, .istore 5, 26, 5, 0, 0, m_y0, .null),
  (26, .iconst 0, 27, 0, 0, 0, m_y0, .int 0),
  (27, .istore 6, 29, 6, 0, 0, m_y0, .null),
  (29, .iload 6, 31, 6, 0, 0, m_y0, .null),
  (31, .bipush 6, 33, 0, 0, 0, m_y0, .int 6),
  (33, .if_icmp .ge 55, 36, 88, 0, 0, m_y0, .null),
  (36, .iload_n 2, 37, 2, 0, 0, m_y0, .null),
  (37, .iload 6, 39, 6, 0, 0, m_y0, .null),
  (39, .invokestatic 231, 42, 2, 0, 615, y_C_hasBit, .null),
  (42, .ifCond .eq 40, 45, 82, 0, 0, m_y0, .null),
  (45, .aload_n 0, 46, 0, 0, 0, m_y0, .null),
  (46, .aload_n 3, 47, 3, 0, 0, m_y0, .null),
  (47, .iload_n 2, 48, 2, 0, 0, m_y0, .null),
  (48, .iconst 1, 49, 0, 0, 0, m_y0, .int 1),
  (49, .iload 6, 51, 6, 0, 0, m_y0, .null),
  (51, .ishl, 52, 0, 0, 0, m_y0, .null),
  (52, .iconst (-1), 53, 0, 0, 0, m_y0, .int (-1)),
  (53, .ixor, 54, 0, 0, 0, m_y0, .null),
  (54, .iand, 55, 0, 0, 0, m_y0, .null),
  (55, .invokevirtual 259, 58, 3, 0, 667, y_C_beliefInMade, .null),
  (58, .istore 7, 60, 7, 0, 0, m_y0, .null),
  (60, .iload 4, 62, 4, 0, 0, m_y0, .null),
  (62, .bipush (-2), 64, 0, 0, 0, m_y0, .int (-2)),
  (64, .if_icmp .eq 10, 67, 74, 0, 0, m_y0, .null),
  (67, .iload 7, 69, 7, 0, 0, m_y0, .null),
  (69, .iload 5, 71, 5, 0, 0, m_y0, .null),
  (71, .if_icmp .ge 11, 74, 82, 0, 0, m_y0, .null),
  (74, .iload 6, 76, 6, 0, 0, m_y0, .null),
  (76, .istore 4, 78, 4, 0, 0, m_y0, .null),
  (78, .iload 7, 80, 7, 0, 0, m_y0, .null),
  (80, .istore 5, 82, 5, 0, 0, m_y0, .null),
  (82, .iinc 6 1, 85, 6, 0, 0, m_y0, .int 1),
  (85, .goto (-56), 88, 29, 0, 0, m_y0, .null),
  (88, .iload 4, 90, 4, 0, 0, m_y0, .null),
  (90, .ireturn, 91, 0, 0, 0, m_y0, .null)])
set_option maxRecDepth 100000 in
theorem k1_C_spoils : MOk1 M_C_spoils := m_ok1_of (by decide +kernel)
set_option maxRecDepth 100000 in
theorem k2_C_spoils : MOk2 M_C_spoils := m_ok2_spec (p0 := 685) (p1 := 69) (p2 := 683) (p3 := 684) (by decide +kernel)
def M_C_price : MD := (y_C_price, prog_1_method_22_code, 4, (some .int), (1, 1, 8), [
  (0, .iload_n 1, 1, 1, 0, 0, m_y0, .null),
  (1, .iconst (-1), 2, 0, 0, 0, m_y0, .int (-1)),
  (2, .if_icmp .eq 23, 5, 25, 0, 0, m_y0, .null),
  (5, .aload_n 0, 6, 0, 0, 0, m_y0, .null),
  (6, .iload_n 1, 7, 1, 0, 0, m_y0, .null),
  (7, .invokevirtual 117, 10, 2, 0, 397, y_C_pieceAt, .null),
  (10, .astore_n 2, 11, 2, 0, 0, m_y0, .null),
  (11, .aload_n 2, 12, 2, 0, 0, m_y0, .null),
  (12, .ifnonnull 7, 15, 19, 0, 0, m_y0, .null),
  (15, .iconst (-1), 16, 0, 0, 0, m_y0, .int (-1)),
  (16, .goto 8, 19, 24, 0, 0, m_y0, .null),
  (19, .aload_n 0, 20, 0, 0, 0, m_y0, .null),
  (20, .aload_n 2, 21, 2, 0, 0, m_y0, .null),
  (21, .invokevirtual 272, 24, 2, 0, 690, y_C_worthOf, .null),
  (24, .ireturn, 25, 0, 0, 0, m_y0, .null),
  (25, .iconst 0, 26, 0, 0, 0, m_y0, .int 0),
  (26, .istore_n 2, 27, 2, 0, 0, m_y0, .null),
  (27, .iconst 0, 28, 0, 0, 0, m_y0, .int 0),
  (28, .istore_n 3, 29, 3, 0, 0, m_y0, .null),
  (29, .iload_n 3, 30, 3, 0, 0, m_y0, .null),
  (30, .aload_n 0, 31, 0, 0, 0, m_y0, .null),
  (31, .getfield 66, 34, 8, 8, 259, m_y0, .null),
  (34, .if_icmp .ge 21, 37, 55, 0, 0, m_y0, .null),
  (37, .iload_n 2, 38, 2, 0, 0, m_y0, .null),
  (38, .aload_n 0, 39, 0, 0, 0, m_y0, .null),
  (39, .aload_n 0, 40, 0, 0, 0, m_y0, .null),
  (40, .iload_n 3, 41, 3, 0, 0, m_y0, .null),
  (41, .invokevirtual 117, 44, 2, 0, 397, y_C_pieceAt, .null),
  (44, .invokevirtual 272, 47, 2, 0, 690, y_C_worthOf, .null),
  (47, .iadd, 48, 0, 0, 0, m_y0, .null),
  (48, .istore_n 2, 49, 2, 0, 0, m_y0, .null),
  (49, .iinc 3 1, 52, 3, 0, 0, m_y0, .int 1),
  (52, .goto (-23), 55, 29, 0, 0, m_y0, .null),
  (55, .iload_n 2, 56, 2, 0, 0, m_y0, .null),
  (56, .ireturn, 57, 0, 0, 0, m_y0, .null)])
set_option maxRecDepth 100000 in
theorem k1_C_price : MOk1 M_C_price := m_ok1_of (by decide +kernel)
set_option maxRecDepth 100000 in
theorem k2_C_price : MOk2 M_C_price := m_ok2_spec (p0 := 689) (p1 := 69) (p2 := 687) (p3 := 688) (by decide +kernel)
def M_C_paper : MD := (y_C_paper, prog_1_method_23_code, 5, (some .int), (1, 2, 8), [
  (0, .iload_n 1, 1, 1, 0, 0, m_y0, .null),
  (1, .bipush 100, 3, 0, 0, 0, m_y0, .int 100),
  (3, .idiv, 4, 0, 0, 0, m_y0, .null),
  (4, .istore_n 3, 5, 3, 0, 0, m_y0, .null),
  (5, .iload_n 1, 6, 1, 0, 0, m_y0, .null),
  (6, .bipush 100, 8, 0, 0, 0, m_y0, .int 100),
  (8, .irem, 9, 0, 0, 0, m_y0, .null),
  (9, .istore 4, 11, 4, 0, 0, m_y0, .null),
  (11, .iload_n 3, 12, 3, 0, 0, m_y0, .null),
  (12, .invokestatic 167, 15, 1, 0, 491, y_C_isTime, .null),
  (15, .ifCond .eq 27, 18, 42, 0, 0, m_y0, .null),
  (18, .iload 4, 20, 4, 0, 0, m_y0, .null),
  (20, .invokestatic 167, 23, 1, 0, 491, y_C_isTime, .null),
  (23, .ifCond .eq 19, 26, 42, 0, 0, m_y0, .null),
  (26, .iload_n 3, 27, 3, 0, 0, m_y0, .null),
  (27, .iload 4, 29, 4, 0, 0, m_y0, .null),
  (29, .if_icmp .gt 13, 32, 42, 0, 0, m_y0, .null),
  (32, .iload_n 2, 33, 2, 0, 0, m_y0, .null),
  (33, .iconst 0, 34, 0, 0, 0, m_y0, .int 0),
  (34, .bipush 9, 36, 0, 0, 0, m_y0, .int 9),
  (36, .invokestatic 87, 39, 3, 0, 298, y_C_within, .null),
  (39, .ifCond .ne 5, 42, 44, 0, 0, m_y0, .null),
  (42, .iconst (-1), 43, 0, 0, 0, m_y0, .int (-1)),
  (43, .ireturn, 44, 0, 0, 0, m_y0, .null),
  (44, .aload_n 0, 45, 0, 0, 0, m_y0, .null),
  (45, .getfield 42, 48, 8, 4, 255, m_y0, .null),
  (48, .iload_n 3, 49, 3, 0, 0, m_y0, .null),
  (49, .iload 4, 51, 4, 0, 0, m_y0, .null),
  (51, .iload_n 2, 52, 2, 0, 0, m_y0, .null),
  (52, .invokevirtual 275, 55, 4, 0, 698, y_P_add, .null),
  (55, .ireturn, 56, 0, 0, 0, m_y0, .null)])
set_option maxRecDepth 100000 in
theorem k1_C_paper : MOk1 M_C_paper := m_ok1_of (by decide +kernel)
set_option maxRecDepth 100000 in
theorem k2_C_paper : MOk2 M_C_paper := m_ok2_spec (p0 := 697) (p1 := 69) (p2 := 695) (p3 := 696) (by decide +kernel)
def M_C_papers : MD := (y_C_papers, prog_1_method_24_code, 2, (some .int), (1, 1, 8), [
  (0, .iload_n 1, 1, 1, 0, 0, m_y0, .null),
  (1, .iconst 0, 2, 0, 0, 0, m_y0, .int 0),
  (2, .iconst 1, 3, 0, 0, 0, m_y0, .int 1),
  (3, .invokestatic 87, 6, 3, 0, 298, y_C_within, .null),
  (6, .ifCond .ne 5, 9, 11, 0, 0, m_y0, .null),
  (9, .iconst (-1), 10, 0, 0, 0, m_y0, .int (-1)),
  (10, .ireturn, 11, 0, 0, 0, m_y0, .null),
  (11, .iload_n 1, 12, 1, 0, 0, m_y0, .null),
  (12, .ifCond .ne 13, 15, 25, 0, 0, m_y0, .null),
  (15, .aload_n 0, 16, 0, 0, 0, m_y0, .null),
  (16, .getfield 42, 19, 8, 4, 255, m_y0, .null),
  (19, .invokevirtual 278, 22, 1, 0, 706, y_P_firstClash, .null),
  (22, .goto 10, 25, 32, 0, 0, m_y0, .null),
  (25, .aload_n 0, 26, 0, 0, 0, m_y0, .null),
  (26, .getfield 42, 29, 8, 4, 255, m_y0, .null),
  (29, .invokevirtual 281, 32, 1, 0, 710, y_P_gaps, .null),
  (32, .ireturn, 33, 0, 0, 0, m_y0, .null)])
set_option maxRecDepth 100000 in
theorem k1_C_papers : MOk1 M_C_papers := m_ok1_of (by decide +kernel)
set_option maxRecDepth 100000 in
theorem k2_C_papers : MOk2 M_C_papers := m_ok2_spec (p0 := 705) (p1 := 69) (p2 := 703) (p3 := 704) (by decide +kernel)
def M_C_house : MD := (y_C_house, prog_1_method_25_code, 2, (some .int), (1, 1, 8), [
  (0, .iload_n 1, 1, 1, 0, 0, m_y0, .null),
  (1, .invokestatic 167, 4, 1, 0, 491, y_C_isTime, .null),
  (4, .ifCond .eq 14, 7, 18, 0, 0, m_y0, .null),
  (7, .aload_n 0, 8, 0, 0, 0, m_y0, .null),
  (8, .getfield 42, 11, 8, 4, 255, m_y0, .null),
  (11, .iload_n 1, 12, 1, 0, 0, m_y0, .null),
  (12, .invokevirtual 284, 15, 2, 0, 722, y_P_houseAt, .null),
  (15, .goto 4, 18, 19, 0, 0, m_y0, .null),
  (18, .iconst (-1), 19, 0, 0, 0, m_y0, .int (-1)),
  (19, .ireturn, 20, 0, 0, 0, m_y0, .null)])
set_option maxRecDepth 100000 in
theorem k1_C_house : MOk1 M_C_house := m_ok1_of (by decide +kernel)
set_option maxRecDepth 100000 in
theorem k2_C_house : MOk2 M_C_house := m_ok2_spec (p0 := 721) (p1 := 69) (p2 := 719) (p3 := 720) (by decide +kernel)
def M_C_drawn_0 : List (Nat × ME) := [
  (0, .aload_n 0, 1, 0, 0, 0, m_y0, .null),
  (1, .iload_n 3, 2, 3, 0, 0, m_y0, .null),
  (2, .sipush 1000, 5, 0, 0, 0, m_y0, .int 1000),
  (5, .idiv, 6, 0, 0, 0, m_y0, .null),
  (6, .invokevirtual 117, 9, 2, 0, 397, y_C_pieceAt, .null),
  (9, .astore 4, 11, 4, 0, 0, m_y0, .null),
  (11, .iload_n 3, 12, 3, 0, 0, m_y0, .null),
  (12, .bipush 100, 14, 0, 0, 0, m_y0, .int 100),
  (14, .idiv, 15, 0, 0, 0, m_y0, .null),
  (15, .bipush 10, 17, 0, 0, 0, m_y0, .int 10),
  (17, .irem, 18, 0, 0, 0, m_y0, .null),
  (18, .istore 5, 20, 5, 0, 0, m_y0, .null),
  (20, .iload_n 3, 21, 3, 0, 0, m_y0, .null),
  (21, .bipush 100, 23, 0, 0, 0, m_y0, .int 100),
  (23, .irem, 24, 0, 0, 0, m_y0, .null),
  (24, .istore 6, 26, 6, 0, 0, m_y0, .null),
  (26, .aload 4, 28, 4, 0, 0, m_y0, .null),
  (28, .ifnull 29, 31, 57, 0, 0, m_y0, .null),
  (31, .iload 5, 33, 5, 0, 0, m_y0, .null),
  (33, .invokestatic 164, 36, 1, 0, 488, y_C_isKind, .null),
  (36, .ifCond .eq 21, 39, 57, 0, 0, m_y0, .null),
  (39, .iload 6, 41, 6, 0, 0, m_y0, .null),
  (41, .invokestatic 167, 44, 1, 0, 491, y_C_isTime, .null),
  (44, .ifCond .eq 13, 47, 57, 0, 0, m_y0, .null),
  (47, .iload_n 2, 48, 2, 0, 0, m_y0, .null),
  (48, .iconst 1, 49, 0, 0, 0, m_y0, .int 1),
  (49, .bipush 30, 51, 0, 0, 0, m_y0, .int 30),
  (51, .invokestatic 87, 54, 3, 0, 298, y_C_within, .null),
  (54, .ifCond .ne 5, 57, 59, 0, 0, m_y0, .null),
  (57, .iconst (-1), 58, 0, 0, 0, m_y0, .int (-1)),
  (58, .ireturn, 59, 0, 0, 0, m_y0, .null),
  (59, .aload_n 0, 60, 0, 0, 0, m_y0, .null),
  (60, .getfield 35, 63, 8, 3, 254, m_y0, .null),
  (63, .aload 4, 65, 4, 0, 0, m_y0, .null),
  (65, .iconst 0, 66, 0, 0, 0, m_y0, .int 0),
  (66, .iconst 0, 67, 0, 0, 0, m_y0, .int 0),
  (67, .bipush 63, 69, 0, 0, 0, m_y0, .int 63),
  (69, .invokevirtual 247, 72, 5, 0, 630, y_S_fillWays, .null),
  (72, .pop2, 73, 0, 0, 0, m_y0, .null),
  (73, .iload_n 1, 74, 1, 0, 0, m_y0, .null),
  (74, .istore 7, 76, 7, 0, 0, m_y0, .null),
  (76, .iconst 0, 77, 0, 0, 0, m_y0, .int 0),
  (77, .istore 8, 79, 8, 0, 0, m_y0, .null),
  (79, .iconst 0, 80, 0, 0, 0, m_y0, .int 0),
  (80, .istore 9, 82, 9, 0, 0, m_y0, .null),
  (82, .iload 9, 84, 9, 0, 0, m_y0, .null),
  (84, .iload_n 2, 85, 2, 0, 0, m_y0, .null),
  (85, .if_icmp .ge 103, 88, 188, 0, 0, m_y0, .null),
  (88, .iconst 0, 89, 0, 0, 0, m_y0, .int 0),
  (89, .istore 10, 91, 10, 0, 0, m_y0, .null)]
def M_C_drawn_1 : List (Nat × ME) := [
  (91, .iconst 0, 92, 0, 0, 0, m_y0, .int 0),
  (92, .istore 11, 94, 11, 0, 0, m_y0, .null),
  (94, .iload 11, 96, 11, 0, 0, m_y0, .null),
  (96, .bipush 6, 98, 0, 0, 0, m_y0, .int 6),
  (98, .if_icmp .ge 52, 101, 150, 0, 0, m_y0, .null),
  (101, .iload 7, 103, 7, 0, 0, m_y0, .null),
  (103, .ldc_w 287, 106, 0, 0, 727, m_y0, .int 1103515245),
  (106, .imul, 107, 0, 0, 0, m_y0, .null),
  (107, .sipush 12345, 110, 0, 0, 0, m_y0, .int 12345),
  (110, .iadd, 111, 0, 0, 0, m_y0, .null),
  (111, .istore 7, 113, 7, 0, 0, m_y0, .null),
  (113, .iload 7, 115, 7, 0, 0, m_y0, .null),
  (115, .bipush 8, 117, 0, 0, 0, m_y0, .int 8),
  (117, .iushr, 118, 0, 0, 0, m_y0, .null),
  (118, .bipush 100, 120, 0, 0, 0, m_y0, .int 100),
  (120, .irem, 121, 0, 0, 0, m_y0, .null),
  (121, .aload 4, 123, 4, 0, 0, m_y0, .null),
  (123, .iload 11, 125, 11, 0, 0, m_y0, .null),
  (125, .iload 5, 127, 5, 0, 0, m_y0, .null),
  (127, .iload 6, 129, 6, 0, 0, m_y0, .null),
  (129, .invokevirtual 174, 132, 4, 0, 513, y_I_numberAt, .null),
  (132, .if_icmp .ge 12, 135, 144, 0, 0, m_y0, .null),
  (135, .iload 10, 137, 10, 0, 0, m_y0, .null),
  (137, .iconst 1, 138, 0, 0, 0, m_y0, .int 1),
  (138, .iload 11, 140, 11, 0, 0, m_y0, .null),
  (140, .ishl, 141, 0, 0, 0, m_y0, .null),
  (141, .ior, 142, 0, 0, 0, m_y0, .null),
  (142, .istore 10, 144, 10, 0, 0, m_y0, .null),
  (144, .iinc 11 1, 147, 11, 0, 0, m_y0, .int 1),
  (147, .goto (-53), 150, 94, 0, 0, m_y0, .null),
  (150, .aload_n 0, 151, 0, 0, 0, m_y0, .null),
  (151, .getfield 35, 154, 8, 3, 254, m_y0, .null),
  (154, .iload 10, 156, 10, 0, 0, m_y0, .null),
  (156, .invokevirtual 265, 159, 2, 0, 677, y_S_takeWay, .null),
  (159, .pop2, 160, 0, 0, 0, m_y0, .null),
  (160, .iload 8, 162, 8, 0, 0, m_y0, .null),
  (162, .aload_n 0, 163, 0, 0, 0, m_y0, .null),
  (163, .getfield 35, 166, 8, 3, 254, m_y0, .null),
  (166, .invokevirtual 197, 169, 1, 0, 560, y_S_greatestKind, .null),
  (169, .iload 5, 171, 5, 0, 0, m_y0, .null),
  (171, .if_icmp .ne 7, 174, 178, 0, 0, m_y0, .null),
  (174, .iconst 1, 175, 0, 0, 0, m_y0, .int 1),
  (175, .goto 4, 178, 179, 0, 0, m_y0, .null),
  (178, .iconst 0, 179, 0, 0, 0, m_y0, .int 0),
  (179, .iadd, 180, 0, 0, 0, m_y0, .null),
  (180, .istore 8, 182, 8, 0, 0, m_y0, .null),
  (182, .iinc 9 1, 185, 9, 0, 0, m_y0, .int 1),
  (185, .goto (-103), 188, 82, 0, 0, m_y0, .null),
  (188, .iload 8, 190, 8, 0, 0, m_y0, .null),
  (190, .ireturn, 191, 0, 0, 0, m_y0, .null)]
def M_C_drawn : MD := (y_C_drawn, prog_1_method_26_code, 12, (some .int), (1, 3, 8), M_C_drawn_0 ++ (M_C_drawn_1))
set_option maxRecDepth 100000 in
theorem k1_C_drawn_0 : M_C_drawn_0.all (m_eok y_C_drawn prog_1_method_26_code 12) = true := by decide +kernel
set_option maxRecDepth 100000 in
theorem k1_C_drawn_1 : M_C_drawn_1.all (m_eok y_C_drawn prog_1_method_26_code 12) = true := by decide +kernel
theorem k1_C_drawn : MOk1 M_C_drawn := m_ok1_of (m_all_app k1_C_drawn_0 k1_C_drawn_1)
set_option maxRecDepth 100000 in
theorem k2_C_drawn : MOk2 M_C_drawn := m_ok2_spec (p0 := 726) (p1 := 69) (p2 := 724) (p3 := 725) (by decide +kernel)
def M_C_image : MD := (y_C_image, prog_1_method_27_code, 3, (some .int), (1, 0, 8), [
  (0, .iconst 0, 1, 0, 0, 0, m_y0, .int 0),
  (1, .istore_n 1, 2, 1, 0, 0, m_y0, .null),
  (2, .iload_n 1, 3, 1, 0, 0, m_y0, .null),
  (3, .aload_n 0, 4, 0, 0, 0, m_y0, .null),
  (4, .getfield 66, 7, 8, 8, 259, m_y0, .null),
  (7, .if_icmp .ge 51, 10, 58, 0, 0, m_y0, .null),
  (10, .aload_n 0, 11, 0, 0, 0, m_y0, .null),
  (11, .iload_n 1, 12, 1, 0, 0, m_y0, .null),
  (12, .invokevirtual 117, 15, 2, 0, 397, y_C_pieceAt, .null),
  (15, .astore_n 2, 16, 2, 0, 0, m_y0, .null),
  (16, .aload_n 0, 17, 0, 0, 0, m_y0, .null),
  (17, .getfield 74, 20, 8, 10, 261, m_y0, .null),
  (20, .iload_n 1, 21, 1, 0, 0, m_y0, .null),
  (21, .aload_n 2, 22, 2, 0, 0, m_y0, .null),
  (22, .ifnonnull 7, 25, 29, 0, 0, m_y0, .null),
  (25, .iconst 0, 26, 0, 0, 0, m_y0, .int 0),
  (26, .goto 7, 29, 33, 0, 0, m_y0, .null),
  (29, .aload_n 2, 30, 2, 0, 0, m_y0, .null),
  (30, .getfield 228, 33, 3, 2, 316, m_y0, .null),
  (33, .iastore, 34, 0, 0, 0, m_y0, .null),
  (34, .aload_n 0, 35, 0, 0, 0, m_y0, .null),
  (35, .getfield 77, 38, 8, 11, 262, m_y0, .null),
  (38, .iload_n 1, 39, 1, 0, 0, m_y0, .null),
  (39, .aload_n 2, 40, 2, 0, 0, m_y0, .null),
  (40, .ifnonnull 7, 43, 47, 0, 0, m_y0, .null),
  (43, .iconst 0, 44, 0, 0, 0, m_y0, .int 0),
  (44, .goto 7, 47, 51, 0, 0, m_y0, .null),
  (47, .aload_n 2, 48, 2, 0, 0, m_y0, .null),
  (48, .getfield 244, 51, 3, 3, 319, m_y0, .null),
  (51, .iastore, 52, 0, 0, 0, m_y0, .null),
  (52, .iinc 1 1, 55, 1, 0, 0, m_y0, .int 1),
  (55, .goto (-53), 58, 2, 0, 0, m_y0, .null),
  (58, .aload_n 0, 59, 0, 0, 0, m_y0, .null),
  (59, .aload_n 0, 60, 0, 0, 0, m_y0, .null),
  (60, .getfield 66, 63, 8, 8, 259, m_y0, .null),
  (63, .putfield 80, 66, 8, 12, 263, m_y0, .int 0),
  (66, .aload_n 0, 67, 0, 0, 0, m_y0, .null),
  (67, .iconst 1, 68, 0, 0, 0, m_y0, .int 1),
  (68, .putfield 83, 71, 8, 13, 264, m_y0, .int 1),
  (71, .aload_n 0, 72, 0, 0, 0, m_y0, .null),
  (72, .getfield 66, 75, 8, 8, 259, m_y0, .null),
  (75, .ireturn, 76, 0, 0, 0, m_y0, .null)])
set_option maxRecDepth 100000 in
theorem k1_C_image : MOk1 M_C_image := m_ok1_of (by decide +kernel)
set_option maxRecDepth 100000 in
theorem k2_C_image : MOk2 M_C_image := m_ok2_spec (p0 := 731) (p1 := 69) (p2 := 729) (p3 := 730) (by decide +kernel)
def M_C_back : MD := (y_C_back, prog_1_method_28_code, 3, (some .int), (1, 0, 8), [
  (0, .aload_n 0, 1, 0, 0, 0, m_y0, .null),
  (1, .getfield 83, 4, 8, 13, 264, m_y0, .null),
  (4, .ifCond .ne 6, 7, 10, 0, 0, m_y0, .null),
  (7, .bipush (-5), 9, 0, 0, 0, m_y0, .int (-5)),
  (9, .ireturn, 10, 0, 0, 0, m_y0, .null),
  (10, .iconst 0, 11, 0, 0, 0, m_y0, .int 0),
  (11, .istore_n 1, 12, 1, 0, 0, m_y0, .null),
  (12, .iload_n 1, 13, 1, 0, 0, m_y0, .null),
  (13, .aload_n 0, 14, 0, 0, 0, m_y0, .null),
  (14, .getfield 66, 17, 8, 8, 259, m_y0, .null),
  (17, .if_icmp .ge 63, 20, 80, 0, 0, m_y0, .null),
  (20, .aload_n 0, 21, 0, 0, 0, m_y0, .null),
  (21, .iload_n 1, 22, 1, 0, 0, m_y0, .null),
  (22, .invokevirtual 117, 25, 2, 0, 397, y_C_pieceAt, .null),
  (25, .astore_n 2, 26, 2, 0, 0, m_y0, .null),
  (26, .aload_n 2, 27, 2, 0, 0, m_y0, .null),
  (27, .ifnull 47, 30, 74, 0, 0, m_y0, .null),
  (30, .aload_n 2, 31, 2, 0, 0, m_y0, .null),
  (31, .iload_n 1, 32, 1, 0, 0, m_y0, .null),
  (32, .aload_n 0, 33, 0, 0, 0, m_y0, .null),
  (33, .getfield 80, 36, 8, 12, 263, m_y0, .null),
  (36, .if_icmp .ge 12, 39, 48, 0, 0, m_y0, .null),
  (39, .aload_n 0, 40, 0, 0, 0, m_y0, .null),
  (40, .getfield 74, 43, 8, 10, 261, m_y0, .null),
  (43, .iload_n 1, 44, 1, 0, 0, m_y0, .null),
  (44, .iaload, 45, 0, 0, 0, m_y0, .null),
  (45, .goto 4, 48, 49, 0, 0, m_y0, .null),
  (48, .iconst 0, 49, 0, 0, 0, m_y0, .int 0),
  (49, .putfield 228, 52, 3, 2, 316, m_y0, .int 0),
  (52, .aload_n 2, 53, 2, 0, 0, m_y0, .null),
  (53, .iload_n 1, 54, 1, 0, 0, m_y0, .null),
  (54, .aload_n 0, 55, 0, 0, 0, m_y0, .null),
  (55, .getfield 80, 58, 8, 12, 263, m_y0, .null),
  (58, .if_icmp .ge 12, 61, 70, 0, 0, m_y0, .null),
  (61, .aload_n 0, 62, 0, 0, 0, m_y0, .null),
  (62, .getfield 77, 65, 8, 11, 262, m_y0, .null),
  (65, .iload_n 1, 66, 1, 0, 0, m_y0, .null),
  (66, .iaload, 67, 0, 0, 0, m_y0, .null),
  (67, .goto 4, 70, 71, 0, 0, m_y0, .null),
  (70, .iconst 0, 71, 0, 0, 0, m_y0, .int 0),
  (71, .putfield 244, 74, 3, 3, 319, m_y0, .int 0),
  (74, .iinc 1 1, 77, 1, 0, 0, m_y0, .int 1),
  (77, .goto (-65), 80, 12, 0, 0, m_y0, .null),
  (80, .aload_n 0, 81, 0, 0, 0, m_y0, .null),
  (81, .getfield 66, 84, 8, 8, 259, m_y0, .null),
  (84, .ireturn, 85, 0, 0, 0, m_y0, .null)])
set_option maxRecDepth 100000 in
theorem k1_C_back : MOk1 M_C_back := m_ok1_of (by decide +kernel)
set_option maxRecDepth 100000 in
theorem k2_C_back : MOk2 M_C_back := m_ok2_spec (p0 := 735) (p1 := 69) (p2 := 733) (p3 := 734) (by decide +kernel)
def M_C_undo : MD := (y_C_undo, prog_1_method_29_code, 1, (some .int), (1, 0, 8), [
  (0, .aload_n 0, 1, 0, 0, 0, m_y0, .null),
  (1, .getfield 10, 4, 8, 0, 251, m_y0, .null),
  (4, .invokevirtual 288, 7, 1, 0, 740, y_T_stepBack, .null),
  (7, .ireturn, 8, 0, 0, 0, m_y0, .null)])
set_option maxRecDepth 100000 in
theorem k1_C_undo : MOk1 M_C_undo := m_ok1_of (by decide +kernel)
set_option maxRecDepth 100000 in
theorem k2_C_undo : MOk2 M_C_undo := m_ok2_spec (p0 := 739) (p1 := 69) (p2 := 737) (p3 := 738) (by decide +kernel)
def M_C_redo : MD := (y_C_redo, prog_1_method_30_code, 1, (some .int), (1, 0, 8), [
  (0, .aload_n 0, 1, 0, 0, 0, m_y0, .null),
  (1, .getfield 10, 4, 8, 0, 251, m_y0, .null),
  (4, .invokevirtual 291, 7, 1, 0, 748, y_T_stepAgain, .null),
  (7, .ireturn, 8, 0, 0, 0, m_y0, .null)])
set_option maxRecDepth 100000 in
theorem k1_C_redo : MOk1 M_C_redo := m_ok1_of (by decide +kernel)
set_option maxRecDepth 100000 in
theorem k2_C_redo : MOk2 M_C_redo := m_ok2_spec (p0 := 747) (p1 := 69) (p2 := 745) (p3 := 746) (by decide +kernel)
def M_C_body : MD := (y_C_body, prog_1_method_31_code, 2, (some .int), (1, 1, 8), [
  (0, .iload_n 1, 1, 1, 0, 0, m_y0, .null),
  (1, .invokestatic 294, 4, 1, 0, 756, y_B_isBodyKind, .null),
  (4, .ifCond .eq 14, 7, 18, 0, 0, m_y0, .null),
  (7, .aload_n 0, 8, 0, 0, 0, m_y0, .null),
  (8, .getfield 49, 11, 8, 5, 256, m_y0, .null),
  (11, .iload_n 1, 12, 1, 0, 0, m_y0, .null),
  (12, .invokevirtual 297, 15, 2, 0, 760, y_B_add, .null),
  (15, .goto 4, 18, 19, 0, 0, m_y0, .null),
  (18, .iconst (-1), 19, 0, 0, 0, m_y0, .int (-1)),
  (19, .ireturn, 20, 0, 0, 0, m_y0, .null)])
set_option maxRecDepth 100000 in
theorem k1_C_body : MOk1 M_C_body := m_ok1_of (by decide +kernel)
set_option maxRecDepth 100000 in
theorem k2_C_body : MOk2 M_C_body := m_ok2_spec (p0 := 755) (p1 := 69) (p2 := 753) (p3 := 754) (by decide +kernel)
def M_C_act : MD := (y_C_act, prog_1_method_32_code, 4, (some .int), (1, 3, 8), [
  (0, .aload_n 0, 1, 0, 0, 0, m_y0, .null),
  (1, .getfield 49, 4, 8, 5, 256, m_y0, .null),
  (4, .iload_n 1, 5, 1, 0, 0, m_y0, .null),
  (5, .iload_n 2, 6, 2, 0, 0, m_y0, .null),
  (6, .iload_n 3, 7, 3, 0, 0, m_y0, .null),
  (7, .invokevirtual 299, 10, 4, 0, 768, y_B_perform, .null),
  (10, .ireturn, 11, 0, 0, 0, m_y0, .null)])
set_option maxRecDepth 100000 in
theorem k1_C_act : MOk1 M_C_act := m_ok1_of (by decide +kernel)
set_option maxRecDepth 100000 in
theorem k2_C_act : MOk2 M_C_act := m_ok2_spec (p0 := 767) (p1 := 69) (p2 := 765) (p3 := 766) (by decide +kernel)
def M_C_trace : MD := (y_C_trace, prog_1_method_33_code, 2, (some .int), (1, 1, 8), [
  (0, .aload_n 0, 1, 0, 0, 0, m_y0, .null),
  (1, .getfield 49, 4, 8, 5, 256, m_y0, .null),
  (4, .iload_n 1, 5, 1, 0, 0, m_y0, .null),
  (5, .invokevirtual 302, 8, 2, 0, 799, y_B_ranAt, .null),
  (8, .ireturn, 9, 0, 0, 0, m_y0, .null)])
set_option maxRecDepth 100000 in
theorem k1_C_trace : MOk1 M_C_trace := m_ok1_of (by decide +kernel)
set_option maxRecDepth 100000 in
theorem k2_C_trace : MOk2 M_C_trace := m_ok2_spec (p0 := 798) (p1 := 69) (p2 := 796) (p3 := 797) (by decide +kernel)
def M_C_keep : MD := (y_C_keep, prog_1_method_34_code, 3, (some .int), (1, 2, 8), [
  (0, .iload_n 1, 1, 1, 0, 0, m_y0, .null),
  (1, .invokestatic 95, 4, 1, 0, 340, y_C_isShelf, .null),
  (4, .ifCond .eq 20, 7, 24, 0, 0, m_y0, .null),
  (7, .iload_n 2, 8, 2, 0, 0, m_y0, .null),
  (8, .iconst (-1), 9, 0, 0, 0, m_y0, .int (-1)),
  (9, .aload_n 0, 10, 0, 0, 0, m_y0, .null),
  (10, .getfield 49, 13, 8, 5, 256, m_y0, .null),
  (13, .getfield 305, 16, 0, 1, 217, m_y0, .null),
  (16, .iconst 1, 17, 0, 0, 0, m_y0, .int 1),
  (17, .isub, 18, 0, 0, 0, m_y0, .null),
  (18, .invokestatic 87, 21, 3, 0, 298, y_C_within, .null),
  (21, .ifCond .ne 5, 24, 26, 0, 0, m_y0, .null),
  (24, .iconst (-1), 25, 0, 0, 0, m_y0, .int (-1)),
  (25, .ireturn, 26, 0, 0, 0, m_y0, .null),
  (26, .aload_n 0, 27, 0, 0, 0, m_y0, .null),
  (27, .getfield 56, 30, 8, 6, 257, m_y0, .null),
  (30, .iload_n 1, 31, 1, 0, 0, m_y0, .null),
  (31, .iload_n 2, 32, 2, 0, 0, m_y0, .null),
  (32, .invokevirtual 308, 35, 3, 0, 807, y_H_hold, .null),
  (35, .iconst 1, 36, 0, 0, 0, m_y0, .int 1),
  (36, .ireturn, 37, 0, 0, 0, m_y0, .null)])
set_option maxRecDepth 100000 in
theorem k1_C_keep : MOk1 M_C_keep := m_ok1_of (by decide +kernel)
set_option maxRecDepth 100000 in
theorem k2_C_keep : MOk2 M_C_keep := m_ok2_spec (p0 := 806) (p1 := 69) (p2 := 804) (p3 := 805) (by decide +kernel)
def M_C_row : MD := (y_C_row, prog_1_method_35_code, 4, (some .int), (1, 3, 8), [
  (0, .iload_n 1, 1, 1, 0, 0, m_y0, .null),
  (1, .invokestatic 95, 4, 1, 0, 340, y_C_isShelf, .null),
  (4, .ifCond .eq 18, 7, 22, 0, 0, m_y0, .null),
  (7, .iload_n 2, 8, 2, 0, 0, m_y0, .null),
  (8, .iconst 0, 9, 0, 0, 0, m_y0, .int 0),
  (9, .iconst 4, 10, 0, 0, 0, m_y0, .int 4),
  (10, .invokestatic 87, 13, 3, 0, 298, y_C_within, .null),
  (13, .ifCond .eq 9, 16, 22, 0, 0, m_y0, .null),
  (16, .iload_n 3, 17, 3, 0, 0, m_y0, .null),
  (17, .bipush 60, 19, 0, 0, 0, m_y0, .int 60),
  (19, .if_icmp .le 5, 22, 24, 0, 0, m_y0, .null),
  (22, .iconst (-1), 23, 0, 0, 0, m_y0, .int (-1)),
  (23, .ireturn, 24, 0, 0, 0, m_y0, .null),
  (24, .iload_n 3, 25, 3, 0, 0, m_y0, .null),
  (25, .ifCond .ge 6, 28, 31, 0, 0, m_y0, .null),
  (28, .bipush (-14), 30, 0, 0, 0, m_y0, .int (-14)),
  (30, .ireturn, 31, 0, 0, 0, m_y0, .null),
  (31, .aload_n 0, 32, 0, 0, 0, m_y0, .null),
  (32, .getfield 56, 35, 8, 6, 257, m_y0, .null),
  (35, .iload_n 1, 36, 1, 0, 0, m_y0, .null),
  (36, .iload_n 2, 37, 2, 0, 0, m_y0, .null),
  (37, .iload_n 3, 38, 3, 0, 0, m_y0, .null),
  (38, .invokevirtual 311, 41, 4, 0, 815, y_H_holdRow, .null),
  (41, .iconst 1, 42, 0, 0, 0, m_y0, .int 1),
  (42, .ireturn, 43, 0, 0, 0, m_y0, .null)])
set_option maxRecDepth 100000 in
theorem k1_C_row : MOk1 M_C_row := m_ok1_of (by decide +kernel)
set_option maxRecDepth 100000 in
theorem k2_C_row : MOk2 M_C_row := m_ok2_spec (p0 := 814) (p1 := 69) (p2 := 812) (p3 := 813) (by decide +kernel)
def M_C_put : MD := (y_C_put, prog_1_method_36_code, 6, (some .int), (1, 3, 8), [
  (0, .iload_n 1, 1, 1, 0, 0, m_y0, .null),
  (1, .invokestatic 95, 4, 1, 0, 340, y_C_isShelf, .null),
  (4, .ifCond .eq 15, 7, 19, 0, 0, m_y0, .null),
  (7, .aload_n 0, 8, 0, 0, 0, m_y0, .null),
  (8, .getfield 56, 11, 8, 6, 257, m_y0, .null),
  (11, .iload_n 1, 12, 1, 0, 0, m_y0, .null),
  (12, .iload_n 2, 13, 2, 0, 0, m_y0, .null),
  (13, .invokevirtual 315, 16, 3, 0, 829, y_H_refusal, .null),
  (16, .goto 4, 19, 20, 0, 0, m_y0, .null),
  (19, .iconst (-1), 20, 0, 0, 0, m_y0, .int (-1)),
  (20, .istore 5, 22, 5, 0, 0, m_y0, .null),
  (22, .iload 5, 24, 5, 0, 0, m_y0, .null),
  (24, .ifCond .eq 6, 27, 30, 0, 0, m_y0, .null),
  (27, .iload 5, 29, 5, 0, 0, m_y0, .null),
  (29, .ireturn, 30, 0, 0, 0, m_y0, .null),
  (30, .aload_n 0, 31, 0, 0, 0, m_y0, .null),
  (31, .getfield 56, 34, 8, 6, 257, m_y0, .null),
  (34, .iload_n 1, 35, 1, 0, 0, m_y0, .null),
  (35, .iload_n 2, 36, 2, 0, 0, m_y0, .null),
  (36, .lload_n 3, 37, 3, 0, 0, m_y0, .null),
  (37, .invokevirtual 318, 40, 4, 0, 835, y_H_setCell, .null),
  (40, .iconst 1, 41, 0, 0, 0, m_y0, .int 1),
  (41, .ireturn, 42, 0, 0, 0, m_y0, .null)])
set_option maxRecDepth 100000 in
theorem k1_C_put : MOk1 M_C_put := m_ok1_of (by decide +kernel)
set_option maxRecDepth 100000 in
theorem k2_C_put : MOk2 M_C_put := m_ok2_spec (p0 := 828) (p1 := 69) (p2 := 826) (p3 := 827) (by decide +kernel)
def M_C_element : MD := (y_C_element, prog_1_method_37_code, 3, (some .long), (1, 2, 8), [
  (0, .iload_n 1, 1, 1, 0, 0, m_y0, .null),
  (1, .invokestatic 95, 4, 1, 0, 340, y_C_isShelf, .null),
  (4, .ifCond .eq 15, 7, 19, 0, 0, m_y0, .null),
  (7, .aload_n 0, 8, 0, 0, 0, m_y0, .null),
  (8, .getfield 56, 11, 8, 6, 257, m_y0, .null),
  (11, .iload_n 1, 12, 1, 0, 0, m_y0, .null),
  (12, .iload_n 2, 13, 2, 0, 0, m_y0, .null),
  (13, .invokevirtual 315, 16, 3, 0, 829, y_H_refusal, .null),
  (16, .ifCond .eq 7, 19, 23, 0, 0, m_y0, .null),
  (19, .ldc2_w 179, 22, 0, 0, 521, m_y0, .long (-9223372036854775808)),
  (22, .lreturn, 23, 0, 0, 0, m_y0, .null),
  (23, .aload_n 0, 24, 0, 0, 0, m_y0, .null),
  (24, .getfield 56, 27, 8, 6, 257, m_y0, .null),
  (27, .iload_n 1, 28, 1, 0, 0, m_y0, .null),
  (28, .iload_n 2, 29, 2, 0, 0, m_y0, .null),
  (29, .invokevirtual 322, 32, 3, 0, 356, y_H_cell, .null),
  (32, .lreturn, 33, 0, 0, 0, m_y0, .null)])
set_option maxRecDepth 100000 in
theorem k1_C_element : MOk1 M_C_element := m_ok1_of (by decide +kernel)
set_option maxRecDepth 100000 in
theorem k2_C_element : MOk2 M_C_element := m_ok2_spec (p0 := 845) (p1 := 69) (p2 := 843) (p3 := 844) (by decide +kernel)
def M_C_shift : MD := (y_C_shift, prog_1_method_38_code, 6, (some .int), (1, 5, 8), [
  (0, .iload_n 1, 1, 1, 0, 0, m_y0, .null),
  (1, .invokestatic 95, 4, 1, 0, 340, y_C_isShelf, .null),
  (4, .ifCond .eq 10, 7, 14, 0, 0, m_y0, .null),
  (7, .iload_n 3, 8, 3, 0, 0, m_y0, .null),
  (8, .invokestatic 95, 11, 1, 0, 340, y_C_isShelf, .null),
  (11, .ifCond .ne 5, 14, 16, 0, 0, m_y0, .null),
  (14, .iconst (-1), 15, 0, 0, 0, m_y0, .int (-1)),
  (15, .ireturn, 16, 0, 0, 0, m_y0, .null),
  (16, .aload_n 0, 17, 0, 0, 0, m_y0, .null),
  (17, .getfield 56, 20, 8, 6, 257, m_y0, .null),
  (20, .iload_n 1, 21, 1, 0, 0, m_y0, .null),
  (21, .iload_n 2, 22, 2, 0, 0, m_y0, .null),
  (22, .iload_n 3, 23, 3, 0, 0, m_y0, .null),
  (23, .iload 4, 25, 4, 0, 0, m_y0, .null),
  (25, .iload 5, 27, 5, 0, 0, m_y0, .null),
  (27, .invokevirtual 326, 30, 6, 0, 850, y_H_copy, .null),
  (30, .ireturn, 31, 0, 0, 0, m_y0, .null)])
set_option maxRecDepth 100000 in
theorem k1_C_shift : MOk1 M_C_shift := m_ok1_of (by decide +kernel)
set_option maxRecDepth 100000 in
theorem k2_C_shift : MOk2 M_C_shift := m_ok2_spec (p0 := 849) (p1 := 69) (p2 := 847) (p3 := 848) (by decide +kernel)
def M_C_taken : MD := (y_C_taken, prog_1_method_39_code, 5, (some .int), (1, 2, 8), [
  (0, .iload_n 1, 1, 1, 0, 0, m_y0, .null),
  (1, .invokestatic 95, 4, 1, 0, 340, y_C_isShelf, .null),
  (4, .ifCond .eq 10, 7, 14, 0, 0, m_y0, .null),
  (7, .iload_n 2, 8, 2, 0, 0, m_y0, .null),
  (8, .invokestatic 294, 11, 1, 0, 756, y_B_isBodyKind, .null),
  (11, .ifCond .ne 5, 14, 16, 0, 0, m_y0, .null),
  (14, .iconst (-1), 15, 0, 0, 0, m_y0, .int (-1)),
  (15, .ireturn, 16, 0, 0, 0, m_y0, .null),
  (16, .aload_n 0, 17, 0, 0, 0, m_y0, .null),
  (17, .getfield 56, 20, 8, 6, 257, m_y0, .null),
  (20, .iload_n 1, 21, 1, 0, 0, m_y0, .null),
  (21, .invokevirtual 99, 24, 2, 0, 343, y_H_sortOn, .null),
  (24, .istore_n 3, 25, 3, 0, 0, m_y0, .null),
  (25, .iload_n 3, 26, 3, 0, 0, m_y0, .null),
  (26, .bipush (-2), 28, 0, 0, 0, m_y0, .int (-2)),
  (28, .if_icmp .ne 6, 31, 34, 0, 0, m_y0, .null),
  (31, .bipush (-11), 33, 0, 0, 0, m_y0, .int (-11)),
  (33, .ireturn, 34, 0, 0, 0, m_y0, .null),
  (34, .iload_n 3, 35, 3, 0, 0, m_y0, .null),
  (35, .iconst (-1), 36, 0, 0, 0, m_y0, .int (-1)),
  (36, .if_icmp .ne 21, 39, 57, 0, 0, m_y0, .null),
  (39, .aload_n 0, 40, 0, 0, 0, m_y0, .null),
  (40, .getfield 49, 43, 8, 5, 256, m_y0, .null),
  (43, .aload_n 0, 44, 0, 0, 0, m_y0, .null),
  (44, .getfield 56, 47, 8, 6, 257, m_y0, .null),
  (47, .iload_n 1, 48, 1, 0, 0, m_y0, .null),
  (48, .invokevirtual 330, 51, 2, 0, 863, y_H_bodyOn, .null),
  (51, .invokevirtual 333, 54, 2, 0, 867, y_B_kindOf, .null),
  (54, .goto 5, 57, 59, 0, 0, m_y0, .null),
  (57, .bipush (-2), 59, 0, 0, 0, m_y0, .int (-2)),
  (59, .istore 4, 61, 4, 0, 0, m_y0, .null),
  (61, .iload 4, 63, 4, 0, 0, m_y0, .null),
  (63, .iload_n 2, 64, 2, 0, 0, m_y0, .null),
  (64, .invokestatic 336, 67, 2, 0, 868, y_B_isUnder, .null),
  (67, .ifCond .eq 8, 70, 75, 0, 0, m_y0, .null),
  (70, .iload 4, 72, 4, 0, 0, m_y0, .null),
  (72, .goto 5, 75, 77, 0, 0, m_y0, .null),
  (75, .bipush (-12), 77, 0, 0, 0, m_y0, .int (-12)),
  (77, .ireturn, 78, 0, 0, 0, m_y0, .null)])
set_option maxRecDepth 100000 in
theorem k1_C_taken : MOk1 M_C_taken := m_ok1_of (by decide +kernel)
set_option maxRecDepth 100000 in
theorem k2_C_taken : MOk2 M_C_taken := m_ok2_spec (p0 := 862) (p1 := 69) (p2 := 860) (p3 := 861) (by decide +kernel)
end
section
def M_C_count : MD := (y_C_count, prog_1_method_40_code, 2, (some .int), (1, 1, 8), [
  (0, .iload_n 1, 1, 1, 0, 0, m_y0, .null),
  (1, .tableswitch 93 0 6 #[43, 48, 56, 61, 69, 77, 85], 44, 43, 0, 0, m_y0, .null),
  (44, .aload_n 0, 45, 0, 0, 0, m_y0, .null),
  (45, .getfield 66, 48, 8, 8, 259, m_y0, .null),
  (48, .ireturn, 49, 0, 0, 0, m_y0, .null),
  (49, .aload_n 0, 50, 0, 0, 0, m_y0, .null),
  (50, .getfield 42, 53, 8, 4, 255, m_y0, .null),
  (53, .getfield 339, 56, 2, 3, 199, m_y0, .null),
  (56, .ireturn, 57, 0, 0, 0, m_y0, .null),
  (57, .aload_n 0, 58, 0, 0, 0, m_y0, .null),
  (58, .invokevirtual 340, 61, 1, 0, 875, y_C_marksLookedFor, .null),
  (61, .ireturn, 62, 0, 0, 0, m_y0, .null),
  (62, .aload_n 0, 63, 0, 0, 0, m_y0, .null),
  (63, .getfield 26, 66, 8, 2, 253, m_y0, .null),
  (66, .getfield 143, 69, 4, 1, 142, m_y0, .null),
  (69, .ireturn, 70, 0, 0, 0, m_y0, .null),
  (70, .aload_n 0, 71, 0, 0, 0, m_y0, .null),
  (71, .getfield 10, 74, 8, 0, 251, m_y0, .null),
  (74, .getfield 343, 77, 7, 4, 102, m_y0, .null),
  (77, .ireturn, 78, 0, 0, 0, m_y0, .null),
  (78, .aload_n 0, 79, 0, 0, 0, m_y0, .null),
  (79, .getfield 49, 82, 8, 5, 256, m_y0, .null),
  (82, .getfield 305, 85, 0, 1, 217, m_y0, .null),
  (85, .ireturn, 86, 0, 0, 0, m_y0, .null),
  (86, .aload_n 0, 87, 0, 0, 0, m_y0, .null),
  (87, .getfield 49, 90, 8, 5, 256, m_y0, .null),
  (90, .getfield 346, 93, 0, 3, 220, m_y0, .null),
  (93, .ireturn, 94, 0, 0, 0, m_y0, .null),
  (94, .iconst (-1), 95, 0, 0, 0, m_y0, .int (-1)),
  (95, .ireturn, 96, 0, 0, 0, m_y0, .null)])
set_option maxRecDepth 100000 in
theorem k1_C_count : MOk1 M_C_count := m_ok1_of (by decide +kernel)
set_option maxRecDepth 100000 in
theorem k2_C_count : MOk2 M_C_count := m_ok2_spec (p0 := 874) (p1 := 69) (p2 := 872) (p3 := 873) (by decide +kernel)
def M_C_within : MD := (y_C_within, prog_1_method_41_code, 3, (some .boolean), (0, 3, 8), [
  (0, .iload_n 0, 1, 0, 0, 0, m_y0, .null),
  (1, .iload_n 1, 2, 1, 0, 0, m_y0, .null),
  (2, .if_icmp .lt 12, 5, 14, 0, 0, m_y0, .null),
  (5, .iload_n 0, 6, 0, 0, 0, m_y0, .null),
  (6, .iload_n 2, 7, 2, 0, 0, m_y0, .null),
  (7, .if_icmp .gt 7, 10, 14, 0, 0, m_y0, .null),
  (10, .iconst 1, 11, 0, 0, 0, m_y0, .int 1),
  (11, .goto 4, 14, 15, 0, 0, m_y0, .null),
  (14, .iconst 0, 15, 0, 0, 0, m_y0, .int 0),
  (15, .ireturn, 16, 0, 0, 0, m_y0, .null)])
set_option maxRecDepth 100000 in
theorem k1_C_within : MOk1 M_C_within := m_ok1_of (by decide +kernel)
set_option maxRecDepth 100000 in
theorem k2_C_within : MOk2 M_C_within := m_ok2_spec (p0 := 300) (p1 := 69) (p2 := 299) (p3 := 0) (by decide +kernel)
def M_C_isKind : MD := (y_C_isKind, prog_1_method_42_code, 1, (some .boolean), (0, 1, 8), [
  (0, .iload_n 0, 1, 0, 0, 0, m_y0, .null),
  (1, .iconst 0, 2, 0, 0, 0, m_y0, .int 0),
  (2, .iconst 5, 3, 0, 0, 0, m_y0, .int 5),
  (3, .invokestatic 87, 6, 3, 0, 298, y_C_within, .null),
  (6, .ireturn, 7, 0, 0, 0, m_y0, .null)])
set_option maxRecDepth 100000 in
theorem k1_C_isKind : MOk1 M_C_isKind := m_ok1_of (by decide +kernel)
set_option maxRecDepth 100000 in
theorem k2_C_isKind : MOk2 M_C_isKind := m_ok2_spec (p0 := 490) (p1 := 69) (p2 := 489) (p3 := 0) (by decide +kernel)
def M_C_isMark : MD := (y_C_isMark, prog_1_method_43_code, 1, (some .boolean), (0, 1, 8), [
  (0, .iload_n 0, 1, 0, 0, 0, m_y0, .null),
  (1, .iconst 0, 2, 0, 0, 0, m_y0, .int 0),
  (2, .iconst 5, 3, 0, 0, 0, m_y0, .int 5),
  (3, .invokestatic 87, 6, 3, 0, 298, y_C_within, .null),
  (6, .ireturn, 7, 0, 0, 0, m_y0, .null)])
set_option maxRecDepth 100000 in
theorem k1_C_isMark : MOk1 M_C_isMark := m_ok1_of (by decide +kernel)
set_option maxRecDepth 100000 in
theorem k2_C_isMark : MOk2 M_C_isMark := m_ok2_spec (p0 := 403) (p1 := 69) (p2 := 402) (p3 := 0) (by decide +kernel)
def M_C_isTime : MD := (y_C_isTime, prog_1_method_44_code, 1, (some .boolean), (0, 1, 8), [
  (0, .iload_n 0, 1, 0, 0, 0, m_y0, .null),
  (1, .iconst 0, 2, 0, 0, 0, m_y0, .int 0),
  (2, .bipush 29, 4, 0, 0, 0, m_y0, .int 29),
  (4, .invokestatic 87, 7, 3, 0, 298, y_C_within, .null),
  (7, .ireturn, 8, 0, 0, 0, m_y0, .null)])
set_option maxRecDepth 100000 in
theorem k1_C_isTime : MOk1 M_C_isTime := m_ok1_of (by decide +kernel)
set_option maxRecDepth 100000 in
theorem k2_C_isTime : MOk2 M_C_isTime := m_ok2_spec (p0 := 493) (p1 := 69) (p2 := 492) (p3 := 0) (by decide +kernel)
def M_C_isSet : MD := (y_C_isSet, prog_1_method_45_code, 1, (some .boolean), (0, 1, 8), [
  (0, .iload_n 0, 1, 0, 0, 0, m_y0, .null),
  (1, .iconst 0, 2, 0, 0, 0, m_y0, .int 0),
  (2, .bipush 63, 4, 0, 0, 0, m_y0, .int 63),
  (4, .invokestatic 87, 7, 3, 0, 298, y_C_within, .null),
  (7, .ireturn, 8, 0, 0, 0, m_y0, .null)])
set_option maxRecDepth 100000 in
theorem k1_C_isSet : MOk1 M_C_isSet := m_ok1_of (by decide +kernel)
set_option maxRecDepth 100000 in
theorem k2_C_isSet : MOk2 M_C_isSet := m_ok2_spec (p0 := 629) (p1 := 69) (p2 := 628) (p3 := 0) (by decide +kernel)
def M_C_isShelf : MD := (y_C_isShelf, prog_1_method_46_code, 1, (some .boolean), (0, 1, 8), [
  (0, .iload_n 0, 1, 0, 0, 0, m_y0, .null),
  (1, .iconst 0, 2, 0, 0, 0, m_y0, .int 0),
  (2, .iconst 5, 3, 0, 0, 0, m_y0, .int 5),
  (3, .invokestatic 87, 6, 3, 0, 298, y_C_within, .null),
  (6, .ireturn, 7, 0, 0, 0, m_y0, .null)])
set_option maxRecDepth 100000 in
theorem k1_C_isShelf : MOk1 M_C_isShelf := m_ok1_of (by decide +kernel)
set_option maxRecDepth 100000 in
theorem k2_C_isShelf : MOk2 M_C_isShelf := m_ok2_spec (p0 := 342) (p1 := 69) (p2 := 341) (p3 := 0) (by decide +kernel)
def M_C_hasBit : MD := (y_C_hasBit, prog_1_method_47_code, 2, (some .boolean), (0, 2, 8), [
  (0, .iload_n 0, 1, 0, 0, 0, m_y0, .null),
  (1, .iload_n 1, 2, 1, 0, 0, m_y0, .null),
  (2, .ishr, 3, 0, 0, 0, m_y0, .null),
  (3, .iconst 1, 4, 0, 0, 0, m_y0, .int 1),
  (4, .iand, 5, 0, 0, 0, m_y0, .null),
  (5, .iconst 1, 6, 0, 0, 0, m_y0, .int 1),
  (6, .if_icmp .ne 7, 9, 13, 0, 0, m_y0, .null),
  (9, .iconst 1, 10, 0, 0, 0, m_y0, .int 1),
  (10, .goto 4, 13, 14, 0, 0, m_y0, .null),
  (13, .iconst 0, 14, 0, 0, 0, m_y0, .int 0),
  (14, .ireturn, 15, 0, 0, 0, m_y0, .null)])
set_option maxRecDepth 100000 in
theorem k1_C_hasBit : MOk1 M_C_hasBit := m_ok1_of (by decide +kernel)
set_option maxRecDepth 100000 in
theorem k2_C_hasBit : MOk2 M_C_hasBit := m_ok2_spec (p0 := 410) (p1 := 69) (p2 := 409) (p3 := 0) (by decide +kernel)
def M_C_greatestDivisor : MD := (y_C_greatestDivisor, prog_1_method_48_code, 11, (some .long), (0, 2, 8), [
  (0, .lload_n 0, 1, 0, 0, 0, m_y0, .null),
  (1, .lstore 4, 3, 4, 0, 0, m_y0, .null),
  (3, .lload_n 2, 4, 2, 0, 0, m_y0, .null),
  (4, .lstore 6, 6, 6, 0, 0, m_y0, .null),
  (6, .iconst 0, 7, 0, 0, 0, m_y0, .int 0),
  (7, .istore 8, 9, 8, 0, 0, m_y0, .null),
  (9, .iload 8, 11, 8, 0, 0, m_y0, .null),
  (11, .sipush 200, 14, 0, 0, 0, m_y0, .int 200),
  (14, .if_icmp .ge 31, 17, 45, 0, 0, m_y0, .null),
  (17, .lload 6, 19, 6, 0, 0, m_y0, .null),
  (19, .lconst 0, 20, 0, 0, 0, m_y0, .long 0),
  (20, .lcmp, 21, 0, 0, 0, m_y0, .null),
  (21, .ifCond .eq 24, 24, 45, 0, 0, m_y0, .null),
  (24, .lload 4, 26, 4, 0, 0, m_y0, .null),
  (26, .lload 6, 28, 6, 0, 0, m_y0, .null),
  (28, .lrem, 29, 0, 0, 0, m_y0, .null),
  (29, .lstore 9, 31, 9, 0, 0, m_y0, .null),
  (31, .lload 6, 33, 6, 0, 0, m_y0, .null),
  (33, .lstore 4, 35, 4, 0, 0, m_y0, .null),
  (35, .lload 9, 37, 9, 0, 0, m_y0, .null),
  (37, .lstore 6, 39, 6, 0, 0, m_y0, .null),
  (39, .iinc 8 1, 42, 8, 0, 0, m_y0, .int 1),
  (42, .goto (-33), 45, 9, 0, 0, m_y0, .null),
  (45, .lload 4, 47, 4, 0, 0, m_y0, .null),
  (47, .lreturn, 48, 0, 0, 0, m_y0, .null)])
set_option maxRecDepth 100000 in
theorem k1_C_greatestDivisor : MOk1 M_C_greatestDivisor := m_ok1_of (by decide +kernel)
set_option maxRecDepth 100000 in
theorem k2_C_greatestDivisor : MOk2 M_C_greatestDivisor := m_ok2_spec (p0 := 540) (p1 := 69) (p2 := 539) (p3 := 0) (by decide +kernel)
def M_C_valueAtRank : MD := (y_C_valueAtRank, prog_1_method_49_code, 6, (some .int), (0, 3, 8), [
  (0, .iconst 0, 1, 0, 0, 0, m_y0, .int 0),
  (1, .istore_n 3, 2, 3, 0, 0, m_y0, .null),
  (2, .iconst 0, 3, 0, 0, 0, m_y0, .int 0),
  (3, .istore 4, 5, 4, 0, 0, m_y0, .null),
  (5, .iload 4, 7, 4, 0, 0, m_y0, .null),
  (7, .bipush 30, 9, 0, 0, 0, m_y0, .int 30),
  (9, .if_icmp .ge 56, 12, 65, 0, 0, m_y0, .null),
  (12, .iconst 0, 13, 0, 0, 0, m_y0, .int 0),
  (13, .istore 5, 15, 5, 0, 0, m_y0, .null),
  (15, .iload 5, 17, 5, 0, 0, m_y0, .null),
  (17, .iload_n 1, 18, 1, 0, 0, m_y0, .null),
  (18, .if_icmp .ge 33, 21, 51, 0, 0, m_y0, .null),
  (21, .iload 5, 23, 5, 0, 0, m_y0, .null),
  (23, .aload_n 0, 24, 0, 0, 0, m_y0, .null),
  (24, .arraylength, 25, 0, 0, 0, m_y0, .null),
  (25, .if_icmp .ge 26, 28, 51, 0, 0, m_y0, .null),
  (28, .iload_n 3, 29, 3, 0, 0, m_y0, .null),
  (29, .aload_n 0, 30, 0, 0, 0, m_y0, .null),
  (30, .iload 5, 32, 5, 0, 0, m_y0, .null),
  (32, .iaload, 33, 0, 0, 0, m_y0, .null),
  (33, .iload 4, 35, 4, 0, 0, m_y0, .null),
  (35, .if_icmp .ne 7, 38, 42, 0, 0, m_y0, .null),
  (38, .iconst 1, 39, 0, 0, 0, m_y0, .int 1),
  (39, .goto 4, 42, 43, 0, 0, m_y0, .null),
  (42, .iconst 0, 43, 0, 0, 0, m_y0, .int 0),
  (43, .iadd, 44, 0, 0, 0, m_y0, .null),
  (44, .istore_n 3, 45, 3, 0, 0, m_y0, .null),
  (45, .iinc 5 1, 48, 5, 0, 0, m_y0, .int 1),
  (48, .goto (-33), 51, 15, 0, 0, m_y0, .null),
  (51, .iload_n 3, 52, 3, 0, 0, m_y0, .null),
  (52, .iload_n 2, 53, 2, 0, 0, m_y0, .null),
  (53, .if_icmp .le 6, 56, 59, 0, 0, m_y0, .null),
  (56, .iload 4, 58, 4, 0, 0, m_y0, .null),
  (58, .ireturn, 59, 0, 0, 0, m_y0, .null),
  (59, .iinc 4 1, 62, 4, 0, 0, m_y0, .int 1),
  (62, .goto (-57), 65, 5, 0, 0, m_y0, .null),
  (65, .iconst 0, 66, 0, 0, 0, m_y0, .int 0),
  (66, .ireturn, 67, 0, 0, 0, m_y0, .null)])
set_option maxRecDepth 100000 in
theorem k1_C_valueAtRank : MOk1 M_C_valueAtRank := m_ok1_of (by decide +kernel)
set_option maxRecDepth 100000 in
theorem k2_C_valueAtRank : MOk2 M_C_valueAtRank := m_ok2_spec (p0 := 607) (p1 := 69) (p2 := 606) (p3 := 0) (by decide +kernel)
def M_C_pieceAt : MD := (y_C_pieceAt, prog_1_method_50_code, 2, (some (.object "ChairOld$Piece")), (1, 1, 8), [
  (0, .iload_n 1, 1, 1, 0, 0, m_y0, .null),
  (1, .iconst 0, 2, 0, 0, 0, m_y0, .int 0),
  (2, .aload_n 0, 3, 0, 0, 0, m_y0, .null),
  (3, .getfield 66, 6, 8, 8, 259, m_y0, .null),
  (6, .iconst 1, 7, 0, 0, 0, m_y0, .int 1),
  (7, .isub, 8, 0, 0, 0, m_y0, .null),
  (8, .invokestatic 87, 11, 3, 0, 298, y_C_within, .null),
  (11, .ifCond .eq 18, 14, 29, 0, 0, m_y0, .null),
  (14, .iload_n 1, 15, 1, 0, 0, m_y0, .null),
  (15, .bipush 8, 17, 0, 0, 0, m_y0, .int 8),
  (17, .if_icmp .ge 12, 20, 29, 0, 0, m_y0, .null),
  (20, .aload_n 0, 21, 0, 0, 0, m_y0, .null),
  (21, .getfield 62, 24, 8, 7, 258, m_y0, .null),
  (24, .iload_n 1, 25, 1, 0, 0, m_y0, .null),
  (25, .aaload, 26, 0, 0, 0, m_y0, .null),
  (26, .goto 4, 29, 30, 0, 0, m_y0, .null),
  (29, .aconst_null, 30, 0, 0, 0, m_y0, .null),
  (30, .areturn, 31, 0, 0, 0, m_y0, .null)])
set_option maxRecDepth 100000 in
theorem k1_C_pieceAt : MOk1 M_C_pieceAt := m_ok1_of (by decide +kernel)
set_option maxRecDepth 100000 in
theorem k2_C_pieceAt : MOk2 M_C_pieceAt := m_ok2_spec (p0 := 400) (p1 := 69) (p2 := 399) (p3 := 5) (by decide +kernel)
def M_C_addPiece : MD := (y_C_addPiece, prog_1_method_51_code, 3, none, (1, 2, 8), [
  (0, .aload_n 0, 1, 0, 0, 0, m_y0, .null),
  (1, .getfield 66, 4, 8, 8, 259, m_y0, .null),
  (4, .bipush 8, 6, 0, 0, 0, m_y0, .int 8),
  (6, .if_icmp .ge 31, 9, 37, 0, 0, m_y0, .null),
  (9, .aload_n 0, 10, 0, 0, 0, m_y0, .null),
  (10, .getfield 62, 13, 8, 7, 258, m_y0, .null),
  (13, .aload_n 0, 14, 0, 0, 0, m_y0, .null),
  (14, .getfield 66, 17, 8, 8, 259, m_y0, .null),
  (17, .new 60, 20, 3, 0, 249, m_y0, .null),
  (20, .dup, 21, 0, 0, 0, m_y0, .null),
  (21, .iload_n 1, 22, 1, 0, 0, m_y0, .null),
  (22, .iload_n 2, 23, 2, 0, 0, m_y0, .null),
  (23, .invokespecial 349, 26, 3, 0, 306, y_I_init, .null),
  (26, .aastore, 27, 0, 0, 0, m_y0, .null),
  (27, .aload_n 0, 28, 0, 0, 0, m_y0, .null),
  (28, .dup, 29, 0, 0, 0, m_y0, .null),
  (29, .getfield 66, 32, 8, 8, 259, m_y0, .null),
  (32, .iconst 1, 33, 0, 0, 0, m_y0, .int 1),
  (33, .iadd, 34, 0, 0, 0, m_y0, .null),
  (34, .putfield 66, 37, 8, 8, 259, m_y0, .int 0),
  (37, .return_, 38, 0, 0, 0, m_y0, .null)])
set_option maxRecDepth 100000 in
theorem k1_C_addPiece : MOk1 M_C_addPiece := m_ok1_of (by decide +kernel)
set_option maxRecDepth 100000 in
theorem k2_C_addPiece : MOk2 M_C_addPiece := m_ok2_spec (p0 := 304) (p1 := 69) (p2 := 303) (p3 := 0) (by decide +kernel)
def M_C_addFromRow : MD := (y_C_addFromRow, prog_1_method_52_code, 7, (some .boolean), (1, 2, 8), [
  (0, .aload_n 0, 1, 0, 0, 0, m_y0, .null),
  (1, .getfield 66, 4, 8, 8, 259, m_y0, .null),
  (4, .bipush 8, 6, 0, 0, 0, m_y0, .int 8),
  (6, .if_icmp .ge 21, 9, 27, 0, 0, m_y0, .null),
  (9, .iload_n 2, 10, 2, 0, 0, m_y0, .null),
  (10, .ifCond .lt 17, 13, 27, 0, 0, m_y0, .null),
  (13, .iload_n 2, 14, 2, 0, 0, m_y0, .null),
  (14, .aload_n 0, 15, 0, 0, 0, m_y0, .null),
  (15, .getfield 56, 18, 8, 6, 257, m_y0, .null),
  (18, .iload_n 1, 19, 1, 0, 0, m_y0, .null),
  (19, .invokevirtual 351, 22, 2, 0, 352, y_H_lengthOn, .null),
  (22, .iconst 1, 23, 0, 0, 0, m_y0, .int 1),
  (23, .isub, 24, 0, 0, 0, m_y0, .null),
  (24, .if_icmp .lt 5, 27, 29, 0, 0, m_y0, .null),
  (27, .iconst 0, 28, 0, 0, 0, m_y0, .int 0),
  (28, .ireturn, 29, 0, 0, 0, m_y0, .null),
  (29, .aload_n 0, 30, 0, 0, 0, m_y0, .null),
  (30, .getfield 56, 33, 8, 6, 257, m_y0, .null),
  (33, .iload_n 1, 34, 1, 0, 0, m_y0, .null),
  (34, .iload_n 2, 35, 2, 0, 0, m_y0, .null),
  (35, .invokevirtual 322, 38, 3, 0, 356, y_H_cell, .null),
  (38, .lstore_n 3, 39, 3, 0, 0, m_y0, .null),
  (39, .aload_n 0, 40, 0, 0, 0, m_y0, .null),
  (40, .getfield 56, 43, 8, 6, 257, m_y0, .null),
  (43, .iload_n 1, 44, 1, 0, 0, m_y0, .null),
  (44, .iload_n 2, 45, 2, 0, 0, m_y0, .null),
  (45, .iconst 1, 46, 0, 0, 0, m_y0, .int 1),
  (46, .iadd, 47, 0, 0, 0, m_y0, .null),
  (47, .invokevirtual 322, 50, 3, 0, 356, y_H_cell, .null),
  (50, .lstore 5, 52, 5, 0, 0, m_y0, .null),
  (52, .lload_n 3, 53, 3, 0, 0, m_y0, .null),
  (53, .lconst 0, 54, 0, 0, 0, m_y0, .long 0),
  (54, .lcmp, 55, 0, 0, 0, m_y0, .null),
  (55, .ifCond .lt 27, 58, 82, 0, 0, m_y0, .null),
  (58, .lload_n 3, 59, 3, 0, 0, m_y0, .null),
  (59, .ldc2_w 354, 62, 0, 0, 361, m_y0, .long 9),
  (62, .lcmp, 63, 0, 0, 0, m_y0, .null),
  (63, .ifCond .gt 19, 66, 82, 0, 0, m_y0, .null),
  (66, .lload 5, 68, 5, 0, 0, m_y0, .null),
  (68, .lconst 0, 69, 0, 0, 0, m_y0, .long 0),
  (69, .lcmp, 70, 0, 0, 0, m_y0, .null),
  (70, .ifCond .lt 12, 73, 82, 0, 0, m_y0, .null),
  (73, .lload 5, 75, 5, 0, 0, m_y0, .null),
  (75, .ldc2_w 354, 78, 0, 0, 361, m_y0, .long 9),
  (78, .lcmp, 79, 0, 0, 0, m_y0, .null),
  (79, .ifCond .le 5, 82, 84, 0, 0, m_y0, .null),
  (82, .iconst 0, 83, 0, 0, 0, m_y0, .int 0),
  (83, .ireturn, 84, 0, 0, 0, m_y0, .null),
  (84, .aload_n 0, 85, 0, 0, 0, m_y0, .null),
  (85, .lload_n 3, 86, 3, 0, 0, m_y0, .null),
  (86, .l2i, 87, 0, 0, 0, m_y0, .null),
  (87, .lload 5, 89, 5, 0, 0, m_y0, .null),
  (89, .l2i, 90, 0, 0, 0, m_y0, .null),
  (90, .invokevirtual 91, 93, 3, 0, 301, y_C_addPiece, .null),
  (93, .iconst 1, 94, 0, 0, 0, m_y0, .int 1),
  (94, .ireturn, 95, 0, 0, 0, m_y0, .null)])
set_option maxRecDepth 100000 in
theorem k1_C_addFromRow : MOk1 M_C_addFromRow := m_ok1_of (by decide +kernel)
set_option maxRecDepth 100000 in
theorem k2_C_addFromRow : MOk2 M_C_addFromRow := m_ok2_spec (p0 := 351) (p1 := 69) (p2 := 350) (p3 := 1) (by decide +kernel)
def M_C_numberTold : MD := (y_C_numberTold, prog_1_method_53_code, 3, (some .int), (1, 2, 8), [
  (0, .iload_n 1, 1, 1, 0, 0, m_y0, .null),
  (1, .iconst 0, 2, 0, 0, 0, m_y0, .int 0),
  (2, .iconst 5, 3, 0, 0, 0, m_y0, .int 5),
  (3, .invokestatic 87, 6, 3, 0, 298, y_C_within, .null),
  (6, .ifCond .ne 5, 9, 11, 0, 0, m_y0, .null),
  (9, .iconst (-1), 10, 0, 0, 0, m_y0, .int (-1)),
  (10, .ireturn, 11, 0, 0, 0, m_y0, .null),
  (11, .iload_n 2, 12, 2, 0, 0, m_y0, .null),
  (12, .lookupswitch 84 #[(20, 44), (21, 54), (30, 64), (31, 74)], 56, 44, 0, 0, m_y0, .null),
  (56, .aload_n 0, 57, 0, 0, 0, m_y0, .null),
  (57, .getfield 10, 60, 8, 0, 251, m_y0, .null),
  (60, .iconst 0, 61, 0, 0, 0, m_y0, .int 0),
  (61, .iload_n 1, 62, 1, 0, 0, m_y0, .null),
  (62, .invokevirtual 238, 65, 3, 0, 423, y_T_get, .null),
  (65, .ireturn, 66, 0, 0, 0, m_y0, .null),
  (66, .aload_n 0, 67, 0, 0, 0, m_y0, .null),
  (67, .getfield 10, 70, 8, 0, 251, m_y0, .null),
  (70, .iconst 1, 71, 0, 0, 0, m_y0, .int 1),
  (71, .iload_n 1, 72, 1, 0, 0, m_y0, .null),
  (72, .invokevirtual 238, 75, 3, 0, 423, y_T_get, .null),
  (75, .ireturn, 76, 0, 0, 0, m_y0, .null),
  (76, .aload_n 0, 77, 0, 0, 0, m_y0, .null),
  (77, .getfield 10, 80, 8, 0, 251, m_y0, .null),
  (80, .iconst 2, 81, 0, 0, 0, m_y0, .int 2),
  (81, .iload_n 1, 82, 1, 0, 0, m_y0, .null),
  (82, .invokevirtual 238, 85, 3, 0, 423, y_T_get, .null),
  (85, .ireturn, 86, 0, 0, 0, m_y0, .null),
  (86, .aload_n 0, 87, 0, 0, 0, m_y0, .null),
  (87, .getfield 10, 90, 8, 0, 251, m_y0, .null),
  (90, .iconst 3, 91, 0, 0, 0, m_y0, .int 3),
  (91, .iload_n 1, 92, 1, 0, 0, m_y0, .null),
  (92, .invokevirtual 238, 95, 3, 0, 423, y_T_get, .null),
  (95, .ireturn, 96, 0, 0, 0, m_y0, .null),
  (96, .iconst (-1), 97, 0, 0, 0, m_y0, .int (-1)),
  (97, .ireturn, 98, 0, 0, 0, m_y0, .null)])
set_option maxRecDepth 100000 in
theorem k1_C_numberTold : MOk1 M_C_numberTold := m_ok1_of (by decide +kernel)
set_option maxRecDepth 100000 in
theorem k2_C_numberTold : MOk2 M_C_numberTold := m_ok2_spec (p0 := 422) (p1 := 69) (p2 := 421) (p3 := 6) (by decide +kernel)
def M_C_forgetNumbers : MD := (y_C_forgetNumbers, prog_1_method_54_code, 2, none, (0, 2, 8), [
  (0, .aload_n 0, 1, 0, 0, 0, m_y0, .null),
  (1, .ifnull 17, 4, 18, 0, 0, m_y0, .null),
  (4, .aload_n 0, 5, 0, 0, 0, m_y0, .null),
  (5, .dup, 6, 0, 0, 0, m_y0, .null),
  (6, .getfield 356, 9, 3, 4, 321, m_y0, .null),
  (9, .iconst 1, 10, 0, 0, 0, m_y0, .int 1),
  (10, .iload_n 1, 11, 1, 0, 0, m_y0, .null),
  (11, .ishl, 12, 0, 0, 0, m_y0, .null),
  (12, .iconst (-1), 13, 0, 0, 0, m_y0, .int (-1)),
  (13, .ixor, 14, 0, 0, 0, m_y0, .null),
  (14, .iand, 15, 0, 0, 0, m_y0, .null),
  (15, .putfield 356, 18, 3, 4, 321, m_y0, .int 0),
  (18, .return_, 19, 0, 0, 0, m_y0, .null)])
set_option maxRecDepth 100000 in
theorem k1_C_forgetNumbers : MOk1 M_C_forgetNumbers := m_ok1_of (by decide +kernel)
set_option maxRecDepth 100000 in
theorem k2_C_forgetNumbers : MOk2 M_C_forgetNumbers := m_ok2_spec (p0 := 483) (p1 := 69) (p2 := 482) (p3 := 0) (by decide +kernel)
def M_C_allTrue : MD := (y_C_allTrue, prog_1_method_55_code, 3, (some .int), (1, 0, 8), [
  (0, .bipush 100, 2, 0, 0, 0, m_y0, .int 100),
  (2, .istore_n 1, 3, 1, 0, 0, m_y0, .null),
  (3, .iconst 0, 4, 0, 0, 0, m_y0, .int 0),
  (4, .istore_n 2, 5, 2, 0, 0, m_y0, .null),
  (5, .iload_n 2, 6, 2, 0, 0, m_y0, .null),
  (6, .aload_n 0, 7, 0, 0, 0, m_y0, .null),
  (7, .getfield 66, 10, 8, 8, 259, m_y0, .null),
  (10, .if_icmp .ge 28, 13, 38, 0, 0, m_y0, .null),
  (13, .iload_n 1, 14, 1, 0, 0, m_y0, .null),
  (14, .aload_n 0, 15, 0, 0, 0, m_y0, .null),
  (15, .getfield 35, 18, 8, 3, 254, m_y0, .null),
  (18, .aload_n 0, 19, 0, 0, 0, m_y0, .null),
  (19, .iload_n 2, 20, 2, 0, 0, m_y0, .null),
  (20, .invokevirtual 117, 23, 2, 0, 397, y_C_pieceAt, .null),
  (23, .iconst 0, 24, 0, 0, 0, m_y0, .int 0),
  (24, .invokevirtual 193, 27, 3, 0, 545, y_S_percentFound, .null),
  (27, .imul, 28, 0, 0, 0, m_y0, .null),
  (28, .bipush 100, 30, 0, 0, 0, m_y0, .int 100),
  (30, .idiv, 31, 0, 0, 0, m_y0, .null),
  (31, .istore_n 1, 32, 1, 0, 0, m_y0, .null),
  (32, .iinc 2 1, 35, 2, 0, 0, m_y0, .int 1),
  (35, .goto (-30), 38, 5, 0, 0, m_y0, .null),
  (38, .iload_n 1, 39, 1, 0, 0, m_y0, .null),
  (39, .ireturn, 40, 0, 0, 0, m_y0, .null)])
set_option maxRecDepth 100000 in
theorem k1_C_allTrue : MOk1 M_C_allTrue := m_ok1_of (by decide +kernel)
set_option maxRecDepth 100000 in
theorem k2_C_allTrue : MOk2 M_C_allTrue := m_ok2_spec (p0 := 591) (p1 := 69) (p2 := 590) (p3 := 16) (by decide +kernel)
def M_C_atLeastTwoNot_0 : List (Nat × ME) := [
  (0, .lconst 1, 1, 0, 0, 0, m_y0, .long 1),
  (1, .lstore_n 1, 2, 1, 0, 0, m_y0, .null),
  (2, .lconst 0, 3, 0, 0, 0, m_y0, .long 0),
  (3, .lstore_n 3, 4, 3, 0, 0, m_y0, .null),
  (4, .lconst 0, 5, 0, 0, 0, m_y0, .long 0),
  (5, .lstore 5, 7, 5, 0, 0, m_y0, .null),
  (7, .lconst 1, 8, 0, 0, 0, m_y0, .long 1),
  (8, .lstore 7, 10, 7, 0, 0, m_y0, .null),
  (10, .iconst 0, 11, 0, 0, 0, m_y0, .int 0),
  (11, .istore 9, 13, 9, 0, 0, m_y0, .null),
  (13, .iload 9, 15, 9, 0, 0, m_y0, .null),
  (15, .aload_n 0, 16, 0, 0, 0, m_y0, .null),
  (16, .getfield 66, 19, 8, 8, 259, m_y0, .null),
  (19, .if_icmp .ge 80, 22, 99, 0, 0, m_y0, .null),
  (22, .aload_n 0, 23, 0, 0, 0, m_y0, .null),
  (23, .getfield 35, 26, 8, 3, 254, m_y0, .null),
  (26, .aload_n 0, 27, 0, 0, 0, m_y0, .null),
  (27, .iload 9, 29, 9, 0, 0, m_y0, .null),
  (29, .invokevirtual 117, 32, 2, 0, 397, y_C_pieceAt, .null),
  (32, .iconst 0, 33, 0, 0, 0, m_y0, .int 0),
  (33, .invokevirtual 193, 36, 3, 0, 545, y_S_percentFound, .null),
  (36, .i2l, 37, 0, 0, 0, m_y0, .null),
  (37, .lstore 10, 39, 10, 0, 0, m_y0, .null),
  (39, .ldc2_w 359, 42, 0, 0, 596, m_y0, .long 100),
  (42, .lload 10, 44, 10, 0, 0, m_y0, .null),
  (44, .lsub, 45, 0, 0, 0, m_y0, .null),
  (45, .lstore 12, 47, 12, 0, 0, m_y0, .null),
  (47, .lload 5, 49, 5, 0, 0, m_y0, .null),
  (49, .ldc2_w 359, 52, 0, 0, 596, m_y0, .long 100),
  (52, .lmul, 53, 0, 0, 0, m_y0, .null),
  (53, .lload_n 3, 54, 3, 0, 0, m_y0, .null),
  (54, .lload 12, 56, 12, 0, 0, m_y0, .null),
  (56, .lmul, 57, 0, 0, 0, m_y0, .null),
  (57, .ladd, 58, 0, 0, 0, m_y0, .null),
  (58, .lstore 5, 60, 5, 0, 0, m_y0, .null),
  (60, .lload_n 3, 61, 3, 0, 0, m_y0, .null),
  (61, .lload 10, 63, 10, 0, 0, m_y0, .null),
  (63, .lmul, 64, 0, 0, 0, m_y0, .null),
  (64, .lload_n 1, 65, 1, 0, 0, m_y0, .null),
  (65, .lload 12, 67, 12, 0, 0, m_y0, .null),
  (67, .lmul, 68, 0, 0, 0, m_y0, .null),
  (68, .ladd, 69, 0, 0, 0, m_y0, .null),
  (69, .lstore_n 3, 70, 3, 0, 0, m_y0, .null),
  (70, .lload_n 1, 71, 1, 0, 0, m_y0, .null),
  (71, .lload 10, 73, 10, 0, 0, m_y0, .null),
  (73, .lmul, 74, 0, 0, 0, m_y0, .null),
  (74, .lstore_n 1, 75, 1, 0, 0, m_y0, .null),
  (75, .iload 9, 77, 9, 0, 0, m_y0, .null),
  (77, .iconst 2, 78, 0, 0, 0, m_y0, .int 2),
  (78, .if_icmp .ge 7, 81, 85, 0, 0, m_y0, .null)]
def M_C_atLeastTwoNot_1 : List (Nat × ME) := [
  (81, .lconst 1, 82, 0, 0, 0, m_y0, .long 1),
  (82, .goto 9, 85, 91, 0, 0, m_y0, .null),
  (85, .lload 7, 87, 7, 0, 0, m_y0, .null),
  (87, .ldc2_w 359, 90, 0, 0, 596, m_y0, .long 100),
  (90, .lmul, 91, 0, 0, 0, m_y0, .null),
  (91, .lstore 7, 93, 7, 0, 0, m_y0, .null),
  (93, .iinc 9 1, 96, 9, 0, 0, m_y0, .int 1),
  (96, .goto (-83), 99, 13, 0, 0, m_y0, .null),
  (99, .lload 7, 101, 7, 0, 0, m_y0, .null),
  (101, .lconst 0, 102, 0, 0, 0, m_y0, .long 0),
  (102, .lcmp, 103, 0, 0, 0, m_y0, .null),
  (103, .ifCond .ne 7, 106, 110, 0, 0, m_y0, .null),
  (106, .iconst 0, 107, 0, 0, 0, m_y0, .int 0),
  (107, .goto 9, 110, 116, 0, 0, m_y0, .null),
  (110, .lload 5, 112, 5, 0, 0, m_y0, .null),
  (112, .lload 7, 114, 7, 0, 0, m_y0, .null),
  (114, .ldiv, 115, 0, 0, 0, m_y0, .null),
  (115, .l2i, 116, 0, 0, 0, m_y0, .null),
  (116, .ireturn, 117, 0, 0, 0, m_y0, .null)]
def M_C_atLeastTwoNot : MD := (y_C_atLeastTwoNot, prog_1_method_56_code, 14, (some .int), (1, 0, 8), M_C_atLeastTwoNot_0 ++ (M_C_atLeastTwoNot_1))
set_option maxRecDepth 100000 in
theorem k1_C_atLeastTwoNot_0 : M_C_atLeastTwoNot_0.all (m_eok y_C_atLeastTwoNot prog_1_method_56_code 14) = true := by decide +kernel
set_option maxRecDepth 100000 in
theorem k1_C_atLeastTwoNot_1 : M_C_atLeastTwoNot_1.all (m_eok y_C_atLeastTwoNot prog_1_method_56_code 14) = true := by decide +kernel
theorem k1_C_atLeastTwoNot : MOk1 M_C_atLeastTwoNot := m_ok1_of (m_all_app k1_C_atLeastTwoNot_0 k1_C_atLeastTwoNot_1)
set_option maxRecDepth 100000 in
theorem k2_C_atLeastTwoNot : MOk2 M_C_atLeastTwoNot := m_ok2_spec (p0 := 595) (p1 := 69) (p2 := 594) (p3 := 17) (by decide +kernel)
def M_C_whenTrue : MD := (y_C_whenTrue, prog_1_method_57_code, 2, (some .int), (1, 1, 8), [
  (0, .aload_n 1, 1, 1, 0, 0, m_y0, .null),
  (1, .ifnonnull 6, 4, 7, 0, 0, m_y0, .null),
  (4, .bipush (-2), 6, 0, 0, 0, m_y0, .int (-2)),
  (6, .ireturn, 7, 0, 0, 0, m_y0, .null),
  (7, .aload_n 0, 8, 0, 0, 0, m_y0, .null),
  (8, .getfield 35, 11, 8, 3, 254, m_y0, .null),
  (11, .aload_n 1, 12, 1, 0, 0, m_y0, .null),
  (12, .invokevirtual 181, 15, 2, 0, 522, y_S_weighFound, .null),
  (15, .pop2, 16, 0, 0, 0, m_y0, .null),
  (16, .aload_n 0, 17, 0, 0, 0, m_y0, .null),
  (17, .getfield 35, 20, 8, 3, 254, m_y0, .null),
  (20, .invokevirtual 197, 23, 1, 0, 560, y_S_greatestKind, .null),
  (23, .ifCond .ne 15, 26, 38, 0, 0, m_y0, .null),
  (26, .aload_n 0, 27, 0, 0, 0, m_y0, .null),
  (27, .getfield 35, 30, 8, 3, 254, m_y0, .null),
  (30, .aload_n 1, 31, 1, 0, 0, m_y0, .null),
  (31, .iconst 0, 32, 0, 0, 0, m_y0, .int 0),
  (32, .invokevirtual 200, 35, 3, 0, 568, y_S_timeOfGreatest, .null),
  (35, .goto 5, 38, 40, 0, 0, m_y0, .null),
  (38, .bipush (-2), 40, 0, 0, 0, m_y0, .int (-2)),
  (40, .ireturn, 41, 0, 0, 0, m_y0, .null)])
set_option maxRecDepth 100000 in
theorem k1_C_whenTrue : MOk1 M_C_whenTrue := m_ok1_of (by decide +kernel)
set_option maxRecDepth 100000 in
theorem k2_C_whenTrue : MOk2 M_C_whenTrue := m_ok2_spec (p0 := 604) (p1 := 69) (p2 := 603) (p3 := 18) (by decide +kernel)
def M_C_bestPlan : MD := (y_C_bestPlan, prog_1_method_58_code, 11, (some .int), (1, 3, 8), [
  (0, .iconst 0, 1, 0, 0, 0, m_y0, .int 0),
  (1, .istore 5, 3, 5, 0, 0, m_y0, .null),
  (3, .iconst (-1), 4, 0, 0, 0, m_y0, .int (-1)),
  (4, .istore 6, 6, 6, 0, 0, m_y0, .null),
  (6, .iconst 0, 7, 0, 0, 0, m_y0, .int 0),
  (7, .istore 7, 9, 7, 0, 0, m_y0, .null),
  (9, .iconst 0, 10, 0, 0, 0, m_y0, .int 0),
  (10, .istore 8, 12, 8, 0, 0, m_y0, .null),
  (12, .iload 8, 14, 8, 0, 0, m_y0, .null),
  (14, .bipush 64, 16, 0, 0, 0, m_y0, .int 64),
  (16, .if_icmp .ge 81, 19, 97, 0, 0, m_y0, .null),
  (19, .aload_n 0, 20, 0, 0, 0, m_y0, .null),
  (20, .getfield 10, 23, 8, 0, 251, m_y0, .null),
  (23, .iconst 2, 24, 0, 0, 0, m_y0, .int 2),
  (24, .iload 8, 26, 8, 0, 0, m_y0, .null),
  (26, .invokevirtual 262, 29, 3, 0, 658, y_T_sumOver, .null),
  (29, .istore 9, 31, 9, 0, 0, m_y0, .null),
  (31, .iload 8, 33, 8, 0, 0, m_y0, .null),
  (33, .iload_n 1, 34, 1, 0, 0, m_y0, .null),
  (34, .iconst (-1), 35, 0, 0, 0, m_y0, .int (-1)),
  (35, .ixor, 36, 0, 0, 0, m_y0, .null),
  (36, .iand, 37, 0, 0, 0, m_y0, .null),
  (37, .ifCond .ne 54, 40, 91, 0, 0, m_y0, .null),
  (40, .iload 9, 42, 9, 0, 0, m_y0, .null),
  (42, .iload_n 2, 43, 2, 0, 0, m_y0, .null),
  (43, .if_icmp .gt 48, 46, 91, 0, 0, m_y0, .null),
  (46, .aload_n 0, 47, 0, 0, 0, m_y0, .null),
  (47, .getfield 35, 50, 8, 3, 254, m_y0, .null),
  (50, .iload 8, 52, 8, 0, 0, m_y0, .null),
  (52, .lload_n 3, 53, 3, 0, 0, m_y0, .null),
  (53, .invokevirtual 251, 56, 3, 0, 645, y_S_namedBy, .null),
  (56, .istore 10, 58, 10, 0, 0, m_y0, .null),
  (58, .iload 10, 60, 10, 0, 0, m_y0, .null),
  (60, .iload 6, 62, 6, 0, 0, m_y0, .null),
  (62, .if_icmp .gt 17, 65, 79, 0, 0, m_y0, .null),
  (65, .iload 10, 67, 10, 0, 0, m_y0, .null),
  (67, .iload 6, 69, 6, 0, 0, m_y0, .null),
  (69, .if_icmp .ne 22, 72, 91, 0, 0, m_y0, .null),
  (72, .iload 9, 74, 9, 0, 0, m_y0, .null),
  (74, .iload 7, 76, 7, 0, 0, m_y0, .null),
  (76, .if_icmp .ge 15, 79, 91, 0, 0, m_y0, .null),
  (79, .iload 8, 81, 8, 0, 0, m_y0, .null),
  (81, .istore 5, 83, 5, 0, 0, m_y0, .null),
  (83, .iload 10, 85, 10, 0, 0, m_y0, .null),
  (85, .istore 6, 87, 6, 0, 0, m_y0, .null),
  (87, .iload 9, 89, 9, 0, 0, m_y0, .null),
  (89, .istore 7, 91, 7, 0, 0, m_y0, .null),
  (91, .iinc 8 1, 94, 8, 0, 0, m_y0, .int 1),
  (94, .goto (-82), 97, 12, 0, 0, m_y0, .null),
  (97, .iload 5, 99, 5, 0, 0, m_y0, .null),
  (99, .ireturn, 100, 0, 0, 0, m_y0, .null)])
set_option maxRecDepth 100000 in
theorem k1_C_bestPlan : MOk1 M_C_bestPlan := m_ok1_of (by decide +kernel)
set_option maxRecDepth 100000 in
theorem k2_C_bestPlan : MOk2 M_C_bestPlan := m_ok2_spec (p0 := 657) (p1 := 69) (p2 := 656) (p3 := 21) (by decide +kernel)
def M_C_beliefInMade : MD := (y_C_beliefInMade, prog_1_method_59_code, 3, (some .int), (1, 2, 8), [
  (0, .aload_n 0, 1, 0, 0, 0, m_y0, .null),
  (1, .getfield 35, 4, 8, 3, 254, m_y0, .null),
  (4, .iconst 0, 5, 0, 0, 0, m_y0, .int 0),
  (5, .aload_n 0, 6, 0, 0, 0, m_y0, .null),
  (6, .getfield 35, 9, 8, 3, 254, m_y0, .null),
  (9, .aload_n 1, 10, 1, 0, 0, m_y0, .null),
  (10, .bipush 63, 12, 0, 0, 0, m_y0, .int 63),
  (12, .iload_n 2, 13, 2, 0, 0, m_y0, .null),
  (13, .invokevirtual 361, 16, 4, 0, 671, y_S_weigh, .null),
  (16, .invokevirtual 269, 19, 3, 0, 672, y_S_percentOf, .null),
  (19, .ireturn, 20, 0, 0, 0, m_y0, .null)])
set_option maxRecDepth 100000 in
theorem k1_C_beliefInMade : MOk1 M_C_beliefInMade := m_ok1_of (by decide +kernel)
set_option maxRecDepth 100000 in
theorem k2_C_beliefInMade : MOk2 M_C_beliefInMade := m_ok2_spec (p0 := 670) (p1 := 69) (p2 := 669) (p3 := 22) (by decide +kernel)
def M_C_worthOf : MD := (y_C_worthOf, prog_1_method_60_code, 6, (some .int), (1, 1, 8), [
  (0, .aload_n 1, 1, 1, 0, 0, m_y0, .null),
  (1, .ifnonnull 5, 4, 6, 0, 0, m_y0, .null),
  (4, .iconst 0, 5, 0, 0, 0, m_y0, .int 0),
  (5, .ireturn, 6, 0, 0, 0, m_y0, .null),
  (6, .aload_n 0, 7, 0, 0, 0, m_y0, .null),
  (7, .getfield 35, 10, 8, 3, 254, m_y0, .null),
  (10, .aload_n 1, 11, 1, 0, 0, m_y0, .null),
  (11, .invokevirtual 181, 14, 2, 0, 522, y_S_weighFound, .null),
  (14, .lstore_n 2, 15, 2, 0, 0, m_y0, .null),
  (15, .iconst 0, 16, 0, 0, 0, m_y0, .int 0),
  (16, .istore 4, 18, 4, 0, 0, m_y0, .null),
  (18, .iconst 0, 19, 0, 0, 0, m_y0, .int 0),
  (19, .istore 5, 21, 5, 0, 0, m_y0, .null),
  (21, .iload 5, 23, 5, 0, 0, m_y0, .null),
  (23, .bipush 6, 25, 0, 0, 0, m_y0, .int 6),
  (25, .if_icmp .ge 35, 28, 60, 0, 0, m_y0, .null),
  (28, .iload 4, 30, 4, 0, 0, m_y0, .null),
  (30, .aload_n 0, 31, 0, 0, 0, m_y0, .null),
  (31, .getfield 10, 34, 8, 0, 251, m_y0, .null),
  (34, .iconst 1, 35, 0, 0, 0, m_y0, .int 1),
  (35, .iload 5, 37, 5, 0, 0, m_y0, .null),
  (37, .invokevirtual 238, 40, 3, 0, 423, y_T_get, .null),
  (40, .aload_n 0, 41, 0, 0, 0, m_y0, .null),
  (41, .getfield 35, 44, 8, 3, 254, m_y0, .null),
  (44, .iload 5, 46, 5, 0, 0, m_y0, .null),
  (46, .lload_n 2, 47, 2, 0, 0, m_y0, .null),
  (47, .invokevirtual 269, 50, 3, 0, 672, y_S_percentOf, .null),
  (50, .imul, 51, 0, 0, 0, m_y0, .null),
  (51, .iadd, 52, 0, 0, 0, m_y0, .null),
  (52, .istore 4, 54, 4, 0, 0, m_y0, .null),
  (54, .iinc 5 1, 57, 5, 0, 0, m_y0, .int 1),
  (57, .goto (-36), 60, 21, 0, 0, m_y0, .null),
  (60, .iload 4, 62, 4, 0, 0, m_y0, .null),
  (62, .bipush 100, 64, 0, 0, 0, m_y0, .int 100),
  (64, .idiv, 65, 0, 0, 0, m_y0, .null),
  (65, .ireturn, 66, 0, 0, 0, m_y0, .null)])
set_option maxRecDepth 100000 in
theorem k1_C_worthOf : MOk1 M_C_worthOf := m_ok1_of (by decide +kernel)
set_option maxRecDepth 100000 in
theorem k2_C_worthOf : MOk2 M_C_worthOf := m_ok2_spec (p0 := 693) (p1 := 69) (p2 := 692) (p3 := 23) (by decide +kernel)
def M_C_marksLookedFor : MD := (y_C_marksLookedFor, prog_1_method_61_code, 4, (some .int), (1, 0, 8), [
  (0, .iconst 0, 1, 0, 0, 0, m_y0, .int 0),
  (1, .istore_n 1, 2, 1, 0, 0, m_y0, .null),
  (2, .iconst 0, 3, 0, 0, 0, m_y0, .int 0),
  (3, .istore_n 2, 4, 2, 0, 0, m_y0, .null),
  (4, .iload_n 2, 5, 2, 0, 0, m_y0, .null),
  (5, .aload_n 0, 6, 0, 0, 0, m_y0, .null),
  (6, .getfield 66, 9, 8, 8, 259, m_y0, .null),
  (9, .if_icmp .ge 33, 12, 42, 0, 0, m_y0, .null),
  (12, .aload_n 0, 13, 0, 0, 0, m_y0, .null),
  (13, .iload_n 2, 14, 2, 0, 0, m_y0, .null),
  (14, .invokevirtual 117, 17, 2, 0, 397, y_C_pieceAt, .null),
  (17, .astore_n 3, 18, 3, 0, 0, m_y0, .null),
  (18, .iload_n 1, 19, 1, 0, 0, m_y0, .null),
  (19, .aload_n 3, 20, 3, 0, 0, m_y0, .null),
  (20, .ifnonnull 7, 23, 27, 0, 0, m_y0, .null),
  (23, .iconst 0, 24, 0, 0, 0, m_y0, .int 0),
  (24, .goto 10, 27, 34, 0, 0, m_y0, .null),
  (27, .aload_n 3, 28, 3, 0, 0, m_y0, .null),
  (28, .getfield 228, 31, 3, 2, 316, m_y0, .null),
  (31, .invokestatic 365, 34, 1, 0, 879, y_J_bits, .null),
  (34, .iadd, 35, 0, 0, 0, m_y0, .null),
  (35, .istore_n 1, 36, 1, 0, 0, m_y0, .null),
  (36, .iinc 2 1, 39, 2, 0, 0, m_y0, .int 1),
  (39, .goto (-35), 42, 4, 0, 0, m_y0, .null),
  (42, .iload_n 1, 43, 1, 0, 0, m_y0, .null),
  (43, .ireturn, 44, 0, 0, 0, m_y0, .null)])
set_option maxRecDepth 100000 in
theorem k1_C_marksLookedFor : MOk1 M_C_marksLookedFor := m_ok1_of (by decide +kernel)
set_option maxRecDepth 100000 in
theorem k2_C_marksLookedFor : MOk2 M_C_marksLookedFor := m_ok2_spec (p0 := 878) (p1 := 69) (p2 := 877) (p3 := 27) (by decide +kernel)
def M_B_init : MD := (y_B_init, prog_2_method_1_code, 1, none, (2, 0, 0), [
  (0, .aload_n 0, 1, 0, 0, 0, m_y0, .null),
  (1, .invokespecial 3, 4, 1, 0, 214, Lib.objectInit, .null),
  (4, .aload_n 0, 5, 0, 0, 0, m_y0, .null),
  (5, .bipush 50, 7, 0, 0, 0, m_y0, .int 50),
  (7, .newarray .int, 9, 0, 0, 0, m_y0, .null),
  (9, .putfield 11, 12, 0, 0, 215, m_y0, .null),
  (12, .aload_n 0, 13, 0, 0, 0, m_y0, .null),
  (13, .iconst 0, 14, 0, 0, 0, m_y0, .int 0),
  (14, .putfield 15, 17, 0, 1, 216, m_y0, .int 0),
  (17, .aload_n 0, 18, 0, 0, 0, m_y0, .null),
  (18, .bipush 24, 20, 0, 0, 0, m_y0, .int 24),
  (20, .newarray .int, 22, 0, 0, 0, m_y0, .null),
  (22, .putfield 19, 25, 0, 2, 218, m_y0, .null),
  (25, .aload_n 0, 26, 0, 0, 0, m_y0, .null),
  (26, .iconst 0, 27, 0, 0, 0, m_y0, .int 0),
  (27, .putfield 22, 30, 0, 3, 219, m_y0, .int 0),
  (30, .return_, 31, 0, 0, 0, m_y0, .null)])
set_option maxRecDepth 100000 in
theorem k1_B_init : MOk1 M_B_init := m_ok1_of (by decide +kernel)
set_option maxRecDepth 100000 in
theorem k2_B_init : MOk2 M_B_init := m_ok2_spec (p0 := 213) (p1 := 75) (p2 := 212) (p3 := 0) (by decide +kernel)
def M_B_isBodyKind : MD := (y_B_isBodyKind, prog_2_method_2_code, 1, (some .boolean), (0, 1, 0), [
  (0, .iload_n 0, 1, 0, 0, 0, m_y0, .null),
  (1, .iconst 0, 2, 0, 0, 0, m_y0, .int 0),
  (2, .bipush 7, 4, 0, 0, 0, m_y0, .int 7),
  (4, .invokestatic 25, 7, 3, 1, 759, y_C_within, .null),
  (7, .ireturn, 8, 0, 0, 0, m_y0, .null)])
set_option maxRecDepth 100000 in
theorem k1_B_isBodyKind : MOk1 M_B_isBodyKind := m_ok1_of (by decide +kernel)
set_option maxRecDepth 100000 in
theorem k2_B_isBodyKind : MOk2 M_B_isBodyKind := m_ok2_spec (p0 := 758) (p1 := 75) (p2 := 757) (p3 := 0) (by decide +kernel)
def M_B_isUnder : MD := (y_B_isUnder, prog_2_method_3_code, 4, (some .boolean), (0, 2, 0), [
  (0, .iload_n 0, 1, 0, 0, 0, m_y0, .null),
  (1, .istore_n 2, 2, 2, 0, 0, m_y0, .null),
  (2, .iconst 0, 3, 0, 0, 0, m_y0, .int 0),
  (3, .istore_n 3, 4, 3, 0, 0, m_y0, .null),
  (4, .iload_n 3, 5, 3, 0, 0, m_y0, .null),
  (5, .bipush 8, 7, 0, 0, 0, m_y0, .int 8),
  (7, .if_icmp .ge 29, 10, 36, 0, 0, m_y0, .null),
  (10, .iload_n 2, 11, 2, 0, 0, m_y0, .null),
  (11, .invokestatic 29, 14, 1, 0, 788, y_B_isBodyKind, .null),
  (14, .ifCond .eq 22, 17, 36, 0, 0, m_y0, .null),
  (17, .iload_n 2, 18, 2, 0, 0, m_y0, .null),
  (18, .iload_n 1, 19, 1, 0, 0, m_y0, .null),
  (19, .if_icmp .ne 5, 22, 24, 0, 0, m_y0, .null),
  (22, .iconst 1, 23, 0, 0, 0, m_y0, .int 1),
  (23, .ireturn, 24, 0, 0, 0, m_y0, .null),
  (24, .getstatic 33, 27, 2, 0, 789, m_y0, .null),
  (27, .iload_n 2, 28, 2, 0, 0, m_y0, .null),
  (28, .iaload, 29, 0, 0, 0, m_y0, .null),
  (29, .istore_n 2, 30, 2, 0, 0, m_y0, .null),
  (30, .iinc 3 1, 33, 3, 0, 0, m_y0, .int 1),
  (33, .goto (-29), 36, 4, 0, 0, m_y0, .null),
  (36, .iconst 0, 37, 0, 0, 0, m_y0, .int 0),
  (37, .ireturn, 38, 0, 0, 0, m_y0, .null)])
set_option maxRecDepth 100000 in
theorem k1_B_isUnder : MOk1 M_B_isUnder := m_ok1_of (by decide +kernel)
set_option maxRecDepth 100000 in
theorem k2_B_isUnder : MOk2 M_B_isUnder := m_ok2_spec (p0 := 870) (p1 := 75) (p2 := 869) (p3 := 0) (by decide +kernel)
def M_B_add : MD := (y_B_add, prog_2_method_4_code, 2, (some .int), (1, 1, 0), [
  (0, .aload_n 0, 1, 0, 0, 0, m_y0, .null),
  (1, .getfield 15, 4, 0, 1, 216, m_y0, .null),
  (4, .ifCond .lt 12, 7, 16, 0, 0, m_y0, .null),
  (7, .aload_n 0, 8, 0, 0, 0, m_y0, .null),
  (8, .getfield 15, 11, 0, 1, 216, m_y0, .null),
  (11, .bipush 50, 13, 0, 0, 0, m_y0, .int 50),
  (13, .if_icmp .lt 6, 16, 19, 0, 0, m_y0, .null),
  (16, .bipush (-3), 18, 0, 0, 0, m_y0, .int (-3)),
  (18, .ireturn, 19, 0, 0, 0, m_y0, .null),
  (19, .aload_n 0, 20, 0, 0, 0, m_y0, .null),
  (20, .getfield 11, 23, 0, 0, 215, m_y0, .null),
  (23, .aload_n 0, 24, 0, 0, 0, m_y0, .null),
  (24, .getfield 15, 27, 0, 1, 216, m_y0, .null),
  (27, .iload_n 1, 28, 1, 0, 0, m_y0, .null),
  (28, .iastore, 29, 0, 0, 0, m_y0, .null),
  (29, .aload_n 0, 30, 0, 0, 0, m_y0, .null),
  (30, .dup, 31, 0, 0, 0, m_y0, .null),
  (31, .getfield 15, 34, 0, 1, 216, m_y0, .null),
  (34, .iconst 1, 35, 0, 0, 0, m_y0, .int 1),
  (35, .iadd, 36, 0, 0, 0, m_y0, .null),
  (36, .putfield 15, 39, 0, 1, 216, m_y0, .int 0),
  (39, .aload_n 0, 40, 0, 0, 0, m_y0, .null),
  (40, .getfield 15, 43, 0, 1, 216, m_y0, .null),
  (43, .iconst 1, 44, 0, 0, 0, m_y0, .int 1),
  (44, .isub, 45, 0, 0, 0, m_y0, .null),
  (45, .ireturn, 46, 0, 0, 0, m_y0, .null)])
set_option maxRecDepth 100000 in
theorem k1_B_add : MOk1 M_B_add := m_ok1_of (by decide +kernel)
set_option maxRecDepth 100000 in
theorem k2_B_add : MOk2 M_B_add := m_ok2_spec (p0 := 763) (p1 := 75) (p2 := 761) (p3 := 762) (by decide +kernel)
def M_B_kindOf : MD := (y_B_kindOf, prog_2_method_5_code, 2, (some .int), (1, 1, 0), [
  (0, .iload_n 1, 1, 1, 0, 0, m_y0, .null),
  (1, .iconst 0, 2, 0, 0, 0, m_y0, .int 0),
  (2, .aload_n 0, 3, 0, 0, 0, m_y0, .null),
  (3, .getfield 15, 6, 0, 1, 216, m_y0, .null),
  (6, .iconst 1, 7, 0, 0, 0, m_y0, .int 1),
  (7, .isub, 8, 0, 0, 0, m_y0, .null),
  (8, .invokestatic 25, 11, 3, 1, 759, y_C_within, .null),
  (11, .ifCond .eq 18, 14, 29, 0, 0, m_y0, .null),
  (14, .iload_n 1, 15, 1, 0, 0, m_y0, .null),
  (15, .bipush 50, 17, 0, 0, 0, m_y0, .int 50),
  (17, .if_icmp .ge 12, 20, 29, 0, 0, m_y0, .null),
  (20, .aload_n 0, 21, 0, 0, 0, m_y0, .null),
  (21, .getfield 11, 24, 0, 0, 215, m_y0, .null),
  (24, .iload_n 1, 25, 1, 0, 0, m_y0, .null),
  (25, .iaload, 26, 0, 0, 0, m_y0, .null),
  (26, .goto 5, 29, 31, 0, 0, m_y0, .null),
  (29, .bipush (-2), 31, 0, 0, 0, m_y0, .int (-2)),
  (31, .ireturn, 32, 0, 0, 0, m_y0, .null)])
set_option maxRecDepth 100000 in
theorem k1_B_kindOf : MOk1 M_B_kindOf := m_ok1_of (by decide +kernel)
set_option maxRecDepth 100000 in
theorem k2_B_kindOf : MOk2 M_B_kindOf := m_ok2_spec (p0 := 775) (p1 := 75) (p2 := 773) (p3 := 774) (by decide +kernel)
def M_B_ranAt : MD := (y_B_ranAt, prog_2_method_6_code, 2, (some .int), (1, 1, 0), [
  (0, .iload_n 1, 1, 1, 0, 0, m_y0, .null),
  (1, .iconst 0, 2, 0, 0, 0, m_y0, .int 0),
  (2, .aload_n 0, 3, 0, 0, 0, m_y0, .null),
  (3, .getfield 22, 6, 0, 3, 219, m_y0, .null),
  (6, .iconst 1, 7, 0, 0, 0, m_y0, .int 1),
  (7, .isub, 8, 0, 0, 0, m_y0, .null),
  (8, .invokestatic 25, 11, 3, 1, 759, y_C_within, .null),
  (11, .ifCond .eq 18, 14, 29, 0, 0, m_y0, .null),
  (14, .iload_n 1, 15, 1, 0, 0, m_y0, .null),
  (15, .bipush 24, 17, 0, 0, 0, m_y0, .int 24),
  (17, .if_icmp .ge 12, 20, 29, 0, 0, m_y0, .null),
  (20, .aload_n 0, 21, 0, 0, 0, m_y0, .null),
  (21, .getfield 19, 24, 0, 2, 218, m_y0, .null),
  (24, .iload_n 1, 25, 1, 0, 0, m_y0, .null),
  (25, .iaload, 26, 0, 0, 0, m_y0, .null),
  (26, .goto 4, 29, 30, 0, 0, m_y0, .null),
  (29, .iconst (-1), 30, 0, 0, 0, m_y0, .int (-1)),
  (30, .ireturn, 31, 0, 0, 0, m_y0, .null)])
set_option maxRecDepth 100000 in
theorem k1_B_ranAt : MOk1 M_B_ranAt := m_ok1_of (by decide +kernel)
set_option maxRecDepth 100000 in
theorem k2_B_ranAt : MOk2 M_B_ranAt := m_ok2_spec (p0 := 802) (p1 := 75) (p2 := 800) (p3 := 801) (by decide +kernel)
def M_B_perform : MD := (y_B_perform, prog_2_method_7_code, 4, (some .int), (1, 3, 0), [
  (0, .aload_n 0, 1, 0, 0, 0, m_y0, .null),
  (1, .iconst 0, 2, 0, 0, 0, m_y0, .int 0),
  (2, .putfield 22, 5, 0, 3, 219, m_y0, .int 0),
  (5, .iload_n 2, 6, 2, 0, 0, m_y0, .null),
  (6, .iconst 0, 7, 0, 0, 0, m_y0, .int 0),
  (7, .iconst 3, 8, 0, 0, 0, m_y0, .int 3),
  (8, .invokestatic 25, 11, 3, 1, 759, y_C_within, .null),
  (11, .ifCond .eq 19, 14, 30, 0, 0, m_y0, .null),
  (14, .aload_n 0, 15, 0, 0, 0, m_y0, .null),
  (15, .iload_n 1, 16, 1, 0, 0, m_y0, .null),
  (16, .aload_n 0, 17, 0, 0, 0, m_y0, .null),
  (17, .iload_n 1, 18, 1, 0, 0, m_y0, .null),
  (18, .invokevirtual 36, 21, 2, 0, 772, y_B_kindOf, .null),
  (21, .iload_n 2, 22, 2, 0, 0, m_y0, .null),
  (22, .iload_n 3, 23, 3, 0, 0, m_y0, .null),
  (23, .iconst 0, 24, 0, 0, 0, m_y0, .int 0),
  (24, .invokevirtual 40, 27, 6, 0, 776, y_B_run, .null),
  (27, .goto 4, 30, 31, 0, 0, m_y0, .null),
  (30, .iconst 0, 31, 0, 0, 0, m_y0, .int 0),
  (31, .ireturn, 32, 0, 0, 0, m_y0, .null)])
set_option maxRecDepth 100000 in
theorem k1_B_perform : MOk1 M_B_perform := m_ok1_of (by decide +kernel)
set_option maxRecDepth 100000 in
theorem k2_B_perform : MOk2 M_B_perform := m_ok2_spec (p0 := 771) (p1 := 75) (p2 := 769) (p3 := 770) (by decide +kernel)
def M_B_bodyIn : MD := (y_B_bodyIn, prog_2_method_8_code, 3, (some .int), (0, 2, 0), [
  (0, .iload_n 0, 1, 0, 0, 0, m_y0, .null),
  (1, .iconst 4, 2, 0, 0, 0, m_y0, .int 4),
  (2, .imul, 3, 0, 0, 0, m_y0, .null),
  (3, .iload_n 1, 4, 1, 0, 0, m_y0, .null),
  (4, .iadd, 5, 0, 0, 0, m_y0, .null),
  (5, .istore_n 2, 6, 2, 0, 0, m_y0, .null),
  (6, .iload_n 2, 7, 2, 0, 0, m_y0, .null),
  (7, .ifCond .lt 19, 10, 26, 0, 0, m_y0, .null),
  (10, .iload_n 2, 11, 2, 0, 0, m_y0, .null),
  (11, .getstatic 44, 14, 3, 0, 783, m_y0, .null),
  (14, .arraylength, 15, 0, 0, 0, m_y0, .null),
  (15, .if_icmp .ge 11, 18, 26, 0, 0, m_y0, .null),
  (18, .getstatic 44, 21, 3, 0, 783, m_y0, .null),
  (21, .iload_n 2, 22, 2, 0, 0, m_y0, .null),
  (22, .iaload, 23, 0, 0, 0, m_y0, .null),
  (23, .goto 4, 26, 27, 0, 0, m_y0, .null),
  (26, .iconst 0, 27, 0, 0, 0, m_y0, .int 0),
  (27, .ireturn, 28, 0, 0, 0, m_y0, .null)])
set_option maxRecDepth 100000 in
theorem k1_B_bodyIn : MOk1 M_B_bodyIn := m_ok1_of (by decide +kernel)
set_option maxRecDepth 100000 in
theorem k2_B_bodyIn : MOk2 M_B_bodyIn := m_ok2_spec (p0 := 782) (p1 := 75) (p2 := 781) (p3 := 0) (by decide +kernel)
def M_B_above : MD := (y_B_above, prog_2_method_9_code, 1, (some .int), (0, 1, 0), [
  (0, .iload_n 0, 1, 0, 0, 0, m_y0, .null),
  (1, .invokestatic 29, 4, 1, 0, 788, y_B_isBodyKind, .null),
  (4, .ifCond .eq 11, 7, 15, 0, 0, m_y0, .null),
  (7, .getstatic 33, 10, 2, 0, 789, m_y0, .null),
  (10, .iload_n 0, 11, 0, 0, 0, m_y0, .null),
  (11, .iaload, 12, 0, 0, 0, m_y0, .null),
  (12, .goto 4, 15, 16, 0, 0, m_y0, .null),
  (15, .iconst (-1), 16, 0, 0, 0, m_y0, .int (-1)),
  (16, .ireturn, 17, 0, 0, 0, m_y0, .null)])
set_option maxRecDepth 100000 in
theorem k1_B_above : MOk1 M_B_above := m_ok1_of (by decide +kernel)
set_option maxRecDepth 100000 in
theorem k2_B_above : MOk2 M_B_above := m_ok2_spec (p0 := 787) (p1 := 75) (p2 := 786) (p3 := 0) (by decide +kernel)
def M_B_run_0 : List (Nat × ME) := [
  (0, .iload_n 2, 1, 2, 0, 0, m_y0, .null),
  (1, .istore 6, 3, 6, 0, 0, m_y0, .null),
  (3, .iconst 0, 4, 0, 0, 0, m_y0, .int 0),
  (4, .istore 7, 6, 7, 0, 0, m_y0, .null),
  (6, .iload 7, 8, 7, 0, 0, m_y0, .null),
  (8, .bipush 8, 10, 0, 0, 0, m_y0, .int 8),
  (10, .if_icmp .ge 30, 13, 40, 0, 0, m_y0, .null),
  (13, .iload 6, 15, 6, 0, 0, m_y0, .null),
  (15, .ifCond .le 25, 18, 40, 0, 0, m_y0, .null),
  (18, .iload 6, 20, 6, 0, 0, m_y0, .null),
  (20, .iload_n 3, 21, 3, 0, 0, m_y0, .null),
  (21, .invokestatic 47, 24, 2, 0, 780, y_B_bodyIn, .null),
  (24, .ifCond .ne 16, 27, 40, 0, 0, m_y0, .null),
  (27, .iload 6, 29, 6, 0, 0, m_y0, .null),
  (29, .invokestatic 51, 32, 1, 0, 785, y_B_above, .null),
  (32, .istore 6, 34, 6, 0, 0, m_y0, .null),
  (34, .iinc 7 1, 37, 7, 0, 0, m_y0, .int 1),
  (37, .goto (-31), 40, 6, 0, 0, m_y0, .null),
  (40, .iload 6, 42, 6, 0, 0, m_y0, .null),
  (42, .ifCond .lt 10, 45, 52, 0, 0, m_y0, .null),
  (45, .iload 5, 47, 5, 0, 0, m_y0, .null),
  (47, .bipush 40, 49, 0, 0, 0, m_y0, .int 40),
  (49, .if_icmp .le 5, 52, 54, 0, 0, m_y0, .null),
  (52, .iconst 0, 53, 0, 0, 0, m_y0, .int 0),
  (53, .ireturn, 54, 0, 0, 0, m_y0, .null),
  (54, .iload 6, 56, 6, 0, 0, m_y0, .null),
  (56, .invokestatic 51, 59, 1, 0, 785, y_B_above, .null),
  (59, .istore 7, 61, 7, 0, 0, m_y0, .null),
  (61, .aload_n 0, 62, 0, 0, 0, m_y0, .null),
  (62, .iload_n 1, 63, 1, 0, 0, m_y0, .null),
  (63, .invokevirtual 36, 66, 2, 0, 772, y_B_kindOf, .null),
  (66, .istore 8, 68, 8, 0, 0, m_y0, .null),
  (68, .iload 5, 70, 5, 0, 0, m_y0, .null),
  (70, .iconst 1, 71, 0, 0, 0, m_y0, .int 1),
  (71, .iadd, 72, 0, 0, 0, m_y0, .null),
  (72, .istore 9, 74, 9, 0, 0, m_y0, .null),
  (74, .iload 6, 76, 6, 0, 0, m_y0, .null),
  (76, .iload_n 3, 77, 3, 0, 0, m_y0, .null),
  (77, .invokestatic 47, 80, 2, 0, 780, y_B_bodyIn, .null),
  (80, .istore 10, 82, 10, 0, 0, m_y0, .null),
  (82, .aload_n 0, 83, 0, 0, 0, m_y0, .null),
  (83, .iload 10, 85, 10, 0, 0, m_y0, .null),
  (85, .invokevirtual 54, 88, 2, 0, 791, y_B_note, .null),
  (88, .iload 10, 90, 10, 0, 0, m_y0, .null),
  (90, .lookupswitch 318 #[(1, 114), (2, 119), (10, 144), (11, 159), (20, 164), (30, 179), (40, 193), (41, 208), (50, 223), (60, 248), (70, 263), (80, 278), (81, 303)], 204, 114, 0, 0, m_y0, .null),
  (204, .iload 4, 206, 4, 0, 0, m_y0, .null),
  (206, .iload_n 1, 207, 1, 0, 0, m_y0, .null),
  (207, .iadd, 208, 0, 0, 0, m_y0, .null),
  (208, .ireturn, 209, 0, 0, 0, m_y0, .null),
  (209, .aload_n 0, 210, 0, 0, 0, m_y0, .null)]
def M_B_run_1 : List (Nat × ME) := [
  (210, .iload_n 1, 211, 1, 0, 0, m_y0, .null),
  (211, .iload 8, 213, 8, 0, 0, m_y0, .null),
  (213, .iconst 1, 214, 0, 0, 0, m_y0, .int 1),
  (214, .iload 4, 216, 4, 0, 0, m_y0, .null),
  (216, .iload 9, 218, 9, 0, 0, m_y0, .null),
  (218, .invokevirtual 40, 221, 6, 0, 776, y_B_run, .null),
  (221, .aload_n 0, 222, 0, 0, 0, m_y0, .null),
  (222, .iload_n 1, 223, 1, 0, 0, m_y0, .null),
  (223, .iload 8, 225, 8, 0, 0, m_y0, .null),
  (225, .iconst 2, 226, 0, 0, 0, m_y0, .int 2),
  (226, .iconst 1, 227, 0, 0, 0, m_y0, .int 1),
  (227, .iload 9, 229, 9, 0, 0, m_y0, .null),
  (229, .invokevirtual 40, 232, 6, 0, 776, y_B_run, .null),
  (232, .isub, 233, 0, 0, 0, m_y0, .null),
  (233, .ireturn, 234, 0, 0, 0, m_y0, .null),
  (234, .aload_n 0, 235, 0, 0, 0, m_y0, .null),
  (235, .iload_n 1, 236, 1, 0, 0, m_y0, .null),
  (236, .iload 8, 238, 8, 0, 0, m_y0, .null),
  (238, .iconst 0, 239, 0, 0, 0, m_y0, .int 0),
  (239, .iload 4, 241, 4, 0, 0, m_y0, .null),
  (241, .iload 9, 243, 9, 0, 0, m_y0, .null),
  (243, .invokevirtual 40, 246, 6, 0, 776, y_B_run, .null),
  (246, .iconst 2, 247, 0, 0, 0, m_y0, .int 2),
  (247, .imul, 248, 0, 0, 0, m_y0, .null),
  (248, .ireturn, 249, 0, 0, 0, m_y0, .null),
  (249, .iload 4, 251, 4, 0, 0, m_y0, .null),
  (251, .iload_n 1, 252, 1, 0, 0, m_y0, .null),
  (252, .ixor, 253, 0, 0, 0, m_y0, .null),
  (253, .ireturn, 254, 0, 0, 0, m_y0, .null),
  (254, .aload_n 0, 255, 0, 0, 0, m_y0, .null),
  (255, .iload_n 1, 256, 1, 0, 0, m_y0, .null),
  (256, .iload 7, 258, 7, 0, 0, m_y0, .null),
  (258, .iconst 0, 259, 0, 0, 0, m_y0, .int 0),
  (259, .iload 4, 261, 4, 0, 0, m_y0, .null),
  (261, .iload 9, 263, 9, 0, 0, m_y0, .null),
  (263, .invokevirtual 40, 266, 6, 0, 776, y_B_run, .null),
  (266, .iconst 3, 267, 0, 0, 0, m_y0, .int 3),
  (267, .iadd, 268, 0, 0, 0, m_y0, .null),
  (268, .ireturn, 269, 0, 0, 0, m_y0, .null),
  (269, .aload_n 0, 270, 0, 0, 0, m_y0, .null),
  (270, .iload_n 1, 271, 1, 0, 0, m_y0, .null),
  (271, .iload 7, 273, 7, 0, 0, m_y0, .null),
  (273, .iconst 1, 274, 0, 0, 0, m_y0, .int 1),
  (274, .iload 4, 276, 4, 0, 0, m_y0, .null),
  (276, .iload 9, 278, 9, 0, 0, m_y0, .null),
  (278, .invokevirtual 40, 281, 6, 0, 776, y_B_run, .null),
  (281, .ineg, 282, 0, 0, 0, m_y0, .null),
  (282, .ireturn, 283, 0, 0, 0, m_y0, .null),
  (283, .aload_n 0, 284, 0, 0, 0, m_y0, .null),
  (284, .iload_n 1, 285, 1, 0, 0, m_y0, .null)]
def M_B_run_2 : List (Nat × ME) := [
  (285, .iload 7, 287, 7, 0, 0, m_y0, .null),
  (287, .iconst 2, 288, 0, 0, 0, m_y0, .int 2),
  (288, .iload 4, 290, 4, 0, 0, m_y0, .null),
  (290, .iload 9, 292, 9, 0, 0, m_y0, .null),
  (292, .invokevirtual 40, 295, 6, 0, 776, y_B_run, .null),
  (295, .iconst 3, 296, 0, 0, 0, m_y0, .int 3),
  (296, .imul, 297, 0, 0, 0, m_y0, .null),
  (297, .ireturn, 298, 0, 0, 0, m_y0, .null),
  (298, .aload_n 0, 299, 0, 0, 0, m_y0, .null),
  (299, .iload_n 1, 300, 1, 0, 0, m_y0, .null),
  (300, .iload 7, 302, 7, 0, 0, m_y0, .null),
  (302, .iconst 1, 303, 0, 0, 0, m_y0, .int 1),
  (303, .iload 4, 305, 4, 0, 0, m_y0, .null),
  (305, .iconst 1, 306, 0, 0, 0, m_y0, .int 1),
  (306, .iadd, 307, 0, 0, 0, m_y0, .null),
  (307, .iload 9, 309, 9, 0, 0, m_y0, .null),
  (309, .invokevirtual 40, 312, 6, 0, 776, y_B_run, .null),
  (312, .ireturn, 313, 0, 0, 0, m_y0, .null),
  (313, .aload_n 0, 314, 0, 0, 0, m_y0, .null),
  (314, .iload_n 1, 315, 1, 0, 0, m_y0, .null),
  (315, .iload 7, 317, 7, 0, 0, m_y0, .null),
  (317, .iconst 2, 318, 0, 0, 0, m_y0, .int 2),
  (318, .iload 4, 320, 4, 0, 0, m_y0, .null),
  (320, .iload 9, 322, 9, 0, 0, m_y0, .null),
  (322, .invokevirtual 40, 325, 6, 0, 776, y_B_run, .null),
  (325, .aload_n 0, 326, 0, 0, 0, m_y0, .null),
  (326, .iload_n 1, 327, 1, 0, 0, m_y0, .null),
  (327, .iload 8, 329, 8, 0, 0, m_y0, .null),
  (329, .iconst 0, 330, 0, 0, 0, m_y0, .int 0),
  (330, .iconst 2, 331, 0, 0, 0, m_y0, .int 2),
  (331, .iload 9, 333, 9, 0, 0, m_y0, .null),
  (333, .invokevirtual 40, 336, 6, 0, 776, y_B_run, .null),
  (336, .isub, 337, 0, 0, 0, m_y0, .null),
  (337, .ireturn, 338, 0, 0, 0, m_y0, .null),
  (338, .aload_n 0, 339, 0, 0, 0, m_y0, .null),
  (339, .iload_n 1, 340, 1, 0, 0, m_y0, .null),
  (340, .iload 7, 342, 7, 0, 0, m_y0, .null),
  (342, .iconst 3, 343, 0, 0, 0, m_y0, .int 3),
  (343, .iload 4, 345, 4, 0, 0, m_y0, .null),
  (345, .iload 9, 347, 9, 0, 0, m_y0, .null),
  (347, .invokevirtual 40, 350, 6, 0, 776, y_B_run, .null),
  (350, .iconst 5, 351, 0, 0, 0, m_y0, .int 5),
  (351, .ixor, 352, 0, 0, 0, m_y0, .null),
  (352, .ireturn, 353, 0, 0, 0, m_y0, .null),
  (353, .aload_n 0, 354, 0, 0, 0, m_y0, .null),
  (354, .iload_n 1, 355, 1, 0, 0, m_y0, .null),
  (355, .iload 7, 357, 7, 0, 0, m_y0, .null),
  (357, .iconst 0, 358, 0, 0, 0, m_y0, .int 0),
  (358, .iload 4, 360, 4, 0, 0, m_y0, .null),
  (360, .iload 9, 362, 9, 0, 0, m_y0, .null)]
def M_B_run_3 : List (Nat × ME) := [
  (362, .invokevirtual 40, 365, 6, 0, 776, y_B_run, .null),
  (365, .iconst 2, 366, 0, 0, 0, m_y0, .int 2),
  (366, .imul, 367, 0, 0, 0, m_y0, .null),
  (367, .ireturn, 368, 0, 0, 0, m_y0, .null),
  (368, .aload_n 0, 369, 0, 0, 0, m_y0, .null),
  (369, .iload_n 1, 370, 1, 0, 0, m_y0, .null),
  (370, .iload 7, 372, 7, 0, 0, m_y0, .null),
  (372, .iconst 1, 373, 0, 0, 0, m_y0, .int 1),
  (373, .iload 4, 375, 4, 0, 0, m_y0, .null),
  (375, .iload 9, 377, 9, 0, 0, m_y0, .null),
  (377, .invokevirtual 40, 380, 6, 0, 776, y_B_run, .null),
  (380, .aload_n 0, 381, 0, 0, 0, m_y0, .null),
  (381, .iload_n 1, 382, 1, 0, 0, m_y0, .null),
  (382, .iload 8, 384, 8, 0, 0, m_y0, .null),
  (384, .iconst 2, 385, 0, 0, 0, m_y0, .int 2),
  (385, .iconst 2, 386, 0, 0, 0, m_y0, .int 2),
  (386, .iload 9, 388, 9, 0, 0, m_y0, .null),
  (388, .invokevirtual 40, 391, 6, 0, 776, y_B_run, .null),
  (391, .iadd, 392, 0, 0, 0, m_y0, .null),
  (392, .ireturn, 393, 0, 0, 0, m_y0, .null),
  (393, .aload_n 0, 394, 0, 0, 0, m_y0, .null),
  (394, .iload_n 1, 395, 1, 0, 0, m_y0, .null),
  (395, .iload 7, 397, 7, 0, 0, m_y0, .null),
  (397, .iconst 3, 398, 0, 0, 0, m_y0, .int 3),
  (398, .iload 4, 400, 4, 0, 0, m_y0, .null),
  (400, .iload 9, 402, 9, 0, 0, m_y0, .null),
  (402, .invokevirtual 40, 405, 6, 0, 776, y_B_run, .null),
  (405, .iconst 1, 406, 0, 0, 0, m_y0, .int 1),
  (406, .isub, 407, 0, 0, 0, m_y0, .null),
  (407, .ireturn, 408, 0, 0, 0, m_y0, .null),
  (408, .iconst 0, 409, 0, 0, 0, m_y0, .int 0),
  (409, .ireturn, 410, 0, 0, 0, m_y0, .null)]
def M_B_run : MD := (y_B_run, prog_2_method_10_code, 11, (some .int), (1, 5, 0), M_B_run_0 ++ (M_B_run_1 ++ (M_B_run_2 ++ (M_B_run_3))))
set_option maxRecDepth 100000 in
theorem k1_B_run_0 : M_B_run_0.all (m_eok y_B_run prog_2_method_10_code 11) = true := by decide +kernel
set_option maxRecDepth 100000 in
theorem k1_B_run_1 : M_B_run_1.all (m_eok y_B_run prog_2_method_10_code 11) = true := by decide +kernel
set_option maxRecDepth 100000 in
theorem k1_B_run_2 : M_B_run_2.all (m_eok y_B_run prog_2_method_10_code 11) = true := by decide +kernel
set_option maxRecDepth 100000 in
theorem k1_B_run_3 : M_B_run_3.all (m_eok y_B_run prog_2_method_10_code 11) = true := by decide +kernel
theorem k1_B_run : MOk1 M_B_run := m_ok1_of (m_all_app k1_B_run_0 (m_all_app k1_B_run_1 (m_all_app k1_B_run_2 k1_B_run_3)))
set_option maxRecDepth 100000 in
theorem k2_B_run : MOk2 M_B_run := m_ok2_spec (p0 := 779) (p1 := 75) (p2 := 778) (p3 := 24) (by decide +kernel)
def M_B_note : MD := (y_B_note, prog_2_method_11_code, 2, none, (1, 1, 0), [
  (0, .aload_n 0, 1, 0, 0, 0, m_y0, .null),
  (1, .getfield 22, 4, 0, 3, 219, m_y0, .null),
  (4, .ifCond .lt 22, 7, 26, 0, 0, m_y0, .null),
  (7, .aload_n 0, 8, 0, 0, 0, m_y0, .null),
  (8, .getfield 22, 11, 0, 3, 219, m_y0, .null),
  (11, .bipush 24, 13, 0, 0, 0, m_y0, .int 24),
  (13, .if_icmp .ge 13, 16, 26, 0, 0, m_y0, .null),
  (16, .aload_n 0, 17, 0, 0, 0, m_y0, .null),
  (17, .getfield 19, 20, 0, 2, 218, m_y0, .null),
  (20, .aload_n 0, 21, 0, 0, 0, m_y0, .null),
  (21, .getfield 22, 24, 0, 3, 219, m_y0, .null),
  (24, .iload_n 1, 25, 1, 0, 0, m_y0, .null),
  (25, .iastore, 26, 0, 0, 0, m_y0, .null),
  (26, .aload_n 0, 27, 0, 0, 0, m_y0, .null),
  (27, .dup, 28, 0, 0, 0, m_y0, .null),
  (28, .getfield 22, 31, 0, 3, 219, m_y0, .null),
  (31, .iconst 1, 32, 0, 0, 0, m_y0, .int 1),
  (32, .iadd, 33, 0, 0, 0, m_y0, .null),
  (33, .putfield 22, 36, 0, 3, 219, m_y0, .int 0),
  (36, .return_, 37, 0, 0, 0, m_y0, .null)])
set_option maxRecDepth 100000 in
theorem k1_B_note : MOk1 M_B_note := m_ok1_of (by decide +kernel)
set_option maxRecDepth 100000 in
theorem k2_B_note : MOk2 M_B_note := m_ok2_spec (p0 := 794) (p1 := 75) (p2 := 793) (p3 := 25) (by decide +kernel)
def M_L_init : MD := (y_L_init, prog_3_method_1_code, 1, none, (2, 0, 1), [
  (0, .aload_n 0, 1, 0, 0, 0, m_y0, .null),
  (1, .invokespecial 3, 4, 1, 0, 123, Lib.objectInit, .null),
  (4, .aload_n 0, 5, 0, 0, 0, m_y0, .null),
  (5, .sipush 720, 8, 0, 0, 0, m_y0, .int 720),
  (8, .newarray .int, 10, 0, 0, 0, m_y0, .null),
  (10, .putfield 11, 13, 1, 0, 124, m_y0, .null),
  (13, .aload_n 0, 14, 0, 0, 0, m_y0, .null),
  (14, .bipush 6, 16, 0, 0, 0, m_y0, .int 6),
  (16, .newarray .int, 18, 0, 0, 0, m_y0, .null),
  (18, .putfield 15, 21, 1, 1, 125, m_y0, .null),
  (21, .aload_n 0, 22, 0, 0, 0, m_y0, .null),
  (22, .bipush 120, 24, 0, 0, 0, m_y0, .int 120),
  (24, .newarray .int, 26, 0, 0, 0, m_y0, .null),
  (26, .putfield 18, 29, 1, 2, 126, m_y0, .null),
  (29, .return_, 30, 0, 0, 0, m_y0, .null)])
set_option maxRecDepth 100000 in
theorem k1_L_init : MOk1 M_L_init := m_ok1_of (by decide +kernel)
set_option maxRecDepth 100000 in
theorem k2_L_init : MOk2 M_L_init := m_ok2_spec (p0 := 122) (p1 := 71) (p2 := 121) (p3 := 0) (by decide +kernel)
def M_L_set : MD := (y_L_set, prog_3_method_2_code, 4, none, (1, 3, 1), [
  (0, .iload_n 1, 1, 1, 0, 0, m_y0, .null),
  (1, .invokestatic 21, 4, 1, 1, 478, y_C_isMark, .null),
  (4, .ifCond .eq 40, 7, 44, 0, 0, m_y0, .null),
  (7, .iload_n 3, 8, 3, 0, 0, m_y0, .null),
  (8, .iconst 0, 9, 0, 0, 0, m_y0, .int 0),
  (9, .bipush 120, 11, 0, 0, 0, m_y0, .int 120),
  (11, .invokestatic 25, 14, 3, 1, 479, y_C_within, .null),
  (14, .ifCond .eq 30, 17, 44, 0, 0, m_y0, .null),
  (17, .iload_n 3, 18, 3, 0, 0, m_y0, .null),
  (18, .aload_n 2, 19, 2, 0, 0, m_y0, .null),
  (19, .arraylength, 20, 0, 0, 0, m_y0, .null),
  (20, .if_icmp .gt 24, 23, 44, 0, 0, m_y0, .null),
  (23, .aload_n 2, 24, 2, 0, 0, m_y0, .null),
  (24, .iconst 0, 25, 0, 0, 0, m_y0, .int 0),
  (25, .aload_n 0, 26, 0, 0, 0, m_y0, .null),
  (26, .getfield 11, 29, 1, 0, 124, m_y0, .null),
  (29, .iload_n 1, 30, 1, 0, 0, m_y0, .null),
  (30, .bipush 120, 32, 0, 0, 0, m_y0, .int 120),
  (32, .imul, 33, 0, 0, 0, m_y0, .null),
  (33, .iload_n 3, 34, 3, 0, 0, m_y0, .null),
  (34, .invokestatic 29, 37, 5, 0, 480, arraycopyName, .null),
  (37, .aload_n 0, 38, 0, 0, 0, m_y0, .null),
  (38, .getfield 15, 41, 1, 1, 125, m_y0, .null),
  (41, .iload_n 1, 42, 1, 0, 0, m_y0, .null),
  (42, .iload_n 3, 43, 3, 0, 0, m_y0, .null),
  (43, .iastore, 44, 0, 0, 0, m_y0, .null),
  (44, .return_, 45, 0, 0, 0, m_y0, .null)])
set_option maxRecDepth 100000 in
theorem k1_L_set : MOk1 M_L_set := m_ok1_of (by decide +kernel)
set_option maxRecDepth 100000 in
theorem k2_L_set : MOk2 M_L_set := m_ok2_spec (p0 := 477) (p1 := 71) (p2 := 475) (p3 := 476) (by decide +kernel)
def M_L_worth_0 : List (Nat × ME) := [
  (0, .iload_n 1, 1, 1, 0, 0, m_y0, .null),
  (1, .invokestatic 21, 4, 1, 1, 478, y_C_isMark, .null),
  (4, .ifCond .eq 12, 7, 16, 0, 0, m_y0, .null),
  (7, .aload_n 0, 8, 0, 0, 0, m_y0, .null),
  (8, .getfield 15, 11, 1, 1, 125, m_y0, .null),
  (11, .iload_n 1, 12, 1, 0, 0, m_y0, .null),
  (12, .iaload, 13, 0, 0, 0, m_y0, .null),
  (13, .ifCond .ne 6, 16, 19, 0, 0, m_y0, .null),
  (16, .bipush 50, 18, 0, 0, 0, m_y0, .int 50),
  (18, .ireturn, 19, 0, 0, 0, m_y0, .null),
  (19, .iload_n 1, 20, 1, 0, 0, m_y0, .null),
  (20, .bipush 120, 22, 0, 0, 0, m_y0, .int 120),
  (22, .imul, 23, 0, 0, 0, m_y0, .null),
  (23, .aload_n 0, 24, 0, 0, 0, m_y0, .null),
  (24, .getfield 15, 27, 1, 1, 125, m_y0, .null),
  (27, .iload_n 1, 28, 1, 0, 0, m_y0, .null),
  (28, .iaload, 29, 0, 0, 0, m_y0, .null),
  (29, .iadd, 30, 0, 0, 0, m_y0, .null),
  (30, .aload_n 0, 31, 0, 0, 0, m_y0, .null),
  (31, .getfield 11, 34, 1, 0, 124, m_y0, .null),
  (34, .arraylength, 35, 0, 0, 0, m_y0, .null),
  (35, .invokestatic 35, 38, 2, 0, 502, y_J_minI, .null),
  (38, .istore 6, 40, 6, 0, 0, m_y0, .null),
  (40, .iconst 0, 41, 0, 0, 0, m_y0, .int 0),
  (41, .istore 7, 43, 7, 0, 0, m_y0, .null),
  (43, .iconst 0, 44, 0, 0, 0, m_y0, .int 0),
  (44, .istore 8, 46, 8, 0, 0, m_y0, .null),
  (46, .iload_n 1, 47, 1, 0, 0, m_y0, .null),
  (47, .bipush 120, 49, 0, 0, 0, m_y0, .int 120),
  (49, .imul, 50, 0, 0, 0, m_y0, .null),
  (50, .istore 9, 52, 9, 0, 0, m_y0, .null),
  (52, .iload 9, 54, 9, 0, 0, m_y0, .null),
  (54, .iload 6, 56, 6, 0, 0, m_y0, .null),
  (56, .if_icmp .ge 337, 59, 393, 0, 0, m_y0, .null),
  (59, .aload_n 0, 60, 0, 0, 0, m_y0, .null),
  (60, .getfield 11, 63, 1, 0, 124, m_y0, .null),
  (63, .iload 9, 65, 9, 0, 0, m_y0, .null),
  (65, .iaload, 66, 0, 0, 0, m_y0, .null),
  (66, .istore 10, 68, 10, 0, 0, m_y0, .null),
  (68, .iload 8, 70, 8, 0, 0, m_y0, .null),
  (70, .ifCond .eq 20, 73, 90, 0, 0, m_y0, .null),
  (73, .iload 10, 75, 10, 0, 0, m_y0, .null),
  (75, .bipush (-59), 77, 0, 0, 0, m_y0, .int (-59)),
  (77, .if_icmp .eq 7, 80, 84, 0, 0, m_y0, .null),
  (80, .iconst 1, 81, 0, 0, 0, m_y0, .int 1),
  (81, .goto 4, 84, 85, 0, 0, m_y0, .null),
  (84, .iconst 0, 85, 0, 0, 0, m_y0, .int 0),
  (85, .istore 8, 87, 8, 0, 0, m_y0, .null),
  (87, .goto 300, 90, 387, 0, 0, m_y0, .null),
  (90, .iload 7, 92, 7, 0, 0, m_y0, .null)]
def M_L_worth_1 : List (Nat × ME) := [
  (92, .iconst 1, 93, 0, 0, 0, m_y0, .int 1),
  (93, .aload_n 0, 94, 0, 0, 0, m_y0, .null),
  (94, .getfield 18, 97, 1, 2, 126, m_y0, .null),
  (97, .arraylength, 98, 0, 0, 0, m_y0, .null),
  (98, .invokestatic 25, 101, 3, 1, 479, y_C_within, .null),
  (101, .ifCond .eq 15, 104, 116, 0, 0, m_y0, .null),
  (104, .aload_n 0, 105, 0, 0, 0, m_y0, .null),
  (105, .getfield 18, 108, 1, 2, 126, m_y0, .null),
  (108, .iload 7, 110, 7, 0, 0, m_y0, .null),
  (110, .iconst 1, 111, 0, 0, 0, m_y0, .int 1),
  (111, .isub, 112, 0, 0, 0, m_y0, .null),
  (112, .iaload, 113, 0, 0, 0, m_y0, .null),
  (113, .goto 4, 116, 117, 0, 0, m_y0, .null),
  (116, .iconst 0, 117, 0, 0, 0, m_y0, .int 0),
  (117, .istore 11, 119, 11, 0, 0, m_y0, .null),
  (119, .iload 7, 121, 7, 0, 0, m_y0, .null),
  (121, .iconst 2, 122, 0, 0, 0, m_y0, .int 2),
  (122, .aload_n 0, 123, 0, 0, 0, m_y0, .null),
  (123, .getfield 18, 126, 1, 2, 126, m_y0, .null),
  (126, .arraylength, 127, 0, 0, 0, m_y0, .null),
  (127, .invokestatic 25, 130, 3, 1, 479, y_C_within, .null),
  (130, .ifCond .eq 15, 133, 145, 0, 0, m_y0, .null),
  (133, .aload_n 0, 134, 0, 0, 0, m_y0, .null),
  (134, .getfield 18, 137, 1, 2, 126, m_y0, .null),
  (137, .iload 7, 139, 7, 0, 0, m_y0, .null),
  (139, .iconst 2, 140, 0, 0, 0, m_y0, .int 2),
  (140, .isub, 141, 0, 0, 0, m_y0, .null),
  (141, .iaload, 142, 0, 0, 0, m_y0, .null),
  (142, .goto 4, 145, 146, 0, 0, m_y0, .null),
  (145, .iconst 0, 146, 0, 0, 0, m_y0, .int 0),
  (146, .istore 12, 148, 12, 0, 0, m_y0, .null),
  (148, .iconst 2, 149, 0, 0, 0, m_y0, .int 2),
  (149, .istore 13, 151, 13, 0, 0, m_y0, .null),
  (151, .iconst 0, 152, 0, 0, 0, m_y0, .int 0),
  (152, .istore 14, 154, 14, 0, 0, m_y0, .null),
  (154, .iload 10, 156, 10, 0, 0, m_y0, .null),
  (156, .lookupswitch 164 #[(-126, 153), (-121, 97), (-119, 115), (-112, 125), (-107, 106), (-63, 79), (-59, 76), (-33, 135)], 232, 76, 0, 0, m_y0, .null),
  (232, .iload 11, 234, 11, 0, 0, m_y0, .null),
  (234, .ireturn, 235, 0, 0, 0, m_y0, .null),
  (235, .iload 11, 237, 11, 0, 0, m_y0, .null),
  (237, .ifCond .ne 7, 240, 244, 0, 0, m_y0, .null),
  (240, .iconst 1, 241, 0, 0, 0, m_y0, .int 1),
  (241, .goto 4, 244, 245, 0, 0, m_y0, .null),
  (244, .iconst 0, 245, 0, 0, 0, m_y0, .int 0),
  (245, .istore 8, 247, 8, 0, 0, m_y0, .null),
  (247, .iconst 0, 248, 0, 0, 0, m_y0, .int 0),
  (248, .istore 7, 250, 7, 0, 0, m_y0, .null),
  (250, .goto 137, 253, 387, 0, 0, m_y0, .null),
  (253, .iconst 0, 254, 0, 0, 0, m_y0, .int 0),
  (254, .istore 13, 256, 13, 0, 0, m_y0, .null)]
def M_L_worth_2 : List (Nat × ME) := [
  (256, .iload_n 3, 257, 3, 0, 0, m_y0, .null),
  (257, .istore 14, 259, 14, 0, 0, m_y0, .null),
  (259, .goto 95, 262, 354, 0, 0, m_y0, .null),
  (262, .iconst 0, 263, 0, 0, 0, m_y0, .int 0),
  (263, .istore 13, 265, 13, 0, 0, m_y0, .null),
  (265, .iload_n 2, 266, 2, 0, 0, m_y0, .null),
  (266, .istore 14, 268, 14, 0, 0, m_y0, .null),
  (268, .goto 86, 271, 354, 0, 0, m_y0, .null),
  (271, .iconst 0, 272, 0, 0, 0, m_y0, .int 0),
  (272, .istore 13, 274, 13, 0, 0, m_y0, .null),
  (274, .iload 4, 276, 4, 0, 0, m_y0, .null),
  (276, .istore 14, 278, 14, 0, 0, m_y0, .null),
  (278, .goto 76, 281, 354, 0, 0, m_y0, .null),
  (281, .iconst 0, 282, 0, 0, 0, m_y0, .int 0),
  (282, .istore 13, 284, 13, 0, 0, m_y0, .null),
  (284, .iload 5, 286, 5, 0, 0, m_y0, .null),
  (286, .istore 14, 288, 14, 0, 0, m_y0, .null),
  (288, .goto 66, 291, 354, 0, 0, m_y0, .null),
  (291, .iconst 1, 292, 0, 0, 0, m_y0, .int 1),
  (292, .istore 13, 294, 13, 0, 0, m_y0, .null),
  (294, .iload 11, 296, 11, 0, 0, m_y0, .null),
  (296, .ifCond .ne 7, 299, 303, 0, 0, m_y0, .null),
  (299, .iconst 1, 300, 0, 0, 0, m_y0, .int 1),
  (300, .goto 4, 303, 304, 0, 0, m_y0, .null),
  (303, .iconst 0, 304, 0, 0, 0, m_y0, .int 0),
  (304, .istore 14, 306, 14, 0, 0, m_y0, .null),
  (306, .goto 48, 309, 354, 0, 0, m_y0, .null),
  (309, .iconst 1, 310, 0, 0, 0, m_y0, .int 1),
  (310, .istore 13, 312, 13, 0, 0, m_y0, .null),
  (312, .iload 11, 314, 11, 0, 0, m_y0, .null),
  (314, .ineg, 315, 0, 0, 0, m_y0, .null),
  (315, .istore 14, 317, 14, 0, 0, m_y0, .null),
  (317, .goto 37, 320, 354, 0, 0, m_y0, .null),
  (320, .iload 10, 322, 10, 0, 0, m_y0, .null),
  (322, .ifCond .lt 7, 325, 329, 0, 0, m_y0, .null),
  (325, .iconst 0, 326, 0, 0, 0, m_y0, .int 0),
  (326, .goto 4, 329, 330, 0, 0, m_y0, .null),
  (329, .iconst 2, 330, 0, 0, 0, m_y0, .int 2),
  (330, .istore 13, 332, 13, 0, 0, m_y0, .null),
  (332, .iload 10, 334, 10, 0, 0, m_y0, .null),
  (334, .ifCond .lt 8, 337, 342, 0, 0, m_y0, .null),
  (337, .iload 10, 339, 10, 0, 0, m_y0, .null),
  (339, .goto 13, 342, 352, 0, 0, m_y0, .null),
  (342, .iload 10, 344, 10, 0, 0, m_y0, .null),
  (344, .ineg, 345, 0, 0, 0, m_y0, .null),
  (345, .iload 12, 347, 12, 0, 0, m_y0, .null),
  (347, .iload 11, 349, 11, 0, 0, m_y0, .null),
  (349, .invokestatic 41, 352, 3, 0, 505, y_L_joined, .null),
  (352, .istore 14, 354, 14, 0, 0, m_y0, .null),
  (354, .iconst 0, 355, 0, 0, 0, m_y0, .int 0)]
def M_L_worth_3 : List (Nat × ME) := [
  (355, .iload 7, 357, 7, 0, 0, m_y0, .null),
  (357, .iload 13, 359, 13, 0, 0, m_y0, .null),
  (359, .isub, 360, 0, 0, 0, m_y0, .null),
  (360, .invokestatic 45, 363, 2, 0, 508, y_J_maxI, .null),
  (363, .istore 7, 365, 7, 0, 0, m_y0, .null),
  (365, .iload 7, 367, 7, 0, 0, m_y0, .null),
  (367, .aload_n 0, 368, 0, 0, 0, m_y0, .null),
  (368, .getfield 18, 371, 1, 2, 126, m_y0, .null),
  (371, .arraylength, 372, 0, 0, 0, m_y0, .null),
  (372, .if_icmp .ge 15, 375, 387, 0, 0, m_y0, .null),
  (375, .aload_n 0, 376, 0, 0, 0, m_y0, .null),
  (376, .getfield 18, 379, 1, 2, 126, m_y0, .null),
  (379, .iload 7, 381, 7, 0, 0, m_y0, .null),
  (381, .iload 14, 383, 14, 0, 0, m_y0, .null),
  (383, .iastore, 384, 0, 0, 0, m_y0, .null),
  (384, .iinc 7 1, 387, 7, 0, 0, m_y0, .int 1),
  (387, .iinc 9 1, 390, 9, 0, 0, m_y0, .int 1),
  (390, .goto (-338), 393, 52, 0, 0, m_y0, .null),
  (393, .iload 7, 395, 7, 0, 0, m_y0, .null),
  (395, .iconst 1, 396, 0, 0, 0, m_y0, .int 1),
  (396, .aload_n 0, 397, 0, 0, 0, m_y0, .null),
  (397, .getfield 18, 400, 1, 2, 126, m_y0, .null),
  (400, .arraylength, 401, 0, 0, 0, m_y0, .null),
  (401, .invokestatic 25, 404, 3, 1, 479, y_C_within, .null),
  (404, .ifCond .eq 15, 407, 419, 0, 0, m_y0, .null),
  (407, .aload_n 0, 408, 0, 0, 0, m_y0, .null),
  (408, .getfield 18, 411, 1, 2, 126, m_y0, .null),
  (411, .iload 7, 413, 7, 0, 0, m_y0, .null),
  (413, .iconst 1, 414, 0, 0, 0, m_y0, .int 1),
  (414, .isub, 415, 0, 0, 0, m_y0, .null),
  (415, .iaload, 416, 0, 0, 0, m_y0, .null),
  (416, .goto 4, 419, 420, 0, 0, m_y0, .null),
  (419, .iconst 0, 420, 0, 0, 0, m_y0, .int 0),
  (420, .ireturn, 421, 0, 0, 0, m_y0, .null)]
def M_L_worth : MD := (y_L_worth, prog_3_method_3_code, 15, (some .int), (1, 5, 1), M_L_worth_0 ++ (M_L_worth_1 ++ (M_L_worth_2 ++ (M_L_worth_3))))
set_option maxRecDepth 100000 in
theorem k1_L_worth_0 : M_L_worth_0.all (m_eok y_L_worth prog_3_method_3_code 15) = true := by decide +kernel
set_option maxRecDepth 100000 in
theorem k1_L_worth_1 : M_L_worth_1.all (m_eok y_L_worth prog_3_method_3_code 15) = true := by decide +kernel
set_option maxRecDepth 100000 in
theorem k1_L_worth_2 : M_L_worth_2.all (m_eok y_L_worth prog_3_method_3_code 15) = true := by decide +kernel
set_option maxRecDepth 100000 in
theorem k1_L_worth_3 : M_L_worth_3.all (m_eok y_L_worth prog_3_method_3_code 15) = true := by decide +kernel
theorem k1_L_worth : MOk1 M_L_worth := m_ok1_of (m_all_app k1_L_worth_0 (m_all_app k1_L_worth_1 (m_all_app k1_L_worth_2 k1_L_worth_3)))
set_option maxRecDepth 100000 in
theorem k2_L_worth : MOk2 M_L_worth := m_ok2_spec (p0 := 501) (p1 := 71) (p2 := 499) (p3 := 500) (by decide +kernel)
def M_L_joined_0 : List (Nat × ME) := [
  (0, .iload_n 0, 1, 0, 0, 0, m_y0, .null),
  (1, .tableswitch 202 37 62 #[143, 188, 202, 202, 202, 127, 119, 202, 123, 202, 131, 202, 202, 202, 202, 202, 202, 202, 202, 202, 202, 202, 202, 155, 166, 177], 120, 119, 0, 0, m_y0, .null),
  (120, .iload_n 1, 121, 1, 0, 0, m_y0, .null),
  (121, .iload_n 2, 122, 2, 0, 0, m_y0, .null),
  (122, .iadd, 123, 0, 0, 0, m_y0, .null),
  (123, .ireturn, 124, 0, 0, 0, m_y0, .null),
  (124, .iload_n 1, 125, 1, 0, 0, m_y0, .null),
  (125, .iload_n 2, 126, 2, 0, 0, m_y0, .null),
  (126, .isub, 127, 0, 0, 0, m_y0, .null),
  (127, .ireturn, 128, 0, 0, 0, m_y0, .null),
  (128, .iload_n 1, 129, 1, 0, 0, m_y0, .null),
  (129, .iload_n 2, 130, 2, 0, 0, m_y0, .null),
  (130, .imul, 131, 0, 0, 0, m_y0, .null),
  (131, .ireturn, 132, 0, 0, 0, m_y0, .null),
  (132, .iload_n 2, 133, 2, 0, 0, m_y0, .null),
  (133, .ifCond .ne 7, 136, 140, 0, 0, m_y0, .null),
  (136, .iconst 0, 137, 0, 0, 0, m_y0, .int 0),
  (137, .goto 6, 140, 143, 0, 0, m_y0, .null),
  (140, .iload_n 1, 141, 1, 0, 0, m_y0, .null),
  (141, .iload_n 2, 142, 2, 0, 0, m_y0, .null),
  (142, .idiv, 143, 0, 0, 0, m_y0, .null),
  (143, .ireturn, 144, 0, 0, 0, m_y0, .null),
  (144, .iload_n 2, 145, 2, 0, 0, m_y0, .null),
  (145, .ifCond .ne 7, 148, 152, 0, 0, m_y0, .null),
  (148, .iconst 0, 149, 0, 0, 0, m_y0, .int 0),
  (149, .goto 6, 152, 155, 0, 0, m_y0, .null),
  (152, .iload_n 1, 153, 1, 0, 0, m_y0, .null),
  (153, .iload_n 2, 154, 2, 0, 0, m_y0, .null),
  (154, .irem, 155, 0, 0, 0, m_y0, .null),
  (155, .ireturn, 156, 0, 0, 0, m_y0, .null),
  (156, .iload_n 1, 157, 1, 0, 0, m_y0, .null),
  (157, .iload_n 2, 158, 2, 0, 0, m_y0, .null),
  (158, .if_icmp .ge 7, 161, 165, 0, 0, m_y0, .null),
  (161, .iconst 1, 162, 0, 0, 0, m_y0, .int 1),
  (162, .goto 4, 165, 166, 0, 0, m_y0, .null),
  (165, .iconst 0, 166, 0, 0, 0, m_y0, .int 0),
  (166, .ireturn, 167, 0, 0, 0, m_y0, .null),
  (167, .iload_n 1, 168, 1, 0, 0, m_y0, .null),
  (168, .iload_n 2, 169, 2, 0, 0, m_y0, .null),
  (169, .if_icmp .ne 7, 172, 176, 0, 0, m_y0, .null),
  (172, .iconst 1, 173, 0, 0, 0, m_y0, .int 1),
  (173, .goto 4, 176, 177, 0, 0, m_y0, .null),
  (176, .iconst 0, 177, 0, 0, 0, m_y0, .int 0),
  (177, .ireturn, 178, 0, 0, 0, m_y0, .null),
  (178, .iload_n 1, 179, 1, 0, 0, m_y0, .null),
  (179, .iload_n 2, 180, 2, 0, 0, m_y0, .null),
  (180, .if_icmp .le 7, 183, 187, 0, 0, m_y0, .null),
  (183, .iconst 1, 184, 0, 0, 0, m_y0, .int 1),
  (184, .goto 4, 187, 188, 0, 0, m_y0, .null),
  (187, .iconst 0, 188, 0, 0, 0, m_y0, .int 0)]
def M_L_joined_1 : List (Nat × ME) := [
  (188, .ireturn, 189, 0, 0, 0, m_y0, .null),
  (189, .iload_n 1, 190, 1, 0, 0, m_y0, .null),
  (190, .ifCond .eq 11, 193, 201, 0, 0, m_y0, .null),
  (193, .iload_n 2, 194, 2, 0, 0, m_y0, .null),
  (194, .ifCond .eq 7, 197, 201, 0, 0, m_y0, .null),
  (197, .iconst 1, 198, 0, 0, 0, m_y0, .int 1),
  (198, .goto 4, 201, 202, 0, 0, m_y0, .null),
  (201, .iconst 0, 202, 0, 0, 0, m_y0, .int 0),
  (202, .ireturn, 203, 0, 0, 0, m_y0, .null),
  (203, .iload_n 1, 204, 1, 0, 0, m_y0, .null),
  (204, .ifCond .ne 7, 207, 211, 0, 0, m_y0, .null),
  (207, .iload_n 2, 208, 2, 0, 0, m_y0, .null),
  (208, .ifCond .eq 7, 211, 215, 0, 0, m_y0, .null),
  (211, .iconst 1, 212, 0, 0, 0, m_y0, .int 1),
  (212, .goto 4, 215, 216, 0, 0, m_y0, .null),
  (215, .iconst 0, 216, 0, 0, 0, m_y0, .int 0),
  (216, .ireturn, 217, 0, 0, 0, m_y0, .null)]
def M_L_joined : MD := (y_L_joined, prog_3_method_4_code, 3, (some .int), (0, 3, 1), M_L_joined_0 ++ (M_L_joined_1))
set_option maxRecDepth 100000 in
theorem k1_L_joined_0 : M_L_joined_0.all (m_eok y_L_joined prog_3_method_4_code 3) = true := by decide +kernel
set_option maxRecDepth 100000 in
theorem k1_L_joined_1 : M_L_joined_1.all (m_eok y_L_joined prog_3_method_4_code 3) = true := by decide +kernel
theorem k1_L_joined : MOk1 M_L_joined := m_ok1_of (m_all_app k1_L_joined_0 k1_L_joined_1)
set_option maxRecDepth 100000 in
theorem k2_L_joined : MOk2 M_L_joined := m_ok2_spec (p0 := 507) (p1 := 71) (p2 := 506) (p3 := 0) (by decide +kernel)
def M_P_init : MD := (y_P_init, prog_4_method_1_code, 1, none, (2, 0, 2), [
  (0, .aload_n 0, 1, 0, 0, 0, m_y0, .null),
  (1, .invokespecial 3, 4, 1, 0, 194, Lib.objectInit, .null),
  (4, .aload_n 0, 5, 0, 0, 0, m_y0, .null),
  (5, .bipush 10, 7, 0, 0, 0, m_y0, .int 10),
  (7, .newarray .int, 9, 0, 0, 0, m_y0, .null),
  (9, .putfield 11, 12, 2, 0, 195, m_y0, .null),
  (12, .aload_n 0, 13, 0, 0, 0, m_y0, .null),
  (13, .bipush 10, 15, 0, 0, 0, m_y0, .int 10),
  (15, .newarray .int, 17, 0, 0, 0, m_y0, .null),
  (17, .putfield 15, 20, 2, 1, 196, m_y0, .null),
  (20, .aload_n 0, 21, 0, 0, 0, m_y0, .null),
  (21, .bipush 10, 23, 0, 0, 0, m_y0, .int 10),
  (23, .newarray .int, 25, 0, 0, 0, m_y0, .null),
  (25, .putfield 18, 28, 2, 2, 197, m_y0, .null),
  (28, .aload_n 0, 29, 0, 0, 0, m_y0, .null),
  (29, .iconst 0, 30, 0, 0, 0, m_y0, .int 0),
  (30, .putfield 21, 33, 2, 3, 198, m_y0, .int 0),
  (33, .return_, 34, 0, 0, 0, m_y0, .null)])
set_option maxRecDepth 100000 in
theorem k1_P_init : MOk1 M_P_init := m_ok1_of (by decide +kernel)
set_option maxRecDepth 100000 in
theorem k2_P_init : MOk2 M_P_init := m_ok2_spec (p0 := 193) (p1 := 74) (p2 := 192) (p3 := 0) (by decide +kernel)
def M_P_add : MD := (y_P_add, prog_4_method_2_code, 4, (some .int), (1, 3, 2), [
  (0, .aload_n 0, 1, 0, 0, 0, m_y0, .null),
  (1, .getfield 21, 4, 2, 3, 198, m_y0, .null),
  (4, .ifCond .lt 12, 7, 16, 0, 0, m_y0, .null),
  (7, .aload_n 0, 8, 0, 0, 0, m_y0, .null),
  (8, .getfield 21, 11, 2, 3, 198, m_y0, .null),
  (11, .bipush 10, 13, 0, 0, 0, m_y0, .int 10),
  (13, .if_icmp .lt 6, 16, 19, 0, 0, m_y0, .null),
  (16, .bipush (-3), 18, 0, 0, 0, m_y0, .int (-3)),
  (18, .ireturn, 19, 0, 0, 0, m_y0, .null),
  (19, .aload_n 0, 20, 0, 0, 0, m_y0, .null),
  (20, .getfield 11, 23, 2, 0, 195, m_y0, .null),
  (23, .aload_n 0, 24, 0, 0, 0, m_y0, .null),
  (24, .getfield 21, 27, 2, 3, 198, m_y0, .null),
  (27, .iload_n 1, 28, 1, 0, 0, m_y0, .null),
  (28, .iastore, 29, 0, 0, 0, m_y0, .null),
  (29, .aload_n 0, 30, 0, 0, 0, m_y0, .null),
  (30, .getfield 15, 33, 2, 1, 196, m_y0, .null),
  (33, .aload_n 0, 34, 0, 0, 0, m_y0, .null),
  (34, .getfield 21, 37, 2, 3, 198, m_y0, .null),
  (37, .iload_n 2, 38, 2, 0, 0, m_y0, .null),
  (38, .iastore, 39, 0, 0, 0, m_y0, .null),
  (39, .aload_n 0, 40, 0, 0, 0, m_y0, .null),
  (40, .getfield 18, 43, 2, 2, 197, m_y0, .null),
  (43, .aload_n 0, 44, 0, 0, 0, m_y0, .null),
  (44, .getfield 21, 47, 2, 3, 198, m_y0, .null),
  (47, .iload_n 3, 48, 3, 0, 0, m_y0, .null),
  (48, .iastore, 49, 0, 0, 0, m_y0, .null),
  (49, .aload_n 0, 50, 0, 0, 0, m_y0, .null),
  (50, .dup, 51, 0, 0, 0, m_y0, .null),
  (51, .getfield 21, 54, 2, 3, 198, m_y0, .null),
  (54, .iconst 1, 55, 0, 0, 0, m_y0, .int 1),
  (55, .iadd, 56, 0, 0, 0, m_y0, .null),
  (56, .putfield 21, 59, 2, 3, 198, m_y0, .int 0),
  (59, .aload_n 0, 60, 0, 0, 0, m_y0, .null),
  (60, .getfield 21, 63, 2, 3, 198, m_y0, .null),
  (63, .iconst 1, 64, 0, 0, 0, m_y0, .int 1),
  (64, .isub, 65, 0, 0, 0, m_y0, .null),
  (65, .ireturn, 66, 0, 0, 0, m_y0, .null)])
set_option maxRecDepth 100000 in
theorem k1_P_add : MOk1 M_P_add := m_ok1_of (by decide +kernel)
set_option maxRecDepth 100000 in
theorem k2_P_add : MOk2 M_P_add := m_ok2_spec (p0 := 701) (p1 := 74) (p2 := 699) (p3 := 700) (by decide +kernel)
def M_P_firstClash : MD := (y_P_firstClash, prog_4_method_3_code, 4, (some .int), (1, 0, 2), [
  (0, .iconst 0, 1, 0, 0, 0, m_y0, .int 0),
  (1, .istore_n 1, 2, 1, 0, 0, m_y0, .null),
  (2, .iload_n 1, 3, 1, 0, 0, m_y0, .null),
  (3, .aload_n 0, 4, 0, 0, 0, m_y0, .null),
  (4, .getfield 21, 7, 2, 3, 198, m_y0, .null),
  (7, .if_icmp .ge 85, 10, 92, 0, 0, m_y0, .null),
  (10, .iload_n 1, 11, 1, 0, 0, m_y0, .null),
  (11, .bipush 10, 13, 0, 0, 0, m_y0, .int 10),
  (13, .if_icmp .ge 79, 16, 92, 0, 0, m_y0, .null),
  (16, .iconst 0, 17, 0, 0, 0, m_y0, .int 0),
  (17, .istore_n 2, 18, 2, 0, 0, m_y0, .null),
  (18, .iload_n 2, 19, 2, 0, 0, m_y0, .null),
  (19, .iload_n 1, 20, 1, 0, 0, m_y0, .null),
  (20, .if_icmp .ge 66, 23, 86, 0, 0, m_y0, .null),
  (23, .aload_n 0, 24, 0, 0, 0, m_y0, .null),
  (24, .getfield 11, 27, 2, 0, 195, m_y0, .null),
  (27, .iload_n 1, 28, 1, 0, 0, m_y0, .null),
  (28, .iaload, 29, 0, 0, 0, m_y0, .null),
  (29, .aload_n 0, 30, 0, 0, 0, m_y0, .null),
  (30, .getfield 15, 33, 2, 1, 196, m_y0, .null),
  (33, .iload_n 2, 34, 2, 0, 0, m_y0, .null),
  (34, .iaload, 35, 0, 0, 0, m_y0, .null),
  (35, .if_icmp .gt 22, 38, 57, 0, 0, m_y0, .null),
  (38, .aload_n 0, 39, 0, 0, 0, m_y0, .null),
  (39, .getfield 11, 42, 2, 0, 195, m_y0, .null),
  (42, .iload_n 2, 43, 2, 0, 0, m_y0, .null),
  (43, .iaload, 44, 0, 0, 0, m_y0, .null),
  (44, .aload_n 0, 45, 0, 0, 0, m_y0, .null),
  (45, .getfield 15, 48, 2, 1, 196, m_y0, .null),
  (48, .iload_n 1, 49, 1, 0, 0, m_y0, .null),
  (49, .iaload, 50, 0, 0, 0, m_y0, .null),
  (50, .if_icmp .gt 7, 53, 57, 0, 0, m_y0, .null),
  (53, .iconst 1, 54, 0, 0, 0, m_y0, .int 1),
  (54, .goto 4, 57, 58, 0, 0, m_y0, .null),
  (57, .iconst 0, 58, 0, 0, 0, m_y0, .int 0),
  (58, .istore_n 3, 59, 3, 0, 0, m_y0, .null),
  (59, .iload_n 3, 60, 3, 0, 0, m_y0, .null),
  (60, .ifCond .eq 20, 63, 80, 0, 0, m_y0, .null),
  (63, .aload_n 0, 64, 0, 0, 0, m_y0, .null),
  (64, .getfield 18, 67, 2, 2, 197, m_y0, .null),
  (67, .iload_n 1, 68, 1, 0, 0, m_y0, .null),
  (68, .iaload, 69, 0, 0, 0, m_y0, .null),
  (69, .aload_n 0, 70, 0, 0, 0, m_y0, .null),
  (70, .getfield 18, 73, 2, 2, 197, m_y0, .null),
  (73, .iload_n 2, 74, 2, 0, 0, m_y0, .null),
  (74, .iaload, 75, 0, 0, 0, m_y0, .null),
  (75, .if_icmp .eq 5, 78, 80, 0, 0, m_y0, .null),
  (78, .iload_n 1, 79, 1, 0, 0, m_y0, .null),
  (79, .ireturn, 80, 0, 0, 0, m_y0, .null),
  (80, .iinc 2 1, 83, 2, 0, 0, m_y0, .int 1),
  (83, .goto (-65), 86, 18, 0, 0, m_y0, .null),
  (86, .iinc 1 1, 89, 1, 0, 0, m_y0, .int 1),
  (89, .goto (-87), 92, 2, 0, 0, m_y0, .null),
  (92, .bipush (-2), 94, 0, 0, 0, m_y0, .int (-2)),
  (94, .ireturn, 95, 0, 0, 0, m_y0, .null)])
set_option maxRecDepth 100000 in
theorem k1_P_firstClash : MOk1 M_P_firstClash := m_ok1_of (by decide +kernel)
set_option maxRecDepth 100000 in
theorem k2_P_firstClash : MOk2 M_P_firstClash := m_ok2_spec (p0 := 709) (p1 := 74) (p2 := 707) (p3 := 708) (by decide +kernel)
def M_P_gaps : MD := (y_P_gaps, prog_4_method_4_code, 5, (some .int), (1, 0, 2), [
  (0, .iconst 0, 1, 0, 0, 0, m_y0, .int 0),
  (1, .istore_n 1, 2, 1, 0, 0, m_y0, .null),
  (2, .iconst 0, 3, 0, 0, 0, m_y0, .int 0),
  (3, .istore_n 2, 4, 2, 0, 0, m_y0, .null),
  (4, .iconst 0, 5, 0, 0, 0, m_y0, .int 0),
  (5, .istore_n 3, 6, 3, 0, 0, m_y0, .null),
  (6, .iconst 0, 7, 0, 0, 0, m_y0, .int 0),
  (7, .istore 4, 9, 4, 0, 0, m_y0, .null),
  (9, .iload 4, 11, 4, 0, 0, m_y0, .null),
  (11, .bipush 30, 13, 0, 0, 0, m_y0, .int 30),
  (13, .if_icmp .ge 43, 16, 56, 0, 0, m_y0, .null),
  (16, .aload_n 0, 17, 0, 0, 0, m_y0, .null),
  (17, .iload 4, 19, 4, 0, 0, m_y0, .null),
  (19, .invokevirtual 25, 22, 2, 0, 714, y_P_houseAt, .null),
  (22, .bipush (-2), 24, 0, 0, 0, m_y0, .int (-2)),
  (24, .if_icmp .ne 9, 27, 33, 0, 0, m_y0, .null),
  (27, .iinc 3 1, 30, 3, 0, 0, m_y0, .int 1),
  (30, .goto 20, 33, 50, 0, 0, m_y0, .null),
  (33, .iload_n 2, 34, 2, 0, 0, m_y0, .null),
  (34, .iload_n 1, 35, 1, 0, 0, m_y0, .null),
  (35, .ifCond .ne 7, 38, 42, 0, 0, m_y0, .null),
  (38, .iconst 0, 39, 0, 0, 0, m_y0, .int 0),
  (39, .goto 4, 42, 43, 0, 0, m_y0, .null),
  (42, .iload_n 3, 43, 3, 0, 0, m_y0, .null),
  (43, .iadd, 44, 0, 0, 0, m_y0, .null),
  (44, .istore_n 2, 45, 2, 0, 0, m_y0, .null),
  (45, .iconst 0, 46, 0, 0, 0, m_y0, .int 0),
  (46, .istore_n 3, 47, 3, 0, 0, m_y0, .null),
  (47, .iinc 1 1, 50, 1, 0, 0, m_y0, .int 1),
  (50, .iinc 4 1, 53, 4, 0, 0, m_y0, .int 1),
  (53, .goto (-44), 56, 9, 0, 0, m_y0, .null),
  (56, .iload_n 2, 57, 2, 0, 0, m_y0, .null),
  (57, .ireturn, 58, 0, 0, 0, m_y0, .null)])
set_option maxRecDepth 100000 in
theorem k1_P_gaps : MOk1 M_P_gaps := m_ok1_of (by decide +kernel)
set_option maxRecDepth 100000 in
theorem k2_P_gaps : MOk2 M_P_gaps := m_ok2_spec (p0 := 713) (p1 := 74) (p2 := 711) (p3 := 712) (by decide +kernel)
def M_P_houseAt : MD := (y_P_houseAt, prog_4_method_5_code, 3, (some .int), (1, 1, 2), [
  (0, .iconst 0, 1, 0, 0, 0, m_y0, .int 0),
  (1, .istore_n 2, 2, 2, 0, 0, m_y0, .null),
  (2, .iload_n 2, 3, 2, 0, 0, m_y0, .null),
  (3, .aload_n 0, 4, 0, 0, 0, m_y0, .null),
  (4, .getfield 21, 7, 2, 3, 198, m_y0, .null),
  (7, .if_icmp .ge 42, 10, 49, 0, 0, m_y0, .null),
  (10, .iload_n 2, 11, 2, 0, 0, m_y0, .null),
  (11, .bipush 10, 13, 0, 0, 0, m_y0, .int 10),
  (13, .if_icmp .ge 36, 16, 49, 0, 0, m_y0, .null),
  (16, .aload_n 0, 17, 0, 0, 0, m_y0, .null),
  (17, .getfield 11, 20, 2, 0, 195, m_y0, .null),
  (20, .iload_n 2, 21, 2, 0, 0, m_y0, .null),
  (21, .iaload, 22, 0, 0, 0, m_y0, .null),
  (22, .iload_n 1, 23, 1, 0, 0, m_y0, .null),
  (23, .if_icmp .gt 20, 26, 43, 0, 0, m_y0, .null),
  (26, .iload_n 1, 27, 1, 0, 0, m_y0, .null),
  (27, .aload_n 0, 28, 0, 0, 0, m_y0, .null),
  (28, .getfield 15, 31, 2, 1, 196, m_y0, .null),
  (31, .iload_n 2, 32, 2, 0, 0, m_y0, .null),
  (32, .iaload, 33, 0, 0, 0, m_y0, .null),
  (33, .if_icmp .gt 10, 36, 43, 0, 0, m_y0, .null),
  (36, .aload_n 0, 37, 0, 0, 0, m_y0, .null),
  (37, .getfield 18, 40, 2, 2, 197, m_y0, .null),
  (40, .iload_n 2, 41, 2, 0, 0, m_y0, .null),
  (41, .iaload, 42, 0, 0, 0, m_y0, .null),
  (42, .ireturn, 43, 0, 0, 0, m_y0, .null),
  (43, .iinc 2 1, 46, 2, 0, 0, m_y0, .int 1),
  (46, .goto (-44), 49, 2, 0, 0, m_y0, .null),
  (49, .bipush (-2), 51, 0, 0, 0, m_y0, .int (-2)),
  (51, .ireturn, 52, 0, 0, 0, m_y0, .null)])
set_option maxRecDepth 100000 in
theorem k1_P_houseAt : MOk1 M_P_houseAt := m_ok1_of (by decide +kernel)
set_option maxRecDepth 100000 in
theorem k2_P_houseAt : MOk2 M_P_houseAt := m_ok2_spec (p0 := 717) (p1 := 74) (p2 := 715) (p3 := 716) (by decide +kernel)
def M_I_init : MD := (y_I_init, prog_5_method_1_code, 3, none, (2, 2, 3), [
  (0, .aload_n 0, 1, 0, 0, 0, m_y0, .null),
  (1, .invokespecial 3, 4, 1, 0, 309, Lib.objectInit, .null),
  (4, .aload_n 0, 5, 0, 0, 0, m_y0, .null),
  (5, .iconst 0, 6, 0, 0, 0, m_y0, .int 0),
  (6, .putfield 9, 9, 3, 2, 314, m_y0, .int 0),
  (9, .aload_n 0, 10, 0, 0, 0, m_y0, .null),
  (10, .iconst 0, 11, 0, 0, 0, m_y0, .int 0),
  (11, .putfield 15, 14, 3, 3, 317, m_y0, .int 0),
  (14, .aload_n 0, 15, 0, 0, 0, m_y0, .null),
  (15, .iconst 0, 16, 0, 0, 0, m_y0, .int 0),
  (16, .putfield 18, 19, 3, 4, 320, m_y0, .int 0),
  (19, .aload_n 0, 20, 0, 0, 0, m_y0, .null),
  (20, .sipush 1080, 23, 0, 0, 0, m_y0, .int 1080),
  (23, .newarray .int, 25, 0, 0, 0, m_y0, .null),
  (25, .putfield 21, 28, 3, 5, 322, m_y0, .null),
  (28, .aload_n 0, 29, 0, 0, 0, m_y0, .null),
  (29, .iload_n 1, 30, 1, 0, 0, m_y0, .null),
  (30, .putfield 25, 33, 3, 0, 310, m_y0, .int 0),
  (33, .aload_n 0, 34, 0, 0, 0, m_y0, .null),
  (34, .iload_n 2, 35, 2, 0, 0, m_y0, .null),
  (35, .putfield 28, 38, 3, 1, 312, m_y0, .int 0),
  (38, .return_, 39, 0, 0, 0, m_y0, .null)])
set_option maxRecDepth 100000 in
theorem k1_I_init : MOk1 M_I_init := m_ok1_of (by decide +kernel)
set_option maxRecDepth 100000 in
theorem k2_I_init : MOk2 M_I_init := m_ok2_spec (p0 := 308) (p1 := 78) (p2 := 307) (p3 := 0) (by decide +kernel)
def M_I_foundOf : MD := (y_I_foundOf, prog_5_method_2_code, 2, (some .int), (1, 1, 3), [
  (0, .aload_n 0, 1, 0, 0, 0, m_y0, .null),
  (1, .getfield 9, 4, 3, 2, 314, m_y0, .null),
  (4, .iload_n 1, 5, 1, 0, 0, m_y0, .null),
  (5, .invokestatic 31, 8, 2, 1, 408, y_C_hasBit, .null),
  (8, .ifCond .ne 5, 11, 13, 0, 0, m_y0, .null),
  (11, .iconst 0, 12, 0, 0, 0, m_y0, .int 0),
  (12, .ireturn, 13, 0, 0, 0, m_y0, .null),
  (13, .aload_n 0, 14, 0, 0, 0, m_y0, .null),
  (14, .getfield 15, 17, 3, 3, 317, m_y0, .null),
  (17, .iload_n 1, 18, 1, 0, 0, m_y0, .null),
  (18, .invokestatic 31, 21, 2, 1, 408, y_C_hasBit, .null),
  (21, .ifCond .eq 7, 24, 28, 0, 0, m_y0, .null),
  (24, .iconst 1, 25, 0, 0, 0, m_y0, .int 1),
  (25, .goto 4, 28, 29, 0, 0, m_y0, .null),
  (28, .iconst 2, 29, 0, 0, 0, m_y0, .int 2),
  (29, .ireturn, 30, 0, 0, 0, m_y0, .null)])
set_option maxRecDepth 100000 in
theorem k1_I_foundOf : MOk1 M_I_foundOf := m_ok1_of (by decide +kernel)
set_option maxRecDepth 100000 in
theorem k2_I_foundOf : MOk2 M_I_foundOf := m_ok2_spec (p0 := 407) (p1 := 78) (p2 := 405) (p3 := 406) (by decide +kernel)
def M_I_setFound : MD := (y_I_setFound, prog_5_method_3_code, 4, none, (1, 2, 3), [
  (0, .iconst 1, 1, 0, 0, 0, m_y0, .int 1),
  (1, .iload_n 1, 2, 1, 0, 0, m_y0, .null),
  (2, .ishl, 3, 0, 0, 0, m_y0, .null),
  (3, .istore_n 3, 4, 3, 0, 0, m_y0, .null),
  (4, .aload_n 0, 5, 0, 0, 0, m_y0, .null),
  (5, .iload_n 2, 6, 2, 0, 0, m_y0, .null),
  (6, .ifCond .ne 14, 9, 20, 0, 0, m_y0, .null),
  (9, .aload_n 0, 10, 0, 0, 0, m_y0, .null),
  (10, .getfield 9, 13, 3, 2, 314, m_y0, .null),
  (13, .iload_n 3, 14, 3, 0, 0, m_y0, .null),
  (14, .iconst (-1), 15, 0, 0, 0, m_y0, .int (-1)),
  (15, .ixor, 16, 0, 0, 0, m_y0, .null),
  (16, .iand, 17, 0, 0, 0, m_y0, .null),
  (17, .goto 9, 20, 26, 0, 0, m_y0, .null),
  (20, .aload_n 0, 21, 0, 0, 0, m_y0, .null),
  (21, .getfield 9, 24, 3, 2, 314, m_y0, .null),
  (24, .iload_n 3, 25, 3, 0, 0, m_y0, .null),
  (25, .ior, 26, 0, 0, 0, m_y0, .null),
  (26, .putfield 9, 29, 3, 2, 314, m_y0, .int 0),
  (29, .aload_n 0, 30, 0, 0, 0, m_y0, .null),
  (30, .iload_n 2, 31, 2, 0, 0, m_y0, .null),
  (31, .iconst 1, 32, 0, 0, 0, m_y0, .int 1),
  (32, .if_icmp .ne 12, 35, 44, 0, 0, m_y0, .null),
  (35, .aload_n 0, 36, 0, 0, 0, m_y0, .null),
  (36, .getfield 15, 39, 3, 3, 317, m_y0, .null),
  (39, .iload_n 3, 40, 3, 0, 0, m_y0, .null),
  (40, .ior, 41, 0, 0, 0, m_y0, .null),
  (41, .goto 11, 44, 52, 0, 0, m_y0, .null),
  (44, .aload_n 0, 45, 0, 0, 0, m_y0, .null),
  (45, .getfield 15, 48, 3, 3, 317, m_y0, .null),
  (48, .iload_n 3, 49, 3, 0, 0, m_y0, .null),
  (49, .iconst (-1), 50, 0, 0, 0, m_y0, .int (-1)),
  (50, .ixor, 51, 0, 0, 0, m_y0, .null),
  (51, .iand, 52, 0, 0, 0, m_y0, .null),
  (52, .putfield 15, 55, 3, 3, 317, m_y0, .int 0),
  (55, .return_, 56, 0, 0, 0, m_y0, .null)])
set_option maxRecDepth 100000 in
theorem k1_I_setFound : MOk1 M_I_setFound := m_ok1_of (by decide +kernel)
set_option maxRecDepth 100000 in
theorem k2_I_setFound : MOk2 M_I_setFound := m_ok2_spec (p0 := 414) (p1 := 78) (p2 := 412) (p3 := 413) (by decide +kernel)
end
section
def M_I_numberAt : MD := (y_I_numberAt, prog_5_method_4_code, 5, (some .int), (1, 3, 3), [
  (0, .iload_n 1, 1, 1, 0, 0, m_y0, .null),
  (1, .bipush 6, 3, 0, 0, 0, m_y0, .int 6),
  (3, .imul, 4, 0, 0, 0, m_y0, .null),
  (4, .iload_n 2, 5, 2, 0, 0, m_y0, .null),
  (5, .iadd, 6, 0, 0, 0, m_y0, .null),
  (6, .bipush 30, 8, 0, 0, 0, m_y0, .int 30),
  (8, .imul, 9, 0, 0, 0, m_y0, .null),
  (9, .iload_n 3, 10, 3, 0, 0, m_y0, .null),
  (10, .iadd, 11, 0, 0, 0, m_y0, .null),
  (11, .istore 4, 13, 4, 0, 0, m_y0, .null),
  (13, .iload 4, 15, 4, 0, 0, m_y0, .null),
  (15, .ifCond .lt 23, 18, 38, 0, 0, m_y0, .null),
  (18, .iload 4, 20, 4, 0, 0, m_y0, .null),
  (20, .aload_n 0, 21, 0, 0, 0, m_y0, .null),
  (21, .getfield 21, 24, 3, 5, 322, m_y0, .null),
  (24, .arraylength, 25, 0, 0, 0, m_y0, .null),
  (25, .if_icmp .ge 13, 28, 38, 0, 0, m_y0, .null),
  (28, .aload_n 0, 29, 0, 0, 0, m_y0, .null),
  (29, .getfield 21, 32, 3, 5, 322, m_y0, .null),
  (32, .iload 4, 34, 4, 0, 0, m_y0, .null),
  (34, .iaload, 35, 0, 0, 0, m_y0, .null),
  (35, .goto 4, 38, 39, 0, 0, m_y0, .null),
  (38, .iconst 0, 39, 0, 0, 0, m_y0, .int 0),
  (39, .ireturn, 40, 0, 0, 0, m_y0, .null)])
set_option maxRecDepth 100000 in
theorem k1_I_numberAt : MOk1 M_I_numberAt := m_ok1_of (by decide +kernel)
set_option maxRecDepth 100000 in
theorem k2_I_numberAt : MOk2 M_I_numberAt := m_ok2_spec (p0 := 516) (p1 := 78) (p2 := 514) (p3 := 515) (by decide +kernel)
def M_I_learn : MD := (y_I_learn, prog_5_method_5_code, 7, none, (1, 2, 3), [
  (0, .iload_n 2, 1, 2, 0, 0, m_y0, .null),
  (1, .aload_n 0, 2, 0, 0, 0, m_y0, .null),
  (2, .getfield 18, 5, 3, 4, 320, m_y0, .null),
  (5, .iconst (-1), 6, 0, 0, 0, m_y0, .int (-1)),
  (6, .ixor, 7, 0, 0, 0, m_y0, .null),
  (7, .iand, 8, 0, 0, 0, m_y0, .null),
  (8, .istore_n 3, 9, 3, 0, 0, m_y0, .null),
  (9, .iconst 0, 10, 0, 0, 0, m_y0, .int 0),
  (10, .istore 4, 12, 4, 0, 0, m_y0, .null),
  (12, .iload 4, 14, 4, 0, 0, m_y0, .null),
  (14, .aload_n 0, 15, 0, 0, 0, m_y0, .null),
  (15, .getfield 21, 18, 3, 5, 322, m_y0, .null),
  (18, .arraylength, 19, 0, 0, 0, m_y0, .null),
  (19, .if_icmp .ge 77, 22, 96, 0, 0, m_y0, .null),
  (22, .iload_n 3, 23, 3, 0, 0, m_y0, .null),
  (23, .ifCond .eq 73, 26, 96, 0, 0, m_y0, .null),
  (26, .iload 4, 28, 4, 0, 0, m_y0, .null),
  (28, .sipush 180, 31, 0, 0, 0, m_y0, .int 180),
  (31, .idiv, 32, 0, 0, 0, m_y0, .null),
  (32, .istore 5, 34, 5, 0, 0, m_y0, .null),
  (34, .iload_n 3, 35, 3, 0, 0, m_y0, .null),
  (35, .iload 5, 37, 5, 0, 0, m_y0, .null),
  (37, .invokestatic 31, 40, 2, 1, 408, y_C_hasBit, .null),
  (40, .ifCond .eq 50, 43, 90, 0, 0, m_y0, .null),
  (43, .aload_n 1, 44, 1, 0, 0, m_y0, .null),
  (44, .iload 5, 46, 5, 0, 0, m_y0, .null),
  (46, .iload 4, 48, 4, 0, 0, m_y0, .null),
  (48, .bipush 30, 50, 0, 0, 0, m_y0, .int 30),
  (50, .idiv, 51, 0, 0, 0, m_y0, .null),
  (51, .bipush 6, 53, 0, 0, 0, m_y0, .int 6),
  (53, .irem, 54, 0, 0, 0, m_y0, .null),
  (54, .iload 4, 56, 4, 0, 0, m_y0, .null),
  (56, .bipush 30, 58, 0, 0, 0, m_y0, .int 30),
  (58, .irem, 59, 0, 0, 0, m_y0, .null),
  (59, .aload_n 0, 60, 0, 0, 0, m_y0, .null),
  (60, .getfield 25, 63, 3, 0, 310, m_y0, .null),
  (63, .aload_n 0, 64, 0, 0, 0, m_y0, .null),
  (64, .getfield 28, 67, 3, 1, 312, m_y0, .null),
  (67, .invokevirtual 35, 70, 6, 0, 498, y_L_worth, .null),
  (70, .istore 6, 72, 6, 0, 0, m_y0, .null),
  (72, .aload_n 0, 73, 0, 0, 0, m_y0, .null),
  (73, .getfield 21, 76, 3, 5, 322, m_y0, .null),
  (76, .iload 4, 78, 4, 0, 0, m_y0, .null),
  (78, .iconst 0, 79, 0, 0, 0, m_y0, .int 0),
  (79, .bipush 100, 81, 0, 0, 0, m_y0, .int 100),
  (81, .iload 6, 83, 6, 0, 0, m_y0, .null),
  (83, .invokestatic 41, 86, 2, 0, 511, y_J_minI, .null),
  (86, .invokestatic 47, 89, 2, 0, 512, y_J_maxI, .null),
  (89, .iastore, 90, 0, 0, 0, m_y0, .null),
  (90, .iinc 4 1, 93, 4, 0, 0, m_y0, .int 1),
  (93, .goto (-81), 96, 12, 0, 0, m_y0, .null),
  (96, .aload_n 0, 97, 0, 0, 0, m_y0, .null),
  (97, .dup, 98, 0, 0, 0, m_y0, .null),
  (98, .getfield 18, 101, 3, 4, 320, m_y0, .null),
  (101, .iload_n 2, 102, 2, 0, 0, m_y0, .null),
  (102, .ior, 103, 0, 0, 0, m_y0, .null),
  (103, .putfield 18, 106, 3, 4, 320, m_y0, .int 0),
  (106, .return_, 107, 0, 0, 0, m_y0, .null)])
set_option maxRecDepth 100000 in
theorem k1_I_learn : MOk1 M_I_learn := m_ok1_of (by decide +kernel)
set_option maxRecDepth 100000 in
theorem k2_I_learn : MOk2 M_I_learn := m_ok2_spec (p0 := 497) (p1 := 78) (p2 := 495) (p3 := 496) (by decide +kernel)
def M_R_init : MD := (y_R_init, prog_6_method_1_code, 1, none, (2, 0, 4), [
  (0, .aload_n 0, 1, 0, 0, 0, m_y0, .null),
  (1, .invokespecial 1, 4, 1, 0, 139, Lib.objectInit, .null),
  (4, .aload_n 0, 5, 0, 0, 0, m_y0, .null),
  (5, .bipush 120, 7, 0, 0, 0, m_y0, .int 120),
  (7, .newarray .int, 9, 0, 0, 0, m_y0, .null),
  (9, .putfield 9, 12, 4, 0, 140, m_y0, .null),
  (12, .aload_n 0, 13, 0, 0, 0, m_y0, .null),
  (13, .iconst 0, 14, 0, 0, 0, m_y0, .int 0),
  (14, .putfield 15, 17, 4, 1, 141, m_y0, .int 0),
  (17, .aload_n 0, 18, 0, 0, 0, m_y0, .null),
  (18, .bipush 120, 20, 0, 0, 0, m_y0, .int 120),
  (20, .newarray .int, 22, 0, 0, 0, m_y0, .null),
  (22, .putfield 19, 25, 4, 2, 143, m_y0, .null),
  (25, .aload_n 0, 26, 0, 0, 0, m_y0, .null),
  (26, .iconst 0, 27, 0, 0, 0, m_y0, .int 0),
  (27, .putfield 22, 30, 4, 3, 145, m_y0, .int 0),
  (30, .aload_n 0, 31, 0, 0, 0, m_y0, .null),
  (31, .iconst 0, 32, 0, 0, 0, m_y0, .int 0),
  (32, .putfield 25, 35, 4, 4, 147, m_y0, .int 0),
  (35, .aload_n 0, 36, 0, 0, 0, m_y0, .null),
  (36, .iconst (-1), 37, 0, 0, 0, m_y0, .int (-1)),
  (37, .putfield 28, 40, 4, 5, 148, m_y0, .int 0),
  (40, .return_, 41, 0, 0, 0, m_y0, .null)])
set_option maxRecDepth 100000 in
theorem k1_R_init : MOk1 M_R_init := m_ok1_of (by decide +kernel)
set_option maxRecDepth 100000 in
theorem k2_R_init : MOk2 M_R_init := m_ok2_spec (p0 := 138) (p1 := 72) (p2 := 137) (p3 := 0) (by decide +kernel)
def M_R_take : MD := (y_R_take, prog_6_method_2_code, 2, (some .boolean), (1, 1, 4), [
  (0, .aload_n 0, 1, 0, 0, 0, m_y0, .null),
  (1, .getfield 15, 4, 4, 1, 141, m_y0, .null),
  (4, .ifCond .lt 15, 7, 19, 0, 0, m_y0, .null),
  (7, .aload_n 0, 8, 0, 0, 0, m_y0, .null),
  (8, .getfield 15, 11, 4, 1, 141, m_y0, .null),
  (11, .aload_n 0, 12, 0, 0, 0, m_y0, .null),
  (12, .getfield 9, 15, 4, 0, 140, m_y0, .null),
  (15, .arraylength, 16, 0, 0, 0, m_y0, .null),
  (16, .if_icmp .lt 5, 19, 21, 0, 0, m_y0, .null),
  (19, .iconst 0, 20, 0, 0, 0, m_y0, .int 0),
  (20, .ireturn, 21, 0, 0, 0, m_y0, .null),
  (21, .aload_n 0, 22, 0, 0, 0, m_y0, .null),
  (22, .getfield 9, 25, 4, 0, 140, m_y0, .null),
  (25, .aload_n 0, 26, 0, 0, 0, m_y0, .null),
  (26, .getfield 15, 29, 4, 1, 141, m_y0, .null),
  (29, .iload_n 1, 30, 1, 0, 0, m_y0, .null),
  (30, .iastore, 31, 0, 0, 0, m_y0, .null),
  (31, .aload_n 0, 32, 0, 0, 0, m_y0, .null),
  (32, .dup, 33, 0, 0, 0, m_y0, .null),
  (33, .getfield 15, 36, 4, 1, 141, m_y0, .null),
  (36, .iconst 1, 37, 0, 0, 0, m_y0, .int 1),
  (37, .iadd, 38, 0, 0, 0, m_y0, .null),
  (38, .putfield 15, 41, 4, 1, 141, m_y0, .int 0),
  (41, .iconst 1, 42, 0, 0, 0, m_y0, .int 1),
  (42, .ireturn, 43, 0, 0, 0, m_y0, .null)])
set_option maxRecDepth 100000 in
theorem k1_R_take : MOk1 M_R_take := m_ok1_of (by decide +kernel)
set_option maxRecDepth 100000 in
theorem k2_R_take : MOk2 M_R_take := m_ok2_spec (p0 := 431) (p1 := 72) (p2 := 429) (p3 := 430) (by decide +kernel)
def M_R_read : MD := (y_R_read, prog_6_method_3_code, 2, (some .int), (1, 0, 4), [
  (0, .aload_n 0, 1, 0, 0, 0, m_y0, .null),
  (1, .iconst 0, 2, 0, 0, 0, m_y0, .int 0),
  (2, .putfield 25, 5, 4, 4, 147, m_y0, .int 0),
  (5, .aload_n 0, 6, 0, 0, 0, m_y0, .null),
  (6, .iconst 0, 7, 0, 0, 0, m_y0, .int 0),
  (7, .putfield 22, 10, 4, 3, 145, m_y0, .int 0),
  (10, .aload_n 0, 11, 0, 0, 0, m_y0, .null),
  (11, .iconst (-1), 12, 0, 0, 0, m_y0, .int (-1)),
  (12, .putfield 28, 15, 4, 5, 148, m_y0, .int 0),
  (15, .aload_n 0, 16, 0, 0, 0, m_y0, .null),
  (16, .invokevirtual 31, 19, 1, 0, 440, y_R_line, .null),
  (19, .iconst 0, 20, 0, 0, 0, m_y0, .int 0),
  (20, .istore_n 1, 21, 1, 0, 0, m_y0, .null),
  (21, .iload_n 1, 22, 1, 0, 0, m_y0, .null),
  (22, .bipush 120, 24, 0, 0, 0, m_y0, .int 120),
  (24, .if_icmp .ge 48, 27, 72, 0, 0, m_y0, .null),
  (27, .aload_n 0, 28, 0, 0, 0, m_y0, .null),
  (28, .getfield 28, 31, 4, 5, 148, m_y0, .null),
  (31, .ifCond .ge 41, 34, 72, 0, 0, m_y0, .null),
  (34, .aload_n 0, 35, 0, 0, 0, m_y0, .null),
  (35, .invokevirtual 34, 38, 1, 0, 452, y_R_sign, .null),
  (38, .bipush 59, 40, 0, 0, 0, m_y0, .int 59),
  (40, .if_icmp .ne 32, 43, 72, 0, 0, m_y0, .null),
  (43, .aload_n 0, 44, 0, 0, 0, m_y0, .null),
  (44, .aload_n 0, 45, 0, 0, 0, m_y0, .null),
  (45, .invokevirtual 34, 48, 1, 0, 452, y_R_sign, .null),
  (48, .ineg, 49, 0, 0, 0, m_y0, .null),
  (49, .invokevirtual 38, 52, 2, 0, 463, y_R_emit, .null),
  (52, .aload_n 0, 53, 0, 0, 0, m_y0, .null),
  (53, .dup, 54, 0, 0, 0, m_y0, .null),
  (54, .getfield 25, 57, 4, 4, 147, m_y0, .null),
  (57, .iconst 1, 58, 0, 0, 0, m_y0, .int 1),
  (58, .iadd, 59, 0, 0, 0, m_y0, .null),
  (59, .putfield 25, 62, 4, 4, 147, m_y0, .int 0),
  (62, .aload_n 0, 63, 0, 0, 0, m_y0, .null),
  (63, .invokevirtual 31, 66, 1, 0, 440, y_R_line, .null),
  (66, .iinc 1 1, 69, 1, 0, 0, m_y0, .int 1),
  (69, .goto (-48), 72, 21, 0, 0, m_y0, .null),
  (72, .aload_n 0, 73, 0, 0, 0, m_y0, .null),
  (73, .getfield 28, 76, 4, 5, 148, m_y0, .null),
  (76, .ifCond .ge 19, 79, 95, 0, 0, m_y0, .null),
  (79, .aload_n 0, 80, 0, 0, 0, m_y0, .null),
  (80, .invokevirtual 34, 83, 1, 0, 452, y_R_sign, .null),
  (83, .iconst (-1), 84, 0, 0, 0, m_y0, .int (-1)),
  (84, .if_icmp .eq 11, 87, 95, 0, 0, m_y0, .null),
  (87, .aload_n 0, 88, 0, 0, 0, m_y0, .null),
  (88, .aload_n 0, 89, 0, 0, 0, m_y0, .null),
  (89, .getfield 25, 92, 4, 4, 147, m_y0, .null),
  (92, .putfield 28, 95, 4, 5, 148, m_y0, .int 0),
  (95, .aload_n 0, 96, 0, 0, 0, m_y0, .null),
  (96, .getfield 28, 99, 4, 5, 148, m_y0, .null),
  (99, .ireturn, 100, 0, 0, 0, m_y0, .null)])
set_option maxRecDepth 100000 in
theorem k1_R_read : MOk1 M_R_read := m_ok1_of (by decide +kernel)
set_option maxRecDepth 100000 in
theorem k2_R_read : MOk2 M_R_read := m_ok2_spec (p0 := 439) (p1 := 72) (p2 := 437) (p3 := 438) (by decide +kernel)
def M_R_line : MD := (y_R_line, prog_6_method_4_code, 1, none, (1, 0, 4), [
  (0, .aload_n 0, 1, 0, 0, 0, m_y0, .null),
  (1, .iconst 0, 2, 0, 0, 0, m_y0, .int 0),
  (2, .iconst 0, 3, 0, 0, 0, m_y0, .int 0),
  (3, .invokevirtual 42, 6, 3, 0, 444, y_R_level, .null),
  (6, .aload_n 0, 7, 0, 0, 0, m_y0, .null),
  (7, .getfield 28, 10, 4, 5, 148, m_y0, .null),
  (10, .ifCond .ge 37, 13, 47, 0, 0, m_y0, .null),
  (13, .aload_n 0, 14, 0, 0, 0, m_y0, .null),
  (14, .invokevirtual 34, 17, 1, 0, 452, y_R_sign, .null),
  (17, .bipush 63, 19, 0, 0, 0, m_y0, .int 63),
  (19, .if_icmp .ne 28, 22, 47, 0, 0, m_y0, .null),
  (22, .aload_n 0, 23, 0, 0, 0, m_y0, .null),
  (23, .aload_n 0, 24, 0, 0, 0, m_y0, .null),
  (24, .invokevirtual 34, 27, 1, 0, 452, y_R_sign, .null),
  (27, .ineg, 28, 0, 0, 0, m_y0, .null),
  (28, .invokevirtual 38, 31, 2, 0, 463, y_R_emit, .null),
  (31, .aload_n 0, 32, 0, 0, 0, m_y0, .null),
  (32, .dup, 33, 0, 0, 0, m_y0, .null),
  (33, .getfield 25, 36, 4, 4, 147, m_y0, .null),
  (36, .iconst 1, 37, 0, 0, 0, m_y0, .int 1),
  (37, .iadd, 38, 0, 0, 0, m_y0, .null),
  (38, .putfield 25, 41, 4, 4, 147, m_y0, .int 0),
  (41, .aload_n 0, 42, 0, 0, 0, m_y0, .null),
  (42, .iconst 0, 43, 0, 0, 0, m_y0, .int 0),
  (43, .iconst 0, 44, 0, 0, 0, m_y0, .int 0),
  (44, .invokevirtual 42, 47, 3, 0, 444, y_R_level, .null),
  (47, .return_, 48, 0, 0, 0, m_y0, .null)])
set_option maxRecDepth 100000 in
theorem k1_R_line : MOk1 M_R_line := m_ok1_of (by decide +kernel)
set_option maxRecDepth 100000 in
theorem k2_R_line : MOk2 M_R_line := m_ok2_spec (p0 := 443) (p1 := 72) (p2 := 442) (p3 := 7) (by decide +kernel)
def M_R_level : MD := (y_R_level, prog_6_method_5_code, 6, none, (1, 2, 4), [
  (0, .iload_n 1, 1, 1, 0, 0, m_y0, .null),
  (1, .iconst 4, 2, 0, 0, 0, m_y0, .int 4),
  (2, .if_icmp .le 9, 5, 11, 0, 0, m_y0, .null),
  (5, .aload_n 0, 6, 0, 0, 0, m_y0, .null),
  (6, .iload_n 2, 7, 2, 0, 0, m_y0, .null),
  (7, .invokevirtual 46, 10, 2, 0, 448, y_R_operand, .null),
  (10, .return_, 11, 0, 0, 0, m_y0, .null),
  (11, .aload_n 0, 12, 0, 0, 0, m_y0, .null),
  (12, .iload_n 1, 13, 1, 0, 0, m_y0, .null),
  (13, .iconst 1, 14, 0, 0, 0, m_y0, .int 1),
  (14, .iadd, 15, 0, 0, 0, m_y0, .null),
  (15, .iload_n 2, 16, 2, 0, 0, m_y0, .null),
  (16, .invokevirtual 42, 19, 3, 0, 444, y_R_level, .null),
  (19, .iload_n 1, 20, 1, 0, 0, m_y0, .null),
  (20, .iconst 2, 21, 0, 0, 0, m_y0, .int 2),
  (21, .if_icmp .ne 7, 24, 28, 0, 0, m_y0, .null),
  (24, .iconst 1, 25, 0, 0, 0, m_y0, .int 1),
  (25, .goto 5, 28, 30, 0, 0, m_y0, .null),
  (28, .bipush 120, 30, 0, 0, 0, m_y0, .int 120),
  (30, .istore_n 3, 31, 3, 0, 0, m_y0, .null),
  (31, .iconst 0, 32, 0, 0, 0, m_y0, .int 0),
  (32, .istore 4, 34, 4, 0, 0, m_y0, .null),
  (34, .iload 4, 36, 4, 0, 0, m_y0, .null),
  (36, .iload_n 3, 37, 3, 0, 0, m_y0, .null),
  (37, .if_icmp .ge 58, 40, 95, 0, 0, m_y0, .null),
  (40, .aload_n 0, 41, 0, 0, 0, m_y0, .null),
  (41, .getfield 28, 44, 4, 5, 148, m_y0, .null),
  (44, .ifCond .ge 51, 47, 95, 0, 0, m_y0, .null),
  (47, .aload_n 0, 48, 0, 0, 0, m_y0, .null),
  (48, .invokevirtual 34, 51, 1, 0, 452, y_R_sign, .null),
  (51, .invokestatic 49, 54, 1, 0, 471, y_R_closenessOf, .null),
  (54, .iload_n 1, 55, 1, 0, 0, m_y0, .null),
  (55, .if_icmp .ne 40, 58, 95, 0, 0, m_y0, .null),
  (58, .aload_n 0, 59, 0, 0, 0, m_y0, .null),
  (59, .invokevirtual 34, 62, 1, 0, 452, y_R_sign, .null),
  (62, .istore 5, 64, 5, 0, 0, m_y0, .null),
  (64, .aload_n 0, 65, 0, 0, 0, m_y0, .null),
  (65, .dup, 66, 0, 0, 0, m_y0, .null),
  (66, .getfield 25, 69, 4, 4, 147, m_y0, .null),
  (69, .iconst 1, 70, 0, 0, 0, m_y0, .int 1),
  (70, .iadd, 71, 0, 0, 0, m_y0, .null),
  (71, .putfield 25, 74, 4, 4, 147, m_y0, .int 0),
  (74, .aload_n 0, 75, 0, 0, 0, m_y0, .null),
  (75, .iload_n 1, 76, 1, 0, 0, m_y0, .null),
  (76, .iconst 1, 77, 0, 0, 0, m_y0, .int 1),
  (77, .iadd, 78, 0, 0, 0, m_y0, .null),
  (78, .iload_n 2, 79, 2, 0, 0, m_y0, .null),
  (79, .invokevirtual 42, 82, 3, 0, 444, y_R_level, .null),
  (82, .aload_n 0, 83, 0, 0, 0, m_y0, .null),
  (83, .iload 5, 85, 5, 0, 0, m_y0, .null),
  (85, .ineg, 86, 0, 0, 0, m_y0, .null),
  (86, .invokevirtual 38, 89, 2, 0, 463, y_R_emit, .null),
  (89, .iinc 4 1, 92, 4, 0, 0, m_y0, .int 1),
  (92, .goto (-58), 95, 34, 0, 0, m_y0, .null),
  (95, .return_, 96, 0, 0, 0, m_y0, .null)])
set_option maxRecDepth 100000 in
theorem k1_R_level : MOk1 M_R_level := m_ok1_of (by decide +kernel)
set_option maxRecDepth 100000 in
theorem k2_R_level : MOk2 M_R_level := m_ok2_spec (p0 := 447) (p1 := 72) (p2 := 446) (p3 := 8) (by decide +kernel)
def M_R_operand_0 : List (Nat × ME) := [
  (0, .aload_n 0, 1, 0, 0, 0, m_y0, .null),
  (1, .invokevirtual 34, 4, 1, 0, 452, y_R_sign, .null),
  (4, .istore_n 2, 5, 2, 0, 0, m_y0, .null),
  (5, .aload_n 0, 6, 0, 0, 0, m_y0, .null),
  (6, .getfield 28, 9, 4, 5, 148, m_y0, .null),
  (9, .ifCond .lt 4, 12, 13, 0, 0, m_y0, .null),
  (12, .return_, 13, 0, 0, 0, m_y0, .null),
  (13, .iload_n 2, 14, 2, 0, 0, m_y0, .null),
  (14, .invokestatic 53, 17, 1, 0, 456, y_R_isDigit, .null),
  (17, .ifCond .eq 10, 20, 27, 0, 0, m_y0, .null),
  (20, .aload_n 0, 21, 0, 0, 0, m_y0, .null),
  (21, .invokevirtual 57, 24, 1, 0, 459, y_R_digits, .null),
  (24, .goto 99, 27, 123, 0, 0, m_y0, .null),
  (27, .iload_n 2, 28, 2, 0, 0, m_y0, .null),
  (28, .bipush 121, 30, 0, 0, 0, m_y0, .int 121),
  (30, .if_icmp .eq 21, 33, 51, 0, 0, m_y0, .null),
  (33, .iload_n 2, 34, 2, 0, 0, m_y0, .null),
  (34, .bipush 107, 36, 0, 0, 0, m_y0, .int 107),
  (36, .if_icmp .eq 15, 39, 51, 0, 0, m_y0, .null),
  (39, .iload_n 2, 40, 2, 0, 0, m_y0, .null),
  (40, .bipush 119, 42, 0, 0, 0, m_y0, .int 119),
  (42, .if_icmp .eq 9, 45, 51, 0, 0, m_y0, .null),
  (45, .iload_n 2, 46, 2, 0, 0, m_y0, .null),
  (46, .bipush 112, 48, 0, 0, 0, m_y0, .int 112),
  (48, .if_icmp .ne 22, 51, 70, 0, 0, m_y0, .null),
  (51, .aload_n 0, 52, 0, 0, 0, m_y0, .null),
  (52, .iload_n 2, 53, 2, 0, 0, m_y0, .null),
  (53, .ineg, 54, 0, 0, 0, m_y0, .null),
  (54, .invokevirtual 38, 57, 2, 0, 463, y_R_emit, .null),
  (57, .aload_n 0, 58, 0, 0, 0, m_y0, .null),
  (58, .dup, 59, 0, 0, 0, m_y0, .null),
  (59, .getfield 25, 62, 4, 4, 147, m_y0, .null),
  (62, .iconst 1, 63, 0, 0, 0, m_y0, .int 1),
  (63, .iadd, 64, 0, 0, 0, m_y0, .null),
  (64, .putfield 25, 67, 4, 4, 147, m_y0, .int 0),
  (67, .goto 56, 70, 123, 0, 0, m_y0, .null),
  (70, .iload_n 1, 71, 1, 0, 0, m_y0, .null),
  (71, .bipush 6, 73, 0, 0, 0, m_y0, .int 6),
  (73, .if_icmp .ge 42, 76, 115, 0, 0, m_y0, .null),
  (76, .iload_n 2, 77, 2, 0, 0, m_y0, .null),
  (77, .bipush 40, 79, 0, 0, 0, m_y0, .int 40),
  (79, .if_icmp .eq 15, 82, 94, 0, 0, m_y0, .null),
  (82, .iload_n 2, 83, 2, 0, 0, m_y0, .null),
  (83, .bipush 33, 85, 0, 0, 0, m_y0, .int 33),
  (85, .if_icmp .eq 9, 88, 94, 0, 0, m_y0, .null),
  (88, .iload_n 2, 89, 2, 0, 0, m_y0, .null),
  (89, .bipush 45, 91, 0, 0, 0, m_y0, .int 45),
  (91, .if_icmp .ne 24, 94, 115, 0, 0, m_y0, .null),
  (94, .aload_n 0, 95, 0, 0, 0, m_y0, .null),
  (95, .dup, 96, 0, 0, 0, m_y0, .null)]
def M_R_operand_1 : List (Nat × ME) := [
  (96, .getfield 25, 99, 4, 4, 147, m_y0, .null),
  (99, .iconst 1, 100, 0, 0, 0, m_y0, .int 1),
  (100, .iadd, 101, 0, 0, 0, m_y0, .null),
  (101, .putfield 25, 104, 4, 4, 147, m_y0, .int 0),
  (104, .aload_n 0, 105, 0, 0, 0, m_y0, .null),
  (105, .iload_n 2, 106, 2, 0, 0, m_y0, .null),
  (106, .iload_n 1, 107, 1, 0, 0, m_y0, .null),
  (107, .iconst 1, 108, 0, 0, 0, m_y0, .int 1),
  (108, .iadd, 109, 0, 0, 0, m_y0, .null),
  (109, .invokevirtual 60, 112, 3, 0, 467, y_R_opened, .null),
  (112, .goto 11, 115, 123, 0, 0, m_y0, .null),
  (115, .aload_n 0, 116, 0, 0, 0, m_y0, .null),
  (116, .aload_n 0, 117, 0, 0, 0, m_y0, .null),
  (117, .getfield 25, 120, 4, 4, 147, m_y0, .null),
  (120, .putfield 28, 123, 4, 5, 148, m_y0, .int 0),
  (123, .return_, 124, 0, 0, 0, m_y0, .null)]
def M_R_operand : MD := (y_R_operand, prog_6_method_6_code, 3, none, (1, 1, 4), M_R_operand_0 ++ (M_R_operand_1))
set_option maxRecDepth 100000 in
theorem k1_R_operand_0 : M_R_operand_0.all (m_eok y_R_operand prog_6_method_6_code 3) = true := by decide +kernel
set_option maxRecDepth 100000 in
theorem k1_R_operand_1 : M_R_operand_1.all (m_eok y_R_operand prog_6_method_6_code 3) = true := by decide +kernel
theorem k1_R_operand : MOk1 M_R_operand := m_ok1_of (m_all_app k1_R_operand_0 k1_R_operand_1)
set_option maxRecDepth 100000 in
theorem k2_R_operand : MOk2 M_R_operand := m_ok2_spec (p0 := 451) (p1 := 72) (p2 := 450) (p3 := 9) (by decide +kernel)
def M_R_opened : MD := (y_R_opened, prog_6_method_7_code, 3, none, (1, 2, 4), [
  (0, .iload_n 1, 1, 1, 0, 0, m_y0, .null),
  (1, .bipush 40, 3, 0, 0, 0, m_y0, .int 40),
  (3, .if_icmp .eq 26, 6, 29, 0, 0, m_y0, .null),
  (6, .aload_n 0, 7, 0, 0, 0, m_y0, .null),
  (7, .iload_n 2, 8, 2, 0, 0, m_y0, .null),
  (8, .invokevirtual 46, 11, 2, 0, 448, y_R_operand, .null),
  (11, .aload_n 0, 12, 0, 0, 0, m_y0, .null),
  (12, .iload_n 1, 13, 1, 0, 0, m_y0, .null),
  (13, .bipush 33, 15, 0, 0, 0, m_y0, .int 33),
  (15, .if_icmp .ne 8, 18, 23, 0, 0, m_y0, .null),
  (18, .bipush (-33), 20, 0, 0, 0, m_y0, .int (-33)),
  (20, .goto 5, 23, 25, 0, 0, m_y0, .null),
  (23, .bipush (-126), 25, 0, 0, 0, m_y0, .int (-126)),
  (25, .invokevirtual 38, 28, 2, 0, 463, y_R_emit, .null),
  (28, .return_, 29, 0, 0, 0, m_y0, .null),
  (29, .aload_n 0, 30, 0, 0, 0, m_y0, .null),
  (30, .iconst 0, 31, 0, 0, 0, m_y0, .int 0),
  (31, .iload_n 2, 32, 2, 0, 0, m_y0, .null),
  (32, .invokevirtual 42, 35, 3, 0, 444, y_R_level, .null),
  (35, .aload_n 0, 36, 0, 0, 0, m_y0, .null),
  (36, .getfield 28, 39, 4, 5, 148, m_y0, .null),
  (39, .ifCond .ge 20, 42, 59, 0, 0, m_y0, .null),
  (42, .aload_n 0, 43, 0, 0, 0, m_y0, .null),
  (43, .invokevirtual 34, 46, 1, 0, 452, y_R_sign, .null),
  (46, .bipush 41, 48, 0, 0, 0, m_y0, .int 41),
  (48, .if_icmp .eq 11, 51, 59, 0, 0, m_y0, .null),
  (51, .aload_n 0, 52, 0, 0, 0, m_y0, .null),
  (52, .aload_n 0, 53, 0, 0, 0, m_y0, .null),
  (53, .getfield 25, 56, 4, 4, 147, m_y0, .null),
  (56, .putfield 28, 59, 4, 5, 148, m_y0, .int 0),
  (59, .aload_n 0, 60, 0, 0, 0, m_y0, .null),
  (60, .dup, 61, 0, 0, 0, m_y0, .null),
  (61, .getfield 25, 64, 4, 4, 147, m_y0, .null),
  (64, .iconst 1, 65, 0, 0, 0, m_y0, .int 1),
  (65, .iadd, 66, 0, 0, 0, m_y0, .null),
  (66, .putfield 25, 69, 4, 4, 147, m_y0, .int 0),
  (69, .return_, 70, 0, 0, 0, m_y0, .null)])
set_option maxRecDepth 100000 in
theorem k1_R_opened : MOk1 M_R_opened := m_ok1_of (by decide +kernel)
set_option maxRecDepth 100000 in
theorem k2_R_opened : MOk2 M_R_opened := m_ok2_spec (p0 := 470) (p1 := 72) (p2 := 469) (p3 := 13) (by decide +kernel)
def M_R_digits : MD := (y_R_digits, prog_6_method_8_code, 3, none, (1, 0, 4), [
  (0, .iconst 0, 1, 0, 0, 0, m_y0, .int 0),
  (1, .istore_n 1, 2, 1, 0, 0, m_y0, .null),
  (2, .iconst 0, 3, 0, 0, 0, m_y0, .int 0),
  (3, .istore_n 2, 4, 2, 0, 0, m_y0, .null),
  (4, .iload_n 2, 5, 2, 0, 0, m_y0, .null),
  (5, .iconst 4, 6, 0, 0, 0, m_y0, .int 4),
  (6, .if_icmp .ge 42, 9, 48, 0, 0, m_y0, .null),
  (9, .aload_n 0, 10, 0, 0, 0, m_y0, .null),
  (10, .invokevirtual 34, 13, 1, 0, 452, y_R_sign, .null),
  (13, .invokestatic 53, 16, 1, 0, 456, y_R_isDigit, .null),
  (16, .ifCond .eq 32, 19, 48, 0, 0, m_y0, .null),
  (19, .iload_n 1, 20, 1, 0, 0, m_y0, .null),
  (20, .bipush 10, 22, 0, 0, 0, m_y0, .int 10),
  (22, .imul, 23, 0, 0, 0, m_y0, .null),
  (23, .aload_n 0, 24, 0, 0, 0, m_y0, .null),
  (24, .invokevirtual 34, 27, 1, 0, 452, y_R_sign, .null),
  (27, .iadd, 28, 0, 0, 0, m_y0, .null),
  (28, .bipush 48, 30, 0, 0, 0, m_y0, .int 48),
  (30, .isub, 31, 0, 0, 0, m_y0, .null),
  (31, .istore_n 1, 32, 1, 0, 0, m_y0, .null),
  (32, .aload_n 0, 33, 0, 0, 0, m_y0, .null),
  (33, .dup, 34, 0, 0, 0, m_y0, .null),
  (34, .getfield 25, 37, 4, 4, 147, m_y0, .null),
  (37, .iconst 1, 38, 0, 0, 0, m_y0, .int 1),
  (38, .iadd, 39, 0, 0, 0, m_y0, .null),
  (39, .putfield 25, 42, 4, 4, 147, m_y0, .int 0),
  (42, .iinc 2 1, 45, 2, 0, 0, m_y0, .int 1),
  (45, .goto (-41), 48, 4, 0, 0, m_y0, .null),
  (48, .aload_n 0, 49, 0, 0, 0, m_y0, .null),
  (49, .iload_n 1, 50, 1, 0, 0, m_y0, .null),
  (50, .invokevirtual 38, 53, 2, 0, 463, y_R_emit, .null),
  (53, .return_, 54, 0, 0, 0, m_y0, .null)])
set_option maxRecDepth 100000 in
theorem k1_R_digits : MOk1 M_R_digits := m_ok1_of (by decide +kernel)
set_option maxRecDepth 100000 in
theorem k2_R_digits : MOk2 M_R_digits := m_ok2_spec (p0 := 462) (p1 := 72) (p2 := 461) (p3 := 11) (by decide +kernel)
def M_R_isDigit : MD := (y_R_isDigit, prog_6_method_9_code, 1, (some .boolean), (0, 1, 4), [
  (0, .iload_n 0, 1, 0, 0, 0, m_y0, .null),
  (1, .bipush 48, 3, 0, 0, 0, m_y0, .int 48),
  (3, .if_icmp .lt 13, 6, 16, 0, 0, m_y0, .null),
  (6, .iload_n 0, 7, 0, 0, 0, m_y0, .null),
  (7, .bipush 57, 9, 0, 0, 0, m_y0, .int 57),
  (9, .if_icmp .gt 7, 12, 16, 0, 0, m_y0, .null),
  (12, .iconst 1, 13, 0, 0, 0, m_y0, .int 1),
  (13, .goto 4, 16, 17, 0, 0, m_y0, .null),
  (16, .iconst 0, 17, 0, 0, 0, m_y0, .int 0),
  (17, .ireturn, 18, 0, 0, 0, m_y0, .null)])
set_option maxRecDepth 100000 in
theorem k1_R_isDigit : MOk1 M_R_isDigit := m_ok1_of (by decide +kernel)
set_option maxRecDepth 100000 in
theorem k2_R_isDigit : MOk2 M_R_isDigit := m_ok2_spec (p0 := 458) (p1 := 72) (p2 := 457) (p3 := 0) (by decide +kernel)
def M_R_closenessOf : MD := (y_R_closenessOf, prog_6_method_10_code, 1, (some .int), (0, 1, 4), [
  (0, .iload_n 0, 1, 0, 0, 0, m_y0, .null),
  (1, .lookupswitch 101 #[(37, 99), (38, 93), (42, 99), (43, 97), (45, 97), (47, 99), (60, 95), (61, 95), (62, 95), (124, 91)], 92, 91, 0, 0, m_y0, .null),
  (92, .iconst 0, 93, 0, 0, 0, m_y0, .int 0),
  (93, .ireturn, 94, 0, 0, 0, m_y0, .null),
  (94, .iconst 1, 95, 0, 0, 0, m_y0, .int 1),
  (95, .ireturn, 96, 0, 0, 0, m_y0, .null),
  (96, .iconst 2, 97, 0, 0, 0, m_y0, .int 2),
  (97, .ireturn, 98, 0, 0, 0, m_y0, .null),
  (98, .iconst 3, 99, 0, 0, 0, m_y0, .int 3),
  (99, .ireturn, 100, 0, 0, 0, m_y0, .null),
  (100, .iconst 4, 101, 0, 0, 0, m_y0, .int 4),
  (101, .ireturn, 102, 0, 0, 0, m_y0, .null),
  (102, .iconst (-1), 103, 0, 0, 0, m_y0, .int (-1)),
  (103, .ireturn, 104, 0, 0, 0, m_y0, .null)])
set_option maxRecDepth 100000 in
theorem k1_R_closenessOf : MOk1 M_R_closenessOf := m_ok1_of (by decide +kernel)
set_option maxRecDepth 100000 in
theorem k2_R_closenessOf : MOk2 M_R_closenessOf := m_ok2_spec (p0 := 473) (p1 := 72) (p2 := 472) (p3 := 0) (by decide +kernel)
def M_R_sign : MD := (y_R_sign, prog_6_method_11_code, 1, (some .int), (1, 0, 4), [
  (0, .aload_n 0, 1, 0, 0, 0, m_y0, .null),
  (1, .getfield 25, 4, 4, 4, 147, m_y0, .null),
  (4, .ifCond .lt 38, 7, 42, 0, 0, m_y0, .null),
  (7, .aload_n 0, 8, 0, 0, 0, m_y0, .null),
  (8, .getfield 25, 11, 4, 4, 147, m_y0, .null),
  (11, .aload_n 0, 12, 0, 0, 0, m_y0, .null),
  (12, .getfield 15, 15, 4, 1, 141, m_y0, .null),
  (15, .if_icmp .ge 27, 18, 42, 0, 0, m_y0, .null),
  (18, .aload_n 0, 19, 0, 0, 0, m_y0, .null),
  (19, .getfield 25, 22, 4, 4, 147, m_y0, .null),
  (22, .aload_n 0, 23, 0, 0, 0, m_y0, .null),
  (23, .getfield 9, 26, 4, 0, 140, m_y0, .null),
  (26, .arraylength, 27, 0, 0, 0, m_y0, .null),
  (27, .if_icmp .ge 15, 30, 42, 0, 0, m_y0, .null),
  (30, .aload_n 0, 31, 0, 0, 0, m_y0, .null),
  (31, .getfield 9, 34, 4, 0, 140, m_y0, .null),
  (34, .aload_n 0, 35, 0, 0, 0, m_y0, .null),
  (35, .getfield 25, 38, 4, 4, 147, m_y0, .null),
  (38, .iaload, 39, 0, 0, 0, m_y0, .null),
  (39, .goto 4, 42, 43, 0, 0, m_y0, .null),
  (42, .iconst (-1), 43, 0, 0, 0, m_y0, .int (-1)),
  (43, .ireturn, 44, 0, 0, 0, m_y0, .null)])
set_option maxRecDepth 100000 in
theorem k1_R_sign : MOk1 M_R_sign := m_ok1_of (by decide +kernel)
set_option maxRecDepth 100000 in
theorem k2_R_sign : MOk2 M_R_sign := m_ok2_spec (p0 := 455) (p1 := 72) (p2 := 454) (p3 := 10) (by decide +kernel)
def M_R_emit : MD := (y_R_emit, prog_6_method_12_code, 2, none, (1, 1, 4), [
  (0, .aload_n 0, 1, 0, 0, 0, m_y0, .null),
  (1, .getfield 22, 4, 4, 3, 145, m_y0, .null),
  (4, .ifCond .lt 35, 7, 39, 0, 0, m_y0, .null),
  (7, .aload_n 0, 8, 0, 0, 0, m_y0, .null),
  (8, .getfield 22, 11, 4, 3, 145, m_y0, .null),
  (11, .aload_n 0, 12, 0, 0, 0, m_y0, .null),
  (12, .getfield 19, 15, 4, 2, 143, m_y0, .null),
  (15, .arraylength, 16, 0, 0, 0, m_y0, .null),
  (16, .if_icmp .ge 23, 19, 39, 0, 0, m_y0, .null),
  (19, .aload_n 0, 20, 0, 0, 0, m_y0, .null),
  (20, .getfield 19, 23, 4, 2, 143, m_y0, .null),
  (23, .aload_n 0, 24, 0, 0, 0, m_y0, .null),
  (24, .getfield 22, 27, 4, 3, 145, m_y0, .null),
  (27, .iload_n 1, 28, 1, 0, 0, m_y0, .null),
  (28, .iastore, 29, 0, 0, 0, m_y0, .null),
  (29, .aload_n 0, 30, 0, 0, 0, m_y0, .null),
  (30, .dup, 31, 0, 0, 0, m_y0, .null),
  (31, .getfield 22, 34, 4, 3, 145, m_y0, .null),
  (34, .iconst 1, 35, 0, 0, 0, m_y0, .int 1),
  (35, .iadd, 36, 0, 0, 0, m_y0, .null),
  (36, .putfield 22, 39, 4, 3, 145, m_y0, .int 0),
  (39, .return_, 40, 0, 0, 0, m_y0, .null)])
set_option maxRecDepth 100000 in
theorem k1_R_emit : MOk1 M_R_emit := m_ok1_of (by decide +kernel)
set_option maxRecDepth 100000 in
theorem k2_R_emit : MOk2 M_R_emit := m_ok2_spec (p0 := 466) (p1 := 72) (p2 := 465) (p3 := 12) (by decide +kernel)
def M_H_init : MD := (y_H_init, prog_8_method_1_code, 1, none, (2, 0, 6), [
  (0, .aload_n 0, 1, 0, 0, 0, m_y0, .null),
  (1, .invokespecial 3, 4, 1, 0, 235, Lib.objectInit, .null),
  (4, .aload_n 0, 5, 0, 0, 0, m_y0, .null),
  (5, .bipush 6, 7, 0, 0, 0, m_y0, .int 6),
  (7, .newarray .int, 9, 0, 0, 0, m_y0, .null),
  (9, .dup, 10, 0, 0, 0, m_y0, .null),
  (10, .iconst 0, 11, 0, 0, 0, m_y0, .int 0),
  (11, .bipush (-2), 13, 0, 0, 0, m_y0, .int (-2)),
  (13, .iastore, 14, 0, 0, 0, m_y0, .null),
  (14, .dup, 15, 0, 0, 0, m_y0, .null),
  (15, .iconst 1, 16, 0, 0, 0, m_y0, .int 1),
  (16, .bipush (-2), 18, 0, 0, 0, m_y0, .int (-2)),
  (18, .iastore, 19, 0, 0, 0, m_y0, .null),
  (19, .dup, 20, 0, 0, 0, m_y0, .null),
  (20, .iconst 2, 21, 0, 0, 0, m_y0, .int 2),
  (21, .bipush (-2), 23, 0, 0, 0, m_y0, .int (-2)),
  (23, .iastore, 24, 0, 0, 0, m_y0, .null),
  (24, .dup, 25, 0, 0, 0, m_y0, .null),
  (25, .iconst 3, 26, 0, 0, 0, m_y0, .int 3),
  (26, .bipush (-2), 28, 0, 0, 0, m_y0, .int (-2)),
  (28, .iastore, 29, 0, 0, 0, m_y0, .null),
  (29, .dup, 30, 0, 0, 0, m_y0, .null),
  (30, .iconst 4, 31, 0, 0, 0, m_y0, .int 4),
  (31, .bipush (-2), 33, 0, 0, 0, m_y0, .int (-2)),
  (33, .iastore, 34, 0, 0, 0, m_y0, .null),
  (34, .dup, 35, 0, 0, 0, m_y0, .null),
  (35, .iconst 5, 36, 0, 0, 0, m_y0, .int 5),
  (36, .bipush (-2), 38, 0, 0, 0, m_y0, .int (-2)),
  (38, .iastore, 39, 0, 0, 0, m_y0, .null),
  (39, .putfield 11, 42, 6, 0, 236, m_y0, .null),
  (42, .aload_n 0, 43, 0, 0, 0, m_y0, .null),
  (43, .bipush 6, 45, 0, 0, 0, m_y0, .int 6),
  (45, .newarray .int, 47, 0, 0, 0, m_y0, .null),
  (47, .putfield 15, 50, 6, 1, 237, m_y0, .null),
  (50, .aload_n 0, 51, 0, 0, 0, m_y0, .null),
  (51, .bipush 6, 53, 0, 0, 0, m_y0, .int 6),
  (53, .newarray .int, 55, 0, 0, 0, m_y0, .null),
  (55, .putfield 18, 58, 6, 2, 238, m_y0, .null),
  (58, .aload_n 0, 59, 0, 0, 0, m_y0, .null),
  (59, .sipush 360, 62, 0, 0, 0, m_y0, .int 360),
  (62, .newarray .long, 64, 0, 0, 0, m_y0, .null),
  (64, .putfield 21, 67, 6, 3, 239, m_y0, .null),
  (67, .return_, 68, 0, 0, 0, m_y0, .null)])
set_option maxRecDepth 100000 in
theorem k1_H_init : MOk1 M_H_init := m_ok1_of (by decide +kernel)
set_option maxRecDepth 100000 in
theorem k2_H_init : MOk2 M_H_init := m_ok2_spec (p0 := 234) (p1 := 76) (p2 := 233) (p3 := 0) (by decide +kernel)
def M_H_sortOn : MD := (y_H_sortOn, prog_8_method_2_code, 2, (some .int), (1, 1, 6), [
  (0, .iload_n 1, 1, 1, 0, 0, m_y0, .null),
  (1, .invokestatic 25, 4, 1, 1, 347, y_C_isShelf, .null),
  (4, .ifCond .eq 12, 7, 16, 0, 0, m_y0, .null),
  (7, .aload_n 0, 8, 0, 0, 0, m_y0, .null),
  (8, .getfield 11, 11, 6, 0, 236, m_y0, .null),
  (11, .iload_n 1, 12, 1, 0, 0, m_y0, .null),
  (12, .iaload, 13, 0, 0, 0, m_y0, .null),
  (13, .goto 5, 16, 18, 0, 0, m_y0, .null),
  (16, .bipush (-2), 18, 0, 0, 0, m_y0, .int (-2)),
  (18, .ireturn, 19, 0, 0, 0, m_y0, .null)])
set_option maxRecDepth 100000 in
theorem k1_H_sortOn : MOk1 M_H_sortOn := m_ok1_of (by decide +kernel)
set_option maxRecDepth 100000 in
theorem k2_H_sortOn : MOk2 M_H_sortOn := m_ok2_spec (p0 := 346) (p1 := 76) (p2 := 344) (p3 := 345) (by decide +kernel)
def M_H_bodyOn : MD := (y_H_bodyOn, prog_8_method_3_code, 2, (some .int), (1, 1, 6), [
  (0, .iload_n 1, 1, 1, 0, 0, m_y0, .null),
  (1, .invokestatic 25, 4, 1, 1, 347, y_C_isShelf, .null),
  (4, .ifCond .eq 12, 7, 16, 0, 0, m_y0, .null),
  (7, .aload_n 0, 8, 0, 0, 0, m_y0, .null),
  (8, .getfield 15, 11, 6, 1, 237, m_y0, .null),
  (11, .iload_n 1, 12, 1, 0, 0, m_y0, .null),
  (12, .iaload, 13, 0, 0, 0, m_y0, .null),
  (13, .goto 4, 16, 17, 0, 0, m_y0, .null),
  (16, .iconst (-1), 17, 0, 0, 0, m_y0, .int (-1)),
  (17, .ireturn, 18, 0, 0, 0, m_y0, .null)])
set_option maxRecDepth 100000 in
theorem k1_H_bodyOn : MOk1 M_H_bodyOn := m_ok1_of (by decide +kernel)
set_option maxRecDepth 100000 in
theorem k2_H_bodyOn : MOk2 M_H_bodyOn := m_ok2_spec (p0 := 866) (p1 := 76) (p2 := 864) (p3 := 865) (by decide +kernel)
def M_H_lengthOn : MD := (y_H_lengthOn, prog_8_method_4_code, 2, (some .int), (1, 1, 6), [
  (0, .iload_n 1, 1, 1, 0, 0, m_y0, .null),
  (1, .invokestatic 25, 4, 1, 1, 347, y_C_isShelf, .null),
  (4, .ifCond .eq 12, 7, 16, 0, 0, m_y0, .null),
  (7, .aload_n 0, 8, 0, 0, 0, m_y0, .null),
  (8, .getfield 18, 11, 6, 2, 238, m_y0, .null),
  (11, .iload_n 1, 12, 1, 0, 0, m_y0, .null),
  (12, .iaload, 13, 0, 0, 0, m_y0, .null),
  (13, .goto 4, 16, 17, 0, 0, m_y0, .null),
  (16, .iconst 0, 17, 0, 0, 0, m_y0, .int 0),
  (17, .ireturn, 18, 0, 0, 0, m_y0, .null)])
set_option maxRecDepth 100000 in
theorem k1_H_lengthOn : MOk1 M_H_lengthOn := m_ok1_of (by decide +kernel)
set_option maxRecDepth 100000 in
theorem k2_H_lengthOn : MOk2 M_H_lengthOn := m_ok2_spec (p0 := 355) (p1 := 76) (p2 := 353) (p3 := 354) (by decide +kernel)
def M_H_hold : MD := (y_H_hold, prog_8_method_5_code, 3, none, (1, 2, 6), [
  (0, .iload_n 1, 1, 1, 0, 0, m_y0, .null),
  (1, .invokestatic 25, 4, 1, 1, 347, y_C_isShelf, .null),
  (4, .ifCond .eq 33, 7, 37, 0, 0, m_y0, .null),
  (7, .aload_n 0, 8, 0, 0, 0, m_y0, .null),
  (8, .getfield 11, 11, 6, 0, 236, m_y0, .null),
  (11, .iload_n 1, 12, 1, 0, 0, m_y0, .null),
  (12, .iload_n 2, 13, 2, 0, 0, m_y0, .null),
  (13, .ifCond .ge 8, 16, 21, 0, 0, m_y0, .null),
  (16, .bipush (-2), 18, 0, 0, 0, m_y0, .int (-2)),
  (18, .goto 4, 21, 22, 0, 0, m_y0, .null),
  (21, .iconst (-1), 22, 0, 0, 0, m_y0, .int (-1)),
  (22, .iastore, 23, 0, 0, 0, m_y0, .null),
  (23, .aload_n 0, 24, 0, 0, 0, m_y0, .null),
  (24, .getfield 15, 27, 6, 1, 237, m_y0, .null),
  (27, .iload_n 1, 28, 1, 0, 0, m_y0, .null),
  (28, .iload_n 2, 29, 2, 0, 0, m_y0, .null),
  (29, .iastore, 30, 0, 0, 0, m_y0, .null),
  (30, .aload_n 0, 31, 0, 0, 0, m_y0, .null),
  (31, .getfield 18, 34, 6, 2, 238, m_y0, .null),
  (34, .iload_n 1, 35, 1, 0, 0, m_y0, .null),
  (35, .iconst 0, 36, 0, 0, 0, m_y0, .int 0),
  (36, .iastore, 37, 0, 0, 0, m_y0, .null),
  (37, .return_, 38, 0, 0, 0, m_y0, .null)])
set_option maxRecDepth 100000 in
theorem k1_H_hold : MOk1 M_H_hold := m_ok1_of (by decide +kernel)
set_option maxRecDepth 100000 in
theorem k2_H_hold : MOk2 M_H_hold := m_ok2_spec (p0 := 810) (p1 := 76) (p2 := 808) (p3 := 809) (by decide +kernel)
def M_H_holdRow : MD := (y_H_holdRow, prog_8_method_6_code, 4, none, (1, 3, 6), [
  (0, .iload_n 1, 1, 1, 0, 0, m_y0, .null),
  (1, .invokestatic 25, 4, 1, 1, 347, y_C_isShelf, .null),
  (4, .ifCond .eq 45, 7, 49, 0, 0, m_y0, .null),
  (7, .iload_n 3, 8, 3, 0, 0, m_y0, .null),
  (8, .iconst 0, 9, 0, 0, 0, m_y0, .int 0),
  (9, .bipush 60, 11, 0, 0, 0, m_y0, .int 60),
  (11, .invokestatic 29, 14, 3, 1, 360, y_C_within, .null),
  (14, .ifCond .eq 35, 17, 49, 0, 0, m_y0, .null),
  (17, .aload_n 0, 18, 0, 0, 0, m_y0, .null),
  (18, .getfield 11, 21, 6, 0, 236, m_y0, .null),
  (21, .iload_n 1, 22, 1, 0, 0, m_y0, .null),
  (22, .iload_n 2, 23, 2, 0, 0, m_y0, .null),
  (23, .iastore, 24, 0, 0, 0, m_y0, .null),
  (24, .aload_n 0, 25, 0, 0, 0, m_y0, .null),
  (25, .getfield 18, 28, 6, 2, 238, m_y0, .null),
  (28, .iload_n 1, 29, 1, 0, 0, m_y0, .null),
  (29, .iload_n 3, 30, 3, 0, 0, m_y0, .null),
  (30, .iastore, 31, 0, 0, 0, m_y0, .null),
  (31, .aload_n 0, 32, 0, 0, 0, m_y0, .null),
  (32, .getfield 21, 35, 6, 3, 239, m_y0, .null),
  (35, .iload_n 1, 36, 1, 0, 0, m_y0, .null),
  (36, .bipush 60, 38, 0, 0, 0, m_y0, .int 60),
  (38, .imul, 39, 0, 0, 0, m_y0, .null),
  (39, .iload_n 1, 40, 1, 0, 0, m_y0, .null),
  (40, .iconst 1, 41, 0, 0, 0, m_y0, .int 1),
  (41, .iadd, 42, 0, 0, 0, m_y0, .null),
  (42, .bipush 60, 44, 0, 0, 0, m_y0, .int 60),
  (44, .imul, 45, 0, 0, 0, m_y0, .null),
  (45, .lconst 0, 46, 0, 0, 0, m_y0, .long 0),
  (46, .invokestatic 33, 49, 4, 0, 819, y_J_fillR, .null),
  (49, .return_, 50, 0, 0, 0, m_y0, .null)])
set_option maxRecDepth 100000 in
theorem k1_H_holdRow : MOk1 M_H_holdRow := m_ok1_of (by decide +kernel)
set_option maxRecDepth 100000 in
theorem k2_H_holdRow : MOk2 M_H_holdRow := m_ok2_spec (p0 := 818) (p1 := 76) (p2 := 816) (p3 := 817) (by decide +kernel)
def M_H_refusal : MD := (y_H_refusal, prog_8_method_7_code, 4, (some .int), (1, 2, 6), [
  (0, .aload_n 0, 1, 0, 0, 0, m_y0, .null),
  (1, .iload_n 1, 2, 1, 0, 0, m_y0, .null),
  (2, .invokevirtual 39, 5, 2, 0, 833, y_H_sortOn, .null),
  (5, .istore_n 3, 6, 3, 0, 0, m_y0, .null),
  (6, .iload_n 3, 7, 3, 0, 0, m_y0, .null),
  (7, .bipush (-2), 9, 0, 0, 0, m_y0, .int (-2)),
  (9, .if_icmp .ne 6, 12, 15, 0, 0, m_y0, .null),
  (12, .bipush (-11), 14, 0, 0, 0, m_y0, .int (-11)),
  (14, .ireturn, 15, 0, 0, 0, m_y0, .null),
  (15, .iload_n 3, 16, 3, 0, 0, m_y0, .null),
  (16, .iconst (-1), 17, 0, 0, 0, m_y0, .int (-1)),
  (17, .if_icmp .ne 6, 20, 23, 0, 0, m_y0, .null),
  (20, .bipush (-12), 22, 0, 0, 0, m_y0, .int (-12)),
  (22, .ireturn, 23, 0, 0, 0, m_y0, .null),
  (23, .iload_n 2, 24, 2, 0, 0, m_y0, .null),
  (24, .iconst 0, 25, 0, 0, 0, m_y0, .int 0),
  (25, .aload_n 0, 26, 0, 0, 0, m_y0, .null),
  (26, .iload_n 1, 27, 1, 0, 0, m_y0, .null),
  (27, .invokevirtual 43, 30, 2, 0, 834, y_H_lengthOn, .null),
  (30, .iconst 1, 31, 0, 0, 0, m_y0, .int 1),
  (31, .isub, 32, 0, 0, 0, m_y0, .null),
  (32, .invokestatic 29, 35, 3, 1, 360, y_C_within, .null),
  (35, .ifCond .eq 7, 38, 42, 0, 0, m_y0, .null),
  (38, .iconst 0, 39, 0, 0, 0, m_y0, .int 0),
  (39, .goto 5, 42, 44, 0, 0, m_y0, .null),
  (42, .bipush (-13), 44, 0, 0, 0, m_y0, .int (-13)),
  (44, .ireturn, 45, 0, 0, 0, m_y0, .null)])
set_option maxRecDepth 100000 in
theorem k1_H_refusal : MOk1 M_H_refusal := m_ok1_of (by decide +kernel)
set_option maxRecDepth 100000 in
theorem k2_H_refusal : MOk2 M_H_refusal := m_ok2_spec (p0 := 832) (p1 := 76) (p2 := 830) (p3 := 831) (by decide +kernel)
def M_H_cell : MD := (y_H_cell, prog_8_method_8_code, 3, (some .long), (1, 2, 6), [
  (0, .iload_n 1, 1, 1, 0, 0, m_y0, .null),
  (1, .invokestatic 25, 4, 1, 1, 347, y_C_isShelf, .null),
  (4, .ifCond .eq 27, 7, 31, 0, 0, m_y0, .null),
  (7, .iload_n 2, 8, 2, 0, 0, m_y0, .null),
  (8, .iconst 0, 9, 0, 0, 0, m_y0, .int 0),
  (9, .bipush 59, 11, 0, 0, 0, m_y0, .int 59),
  (11, .invokestatic 29, 14, 3, 1, 360, y_C_within, .null),
  (14, .ifCond .eq 17, 17, 31, 0, 0, m_y0, .null),
  (17, .aload_n 0, 18, 0, 0, 0, m_y0, .null),
  (18, .getfield 21, 21, 6, 3, 239, m_y0, .null),
  (21, .iload_n 1, 22, 1, 0, 0, m_y0, .null),
  (22, .bipush 60, 24, 0, 0, 0, m_y0, .int 60),
  (24, .imul, 25, 0, 0, 0, m_y0, .null),
  (25, .iload_n 2, 26, 2, 0, 0, m_y0, .null),
  (26, .iadd, 27, 0, 0, 0, m_y0, .null),
  (27, .laload, 28, 0, 0, 0, m_y0, .null),
  (28, .goto 4, 31, 32, 0, 0, m_y0, .null),
  (31, .lconst 0, 32, 0, 0, 0, m_y0, .long 0),
  (32, .lreturn, 33, 0, 0, 0, m_y0, .null)])
set_option maxRecDepth 100000 in
theorem k1_H_cell : MOk1 M_H_cell := m_ok1_of (by decide +kernel)
set_option maxRecDepth 100000 in
theorem k2_H_cell : MOk2 M_H_cell := m_ok2_spec (p0 := 359) (p1 := 76) (p2 := 357) (p3 := 358) (by decide +kernel)
def M_H_setCell : MD := (y_H_setCell, prog_8_method_9_code, 5, none, (1, 3, 6), [
  (0, .iload_n 1, 1, 1, 0, 0, m_y0, .null),
  (1, .invokestatic 25, 4, 1, 1, 347, y_C_isShelf, .null),
  (4, .ifCond .eq 34, 7, 38, 0, 0, m_y0, .null),
  (7, .iload_n 2, 8, 2, 0, 0, m_y0, .null),
  (8, .iconst 0, 9, 0, 0, 0, m_y0, .int 0),
  (9, .bipush 59, 11, 0, 0, 0, m_y0, .int 59),
  (11, .invokestatic 29, 14, 3, 1, 360, y_C_within, .null),
  (14, .ifCond .eq 24, 17, 38, 0, 0, m_y0, .null),
  (17, .aload_n 0, 18, 0, 0, 0, m_y0, .null),
  (18, .getfield 21, 21, 6, 3, 239, m_y0, .null),
  (21, .iload_n 1, 22, 1, 0, 0, m_y0, .null),
  (22, .bipush 60, 24, 0, 0, 0, m_y0, .int 60),
  (24, .imul, 25, 0, 0, 0, m_y0, .null),
  (25, .iload_n 2, 26, 2, 0, 0, m_y0, .null),
  (26, .iadd, 27, 0, 0, 0, m_y0, .null),
  (27, .aload_n 0, 28, 0, 0, 0, m_y0, .null),
  (28, .getfield 11, 31, 6, 0, 236, m_y0, .null),
  (31, .iload_n 1, 32, 1, 0, 0, m_y0, .null),
  (32, .iaload, 33, 0, 0, 0, m_y0, .null),
  (33, .lload_n 3, 34, 3, 0, 0, m_y0, .null),
  (34, .invokestatic 46, 37, 2, 0, 839, y_H_lowestBits, .null),
  (37, .lastore, 38, 0, 0, 0, m_y0, .null),
  (38, .return_, 39, 0, 0, 0, m_y0, .null)])
set_option maxRecDepth 100000 in
theorem k1_H_setCell : MOk1 M_H_setCell := m_ok1_of (by decide +kernel)
set_option maxRecDepth 100000 in
theorem k2_H_setCell : MOk2 M_H_setCell := m_ok2_spec (p0 := 838) (p1 := 76) (p2 := 836) (p3 := 837) (by decide +kernel)
def M_H_lowestBits : MD := (y_H_lowestBits, prog_8_method_10_code, 3, (some .long), (0, 2, 6), [
  (0, .iload_n 0, 1, 0, 0, 0, m_y0, .null),
  (1, .tableswitch 61 0 4 #[35, 40, 45, 61, 49], 36, 35, 0, 0, m_y0, .null),
  (36, .lload_n 1, 37, 1, 0, 0, m_y0, .null),
  (37, .l2i, 38, 0, 0, 0, m_y0, .null),
  (38, .i2b, 39, 0, 0, 0, m_y0, .null),
  (39, .i2l, 40, 0, 0, 0, m_y0, .null),
  (40, .lreturn, 41, 0, 0, 0, m_y0, .null),
  (41, .lload_n 1, 42, 1, 0, 0, m_y0, .null),
  (42, .l2i, 43, 0, 0, 0, m_y0, .null),
  (43, .i2s, 44, 0, 0, 0, m_y0, .null),
  (44, .i2l, 45, 0, 0, 0, m_y0, .null),
  (45, .lreturn, 46, 0, 0, 0, m_y0, .null),
  (46, .lload_n 1, 47, 1, 0, 0, m_y0, .null),
  (47, .l2i, 48, 0, 0, 0, m_y0, .null),
  (48, .i2l, 49, 0, 0, 0, m_y0, .null),
  (49, .lreturn, 50, 0, 0, 0, m_y0, .null),
  (50, .lload_n 1, 51, 1, 0, 0, m_y0, .null),
  (51, .lconst 0, 52, 0, 0, 0, m_y0, .long 0),
  (52, .lcmp, 53, 0, 0, 0, m_y0, .null),
  (53, .ifCond .eq 7, 56, 60, 0, 0, m_y0, .null),
  (56, .lconst 1, 57, 0, 0, 0, m_y0, .long 1),
  (57, .goto 4, 60, 61, 0, 0, m_y0, .null),
  (60, .lconst 0, 61, 0, 0, 0, m_y0, .long 0),
  (61, .lreturn, 62, 0, 0, 0, m_y0, .null),
  (62, .lload_n 1, 63, 1, 0, 0, m_y0, .null),
  (63, .lreturn, 64, 0, 0, 0, m_y0, .null)])
set_option maxRecDepth 100000 in
theorem k1_H_lowestBits : MOk1 M_H_lowestBits := m_ok1_of (by decide +kernel)
set_option maxRecDepth 100000 in
theorem k2_H_lowestBits : MOk2 M_H_lowestBits := m_ok2_spec (p0 := 841) (p1 := 76) (p2 := 840) (p3 := 0) (by decide +kernel)
def M_H_copy : MD := (y_H_copy, prog_8_method_11_code, 8, (some .int), (1, 5, 6), [
  (0, .aload_n 0, 1, 0, 0, 0, m_y0, .null),
  (1, .iload_n 1, 2, 1, 0, 0, m_y0, .null),
  (2, .invokevirtual 39, 5, 2, 0, 833, y_H_sortOn, .null),
  (5, .istore 6, 7, 6, 0, 0, m_y0, .null),
  (7, .aload_n 0, 8, 0, 0, 0, m_y0, .null),
  (8, .iload_n 3, 9, 3, 0, 0, m_y0, .null),
  (9, .invokevirtual 39, 12, 2, 0, 833, y_H_sortOn, .null),
  (12, .istore 7, 14, 7, 0, 0, m_y0, .null),
  (14, .iload 6, 16, 6, 0, 0, m_y0, .null),
  (16, .bipush (-2), 18, 0, 0, 0, m_y0, .int (-2)),
  (18, .if_icmp .eq 10, 21, 28, 0, 0, m_y0, .null),
  (21, .iload 7, 23, 7, 0, 0, m_y0, .null),
  (23, .bipush (-2), 25, 0, 0, 0, m_y0, .int (-2)),
  (25, .if_icmp .ne 6, 28, 31, 0, 0, m_y0, .null),
  (28, .bipush (-11), 30, 0, 0, 0, m_y0, .int (-11)),
  (30, .ireturn, 31, 0, 0, 0, m_y0, .null),
  (31, .iload 6, 33, 6, 0, 0, m_y0, .null),
  (33, .iconst (-1), 34, 0, 0, 0, m_y0, .int (-1)),
  (34, .if_icmp .eq 10, 37, 44, 0, 0, m_y0, .null),
  (37, .iload 6, 39, 6, 0, 0, m_y0, .null),
  (39, .iload 7, 41, 7, 0, 0, m_y0, .null),
  (41, .if_icmp .eq 6, 44, 47, 0, 0, m_y0, .null),
  (44, .bipush (-12), 46, 0, 0, 0, m_y0, .int (-12)),
  (46, .ireturn, 47, 0, 0, 0, m_y0, .null),
  (47, .iload 5, 49, 5, 0, 0, m_y0, .null),
  (49, .ifCond .lt 26, 52, 75, 0, 0, m_y0, .null),
  (52, .aload_n 0, 53, 0, 0, 0, m_y0, .null),
  (53, .iload_n 1, 54, 1, 0, 0, m_y0, .null),
  (54, .iload_n 2, 55, 2, 0, 0, m_y0, .null),
  (55, .iload 5, 57, 5, 0, 0, m_y0, .null),
  (57, .invokevirtual 50, 60, 4, 0, 854, y_H_reaches, .null),
  (60, .ifCond .eq 15, 63, 75, 0, 0, m_y0, .null),
  (63, .aload_n 0, 64, 0, 0, 0, m_y0, .null),
  (64, .iload_n 3, 65, 3, 0, 0, m_y0, .null),
  (65, .iload 4, 67, 4, 0, 0, m_y0, .null),
  (67, .iload 5, 69, 5, 0, 0, m_y0, .null),
  (69, .invokevirtual 50, 72, 4, 0, 854, y_H_reaches, .null),
  (72, .ifCond .ne 6, 75, 78, 0, 0, m_y0, .null),
  (75, .bipush (-13), 77, 0, 0, 0, m_y0, .int (-13)),
  (77, .ireturn, 78, 0, 0, 0, m_y0, .null),
  (78, .aload_n 0, 79, 0, 0, 0, m_y0, .null),
  (79, .getfield 21, 82, 6, 3, 239, m_y0, .null),
  (82, .iload_n 1, 83, 1, 0, 0, m_y0, .null),
  (83, .bipush 60, 85, 0, 0, 0, m_y0, .int 60),
  (85, .imul, 86, 0, 0, 0, m_y0, .null),
  (86, .iload_n 2, 87, 2, 0, 0, m_y0, .null),
  (87, .iadd, 88, 0, 0, 0, m_y0, .null),
  (88, .aload_n 0, 89, 0, 0, 0, m_y0, .null),
  (89, .getfield 21, 92, 6, 3, 239, m_y0, .null),
  (92, .iload_n 3, 93, 3, 0, 0, m_y0, .null),
  (93, .bipush 60, 95, 0, 0, 0, m_y0, .int 60),
  (95, .imul, 96, 0, 0, 0, m_y0, .null),
  (96, .iload 4, 98, 4, 0, 0, m_y0, .null),
  (98, .iadd, 99, 0, 0, 0, m_y0, .null),
  (99, .iload 5, 101, 5, 0, 0, m_y0, .null),
  (101, .invokestatic 53, 104, 5, 0, 858, arraycopyName, .null),
  (104, .iload 5, 106, 5, 0, 0, m_y0, .null),
  (106, .ireturn, 107, 0, 0, 0, m_y0, .null)])
set_option maxRecDepth 100000 in
theorem k1_H_copy : MOk1 M_H_copy := m_ok1_of (by decide +kernel)
set_option maxRecDepth 100000 in
theorem k2_H_copy : MOk2 M_H_copy := m_ok2_spec (p0 := 853) (p1 := 76) (p2 := 851) (p3 := 852) (by decide +kernel)
def M_H_reaches : MD := (y_H_reaches, prog_8_method_12_code, 4, (some .boolean), (1, 3, 6), [
  (0, .iload_n 2, 1, 2, 0, 0, m_y0, .null),
  (1, .ifCond .lt 18, 4, 19, 0, 0, m_y0, .null),
  (4, .iload_n 2, 5, 2, 0, 0, m_y0, .null),
  (5, .aload_n 0, 6, 0, 0, 0, m_y0, .null),
  (6, .iload_n 1, 7, 1, 0, 0, m_y0, .null),
  (7, .invokevirtual 43, 10, 2, 0, 834, y_H_lengthOn, .null),
  (10, .iload_n 3, 11, 3, 0, 0, m_y0, .null),
  (11, .isub, 12, 0, 0, 0, m_y0, .null),
  (12, .if_icmp .gt 7, 15, 19, 0, 0, m_y0, .null),
  (15, .iconst 1, 16, 0, 0, 0, m_y0, .int 1),
  (16, .goto 4, 19, 20, 0, 0, m_y0, .null),
  (19, .iconst 0, 20, 0, 0, 0, m_y0, .int 0),
  (20, .ireturn, 21, 0, 0, 0, m_y0, .null)])
set_option maxRecDepth 100000 in
theorem k1_H_reaches : MOk1 M_H_reaches := m_ok1_of (by decide +kernel)
set_option maxRecDepth 100000 in
theorem k2_H_reaches : MOk2 M_H_reaches := m_ok2_spec (p0 := 857) (p1 := 76) (p2 := 856) (p3 := 26) (by decide +kernel)
def M_T_init_0 : List (Nat × ME) := [
  (0, .aload_n 0, 1, 0, 0, 0, m_y0, .null),
  (1, .invokespecial 3, 4, 1, 0, 96, Lib.objectInit, .null),
  (4, .aload_n 0, 5, 0, 0, 0, m_y0, .null),
  (5, .bipush 24, 7, 0, 0, 0, m_y0, .int 24),
  (7, .newarray .int, 9, 0, 0, 0, m_y0, .null),
  (9, .dup, 10, 0, 0, 0, m_y0, .null),
  (10, .iconst 0, 11, 0, 0, 0, m_y0, .int 0),
  (11, .iconst 1, 12, 0, 0, 0, m_y0, .int 1),
  (12, .iastore, 13, 0, 0, 0, m_y0, .null),
  (13, .dup, 14, 0, 0, 0, m_y0, .null),
  (14, .iconst 1, 15, 0, 0, 0, m_y0, .int 1),
  (15, .iconst 1, 16, 0, 0, 0, m_y0, .int 1),
  (16, .iastore, 17, 0, 0, 0, m_y0, .null),
  (17, .dup, 18, 0, 0, 0, m_y0, .null),
  (18, .iconst 2, 19, 0, 0, 0, m_y0, .int 2),
  (19, .iconst 1, 20, 0, 0, 0, m_y0, .int 1),
  (20, .iastore, 21, 0, 0, 0, m_y0, .null),
  (21, .dup, 22, 0, 0, 0, m_y0, .null),
  (22, .iconst 3, 23, 0, 0, 0, m_y0, .int 3),
  (23, .iconst 1, 24, 0, 0, 0, m_y0, .int 1),
  (24, .iastore, 25, 0, 0, 0, m_y0, .null),
  (25, .dup, 26, 0, 0, 0, m_y0, .null),
  (26, .iconst 4, 27, 0, 0, 0, m_y0, .int 4),
  (27, .iconst 1, 28, 0, 0, 0, m_y0, .int 1),
  (28, .iastore, 29, 0, 0, 0, m_y0, .null),
  (29, .dup, 30, 0, 0, 0, m_y0, .null),
  (30, .iconst 5, 31, 0, 0, 0, m_y0, .int 5),
  (31, .iconst 1, 32, 0, 0, 0, m_y0, .int 1),
  (32, .iastore, 33, 0, 0, 0, m_y0, .null),
  (33, .dup, 34, 0, 0, 0, m_y0, .null),
  (34, .bipush 6, 36, 0, 0, 0, m_y0, .int 6),
  (36, .iconst 0, 37, 0, 0, 0, m_y0, .int 0),
  (37, .iastore, 38, 0, 0, 0, m_y0, .null),
  (38, .dup, 39, 0, 0, 0, m_y0, .null),
  (39, .bipush 7, 41, 0, 0, 0, m_y0, .int 7),
  (41, .iconst 0, 42, 0, 0, 0, m_y0, .int 0),
  (42, .iastore, 43, 0, 0, 0, m_y0, .null),
  (43, .dup, 44, 0, 0, 0, m_y0, .null),
  (44, .bipush 8, 46, 0, 0, 0, m_y0, .int 8),
  (46, .iconst 0, 47, 0, 0, 0, m_y0, .int 0),
  (47, .iastore, 48, 0, 0, 0, m_y0, .null),
  (48, .dup, 49, 0, 0, 0, m_y0, .null),
  (49, .bipush 9, 51, 0, 0, 0, m_y0, .int 9),
  (51, .iconst 0, 52, 0, 0, 0, m_y0, .int 0),
  (52, .iastore, 53, 0, 0, 0, m_y0, .null),
  (53, .dup, 54, 0, 0, 0, m_y0, .null),
  (54, .bipush 10, 56, 0, 0, 0, m_y0, .int 10),
  (56, .iconst 0, 57, 0, 0, 0, m_y0, .int 0),
  (57, .iastore, 58, 0, 0, 0, m_y0, .null),
  (58, .dup, 59, 0, 0, 0, m_y0, .null)]
def M_T_init_1 : List (Nat × ME) := [
  (59, .bipush 11, 61, 0, 0, 0, m_y0, .int 11),
  (61, .iconst 0, 62, 0, 0, 0, m_y0, .int 0),
  (62, .iastore, 63, 0, 0, 0, m_y0, .null),
  (63, .dup, 64, 0, 0, 0, m_y0, .null),
  (64, .bipush 12, 66, 0, 0, 0, m_y0, .int 12),
  (66, .iconst 1, 67, 0, 0, 0, m_y0, .int 1),
  (67, .iastore, 68, 0, 0, 0, m_y0, .null),
  (68, .dup, 69, 0, 0, 0, m_y0, .null),
  (69, .bipush 13, 71, 0, 0, 0, m_y0, .int 13),
  (71, .iconst 1, 72, 0, 0, 0, m_y0, .int 1),
  (72, .iastore, 73, 0, 0, 0, m_y0, .null),
  (73, .dup, 74, 0, 0, 0, m_y0, .null),
  (74, .bipush 14, 76, 0, 0, 0, m_y0, .int 14),
  (76, .iconst 1, 77, 0, 0, 0, m_y0, .int 1),
  (77, .iastore, 78, 0, 0, 0, m_y0, .null),
  (78, .dup, 79, 0, 0, 0, m_y0, .null),
  (79, .bipush 15, 81, 0, 0, 0, m_y0, .int 15),
  (81, .iconst 1, 82, 0, 0, 0, m_y0, .int 1),
  (82, .iastore, 83, 0, 0, 0, m_y0, .null),
  (83, .dup, 84, 0, 0, 0, m_y0, .null),
  (84, .bipush 16, 86, 0, 0, 0, m_y0, .int 16),
  (86, .iconst 1, 87, 0, 0, 0, m_y0, .int 1),
  (87, .iastore, 88, 0, 0, 0, m_y0, .null),
  (88, .dup, 89, 0, 0, 0, m_y0, .null),
  (89, .bipush 17, 91, 0, 0, 0, m_y0, .int 17),
  (91, .iconst 1, 92, 0, 0, 0, m_y0, .int 1),
  (92, .iastore, 93, 0, 0, 0, m_y0, .null),
  (93, .dup, 94, 0, 0, 0, m_y0, .null),
  (94, .bipush 18, 96, 0, 0, 0, m_y0, .int 18),
  (96, .bipush 10, 98, 0, 0, 0, m_y0, .int 10),
  (98, .iastore, 99, 0, 0, 0, m_y0, .null),
  (99, .dup, 100, 0, 0, 0, m_y0, .null),
  (100, .bipush 19, 102, 0, 0, 0, m_y0, .int 19),
  (102, .bipush 10, 104, 0, 0, 0, m_y0, .int 10),
  (104, .iastore, 105, 0, 0, 0, m_y0, .null),
  (105, .dup, 106, 0, 0, 0, m_y0, .null),
  (106, .bipush 20, 108, 0, 0, 0, m_y0, .int 20),
  (108, .bipush 10, 110, 0, 0, 0, m_y0, .int 10),
  (110, .iastore, 111, 0, 0, 0, m_y0, .null),
  (111, .dup, 112, 0, 0, 0, m_y0, .null),
  (112, .bipush 21, 114, 0, 0, 0, m_y0, .int 21),
  (114, .bipush 10, 116, 0, 0, 0, m_y0, .int 10),
  (116, .iastore, 117, 0, 0, 0, m_y0, .null),
  (117, .dup, 118, 0, 0, 0, m_y0, .null),
  (118, .bipush 22, 120, 0, 0, 0, m_y0, .int 22),
  (120, .bipush 10, 122, 0, 0, 0, m_y0, .int 10),
  (122, .iastore, 123, 0, 0, 0, m_y0, .null),
  (123, .dup, 124, 0, 0, 0, m_y0, .null),
  (124, .bipush 23, 126, 0, 0, 0, m_y0, .int 23),
  (126, .bipush 10, 128, 0, 0, 0, m_y0, .int 10)]
def M_T_init_2 : List (Nat × ME) := [
  (128, .iastore, 129, 0, 0, 0, m_y0, .null),
  (129, .putfield 9, 132, 7, 0, 97, m_y0, .null),
  (132, .aload_n 0, 133, 0, 0, 0, m_y0, .null),
  (133, .bipush 40, 135, 0, 0, 0, m_y0, .int 40),
  (135, .newarray .int, 137, 0, 0, 0, m_y0, .null),
  (137, .putfield 15, 140, 7, 1, 98, m_y0, .null),
  (140, .aload_n 0, 141, 0, 0, 0, m_y0, .null),
  (141, .bipush 40, 143, 0, 0, 0, m_y0, .int 40),
  (143, .newarray .int, 145, 0, 0, 0, m_y0, .null),
  (145, .putfield 18, 148, 7, 2, 99, m_y0, .null),
  (148, .aload_n 0, 149, 0, 0, 0, m_y0, .null),
  (149, .bipush 40, 151, 0, 0, 0, m_y0, .int 40),
  (151, .newarray .int, 153, 0, 0, 0, m_y0, .null),
  (153, .putfield 21, 156, 7, 3, 100, m_y0, .null),
  (156, .aload_n 0, 157, 0, 0, 0, m_y0, .null),
  (157, .iconst 0, 158, 0, 0, 0, m_y0, .int 0),
  (158, .putfield 24, 161, 7, 4, 101, m_y0, .int 0),
  (161, .aload_n 0, 162, 0, 0, 0, m_y0, .null),
  (162, .iconst 0, 163, 0, 0, 0, m_y0, .int 0),
  (163, .putfield 28, 166, 7, 5, 103, m_y0, .int 0),
  (166, .return_, 167, 0, 0, 0, m_y0, .null)]
def M_T_init : MD := (y_T_init, prog_9_method_1_code, 1, none, (2, 0, 7), M_T_init_0 ++ (M_T_init_1 ++ (M_T_init_2)))
set_option maxRecDepth 100000 in
theorem k1_T_init_0 : M_T_init_0.all (m_eok y_T_init prog_9_method_1_code 1) = true := by decide +kernel
set_option maxRecDepth 100000 in
theorem k1_T_init_1 : M_T_init_1.all (m_eok y_T_init prog_9_method_1_code 1) = true := by decide +kernel
set_option maxRecDepth 100000 in
theorem k1_T_init_2 : M_T_init_2.all (m_eok y_T_init prog_9_method_1_code 1) = true := by decide +kernel
theorem k1_T_init : MOk1 M_T_init := m_ok1_of (m_all_app k1_T_init_0 (m_all_app k1_T_init_1 k1_T_init_2))
set_option maxRecDepth 100000 in
theorem k2_T_init : MOk2 M_T_init := m_ok2_spec (p0 := 95) (p1 := 70) (p2 := 94) (p3 := 0) (by decide +kernel)
def M_T_get : MD := (y_T_get, prog_9_method_2_code, 4, (some .int), (1, 2, 7), [
  (0, .iload_n 1, 1, 1, 0, 0, m_y0, .null),
  (1, .bipush 6, 3, 0, 0, 0, m_y0, .int 6),
  (3, .imul, 4, 0, 0, 0, m_y0, .null),
  (4, .iload_n 2, 5, 2, 0, 0, m_y0, .null),
  (5, .iadd, 6, 0, 0, 0, m_y0, .null),
  (6, .istore_n 3, 7, 3, 0, 0, m_y0, .null),
  (7, .iload_n 3, 8, 3, 0, 0, m_y0, .null),
  (8, .ifCond .lt 21, 11, 29, 0, 0, m_y0, .null),
  (11, .iload_n 3, 12, 3, 0, 0, m_y0, .null),
  (12, .aload_n 0, 13, 0, 0, 0, m_y0, .null),
  (13, .getfield 9, 16, 7, 0, 97, m_y0, .null),
  (16, .arraylength, 17, 0, 0, 0, m_y0, .null),
  (17, .if_icmp .ge 12, 20, 29, 0, 0, m_y0, .null),
  (20, .aload_n 0, 21, 0, 0, 0, m_y0, .null),
  (21, .getfield 9, 24, 7, 0, 97, m_y0, .null),
  (24, .iload_n 3, 25, 3, 0, 0, m_y0, .null),
  (25, .iaload, 26, 0, 0, 0, m_y0, .null),
  (26, .goto 4, 29, 30, 0, 0, m_y0, .null),
  (29, .iconst 0, 30, 0, 0, 0, m_y0, .int 0),
  (30, .ireturn, 31, 0, 0, 0, m_y0, .null)])
set_option maxRecDepth 100000 in
theorem k1_T_get : MOk1 M_T_get := m_ok1_of (by decide +kernel)
set_option maxRecDepth 100000 in
theorem k2_T_get : MOk2 M_T_get := m_ok2_spec (p0 := 377) (p1 := 70) (p2 := 375) (p3 := 376) (by decide +kernel)
def M_T_change : MD := (y_T_change, prog_9_method_3_code, 5, (some .int), (1, 3, 7), [
  (0, .aload_n 0, 1, 0, 0, 0, m_y0, .null),
  (1, .iload_n 1, 2, 1, 0, 0, m_y0, .null),
  (2, .iload_n 2, 3, 2, 0, 0, m_y0, .null),
  (3, .invokevirtual 31, 6, 3, 0, 374, y_T_get, .null),
  (6, .istore 4, 8, 4, 0, 0, m_y0, .null),
  (8, .iload 4, 10, 4, 0, 0, m_y0, .null),
  (10, .iload_n 3, 11, 3, 0, 0, m_y0, .null),
  (11, .if_icmp .eq 27, 14, 38, 0, 0, m_y0, .null),
  (14, .aload_n 0, 15, 0, 0, 0, m_y0, .null),
  (15, .iload_n 1, 16, 1, 0, 0, m_y0, .null),
  (16, .bipush 6, 18, 0, 0, 0, m_y0, .int 6),
  (18, .imul, 19, 0, 0, 0, m_y0, .null),
  (19, .iload_n 2, 20, 2, 0, 0, m_y0, .null),
  (20, .iadd, 21, 0, 0, 0, m_y0, .null),
  (21, .iload 4, 23, 4, 0, 0, m_y0, .null),
  (23, .iload_n 3, 24, 3, 0, 0, m_y0, .null),
  (24, .invokevirtual 35, 27, 4, 0, 378, y_T_remember, .null),
  (27, .aload_n 0, 28, 0, 0, 0, m_y0, .null),
  (28, .iload_n 1, 29, 1, 0, 0, m_y0, .null),
  (29, .bipush 6, 31, 0, 0, 0, m_y0, .int 6),
  (31, .imul, 32, 0, 0, 0, m_y0, .null),
  (32, .iload_n 2, 33, 2, 0, 0, m_y0, .null),
  (33, .iadd, 34, 0, 0, 0, m_y0, .null),
  (34, .iload_n 3, 35, 3, 0, 0, m_y0, .null),
  (35, .invokevirtual 39, 38, 3, 0, 389, y_T_set, .null),
  (38, .iload 4, 40, 4, 0, 0, m_y0, .null),
  (40, .ireturn, 41, 0, 0, 0, m_y0, .null)])
set_option maxRecDepth 100000 in
theorem k1_T_change : MOk1 M_T_change := m_ok1_of (by decide +kernel)
set_option maxRecDepth 100000 in
theorem k2_T_change : MOk2 M_T_change := m_ok2_spec (p0 := 373) (p1 := 70) (p2 := 371) (p3 := 372) (by decide +kernel)
def M_T_sumOver : MD := (y_T_sumOver, prog_9_method_4_code, 5, (some .int), (1, 2, 7), [
  (0, .iconst 0, 1, 0, 0, 0, m_y0, .int 0),
  (1, .istore_n 3, 2, 3, 0, 0, m_y0, .null),
  (2, .iconst 0, 3, 0, 0, 0, m_y0, .int 0),
  (3, .istore 4, 5, 4, 0, 0, m_y0, .null),
  (5, .iload 4, 7, 4, 0, 0, m_y0, .null),
  (7, .bipush 6, 9, 0, 0, 0, m_y0, .int 6),
  (9, .if_icmp .ge 32, 12, 41, 0, 0, m_y0, .null),
  (12, .iload_n 3, 13, 3, 0, 0, m_y0, .null),
  (13, .iload_n 2, 14, 2, 0, 0, m_y0, .null),
  (14, .iload 4, 16, 4, 0, 0, m_y0, .null),
  (16, .invokestatic 43, 19, 2, 1, 662, y_C_hasBit, .null),
  (19, .ifCond .eq 13, 22, 32, 0, 0, m_y0, .null),
  (22, .aload_n 0, 23, 0, 0, 0, m_y0, .null),
  (23, .iload_n 1, 24, 1, 0, 0, m_y0, .null),
  (24, .iload 4, 26, 4, 0, 0, m_y0, .null),
  (26, .invokevirtual 31, 29, 3, 0, 374, y_T_get, .null),
  (29, .goto 4, 32, 33, 0, 0, m_y0, .null),
  (32, .iconst 0, 33, 0, 0, 0, m_y0, .int 0),
  (33, .iadd, 34, 0, 0, 0, m_y0, .null),
  (34, .istore_n 3, 35, 3, 0, 0, m_y0, .null),
  (35, .iinc 4 1, 38, 4, 0, 0, m_y0, .int 1),
  (38, .goto (-33), 41, 5, 0, 0, m_y0, .null),
  (41, .iload_n 3, 42, 3, 0, 0, m_y0, .null),
  (42, .ireturn, 43, 0, 0, 0, m_y0, .null)])
set_option maxRecDepth 100000 in
theorem k1_T_sumOver : MOk1 M_T_sumOver := m_ok1_of (by decide +kernel)
set_option maxRecDepth 100000 in
theorem k2_T_sumOver : MOk2 M_T_sumOver := m_ok2_spec (p0 := 661) (p1 := 70) (p2 := 659) (p3 := 660) (by decide +kernel)
def M_T_stepBack : MD := (y_T_stepBack, prog_9_method_5_code, 1, (some .int), (1, 0, 7), [
  (0, .aload_n 0, 1, 0, 0, 0, m_y0, .null),
  (1, .getfield 24, 4, 7, 4, 101, m_y0, .null),
  (4, .ifCond .le 12, 7, 16, 0, 0, m_y0, .null),
  (7, .aload_n 0, 8, 0, 0, 0, m_y0, .null),
  (8, .getfield 24, 11, 7, 4, 101, m_y0, .null),
  (11, .bipush 40, 13, 0, 0, 0, m_y0, .int 40),
  (13, .if_icmp .le 6, 16, 19, 0, 0, m_y0, .null),
  (16, .bipush (-5), 18, 0, 0, 0, m_y0, .int (-5)),
  (18, .ireturn, 19, 0, 0, 0, m_y0, .null),
  (19, .aload_n 0, 20, 0, 0, 0, m_y0, .null),
  (20, .dup, 21, 0, 0, 0, m_y0, .null),
  (21, .getfield 24, 24, 7, 4, 101, m_y0, .null),
  (24, .iconst 1, 25, 0, 0, 0, m_y0, .int 1),
  (25, .isub, 26, 0, 0, 0, m_y0, .null),
  (26, .putfield 24, 29, 7, 4, 101, m_y0, .int 0),
  (29, .aload_n 0, 30, 0, 0, 0, m_y0, .null),
  (30, .aload_n 0, 31, 0, 0, 0, m_y0, .null),
  (31, .getfield 15, 34, 7, 1, 98, m_y0, .null),
  (34, .aload_n 0, 35, 0, 0, 0, m_y0, .null),
  (35, .getfield 24, 38, 7, 4, 101, m_y0, .null),
  (38, .iaload, 39, 0, 0, 0, m_y0, .null),
  (39, .aload_n 0, 40, 0, 0, 0, m_y0, .null),
  (40, .getfield 18, 43, 7, 2, 99, m_y0, .null),
  (43, .aload_n 0, 44, 0, 0, 0, m_y0, .null),
  (44, .getfield 24, 47, 7, 4, 101, m_y0, .null),
  (47, .iaload, 48, 0, 0, 0, m_y0, .null),
  (48, .invokevirtual 39, 51, 3, 0, 389, y_T_set, .null),
  (51, .aload_n 0, 52, 0, 0, 0, m_y0, .null),
  (52, .getfield 24, 55, 7, 4, 101, m_y0, .null),
  (55, .ireturn, 56, 0, 0, 0, m_y0, .null)])
set_option maxRecDepth 100000 in
theorem k1_T_stepBack : MOk1 M_T_stepBack := m_ok1_of (by decide +kernel)
set_option maxRecDepth 100000 in
theorem k2_T_stepBack : MOk2 M_T_stepBack := m_ok2_spec (p0 := 743) (p1 := 70) (p2 := 741) (p3 := 742) (by decide +kernel)
def M_T_stepAgain : MD := (y_T_stepAgain, prog_9_method_6_code, 1, (some .int), (1, 0, 7), [
  (0, .aload_n 0, 1, 0, 0, 0, m_y0, .null),
  (1, .getfield 24, 4, 7, 4, 101, m_y0, .null),
  (4, .ifCond .lt 23, 7, 27, 0, 0, m_y0, .null),
  (7, .aload_n 0, 8, 0, 0, 0, m_y0, .null),
  (8, .getfield 24, 11, 7, 4, 101, m_y0, .null),
  (11, .aload_n 0, 12, 0, 0, 0, m_y0, .null),
  (12, .getfield 28, 15, 7, 5, 103, m_y0, .null),
  (15, .if_icmp .ge 12, 18, 27, 0, 0, m_y0, .null),
  (18, .aload_n 0, 19, 0, 0, 0, m_y0, .null),
  (19, .getfield 24, 22, 7, 4, 101, m_y0, .null),
  (22, .bipush 40, 24, 0, 0, 0, m_y0, .int 40),
  (24, .if_icmp .lt 6, 27, 30, 0, 0, m_y0, .null),
  (27, .bipush (-5), 29, 0, 0, 0, m_y0, .int (-5)),
  (29, .ireturn, 30, 0, 0, 0, m_y0, .null),
  (30, .aload_n 0, 31, 0, 0, 0, m_y0, .null),
  (31, .aload_n 0, 32, 0, 0, 0, m_y0, .null),
  (32, .getfield 15, 35, 7, 1, 98, m_y0, .null),
  (35, .aload_n 0, 36, 0, 0, 0, m_y0, .null),
  (36, .getfield 24, 39, 7, 4, 101, m_y0, .null),
  (39, .iaload, 40, 0, 0, 0, m_y0, .null),
  (40, .aload_n 0, 41, 0, 0, 0, m_y0, .null),
  (41, .getfield 21, 44, 7, 3, 100, m_y0, .null),
  (44, .aload_n 0, 45, 0, 0, 0, m_y0, .null),
  (45, .getfield 24, 48, 7, 4, 101, m_y0, .null),
  (48, .iaload, 49, 0, 0, 0, m_y0, .null),
  (49, .invokevirtual 39, 52, 3, 0, 389, y_T_set, .null),
  (52, .aload_n 0, 53, 0, 0, 0, m_y0, .null),
  (53, .dup, 54, 0, 0, 0, m_y0, .null),
  (54, .getfield 24, 57, 7, 4, 101, m_y0, .null),
  (57, .iconst 1, 58, 0, 0, 0, m_y0, .int 1),
  (58, .iadd, 59, 0, 0, 0, m_y0, .null),
  (59, .putfield 24, 62, 7, 4, 101, m_y0, .int 0),
  (62, .aload_n 0, 63, 0, 0, 0, m_y0, .null),
  (63, .getfield 28, 66, 7, 5, 103, m_y0, .null),
  (66, .aload_n 0, 67, 0, 0, 0, m_y0, .null),
  (67, .getfield 24, 70, 7, 4, 101, m_y0, .null),
  (70, .isub, 71, 0, 0, 0, m_y0, .null),
  (71, .ireturn, 72, 0, 0, 0, m_y0, .null)])
set_option maxRecDepth 100000 in
theorem k1_T_stepAgain : MOk1 M_T_stepAgain := m_ok1_of (by decide +kernel)
set_option maxRecDepth 100000 in
theorem k2_T_stepAgain : MOk2 M_T_stepAgain := m_ok2_spec (p0 := 751) (p1 := 70) (p2 := 749) (p3 := 750) (by decide +kernel)
def M_T_set : MD := (y_T_set, prog_9_method_7_code, 3, none, (1, 2, 7), [
  (0, .iload_n 1, 1, 1, 0, 0, m_y0, .null),
  (1, .ifCond .lt 19, 4, 20, 0, 0, m_y0, .null),
  (4, .iload_n 1, 5, 1, 0, 0, m_y0, .null),
  (5, .aload_n 0, 6, 0, 0, 0, m_y0, .null),
  (6, .getfield 9, 9, 7, 0, 97, m_y0, .null),
  (9, .arraylength, 10, 0, 0, 0, m_y0, .null),
  (10, .if_icmp .ge 10, 13, 20, 0, 0, m_y0, .null),
  (13, .aload_n 0, 14, 0, 0, 0, m_y0, .null),
  (14, .getfield 9, 17, 7, 0, 97, m_y0, .null),
  (17, .iload_n 1, 18, 1, 0, 0, m_y0, .null),
  (18, .iload_n 2, 19, 2, 0, 0, m_y0, .null),
  (19, .iastore, 20, 0, 0, 0, m_y0, .null),
  (20, .return_, 21, 0, 0, 0, m_y0, .null)])
set_option maxRecDepth 100000 in
theorem k1_T_set : MOk1 M_T_set := m_ok1_of (by decide +kernel)
set_option maxRecDepth 100000 in
theorem k2_T_set : MOk2 M_T_set := m_ok2_spec (p0 := 392) (p1 := 70) (p2 := 391) (p3 := 4) (by decide +kernel)
def M_T_remember : MD := (y_T_remember, prog_9_method_8_code, 4, none, (1, 3, 7), [
  (0, .aload_n 0, 1, 0, 0, 0, m_y0, .null),
  (1, .getfield 24, 4, 7, 4, 101, m_y0, .null),
  (4, .bipush 40, 6, 0, 0, 0, m_y0, .int 40),
  (6, .if_icmp .lt 7, 9, 13, 0, 0, m_y0, .null),
  (9, .aload_n 0, 10, 0, 0, 0, m_y0, .null),
  (10, .invokevirtual 47, 13, 1, 0, 382, y_T_dropOldest, .null),
  (13, .aload_n 0, 14, 0, 0, 0, m_y0, .null),
  (14, .getfield 24, 17, 7, 4, 101, m_y0, .null),
  (17, .ifCond .lt 52, 20, 69, 0, 0, m_y0, .null),
  (20, .aload_n 0, 21, 0, 0, 0, m_y0, .null),
  (21, .getfield 24, 24, 7, 4, 101, m_y0, .null),
  (24, .bipush 40, 26, 0, 0, 0, m_y0, .int 40),
  (26, .if_icmp .ge 43, 29, 69, 0, 0, m_y0, .null),
  (29, .aload_n 0, 30, 0, 0, 0, m_y0, .null),
  (30, .getfield 15, 33, 7, 1, 98, m_y0, .null),
  (33, .aload_n 0, 34, 0, 0, 0, m_y0, .null),
  (34, .getfield 24, 37, 7, 4, 101, m_y0, .null),
  (37, .iload_n 1, 38, 1, 0, 0, m_y0, .null),
  (38, .iastore, 39, 0, 0, 0, m_y0, .null),
  (39, .aload_n 0, 40, 0, 0, 0, m_y0, .null),
  (40, .getfield 18, 43, 7, 2, 99, m_y0, .null),
  (43, .aload_n 0, 44, 0, 0, 0, m_y0, .null),
  (44, .getfield 24, 47, 7, 4, 101, m_y0, .null),
  (47, .iload_n 2, 48, 2, 0, 0, m_y0, .null),
  (48, .iastore, 49, 0, 0, 0, m_y0, .null),
  (49, .aload_n 0, 50, 0, 0, 0, m_y0, .null),
  (50, .getfield 21, 53, 7, 3, 100, m_y0, .null),
  (53, .aload_n 0, 54, 0, 0, 0, m_y0, .null),
  (54, .getfield 24, 57, 7, 4, 101, m_y0, .null),
  (57, .iload_n 3, 58, 3, 0, 0, m_y0, .null),
  (58, .iastore, 59, 0, 0, 0, m_y0, .null),
  (59, .aload_n 0, 60, 0, 0, 0, m_y0, .null),
  (60, .dup, 61, 0, 0, 0, m_y0, .null),
  (61, .getfield 24, 64, 7, 4, 101, m_y0, .null),
  (64, .iconst 1, 65, 0, 0, 0, m_y0, .int 1),
  (65, .iadd, 66, 0, 0, 0, m_y0, .null),
  (66, .putfield 24, 69, 7, 4, 101, m_y0, .int 0),
  (69, .aload_n 0, 70, 0, 0, 0, m_y0, .null),
  (70, .aload_n 0, 71, 0, 0, 0, m_y0, .null),
  (71, .getfield 24, 74, 7, 4, 101, m_y0, .null),
  (74, .putfield 28, 77, 7, 5, 103, m_y0, .int 0),
  (77, .return_, 78, 0, 0, 0, m_y0, .null)])
set_option maxRecDepth 100000 in
theorem k1_T_remember : MOk1 M_T_remember := m_ok1_of (by decide +kernel)
set_option maxRecDepth 100000 in
theorem k2_T_remember : MOk2 M_T_remember := m_ok2_spec (p0 := 381) (p1 := 70) (p2 := 380) (p3 := 2) (by decide +kernel)
def M_T_dropOldest : MD := (y_T_dropOldest, prog_9_method_9_code, 1, none, (1, 0, 7), [
  (0, .aload_n 0, 1, 0, 0, 0, m_y0, .null),
  (1, .getfield 15, 4, 7, 1, 98, m_y0, .null),
  (4, .iconst 1, 5, 0, 0, 0, m_y0, .int 1),
  (5, .aload_n 0, 6, 0, 0, 0, m_y0, .null),
  (6, .getfield 15, 9, 7, 1, 98, m_y0, .null),
  (9, .iconst 0, 10, 0, 0, 0, m_y0, .int 0),
  (10, .bipush 39, 12, 0, 0, 0, m_y0, .int 39),
  (12, .invokestatic 50, 15, 5, 0, 386, arraycopyName, .null),
  (15, .aload_n 0, 16, 0, 0, 0, m_y0, .null),
  (16, .getfield 18, 19, 7, 2, 99, m_y0, .null),
  (19, .iconst 1, 20, 0, 0, 0, m_y0, .int 1),
  (20, .aload_n 0, 21, 0, 0, 0, m_y0, .null),
  (21, .getfield 18, 24, 7, 2, 99, m_y0, .null),
  (24, .iconst 0, 25, 0, 0, 0, m_y0, .int 0),
  (25, .bipush 39, 27, 0, 0, 0, m_y0, .int 39),
  (27, .invokestatic 50, 30, 5, 0, 386, arraycopyName, .null),
  (30, .aload_n 0, 31, 0, 0, 0, m_y0, .null),
  (31, .getfield 21, 34, 7, 3, 100, m_y0, .null),
  (34, .iconst 1, 35, 0, 0, 0, m_y0, .int 1),
  (35, .aload_n 0, 36, 0, 0, 0, m_y0, .null),
  (36, .getfield 21, 39, 7, 3, 100, m_y0, .null),
  (39, .iconst 0, 40, 0, 0, 0, m_y0, .int 0),
  (40, .bipush 39, 42, 0, 0, 0, m_y0, .int 39),
  (42, .invokestatic 50, 45, 5, 0, 386, arraycopyName, .null),
  (45, .aload_n 0, 46, 0, 0, 0, m_y0, .null),
  (46, .bipush 39, 48, 0, 0, 0, m_y0, .int 39),
  (48, .putfield 24, 51, 7, 4, 101, m_y0, .int 0),
  (51, .return_, 52, 0, 0, 0, m_y0, .null)])
set_option maxRecDepth 100000 in
theorem k1_T_dropOldest : MOk1 M_T_dropOldest := m_ok1_of (by decide +kernel)
set_option maxRecDepth 100000 in
theorem k2_T_dropOldest : MOk2 M_T_dropOldest := m_ok2_spec (p0 := 385) (p1 := 70) (p2 := 384) (p3 := 3) (by decide +kernel)
def M_S_init : MD := (y_S_init, prog_7_method_1_code, 3, none, (2, 2, 5), [
  (0, .aload_n 0, 1, 0, 0, 0, m_y0, .null),
  (1, .invokespecial 3, 4, 1, 0, 167, Lib.objectInit, .null),
  (4, .aload_n 0, 5, 0, 0, 0, m_y0, .null),
  (5, .bipush 6, 7, 0, 0, 0, m_y0, .int 6),
  (7, .newarray .long, 9, 0, 0, 0, m_y0, .null),
  (9, .putfield 9, 12, 5, 2, 170, m_y0, .null),
  (12, .aload_n 0, 13, 0, 0, 0, m_y0, .null),
  (13, .sipush 384, 16, 0, 0, 0, m_y0, .int 384),
  (16, .newarray .long, 18, 0, 0, 0, m_y0, .null),
  (18, .putfield 15, 21, 5, 3, 172, m_y0, .null),
  (21, .aload_n 0, 22, 0, 0, 0, m_y0, .null),
  (22, .sipush 384, 25, 0, 0, 0, m_y0, .int 384),
  (25, .newarray .long, 27, 0, 0, 0, m_y0, .null),
  (27, .putfield 18, 30, 5, 4, 173, m_y0, .null),
  (30, .aload_n 0, 31, 0, 0, 0, m_y0, .null),
  (31, .bipush 64, 33, 0, 0, 0, m_y0, .int 64),
  (33, .newarray .long, 35, 0, 0, 0, m_y0, .null),
  (35, .putfield 21, 38, 5, 5, 174, m_y0, .null),
  (38, .aload_n 0, 39, 0, 0, 0, m_y0, .null),
  (39, .aload_n 1, 40, 1, 0, 0, m_y0, .null),
  (40, .putfield 24, 43, 5, 0, 168, m_y0, .null),
  (43, .aload_n 0, 44, 0, 0, 0, m_y0, .null),
  (44, .aload_n 2, 45, 2, 0, 0, m_y0, .null),
  (45, .putfield 28, 48, 5, 1, 169, m_y0, .null),
  (48, .return_, 49, 0, 0, 0, m_y0, .null)])
set_option maxRecDepth 100000 in
theorem k1_S_init : MOk1 M_S_init := m_ok1_of (by decide +kernel)
set_option maxRecDepth 100000 in
theorem k2_S_init : MOk2 M_S_init := m_ok2_spec (p0 := 166) (p1 := 73) (p2 := 165) (p3 := 0) (by decide +kernel)
def M_S_weighFound : MD := (y_S_weighFound, prog_7_method_2_code, 2, (some .long), (1, 1, 5), [
  (0, .aload_n 0, 1, 0, 0, 0, m_y0, .null),
  (1, .aload_n 1, 2, 1, 0, 0, m_y0, .null),
  (2, .aload_n 1, 3, 1, 0, 0, m_y0, .null),
  (3, .getfield 32, 6, 3, 2, 315, m_y0, .null),
  (6, .aload_n 1, 7, 1, 0, 0, m_y0, .null),
  (7, .getfield 38, 10, 3, 3, 318, m_y0, .null),
  (10, .invokevirtual 41, 13, 4, 0, 526, y_S_weigh, .null),
  (13, .lreturn, 14, 0, 0, 0, m_y0, .null)])
set_option maxRecDepth 100000 in
theorem k1_S_weighFound : MOk1 M_S_weighFound := m_ok1_of (by decide +kernel)
set_option maxRecDepth 100000 in
theorem k2_S_weighFound : MOk2 M_S_weighFound := m_ok2_spec (p0 := 525) (p1 := 73) (p2 := 523) (p3 := 524) (by decide +kernel)
def M_S_weigh : MD := (y_S_weigh, prog_7_method_3_code, 10, (some .long), (1, 3, 5), [
  (0, .aload_n 1, 1, 1, 0, 0, m_y0, .null),
  (1, .aload_n 0, 2, 0, 0, 0, m_y0, .null),
  (2, .getfield 28, 5, 5, 1, 169, m_y0, .null),
  (5, .iload_n 2, 6, 2, 0, 0, m_y0, .null),
  (6, .invokevirtual 45, 9, 3, 0, 530, y_I_learn, .null),
  (9, .lconst 0, 10, 0, 0, 0, m_y0, .long 0),
  (10, .lstore 4, 12, 4, 0, 0, m_y0, .null),
  (12, .iconst 0, 13, 0, 0, 0, m_y0, .int 0),
  (13, .istore 6, 15, 6, 0, 0, m_y0, .null),
  (15, .iload 6, 17, 6, 0, 0, m_y0, .null),
  (17, .bipush 6, 19, 0, 0, 0, m_y0, .int 6),
  (19, .if_icmp .ge 73, 22, 92, 0, 0, m_y0, .null),
  (22, .lconst 0, 23, 0, 0, 0, m_y0, .long 0),
  (23, .lstore 7, 25, 7, 0, 0, m_y0, .null),
  (25, .iconst 0, 26, 0, 0, 0, m_y0, .int 0),
  (26, .istore 9, 28, 9, 0, 0, m_y0, .null),
  (28, .iload 9, 30, 9, 0, 0, m_y0, .null),
  (30, .bipush 30, 32, 0, 0, 0, m_y0, .int 30),
  (32, .if_icmp .ge 38, 35, 70, 0, 0, m_y0, .null),
  (35, .aload_n 0, 36, 0, 0, 0, m_y0, .null),
  (36, .getfield 24, 39, 5, 0, 168, m_y0, .null),
  (39, .iconst 0, 40, 0, 0, 0, m_y0, .int 0),
  (40, .iload 6, 42, 6, 0, 0, m_y0, .null),
  (42, .invokevirtual 49, 45, 3, 0, 531, y_T_get, .null),
  (45, .ifCond .eq 25, 48, 70, 0, 0, m_y0, .null),
  (48, .lload 7, 50, 7, 0, 0, m_y0, .null),
  (50, .aload_n 0, 51, 0, 0, 0, m_y0, .null),
  (51, .aload_n 1, 52, 1, 0, 0, m_y0, .null),
  (52, .iload 6, 54, 6, 0, 0, m_y0, .null),
  (54, .iload 9, 56, 9, 0, 0, m_y0, .null),
  (56, .iload_n 2, 57, 2, 0, 0, m_y0, .null),
  (57, .iload_n 3, 58, 3, 0, 0, m_y0, .null),
  (58, .invokevirtual 55, 61, 6, 0, 532, y_S_weight, .null),
  (61, .ladd, 62, 0, 0, 0, m_y0, .null),
  (62, .lstore 7, 64, 7, 0, 0, m_y0, .null),
  (64, .iinc 9 1, 67, 9, 0, 0, m_y0, .int 1),
  (67, .goto (-39), 70, 28, 0, 0, m_y0, .null),
  (70, .aload_n 0, 71, 0, 0, 0, m_y0, .null),
  (71, .getfield 9, 74, 5, 2, 170, m_y0, .null),
  (74, .iload 6, 76, 6, 0, 0, m_y0, .null),
  (76, .lload 7, 78, 7, 0, 0, m_y0, .null),
  (78, .lastore, 79, 0, 0, 0, m_y0, .null),
  (79, .lload 4, 81, 4, 0, 0, m_y0, .null),
  (81, .lload 7, 83, 7, 0, 0, m_y0, .null),
  (83, .ladd, 84, 0, 0, 0, m_y0, .null),
  (84, .lstore 4, 86, 4, 0, 0, m_y0, .null),
  (86, .iinc 6 1, 89, 6, 0, 0, m_y0, .int 1),
  (89, .goto (-74), 92, 15, 0, 0, m_y0, .null),
  (92, .lload 4, 94, 4, 0, 0, m_y0, .null),
  (94, .lreturn, 95, 0, 0, 0, m_y0, .null)])
set_option maxRecDepth 100000 in
theorem k1_S_weigh : MOk1 M_S_weigh := m_ok1_of (by decide +kernel)
set_option maxRecDepth 100000 in
theorem k2_S_weigh : MOk2 M_S_weigh := m_ok2_spec (p0 := 529) (p1 := 73) (p2 := 527) (p3 := 528) (by decide +kernel)
def M_S_weight : MD := (y_S_weight, prog_7_method_4_code, 10, (some .long), (1, 5, 5), [
  (0, .aload_n 0, 1, 0, 0, 0, m_y0, .null),
  (1, .getfield 24, 4, 5, 0, 168, m_y0, .null),
  (4, .iconst 0, 5, 0, 0, 0, m_y0, .int 0),
  (5, .iload_n 2, 6, 2, 0, 0, m_y0, .null),
  (6, .invokevirtual 49, 9, 3, 0, 531, y_T_get, .null),
  (9, .i2l, 10, 0, 0, 0, m_y0, .null),
  (10, .lstore 6, 12, 6, 0, 0, m_y0, .null),
  (12, .iconst 0, 13, 0, 0, 0, m_y0, .int 0),
  (13, .istore 8, 15, 8, 0, 0, m_y0, .null),
  (15, .iload 8, 17, 8, 0, 0, m_y0, .null),
  (17, .bipush 6, 19, 0, 0, 0, m_y0, .int 6),
  (19, .if_icmp .ge 56, 22, 75, 0, 0, m_y0, .null),
  (22, .iload 4, 24, 4, 0, 0, m_y0, .null),
  (24, .iload 8, 26, 8, 0, 0, m_y0, .null),
  (26, .invokestatic 59, 29, 2, 1, 536, y_C_hasBit, .null),
  (29, .ifCond .eq 40, 32, 69, 0, 0, m_y0, .null),
  (32, .aload_n 1, 33, 1, 0, 0, m_y0, .null),
  (33, .iload 8, 35, 8, 0, 0, m_y0, .null),
  (35, .iload_n 2, 36, 2, 0, 0, m_y0, .null),
  (36, .iload_n 3, 37, 3, 0, 0, m_y0, .null),
  (37, .invokevirtual 63, 40, 4, 0, 537, y_I_numberAt, .null),
  (40, .istore 9, 42, 9, 0, 0, m_y0, .null),
  (42, .lload 6, 44, 6, 0, 0, m_y0, .null),
  (44, .iload 5, 46, 5, 0, 0, m_y0, .null),
  (46, .iload 8, 48, 8, 0, 0, m_y0, .null),
  (48, .invokestatic 59, 51, 2, 1, 536, y_C_hasBit, .null),
  (51, .ifCond .eq 9, 54, 60, 0, 0, m_y0, .null),
  (54, .iload 9, 56, 9, 0, 0, m_y0, .null),
  (56, .i2l, 57, 0, 0, 0, m_y0, .null),
  (57, .goto 9, 60, 66, 0, 0, m_y0, .null),
  (60, .bipush 100, 62, 0, 0, 0, m_y0, .int 100),
  (62, .iload 9, 64, 9, 0, 0, m_y0, .null),
  (64, .isub, 65, 0, 0, 0, m_y0, .null),
  (65, .i2l, 66, 0, 0, 0, m_y0, .null),
  (66, .lmul, 67, 0, 0, 0, m_y0, .null),
  (67, .lstore 6, 69, 6, 0, 0, m_y0, .null),
  (69, .iinc 8 1, 72, 8, 0, 0, m_y0, .int 1),
  (72, .goto (-57), 75, 15, 0, 0, m_y0, .null),
  (75, .lload 6, 77, 6, 0, 0, m_y0, .null),
  (77, .lreturn, 78, 0, 0, 0, m_y0, .null)])
set_option maxRecDepth 100000 in
theorem k1_S_weight : MOk1 M_S_weight := m_ok1_of (by decide +kernel)
set_option maxRecDepth 100000 in
theorem k2_S_weight : MOk2 M_S_weight := m_ok2_spec (p0 := 535) (p1 := 73) (p2 := 534) (p3 := 14) (by decide +kernel)
def M_S_weightFound : MD := (y_S_weightFound, prog_7_method_5_code, 4, (some .long), (1, 3, 5), [
  (0, .aload_n 0, 1, 0, 0, 0, m_y0, .null),
  (1, .aload_n 1, 2, 1, 0, 0, m_y0, .null),
  (2, .iload_n 2, 3, 2, 0, 0, m_y0, .null),
  (3, .iload_n 3, 4, 3, 0, 0, m_y0, .null),
  (4, .aload_n 1, 5, 1, 0, 0, m_y0, .null),
  (5, .getfield 32, 8, 3, 2, 315, m_y0, .null),
  (8, .aload_n 1, 9, 1, 0, 0, m_y0, .null),
  (9, .getfield 38, 12, 3, 3, 318, m_y0, .null),
  (12, .invokevirtual 55, 15, 6, 0, 532, y_S_weight, .null),
  (15, .lreturn, 16, 0, 0, 0, m_y0, .null)])
set_option maxRecDepth 100000 in
theorem k1_S_weightFound : MOk1 M_S_weightFound := m_ok1_of (by decide +kernel)
set_option maxRecDepth 100000 in
theorem k2_S_weightFound : MOk2 M_S_weightFound := m_ok2_spec (p0 := 575) (p1 := 73) (p2 := 574) (p3 := 15) (by decide +kernel)
def M_S_percentFound : MD := (y_S_percentFound, prog_7_method_6_code, 3, (some .int), (1, 2, 5), [
  (0, .aload_n 1, 1, 1, 0, 0, m_y0, .null),
  (1, .ifnonnull 7, 4, 8, 0, 0, m_y0, .null),
  (4, .iconst 0, 5, 0, 0, 0, m_y0, .int 0),
  (5, .goto 13, 8, 18, 0, 0, m_y0, .null),
  (8, .aload_n 0, 9, 0, 0, 0, m_y0, .null),
  (9, .iload_n 2, 10, 2, 0, 0, m_y0, .null),
  (10, .aload_n 0, 11, 0, 0, 0, m_y0, .null),
  (11, .aload_n 1, 12, 1, 0, 0, m_y0, .null),
  (12, .invokevirtual 67, 15, 2, 0, 549, y_S_weighFound, .null),
  (15, .invokevirtual 71, 18, 3, 0, 550, y_S_percentOf, .null),
  (18, .ireturn, 19, 0, 0, 0, m_y0, .null)])
set_option maxRecDepth 100000 in
theorem k1_S_percentFound : MOk1 M_S_percentFound := m_ok1_of (by decide +kernel)
set_option maxRecDepth 100000 in
theorem k2_S_percentFound : MOk2 M_S_percentFound := m_ok2_spec (p0 := 548) (p1 := 73) (p2 := 546) (p3 := 547) (by decide +kernel)
def M_S_percentOf : MD := (y_S_percentOf, prog_7_method_7_code, 4, (some .int), (1, 2, 5), [
  (0, .lload_n 2, 1, 2, 0, 0, m_y0, .null),
  (1, .lconst 0, 2, 0, 0, 0, m_y0, .long 0),
  (2, .lcmp, 3, 0, 0, 0, m_y0, .null),
  (3, .ifCond .eq 10, 6, 13, 0, 0, m_y0, .null),
  (6, .iload_n 1, 7, 1, 0, 0, m_y0, .null),
  (7, .invokestatic 75, 10, 1, 1, 554, y_C_isKind, .null),
  (10, .ifCond .ne 7, 13, 17, 0, 0, m_y0, .null),
  (13, .iconst 0, 14, 0, 0, 0, m_y0, .int 0),
  (14, .goto 16, 17, 30, 0, 0, m_y0, .null),
  (17, .aload_n 0, 18, 0, 0, 0, m_y0, .null),
  (18, .getfield 9, 21, 5, 2, 170, m_y0, .null),
  (21, .iload_n 1, 22, 1, 0, 0, m_y0, .null),
  (22, .laload, 23, 0, 0, 0, m_y0, .null),
  (23, .ldc2_w 79, 26, 0, 0, 555, m_y0, .long 100),
  (26, .lmul, 27, 0, 0, 0, m_y0, .null),
  (27, .lload_n 2, 28, 2, 0, 0, m_y0, .null),
  (28, .ldiv, 29, 0, 0, 0, m_y0, .null),
  (29, .l2i, 30, 0, 0, 0, m_y0, .null),
  (30, .ireturn, 31, 0, 0, 0, m_y0, .null)])
set_option maxRecDepth 100000 in
theorem k1_S_percentOf : MOk1 M_S_percentOf := m_ok1_of (by decide +kernel)
set_option maxRecDepth 100000 in
theorem k2_S_percentOf : MOk2 M_S_percentOf := m_ok2_spec (p0 := 553) (p1 := 73) (p2 := 551) (p3 := 552) (by decide +kernel)
def M_S_greatestKind : MD := (y_S_greatestKind, prog_7_method_8_code, 5, (some .int), (1, 0, 5), [
  (0, .bipush (-2), 2, 0, 0, 0, m_y0, .int (-2)),
  (2, .istore_n 1, 3, 1, 0, 0, m_y0, .null),
  (3, .lconst 0, 4, 0, 0, 0, m_y0, .long 0),
  (4, .lstore_n 2, 5, 2, 0, 0, m_y0, .null),
  (5, .iconst 0, 6, 0, 0, 0, m_y0, .int 0),
  (6, .istore 4, 8, 4, 0, 0, m_y0, .null),
  (8, .iload 4, 10, 4, 0, 0, m_y0, .null),
  (10, .bipush 6, 12, 0, 0, 0, m_y0, .int 6),
  (12, .if_icmp .ge 32, 15, 44, 0, 0, m_y0, .null),
  (15, .aload_n 0, 16, 0, 0, 0, m_y0, .null),
  (16, .getfield 9, 19, 5, 2, 170, m_y0, .null),
  (19, .iload 4, 21, 4, 0, 0, m_y0, .null),
  (21, .laload, 22, 0, 0, 0, m_y0, .null),
  (22, .lload_n 2, 23, 2, 0, 0, m_y0, .null),
  (23, .lcmp, 24, 0, 0, 0, m_y0, .null),
  (24, .ifCond .le 14, 27, 38, 0, 0, m_y0, .null),
  (27, .iload 4, 29, 4, 0, 0, m_y0, .null),
  (29, .istore_n 1, 30, 1, 0, 0, m_y0, .null),
  (30, .aload_n 0, 31, 0, 0, 0, m_y0, .null),
  (31, .getfield 9, 34, 5, 2, 170, m_y0, .null),
  (34, .iload 4, 36, 4, 0, 0, m_y0, .null),
  (36, .laload, 37, 0, 0, 0, m_y0, .null),
  (37, .lstore_n 2, 38, 2, 0, 0, m_y0, .null),
  (38, .iinc 4 1, 41, 4, 0, 0, m_y0, .int 1),
  (41, .goto (-33), 44, 8, 0, 0, m_y0, .null),
  (44, .iload_n 1, 45, 1, 0, 0, m_y0, .null),
  (45, .ireturn, 46, 0, 0, 0, m_y0, .null)])
set_option maxRecDepth 100000 in
theorem k1_S_greatestKind : MOk1 M_S_greatestKind := m_ok1_of (by decide +kernel)
set_option maxRecDepth 100000 in
theorem k2_S_greatestKind : MOk2 M_S_greatestKind := m_ok2_spec (p0 := 563) (p1 := 73) (p2 := 561) (p3 := 562) (by decide +kernel)
def M_S_timeOfGreatest : MD := (y_S_timeOfGreatest, prog_7_method_9_code, 9, (some .int), (1, 2, 5), [
  (0, .bipush (-2), 2, 0, 0, 0, m_y0, .int (-2)),
  (2, .istore_n 3, 3, 3, 0, 0, m_y0, .null),
  (3, .lconst 0, 4, 0, 0, 0, m_y0, .long 0),
  (4, .lstore 4, 6, 4, 0, 0, m_y0, .null),
  (6, .iconst 0, 7, 0, 0, 0, m_y0, .int 0),
  (7, .istore 6, 9, 6, 0, 0, m_y0, .null),
  (9, .iload 6, 11, 6, 0, 0, m_y0, .null),
  (11, .bipush 30, 13, 0, 0, 0, m_y0, .int 30),
  (13, .if_icmp .ge 34, 16, 47, 0, 0, m_y0, .null),
  (16, .aload_n 0, 17, 0, 0, 0, m_y0, .null),
  (17, .aload_n 1, 18, 1, 0, 0, m_y0, .null),
  (18, .iload_n 2, 19, 2, 0, 0, m_y0, .null),
  (19, .iload 6, 21, 6, 0, 0, m_y0, .null),
  (21, .invokevirtual 81, 24, 4, 0, 572, y_S_weightFound, .null),
  (24, .lstore 7, 26, 7, 0, 0, m_y0, .null),
  (26, .lload 7, 28, 7, 0, 0, m_y0, .null),
  (28, .lload 4, 30, 4, 0, 0, m_y0, .null),
  (30, .lcmp, 31, 0, 0, 0, m_y0, .null),
  (31, .ifCond .le 10, 34, 41, 0, 0, m_y0, .null),
  (34, .iload 6, 36, 6, 0, 0, m_y0, .null),
  (36, .istore_n 3, 37, 3, 0, 0, m_y0, .null),
  (37, .lload 7, 39, 7, 0, 0, m_y0, .null),
  (39, .lstore 4, 41, 4, 0, 0, m_y0, .null),
  (41, .iinc 6 1, 44, 6, 0, 0, m_y0, .int 1),
  (44, .goto (-35), 47, 9, 0, 0, m_y0, .null),
  (47, .iload_n 3, 48, 3, 0, 0, m_y0, .null),
  (48, .ireturn, 49, 0, 0, 0, m_y0, .null)])
set_option maxRecDepth 100000 in
theorem k1_S_timeOfGreatest : MOk1 M_S_timeOfGreatest := m_ok1_of (by decide +kernel)
set_option maxRecDepth 100000 in
theorem k2_S_timeOfGreatest : MOk2 M_S_timeOfGreatest := m_ok2_spec (p0 := 571) (p1 := 73) (p2 := 569) (p3 := 570) (by decide +kernel)
def M_S_firstTime : MD := (y_S_firstTime, prog_7_method_10_code, 4, (some .int), (1, 2, 5), [
  (0, .iconst 0, 1, 0, 0, 0, m_y0, .int 0),
  (1, .istore_n 3, 2, 3, 0, 0, m_y0, .null),
  (2, .iload_n 3, 3, 3, 0, 0, m_y0, .null),
  (3, .bipush 30, 5, 0, 0, 0, m_y0, .int 30),
  (5, .if_icmp .ge 23, 8, 28, 0, 0, m_y0, .null),
  (8, .aload_n 0, 9, 0, 0, 0, m_y0, .null),
  (9, .aload_n 1, 10, 1, 0, 0, m_y0, .null),
  (10, .iload_n 2, 11, 2, 0, 0, m_y0, .null),
  (11, .iload_n 3, 12, 3, 0, 0, m_y0, .null),
  (12, .invokevirtual 81, 15, 4, 0, 572, y_S_weightFound, .null),
  (15, .lconst 0, 16, 0, 0, 0, m_y0, .long 0),
  (16, .lcmp, 17, 0, 0, 0, m_y0, .null),
  (17, .ifCond .le 5, 20, 22, 0, 0, m_y0, .null),
  (20, .iload_n 3, 21, 3, 0, 0, m_y0, .null),
  (21, .ireturn, 22, 0, 0, 0, m_y0, .null),
  (22, .iinc 3 1, 25, 3, 0, 0, m_y0, .int 1),
  (25, .goto (-23), 28, 2, 0, 0, m_y0, .null),
  (28, .bipush (-2), 30, 0, 0, 0, m_y0, .int (-2)),
  (30, .ireturn, 31, 0, 0, 0, m_y0, .null)])
set_option maxRecDepth 100000 in
theorem k1_S_firstTime : MOk1 M_S_firstTime := m_ok1_of (by decide +kernel)
set_option maxRecDepth 100000 in
theorem k2_S_firstTime : MOk2 M_S_firstTime := m_ok2_spec (p0 := 579) (p1 := 73) (p2 := 577) (p3 := 578) (by decide +kernel)
def M_S_lastTime : MD := (y_S_lastTime, prog_7_method_11_code, 4, (some .int), (1, 2, 5), [
  (0, .bipush 29, 2, 0, 0, 0, m_y0, .int 29),
  (2, .istore_n 3, 3, 3, 0, 0, m_y0, .null),
  (3, .iload_n 3, 4, 3, 0, 0, m_y0, .null),
  (4, .ifCond .lt 23, 7, 27, 0, 0, m_y0, .null),
  (7, .aload_n 0, 8, 0, 0, 0, m_y0, .null),
  (8, .aload_n 1, 9, 1, 0, 0, m_y0, .null),
  (9, .iload_n 2, 10, 2, 0, 0, m_y0, .null),
  (10, .iload_n 3, 11, 3, 0, 0, m_y0, .null),
  (11, .invokevirtual 81, 14, 4, 0, 572, y_S_weightFound, .null),
  (14, .lconst 0, 15, 0, 0, 0, m_y0, .long 0),
  (15, .lcmp, 16, 0, 0, 0, m_y0, .null),
  (16, .ifCond .le 5, 19, 21, 0, 0, m_y0, .null),
  (19, .iload_n 3, 20, 3, 0, 0, m_y0, .null),
  (20, .ireturn, 21, 0, 0, 0, m_y0, .null),
  (21, .iinc 3 (-1), 24, 3, 0, 0, m_y0, .int (-1)),
  (24, .goto (-21), 27, 3, 0, 0, m_y0, .null),
  (27, .bipush (-2), 29, 0, 0, 0, m_y0, .int (-2)),
  (29, .ireturn, 30, 0, 0, 0, m_y0, .null)])
set_option maxRecDepth 100000 in
theorem k1_S_lastTime : MOk1 M_S_lastTime := m_ok1_of (by decide +kernel)
set_option maxRecDepth 100000 in
theorem k2_S_lastTime : MOk2 M_S_lastTime := m_ok2_spec (p0 := 583) (p1 := 73) (p2 := 581) (p3 := 582) (by decide +kernel)
def M_S_greaterSum : MD := (y_S_greaterSum, prog_7_method_12_code, 8, (some .long), (1, 2, 5), [
  (0, .iconst 1, 1, 0, 0, 0, m_y0, .int 1),
  (1, .iload_n 2, 2, 2, 0, 0, m_y0, .null),
  (2, .ishl, 3, 0, 0, 0, m_y0, .null),
  (3, .istore_n 3, 4, 3, 0, 0, m_y0, .null),
  (4, .aload_n 0, 5, 0, 0, 0, m_y0, .null),
  (5, .aload_n 1, 6, 1, 0, 0, m_y0, .null),
  (6, .aload_n 1, 7, 1, 0, 0, m_y0, .null),
  (7, .getfield 32, 10, 3, 2, 315, m_y0, .null),
  (10, .iload_n 3, 11, 3, 0, 0, m_y0, .null),
  (11, .ior, 12, 0, 0, 0, m_y0, .null),
  (12, .aload_n 1, 13, 1, 0, 0, m_y0, .null),
  (13, .getfield 38, 16, 3, 3, 318, m_y0, .null),
  (16, .iload_n 3, 17, 3, 0, 0, m_y0, .null),
  (17, .ior, 18, 0, 0, 0, m_y0, .null),
  (18, .invokevirtual 41, 21, 4, 0, 526, y_S_weigh, .null),
  (21, .lstore 4, 23, 4, 0, 0, m_y0, .null),
  (23, .aload_n 0, 24, 0, 0, 0, m_y0, .null),
  (24, .aload_n 1, 25, 1, 0, 0, m_y0, .null),
  (25, .aload_n 1, 26, 1, 0, 0, m_y0, .null),
  (26, .getfield 32, 29, 3, 2, 315, m_y0, .null),
  (29, .iload_n 3, 30, 3, 0, 0, m_y0, .null),
  (30, .ior, 31, 0, 0, 0, m_y0, .null),
  (31, .aload_n 1, 32, 1, 0, 0, m_y0, .null),
  (32, .getfield 38, 35, 3, 3, 318, m_y0, .null),
  (35, .iload_n 3, 36, 3, 0, 0, m_y0, .null),
  (36, .iconst (-1), 37, 0, 0, 0, m_y0, .int (-1)),
  (37, .ixor, 38, 0, 0, 0, m_y0, .null),
  (38, .iand, 39, 0, 0, 0, m_y0, .null),
  (39, .invokevirtual 41, 42, 4, 0, 526, y_S_weigh, .null),
  (42, .lstore 6, 44, 6, 0, 0, m_y0, .null),
  (44, .lload 4, 46, 4, 0, 0, m_y0, .null),
  (46, .lload 6, 48, 6, 0, 0, m_y0, .null),
  (48, .invokestatic 84, 51, 2, 0, 620, y_J_maxL, .null),
  (51, .lreturn, 52, 0, 0, 0, m_y0, .null)])
set_option maxRecDepth 100000 in
theorem k1_S_greaterSum : MOk1 M_S_greaterSum := m_ok1_of (by decide +kernel)
set_option maxRecDepth 100000 in
theorem k2_S_greaterSum : MOk2 M_S_greaterSum := m_ok2_spec (p0 := 619) (p1 := 73) (p2 := 617) (p3 := 618) (by decide +kernel)
def M_S_fillWays_0 : List (Nat × ME) := [
  (0, .aload_n 1, 1, 1, 0, 0, m_y0, .null),
  (1, .aload_n 0, 2, 0, 0, 0, m_y0, .null),
  (2, .getfield 28, 5, 5, 1, 169, m_y0, .null),
  (5, .iload_n 2, 6, 2, 0, 0, m_y0, .null),
  (6, .iload 4, 8, 4, 0, 0, m_y0, .null),
  (8, .ior, 9, 0, 0, 0, m_y0, .null),
  (9, .invokevirtual 45, 12, 3, 0, 530, y_I_learn, .null),
  (12, .aload_n 0, 13, 0, 0, 0, m_y0, .null),
  (13, .getfield 15, 16, 5, 3, 172, m_y0, .null),
  (16, .lconst 0, 17, 0, 0, 0, m_y0, .long 0),
  (17, .invokestatic 90, 20, 2, 0, 634, y_J_fillA, .null),
  (20, .lconst 0, 21, 0, 0, 0, m_y0, .long 0),
  (21, .lstore 5, 23, 5, 0, 0, m_y0, .null),
  (23, .iconst 0, 24, 0, 0, 0, m_y0, .int 0),
  (24, .istore 7, 26, 7, 0, 0, m_y0, .null),
  (26, .iload 7, 28, 7, 0, 0, m_y0, .null),
  (28, .bipush 6, 30, 0, 0, 0, m_y0, .int 6),
  (30, .if_icmp .ge 105, 33, 135, 0, 0, m_y0, .null),
  (33, .iconst 0, 34, 0, 0, 0, m_y0, .int 0),
  (34, .istore 8, 36, 8, 0, 0, m_y0, .null),
  (36, .iload 8, 38, 8, 0, 0, m_y0, .null),
  (38, .bipush 30, 40, 0, 0, 0, m_y0, .int 30),
  (40, .if_icmp .ge 89, 43, 129, 0, 0, m_y0, .null),
  (43, .aload_n 0, 44, 0, 0, 0, m_y0, .null),
  (44, .getfield 24, 47, 5, 0, 168, m_y0, .null),
  (47, .iconst 0, 48, 0, 0, 0, m_y0, .int 0),
  (48, .iload 7, 50, 7, 0, 0, m_y0, .null),
  (50, .invokevirtual 49, 53, 3, 0, 531, y_T_get, .null),
  (53, .ifCond .eq 76, 56, 129, 0, 0, m_y0, .null),
  (56, .aload_n 0, 57, 0, 0, 0, m_y0, .null),
  (57, .getfield 21, 60, 5, 5, 174, m_y0, .null),
  (60, .iconst 0, 61, 0, 0, 0, m_y0, .int 0),
  (61, .aload_n 0, 62, 0, 0, 0, m_y0, .null),
  (62, .aload_n 1, 63, 1, 0, 0, m_y0, .null),
  (63, .iload 7, 65, 7, 0, 0, m_y0, .null),
  (65, .iload 8, 67, 8, 0, 0, m_y0, .null),
  (67, .iload_n 2, 68, 2, 0, 0, m_y0, .null),
  (68, .iload_n 3, 69, 3, 0, 0, m_y0, .null),
  (69, .invokevirtual 55, 72, 6, 0, 532, y_S_weight, .null),
  (72, .lastore, 73, 0, 0, 0, m_y0, .null),
  (73, .iconst 0, 74, 0, 0, 0, m_y0, .int 0),
  (74, .istore 9, 76, 9, 0, 0, m_y0, .null),
  (76, .iload 9, 78, 9, 0, 0, m_y0, .null),
  (78, .bipush 6, 80, 0, 0, 0, m_y0, .int 6),
  (80, .if_icmp .ge 32, 83, 112, 0, 0, m_y0, .null),
  (83, .aload_n 0, 84, 0, 0, 0, m_y0, .null),
  (84, .iload 9, 86, 9, 0, 0, m_y0, .null),
  (86, .iload 4, 88, 4, 0, 0, m_y0, .null),
  (88, .iload 9, 90, 9, 0, 0, m_y0, .null),
  (90, .invokestatic 59, 93, 2, 1, 536, y_C_hasBit, .null)]
def M_S_fillWays_1 : List (Nat × ME) := [
  (93, .aload_n 1, 94, 1, 0, 0, m_y0, .null),
  (94, .iload 9, 96, 9, 0, 0, m_y0, .null),
  (96, .iload 7, 98, 7, 0, 0, m_y0, .null),
  (98, .iload 8, 100, 8, 0, 0, m_y0, .null),
  (100, .invokevirtual 63, 103, 4, 0, 537, y_I_numberAt, .null),
  (103, .invokevirtual 96, 106, 4, 0, 637, y_S_splitProducts, .null),
  (106, .iinc 9 1, 109, 9, 0, 0, m_y0, .int 1),
  (109, .goto (-33), 112, 76, 0, 0, m_y0, .null),
  (112, .lload 5, 114, 5, 0, 0, m_y0, .null),
  (114, .aload_n 0, 115, 0, 0, 0, m_y0, .null),
  (115, .iload 7, 117, 7, 0, 0, m_y0, .null),
  (117, .invokevirtual 100, 120, 2, 0, 641, y_S_addProducts, .null),
  (120, .ladd, 121, 0, 0, 0, m_y0, .null),
  (121, .lstore 5, 123, 5, 0, 0, m_y0, .null),
  (123, .iinc 8 1, 126, 8, 0, 0, m_y0, .int 1),
  (126, .goto (-90), 129, 36, 0, 0, m_y0, .null),
  (129, .iinc 7 1, 132, 7, 0, 0, m_y0, .int 1),
  (132, .goto (-106), 135, 26, 0, 0, m_y0, .null),
  (135, .lload 5, 137, 5, 0, 0, m_y0, .null),
  (137, .lreturn, 138, 0, 0, 0, m_y0, .null)]
def M_S_fillWays : MD := (y_S_fillWays, prog_7_method_13_code, 10, (some .long), (1, 4, 5), M_S_fillWays_0 ++ (M_S_fillWays_1))
set_option maxRecDepth 100000 in
theorem k1_S_fillWays_0 : M_S_fillWays_0.all (m_eok y_S_fillWays prog_7_method_13_code 10) = true := by decide +kernel
set_option maxRecDepth 100000 in
theorem k1_S_fillWays_1 : M_S_fillWays_1.all (m_eok y_S_fillWays prog_7_method_13_code 10) = true := by decide +kernel
theorem k1_S_fillWays : MOk1 M_S_fillWays := m_ok1_of (m_all_app k1_S_fillWays_0 k1_S_fillWays_1)
set_option maxRecDepth 100000 in
theorem k2_S_fillWays : MOk2 M_S_fillWays := m_ok2_spec (p0 := 633) (p1 := 73) (p2 := 631) (p3 := 632) (by decide +kernel)
end
section
def M_S_splitProducts : MD := (y_S_splitProducts, prog_7_method_14_code, 6, none, (1, 3, 5), [
  (0, .iconst 1, 1, 0, 0, 0, m_y0, .int 1),
  (1, .iload_n 1, 2, 1, 0, 0, m_y0, .null),
  (2, .ishl, 3, 0, 0, 0, m_y0, .null),
  (3, .istore 4, 5, 4, 0, 0, m_y0, .null),
  (5, .iconst 0, 6, 0, 0, 0, m_y0, .int 0),
  (6, .istore 5, 8, 5, 0, 0, m_y0, .null),
  (8, .iload 5, 10, 5, 0, 0, m_y0, .null),
  (10, .iload 4, 12, 4, 0, 0, m_y0, .null),
  (12, .if_icmp .ge 70, 15, 82, 0, 0, m_y0, .null),
  (15, .iload 5, 17, 5, 0, 0, m_y0, .null),
  (17, .iload 4, 19, 4, 0, 0, m_y0, .null),
  (19, .iadd, 20, 0, 0, 0, m_y0, .null),
  (20, .bipush 64, 22, 0, 0, 0, m_y0, .int 64),
  (22, .if_icmp .ge 60, 25, 82, 0, 0, m_y0, .null),
  (25, .aload_n 0, 26, 0, 0, 0, m_y0, .null),
  (26, .getfield 21, 29, 5, 5, 174, m_y0, .null),
  (29, .iload 5, 31, 5, 0, 0, m_y0, .null),
  (31, .iload 4, 33, 4, 0, 0, m_y0, .null),
  (33, .iadd, 34, 0, 0, 0, m_y0, .null),
  (34, .iload_n 2, 35, 2, 0, 0, m_y0, .null),
  (35, .ifCond .eq 16, 38, 51, 0, 0, m_y0, .null),
  (38, .aload_n 0, 39, 0, 0, 0, m_y0, .null),
  (39, .getfield 21, 42, 5, 5, 174, m_y0, .null),
  (42, .iload 5, 44, 5, 0, 0, m_y0, .null),
  (44, .laload, 45, 0, 0, 0, m_y0, .null),
  (45, .iload_n 3, 46, 3, 0, 0, m_y0, .null),
  (46, .i2l, 47, 0, 0, 0, m_y0, .null),
  (47, .lmul, 48, 0, 0, 0, m_y0, .null),
  (48, .goto 4, 51, 52, 0, 0, m_y0, .null),
  (51, .lconst 0, 52, 0, 0, 0, m_y0, .long 0),
  (52, .lastore, 53, 0, 0, 0, m_y0, .null),
  (53, .aload_n 0, 54, 0, 0, 0, m_y0, .null),
  (54, .getfield 21, 57, 5, 5, 174, m_y0, .null),
  (57, .iload 5, 59, 5, 0, 0, m_y0, .null),
  (59, .dup2, 60, 0, 0, 0, m_y0, .null),
  (60, .laload, 61, 0, 0, 0, m_y0, .null),
  (61, .iload_n 2, 62, 2, 0, 0, m_y0, .null),
  (62, .ifCond .eq 11, 65, 73, 0, 0, m_y0, .null),
  (65, .bipush 100, 67, 0, 0, 0, m_y0, .int 100),
  (67, .iload_n 3, 68, 3, 0, 0, m_y0, .null),
  (68, .isub, 69, 0, 0, 0, m_y0, .null),
  (69, .i2l, 70, 0, 0, 0, m_y0, .null),
  (70, .goto 4, 73, 74, 0, 0, m_y0, .null),
  (73, .lconst 1, 74, 0, 0, 0, m_y0, .long 1),
  (74, .lmul, 75, 0, 0, 0, m_y0, .null),
  (75, .lastore, 76, 0, 0, 0, m_y0, .null),
  (76, .iinc 5 1, 79, 5, 0, 0, m_y0, .int 1),
  (79, .goto (-71), 82, 8, 0, 0, m_y0, .null),
  (82, .return_, 83, 0, 0, 0, m_y0, .null)])
set_option maxRecDepth 100000 in
theorem k1_S_splitProducts : MOk1 M_S_splitProducts := m_ok1_of (by decide +kernel)
set_option maxRecDepth 100000 in
theorem k2_S_splitProducts : MOk2 M_S_splitProducts := m_ok2_spec (p0 := 640) (p1 := 73) (p2 := 639) (p3 := 19) (by decide +kernel)
def M_S_addProducts : MD := (y_S_addProducts, prog_7_method_15_code, 5, (some .long), (1, 1, 5), [
  (0, .lconst 0, 1, 0, 0, 0, m_y0, .long 0),
  (1, .lstore_n 2, 2, 2, 0, 0, m_y0, .null),
  (2, .iconst 0, 3, 0, 0, 0, m_y0, .int 0),
  (3, .istore 4, 5, 4, 0, 0, m_y0, .null),
  (5, .iload 4, 7, 4, 0, 0, m_y0, .null),
  (7, .bipush 64, 9, 0, 0, 0, m_y0, .int 64),
  (9, .if_icmp .ge 41, 12, 50, 0, 0, m_y0, .null),
  (12, .aload_n 0, 13, 0, 0, 0, m_y0, .null),
  (13, .getfield 15, 16, 5, 3, 172, m_y0, .null),
  (16, .iload_n 1, 17, 1, 0, 0, m_y0, .null),
  (17, .bipush 64, 19, 0, 0, 0, m_y0, .int 64),
  (19, .imul, 20, 0, 0, 0, m_y0, .null),
  (20, .iload 4, 22, 4, 0, 0, m_y0, .null),
  (22, .iadd, 23, 0, 0, 0, m_y0, .null),
  (23, .dup2, 24, 0, 0, 0, m_y0, .null),
  (24, .laload, 25, 0, 0, 0, m_y0, .null),
  (25, .aload_n 0, 26, 0, 0, 0, m_y0, .null),
  (26, .getfield 21, 29, 5, 5, 174, m_y0, .null),
  (29, .iload 4, 31, 4, 0, 0, m_y0, .null),
  (31, .laload, 32, 0, 0, 0, m_y0, .null),
  (32, .ladd, 33, 0, 0, 0, m_y0, .null),
  (33, .lastore, 34, 0, 0, 0, m_y0, .null),
  (34, .lload_n 2, 35, 2, 0, 0, m_y0, .null),
  (35, .aload_n 0, 36, 0, 0, 0, m_y0, .null),
  (36, .getfield 21, 39, 5, 5, 174, m_y0, .null),
  (39, .iload 4, 41, 4, 0, 0, m_y0, .null),
  (41, .laload, 42, 0, 0, 0, m_y0, .null),
  (42, .ladd, 43, 0, 0, 0, m_y0, .null),
  (43, .lstore_n 2, 44, 2, 0, 0, m_y0, .null),
  (44, .iinc 4 1, 47, 4, 0, 0, m_y0, .int 1),
  (47, .goto (-42), 50, 5, 0, 0, m_y0, .null),
  (50, .lload_n 2, 51, 2, 0, 0, m_y0, .null),
  (51, .lreturn, 52, 0, 0, 0, m_y0, .null)])
set_option maxRecDepth 100000 in
theorem k1_S_addProducts : MOk1 M_S_addProducts := m_ok1_of (by decide +kernel)
set_option maxRecDepth 100000 in
theorem k2_S_addProducts : MOk2 M_S_addProducts := m_ok2_spec (p0 := 644) (p1 := 73) (p2 := 643) (p3 := 20) (by decide +kernel)
def M_S_takeWay : MD := (y_S_takeWay, prog_7_method_16_code, 5, (some .long), (1, 1, 5), [
  (0, .lconst 0, 1, 0, 0, 0, m_y0, .long 0),
  (1, .lstore_n 2, 2, 2, 0, 0, m_y0, .null),
  (2, .iconst 0, 3, 0, 0, 0, m_y0, .int 0),
  (3, .istore 4, 5, 4, 0, 0, m_y0, .null),
  (5, .iload 4, 7, 4, 0, 0, m_y0, .null),
  (7, .bipush 6, 9, 0, 0, 0, m_y0, .int 6),
  (9, .if_icmp .ge 45, 12, 54, 0, 0, m_y0, .null),
  (12, .iload_n 1, 13, 1, 0, 0, m_y0, .null),
  (13, .invokestatic 104, 16, 1, 1, 681, y_C_isSet, .null),
  (16, .ifCond .eq 38, 19, 54, 0, 0, m_y0, .null),
  (19, .aload_n 0, 20, 0, 0, 0, m_y0, .null),
  (20, .getfield 9, 23, 5, 2, 170, m_y0, .null),
  (23, .iload 4, 25, 4, 0, 0, m_y0, .null),
  (25, .aload_n 0, 26, 0, 0, 0, m_y0, .null),
  (26, .getfield 15, 29, 5, 3, 172, m_y0, .null),
  (29, .iload 4, 31, 4, 0, 0, m_y0, .null),
  (31, .bipush 64, 33, 0, 0, 0, m_y0, .int 64),
  (33, .imul, 34, 0, 0, 0, m_y0, .null),
  (34, .iload_n 1, 35, 1, 0, 0, m_y0, .null),
  (35, .iadd, 36, 0, 0, 0, m_y0, .null),
  (36, .laload, 37, 0, 0, 0, m_y0, .null),
  (37, .lastore, 38, 0, 0, 0, m_y0, .null),
  (38, .lload_n 2, 39, 2, 0, 0, m_y0, .null),
  (39, .aload_n 0, 40, 0, 0, 0, m_y0, .null),
  (40, .getfield 9, 43, 5, 2, 170, m_y0, .null),
  (43, .iload 4, 45, 4, 0, 0, m_y0, .null),
  (45, .laload, 46, 0, 0, 0, m_y0, .null),
  (46, .ladd, 47, 0, 0, 0, m_y0, .null),
  (47, .lstore_n 2, 48, 2, 0, 0, m_y0, .null),
  (48, .iinc 4 1, 51, 4, 0, 0, m_y0, .int 1),
  (51, .goto (-46), 54, 5, 0, 0, m_y0, .null),
  (54, .lload_n 2, 55, 2, 0, 0, m_y0, .null),
  (55, .lreturn, 56, 0, 0, 0, m_y0, .null)])
set_option maxRecDepth 100000 in
theorem k1_S_takeWay : MOk1 M_S_takeWay := m_ok1_of (by decide +kernel)
set_option maxRecDepth 100000 in
theorem k2_S_takeWay : MOk2 M_S_takeWay := m_ok2_spec (p0 := 680) (p1 := 73) (p2 := 678) (p3 := 679) (by decide +kernel)
def M_S_namedBy_0 : List (Nat × ME) := [
  (0, .aload_n 0, 1, 0, 0, 0, m_y0, .null),
  (1, .getfield 18, 4, 5, 4, 173, m_y0, .null),
  (4, .lconst 0, 5, 0, 0, 0, m_y0, .long 0),
  (5, .invokestatic 90, 8, 2, 0, 634, y_J_fillA, .null),
  (8, .iconst 0, 9, 0, 0, 0, m_y0, .int 0),
  (9, .istore 4, 11, 4, 0, 0, m_y0, .null),
  (11, .iload 4, 13, 4, 0, 0, m_y0, .null),
  (13, .bipush 6, 15, 0, 0, 0, m_y0, .int 6),
  (15, .if_icmp .ge 59, 18, 74, 0, 0, m_y0, .null),
  (18, .iconst 0, 19, 0, 0, 0, m_y0, .int 0),
  (19, .istore 5, 21, 5, 0, 0, m_y0, .null),
  (21, .iload 5, 23, 5, 0, 0, m_y0, .null),
  (23, .bipush 64, 25, 0, 0, 0, m_y0, .int 64),
  (25, .if_icmp .ge 43, 28, 68, 0, 0, m_y0, .null),
  (28, .aload_n 0, 29, 0, 0, 0, m_y0, .null),
  (29, .getfield 18, 32, 5, 4, 173, m_y0, .null),
  (32, .iload 4, 34, 4, 0, 0, m_y0, .null),
  (34, .bipush 64, 36, 0, 0, 0, m_y0, .int 64),
  (36, .imul, 37, 0, 0, 0, m_y0, .null),
  (37, .iload 5, 39, 5, 0, 0, m_y0, .null),
  (39, .iload_n 1, 40, 1, 0, 0, m_y0, .null),
  (40, .iand, 41, 0, 0, 0, m_y0, .null),
  (41, .bipush 63, 43, 0, 0, 0, m_y0, .int 63),
  (43, .iand, 44, 0, 0, 0, m_y0, .null),
  (44, .iadd, 45, 0, 0, 0, m_y0, .null),
  (45, .dup2, 46, 0, 0, 0, m_y0, .null),
  (46, .laload, 47, 0, 0, 0, m_y0, .null),
  (47, .aload_n 0, 48, 0, 0, 0, m_y0, .null),
  (48, .getfield 15, 51, 5, 3, 172, m_y0, .null),
  (51, .iload 4, 53, 4, 0, 0, m_y0, .null),
  (53, .bipush 64, 55, 0, 0, 0, m_y0, .int 64),
  (55, .imul, 56, 0, 0, 0, m_y0, .null),
  (56, .iload 5, 58, 5, 0, 0, m_y0, .null),
  (58, .iadd, 59, 0, 0, 0, m_y0, .null),
  (59, .laload, 60, 0, 0, 0, m_y0, .null),
  (60, .ladd, 61, 0, 0, 0, m_y0, .null),
  (61, .lastore, 62, 0, 0, 0, m_y0, .null),
  (62, .iinc 5 1, 65, 5, 0, 0, m_y0, .int 1),
  (65, .goto (-44), 68, 21, 0, 0, m_y0, .null),
  (68, .iinc 4 1, 71, 4, 0, 0, m_y0, .int 1),
  (71, .goto (-60), 74, 11, 0, 0, m_y0, .null),
  (74, .lconst 0, 75, 0, 0, 0, m_y0, .long 0),
  (75, .lstore 4, 77, 4, 0, 0, m_y0, .null),
  (77, .iconst 0, 78, 0, 0, 0, m_y0, .int 0),
  (78, .istore 6, 80, 6, 0, 0, m_y0, .null),
  (80, .iload 6, 82, 6, 0, 0, m_y0, .null),
  (82, .bipush 64, 84, 0, 0, 0, m_y0, .int 64),
  (84, .if_icmp .ge 55, 87, 139, 0, 0, m_y0, .null),
  (87, .lconst 0, 88, 0, 0, 0, m_y0, .long 0),
  (88, .lstore 7, 90, 7, 0, 0, m_y0, .null)]
def M_S_namedBy_1 : List (Nat × ME) := [
  (90, .iconst 0, 91, 0, 0, 0, m_y0, .int 0),
  (91, .istore 9, 93, 9, 0, 0, m_y0, .null),
  (93, .iload 9, 95, 9, 0, 0, m_y0, .null),
  (95, .bipush 6, 97, 0, 0, 0, m_y0, .int 6),
  (97, .if_icmp .ge 29, 100, 126, 0, 0, m_y0, .null),
  (100, .lload 7, 102, 7, 0, 0, m_y0, .null),
  (102, .aload_n 0, 103, 0, 0, 0, m_y0, .null),
  (103, .getfield 18, 106, 5, 4, 173, m_y0, .null),
  (106, .iload 9, 108, 9, 0, 0, m_y0, .null),
  (108, .bipush 64, 110, 0, 0, 0, m_y0, .int 64),
  (110, .imul, 111, 0, 0, 0, m_y0, .null),
  (111, .iload 6, 113, 6, 0, 0, m_y0, .null),
  (113, .iadd, 114, 0, 0, 0, m_y0, .null),
  (114, .laload, 115, 0, 0, 0, m_y0, .null),
  (115, .invokestatic 84, 118, 2, 0, 620, y_J_maxL, .null),
  (118, .lstore 7, 120, 7, 0, 0, m_y0, .null),
  (120, .iinc 9 1, 123, 9, 0, 0, m_y0, .int 1),
  (123, .goto (-30), 126, 93, 0, 0, m_y0, .null),
  (126, .lload 4, 128, 4, 0, 0, m_y0, .null),
  (128, .lload 7, 130, 7, 0, 0, m_y0, .null),
  (130, .ladd, 131, 0, 0, 0, m_y0, .null),
  (131, .lstore 4, 133, 4, 0, 0, m_y0, .null),
  (133, .iinc 6 1, 136, 6, 0, 0, m_y0, .int 1),
  (136, .goto (-56), 139, 80, 0, 0, m_y0, .null),
  (139, .lload_n 2, 140, 2, 0, 0, m_y0, .null),
  (140, .lconst 0, 141, 0, 0, 0, m_y0, .long 0),
  (141, .lcmp, 142, 0, 0, 0, m_y0, .null),
  (142, .ifCond .ne 8, 145, 150, 0, 0, m_y0, .null),
  (145, .bipush (-2), 147, 0, 0, 0, m_y0, .int (-2)),
  (147, .goto 12, 150, 159, 0, 0, m_y0, .null),
  (150, .lload 4, 152, 4, 0, 0, m_y0, .null),
  (152, .ldc2_w 107, 155, 0, 0, 649, m_y0, .long 1000),
  (155, .lmul, 156, 0, 0, 0, m_y0, .null),
  (156, .lload_n 2, 157, 2, 0, 0, m_y0, .null),
  (157, .ldiv, 158, 0, 0, 0, m_y0, .null),
  (158, .l2i, 159, 0, 0, 0, m_y0, .null),
  (159, .ireturn, 160, 0, 0, 0, m_y0, .null)]
def M_S_namedBy : MD := (y_S_namedBy, prog_7_method_17_code, 10, (some .int), (1, 2, 5), M_S_namedBy_0 ++ (M_S_namedBy_1))
set_option maxRecDepth 100000 in
theorem k1_S_namedBy_0 : M_S_namedBy_0.all (m_eok y_S_namedBy prog_7_method_17_code 10) = true := by decide +kernel
set_option maxRecDepth 100000 in
theorem k1_S_namedBy_1 : M_S_namedBy_1.all (m_eok y_S_namedBy prog_7_method_17_code 10) = true := by decide +kernel
theorem k1_S_namedBy : MOk1 M_S_namedBy := m_ok1_of (m_all_app k1_S_namedBy_0 k1_S_namedBy_1)
set_option maxRecDepth 100000 in
theorem k2_S_namedBy : MOk2 M_S_namedBy := m_ok2_spec (p0 := 648) (p1 := 73) (p2 := 646) (p3 := 647) (by decide +kernel)
def M_O_within : MD := (y_O_within, prog_11_method_1_code, 6, (some .boolean), (0, 3, 9), [
  (0, .lload_n 0, 1, 0, 0, 0, m_y0, .null),
  (1, .lload_n 2, 2, 2, 0, 0, m_y0, .null),
  (2, .lcmp, 3, 0, 0, 0, m_y0, .null),
  (3, .ifCond .lt 14, 6, 17, 0, 0, m_y0, .null),
  (6, .lload_n 0, 7, 0, 0, 0, m_y0, .null),
  (7, .lload 4, 9, 4, 0, 0, m_y0, .null),
  (9, .lcmp, 10, 0, 0, 0, m_y0, .null),
  (10, .ifCond .gt 7, 13, 17, 0, 0, m_y0, .null),
  (13, .iconst 1, 14, 0, 0, 0, m_y0, .int 1),
  (14, .goto 4, 17, 18, 0, 0, m_y0, .null),
  (17, .iconst 0, 18, 0, 0, 0, m_y0, .int 0),
  (18, .ireturn, 19, 0, 0, 0, m_y0, .null)])
set_option maxRecDepth 100000 in
theorem k1_O_within : MOk1 M_O_within := m_ok1_of (by decide +kernel)
set_option maxRecDepth 100000 in
theorem k2_O_within : MOk2 M_O_within := m_ok2_spec (p0 := 1039) (p1 := 77) (p2 := 1038) (p3 := 0) (by decide +kernel)
def M_O_init_0 : List (Nat × ME) := [
  (0, .aload_n 0, 1, 0, 0, 0, m_y0, .null),
  (1, .invokespecial 3, 4, 1, 0, 890, Lib.objectInit, .null),
  (4, .aload_n 0, 5, 0, 0, 0, m_y0, .null),
  (5, .bipush 24, 7, 0, 0, 0, m_y0, .int 24),
  (7, .newarray .int, 9, 0, 0, 0, m_y0, .null),
  (9, .putfield 9, 12, 9, 0, 891, m_y0, .null),
  (12, .aload_n 0, 13, 0, 0, 0, m_y0, .null),
  (13, .bipush 40, 15, 0, 0, 0, m_y0, .int 40),
  (15, .newarray .int, 17, 0, 0, 0, m_y0, .null),
  (17, .putfield 13, 20, 9, 1, 892, m_y0, .null),
  (20, .aload_n 0, 21, 0, 0, 0, m_y0, .null),
  (21, .bipush 40, 23, 0, 0, 0, m_y0, .int 40),
  (23, .newarray .int, 25, 0, 0, 0, m_y0, .null),
  (25, .putfield 16, 28, 9, 2, 893, m_y0, .null),
  (28, .aload_n 0, 29, 0, 0, 0, m_y0, .null),
  (29, .bipush 40, 31, 0, 0, 0, m_y0, .int 40),
  (31, .newarray .int, 33, 0, 0, 0, m_y0, .null),
  (33, .putfield 19, 36, 9, 3, 894, m_y0, .null),
  (36, .aload_n 0, 37, 0, 0, 0, m_y0, .null),
  (37, .bipush 8, 39, 0, 0, 0, m_y0, .int 8),
  (39, .newarray .int, 41, 0, 0, 0, m_y0, .null),
  (41, .putfield 22, 44, 9, 7, 898, m_y0, .null),
  (44, .aload_n 0, 45, 0, 0, 0, m_y0, .null),
  (45, .bipush 8, 47, 0, 0, 0, m_y0, .int 8),
  (47, .newarray .int, 49, 0, 0, 0, m_y0, .null),
  (49, .putfield 25, 52, 9, 8, 899, m_y0, .null),
  (52, .aload_n 0, 53, 0, 0, 0, m_y0, .null),
  (53, .bipush 48, 55, 0, 0, 0, m_y0, .int 48),
  (55, .newarray .int, 57, 0, 0, 0, m_y0, .null),
  (57, .putfield 28, 60, 9, 9, 900, m_y0, .null),
  (60, .aload_n 0, 61, 0, 0, 0, m_y0, .null),
  (61, .bipush 120, 63, 0, 0, 0, m_y0, .int 120),
  (63, .newarray .int, 65, 0, 0, 0, m_y0, .null),
  (65, .putfield 31, 68, 9, 10, 901, m_y0, .null),
  (68, .aload_n 0, 69, 0, 0, 0, m_y0, .null),
  (69, .sipush 720, 72, 0, 0, 0, m_y0, .int 720),
  (72, .newarray .int, 74, 0, 0, 0, m_y0, .null),
  (74, .putfield 34, 77, 9, 12, 903, m_y0, .null),
  (77, .aload_n 0, 78, 0, 0, 0, m_y0, .null),
  (78, .bipush 6, 80, 0, 0, 0, m_y0, .int 6),
  (80, .newarray .int, 82, 0, 0, 0, m_y0, .null),
  (82, .putfield 37, 85, 9, 13, 904, m_y0, .null),
  (85, .aload_n 0, 86, 0, 0, 0, m_y0, .null),
  (86, .iconst 4, 87, 0, 0, 0, m_y0, .int 4),
  (87, .newarray .int, 89, 0, 0, 0, m_y0, .null),
  (89, .putfield 40, 92, 9, 19, 910, m_y0, .null),
  (92, .aload_n 0, 93, 0, 0, 0, m_y0, .null),
  (93, .sipush 1080, 96, 0, 0, 0, m_y0, .int 1080),
  (96, .newarray .int, 98, 0, 0, 0, m_y0, .null),
  (98, .putfield 43, 101, 9, 20, 911, m_y0, .null)]
def M_O_init_1 : List (Nat × ME) := [
  (101, .aload_n 0, 102, 0, 0, 0, m_y0, .null),
  (102, .bipush 6, 104, 0, 0, 0, m_y0, .int 6),
  (104, .newarray .int, 106, 0, 0, 0, m_y0, .null),
  (106, .putfield 46, 109, 9, 21, 912, m_y0, .null),
  (109, .aload_n 0, 110, 0, 0, 0, m_y0, .null),
  (110, .sipush 180, 113, 0, 0, 0, m_y0, .int 180),
  (113, .newarray .long, 115, 0, 0, 0, m_y0, .null),
  (115, .putfield 49, 118, 9, 22, 913, m_y0, .null),
  (118, .aload_n 0, 119, 0, 0, 0, m_y0, .null),
  (119, .bipush 6, 121, 0, 0, 0, m_y0, .int 6),
  (121, .newarray .long, 123, 0, 0, 0, m_y0, .null),
  (123, .putfield 53, 126, 9, 23, 914, m_y0, .null),
  (126, .aload_n 0, 127, 0, 0, 0, m_y0, .null),
  (127, .bipush 8, 129, 0, 0, 0, m_y0, .int 8),
  (129, .newarray .int, 131, 0, 0, 0, m_y0, .null),
  (131, .putfield 56, 134, 9, 25, 916, m_y0, .null),
  (134, .aload_n 0, 135, 0, 0, 0, m_y0, .null),
  (135, .bipush 8, 137, 0, 0, 0, m_y0, .int 8),
  (137, .newarray .int, 139, 0, 0, 0, m_y0, .null),
  (139, .putfield 59, 142, 9, 26, 917, m_y0, .null),
  (142, .aload_n 0, 143, 0, 0, 0, m_y0, .null),
  (143, .bipush 10, 145, 0, 0, 0, m_y0, .int 10),
  (145, .newarray .int, 147, 0, 0, 0, m_y0, .null),
  (147, .putfield 62, 150, 9, 28, 919, m_y0, .null),
  (150, .aload_n 0, 151, 0, 0, 0, m_y0, .null),
  (151, .bipush 10, 153, 0, 0, 0, m_y0, .int 10),
  (153, .newarray .int, 155, 0, 0, 0, m_y0, .null),
  (155, .putfield 65, 158, 9, 29, 920, m_y0, .null),
  (158, .aload_n 0, 159, 0, 0, 0, m_y0, .null),
  (159, .bipush 10, 161, 0, 0, 0, m_y0, .int 10),
  (161, .newarray .int, 163, 0, 0, 0, m_y0, .null),
  (163, .putfield 68, 166, 9, 30, 921, m_y0, .null),
  (166, .aload_n 0, 167, 0, 0, 0, m_y0, .null),
  (167, .bipush 48, 169, 0, 0, 0, m_y0, .int 48),
  (169, .newarray .int, 171, 0, 0, 0, m_y0, .null),
  (171, .putfield 71, 174, 9, 31, 922, m_y0, .null),
  (174, .aload_n 0, 175, 0, 0, 0, m_y0, .null),
  (175, .bipush 50, 177, 0, 0, 0, m_y0, .int 50),
  (177, .newarray .int, 179, 0, 0, 0, m_y0, .null),
  (179, .putfield 74, 182, 9, 35, 926, m_y0, .null),
  (182, .aload_n 0, 183, 0, 0, 0, m_y0, .null),
  (183, .bipush 24, 185, 0, 0, 0, m_y0, .int 24),
  (185, .newarray .int, 187, 0, 0, 0, m_y0, .null),
  (187, .putfield 77, 190, 9, 36, 927, m_y0, .null),
  (190, .aload_n 0, 191, 0, 0, 0, m_y0, .null),
  (191, .bipush 6, 193, 0, 0, 0, m_y0, .int 6),
  (193, .newarray .int, 195, 0, 0, 0, m_y0, .null),
  (195, .putfield 80, 198, 9, 40, 931, m_y0, .null),
  (198, .aload_n 0, 199, 0, 0, 0, m_y0, .null),
  (199, .bipush 6, 201, 0, 0, 0, m_y0, .int 6)]
def M_O_init_2 : List (Nat × ME) := [
  (201, .newarray .int, 203, 0, 0, 0, m_y0, .null),
  (203, .putfield 83, 206, 9, 41, 932, m_y0, .null),
  (206, .aload_n 0, 207, 0, 0, 0, m_y0, .null),
  (207, .sipush 360, 210, 0, 0, 0, m_y0, .int 360),
  (210, .newarray .long, 212, 0, 0, 0, m_y0, .null),
  (212, .putfield 86, 215, 9, 42, 933, m_y0, .null),
  (215, .aload_n 0, 216, 0, 0, 0, m_y0, .null),
  (216, .bipush 60, 218, 0, 0, 0, m_y0, .int 60),
  (218, .newarray .long, 220, 0, 0, 0, m_y0, .null),
  (220, .putfield 89, 223, 9, 43, 934, m_y0, .null),
  (223, .iconst 0, 224, 0, 0, 0, m_y0, .int 0),
  (224, .istore_n 1, 225, 1, 0, 0, m_y0, .null),
  (225, .iload_n 1, 226, 1, 0, 0, m_y0, .null),
  (226, .bipush 6, 228, 0, 0, 0, m_y0, .int 6),
  (228, .if_icmp .ge 16, 231, 244, 0, 0, m_y0, .null),
  (231, .aload_n 0, 232, 0, 0, 0, m_y0, .null),
  (232, .getfield 80, 235, 9, 40, 931, m_y0, .null),
  (235, .iload_n 1, 236, 1, 0, 0, m_y0, .null),
  (236, .iconst (-1), 237, 0, 0, 0, m_y0, .int (-1)),
  (237, .iastore, 238, 0, 0, 0, m_y0, .null),
  (238, .iinc 1 1, 241, 1, 0, 0, m_y0, .int 1),
  (241, .goto (-16), 244, 225, 0, 0, m_y0, .null),
  (244, .iconst 0, 245, 0, 0, 0, m_y0, .int 0),
  (245, .istore_n 1, 246, 1, 0, 0, m_y0, .null),
  (246, .iload_n 1, 247, 1, 0, 0, m_y0, .null),
  (247, .bipush 6, 249, 0, 0, 0, m_y0, .int 6),
  (249, .if_icmp .ge 37, 252, 286, 0, 0, m_y0, .null),
  (252, .aload_n 0, 253, 0, 0, 0, m_y0, .null),
  (253, .getfield 37, 256, 9, 13, 904, m_y0, .null),
  (256, .iload_n 1, 257, 1, 0, 0, m_y0, .null),
  (257, .iconst (-1), 258, 0, 0, 0, m_y0, .int (-1)),
  (258, .iastore, 259, 0, 0, 0, m_y0, .null),
  (259, .aload_n 0, 260, 0, 0, 0, m_y0, .null),
  (260, .getfield 9, 263, 9, 0, 891, m_y0, .null),
  (263, .bipush 12, 265, 0, 0, 0, m_y0, .int 12),
  (265, .iload_n 1, 266, 1, 0, 0, m_y0, .null),
  (266, .iadd, 267, 0, 0, 0, m_y0, .null),
  (267, .iconst 1, 268, 0, 0, 0, m_y0, .int 1),
  (268, .iastore, 269, 0, 0, 0, m_y0, .null),
  (269, .aload_n 0, 270, 0, 0, 0, m_y0, .null),
  (270, .getfield 9, 273, 9, 0, 891, m_y0, .null),
  (273, .bipush 18, 275, 0, 0, 0, m_y0, .int 18),
  (275, .iload_n 1, 276, 1, 0, 0, m_y0, .null),
  (276, .iadd, 277, 0, 0, 0, m_y0, .null),
  (277, .bipush 10, 279, 0, 0, 0, m_y0, .int 10),
  (279, .iastore, 280, 0, 0, 0, m_y0, .null),
  (280, .iinc 1 1, 283, 1, 0, 0, m_y0, .int 1),
  (283, .goto (-37), 286, 246, 0, 0, m_y0, .null),
  (286, .iconst 0, 287, 0, 0, 0, m_y0, .int 0),
  (287, .istore_n 1, 288, 1, 0, 0, m_y0, .null)]
def M_O_init_3 : List (Nat × ME) := [
  (288, .iload_n 1, 289, 1, 0, 0, m_y0, .null),
  (289, .bipush 6, 291, 0, 0, 0, m_y0, .int 6),
  (291, .if_icmp .ge 16, 294, 307, 0, 0, m_y0, .null),
  (294, .aload_n 0, 295, 0, 0, 0, m_y0, .null),
  (295, .getfield 9, 298, 9, 0, 891, m_y0, .null),
  (298, .iload_n 1, 299, 1, 0, 0, m_y0, .null),
  (299, .iconst 1, 300, 0, 0, 0, m_y0, .int 1),
  (300, .iastore, 301, 0, 0, 0, m_y0, .null),
  (301, .iinc 1 1, 304, 1, 0, 0, m_y0, .int 1),
  (304, .goto (-16), 307, 288, 0, 0, m_y0, .null),
  (307, .return_, 308, 0, 0, 0, m_y0, .null)]
def M_O_init : MD := (y_O_init, prog_11_method_2_code, 2, none, (2, 0, 9), M_O_init_0 ++ (M_O_init_1 ++ (M_O_init_2 ++ (M_O_init_3))))
set_option maxRecDepth 100000 in
theorem k1_O_init_0 : M_O_init_0.all (m_eok y_O_init prog_11_method_2_code 2) = true := by decide +kernel
set_option maxRecDepth 100000 in
theorem k1_O_init_1 : M_O_init_1.all (m_eok y_O_init prog_11_method_2_code 2) = true := by decide +kernel
set_option maxRecDepth 100000 in
theorem k1_O_init_2 : M_O_init_2.all (m_eok y_O_init prog_11_method_2_code 2) = true := by decide +kernel
set_option maxRecDepth 100000 in
theorem k1_O_init_3 : M_O_init_3.all (m_eok y_O_init prog_11_method_2_code 2) = true := by decide +kernel
theorem k1_O_init : MOk1 M_O_init := m_ok1_of (m_all_app k1_O_init_0 (m_all_app k1_O_init_1 (m_all_app k1_O_init_2 k1_O_init_3)))
set_option maxRecDepth 100000 in
theorem k2_O_init : MOk2 M_O_init := m_ok2_spec (p0 := 889) (p1 := 77) (p2 := 888) (p3 := 0) (by decide +kernel)
def M_O_becomes_0 : List (Nat × ME) := [
  (0, .aload_n 0, 1, 0, 0, 0, m_y0, .null),
  (1, .getfield 9, 4, 9, 0, 891, m_y0, .null),
  (4, .iload_n 1, 5, 1, 0, 0, m_y0, .null),
  (5, .iaload, 6, 0, 0, 0, m_y0, .null),
  (6, .istore_n 3, 7, 3, 0, 0, m_y0, .null),
  (7, .iload_n 3, 8, 3, 0, 0, m_y0, .null),
  (8, .iload_n 2, 9, 2, 0, 0, m_y0, .null),
  (9, .if_icmp .ne 5, 12, 14, 0, 0, m_y0, .null),
  (12, .iload_n 3, 13, 3, 0, 0, m_y0, .null),
  (13, .ireturn, 14, 0, 0, 0, m_y0, .null),
  (14, .aload_n 0, 15, 0, 0, 0, m_y0, .null),
  (15, .getfield 92, 18, 9, 5, 896, m_y0, .null),
  (18, .bipush 40, 20, 0, 0, 0, m_y0, .int 40),
  (20, .if_icmp .ne 77, 23, 97, 0, 0, m_y0, .null),
  (23, .iconst 1, 24, 0, 0, 0, m_y0, .int 1),
  (24, .istore 4, 26, 4, 0, 0, m_y0, .null),
  (26, .iload 4, 28, 4, 0, 0, m_y0, .null),
  (28, .bipush 40, 30, 0, 0, 0, m_y0, .int 40),
  (30, .if_icmp .ge 57, 33, 87, 0, 0, m_y0, .null),
  (33, .aload_n 0, 34, 0, 0, 0, m_y0, .null),
  (34, .getfield 13, 37, 9, 1, 892, m_y0, .null),
  (37, .iload 4, 39, 4, 0, 0, m_y0, .null),
  (39, .iconst 1, 40, 0, 0, 0, m_y0, .int 1),
  (40, .isub, 41, 0, 0, 0, m_y0, .null),
  (41, .aload_n 0, 42, 0, 0, 0, m_y0, .null),
  (42, .getfield 13, 45, 9, 1, 892, m_y0, .null),
  (45, .iload 4, 47, 4, 0, 0, m_y0, .null),
  (47, .iaload, 48, 0, 0, 0, m_y0, .null),
  (48, .iastore, 49, 0, 0, 0, m_y0, .null),
  (49, .aload_n 0, 50, 0, 0, 0, m_y0, .null),
  (50, .getfield 16, 53, 9, 2, 893, m_y0, .null),
  (53, .iload 4, 55, 4, 0, 0, m_y0, .null),
  (55, .iconst 1, 56, 0, 0, 0, m_y0, .int 1),
  (56, .isub, 57, 0, 0, 0, m_y0, .null),
  (57, .aload_n 0, 58, 0, 0, 0, m_y0, .null),
  (58, .getfield 16, 61, 9, 2, 893, m_y0, .null),
  (61, .iload 4, 63, 4, 0, 0, m_y0, .null),
  (63, .iaload, 64, 0, 0, 0, m_y0, .null),
  (64, .iastore, 65, 0, 0, 0, m_y0, .null),
  (65, .aload_n 0, 66, 0, 0, 0, m_y0, .null),
  (66, .getfield 19, 69, 9, 3, 894, m_y0, .null),
  (69, .iload 4, 71, 4, 0, 0, m_y0, .null),
  (71, .iconst 1, 72, 0, 0, 0, m_y0, .int 1),
  (72, .isub, 73, 0, 0, 0, m_y0, .null),
  (73, .aload_n 0, 74, 0, 0, 0, m_y0, .null),
  (74, .getfield 19, 77, 9, 3, 894, m_y0, .null),
  (77, .iload 4, 79, 4, 0, 0, m_y0, .null),
  (79, .iaload, 80, 0, 0, 0, m_y0, .null),
  (80, .iastore, 81, 0, 0, 0, m_y0, .null),
  (81, .iinc 4 1, 84, 4, 0, 0, m_y0, .int 1)]
def M_O_becomes_1 : List (Nat × ME) := [
  (84, .goto (-58), 87, 26, 0, 0, m_y0, .null),
  (87, .aload_n 0, 88, 0, 0, 0, m_y0, .null),
  (88, .dup, 89, 0, 0, 0, m_y0, .null),
  (89, .getfield 92, 92, 9, 5, 896, m_y0, .null),
  (92, .iconst 1, 93, 0, 0, 0, m_y0, .int 1),
  (93, .isub, 94, 0, 0, 0, m_y0, .null),
  (94, .putfield 92, 97, 9, 5, 896, m_y0, .int 0),
  (97, .aload_n 0, 98, 0, 0, 0, m_y0, .null),
  (98, .getfield 13, 101, 9, 1, 892, m_y0, .null),
  (101, .aload_n 0, 102, 0, 0, 0, m_y0, .null),
  (102, .getfield 92, 105, 9, 5, 896, m_y0, .null),
  (105, .iload_n 1, 106, 1, 0, 0, m_y0, .null),
  (106, .iastore, 107, 0, 0, 0, m_y0, .null),
  (107, .aload_n 0, 108, 0, 0, 0, m_y0, .null),
  (108, .getfield 16, 111, 9, 2, 893, m_y0, .null),
  (111, .aload_n 0, 112, 0, 0, 0, m_y0, .null),
  (112, .getfield 92, 115, 9, 5, 896, m_y0, .null),
  (115, .iload_n 3, 116, 3, 0, 0, m_y0, .null),
  (116, .iastore, 117, 0, 0, 0, m_y0, .null),
  (117, .aload_n 0, 118, 0, 0, 0, m_y0, .null),
  (118, .getfield 19, 121, 9, 3, 894, m_y0, .null),
  (121, .aload_n 0, 122, 0, 0, 0, m_y0, .null),
  (122, .getfield 92, 125, 9, 5, 896, m_y0, .null),
  (125, .iload_n 2, 126, 2, 0, 0, m_y0, .null),
  (126, .iastore, 127, 0, 0, 0, m_y0, .null),
  (127, .aload_n 0, 128, 0, 0, 0, m_y0, .null),
  (128, .dup, 129, 0, 0, 0, m_y0, .null),
  (129, .getfield 92, 132, 9, 5, 896, m_y0, .null),
  (132, .iconst 1, 133, 0, 0, 0, m_y0, .int 1),
  (133, .iadd, 134, 0, 0, 0, m_y0, .null),
  (134, .putfield 92, 137, 9, 5, 896, m_y0, .int 0),
  (137, .aload_n 0, 138, 0, 0, 0, m_y0, .null),
  (138, .aload_n 0, 139, 0, 0, 0, m_y0, .null),
  (139, .getfield 92, 142, 9, 5, 896, m_y0, .null),
  (142, .putfield 96, 145, 9, 4, 895, m_y0, .int 0),
  (145, .aload_n 0, 146, 0, 0, 0, m_y0, .null),
  (146, .getfield 9, 149, 9, 0, 891, m_y0, .null),
  (149, .iload_n 1, 150, 1, 0, 0, m_y0, .null),
  (150, .iload_n 2, 151, 2, 0, 0, m_y0, .null),
  (151, .iastore, 152, 0, 0, 0, m_y0, .null),
  (152, .iload_n 3, 153, 3, 0, 0, m_y0, .null),
  (153, .ireturn, 154, 0, 0, 0, m_y0, .null)]
def M_O_becomes : MD := (y_O_becomes, prog_11_method_3_code, 5, (some .int), (1, 2, 9), M_O_becomes_0 ++ (M_O_becomes_1))
set_option maxRecDepth 100000 in
theorem k1_O_becomes_0 : M_O_becomes_0.all (m_eok y_O_becomes prog_11_method_3_code 5) = true := by decide +kernel
set_option maxRecDepth 100000 in
theorem k1_O_becomes_1 : M_O_becomes_1.all (m_eok y_O_becomes prog_11_method_3_code 5) = true := by decide +kernel
theorem k1_O_becomes : MOk1 M_O_becomes := m_ok1_of (m_all_app k1_O_becomes_0 k1_O_becomes_1)
set_option maxRecDepth 100000 in
theorem k2_O_becomes : MOk2 M_O_becomes := m_ok2_spec (p0 := 1064) (p1 := 77) (p2 := 1063) (p3 := 29) (by decide +kernel)
def M_O_undo : MD := (y_O_undo, prog_11_method_4_code, 1, (some .int), (1, 0, 9), [
  (0, .aload_n 0, 1, 0, 0, 0, m_y0, .null),
  (1, .getfield 92, 4, 9, 5, 896, m_y0, .null),
  (4, .ifCond .ne 6, 7, 10, 0, 0, m_y0, .null),
  (7, .bipush (-5), 9, 0, 0, 0, m_y0, .int (-5)),
  (9, .ireturn, 10, 0, 0, 0, m_y0, .null),
  (10, .aload_n 0, 11, 0, 0, 0, m_y0, .null),
  (11, .dup, 12, 0, 0, 0, m_y0, .null),
  (12, .getfield 92, 15, 9, 5, 896, m_y0, .null),
  (15, .iconst 1, 16, 0, 0, 0, m_y0, .int 1),
  (16, .isub, 17, 0, 0, 0, m_y0, .null),
  (17, .putfield 92, 20, 9, 5, 896, m_y0, .int 0),
  (20, .aload_n 0, 21, 0, 0, 0, m_y0, .null),
  (21, .getfield 9, 24, 9, 0, 891, m_y0, .null),
  (24, .aload_n 0, 25, 0, 0, 0, m_y0, .null),
  (25, .getfield 13, 28, 9, 1, 892, m_y0, .null),
  (28, .aload_n 0, 29, 0, 0, 0, m_y0, .null),
  (29, .getfield 92, 32, 9, 5, 896, m_y0, .null),
  (32, .iaload, 33, 0, 0, 0, m_y0, .null),
  (33, .aload_n 0, 34, 0, 0, 0, m_y0, .null),
  (34, .getfield 16, 37, 9, 2, 893, m_y0, .null),
  (37, .aload_n 0, 38, 0, 0, 0, m_y0, .null),
  (38, .getfield 92, 41, 9, 5, 896, m_y0, .null),
  (41, .iaload, 42, 0, 0, 0, m_y0, .null),
  (42, .iastore, 43, 0, 0, 0, m_y0, .null),
  (43, .aload_n 0, 44, 0, 0, 0, m_y0, .null),
  (44, .getfield 92, 47, 9, 5, 896, m_y0, .null),
  (47, .ireturn, 48, 0, 0, 0, m_y0, .null)])
set_option maxRecDepth 100000 in
theorem k1_O_undo : MOk1 M_O_undo := m_ok1_of (by decide +kernel)
set_option maxRecDepth 100000 in
theorem k2_O_undo : MOk2 M_O_undo := m_ok2_spec (p0 := 1027) (p1 := 77) (p2 := 1025) (p3 := 1026) (by decide +kernel)
def M_O_redo : MD := (y_O_redo, prog_11_method_5_code, 1, (some .int), (1, 0, 9), [
  (0, .aload_n 0, 1, 0, 0, 0, m_y0, .null),
  (1, .getfield 92, 4, 9, 5, 896, m_y0, .null),
  (4, .aload_n 0, 5, 0, 0, 0, m_y0, .null),
  (5, .getfield 96, 8, 9, 4, 895, m_y0, .null),
  (8, .if_icmp .ne 6, 11, 14, 0, 0, m_y0, .null),
  (11, .bipush (-5), 13, 0, 0, 0, m_y0, .int (-5)),
  (13, .ireturn, 14, 0, 0, 0, m_y0, .null),
  (14, .aload_n 0, 15, 0, 0, 0, m_y0, .null),
  (15, .getfield 9, 18, 9, 0, 891, m_y0, .null),
  (18, .aload_n 0, 19, 0, 0, 0, m_y0, .null),
  (19, .getfield 13, 22, 9, 1, 892, m_y0, .null),
  (22, .aload_n 0, 23, 0, 0, 0, m_y0, .null),
  (23, .getfield 92, 26, 9, 5, 896, m_y0, .null),
  (26, .iaload, 27, 0, 0, 0, m_y0, .null),
  (27, .aload_n 0, 28, 0, 0, 0, m_y0, .null),
  (28, .getfield 19, 31, 9, 3, 894, m_y0, .null),
  (31, .aload_n 0, 32, 0, 0, 0, m_y0, .null),
  (32, .getfield 92, 35, 9, 5, 896, m_y0, .null),
  (35, .iaload, 36, 0, 0, 0, m_y0, .null),
  (36, .iastore, 37, 0, 0, 0, m_y0, .null),
  (37, .aload_n 0, 38, 0, 0, 0, m_y0, .null),
  (38, .dup, 39, 0, 0, 0, m_y0, .null),
  (39, .getfield 92, 42, 9, 5, 896, m_y0, .null),
  (42, .iconst 1, 43, 0, 0, 0, m_y0, .int 1),
  (43, .iadd, 44, 0, 0, 0, m_y0, .null),
  (44, .putfield 92, 47, 9, 5, 896, m_y0, .int 0),
  (47, .aload_n 0, 48, 0, 0, 0, m_y0, .null),
  (48, .getfield 96, 51, 9, 4, 895, m_y0, .null),
  (51, .aload_n 0, 52, 0, 0, 0, m_y0, .null),
  (52, .getfield 92, 55, 9, 5, 896, m_y0, .null),
  (55, .isub, 56, 0, 0, 0, m_y0, .null),
  (56, .ireturn, 57, 0, 0, 0, m_y0, .null)])
set_option maxRecDepth 100000 in
theorem k1_O_redo : MOk1 M_O_redo := m_ok1_of (by decide +kernel)
set_option maxRecDepth 100000 in
theorem k2_O_redo : MOk2 M_O_redo := m_ok2_spec (p0 := 1031) (p1 := 77) (p2 := 1029) (p3 := 1030) (by decide +kernel)
def M_O_isPart : MD := (y_O_isPart, prog_11_method_6_code, 2, (some .boolean), (1, 1, 9), [
  (0, .iload_n 1, 1, 1, 0, 0, m_y0, .null),
  (1, .i2l, 2, 0, 0, 0, m_y0, .null),
  (2, .lconst 0, 3, 0, 0, 0, m_y0, .long 0),
  (3, .aload_n 0, 4, 0, 0, 0, m_y0, .null),
  (4, .getfield 99, 7, 9, 6, 897, m_y0, .null),
  (7, .iconst 1, 8, 0, 0, 0, m_y0, .int 1),
  (8, .isub, 9, 0, 0, 0, m_y0, .null),
  (9, .i2l, 10, 0, 0, 0, m_y0, .null),
  (10, .invokestatic 102, 13, 3, 0, 1037, y_O_within, .null),
  (13, .ireturn, 14, 0, 0, 0, m_y0, .null)])
set_option maxRecDepth 100000 in
theorem k1_O_isPart : MOk1 M_O_isPart := m_ok1_of (by decide +kernel)
set_option maxRecDepth 100000 in
theorem k2_O_isPart : MOk2 M_O_isPart := m_ok2_spec (p0 := 1079) (p1 := 77) (p2 := 1078) (p3 := 31) (by decide +kernel)
def M_O_isKind : MD := (y_O_isKind, prog_11_method_7_code, 1, (some .boolean), (0, 1, 9), [
  (0, .iload_n 0, 1, 0, 0, 0, m_y0, .null),
  (1, .i2l, 2, 0, 0, 0, m_y0, .null),
  (2, .lconst 0, 3, 0, 0, 0, m_y0, .long 0),
  (3, .ldc2_w 106, 6, 0, 0, 1051, m_y0, .long 5),
  (6, .invokestatic 102, 9, 3, 0, 1037, y_O_within, .null),
  (9, .ireturn, 10, 0, 0, 0, m_y0, .null)])
set_option maxRecDepth 100000 in
theorem k1_O_isKind : MOk1 M_O_isKind := m_ok1_of (by decide +kernel)
set_option maxRecDepth 100000 in
theorem k2_O_isKind : MOk2 M_O_isKind := m_ok2_spec (p0 := 1060) (p1 := 77) (p2 := 1059) (p3 := 0) (by decide +kernel)
def M_O_isMark : MD := (y_O_isMark, prog_11_method_8_code, 1, (some .boolean), (0, 1, 9), [
  (0, .iload_n 0, 1, 0, 0, 0, m_y0, .null),
  (1, .i2l, 2, 0, 0, 0, m_y0, .null),
  (2, .lconst 0, 3, 0, 0, 0, m_y0, .long 0),
  (3, .ldc2_w 106, 6, 0, 0, 1051, m_y0, .long 5),
  (6, .invokestatic 102, 9, 3, 0, 1037, y_O_within, .null),
  (9, .ireturn, 10, 0, 0, 0, m_y0, .null)])
set_option maxRecDepth 100000 in
theorem k1_O_isMark : MOk1 M_O_isMark := m_ok1_of (by decide +kernel)
set_option maxRecDepth 100000 in
theorem k2_O_isMark : MOk2 M_O_isMark := m_ok2_spec (p0 := 1067) (p1 := 77) (p2 := 1066) (p3 := 0) (by decide +kernel)
def M_O_adds : MD := (y_O_adds, prog_11_method_9_code, 4, none, (1, 2, 9), [
  (0, .aload_n 0, 1, 0, 0, 0, m_y0, .null),
  (1, .getfield 22, 4, 9, 7, 898, m_y0, .null),
  (4, .aload_n 0, 5, 0, 0, 0, m_y0, .null),
  (5, .getfield 99, 8, 9, 6, 897, m_y0, .null),
  (8, .iload_n 1, 9, 1, 0, 0, m_y0, .null),
  (9, .iastore, 10, 0, 0, 0, m_y0, .null),
  (10, .aload_n 0, 11, 0, 0, 0, m_y0, .null),
  (11, .getfield 25, 14, 9, 8, 899, m_y0, .null),
  (14, .aload_n 0, 15, 0, 0, 0, m_y0, .null),
  (15, .getfield 99, 18, 9, 6, 897, m_y0, .null),
  (18, .iload_n 2, 19, 2, 0, 0, m_y0, .null),
  (19, .iastore, 20, 0, 0, 0, m_y0, .null),
  (20, .iconst 0, 21, 0, 0, 0, m_y0, .int 0),
  (21, .istore_n 3, 22, 3, 0, 0, m_y0, .null),
  (22, .iload_n 3, 23, 3, 0, 0, m_y0, .null),
  (23, .bipush 6, 25, 0, 0, 0, m_y0, .int 6),
  (25, .if_icmp .ge 24, 28, 49, 0, 0, m_y0, .null),
  (28, .aload_n 0, 29, 0, 0, 0, m_y0, .null),
  (29, .getfield 28, 32, 9, 9, 900, m_y0, .null),
  (32, .bipush 6, 34, 0, 0, 0, m_y0, .int 6),
  (34, .aload_n 0, 35, 0, 0, 0, m_y0, .null),
  (35, .getfield 99, 38, 9, 6, 897, m_y0, .null),
  (38, .imul, 39, 0, 0, 0, m_y0, .null),
  (39, .iload_n 3, 40, 3, 0, 0, m_y0, .null),
  (40, .iadd, 41, 0, 0, 0, m_y0, .null),
  (41, .iconst 0, 42, 0, 0, 0, m_y0, .int 0),
  (42, .iastore, 43, 0, 0, 0, m_y0, .null),
  (43, .iinc 3 1, 46, 3, 0, 0, m_y0, .int 1),
  (46, .goto (-24), 49, 22, 0, 0, m_y0, .null),
  (49, .aload_n 0, 50, 0, 0, 0, m_y0, .null),
  (50, .dup, 51, 0, 0, 0, m_y0, .null),
  (51, .getfield 99, 54, 9, 6, 897, m_y0, .null),
  (54, .iconst 1, 55, 0, 0, 0, m_y0, .int 1),
  (55, .iadd, 56, 0, 0, 0, m_y0, .null),
  (56, .putfield 99, 59, 9, 6, 897, m_y0, .int 0),
  (59, .return_, 60, 0, 0, 0, m_y0, .null)])
set_option maxRecDepth 100000 in
theorem k1_O_adds : MOk1 M_O_adds := m_ok1_of (by decide +kernel)
set_option maxRecDepth 100000 in
theorem k2_O_adds : MOk2 M_O_adds := m_ok2_spec (p0 := 1043) (p1 := 77) (p2 := 1042) (p3 := 28) (by decide +kernel)
def M_O_part : MD := (y_O_part, prog_11_method_10_code, 2, (some .int), (1, 1, 9), [
  (0, .iload_n 1, 1, 1, 0, 0, m_y0, .null),
  (1, .i2l, 2, 0, 0, 0, m_y0, .null),
  (2, .lconst 0, 3, 0, 0, 0, m_y0, .long 0),
  (3, .ldc2_w 108, 6, 0, 0, 1036, m_y0, .long 99),
  (6, .invokestatic 102, 9, 3, 0, 1037, y_O_within, .null),
  (9, .ifCond .ne 5, 12, 14, 0, 0, m_y0, .null),
  (12, .iconst (-1), 13, 0, 0, 0, m_y0, .int (-1)),
  (13, .ireturn, 14, 0, 0, 0, m_y0, .null),
  (14, .aload_n 0, 15, 0, 0, 0, m_y0, .null),
  (15, .getfield 99, 18, 9, 6, 897, m_y0, .null),
  (18, .bipush 8, 20, 0, 0, 0, m_y0, .int 8),
  (20, .if_icmp .ne 6, 23, 26, 0, 0, m_y0, .null),
  (23, .bipush (-3), 25, 0, 0, 0, m_y0, .int (-3)),
  (25, .ireturn, 26, 0, 0, 0, m_y0, .null),
  (26, .aload_n 0, 27, 0, 0, 0, m_y0, .null),
  (27, .iload_n 1, 28, 1, 0, 0, m_y0, .null),
  (28, .bipush 10, 30, 0, 0, 0, m_y0, .int 10),
  (30, .idiv, 31, 0, 0, 0, m_y0, .null),
  (31, .iload_n 1, 32, 1, 0, 0, m_y0, .null),
  (32, .bipush 10, 34, 0, 0, 0, m_y0, .int 10),
  (34, .irem, 35, 0, 0, 0, m_y0, .null),
  (35, .invokevirtual 110, 38, 3, 0, 1040, y_O_adds, .null),
  (38, .aload_n 0, 39, 0, 0, 0, m_y0, .null),
  (39, .getfield 99, 42, 9, 6, 897, m_y0, .null),
  (42, .iconst 1, 43, 0, 0, 0, m_y0, .int 1),
  (43, .isub, 44, 0, 0, 0, m_y0, .null),
  (44, .ireturn, 45, 0, 0, 0, m_y0, .null)])
set_option maxRecDepth 100000 in
theorem k1_O_part : MOk1 M_O_part := m_ok1_of (by decide +kernel)
set_option maxRecDepth 100000 in
theorem k2_O_part : MOk2 M_O_part := m_ok2_spec (p0 := 1035) (p1 := 77) (p2 := 1033) (p3 := 1034) (by decide +kernel)
def M_O_parts_0 : List (Nat × ME) := [
  (0, .iload_n 1, 1, 1, 0, 0, m_y0, .null),
  (1, .invokestatic 114, 4, 1, 0, 1048, y_O_isShelf, .null),
  (4, .ifCond .eq 15, 7, 19, 0, 0, m_y0, .null),
  (7, .iload_n 3, 8, 3, 0, 0, m_y0, .null),
  (8, .i2l, 9, 0, 0, 0, m_y0, .null),
  (9, .lconst 1, 10, 0, 0, 0, m_y0, .long 1),
  (10, .ldc2_w 118, 13, 0, 0, 1052, m_y0, .long 8),
  (13, .invokestatic 102, 16, 3, 0, 1037, y_O_within, .null),
  (16, .ifCond .ne 5, 19, 21, 0, 0, m_y0, .null),
  (19, .iconst (-1), 20, 0, 0, 0, m_y0, .int (-1)),
  (20, .ireturn, 21, 0, 0, 0, m_y0, .null),
  (21, .aload_n 0, 22, 0, 0, 0, m_y0, .null),
  (22, .getfield 80, 25, 9, 40, 931, m_y0, .null),
  (25, .iload_n 1, 26, 1, 0, 0, m_y0, .null),
  (26, .iaload, 27, 0, 0, 0, m_y0, .null),
  (27, .ifCond .lt 17, 30, 44, 0, 0, m_y0, .null),
  (30, .aload_n 0, 31, 0, 0, 0, m_y0, .null),
  (31, .getfield 80, 34, 9, 40, 931, m_y0, .null),
  (34, .iload_n 1, 35, 1, 0, 0, m_y0, .null),
  (35, .iaload, 36, 0, 0, 0, m_y0, .null),
  (36, .bipush 50, 38, 0, 0, 0, m_y0, .int 50),
  (38, .if_icmp .eq 6, 41, 44, 0, 0, m_y0, .null),
  (41, .bipush (-12), 43, 0, 0, 0, m_y0, .int (-12)),
  (43, .ireturn, 44, 0, 0, 0, m_y0, .null),
  (44, .iconst 0, 45, 0, 0, 0, m_y0, .int 0),
  (45, .istore 4, 47, 4, 0, 0, m_y0, .null),
  (47, .aload_n 0, 48, 0, 0, 0, m_y0, .null),
  (48, .getfield 80, 51, 9, 40, 931, m_y0, .null),
  (51, .iload_n 1, 52, 1, 0, 0, m_y0, .null),
  (52, .iaload, 53, 0, 0, 0, m_y0, .null),
  (53, .bipush 50, 55, 0, 0, 0, m_y0, .int 50),
  (55, .if_icmp .ne 11, 58, 66, 0, 0, m_y0, .null),
  (58, .iload_n 2, 59, 2, 0, 0, m_y0, .null),
  (59, .ifCond .lt 7, 62, 66, 0, 0, m_y0, .null),
  (62, .iconst 1, 63, 0, 0, 0, m_y0, .int 1),
  (63, .goto 4, 66, 67, 0, 0, m_y0, .null),
  (66, .iconst 0, 67, 0, 0, 0, m_y0, .int 0),
  (67, .istore 5, 69, 5, 0, 0, m_y0, .null),
  (69, .iload 5, 71, 5, 0, 0, m_y0, .null),
  (71, .ifCond .eq 136, 74, 207, 0, 0, m_y0, .null),
  (74, .iload 4, 76, 4, 0, 0, m_y0, .null),
  (76, .iload_n 3, 77, 3, 0, 0, m_y0, .null),
  (77, .if_icmp .ge 130, 80, 207, 0, 0, m_y0, .null),
  (80, .iload_n 2, 81, 2, 0, 0, m_y0, .null),
  (81, .aload_n 0, 82, 0, 0, 0, m_y0, .null),
  (82, .getfield 83, 85, 9, 41, 932, m_y0, .null),
  (85, .iload_n 1, 86, 1, 0, 0, m_y0, .null),
  (86, .iaload, 87, 0, 0, 0, m_y0, .null),
  (87, .iconst 2, 88, 0, 0, 0, m_y0, .int 2),
  (88, .isub, 89, 0, 0, 0, m_y0, .null)]
def M_O_parts_1 : List (Nat × ME) := [
  (89, .iconst 2, 90, 0, 0, 0, m_y0, .int 2),
  (90, .iload 4, 92, 4, 0, 0, m_y0, .null),
  (92, .imul, 93, 0, 0, 0, m_y0, .null),
  (93, .isub, 94, 0, 0, 0, m_y0, .null),
  (94, .if_icmp .gt 16, 97, 110, 0, 0, m_y0, .null),
  (97, .aload_n 0, 98, 0, 0, 0, m_y0, .null),
  (98, .getfield 99, 101, 9, 6, 897, m_y0, .null),
  (101, .bipush 8, 103, 0, 0, 0, m_y0, .int 8),
  (103, .if_icmp .ge 7, 106, 110, 0, 0, m_y0, .null),
  (106, .iconst 1, 107, 0, 0, 0, m_y0, .int 1),
  (107, .goto 4, 110, 111, 0, 0, m_y0, .null),
  (110, .iconst 0, 111, 0, 0, 0, m_y0, .int 0),
  (111, .istore 5, 113, 5, 0, 0, m_y0, .null),
  (113, .bipush 60, 115, 0, 0, 0, m_y0, .int 60),
  (115, .iload_n 1, 116, 1, 0, 0, m_y0, .null),
  (116, .imul, 117, 0, 0, 0, m_y0, .null),
  (117, .iload_n 2, 118, 2, 0, 0, m_y0, .null),
  (118, .iadd, 119, 0, 0, 0, m_y0, .null),
  (119, .iconst 2, 120, 0, 0, 0, m_y0, .int 2),
  (120, .iload 4, 122, 4, 0, 0, m_y0, .null),
  (122, .imul, 123, 0, 0, 0, m_y0, .null),
  (123, .iadd, 124, 0, 0, 0, m_y0, .null),
  (124, .istore 6, 126, 6, 0, 0, m_y0, .null),
  (126, .iload 5, 128, 5, 0, 0, m_y0, .null),
  (128, .ifCond .eq 43, 131, 171, 0, 0, m_y0, .null),
  (131, .aload_n 0, 132, 0, 0, 0, m_y0, .null),
  (132, .getfield 86, 135, 9, 42, 933, m_y0, .null),
  (135, .iload 6, 137, 6, 0, 0, m_y0, .null),
  (137, .laload, 138, 0, 0, 0, m_y0, .null),
  (138, .lconst 0, 139, 0, 0, 0, m_y0, .long 0),
  (139, .ldc2_w 120, 142, 0, 0, 1053, m_y0, .long 9),
  (142, .invokestatic 102, 145, 3, 0, 1037, y_O_within, .null),
  (145, .ifCond .eq 26, 148, 171, 0, 0, m_y0, .null),
  (148, .aload_n 0, 149, 0, 0, 0, m_y0, .null),
  (149, .getfield 86, 152, 9, 42, 933, m_y0, .null),
  (152, .iload 6, 154, 6, 0, 0, m_y0, .null),
  (154, .iconst 1, 155, 0, 0, 0, m_y0, .int 1),
  (155, .iadd, 156, 0, 0, 0, m_y0, .null),
  (156, .laload, 157, 0, 0, 0, m_y0, .null),
  (157, .lconst 0, 158, 0, 0, 0, m_y0, .long 0),
  (158, .ldc2_w 120, 161, 0, 0, 1053, m_y0, .long 9),
  (161, .invokestatic 102, 164, 3, 0, 1037, y_O_within, .null),
  (164, .ifCond .eq 7, 167, 171, 0, 0, m_y0, .null),
  (167, .iconst 1, 168, 0, 0, 0, m_y0, .int 1),
  (168, .goto 4, 171, 172, 0, 0, m_y0, .null),
  (171, .iconst 0, 172, 0, 0, 0, m_y0, .int 0),
  (172, .istore 5, 174, 5, 0, 0, m_y0, .null),
  (174, .iload 5, 176, 5, 0, 0, m_y0, .null),
  (176, .ifCond .eq 28, 179, 204, 0, 0, m_y0, .null),
  (179, .aload_n 0, 180, 0, 0, 0, m_y0, .null)]
def M_O_parts_2 : List (Nat × ME) := [
  (180, .aload_n 0, 181, 0, 0, 0, m_y0, .null),
  (181, .getfield 86, 184, 9, 42, 933, m_y0, .null),
  (184, .iload 6, 186, 6, 0, 0, m_y0, .null),
  (186, .laload, 187, 0, 0, 0, m_y0, .null),
  (187, .l2i, 188, 0, 0, 0, m_y0, .null),
  (188, .aload_n 0, 189, 0, 0, 0, m_y0, .null),
  (189, .getfield 86, 192, 9, 42, 933, m_y0, .null),
  (192, .iload 6, 194, 6, 0, 0, m_y0, .null),
  (194, .iconst 1, 195, 0, 0, 0, m_y0, .int 1),
  (195, .iadd, 196, 0, 0, 0, m_y0, .null),
  (196, .laload, 197, 0, 0, 0, m_y0, .null),
  (197, .l2i, 198, 0, 0, 0, m_y0, .null),
  (198, .invokevirtual 110, 201, 3, 0, 1040, y_O_adds, .null),
  (201, .iinc 4 1, 204, 4, 0, 0, m_y0, .int 1),
  (204, .goto (-135), 207, 69, 0, 0, m_y0, .null),
  (207, .iload 4, 209, 4, 0, 0, m_y0, .null),
  (209, .ireturn, 210, 0, 0, 0, m_y0, .null)]
def M_O_parts : MD := (y_O_parts, prog_11_method_11_code, 7, (some .int), (1, 3, 9), M_O_parts_0 ++ (M_O_parts_1 ++ (M_O_parts_2)))
set_option maxRecDepth 100000 in
theorem k1_O_parts_0 : M_O_parts_0.all (m_eok y_O_parts prog_11_method_11_code 7) = true := by decide +kernel
set_option maxRecDepth 100000 in
theorem k1_O_parts_1 : M_O_parts_1.all (m_eok y_O_parts prog_11_method_11_code 7) = true := by decide +kernel
set_option maxRecDepth 100000 in
theorem k1_O_parts_2 : M_O_parts_2.all (m_eok y_O_parts prog_11_method_11_code 7) = true := by decide +kernel
theorem k1_O_parts : MOk1 M_O_parts := m_ok1_of (m_all_app k1_O_parts_0 (m_all_app k1_O_parts_1 k1_O_parts_2))
set_option maxRecDepth 100000 in
theorem k2_O_parts : MOk2 M_O_parts := m_ok2_spec (p0 := 1047) (p1 := 77) (p2 := 1045) (p3 := 1046) (by decide +kernel)
def M_O_mend_0 : List (Nat × ME) := [
  (0, .iload_n 2, 1, 2, 0, 0, m_y0, .null),
  (1, .tableswitch 160 0 3 #[31, 61, 94, 127], 32, 31, 0, 0, m_y0, .null),
  (32, .iload_n 1, 33, 1, 0, 0, m_y0, .null),
  (33, .invokestatic 122, 36, 1, 0, 1058, y_O_isKind, .null),
  (36, .ifCond .eq 24, 39, 60, 0, 0, m_y0, .null),
  (39, .iload_n 3, 40, 3, 0, 0, m_y0, .null),
  (40, .i2l, 41, 0, 0, 0, m_y0, .null),
  (41, .lconst 0, 42, 0, 0, 0, m_y0, .long 0),
  (42, .ldc2_w 120, 45, 0, 0, 1053, m_y0, .long 9),
  (45, .invokestatic 102, 48, 3, 0, 1037, y_O_within, .null),
  (48, .ifCond .eq 12, 51, 60, 0, 0, m_y0, .null),
  (51, .aload_n 0, 52, 0, 0, 0, m_y0, .null),
  (52, .iload_n 1, 53, 1, 0, 0, m_y0, .null),
  (53, .iload_n 3, 54, 3, 0, 0, m_y0, .null),
  (54, .invokevirtual 125, 57, 3, 0, 1061, y_O_becomes, .null),
  (57, .goto 4, 60, 61, 0, 0, m_y0, .null),
  (60, .iconst (-1), 61, 0, 0, 0, m_y0, .int (-1)),
  (61, .ireturn, 62, 0, 0, 0, m_y0, .null),
  (62, .iload_n 1, 63, 1, 0, 0, m_y0, .null),
  (63, .invokestatic 122, 66, 1, 0, 1058, y_O_isKind, .null),
  (66, .ifCond .eq 27, 69, 93, 0, 0, m_y0, .null),
  (69, .iload_n 3, 70, 3, 0, 0, m_y0, .null),
  (70, .i2l, 71, 0, 0, 0, m_y0, .null),
  (71, .lconst 0, 72, 0, 0, 0, m_y0, .long 0),
  (72, .ldc2_w 108, 75, 0, 0, 1036, m_y0, .long 99),
  (75, .invokestatic 102, 78, 3, 0, 1037, y_O_within, .null),
  (78, .ifCond .eq 15, 81, 93, 0, 0, m_y0, .null),
  (81, .aload_n 0, 82, 0, 0, 0, m_y0, .null),
  (82, .bipush 6, 84, 0, 0, 0, m_y0, .int 6),
  (84, .iload_n 1, 85, 1, 0, 0, m_y0, .null),
  (85, .iadd, 86, 0, 0, 0, m_y0, .null),
  (86, .iload_n 3, 87, 3, 0, 0, m_y0, .null),
  (87, .invokevirtual 125, 90, 3, 0, 1061, y_O_becomes, .null),
  (90, .goto 4, 93, 94, 0, 0, m_y0, .null),
  (93, .iconst (-1), 94, 0, 0, 0, m_y0, .int (-1)),
  (94, .ireturn, 95, 0, 0, 0, m_y0, .null),
  (95, .iload_n 1, 96, 1, 0, 0, m_y0, .null),
  (96, .invokestatic 129, 99, 1, 0, 1065, y_O_isMark, .null),
  (99, .ifCond .eq 27, 102, 126, 0, 0, m_y0, .null),
  (102, .iload_n 3, 103, 3, 0, 0, m_y0, .null),
  (103, .i2l, 104, 0, 0, 0, m_y0, .null),
  (104, .lconst 1, 105, 0, 0, 0, m_y0, .long 1),
  (105, .ldc2_w 120, 108, 0, 0, 1053, m_y0, .long 9),
  (108, .invokestatic 102, 111, 3, 0, 1037, y_O_within, .null),
  (111, .ifCond .eq 15, 114, 126, 0, 0, m_y0, .null),
  (114, .aload_n 0, 115, 0, 0, 0, m_y0, .null),
  (115, .bipush 12, 117, 0, 0, 0, m_y0, .int 12),
  (117, .iload_n 1, 118, 1, 0, 0, m_y0, .null),
  (118, .iadd, 119, 0, 0, 0, m_y0, .null),
  (119, .iload_n 3, 120, 3, 0, 0, m_y0, .null)]
def M_O_mend_1 : List (Nat × ME) := [
  (120, .invokevirtual 125, 123, 3, 0, 1061, y_O_becomes, .null),
  (123, .goto 4, 126, 127, 0, 0, m_y0, .null),
  (126, .iconst (-1), 127, 0, 0, 0, m_y0, .int (-1)),
  (127, .ireturn, 128, 0, 0, 0, m_y0, .null),
  (128, .iload_n 1, 129, 1, 0, 0, m_y0, .null),
  (129, .invokestatic 129, 132, 1, 0, 1065, y_O_isMark, .null),
  (132, .ifCond .eq 27, 135, 159, 0, 0, m_y0, .null),
  (135, .iload_n 3, 136, 3, 0, 0, m_y0, .null),
  (136, .i2l, 137, 0, 0, 0, m_y0, .null),
  (137, .lconst 0, 138, 0, 0, 0, m_y0, .long 0),
  (138, .ldc2_w 108, 141, 0, 0, 1036, m_y0, .long 99),
  (141, .invokestatic 102, 144, 3, 0, 1037, y_O_within, .null),
  (144, .ifCond .eq 15, 147, 159, 0, 0, m_y0, .null),
  (147, .aload_n 0, 148, 0, 0, 0, m_y0, .null),
  (148, .bipush 18, 150, 0, 0, 0, m_y0, .int 18),
  (150, .iload_n 1, 151, 1, 0, 0, m_y0, .null),
  (151, .iadd, 152, 0, 0, 0, m_y0, .null),
  (152, .iload_n 3, 153, 3, 0, 0, m_y0, .null),
  (153, .invokevirtual 125, 156, 3, 0, 1061, y_O_becomes, .null),
  (156, .goto 4, 159, 160, 0, 0, m_y0, .null),
  (159, .iconst (-1), 160, 0, 0, 0, m_y0, .int (-1)),
  (160, .ireturn, 161, 0, 0, 0, m_y0, .null),
  (161, .iconst (-1), 162, 0, 0, 0, m_y0, .int (-1)),
  (162, .ireturn, 163, 0, 0, 0, m_y0, .null)]
def M_O_mend : MD := (y_O_mend, prog_11_method_12_code, 4, (some .int), (1, 3, 9), M_O_mend_0 ++ (M_O_mend_1))
set_option maxRecDepth 100000 in
theorem k1_O_mend_0 : M_O_mend_0.all (m_eok y_O_mend prog_11_method_12_code 4) = true := by decide +kernel
set_option maxRecDepth 100000 in
theorem k1_O_mend_1 : M_O_mend_1.all (m_eok y_O_mend prog_11_method_12_code 4) = true := by decide +kernel
theorem k1_O_mend : MOk1 M_O_mend := m_ok1_of (m_all_app k1_O_mend_0 k1_O_mend_1)
set_option maxRecDepth 100000 in
theorem k2_O_mend : MOk2 M_O_mend := m_ok2_spec (p0 := 1057) (p1 := 77) (p2 := 1055) (p3 := 1056) (by decide +kernel)
def M_O_isPm : MD := (y_O_isPm, prog_11_method_13_code, 2, (some .boolean), (1, 1, 9), [
  (0, .iload_n 1, 1, 1, 0, 0, m_y0, .null),
  (1, .ifCond .lt 28, 4, 29, 0, 0, m_y0, .null),
  (4, .aload_n 0, 5, 0, 0, 0, m_y0, .null),
  (5, .iload_n 1, 6, 1, 0, 0, m_y0, .null),
  (6, .bipush 10, 8, 0, 0, 0, m_y0, .int 10),
  (8, .idiv, 9, 0, 0, 0, m_y0, .null),
  (9, .invokevirtual 132, 12, 2, 0, 1076, y_O_isPart, .null),
  (12, .ifCond .eq 17, 15, 29, 0, 0, m_y0, .null),
  (15, .iload_n 1, 16, 1, 0, 0, m_y0, .null),
  (16, .bipush 10, 18, 0, 0, 0, m_y0, .int 10),
  (18, .irem, 19, 0, 0, 0, m_y0, .null),
  (19, .invokestatic 129, 22, 1, 0, 1065, y_O_isMark, .null),
  (22, .ifCond .eq 7, 25, 29, 0, 0, m_y0, .null),
  (25, .iconst 1, 26, 0, 0, 0, m_y0, .int 1),
  (26, .goto 4, 29, 30, 0, 0, m_y0, .null),
  (29, .iconst 0, 30, 0, 0, 0, m_y0, .int 0),
  (30, .ireturn, 31, 0, 0, 0, m_y0, .null)])
set_option maxRecDepth 100000 in
theorem k1_O_isPm : MOk1 M_O_isPm := m_ok1_of (by decide +kernel)
set_option maxRecDepth 100000 in
theorem k2_O_isPm : MOk2 M_O_isPm := m_ok2_spec (p0 := 1075) (p1 := 77) (p2 := 1074) (p3 := 30) (by decide +kernel)
def M_O_find : MD := (y_O_find, prog_11_method_14_code, 5, (some .int), (1, 2, 9), [
  (0, .aload_n 0, 1, 0, 0, 0, m_y0, .null),
  (1, .iload_n 1, 2, 1, 0, 0, m_y0, .null),
  (2, .invokevirtual 135, 5, 2, 0, 1072, y_O_isPm, .null),
  (5, .ifCond .eq 15, 8, 20, 0, 0, m_y0, .null),
  (8, .iload_n 2, 9, 2, 0, 0, m_y0, .null),
  (9, .i2l, 10, 0, 0, 0, m_y0, .null),
  (10, .lconst 0, 11, 0, 0, 0, m_y0, .long 0),
  (11, .ldc2_w 138, 14, 0, 0, 1080, m_y0, .long 2),
  (14, .invokestatic 102, 17, 3, 0, 1037, y_O_within, .null),
  (17, .ifCond .ne 5, 20, 22, 0, 0, m_y0, .null),
  (20, .iconst (-1), 21, 0, 0, 0, m_y0, .int (-1)),
  (21, .ireturn, 22, 0, 0, 0, m_y0, .null),
  (22, .bipush 6, 24, 0, 0, 0, m_y0, .int 6),
  (24, .iload_n 1, 25, 1, 0, 0, m_y0, .null),
  (25, .bipush 10, 27, 0, 0, 0, m_y0, .int 10),
  (27, .idiv, 28, 0, 0, 0, m_y0, .null),
  (28, .imul, 29, 0, 0, 0, m_y0, .null),
  (29, .iload_n 1, 30, 1, 0, 0, m_y0, .null),
  (30, .bipush 10, 32, 0, 0, 0, m_y0, .int 10),
  (32, .irem, 33, 0, 0, 0, m_y0, .null),
  (33, .iadd, 34, 0, 0, 0, m_y0, .null),
  (34, .istore_n 3, 35, 3, 0, 0, m_y0, .null),
  (35, .aload_n 0, 36, 0, 0, 0, m_y0, .null),
  (36, .getfield 28, 39, 9, 9, 900, m_y0, .null),
  (39, .iload_n 3, 40, 3, 0, 0, m_y0, .null),
  (40, .iaload, 41, 0, 0, 0, m_y0, .null),
  (41, .istore 4, 43, 4, 0, 0, m_y0, .null),
  (43, .aload_n 0, 44, 0, 0, 0, m_y0, .null),
  (44, .getfield 28, 47, 9, 9, 900, m_y0, .null),
  (47, .iload_n 3, 48, 3, 0, 0, m_y0, .null),
  (48, .iload_n 2, 49, 2, 0, 0, m_y0, .null),
  (49, .iastore, 50, 0, 0, 0, m_y0, .null),
  (50, .iload 4, 52, 4, 0, 0, m_y0, .null),
  (52, .ireturn, 53, 0, 0, 0, m_y0, .null)])
set_option maxRecDepth 100000 in
theorem k1_O_find : MOk1 M_O_find := m_ok1_of (by decide +kernel)
set_option maxRecDepth 100000 in
theorem k2_O_find : MOk2 M_O_find := m_ok2_spec (p0 := 1071) (p1 := 77) (p2 := 1069) (p3 := 1070) (by decide +kernel)
def M_O_of_0 : List (Nat × ME) := [
  (0, .iload_n 2, 1, 2, 0, 0, m_y0, .null),
  (1, .i2l, 2, 0, 0, 0, m_y0, .null),
  (2, .lconst 0, 3, 0, 0, 0, m_y0, .long 0),
  (3, .lconst 1, 4, 0, 0, 0, m_y0, .long 1),
  (4, .invokestatic 102, 7, 3, 0, 1037, y_O_within, .null),
  (7, .ifCond .eq 35, 10, 42, 0, 0, m_y0, .null),
  (10, .aload_n 0, 11, 0, 0, 0, m_y0, .null),
  (11, .iload_n 1, 12, 1, 0, 0, m_y0, .null),
  (12, .invokevirtual 132, 15, 2, 0, 1076, y_O_isPart, .null),
  (15, .ifCond .ne 7, 18, 22, 0, 0, m_y0, .null),
  (18, .iconst (-1), 19, 0, 0, 0, m_y0, .int (-1)),
  (19, .goto 22, 22, 41, 0, 0, m_y0, .null),
  (22, .iload_n 2, 23, 2, 0, 0, m_y0, .null),
  (23, .ifCond .ne 12, 26, 35, 0, 0, m_y0, .null),
  (26, .aload_n 0, 27, 0, 0, 0, m_y0, .null),
  (27, .getfield 22, 30, 9, 7, 898, m_y0, .null),
  (30, .iload_n 1, 31, 1, 0, 0, m_y0, .null),
  (31, .iaload, 32, 0, 0, 0, m_y0, .null),
  (32, .goto 9, 35, 41, 0, 0, m_y0, .null),
  (35, .aload_n 0, 36, 0, 0, 0, m_y0, .null),
  (36, .getfield 25, 39, 9, 8, 899, m_y0, .null),
  (39, .iload_n 1, 40, 1, 0, 0, m_y0, .null),
  (40, .iaload, 41, 0, 0, 0, m_y0, .null),
  (41, .ireturn, 42, 0, 0, 0, m_y0, .null),
  (42, .iload_n 2, 43, 2, 0, 0, m_y0, .null),
  (43, .i2l, 44, 0, 0, 0, m_y0, .null),
  (44, .ldc2_w 140, 47, 0, 0, 1085, m_y0, .long 10),
  (47, .ldc2_w 142, 50, 0, 0, 1086, m_y0, .long 15),
  (50, .invokestatic 102, 53, 3, 0, 1037, y_O_within, .null),
  (53, .ifCond .eq 30, 56, 83, 0, 0, m_y0, .null),
  (56, .aload_n 0, 57, 0, 0, 0, m_y0, .null),
  (57, .iload_n 1, 58, 1, 0, 0, m_y0, .null),
  (58, .invokevirtual 132, 61, 2, 0, 1076, y_O_isPart, .null),
  (61, .ifCond .eq 20, 64, 81, 0, 0, m_y0, .null),
  (64, .aload_n 0, 65, 0, 0, 0, m_y0, .null),
  (65, .getfield 28, 68, 9, 9, 900, m_y0, .null),
  (68, .bipush 6, 70, 0, 0, 0, m_y0, .int 6),
  (70, .iload_n 1, 71, 1, 0, 0, m_y0, .null),
  (71, .imul, 72, 0, 0, 0, m_y0, .null),
  (72, .iload_n 2, 73, 2, 0, 0, m_y0, .null),
  (73, .iadd, 74, 0, 0, 0, m_y0, .null),
  (74, .bipush 10, 76, 0, 0, 0, m_y0, .int 10),
  (76, .isub, 77, 0, 0, 0, m_y0, .null),
  (77, .iaload, 78, 0, 0, 0, m_y0, .null),
  (78, .goto 4, 81, 82, 0, 0, m_y0, .null),
  (81, .iconst (-1), 82, 0, 0, 0, m_y0, .int (-1)),
  (82, .ireturn, 83, 0, 0, 0, m_y0, .null),
  (83, .iload_n 2, 84, 2, 0, 0, m_y0, .null),
  (84, .i2l, 85, 0, 0, 0, m_y0, .null),
  (85, .ldc2_w 144, 88, 0, 0, 1087, m_y0, .long 20)]
def M_O_of_1 : List (Nat × ME) := [
  (88, .ldc2_w 146, 91, 0, 0, 1088, m_y0, .long 21),
  (91, .invokestatic 102, 94, 3, 0, 1037, y_O_within, .null),
  (94, .ifCond .eq 29, 97, 123, 0, 0, m_y0, .null),
  (97, .iload_n 1, 98, 1, 0, 0, m_y0, .null),
  (98, .invokestatic 122, 101, 1, 0, 1058, y_O_isKind, .null),
  (101, .ifCond .eq 20, 104, 121, 0, 0, m_y0, .null),
  (104, .aload_n 0, 105, 0, 0, 0, m_y0, .null),
  (105, .getfield 9, 108, 9, 0, 891, m_y0, .null),
  (108, .bipush 6, 110, 0, 0, 0, m_y0, .int 6),
  (110, .iload_n 2, 111, 2, 0, 0, m_y0, .null),
  (111, .bipush 20, 113, 0, 0, 0, m_y0, .int 20),
  (113, .isub, 114, 0, 0, 0, m_y0, .null),
  (114, .imul, 115, 0, 0, 0, m_y0, .null),
  (115, .iload_n 1, 116, 1, 0, 0, m_y0, .null),
  (116, .iadd, 117, 0, 0, 0, m_y0, .null),
  (117, .iaload, 118, 0, 0, 0, m_y0, .null),
  (118, .goto 4, 121, 122, 0, 0, m_y0, .null),
  (121, .iconst (-1), 122, 0, 0, 0, m_y0, .int (-1)),
  (122, .ireturn, 123, 0, 0, 0, m_y0, .null),
  (123, .iload_n 2, 124, 2, 0, 0, m_y0, .null),
  (124, .i2l, 125, 0, 0, 0, m_y0, .null),
  (125, .ldc2_w 148, 128, 0, 0, 1089, m_y0, .long 30),
  (128, .ldc2_w 150, 131, 0, 0, 1090, m_y0, .long 31),
  (131, .invokestatic 102, 134, 3, 0, 1037, y_O_within, .null),
  (134, .ifCond .eq 30, 137, 164, 0, 0, m_y0, .null),
  (137, .iload_n 1, 138, 1, 0, 0, m_y0, .null),
  (138, .invokestatic 129, 141, 1, 0, 1065, y_O_isMark, .null),
  (141, .ifCond .eq 23, 144, 164, 0, 0, m_y0, .null),
  (144, .aload_n 0, 145, 0, 0, 0, m_y0, .null),
  (145, .getfield 9, 148, 9, 0, 891, m_y0, .null),
  (148, .bipush 12, 150, 0, 0, 0, m_y0, .int 12),
  (150, .bipush 6, 152, 0, 0, 0, m_y0, .int 6),
  (152, .iload_n 2, 153, 2, 0, 0, m_y0, .null),
  (153, .bipush 30, 155, 0, 0, 0, m_y0, .int 30),
  (155, .isub, 156, 0, 0, 0, m_y0, .null),
  (156, .imul, 157, 0, 0, 0, m_y0, .null),
  (157, .iadd, 158, 0, 0, 0, m_y0, .null),
  (158, .iload_n 1, 159, 1, 0, 0, m_y0, .null),
  (159, .iadd, 160, 0, 0, 0, m_y0, .null),
  (160, .iaload, 161, 0, 0, 0, m_y0, .null),
  (161, .goto 4, 164, 165, 0, 0, m_y0, .null),
  (164, .iconst (-1), 165, 0, 0, 0, m_y0, .int (-1)),
  (165, .ireturn, 166, 0, 0, 0, m_y0, .null)]
def M_O_of : MD := (y_O_of, prog_11_method_15_code, 3, (some .int), (1, 2, 9), M_O_of_0 ++ (M_O_of_1))
set_option maxRecDepth 100000 in
theorem k1_O_of_0 : M_O_of_0.all (m_eok y_O_of prog_11_method_15_code 3) = true := by decide +kernel
set_option maxRecDepth 100000 in
theorem k1_O_of_1 : M_O_of_1.all (m_eok y_O_of prog_11_method_15_code 3) = true := by decide +kernel
theorem k1_O_of : MOk1 M_O_of := m_ok1_of (m_all_app k1_O_of_0 k1_O_of_1)
set_option maxRecDepth 100000 in
theorem k2_O_of : MOk2 M_O_of := m_ok2_spec (p0 := 1084) (p1 := 77) (p2 := 1082) (p3 := 1083) (by decide +kernel)
def M_O_feed : MD := (y_O_feed, prog_11_method_16_code, 2, (some .int), (1, 1, 9), [
  (0, .iload_n 1, 1, 1, 0, 0, m_y0, .null),
  (1, .i2l, 2, 0, 0, 0, m_y0, .null),
  (2, .lconst 0, 3, 0, 0, 0, m_y0, .long 0),
  (3, .ldc2_w 152, 6, 0, 0, 1095, m_y0, .long 255),
  (6, .invokestatic 102, 9, 3, 0, 1037, y_O_within, .null),
  (9, .ifCond .ne 5, 12, 14, 0, 0, m_y0, .null),
  (12, .iconst (-1), 13, 0, 0, 0, m_y0, .int (-1)),
  (13, .ireturn, 14, 0, 0, 0, m_y0, .null),
  (14, .aload_n 0, 15, 0, 0, 0, m_y0, .null),
  (15, .getfield 154, 18, 9, 11, 902, m_y0, .null),
  (18, .bipush 120, 20, 0, 0, 0, m_y0, .int 120),
  (20, .if_icmp .ne 6, 23, 26, 0, 0, m_y0, .null),
  (23, .bipush (-3), 25, 0, 0, 0, m_y0, .int (-3)),
  (25, .ireturn, 26, 0, 0, 0, m_y0, .null),
  (26, .aload_n 0, 27, 0, 0, 0, m_y0, .null),
  (27, .getfield 31, 30, 9, 10, 901, m_y0, .null),
  (30, .aload_n 0, 31, 0, 0, 0, m_y0, .null),
  (31, .getfield 154, 34, 9, 11, 902, m_y0, .null),
  (34, .iload_n 1, 35, 1, 0, 0, m_y0, .null),
  (35, .iastore, 36, 0, 0, 0, m_y0, .null),
  (36, .aload_n 0, 37, 0, 0, 0, m_y0, .null),
  (37, .dup, 38, 0, 0, 0, m_y0, .null),
  (38, .getfield 154, 41, 9, 11, 902, m_y0, .null),
  (41, .iconst 1, 42, 0, 0, 0, m_y0, .int 1),
  (42, .iadd, 43, 0, 0, 0, m_y0, .null),
  (43, .putfield 154, 46, 9, 11, 902, m_y0, .int 0),
  (46, .aload_n 0, 47, 0, 0, 0, m_y0, .null),
  (47, .getfield 154, 50, 9, 11, 902, m_y0, .null),
  (50, .ireturn, 51, 0, 0, 0, m_y0, .null)])
set_option maxRecDepth 100000 in
theorem k1_O_feed : MOk1 M_O_feed := m_ok1_of (by decide +kernel)
set_option maxRecDepth 100000 in
theorem k2_O_feed : MOk2 M_O_feed := m_ok2_spec (p0 := 1094) (p1 := 77) (p2 := 1092) (p3 := 1093) (by decide +kernel)
def M_O_byteAt : MD := (y_O_byteAt, prog_11_method_17_code, 1, (some .int), (1, 0, 9), [
  (0, .aload_n 0, 1, 0, 0, 0, m_y0, .null),
  (1, .getfield 157, 4, 9, 15, 906, m_y0, .null),
  (4, .aload_n 0, 5, 0, 0, 0, m_y0, .null),
  (5, .getfield 160, 8, 9, 16, 907, m_y0, .null),
  (8, .if_icmp .ge 39, 11, 47, 0, 0, m_y0, .null),
  (11, .aload_n 0, 12, 0, 0, 0, m_y0, .null),
  (12, .getfield 163, 15, 9, 14, 905, m_y0, .null),
  (15, .ifCond .ge 15, 18, 30, 0, 0, m_y0, .null),
  (18, .aload_n 0, 19, 0, 0, 0, m_y0, .null),
  (19, .getfield 31, 22, 9, 10, 901, m_y0, .null),
  (22, .aload_n 0, 23, 0, 0, 0, m_y0, .null),
  (23, .getfield 157, 26, 9, 15, 906, m_y0, .null),
  (26, .iaload, 27, 0, 0, 0, m_y0, .null),
  (27, .goto 21, 30, 48, 0, 0, m_y0, .null),
  (30, .aload_n 0, 31, 0, 0, 0, m_y0, .null),
  (31, .getfield 34, 34, 9, 12, 903, m_y0, .null),
  (34, .aload_n 0, 35, 0, 0, 0, m_y0, .null),
  (35, .getfield 163, 38, 9, 14, 905, m_y0, .null),
  (38, .aload_n 0, 39, 0, 0, 0, m_y0, .null),
  (39, .getfield 157, 42, 9, 15, 906, m_y0, .null),
  (42, .iadd, 43, 0, 0, 0, m_y0, .null),
  (43, .iaload, 44, 0, 0, 0, m_y0, .null),
  (44, .goto 4, 47, 48, 0, 0, m_y0, .null),
  (47, .iconst 0, 48, 0, 0, 0, m_y0, .int 0),
  (48, .ireturn, 49, 0, 0, 0, m_y0, .null)])
set_option maxRecDepth 100000 in
theorem k1_O_byteAt : MOk1 M_O_byteAt := m_ok1_of (by decide +kernel)
set_option maxRecDepth 100000 in
theorem k2_O_byteAt : MOk2 M_O_byteAt := m_ok2_spec (p0 := 1131) (p1 := 77) (p2 := 1130) (p3 := 39) (by decide +kernel)
def M_O_wrong : MD := (y_O_wrong, prog_11_method_18_code, 1, (some .int), (1, 0, 9), [
  (0, .aload_n 0, 1, 0, 0, 0, m_y0, .null),
  (1, .aload_n 0, 2, 0, 0, 0, m_y0, .null),
  (2, .getfield 166, 5, 9, 17, 908, m_y0, .null),
  (5, .ifCond .ge 10, 8, 15, 0, 0, m_y0, .null),
  (8, .aload_n 0, 9, 0, 0, 0, m_y0, .null),
  (9, .getfield 157, 12, 9, 15, 906, m_y0, .null),
  (12, .goto 7, 15, 19, 0, 0, m_y0, .null),
  (15, .aload_n 0, 16, 0, 0, 0, m_y0, .null),
  (16, .getfield 166, 19, 9, 17, 908, m_y0, .null),
  (19, .putfield 166, 22, 9, 17, 908, m_y0, .int 0),
  (22, .iconst 0, 23, 0, 0, 0, m_y0, .int 0),
  (23, .ireturn, 24, 0, 0, 0, m_y0, .null)])
set_option maxRecDepth 100000 in
theorem k1_O_wrong : MOk1 M_O_wrong := m_ok1_of (by decide +kernel)
set_option maxRecDepth 100000 in
theorem k2_O_wrong : MOk2 M_O_wrong := m_ok2_spec (p0 := 1135) (p1 := 77) (p2 := 1134) (p3 := 40) (by decide +kernel)
def M_O_takes : MD := (y_O_takes, prog_11_method_19_code, 2, (some .boolean), (1, 1, 9), [
  (0, .aload_n 0, 1, 0, 0, 0, m_y0, .null),
  (1, .getfield 166, 4, 9, 17, 908, m_y0, .null),
  (4, .ifCond .ge 11, 7, 15, 0, 0, m_y0, .null),
  (7, .aload_n 0, 8, 0, 0, 0, m_y0, .null),
  (8, .invokevirtual 169, 11, 1, 0, 1128, y_O_byteAt, .null),
  (11, .iload_n 1, 12, 1, 0, 0, m_y0, .null),
  (12, .if_icmp .eq 5, 15, 17, 0, 0, m_y0, .null),
  (15, .iconst 0, 16, 0, 0, 0, m_y0, .int 0),
  (16, .ireturn, 17, 0, 0, 0, m_y0, .null),
  (17, .aload_n 0, 18, 0, 0, 0, m_y0, .null),
  (18, .dup, 19, 0, 0, 0, m_y0, .null),
  (19, .getfield 157, 22, 9, 15, 906, m_y0, .null),
  (22, .iconst 1, 23, 0, 0, 0, m_y0, .int 1),
  (23, .iadd, 24, 0, 0, 0, m_y0, .null),
  (24, .putfield 157, 27, 9, 15, 906, m_y0, .int 0),
  (27, .iconst 1, 28, 0, 0, 0, m_y0, .int 1),
  (28, .ireturn, 29, 0, 0, 0, m_y0, .null)])
set_option maxRecDepth 100000 in
theorem k1_O_takes : MOk1 M_O_takes := m_ok1_of (by decide +kernel)
set_option maxRecDepth 100000 in
theorem k2_O_takes : MOk2 M_O_takes := m_ok2_spec (p0 := 1139) (p1 := 77) (p2 := 1138) (p3 := 41) (by decide +kernel)
def M_O_either : MD := (y_O_either, prog_11_method_20_code, 3, (some .int), (1, 0, 9), [
  (0, .aload_n 0, 1, 0, 0, 0, m_y0, .null),
  (1, .invokevirtual 173, 4, 1, 0, 1108, y_O_both, .null),
  (4, .istore_n 1, 5, 1, 0, 0, m_y0, .null),
  (5, .aload_n 0, 6, 0, 0, 0, m_y0, .null),
  (6, .bipush 124, 8, 0, 0, 0, m_y0, .int 124),
  (8, .invokevirtual 176, 11, 2, 0, 1136, y_O_takes, .null),
  (11, .ifCond .eq 25, 14, 36, 0, 0, m_y0, .null),
  (14, .aload_n 0, 15, 0, 0, 0, m_y0, .null),
  (15, .invokevirtual 173, 18, 1, 0, 1108, y_O_both, .null),
  (18, .istore_n 2, 19, 2, 0, 0, m_y0, .null),
  (19, .iload_n 1, 20, 1, 0, 0, m_y0, .null),
  (20, .ifCond .ne 7, 23, 27, 0, 0, m_y0, .null),
  (23, .iload_n 2, 24, 2, 0, 0, m_y0, .null),
  (24, .ifCond .eq 7, 27, 31, 0, 0, m_y0, .null),
  (27, .iconst 1, 28, 0, 0, 0, m_y0, .int 1),
  (28, .goto 4, 31, 32, 0, 0, m_y0, .null),
  (31, .iconst 0, 32, 0, 0, 0, m_y0, .int 0),
  (32, .istore_n 1, 33, 1, 0, 0, m_y0, .null),
  (33, .goto (-28), 36, 5, 0, 0, m_y0, .null),
  (36, .iload_n 1, 37, 1, 0, 0, m_y0, .null),
  (37, .ireturn, 38, 0, 0, 0, m_y0, .null)])
set_option maxRecDepth 100000 in
theorem k1_O_either : MOk1 M_O_either := m_ok1_of (by decide +kernel)
set_option maxRecDepth 100000 in
theorem k2_O_either : MOk2 M_O_either := m_ok2_spec (p0 := 1107) (p1 := 77) (p2 := 1106) (p3 := 33) (by decide +kernel)
def M_O_both : MD := (y_O_both, prog_11_method_21_code, 3, (some .int), (1, 0, 9), [
  (0, .aload_n 0, 1, 0, 0, 0, m_y0, .null),
  (1, .invokevirtual 179, 4, 1, 0, 1112, y_O_compared, .null),
  (4, .istore_n 1, 5, 1, 0, 0, m_y0, .null),
  (5, .aload_n 0, 6, 0, 0, 0, m_y0, .null),
  (6, .bipush 38, 8, 0, 0, 0, m_y0, .int 38),
  (8, .invokevirtual 176, 11, 2, 0, 1136, y_O_takes, .null),
  (11, .ifCond .eq 25, 14, 36, 0, 0, m_y0, .null),
  (14, .aload_n 0, 15, 0, 0, 0, m_y0, .null),
  (15, .invokevirtual 179, 18, 1, 0, 1112, y_O_compared, .null),
  (18, .istore_n 2, 19, 2, 0, 0, m_y0, .null),
  (19, .iload_n 1, 20, 1, 0, 0, m_y0, .null),
  (20, .ifCond .eq 11, 23, 31, 0, 0, m_y0, .null),
  (23, .iload_n 2, 24, 2, 0, 0, m_y0, .null),
  (24, .ifCond .eq 7, 27, 31, 0, 0, m_y0, .null),
  (27, .iconst 1, 28, 0, 0, 0, m_y0, .int 1),
  (28, .goto 4, 31, 32, 0, 0, m_y0, .null),
  (31, .iconst 0, 32, 0, 0, 0, m_y0, .int 0),
  (32, .istore_n 1, 33, 1, 0, 0, m_y0, .null),
  (33, .goto (-28), 36, 5, 0, 0, m_y0, .null),
  (36, .iload_n 1, 37, 1, 0, 0, m_y0, .null),
  (37, .ireturn, 38, 0, 0, 0, m_y0, .null)])
set_option maxRecDepth 100000 in
theorem k1_O_both : MOk1 M_O_both := m_ok1_of (by decide +kernel)
set_option maxRecDepth 100000 in
theorem k2_O_both : MOk2 M_O_both := m_ok2_spec (p0 := 1111) (p1 := 77) (p2 := 1110) (p3 := 34) (by decide +kernel)
def M_O_compared : MD := (y_O_compared, prog_11_method_22_code, 4, (some .int), (1, 0, 9), [
  (0, .aload_n 0, 1, 0, 0, 0, m_y0, .null),
  (1, .invokevirtual 182, 4, 1, 0, 1116, y_O_sums, .null),
  (4, .istore_n 1, 5, 1, 0, 0, m_y0, .null),
  (5, .aload_n 0, 6, 0, 0, 0, m_y0, .null),
  (6, .invokevirtual 169, 9, 1, 0, 1128, y_O_byteAt, .null),
  (9, .istore_n 2, 10, 2, 0, 0, m_y0, .null),
  (10, .aload_n 0, 11, 0, 0, 0, m_y0, .null),
  (11, .getfield 166, 14, 9, 17, 908, m_y0, .null),
  (14, .ifCond .ge 21, 17, 35, 0, 0, m_y0, .null),
  (17, .iload_n 2, 18, 2, 0, 0, m_y0, .null),
  (18, .bipush 60, 20, 0, 0, 0, m_y0, .int 60),
  (20, .if_icmp .eq 17, 23, 37, 0, 0, m_y0, .null),
  (23, .iload_n 2, 24, 2, 0, 0, m_y0, .null),
  (24, .bipush 61, 26, 0, 0, 0, m_y0, .int 61),
  (26, .if_icmp .eq 11, 29, 37, 0, 0, m_y0, .null),
  (29, .iload_n 2, 30, 2, 0, 0, m_y0, .null),
  (30, .bipush 62, 32, 0, 0, 0, m_y0, .int 62),
  (32, .if_icmp .eq 5, 35, 37, 0, 0, m_y0, .null),
  (35, .iload_n 1, 36, 1, 0, 0, m_y0, .null),
  (36, .ireturn, 37, 0, 0, 0, m_y0, .null),
  (37, .aload_n 0, 38, 0, 0, 0, m_y0, .null),
  (38, .dup, 39, 0, 0, 0, m_y0, .null),
  (39, .getfield 157, 42, 9, 15, 906, m_y0, .null),
  (42, .iconst 1, 43, 0, 0, 0, m_y0, .int 1),
  (43, .iadd, 44, 0, 0, 0, m_y0, .null),
  (44, .putfield 157, 47, 9, 15, 906, m_y0, .int 0),
  (47, .aload_n 0, 48, 0, 0, 0, m_y0, .null),
  (48, .invokevirtual 182, 51, 1, 0, 1116, y_O_sums, .null),
  (51, .istore_n 3, 52, 3, 0, 0, m_y0, .null),
  (52, .iload_n 2, 53, 2, 0, 0, m_y0, .null),
  (53, .bipush 60, 55, 0, 0, 0, m_y0, .int 60),
  (55, .if_icmp .ne 11, 58, 66, 0, 0, m_y0, .null),
  (58, .iload_n 1, 59, 1, 0, 0, m_y0, .null),
  (59, .iload_n 3, 60, 3, 0, 0, m_y0, .null),
  (60, .if_icmp .ge 29, 63, 89, 0, 0, m_y0, .null),
  (63, .goto 22, 66, 85, 0, 0, m_y0, .null),
  (66, .iload_n 2, 67, 2, 0, 0, m_y0, .null),
  (67, .bipush 61, 69, 0, 0, 0, m_y0, .int 61),
  (69, .if_icmp .ne 11, 72, 80, 0, 0, m_y0, .null),
  (72, .iload_n 1, 73, 1, 0, 0, m_y0, .null),
  (73, .iload_n 3, 74, 3, 0, 0, m_y0, .null),
  (74, .if_icmp .ne 15, 77, 89, 0, 0, m_y0, .null),
  (77, .goto 8, 80, 85, 0, 0, m_y0, .null),
  (80, .iload_n 1, 81, 1, 0, 0, m_y0, .null),
  (81, .iload_n 3, 82, 3, 0, 0, m_y0, .null),
  (82, .if_icmp .le 7, 85, 89, 0, 0, m_y0, .null),
  (85, .iconst 1, 86, 0, 0, 0, m_y0, .int 1),
  (86, .goto 4, 89, 90, 0, 0, m_y0, .null),
  (89, .iconst 0, 90, 0, 0, 0, m_y0, .int 0),
  (90, .ireturn, 91, 0, 0, 0, m_y0, .null)])
set_option maxRecDepth 100000 in
theorem k1_O_compared : MOk1 M_O_compared := m_ok1_of (by decide +kernel)
set_option maxRecDepth 100000 in
theorem k2_O_compared : MOk2 M_O_compared := m_ok2_spec (p0 := 1115) (p1 := 77) (p2 := 1114) (p3 := 35) (by decide +kernel)
def M_O_sums : MD := (y_O_sums, prog_11_method_23_code, 4, (some .int), (1, 0, 9), [
  (0, .aload_n 0, 1, 0, 0, 0, m_y0, .null),
  (1, .invokevirtual 185, 4, 1, 0, 1120, y_O_product, .null),
  (4, .istore_n 1, 5, 1, 0, 0, m_y0, .null),
  (5, .aload_n 0, 6, 0, 0, 0, m_y0, .null),
  (6, .getfield 166, 9, 9, 17, 908, m_y0, .null),
  (9, .ifCond .ge 68, 12, 77, 0, 0, m_y0, .null),
  (12, .aload_n 0, 13, 0, 0, 0, m_y0, .null),
  (13, .invokevirtual 169, 16, 1, 0, 1128, y_O_byteAt, .null),
  (16, .bipush 43, 18, 0, 0, 0, m_y0, .int 43),
  (18, .if_icmp .eq 12, 21, 30, 0, 0, m_y0, .null),
  (21, .aload_n 0, 22, 0, 0, 0, m_y0, .null),
  (22, .invokevirtual 169, 25, 1, 0, 1128, y_O_byteAt, .null),
  (25, .bipush 45, 27, 0, 0, 0, m_y0, .int 45),
  (27, .if_icmp .ne 50, 30, 77, 0, 0, m_y0, .null),
  (30, .aload_n 0, 31, 0, 0, 0, m_y0, .null),
  (31, .invokevirtual 169, 34, 1, 0, 1128, y_O_byteAt, .null),
  (34, .bipush 43, 36, 0, 0, 0, m_y0, .int 43),
  (36, .if_icmp .ne 7, 39, 43, 0, 0, m_y0, .null),
  (39, .iconst 1, 40, 0, 0, 0, m_y0, .int 1),
  (40, .goto 4, 43, 44, 0, 0, m_y0, .null),
  (43, .iconst 0, 44, 0, 0, 0, m_y0, .int 0),
  (44, .istore_n 2, 45, 2, 0, 0, m_y0, .null),
  (45, .aload_n 0, 46, 0, 0, 0, m_y0, .null),
  (46, .dup, 47, 0, 0, 0, m_y0, .null),
  (47, .getfield 157, 50, 9, 15, 906, m_y0, .null),
  (50, .iconst 1, 51, 0, 0, 0, m_y0, .int 1),
  (51, .iadd, 52, 0, 0, 0, m_y0, .null),
  (52, .putfield 157, 55, 9, 15, 906, m_y0, .int 0),
  (55, .aload_n 0, 56, 0, 0, 0, m_y0, .null),
  (56, .invokevirtual 185, 59, 1, 0, 1120, y_O_product, .null),
  (59, .istore_n 3, 60, 3, 0, 0, m_y0, .null),
  (60, .iload_n 2, 61, 2, 0, 0, m_y0, .null),
  (61, .ifCond .eq 9, 64, 70, 0, 0, m_y0, .null),
  (64, .iload_n 1, 65, 1, 0, 0, m_y0, .null),
  (65, .iload_n 3, 66, 3, 0, 0, m_y0, .null),
  (66, .iadd, 67, 0, 0, 0, m_y0, .null),
  (67, .goto 6, 70, 73, 0, 0, m_y0, .null),
  (70, .iload_n 1, 71, 1, 0, 0, m_y0, .null),
  (71, .iload_n 3, 72, 3, 0, 0, m_y0, .null),
  (72, .isub, 73, 0, 0, 0, m_y0, .null),
  (73, .istore_n 1, 74, 1, 0, 0, m_y0, .null),
  (74, .goto (-69), 77, 5, 0, 0, m_y0, .null),
  (77, .iload_n 1, 78, 1, 0, 0, m_y0, .null),
  (78, .ireturn, 79, 0, 0, 0, m_y0, .null)])
set_option maxRecDepth 100000 in
theorem k1_O_sums : MOk1 M_O_sums := m_ok1_of (by decide +kernel)
set_option maxRecDepth 100000 in
theorem k2_O_sums : MOk2 M_O_sums := m_ok2_spec (p0 := 1119) (p1 := 77) (p2 := 1118) (p3 := 36) (by decide +kernel)
def M_O_product : MD := (y_O_product, prog_11_method_24_code, 4, (some .int), (1, 0, 9), [
  (0, .aload_n 0, 1, 0, 0, 0, m_y0, .null),
  (1, .invokevirtual 188, 4, 1, 0, 1124, y_O_one, .null),
  (4, .istore_n 1, 5, 1, 0, 0, m_y0, .null),
  (5, .aload_n 0, 6, 0, 0, 0, m_y0, .null),
  (6, .invokevirtual 169, 9, 1, 0, 1128, y_O_byteAt, .null),
  (9, .istore_n 2, 10, 2, 0, 0, m_y0, .null),
  (10, .aload_n 0, 11, 0, 0, 0, m_y0, .null),
  (11, .getfield 166, 14, 9, 17, 908, m_y0, .null),
  (14, .ifCond .ge 80, 17, 94, 0, 0, m_y0, .null),
  (17, .iload_n 2, 18, 2, 0, 0, m_y0, .null),
  (18, .bipush 42, 20, 0, 0, 0, m_y0, .int 42),
  (20, .if_icmp .eq 15, 23, 35, 0, 0, m_y0, .null),
  (23, .iload_n 2, 24, 2, 0, 0, m_y0, .null),
  (24, .bipush 47, 26, 0, 0, 0, m_y0, .int 47),
  (26, .if_icmp .eq 9, 29, 35, 0, 0, m_y0, .null),
  (29, .iload_n 2, 30, 2, 0, 0, m_y0, .null),
  (30, .bipush 37, 32, 0, 0, 0, m_y0, .int 37),
  (32, .if_icmp .ne 62, 35, 94, 0, 0, m_y0, .null),
  (35, .aload_n 0, 36, 0, 0, 0, m_y0, .null),
  (36, .dup, 37, 0, 0, 0, m_y0, .null),
  (37, .getfield 157, 40, 9, 15, 906, m_y0, .null),
  (40, .iconst 1, 41, 0, 0, 0, m_y0, .int 1),
  (41, .iadd, 42, 0, 0, 0, m_y0, .null),
  (42, .putfield 157, 45, 9, 15, 906, m_y0, .int 0),
  (45, .aload_n 0, 46, 0, 0, 0, m_y0, .null),
  (46, .invokevirtual 188, 49, 1, 0, 1124, y_O_one, .null),
  (49, .istore_n 3, 50, 3, 0, 0, m_y0, .null),
  (50, .iload_n 2, 51, 2, 0, 0, m_y0, .null),
  (51, .bipush 42, 53, 0, 0, 0, m_y0, .int 42),
  (53, .if_icmp .ne 9, 56, 62, 0, 0, m_y0, .null),
  (56, .iload_n 1, 57, 1, 0, 0, m_y0, .null),
  (57, .iload_n 3, 58, 3, 0, 0, m_y0, .null),
  (58, .imul, 59, 0, 0, 0, m_y0, .null),
  (59, .goto 26, 62, 85, 0, 0, m_y0, .null),
  (62, .iload_n 3, 63, 3, 0, 0, m_y0, .null),
  (63, .ifCond .ne 7, 66, 70, 0, 0, m_y0, .null),
  (66, .iconst 0, 67, 0, 0, 0, m_y0, .int 0),
  (67, .goto 18, 70, 85, 0, 0, m_y0, .null),
  (70, .iload_n 2, 71, 2, 0, 0, m_y0, .null),
  (71, .bipush 47, 73, 0, 0, 0, m_y0, .int 47),
  (73, .if_icmp .ne 9, 76, 82, 0, 0, m_y0, .null),
  (76, .iload_n 1, 77, 1, 0, 0, m_y0, .null),
  (77, .iload_n 3, 78, 3, 0, 0, m_y0, .null),
  (78, .idiv, 79, 0, 0, 0, m_y0, .null),
  (79, .goto 6, 82, 85, 0, 0, m_y0, .null),
  (82, .iload_n 1, 83, 1, 0, 0, m_y0, .null),
  (83, .iload_n 3, 84, 3, 0, 0, m_y0, .null),
  (84, .irem, 85, 0, 0, 0, m_y0, .null),
  (85, .istore_n 1, 86, 1, 0, 0, m_y0, .null),
  (86, .aload_n 0, 87, 0, 0, 0, m_y0, .null),
  (87, .invokevirtual 169, 90, 1, 0, 1128, y_O_byteAt, .null),
  (90, .istore_n 2, 91, 2, 0, 0, m_y0, .null),
  (91, .goto (-81), 94, 10, 0, 0, m_y0, .null),
  (94, .iload_n 1, 95, 1, 0, 0, m_y0, .null),
  (95, .ireturn, 96, 0, 0, 0, m_y0, .null)])
set_option maxRecDepth 100000 in
theorem k1_O_product : MOk1 M_O_product := m_ok1_of (by decide +kernel)
set_option maxRecDepth 100000 in
theorem k2_O_product : MOk2 M_O_product := m_ok2_spec (p0 := 1123) (p1 := 77) (p2 := 1122) (p3 := 37) (by decide +kernel)
def M_O_nameOf : MD := (y_O_nameOf, prog_11_method_25_code, 1, (some .int), (0, 1, 9), [
  (0, .iload_n 0, 1, 0, 0, 0, m_y0, .null),
  (1, .lookupswitch 51 #[(107, 45), (112, 49), (119, 47), (121, 43)], 44, 43, 0, 0, m_y0, .null),
  (44, .iconst 0, 45, 0, 0, 0, m_y0, .int 0),
  (45, .ireturn, 46, 0, 0, 0, m_y0, .null),
  (46, .iconst 1, 47, 0, 0, 0, m_y0, .int 1),
  (47, .ireturn, 48, 0, 0, 0, m_y0, .null),
  (48, .iconst 2, 49, 0, 0, 0, m_y0, .int 2),
  (49, .ireturn, 50, 0, 0, 0, m_y0, .null),
  (50, .iconst 3, 51, 0, 0, 0, m_y0, .int 3),
  (51, .ireturn, 52, 0, 0, 0, m_y0, .null),
  (52, .iconst (-1), 53, 0, 0, 0, m_y0, .int (-1)),
  (53, .ireturn, 54, 0, 0, 0, m_y0, .null)])
set_option maxRecDepth 100000 in
theorem k1_O_nameOf : MOk1 M_O_nameOf := m_ok1_of (by decide +kernel)
set_option maxRecDepth 100000 in
theorem k2_O_nameOf : MOk2 M_O_nameOf := m_ok2_spec (p0 := 1142) (p1 := 77) (p2 := 1141) (p3 := 0) (by decide +kernel)
def M_O_one_0 : List (Nat × ME) := [
  (0, .aload_n 0, 1, 0, 0, 0, m_y0, .null),
  (1, .getfield 166, 4, 9, 17, 908, m_y0, .null),
  (4, .ifCond .lt 5, 7, 9, 0, 0, m_y0, .null),
  (7, .iconst 0, 8, 0, 0, 0, m_y0, .int 0),
  (8, .ireturn, 9, 0, 0, 0, m_y0, .null),
  (9, .aload_n 0, 10, 0, 0, 0, m_y0, .null),
  (10, .invokevirtual 169, 13, 1, 0, 1128, y_O_byteAt, .null),
  (13, .istore_n 1, 14, 1, 0, 0, m_y0, .null),
  (14, .iload_n 1, 15, 1, 0, 0, m_y0, .null),
  (15, .bipush 33, 17, 0, 0, 0, m_y0, .int 33),
  (17, .if_icmp .eq 15, 20, 32, 0, 0, m_y0, .null),
  (20, .iload_n 1, 21, 1, 0, 0, m_y0, .null),
  (21, .bipush 45, 23, 0, 0, 0, m_y0, .int 45),
  (23, .if_icmp .eq 9, 26, 32, 0, 0, m_y0, .null),
  (26, .iload_n 1, 27, 1, 0, 0, m_y0, .null),
  (27, .bipush 40, 29, 0, 0, 0, m_y0, .int 40),
  (29, .if_icmp .ne 116, 32, 145, 0, 0, m_y0, .null),
  (32, .aload_n 0, 33, 0, 0, 0, m_y0, .null),
  (33, .getfield 191, 36, 9, 18, 909, m_y0, .null),
  (36, .bipush 6, 38, 0, 0, 0, m_y0, .int 6),
  (38, .if_icmp .ne 8, 41, 46, 0, 0, m_y0, .null),
  (41, .aload_n 0, 42, 0, 0, 0, m_y0, .null),
  (42, .invokevirtual 194, 45, 1, 0, 1132, y_O_wrong, .null),
  (45, .ireturn, 46, 0, 0, 0, m_y0, .null),
  (46, .aload_n 0, 47, 0, 0, 0, m_y0, .null),
  (47, .dup, 48, 0, 0, 0, m_y0, .null),
  (48, .getfield 191, 51, 9, 18, 909, m_y0, .null),
  (51, .iconst 1, 52, 0, 0, 0, m_y0, .int 1),
  (52, .iadd, 53, 0, 0, 0, m_y0, .null),
  (53, .putfield 191, 56, 9, 18, 909, m_y0, .int 0),
  (56, .aload_n 0, 57, 0, 0, 0, m_y0, .null),
  (57, .dup, 58, 0, 0, 0, m_y0, .null),
  (58, .getfield 157, 61, 9, 15, 906, m_y0, .null),
  (61, .iconst 1, 62, 0, 0, 0, m_y0, .int 1),
  (62, .iadd, 63, 0, 0, 0, m_y0, .null),
  (63, .putfield 157, 66, 9, 15, 906, m_y0, .int 0),
  (66, .iload_n 1, 67, 1, 0, 0, m_y0, .null),
  (67, .bipush 40, 69, 0, 0, 0, m_y0, .int 40),
  (69, .if_icmp .ne 10, 72, 79, 0, 0, m_y0, .null),
  (72, .aload_n 0, 73, 0, 0, 0, m_y0, .null),
  (73, .invokevirtual 197, 76, 1, 0, 1104, y_O_either, .null),
  (76, .goto 7, 79, 83, 0, 0, m_y0, .null),
  (79, .aload_n 0, 80, 0, 0, 0, m_y0, .null),
  (80, .invokevirtual 188, 83, 1, 0, 1124, y_O_one, .null),
  (83, .istore_n 2, 84, 2, 0, 0, m_y0, .null),
  (84, .iload_n 1, 85, 1, 0, 0, m_y0, .null),
  (85, .bipush 40, 87, 0, 0, 0, m_y0, .int 40),
  (87, .if_icmp .ne 17, 90, 104, 0, 0, m_y0, .null),
  (90, .aload_n 0, 91, 0, 0, 0, m_y0, .null),
  (91, .bipush 41, 93, 0, 0, 0, m_y0, .int 41)]
def M_O_one_1 : List (Nat × ME) := [
  (93, .invokevirtual 176, 96, 2, 0, 1136, y_O_takes, .null),
  (96, .ifCond .ne 8, 99, 104, 0, 0, m_y0, .null),
  (99, .aload_n 0, 100, 0, 0, 0, m_y0, .null),
  (100, .invokevirtual 194, 103, 1, 0, 1132, y_O_wrong, .null),
  (103, .ireturn, 104, 0, 0, 0, m_y0, .null),
  (104, .aload_n 0, 105, 0, 0, 0, m_y0, .null),
  (105, .dup, 106, 0, 0, 0, m_y0, .null),
  (106, .getfield 191, 109, 9, 18, 909, m_y0, .null),
  (109, .iconst 1, 110, 0, 0, 0, m_y0, .int 1),
  (110, .isub, 111, 0, 0, 0, m_y0, .null),
  (111, .putfield 191, 114, 9, 18, 909, m_y0, .int 0),
  (114, .iload_n 1, 115, 1, 0, 0, m_y0, .null),
  (115, .bipush 40, 117, 0, 0, 0, m_y0, .int 40),
  (117, .if_icmp .ne 7, 120, 124, 0, 0, m_y0, .null),
  (120, .iload_n 2, 121, 2, 0, 0, m_y0, .null),
  (121, .goto 23, 124, 144, 0, 0, m_y0, .null),
  (124, .iload_n 1, 125, 1, 0, 0, m_y0, .null),
  (125, .bipush 45, 127, 0, 0, 0, m_y0, .int 45),
  (127, .if_icmp .ne 8, 130, 135, 0, 0, m_y0, .null),
  (130, .iload_n 2, 131, 2, 0, 0, m_y0, .null),
  (131, .ineg, 132, 0, 0, 0, m_y0, .null),
  (132, .goto 12, 135, 144, 0, 0, m_y0, .null),
  (135, .iload_n 2, 136, 2, 0, 0, m_y0, .null),
  (136, .ifCond .ne 7, 139, 143, 0, 0, m_y0, .null),
  (139, .iconst 1, 140, 0, 0, 0, m_y0, .int 1),
  (140, .goto 4, 143, 144, 0, 0, m_y0, .null),
  (143, .iconst 0, 144, 0, 0, 0, m_y0, .int 0),
  (144, .ireturn, 145, 0, 0, 0, m_y0, .null),
  (145, .iload_n 1, 146, 1, 0, 0, m_y0, .null),
  (146, .invokestatic 200, 149, 1, 0, 1140, y_O_nameOf, .null),
  (149, .istore_n 2, 150, 2, 0, 0, m_y0, .null),
  (150, .iload_n 2, 151, 2, 0, 0, m_y0, .null),
  (151, .ifCond .lt 20, 154, 171, 0, 0, m_y0, .null),
  (154, .aload_n 0, 155, 0, 0, 0, m_y0, .null),
  (155, .dup, 156, 0, 0, 0, m_y0, .null),
  (156, .getfield 157, 159, 9, 15, 906, m_y0, .null),
  (159, .iconst 1, 160, 0, 0, 0, m_y0, .int 1),
  (160, .iadd, 161, 0, 0, 0, m_y0, .null),
  (161, .putfield 157, 164, 9, 15, 906, m_y0, .int 0),
  (164, .aload_n 0, 165, 0, 0, 0, m_y0, .null),
  (165, .getfield 40, 168, 9, 19, 910, m_y0, .null),
  (168, .iload_n 2, 169, 2, 0, 0, m_y0, .null),
  (169, .iaload, 170, 0, 0, 0, m_y0, .null),
  (170, .ireturn, 171, 0, 0, 0, m_y0, .null),
  (171, .iconst 0, 172, 0, 0, 0, m_y0, .int 0),
  (172, .istore_n 3, 173, 3, 0, 0, m_y0, .null),
  (173, .iconst 0, 174, 0, 0, 0, m_y0, .int 0),
  (174, .istore 4, 176, 4, 0, 0, m_y0, .null),
  (176, .iload 4, 178, 4, 0, 0, m_y0, .null),
  (178, .iconst 4, 179, 0, 0, 0, m_y0, .int 4)]
def M_O_one_2 : List (Nat × ME) := [
  (179, .if_icmp .ge 50, 182, 229, 0, 0, m_y0, .null),
  (182, .aload_n 0, 183, 0, 0, 0, m_y0, .null),
  (183, .invokevirtual 169, 186, 1, 0, 1128, y_O_byteAt, .null),
  (186, .bipush 48, 188, 0, 0, 0, m_y0, .int 48),
  (188, .if_icmp .lt 41, 191, 229, 0, 0, m_y0, .null),
  (191, .aload_n 0, 192, 0, 0, 0, m_y0, .null),
  (192, .invokevirtual 169, 195, 1, 0, 1128, y_O_byteAt, .null),
  (195, .bipush 57, 197, 0, 0, 0, m_y0, .int 57),
  (197, .if_icmp .gt 32, 200, 229, 0, 0, m_y0, .null),
  (200, .bipush 10, 202, 0, 0, 0, m_y0, .int 10),
  (202, .iload_n 3, 203, 3, 0, 0, m_y0, .null),
  (203, .imul, 204, 0, 0, 0, m_y0, .null),
  (204, .aload_n 0, 205, 0, 0, 0, m_y0, .null),
  (205, .invokevirtual 169, 208, 1, 0, 1128, y_O_byteAt, .null),
  (208, .iadd, 209, 0, 0, 0, m_y0, .null),
  (209, .bipush 48, 211, 0, 0, 0, m_y0, .int 48),
  (211, .isub, 212, 0, 0, 0, m_y0, .null),
  (212, .istore_n 3, 213, 3, 0, 0, m_y0, .null),
  (213, .iinc 4 1, 216, 4, 0, 0, m_y0, .int 1),
  (216, .aload_n 0, 217, 0, 0, 0, m_y0, .null),
  (217, .dup, 218, 0, 0, 0, m_y0, .null),
  (218, .getfield 157, 221, 9, 15, 906, m_y0, .null),
  (221, .iconst 1, 222, 0, 0, 0, m_y0, .int 1),
  (222, .iadd, 223, 0, 0, 0, m_y0, .null),
  (223, .putfield 157, 226, 9, 15, 906, m_y0, .int 0),
  (226, .goto (-50), 229, 176, 0, 0, m_y0, .null),
  (229, .iload 4, 231, 4, 0, 0, m_y0, .null),
  (231, .ifCond .ne 10, 234, 241, 0, 0, m_y0, .null),
  (234, .aload_n 0, 235, 0, 0, 0, m_y0, .null),
  (235, .invokevirtual 194, 238, 1, 0, 1132, y_O_wrong, .null),
  (238, .goto 4, 241, 242, 0, 0, m_y0, .null),
  (241, .iload_n 3, 242, 3, 0, 0, m_y0, .null),
  (242, .ireturn, 243, 0, 0, 0, m_y0, .null)]
def M_O_one : MD := (y_O_one, prog_11_method_26_code, 5, (some .int), (1, 0, 9), M_O_one_0 ++ (M_O_one_1 ++ (M_O_one_2)))
set_option maxRecDepth 100000 in
theorem k1_O_one_0 : M_O_one_0.all (m_eok y_O_one prog_11_method_26_code 5) = true := by decide +kernel
set_option maxRecDepth 100000 in
theorem k1_O_one_1 : M_O_one_1.all (m_eok y_O_one prog_11_method_26_code 5) = true := by decide +kernel
set_option maxRecDepth 100000 in
theorem k1_O_one_2 : M_O_one_2.all (m_eok y_O_one prog_11_method_26_code 5) = true := by decide +kernel
theorem k1_O_one : MOk1 M_O_one := m_ok1_of (m_all_app k1_O_one_0 (m_all_app k1_O_one_1 k1_O_one_2))
set_option maxRecDepth 100000 in
theorem k2_O_one : MOk2 M_O_one := m_ok2_spec (p0 := 1127) (p1 := 77) (p2 := 1126) (p3 := 38) (by decide +kernel)
def M_O_workOut_0 : List (Nat × ME) := [
  (0, .aload_n 0, 1, 0, 0, 0, m_y0, .null),
  (1, .iload_n 1, 2, 1, 0, 0, m_y0, .null),
  (2, .putfield 163, 5, 9, 14, 905, m_y0, .int 0),
  (5, .aload_n 0, 6, 0, 0, 0, m_y0, .null),
  (6, .iconst 0, 7, 0, 0, 0, m_y0, .int 0),
  (7, .putfield 157, 10, 9, 15, 906, m_y0, .int 0),
  (10, .aload_n 0, 11, 0, 0, 0, m_y0, .null),
  (11, .iload_n 2, 12, 2, 0, 0, m_y0, .null),
  (12, .putfield 160, 15, 9, 16, 907, m_y0, .int 0),
  (15, .aload_n 0, 16, 0, 0, 0, m_y0, .null),
  (16, .iconst (-1), 17, 0, 0, 0, m_y0, .int (-1)),
  (17, .putfield 166, 20, 9, 17, 908, m_y0, .int 0),
  (20, .aload_n 0, 21, 0, 0, 0, m_y0, .null),
  (21, .iconst 0, 22, 0, 0, 0, m_y0, .int 0),
  (22, .putfield 191, 25, 9, 18, 909, m_y0, .int 0),
  (25, .iconst 0, 26, 0, 0, 0, m_y0, .int 0),
  (26, .istore_n 3, 27, 3, 0, 0, m_y0, .null),
  (27, .iconst 0, 28, 0, 0, 0, m_y0, .int 0),
  (28, .istore 4, 30, 4, 0, 0, m_y0, .null),
  (30, .iconst 1, 31, 0, 0, 0, m_y0, .int 1),
  (31, .istore 5, 33, 5, 0, 0, m_y0, .null),
  (33, .iload 5, 35, 5, 0, 0, m_y0, .null),
  (35, .ifCond .eq 72, 38, 107, 0, 0, m_y0, .null),
  (38, .aload_n 0, 39, 0, 0, 0, m_y0, .null),
  (39, .invokevirtual 197, 42, 1, 0, 1104, y_O_either, .null),
  (42, .istore 6, 44, 6, 0, 0, m_y0, .null),
  (44, .iconst 1, 45, 0, 0, 0, m_y0, .int 1),
  (45, .istore 7, 47, 7, 0, 0, m_y0, .null),
  (47, .aload_n 0, 48, 0, 0, 0, m_y0, .null),
  (48, .bipush 63, 50, 0, 0, 0, m_y0, .int 63),
  (50, .invokevirtual 176, 53, 2, 0, 1136, y_O_takes, .null),
  (53, .ifCond .eq 21, 56, 74, 0, 0, m_y0, .null),
  (56, .iload 6, 58, 6, 0, 0, m_y0, .null),
  (58, .ifCond .eq 7, 61, 65, 0, 0, m_y0, .null),
  (61, .iconst 1, 62, 0, 0, 0, m_y0, .int 1),
  (62, .goto 4, 65, 66, 0, 0, m_y0, .null),
  (65, .iconst 0, 66, 0, 0, 0, m_y0, .int 0),
  (66, .istore 7, 68, 7, 0, 0, m_y0, .null),
  (68, .aload_n 0, 69, 0, 0, 0, m_y0, .null),
  (69, .invokevirtual 197, 72, 1, 0, 1104, y_O_either, .null),
  (72, .istore 6, 74, 6, 0, 0, m_y0, .null),
  (74, .aload_n 0, 75, 0, 0, 0, m_y0, .null),
  (75, .getfield 166, 78, 9, 17, 908, m_y0, .null),
  (78, .ifCond .ge 18, 81, 96, 0, 0, m_y0, .null),
  (81, .iload 7, 83, 7, 0, 0, m_y0, .null),
  (83, .ifCond .eq 13, 86, 96, 0, 0, m_y0, .null),
  (86, .iload_n 3, 87, 3, 0, 0, m_y0, .null),
  (87, .ifCond .ne 9, 90, 96, 0, 0, m_y0, .null),
  (90, .iconst 1, 91, 0, 0, 0, m_y0, .int 1),
  (91, .istore_n 3, 92, 3, 0, 0, m_y0, .null)]
def M_O_workOut_1 : List (Nat × ME) := [
  (92, .iload 6, 94, 6, 0, 0, m_y0, .null),
  (94, .istore 4, 96, 4, 0, 0, m_y0, .null),
  (96, .aload_n 0, 97, 0, 0, 0, m_y0, .null),
  (97, .bipush 59, 99, 0, 0, 0, m_y0, .int 59),
  (99, .invokevirtual 176, 102, 2, 0, 1136, y_O_takes, .null),
  (102, .istore 5, 104, 5, 0, 0, m_y0, .null),
  (104, .goto (-71), 107, 33, 0, 0, m_y0, .null),
  (107, .aload_n 0, 108, 0, 0, 0, m_y0, .null),
  (108, .getfield 166, 111, 9, 17, 908, m_y0, .null),
  (111, .ifCond .ge 19, 114, 130, 0, 0, m_y0, .null),
  (114, .aload_n 0, 115, 0, 0, 0, m_y0, .null),
  (115, .getfield 157, 118, 9, 15, 906, m_y0, .null),
  (118, .aload_n 0, 119, 0, 0, 0, m_y0, .null),
  (119, .getfield 160, 122, 9, 16, 907, m_y0, .null),
  (122, .if_icmp .ge 8, 125, 130, 0, 0, m_y0, .null),
  (125, .aload_n 0, 126, 0, 0, 0, m_y0, .null),
  (126, .invokevirtual 194, 129, 1, 0, 1132, y_O_wrong, .null),
  (129, .ireturn, 130, 0, 0, 0, m_y0, .null),
  (130, .iload 4, 132, 4, 0, 0, m_y0, .null),
  (132, .ireturn, 133, 0, 0, 0, m_y0, .null)]
def M_O_workOut : MD := (y_O_workOut, prog_11_method_27_code, 8, (some .int), (1, 2, 9), M_O_workOut_0 ++ (M_O_workOut_1))
set_option maxRecDepth 100000 in
theorem k1_O_workOut_0 : M_O_workOut_0.all (m_eok y_O_workOut prog_11_method_27_code 8) = true := by decide +kernel
set_option maxRecDepth 100000 in
theorem k1_O_workOut_1 : M_O_workOut_1.all (m_eok y_O_workOut prog_11_method_27_code 8) = true := by decide +kernel
theorem k1_O_workOut : MOk1 M_O_workOut := m_ok1_of (m_all_app k1_O_workOut_0 k1_O_workOut_1)
set_option maxRecDepth 100000 in
theorem k2_O_workOut : MOk2 M_O_workOut := m_ok2_spec (p0 := 1103) (p1 := 77) (p2 := 1102) (p3 := 32) (by decide +kernel)
end
section
def M_O_law : MD := (y_O_law, prog_11_method_28_code, 5, (some .int), (1, 1, 9), [
  (0, .iload_n 1, 1, 1, 0, 0, m_y0, .null),
  (1, .invokestatic 129, 4, 1, 0, 1065, y_O_isMark, .null),
  (4, .ifCond .ne 5, 7, 9, 0, 0, m_y0, .null),
  (7, .iconst (-1), 8, 0, 0, 0, m_y0, .int (-1)),
  (8, .ireturn, 9, 0, 0, 0, m_y0, .null),
  (9, .aload_n 0, 10, 0, 0, 0, m_y0, .null),
  (10, .iconst (-1), 11, 0, 0, 0, m_y0, .int (-1)),
  (11, .aload_n 0, 12, 0, 0, 0, m_y0, .null),
  (12, .getfield 154, 15, 9, 11, 902, m_y0, .null),
  (15, .invokevirtual 204, 18, 3, 0, 1100, y_O_workOut, .null),
  (18, .istore_n 2, 19, 2, 0, 0, m_y0, .null),
  (19, .aload_n 0, 20, 0, 0, 0, m_y0, .null),
  (20, .getfield 154, 23, 9, 11, 902, m_y0, .null),
  (23, .istore_n 3, 24, 3, 0, 0, m_y0, .null),
  (24, .aload_n 0, 25, 0, 0, 0, m_y0, .null),
  (25, .iconst 0, 26, 0, 0, 0, m_y0, .int 0),
  (26, .putfield 154, 29, 9, 11, 902, m_y0, .int 0),
  (29, .aload_n 0, 30, 0, 0, 0, m_y0, .null),
  (30, .getfield 166, 33, 9, 17, 908, m_y0, .null),
  (33, .ifCond .lt 11, 36, 44, 0, 0, m_y0, .null),
  (36, .bipush (-100), 38, 0, 0, 0, m_y0, .int (-100)),
  (38, .aload_n 0, 39, 0, 0, 0, m_y0, .null),
  (39, .getfield 166, 42, 9, 17, 908, m_y0, .null),
  (42, .isub, 43, 0, 0, 0, m_y0, .null),
  (43, .ireturn, 44, 0, 0, 0, m_y0, .null),
  (44, .iconst 0, 45, 0, 0, 0, m_y0, .int 0),
  (45, .istore 4, 47, 4, 0, 0, m_y0, .null),
  (47, .iload 4, 49, 4, 0, 0, m_y0, .null),
  (49, .iload_n 3, 50, 3, 0, 0, m_y0, .null),
  (50, .if_icmp .ge 28, 53, 78, 0, 0, m_y0, .null),
  (53, .aload_n 0, 54, 0, 0, 0, m_y0, .null),
  (54, .getfield 34, 57, 9, 12, 903, m_y0, .null),
  (57, .bipush 120, 59, 0, 0, 0, m_y0, .int 120),
  (59, .iload_n 1, 60, 1, 0, 0, m_y0, .null),
  (60, .imul, 61, 0, 0, 0, m_y0, .null),
  (61, .iload 4, 63, 4, 0, 0, m_y0, .null),
  (63, .iadd, 64, 0, 0, 0, m_y0, .null),
  (64, .aload_n 0, 65, 0, 0, 0, m_y0, .null),
  (65, .getfield 31, 68, 9, 10, 901, m_y0, .null),
  (68, .iload 4, 70, 4, 0, 0, m_y0, .null),
  (70, .iaload, 71, 0, 0, 0, m_y0, .null),
  (71, .iastore, 72, 0, 0, 0, m_y0, .null),
  (72, .iinc 4 1, 75, 4, 0, 0, m_y0, .int 1),
  (75, .goto (-28), 78, 47, 0, 0, m_y0, .null),
  (78, .aload_n 0, 79, 0, 0, 0, m_y0, .null),
  (79, .getfield 37, 82, 9, 13, 904, m_y0, .null),
  (82, .iload_n 1, 83, 1, 0, 0, m_y0, .null),
  (83, .iload_n 3, 84, 3, 0, 0, m_y0, .null),
  (84, .iastore, 85, 0, 0, 0, m_y0, .null),
  (85, .iconst 1, 86, 0, 0, 0, m_y0, .int 1),
  (86, .ireturn, 87, 0, 0, 0, m_y0, .null)])
set_option maxRecDepth 100000 in
theorem k1_O_law : MOk1 M_O_law := m_ok1_of (by decide +kernel)
set_option maxRecDepth 100000 in
theorem k2_O_law : MOk2 M_O_law := m_ok2_spec (p0 := 1099) (p1 := 77) (p2 := 1097) (p3 := 1098) (by decide +kernel)
def M_O_numberOf : MD := (y_O_numberOf, prog_11_method_29_code, 6, (some .int), (1, 4, 9), [
  (0, .aload_n 0, 1, 0, 0, 0, m_y0, .null),
  (1, .getfield 37, 4, 9, 13, 904, m_y0, .null),
  (4, .iload_n 2, 5, 2, 0, 0, m_y0, .null),
  (5, .iaload, 6, 0, 0, 0, m_y0, .null),
  (6, .ifCond .ge 6, 9, 12, 0, 0, m_y0, .null),
  (9, .bipush 50, 11, 0, 0, 0, m_y0, .int 50),
  (11, .ireturn, 12, 0, 0, 0, m_y0, .null),
  (12, .aload_n 0, 13, 0, 0, 0, m_y0, .null),
  (13, .getfield 40, 16, 9, 19, 910, m_y0, .null),
  (16, .iconst 0, 17, 0, 0, 0, m_y0, .int 0),
  (17, .iload 4, 19, 4, 0, 0, m_y0, .null),
  (19, .iastore, 20, 0, 0, 0, m_y0, .null),
  (20, .aload_n 0, 21, 0, 0, 0, m_y0, .null),
  (21, .getfield 40, 24, 9, 19, 910, m_y0, .null),
  (24, .iconst 1, 25, 0, 0, 0, m_y0, .int 1),
  (25, .iload_n 3, 26, 3, 0, 0, m_y0, .null),
  (26, .iastore, 27, 0, 0, 0, m_y0, .null),
  (27, .aload_n 0, 28, 0, 0, 0, m_y0, .null),
  (28, .getfield 40, 31, 9, 19, 910, m_y0, .null),
  (31, .iconst 2, 32, 0, 0, 0, m_y0, .int 2),
  (32, .aload_n 0, 33, 0, 0, 0, m_y0, .null),
  (33, .getfield 22, 36, 9, 7, 898, m_y0, .null),
  (36, .iload_n 1, 37, 1, 0, 0, m_y0, .null),
  (37, .iaload, 38, 0, 0, 0, m_y0, .null),
  (38, .iastore, 39, 0, 0, 0, m_y0, .null),
  (39, .aload_n 0, 40, 0, 0, 0, m_y0, .null),
  (40, .getfield 40, 43, 9, 19, 910, m_y0, .null),
  (43, .iconst 3, 44, 0, 0, 0, m_y0, .int 3),
  (44, .aload_n 0, 45, 0, 0, 0, m_y0, .null),
  (45, .getfield 25, 48, 9, 8, 899, m_y0, .null),
  (48, .iload_n 1, 49, 1, 0, 0, m_y0, .null),
  (49, .iaload, 50, 0, 0, 0, m_y0, .null),
  (50, .iastore, 51, 0, 0, 0, m_y0, .null),
  (51, .aload_n 0, 52, 0, 0, 0, m_y0, .null),
  (52, .bipush 120, 54, 0, 0, 0, m_y0, .int 120),
  (54, .iload_n 2, 55, 2, 0, 0, m_y0, .null),
  (55, .imul, 56, 0, 0, 0, m_y0, .null),
  (56, .aload_n 0, 57, 0, 0, 0, m_y0, .null),
  (57, .getfield 37, 60, 9, 13, 904, m_y0, .null),
  (60, .iload_n 2, 61, 2, 0, 0, m_y0, .null),
  (61, .iaload, 62, 0, 0, 0, m_y0, .null),
  (62, .invokevirtual 204, 65, 3, 0, 1100, y_O_workOut, .null),
  (65, .istore 5, 67, 5, 0, 0, m_y0, .null),
  (67, .iload 5, 69, 5, 0, 0, m_y0, .null),
  (69, .ifCond .ge 7, 72, 76, 0, 0, m_y0, .null),
  (72, .iconst 0, 73, 0, 0, 0, m_y0, .int 0),
  (73, .goto 17, 76, 90, 0, 0, m_y0, .null),
  (76, .iload 5, 78, 5, 0, 0, m_y0, .null),
  (78, .bipush 100, 80, 0, 0, 0, m_y0, .int 100),
  (80, .if_icmp .le 8, 83, 88, 0, 0, m_y0, .null),
  (83, .bipush 100, 85, 0, 0, 0, m_y0, .int 100),
  (85, .goto 5, 88, 90, 0, 0, m_y0, .null),
  (88, .iload 5, 90, 5, 0, 0, m_y0, .null),
  (90, .ireturn, 91, 0, 0, 0, m_y0, .null)])
set_option maxRecDepth 100000 in
theorem k1_O_numberOf : MOk1 M_O_numberOf := m_ok1_of (by decide +kernel)
set_option maxRecDepth 100000 in
theorem k2_O_numberOf : MOk2 M_O_numberOf := m_ok2_spec (p0 := 1150) (p1 := 77) (p2 := 1149) (p3 := 42) (by decide +kernel)
def M_O_number : MD := (y_O_number, prog_11_method_30_code, 3, (some .int), (1, 2, 9), [
  (0, .aload_n 0, 1, 0, 0, 0, m_y0, .null),
  (1, .iload_n 1, 2, 1, 0, 0, m_y0, .null),
  (2, .invokevirtual 135, 5, 2, 0, 1072, y_O_isPm, .null),
  (5, .ifCond .eq 26, 8, 31, 0, 0, m_y0, .null),
  (8, .iload_n 2, 9, 2, 0, 0, m_y0, .null),
  (9, .ifCond .lt 22, 12, 31, 0, 0, m_y0, .null),
  (12, .iload_n 2, 13, 2, 0, 0, m_y0, .null),
  (13, .bipush 100, 15, 0, 0, 0, m_y0, .int 100),
  (15, .idiv, 16, 0, 0, 0, m_y0, .null),
  (16, .invokestatic 122, 19, 1, 0, 1058, y_O_isKind, .null),
  (19, .ifCond .eq 12, 22, 31, 0, 0, m_y0, .null),
  (22, .iload_n 2, 23, 2, 0, 0, m_y0, .null),
  (23, .bipush 100, 25, 0, 0, 0, m_y0, .int 100),
  (25, .irem, 26, 0, 0, 0, m_y0, .null),
  (26, .bipush 30, 28, 0, 0, 0, m_y0, .int 30),
  (28, .if_icmp .lt 5, 31, 33, 0, 0, m_y0, .null),
  (31, .iconst (-1), 32, 0, 0, 0, m_y0, .int (-1)),
  (32, .ireturn, 33, 0, 0, 0, m_y0, .null),
  (33, .aload_n 0, 34, 0, 0, 0, m_y0, .null),
  (34, .iload_n 1, 35, 1, 0, 0, m_y0, .null),
  (35, .bipush 10, 37, 0, 0, 0, m_y0, .int 10),
  (37, .idiv, 38, 0, 0, 0, m_y0, .null),
  (38, .iload_n 1, 39, 1, 0, 0, m_y0, .null),
  (39, .bipush 10, 41, 0, 0, 0, m_y0, .int 10),
  (41, .irem, 42, 0, 0, 0, m_y0, .null),
  (42, .iload_n 2, 43, 2, 0, 0, m_y0, .null),
  (43, .bipush 100, 45, 0, 0, 0, m_y0, .int 100),
  (45, .idiv, 46, 0, 0, 0, m_y0, .null),
  (46, .iload_n 2, 47, 2, 0, 0, m_y0, .null),
  (47, .bipush 100, 49, 0, 0, 0, m_y0, .int 100),
  (49, .irem, 50, 0, 0, 0, m_y0, .null),
  (50, .invokevirtual 207, 53, 5, 0, 1147, y_O_numberOf, .null),
  (53, .ireturn, 54, 0, 0, 0, m_y0, .null)])
set_option maxRecDepth 100000 in
theorem k1_O_number : MOk1 M_O_number := m_ok1_of (by decide +kernel)
set_option maxRecDepth 100000 in
theorem k2_O_number : MOk2 M_O_number := m_ok2_spec (p0 := 1146) (p1 := 77) (p2 := 1144) (p3 := 1145) (by decide +kernel)
def M_O_looksAt : MD := (y_O_looksAt, prog_11_method_31_code, 4, none, (1, 1, 9), [
  (0, .iconst 0, 1, 0, 0, 0, m_y0, .int 0),
  (1, .istore_n 2, 2, 2, 0, 0, m_y0, .null),
  (2, .iload_n 2, 3, 2, 0, 0, m_y0, .null),
  (3, .bipush 6, 5, 0, 0, 0, m_y0, .int 6),
  (5, .if_icmp .ge 67, 8, 72, 0, 0, m_y0, .null),
  (8, .iconst 0, 9, 0, 0, 0, m_y0, .int 0),
  (9, .istore_n 3, 10, 3, 0, 0, m_y0, .null),
  (10, .iload_n 3, 11, 3, 0, 0, m_y0, .null),
  (11, .sipush 180, 14, 0, 0, 0, m_y0, .int 180),
  (14, .if_icmp .ge 35, 17, 49, 0, 0, m_y0, .null),
  (17, .aload_n 0, 18, 0, 0, 0, m_y0, .null),
  (18, .getfield 43, 21, 9, 20, 911, m_y0, .null),
  (21, .sipush 180, 24, 0, 0, 0, m_y0, .int 180),
  (24, .iload_n 2, 25, 2, 0, 0, m_y0, .null),
  (25, .imul, 26, 0, 0, 0, m_y0, .null),
  (26, .iload_n 3, 27, 3, 0, 0, m_y0, .null),
  (27, .iadd, 28, 0, 0, 0, m_y0, .null),
  (28, .aload_n 0, 29, 0, 0, 0, m_y0, .null),
  (29, .iload_n 1, 30, 1, 0, 0, m_y0, .null),
  (30, .iload_n 2, 31, 2, 0, 0, m_y0, .null),
  (31, .iload_n 3, 32, 3, 0, 0, m_y0, .null),
  (32, .bipush 30, 34, 0, 0, 0, m_y0, .int 30),
  (34, .idiv, 35, 0, 0, 0, m_y0, .null),
  (35, .iload_n 3, 36, 3, 0, 0, m_y0, .null),
  (36, .bipush 30, 38, 0, 0, 0, m_y0, .int 30),
  (38, .irem, 39, 0, 0, 0, m_y0, .null),
  (39, .invokevirtual 207, 42, 5, 0, 1147, y_O_numberOf, .null),
  (42, .iastore, 43, 0, 0, 0, m_y0, .null),
  (43, .iinc 3 1, 46, 3, 0, 0, m_y0, .int 1),
  (46, .goto (-36), 49, 10, 0, 0, m_y0, .null),
  (49, .aload_n 0, 50, 0, 0, 0, m_y0, .null),
  (50, .getfield 46, 53, 9, 21, 912, m_y0, .null),
  (53, .iload_n 2, 54, 2, 0, 0, m_y0, .null),
  (54, .aload_n 0, 55, 0, 0, 0, m_y0, .null),
  (55, .getfield 28, 58, 9, 9, 900, m_y0, .null),
  (58, .bipush 6, 60, 0, 0, 0, m_y0, .int 6),
  (60, .iload_n 1, 61, 1, 0, 0, m_y0, .null),
  (61, .imul, 62, 0, 0, 0, m_y0, .null),
  (62, .iload_n 2, 63, 2, 0, 0, m_y0, .null),
  (63, .iadd, 64, 0, 0, 0, m_y0, .null),
  (64, .iaload, 65, 0, 0, 0, m_y0, .null),
  (65, .iastore, 66, 0, 0, 0, m_y0, .null),
  (66, .iinc 2 1, 69, 2, 0, 0, m_y0, .int 1),
  (69, .goto (-67), 72, 2, 0, 0, m_y0, .null),
  (72, .return_, 73, 0, 0, 0, m_y0, .null)])
set_option maxRecDepth 100000 in
theorem k1_O_looksAt : MOk1 M_O_looksAt := m_ok1_of (by decide +kernel)
set_option maxRecDepth 100000 in
theorem k2_O_looksAt : MOk2 M_O_looksAt := m_ok2_spec (p0 := 1167) (p1 := 77) (p2 := 1166) (p3 := 45) (by decide +kernel)
def M_O_weighs_0 : List (Nat × ME) := [
  (0, .aload_n 0, 1, 0, 0, 0, m_y0, .null),
  (1, .lconst 0, 2, 0, 0, 0, m_y0, .long 0),
  (2, .putfield 211, 5, 9, 24, 915, m_y0, .long 0),
  (5, .iconst 0, 6, 0, 0, 0, m_y0, .int 0),
  (6, .istore_n 1, 7, 1, 0, 0, m_y0, .null),
  (7, .iload_n 1, 8, 1, 0, 0, m_y0, .null),
  (8, .bipush 6, 10, 0, 0, 0, m_y0, .int 6),
  (10, .if_icmp .ge 16, 13, 26, 0, 0, m_y0, .null),
  (13, .aload_n 0, 14, 0, 0, 0, m_y0, .null),
  (14, .getfield 53, 17, 9, 23, 914, m_y0, .null),
  (17, .iload_n 1, 18, 1, 0, 0, m_y0, .null),
  (18, .lconst 0, 19, 0, 0, 0, m_y0, .long 0),
  (19, .lastore, 20, 0, 0, 0, m_y0, .null),
  (20, .iinc 1 1, 23, 1, 0, 0, m_y0, .int 1),
  (23, .goto (-16), 26, 7, 0, 0, m_y0, .null),
  (26, .iconst 0, 27, 0, 0, 0, m_y0, .int 0),
  (27, .istore_n 1, 28, 1, 0, 0, m_y0, .null),
  (28, .iload_n 1, 29, 1, 0, 0, m_y0, .null),
  (29, .sipush 180, 32, 0, 0, 0, m_y0, .int 180),
  (32, .if_icmp .ge 122, 35, 154, 0, 0, m_y0, .null),
  (35, .aload_n 0, 36, 0, 0, 0, m_y0, .null),
  (36, .getfield 9, 39, 9, 0, 891, m_y0, .null),
  (39, .iload_n 1, 40, 1, 0, 0, m_y0, .null),
  (40, .bipush 30, 42, 0, 0, 0, m_y0, .int 30),
  (42, .idiv, 43, 0, 0, 0, m_y0, .null),
  (43, .iaload, 44, 0, 0, 0, m_y0, .null),
  (44, .i2l, 45, 0, 0, 0, m_y0, .null),
  (45, .lstore_n 2, 46, 2, 0, 0, m_y0, .null),
  (46, .iconst 0, 47, 0, 0, 0, m_y0, .int 0),
  (47, .istore 4, 49, 4, 0, 0, m_y0, .null),
  (49, .iload 4, 51, 4, 0, 0, m_y0, .null),
  (51, .bipush 6, 53, 0, 0, 0, m_y0, .int 6),
  (53, .if_icmp .ge 65, 56, 118, 0, 0, m_y0, .null),
  (56, .aload_n 0, 57, 0, 0, 0, m_y0, .null),
  (57, .getfield 43, 60, 9, 20, 911, m_y0, .null),
  (60, .sipush 180, 63, 0, 0, 0, m_y0, .int 180),
  (63, .iload 4, 65, 4, 0, 0, m_y0, .null),
  (65, .imul, 66, 0, 0, 0, m_y0, .null),
  (66, .iload_n 1, 67, 1, 0, 0, m_y0, .null),
  (67, .iadd, 68, 0, 0, 0, m_y0, .null),
  (68, .iaload, 69, 0, 0, 0, m_y0, .null),
  (69, .istore 5, 71, 5, 0, 0, m_y0, .null),
  (71, .lload_n 2, 72, 2, 0, 0, m_y0, .null),
  (72, .aload_n 0, 73, 0, 0, 0, m_y0, .null),
  (73, .getfield 46, 76, 9, 21, 912, m_y0, .null),
  (76, .iload 4, 78, 4, 0, 0, m_y0, .null),
  (78, .iaload, 79, 0, 0, 0, m_y0, .null),
  (79, .ifCond .ne 7, 82, 86, 0, 0, m_y0, .null),
  (82, .lconst 1, 83, 0, 0, 0, m_y0, .long 1),
  (83, .goto 27, 86, 110, 0, 0, m_y0, .null)]
def M_O_weighs_1 : List (Nat × ME) := [
  (86, .aload_n 0, 87, 0, 0, 0, m_y0, .null),
  (87, .getfield 46, 90, 9, 21, 912, m_y0, .null),
  (90, .iload 4, 92, 4, 0, 0, m_y0, .null),
  (92, .iaload, 93, 0, 0, 0, m_y0, .null),
  (93, .iconst 1, 94, 0, 0, 0, m_y0, .int 1),
  (94, .if_icmp .ne 9, 97, 103, 0, 0, m_y0, .null),
  (97, .iload 5, 99, 5, 0, 0, m_y0, .null),
  (99, .i2l, 100, 0, 0, 0, m_y0, .null),
  (100, .goto 10, 103, 110, 0, 0, m_y0, .null),
  (103, .ldc2_w 215, 106, 0, 0, 1172, m_y0, .long 100),
  (106, .iload 5, 108, 5, 0, 0, m_y0, .null),
  (108, .i2l, 109, 0, 0, 0, m_y0, .null),
  (109, .lsub, 110, 0, 0, 0, m_y0, .null),
  (110, .lmul, 111, 0, 0, 0, m_y0, .null),
  (111, .lstore_n 2, 112, 2, 0, 0, m_y0, .null),
  (112, .iinc 4 1, 115, 4, 0, 0, m_y0, .int 1),
  (115, .goto (-66), 118, 49, 0, 0, m_y0, .null),
  (118, .aload_n 0, 119, 0, 0, 0, m_y0, .null),
  (119, .getfield 49, 122, 9, 22, 913, m_y0, .null),
  (122, .iload_n 1, 123, 1, 0, 0, m_y0, .null),
  (123, .lload_n 2, 124, 2, 0, 0, m_y0, .null),
  (124, .lastore, 125, 0, 0, 0, m_y0, .null),
  (125, .aload_n 0, 126, 0, 0, 0, m_y0, .null),
  (126, .getfield 53, 129, 9, 23, 914, m_y0, .null),
  (129, .iload_n 1, 130, 1, 0, 0, m_y0, .null),
  (130, .bipush 30, 132, 0, 0, 0, m_y0, .int 30),
  (132, .idiv, 133, 0, 0, 0, m_y0, .null),
  (133, .dup2, 134, 0, 0, 0, m_y0, .null),
  (134, .laload, 135, 0, 0, 0, m_y0, .null),
  (135, .lload_n 2, 136, 2, 0, 0, m_y0, .null),
  (136, .ladd, 137, 0, 0, 0, m_y0, .null),
  (137, .lastore, 138, 0, 0, 0, m_y0, .null),
  (138, .aload_n 0, 139, 0, 0, 0, m_y0, .null),
  (139, .dup, 140, 0, 0, 0, m_y0, .null),
  (140, .getfield 211, 143, 9, 24, 915, m_y0, .null),
  (143, .lload_n 2, 144, 2, 0, 0, m_y0, .null),
  (144, .ladd, 145, 0, 0, 0, m_y0, .null),
  (145, .putfield 211, 148, 9, 24, 915, m_y0, .long 0),
  (148, .iinc 1 1, 151, 1, 0, 0, m_y0, .int 1),
  (151, .goto (-123), 154, 28, 0, 0, m_y0, .null),
  (154, .return_, 155, 0, 0, 0, m_y0, .null)]
def M_O_weighs : MD := (y_O_weighs, prog_11_method_32_code, 6, none, (1, 0, 9), M_O_weighs_0 ++ (M_O_weighs_1))
set_option maxRecDepth 100000 in
theorem k1_O_weighs_0 : M_O_weighs_0.all (m_eok y_O_weighs prog_11_method_32_code 6) = true := by decide +kernel
set_option maxRecDepth 100000 in
theorem k1_O_weighs_1 : M_O_weighs_1.all (m_eok y_O_weighs prog_11_method_32_code 6) = true := by decide +kernel
theorem k1_O_weighs : MOk1 M_O_weighs := m_ok1_of (m_all_app k1_O_weighs_0 k1_O_weighs_1)
set_option maxRecDepth 100000 in
theorem k2_O_weighs : MOk2 M_O_weighs := m_ok2_spec (p0 := 1171) (p1 := 77) (p2 := 1170) (p3 := 46) (by decide +kernel)
def M_O_weighsPart : MD := (y_O_weighsPart, prog_11_method_33_code, 2, none, (1, 1, 9), [
  (0, .aload_n 0, 1, 0, 0, 0, m_y0, .null),
  (1, .iload_n 1, 2, 1, 0, 0, m_y0, .null),
  (2, .invokevirtual 217, 5, 2, 0, 1164, y_O_looksAt, .null),
  (5, .aload_n 0, 6, 0, 0, 0, m_y0, .null),
  (6, .invokevirtual 221, 9, 1, 0, 1168, y_O_weighs, .null),
  (9, .return_, 10, 0, 0, 0, m_y0, .null)])
set_option maxRecDepth 100000 in
theorem k1_O_weighsPart : MOk1 M_O_weighsPart := m_ok1_of (by decide +kernel)
set_option maxRecDepth 100000 in
theorem k2_O_weighsPart : MOk2 M_O_weighsPart := m_ok2_spec (p0 := 1163) (p1 := 77) (p2 := 1162) (p3 := 44) (by decide +kernel)
def M_O_mostOf : MD := (y_O_mostOf, prog_11_method_34_code, 3, (some .int), (1, 0, 9), [
  (0, .iconst 0, 1, 0, 0, 0, m_y0, .int 0),
  (1, .istore_n 1, 2, 1, 0, 0, m_y0, .null),
  (2, .iconst 1, 3, 0, 0, 0, m_y0, .int 1),
  (3, .istore_n 2, 4, 2, 0, 0, m_y0, .null),
  (4, .iload_n 2, 5, 2, 0, 0, m_y0, .null),
  (5, .bipush 6, 7, 0, 0, 0, m_y0, .int 6),
  (7, .if_icmp .ge 31, 10, 38, 0, 0, m_y0, .null),
  (10, .aload_n 0, 11, 0, 0, 0, m_y0, .null),
  (11, .getfield 53, 14, 9, 23, 914, m_y0, .null),
  (14, .iload_n 2, 15, 2, 0, 0, m_y0, .null),
  (15, .laload, 16, 0, 0, 0, m_y0, .null),
  (16, .aload_n 0, 17, 0, 0, 0, m_y0, .null),
  (17, .getfield 53, 20, 9, 23, 914, m_y0, .null),
  (20, .iload_n 1, 21, 1, 0, 0, m_y0, .null),
  (21, .laload, 22, 0, 0, 0, m_y0, .null),
  (22, .lcmp, 23, 0, 0, 0, m_y0, .null),
  (23, .ifCond .le 7, 26, 30, 0, 0, m_y0, .null),
  (26, .iload_n 2, 27, 2, 0, 0, m_y0, .null),
  (27, .goto 4, 30, 31, 0, 0, m_y0, .null),
  (30, .iload_n 1, 31, 1, 0, 0, m_y0, .null),
  (31, .istore_n 1, 32, 1, 0, 0, m_y0, .null),
  (32, .iinc 2 1, 35, 2, 0, 0, m_y0, .int 1),
  (35, .goto (-31), 38, 4, 0, 0, m_y0, .null),
  (38, .iload_n 1, 39, 1, 0, 0, m_y0, .null),
  (39, .ireturn, 40, 0, 0, 0, m_y0, .null)])
set_option maxRecDepth 100000 in
theorem k1_O_mostOf : MOk1 M_O_mostOf := m_ok1_of (by decide +kernel)
set_option maxRecDepth 100000 in
theorem k2_O_mostOf : MOk2 M_O_mostOf := m_ok2_spec (p0 := 1191) (p1 := 77) (p2 := 1190) (p3 := 48) (by decide +kernel)
def M_O_percentNow : MD := (y_O_percentNow, prog_11_method_35_code, 2, (some .int), (1, 1, 9), [
  (0, .aload_n 0, 1, 0, 0, 0, m_y0, .null),
  (1, .getfield 211, 4, 9, 24, 915, m_y0, .null),
  (4, .lconst 0, 5, 0, 0, 0, m_y0, .long 0),
  (5, .lcmp, 6, 0, 0, 0, m_y0, .null),
  (6, .ifCond .ne 7, 9, 13, 0, 0, m_y0, .null),
  (9, .iconst 0, 10, 0, 0, 0, m_y0, .int 0),
  (10, .goto 19, 13, 29, 0, 0, m_y0, .null),
  (13, .ldc2_w 215, 16, 0, 0, 1172, m_y0, .long 100),
  (16, .aload_n 0, 17, 0, 0, 0, m_y0, .null),
  (17, .getfield 53, 20, 9, 23, 914, m_y0, .null),
  (20, .iload_n 1, 21, 1, 0, 0, m_y0, .null),
  (21, .laload, 22, 0, 0, 0, m_y0, .null),
  (22, .lmul, 23, 0, 0, 0, m_y0, .null),
  (23, .aload_n 0, 24, 0, 0, 0, m_y0, .null),
  (24, .getfield 211, 27, 9, 24, 915, m_y0, .null),
  (27, .ldiv, 28, 0, 0, 0, m_y0, .null),
  (28, .l2i, 29, 0, 0, 0, m_y0, .null),
  (29, .ireturn, 30, 0, 0, 0, m_y0, .null)])
set_option maxRecDepth 100000 in
theorem k1_O_percentNow : MOk1 M_O_percentNow := m_ok1_of (by decide +kernel)
set_option maxRecDepth 100000 in
theorem k2_O_percentNow : MOk2 M_O_percentNow := m_ok2_spec (p0 := 1183) (p1 := 77) (p2 := 1182) (p3 := 47) (by decide +kernel)
def M_O_isPk : MD := (y_O_isPk, prog_11_method_36_code, 2, (some .boolean), (1, 1, 9), [
  (0, .iload_n 1, 1, 1, 0, 0, m_y0, .null),
  (1, .ifCond .lt 28, 4, 29, 0, 0, m_y0, .null),
  (4, .aload_n 0, 5, 0, 0, 0, m_y0, .null),
  (5, .iload_n 1, 6, 1, 0, 0, m_y0, .null),
  (6, .bipush 10, 8, 0, 0, 0, m_y0, .int 10),
  (8, .idiv, 9, 0, 0, 0, m_y0, .null),
  (9, .invokevirtual 132, 12, 2, 0, 1076, y_O_isPart, .null),
  (12, .ifCond .eq 17, 15, 29, 0, 0, m_y0, .null),
  (15, .iload_n 1, 16, 1, 0, 0, m_y0, .null),
  (16, .bipush 10, 18, 0, 0, 0, m_y0, .int 10),
  (18, .irem, 19, 0, 0, 0, m_y0, .null),
  (19, .invokestatic 122, 22, 1, 0, 1058, y_O_isKind, .null),
  (22, .ifCond .eq 7, 25, 29, 0, 0, m_y0, .null),
  (25, .iconst 1, 26, 0, 0, 0, m_y0, .int 1),
  (26, .goto 4, 29, 30, 0, 0, m_y0, .null),
  (29, .iconst 0, 30, 0, 0, 0, m_y0, .int 0),
  (30, .ireturn, 31, 0, 0, 0, m_y0, .null)])
set_option maxRecDepth 100000 in
theorem k1_O_isPk : MOk1 M_O_isPk := m_ok1_of (by decide +kernel)
set_option maxRecDepth 100000 in
theorem k2_O_isPk : MOk2 M_O_isPk := m_ok2_spec (p0 := 1158) (p1 := 77) (p2 := 1157) (p3 := 43) (by decide +kernel)
def M_O_common : MD := (y_O_common, prog_11_method_37_code, 10, (some .long), (0, 2, 9), [
  (0, .lload_n 0, 1, 0, 0, 0, m_y0, .null),
  (1, .lstore 4, 3, 4, 0, 0, m_y0, .null),
  (3, .lload_n 2, 4, 2, 0, 0, m_y0, .null),
  (4, .lstore 6, 6, 6, 0, 0, m_y0, .null),
  (6, .lload 6, 8, 6, 0, 0, m_y0, .null),
  (8, .lconst 0, 9, 0, 0, 0, m_y0, .long 0),
  (9, .lcmp, 10, 0, 0, 0, m_y0, .null),
  (10, .ifCond .eq 21, 13, 31, 0, 0, m_y0, .null),
  (13, .lload 4, 15, 4, 0, 0, m_y0, .null),
  (15, .lload 6, 17, 6, 0, 0, m_y0, .null),
  (17, .lrem, 18, 0, 0, 0, m_y0, .null),
  (18, .lstore 8, 20, 8, 0, 0, m_y0, .null),
  (20, .lload 6, 22, 6, 0, 0, m_y0, .null),
  (22, .lstore 4, 24, 4, 0, 0, m_y0, .null),
  (24, .lload 8, 26, 8, 0, 0, m_y0, .null),
  (26, .lstore 6, 28, 6, 0, 0, m_y0, .null),
  (28, .goto (-22), 31, 6, 0, 0, m_y0, .null),
  (31, .lload 4, 33, 4, 0, 0, m_y0, .null),
  (33, .lreturn, 34, 0, 0, 0, m_y0, .null)])
set_option maxRecDepth 100000 in
theorem k1_O_common : MOk1 M_O_common := m_ok1_of (by decide +kernel)
set_option maxRecDepth 100000 in
theorem k2_O_common : MOk2 M_O_common := m_ok2_spec (p0 := 1175) (p1 := 77) (p2 := 1174) (p3 := 0) (by decide +kernel)
def M_O_likely : MD := (y_O_likely, prog_11_method_38_code, 7, (some .long), (1, 2, 9), [
  (0, .aload_n 0, 1, 0, 0, 0, m_y0, .null),
  (1, .iload_n 1, 2, 1, 0, 0, m_y0, .null),
  (2, .invokevirtual 224, 5, 2, 0, 1155, y_O_isPk, .null),
  (5, .ifCond .eq 13, 8, 18, 0, 0, m_y0, .null),
  (8, .iload_n 2, 9, 2, 0, 0, m_y0, .null),
  (9, .i2l, 10, 0, 0, 0, m_y0, .null),
  (10, .lconst 0, 11, 0, 0, 0, m_y0, .long 0),
  (11, .lconst 1, 12, 0, 0, 0, m_y0, .long 1),
  (12, .invokestatic 102, 15, 3, 0, 1037, y_O_within, .null),
  (15, .ifCond .ne 7, 18, 22, 0, 0, m_y0, .null),
  (18, .ldc2_w 229, 21, 0, 0, 1159, m_y0, .long (-9223372036854775808)),
  (21, .lreturn, 22, 0, 0, 0, m_y0, .null),
  (22, .aload_n 0, 23, 0, 0, 0, m_y0, .null),
  (23, .iload_n 1, 24, 1, 0, 0, m_y0, .null),
  (24, .bipush 10, 26, 0, 0, 0, m_y0, .int 10),
  (26, .idiv, 27, 0, 0, 0, m_y0, .null),
  (27, .invokevirtual 231, 30, 2, 0, 1160, y_O_weighsPart, .null),
  (30, .aload_n 0, 31, 0, 0, 0, m_y0, .null),
  (31, .getfield 53, 34, 9, 23, 914, m_y0, .null),
  (34, .iload_n 1, 35, 1, 0, 0, m_y0, .null),
  (35, .bipush 10, 37, 0, 0, 0, m_y0, .int 10),
  (37, .irem, 38, 0, 0, 0, m_y0, .null),
  (38, .laload, 39, 0, 0, 0, m_y0, .null),
  (39, .lstore_n 3, 40, 3, 0, 0, m_y0, .null),
  (40, .lload_n 3, 41, 3, 0, 0, m_y0, .null),
  (41, .lconst 0, 42, 0, 0, 0, m_y0, .long 0),
  (42, .lcmp, 43, 0, 0, 0, m_y0, .null),
  (43, .ifCond .ne 6, 46, 49, 0, 0, m_y0, .null),
  (46, .iload_n 2, 47, 2, 0, 0, m_y0, .null),
  (47, .i2l, 48, 0, 0, 0, m_y0, .null),
  (48, .lreturn, 49, 0, 0, 0, m_y0, .null),
  (49, .lload_n 3, 50, 3, 0, 0, m_y0, .null),
  (50, .aload_n 0, 51, 0, 0, 0, m_y0, .null),
  (51, .getfield 211, 54, 9, 24, 915, m_y0, .null),
  (54, .invokestatic 234, 57, 2, 0, 1173, y_O_common, .null),
  (57, .lstore 5, 59, 5, 0, 0, m_y0, .null),
  (59, .iload_n 2, 60, 2, 0, 0, m_y0, .null),
  (60, .ifCond .ne 10, 63, 70, 0, 0, m_y0, .null),
  (63, .lload_n 3, 64, 3, 0, 0, m_y0, .null),
  (64, .lload 5, 66, 5, 0, 0, m_y0, .null),
  (66, .ldiv, 67, 0, 0, 0, m_y0, .null),
  (67, .goto 10, 70, 77, 0, 0, m_y0, .null),
  (70, .aload_n 0, 71, 0, 0, 0, m_y0, .null),
  (71, .getfield 211, 74, 9, 24, 915, m_y0, .null),
  (74, .lload 5, 76, 5, 0, 0, m_y0, .null),
  (76, .ldiv, 77, 0, 0, 0, m_y0, .null),
  (77, .lreturn, 78, 0, 0, 0, m_y0, .null)])
set_option maxRecDepth 100000 in
theorem k1_O_likely : MOk1 M_O_likely := m_ok1_of (by decide +kernel)
set_option maxRecDepth 100000 in
theorem k2_O_likely : MOk2 M_O_likely := m_ok2_spec (p0 := 1154) (p1 := 77) (p2 := 1152) (p3 := 1153) (by decide +kernel)
def M_O_percent : MD := (y_O_percent, prog_11_method_39_code, 2, (some .int), (1, 1, 9), [
  (0, .aload_n 0, 1, 0, 0, 0, m_y0, .null),
  (1, .iload_n 1, 2, 1, 0, 0, m_y0, .null),
  (2, .invokevirtual 224, 5, 2, 0, 1155, y_O_isPk, .null),
  (5, .ifCond .ne 5, 8, 10, 0, 0, m_y0, .null),
  (8, .iconst (-1), 9, 0, 0, 0, m_y0, .int (-1)),
  (9, .ireturn, 10, 0, 0, 0, m_y0, .null),
  (10, .aload_n 0, 11, 0, 0, 0, m_y0, .null),
  (11, .iload_n 1, 12, 1, 0, 0, m_y0, .null),
  (12, .bipush 10, 14, 0, 0, 0, m_y0, .int 10),
  (14, .idiv, 15, 0, 0, 0, m_y0, .null),
  (15, .invokevirtual 231, 18, 2, 0, 1160, y_O_weighsPart, .null),
  (18, .aload_n 0, 19, 0, 0, 0, m_y0, .null),
  (19, .iload_n 1, 20, 1, 0, 0, m_y0, .null),
  (20, .bipush 10, 22, 0, 0, 0, m_y0, .int 10),
  (22, .irem, 23, 0, 0, 0, m_y0, .null),
  (23, .invokevirtual 238, 26, 2, 0, 1180, y_O_percentNow, .null),
  (26, .ireturn, 27, 0, 0, 0, m_y0, .null)])
set_option maxRecDepth 100000 in
theorem k1_O_percent : MOk1 M_O_percent := m_ok1_of (by decide +kernel)
set_option maxRecDepth 100000 in
theorem k2_O_percent : MOk2 M_O_percent := m_ok2_spec (p0 := 1179) (p1 := 77) (p2 := 1177) (p3 := 1178) (by decide +kernel)
def M_O_likeliest : MD := (y_O_likeliest, prog_11_method_40_code, 2, (some .int), (1, 1, 9), [
  (0, .aload_n 0, 1, 0, 0, 0, m_y0, .null),
  (1, .iload_n 1, 2, 1, 0, 0, m_y0, .null),
  (2, .invokevirtual 132, 5, 2, 0, 1076, y_O_isPart, .null),
  (5, .ifCond .ne 5, 8, 10, 0, 0, m_y0, .null),
  (8, .iconst (-1), 9, 0, 0, 0, m_y0, .int (-1)),
  (9, .ireturn, 10, 0, 0, 0, m_y0, .null),
  (10, .aload_n 0, 11, 0, 0, 0, m_y0, .null),
  (11, .iload_n 1, 12, 1, 0, 0, m_y0, .null),
  (12, .invokevirtual 231, 15, 2, 0, 1160, y_O_weighsPart, .null),
  (15, .aload_n 0, 16, 0, 0, 0, m_y0, .null),
  (16, .getfield 211, 19, 9, 24, 915, m_y0, .null),
  (19, .lconst 0, 20, 0, 0, 0, m_y0, .long 0),
  (20, .lcmp, 21, 0, 0, 0, m_y0, .null),
  (21, .ifCond .ne 8, 24, 29, 0, 0, m_y0, .null),
  (24, .bipush (-2), 26, 0, 0, 0, m_y0, .int (-2)),
  (26, .goto 7, 29, 33, 0, 0, m_y0, .null),
  (29, .aload_n 0, 30, 0, 0, 0, m_y0, .null),
  (30, .invokevirtual 241, 33, 1, 0, 1188, y_O_mostOf, .null),
  (33, .ireturn, 34, 0, 0, 0, m_y0, .null)])
set_option maxRecDepth 100000 in
theorem k1_O_likeliest : MOk1 M_O_likeliest := m_ok1_of (by decide +kernel)
set_option maxRecDepth 100000 in
theorem k2_O_likeliest : MOk2 M_O_likeliest := m_ok2_spec (p0 := 1187) (p1 := 77) (p2 := 1185) (p3 := 1186) (by decide +kernel)
def M_O_whenNow : MD := (y_O_whenNow, prog_11_method_41_code, 4, (some .int), (1, 1, 9), [
  (0, .iconst 0, 1, 0, 0, 0, m_y0, .int 0),
  (1, .istore_n 2, 2, 2, 0, 0, m_y0, .null),
  (2, .iconst 1, 3, 0, 0, 0, m_y0, .int 1),
  (3, .istore_n 3, 4, 3, 0, 0, m_y0, .null),
  (4, .iload_n 3, 5, 3, 0, 0, m_y0, .null),
  (5, .bipush 30, 7, 0, 0, 0, m_y0, .int 30),
  (7, .if_icmp .ge 41, 10, 48, 0, 0, m_y0, .null),
  (10, .aload_n 0, 11, 0, 0, 0, m_y0, .null),
  (11, .getfield 49, 14, 9, 22, 913, m_y0, .null),
  (14, .bipush 30, 16, 0, 0, 0, m_y0, .int 30),
  (16, .iload_n 1, 17, 1, 0, 0, m_y0, .null),
  (17, .imul, 18, 0, 0, 0, m_y0, .null),
  (18, .iload_n 3, 19, 3, 0, 0, m_y0, .null),
  (19, .iadd, 20, 0, 0, 0, m_y0, .null),
  (20, .laload, 21, 0, 0, 0, m_y0, .null),
  (21, .aload_n 0, 22, 0, 0, 0, m_y0, .null),
  (22, .getfield 49, 25, 9, 22, 913, m_y0, .null),
  (25, .bipush 30, 27, 0, 0, 0, m_y0, .int 30),
  (27, .iload_n 1, 28, 1, 0, 0, m_y0, .null),
  (28, .imul, 29, 0, 0, 0, m_y0, .null),
  (29, .iload_n 2, 30, 2, 0, 0, m_y0, .null),
  (30, .iadd, 31, 0, 0, 0, m_y0, .null),
  (31, .laload, 32, 0, 0, 0, m_y0, .null),
  (32, .lcmp, 33, 0, 0, 0, m_y0, .null),
  (33, .ifCond .le 7, 36, 40, 0, 0, m_y0, .null),
  (36, .iload_n 3, 37, 3, 0, 0, m_y0, .null),
  (37, .goto 4, 40, 41, 0, 0, m_y0, .null),
  (40, .iload_n 2, 41, 2, 0, 0, m_y0, .null),
  (41, .istore_n 2, 42, 2, 0, 0, m_y0, .null),
  (42, .iinc 3 1, 45, 3, 0, 0, m_y0, .int 1),
  (45, .goto (-41), 48, 4, 0, 0, m_y0, .null),
  (48, .iload_n 2, 49, 2, 0, 0, m_y0, .null),
  (49, .ireturn, 50, 0, 0, 0, m_y0, .null)])
set_option maxRecDepth 100000 in
theorem k1_O_whenNow : MOk1 M_O_whenNow := m_ok1_of (by decide +kernel)
set_option maxRecDepth 100000 in
theorem k2_O_whenNow : MOk2 M_O_whenNow := m_ok2_spec (p0 := 1199) (p1 := 77) (p2 := 1198) (p3 := 49) (by decide +kernel)
def M_O_when_0 : List (Nat × ME) := [
  (0, .aload_n 0, 1, 0, 0, 0, m_y0, .null),
  (1, .iload_n 1, 2, 1, 0, 0, m_y0, .null),
  (2, .invokevirtual 224, 5, 2, 0, 1155, y_O_isPk, .null),
  (5, .ifCond .eq 15, 8, 20, 0, 0, m_y0, .null),
  (8, .iload_n 2, 9, 2, 0, 0, m_y0, .null),
  (9, .i2l, 10, 0, 0, 0, m_y0, .null),
  (10, .lconst 0, 11, 0, 0, 0, m_y0, .long 0),
  (11, .ldc2_w 138, 14, 0, 0, 1080, m_y0, .long 2),
  (14, .invokestatic 102, 17, 3, 0, 1037, y_O_within, .null),
  (17, .ifCond .ne 5, 20, 22, 0, 0, m_y0, .null),
  (20, .iconst (-1), 21, 0, 0, 0, m_y0, .int (-1)),
  (21, .ireturn, 22, 0, 0, 0, m_y0, .null),
  (22, .aload_n 0, 23, 0, 0, 0, m_y0, .null),
  (23, .iload_n 1, 24, 1, 0, 0, m_y0, .null),
  (24, .bipush 10, 26, 0, 0, 0, m_y0, .int 10),
  (26, .idiv, 27, 0, 0, 0, m_y0, .null),
  (27, .invokevirtual 231, 30, 2, 0, 1160, y_O_weighsPart, .null),
  (30, .iload_n 1, 31, 1, 0, 0, m_y0, .null),
  (31, .bipush 10, 33, 0, 0, 0, m_y0, .int 10),
  (33, .irem, 34, 0, 0, 0, m_y0, .null),
  (34, .istore_n 3, 35, 3, 0, 0, m_y0, .null),
  (35, .aload_n 0, 36, 0, 0, 0, m_y0, .null),
  (36, .getfield 53, 39, 9, 23, 914, m_y0, .null),
  (39, .iload_n 3, 40, 3, 0, 0, m_y0, .null),
  (40, .laload, 41, 0, 0, 0, m_y0, .null),
  (41, .lconst 0, 42, 0, 0, 0, m_y0, .long 0),
  (42, .lcmp, 43, 0, 0, 0, m_y0, .null),
  (43, .ifCond .ne 6, 46, 49, 0, 0, m_y0, .null),
  (46, .bipush (-2), 48, 0, 0, 0, m_y0, .int (-2)),
  (48, .ireturn, 49, 0, 0, 0, m_y0, .null),
  (49, .iconst (-1), 50, 0, 0, 0, m_y0, .int (-1)),
  (50, .istore 4, 52, 4, 0, 0, m_y0, .null),
  (52, .iconst (-1), 53, 0, 0, 0, m_y0, .int (-1)),
  (53, .istore 5, 55, 5, 0, 0, m_y0, .null),
  (55, .iconst 0, 56, 0, 0, 0, m_y0, .int 0),
  (56, .istore 6, 58, 6, 0, 0, m_y0, .null),
  (58, .iload 6, 60, 6, 0, 0, m_y0, .null),
  (60, .bipush 30, 62, 0, 0, 0, m_y0, .int 30),
  (62, .if_icmp .ge 44, 65, 106, 0, 0, m_y0, .null),
  (65, .aload_n 0, 66, 0, 0, 0, m_y0, .null),
  (66, .getfield 49, 69, 9, 22, 913, m_y0, .null),
  (69, .bipush 30, 71, 0, 0, 0, m_y0, .int 30),
  (71, .iload_n 3, 72, 3, 0, 0, m_y0, .null),
  (72, .imul, 73, 0, 0, 0, m_y0, .null),
  (73, .iload 6, 75, 6, 0, 0, m_y0, .null),
  (75, .iadd, 76, 0, 0, 0, m_y0, .null),
  (76, .laload, 77, 0, 0, 0, m_y0, .null),
  (77, .lconst 0, 78, 0, 0, 0, m_y0, .long 0),
  (78, .lcmp, 79, 0, 0, 0, m_y0, .null),
  (79, .ifCond .le 21, 82, 100, 0, 0, m_y0, .null)]
def M_O_when_1 : List (Nat × ME) := [
  (82, .iload 4, 84, 4, 0, 0, m_y0, .null),
  (84, .ifCond .ge 8, 87, 92, 0, 0, m_y0, .null),
  (87, .iload 6, 89, 6, 0, 0, m_y0, .null),
  (89, .goto 5, 92, 94, 0, 0, m_y0, .null),
  (92, .iload 4, 94, 4, 0, 0, m_y0, .null),
  (94, .istore 4, 96, 4, 0, 0, m_y0, .null),
  (96, .iload 6, 98, 6, 0, 0, m_y0, .null),
  (98, .istore 5, 100, 5, 0, 0, m_y0, .null),
  (100, .iinc 6 1, 103, 6, 0, 0, m_y0, .int 1),
  (103, .goto (-45), 106, 58, 0, 0, m_y0, .null),
  (106, .iload_n 2, 107, 2, 0, 0, m_y0, .null),
  (107, .ifCond .ne 11, 110, 118, 0, 0, m_y0, .null),
  (110, .aload_n 0, 111, 0, 0, 0, m_y0, .null),
  (111, .iload_n 3, 112, 3, 0, 0, m_y0, .null),
  (112, .invokevirtual 244, 115, 2, 0, 1196, y_O_whenNow, .null),
  (115, .goto 15, 118, 130, 0, 0, m_y0, .null),
  (118, .iload_n 2, 119, 2, 0, 0, m_y0, .null),
  (119, .iconst 1, 120, 0, 0, 0, m_y0, .int 1),
  (120, .if_icmp .ne 8, 123, 128, 0, 0, m_y0, .null),
  (123, .iload 4, 125, 4, 0, 0, m_y0, .null),
  (125, .goto 5, 128, 130, 0, 0, m_y0, .null),
  (128, .iload 5, 130, 5, 0, 0, m_y0, .null),
  (130, .ireturn, 131, 0, 0, 0, m_y0, .null)]
def M_O_when : MD := (y_O_when, prog_11_method_42_code, 7, (some .int), (1, 2, 9), M_O_when_0 ++ (M_O_when_1))
set_option maxRecDepth 100000 in
theorem k1_O_when_0 : M_O_when_0.all (m_eok y_O_when prog_11_method_42_code 7) = true := by decide +kernel
set_option maxRecDepth 100000 in
theorem k1_O_when_1 : M_O_when_1.all (m_eok y_O_when prog_11_method_42_code 7) = true := by decide +kernel
theorem k1_O_when : MOk1 M_O_when := m_ok1_of (m_all_app k1_O_when_0 k1_O_when_1)
set_option maxRecDepth 100000 in
theorem k2_O_when : MOk2 M_O_when := m_ok2_spec (p0 := 1195) (p1 := 77) (p2 := 1193) (p3 := 1194) (by decide +kernel)
def M_O_whole_0 : List (Nat × ME) := [
  (0, .iload_n 1, 1, 1, 0, 0, m_y0, .null),
  (1, .i2l, 2, 0, 0, 0, m_y0, .null),
  (2, .lconst 0, 3, 0, 0, 0, m_y0, .long 0),
  (3, .lconst 1, 4, 0, 0, 0, m_y0, .long 1),
  (4, .invokestatic 102, 7, 3, 0, 1037, y_O_within, .null),
  (7, .ifCond .ne 5, 10, 12, 0, 0, m_y0, .null),
  (10, .iconst (-1), 11, 0, 0, 0, m_y0, .int (-1)),
  (11, .ireturn, 12, 0, 0, 0, m_y0, .null),
  (12, .bipush 100, 14, 0, 0, 0, m_y0, .int 100),
  (14, .istore_n 2, 15, 2, 0, 0, m_y0, .null),
  (15, .lconst 1, 16, 0, 0, 0, m_y0, .long 1),
  (16, .lstore_n 3, 17, 3, 0, 0, m_y0, .null),
  (17, .lconst 0, 18, 0, 0, 0, m_y0, .long 0),
  (18, .lstore 5, 20, 5, 0, 0, m_y0, .null),
  (20, .lconst 1, 21, 0, 0, 0, m_y0, .long 1),
  (21, .lstore 7, 23, 7, 0, 0, m_y0, .null),
  (23, .iconst 0, 24, 0, 0, 0, m_y0, .int 0),
  (24, .istore 9, 26, 9, 0, 0, m_y0, .null),
  (26, .iload 9, 28, 9, 0, 0, m_y0, .null),
  (28, .aload_n 0, 29, 0, 0, 0, m_y0, .null),
  (29, .getfield 99, 32, 9, 6, 897, m_y0, .null),
  (32, .if_icmp .ge 61, 35, 93, 0, 0, m_y0, .null),
  (35, .aload_n 0, 36, 0, 0, 0, m_y0, .null),
  (36, .iload 9, 38, 9, 0, 0, m_y0, .null),
  (38, .invokevirtual 231, 41, 2, 0, 1160, y_O_weighsPart, .null),
  (41, .aload_n 0, 42, 0, 0, 0, m_y0, .null),
  (42, .iconst 0, 43, 0, 0, 0, m_y0, .int 0),
  (43, .invokevirtual 238, 46, 2, 0, 1180, y_O_percentNow, .null),
  (46, .istore 10, 48, 10, 0, 0, m_y0, .null),
  (48, .iload_n 2, 49, 2, 0, 0, m_y0, .null),
  (49, .iload 10, 51, 10, 0, 0, m_y0, .null),
  (51, .imul, 52, 0, 0, 0, m_y0, .null),
  (52, .bipush 100, 54, 0, 0, 0, m_y0, .int 100),
  (54, .idiv, 55, 0, 0, 0, m_y0, .null),
  (55, .istore_n 2, 56, 2, 0, 0, m_y0, .null),
  (56, .lload 5, 58, 5, 0, 0, m_y0, .null),
  (58, .iload 10, 60, 10, 0, 0, m_y0, .null),
  (60, .i2l, 61, 0, 0, 0, m_y0, .null),
  (61, .lmul, 62, 0, 0, 0, m_y0, .null),
  (62, .lload_n 3, 63, 3, 0, 0, m_y0, .null),
  (63, .bipush 100, 65, 0, 0, 0, m_y0, .int 100),
  (65, .iload 10, 67, 10, 0, 0, m_y0, .null),
  (67, .isub, 68, 0, 0, 0, m_y0, .null),
  (68, .i2l, 69, 0, 0, 0, m_y0, .null),
  (69, .lmul, 70, 0, 0, 0, m_y0, .null),
  (70, .ladd, 71, 0, 0, 0, m_y0, .null),
  (71, .lstore 5, 73, 5, 0, 0, m_y0, .null),
  (73, .lload_n 3, 74, 3, 0, 0, m_y0, .null),
  (74, .iload 10, 76, 10, 0, 0, m_y0, .null),
  (76, .i2l, 77, 0, 0, 0, m_y0, .null)]
def M_O_whole_1 : List (Nat × ME) := [
  (77, .lmul, 78, 0, 0, 0, m_y0, .null),
  (78, .lstore_n 3, 79, 3, 0, 0, m_y0, .null),
  (79, .lload 7, 81, 7, 0, 0, m_y0, .null),
  (81, .ldc2_w 215, 84, 0, 0, 1172, m_y0, .long 100),
  (84, .lmul, 85, 0, 0, 0, m_y0, .null),
  (85, .lstore 7, 87, 7, 0, 0, m_y0, .null),
  (87, .iinc 9 1, 90, 9, 0, 0, m_y0, .int 1),
  (90, .goto (-64), 93, 26, 0, 0, m_y0, .null),
  (93, .iload_n 1, 94, 1, 0, 0, m_y0, .null),
  (94, .ifCond .ne 5, 97, 99, 0, 0, m_y0, .null),
  (97, .iload_n 2, 98, 2, 0, 0, m_y0, .null),
  (98, .ireturn, 99, 0, 0, 0, m_y0, .null),
  (99, .aload_n 0, 100, 0, 0, 0, m_y0, .null),
  (100, .getfield 99, 103, 9, 6, 897, m_y0, .null),
  (103, .iconst 2, 104, 0, 0, 0, m_y0, .int 2),
  (104, .if_icmp .ge 7, 107, 111, 0, 0, m_y0, .null),
  (107, .iconst 0, 108, 0, 0, 0, m_y0, .int 0),
  (108, .goto 18, 111, 126, 0, 0, m_y0, .null),
  (111, .lload 7, 113, 7, 0, 0, m_y0, .null),
  (113, .lload_n 3, 114, 3, 0, 0, m_y0, .null),
  (114, .lsub, 115, 0, 0, 0, m_y0, .null),
  (115, .lload 5, 117, 5, 0, 0, m_y0, .null),
  (117, .lsub, 118, 0, 0, 0, m_y0, .null),
  (118, .lload 7, 120, 7, 0, 0, m_y0, .null),
  (120, .ldc2_w 247, 123, 0, 0, 1204, m_y0, .long 10000),
  (123, .ldiv, 124, 0, 0, 0, m_y0, .null),
  (124, .ldiv, 125, 0, 0, 0, m_y0, .null),
  (125, .l2i, 126, 0, 0, 0, m_y0, .null),
  (126, .ireturn, 127, 0, 0, 0, m_y0, .null)]
def M_O_whole : MD := (y_O_whole, prog_11_method_43_code, 11, (some .int), (1, 1, 9), M_O_whole_0 ++ (M_O_whole_1))
set_option maxRecDepth 100000 in
theorem k1_O_whole_0 : M_O_whole_0.all (m_eok y_O_whole prog_11_method_43_code 11) = true := by decide +kernel
set_option maxRecDepth 100000 in
theorem k1_O_whole_1 : M_O_whole_1.all (m_eok y_O_whole prog_11_method_43_code 11) = true := by decide +kernel
theorem k1_O_whole : MOk1 M_O_whole := m_ok1_of (m_all_app k1_O_whole_0 k1_O_whole_1)
set_option maxRecDepth 100000 in
theorem k2_O_whole : MOk2 M_O_whole := m_ok2_spec (p0 := 1203) (p1 := 77) (p2 := 1201) (p3 := 1202) (by decide +kernel)
def M_O_odd_0 : List (Nat × ME) := [
  (0, .iconst 0, 1, 0, 0, 0, m_y0, .int 0),
  (1, .istore_n 1, 2, 1, 0, 0, m_y0, .null),
  (2, .iconst 0, 3, 0, 0, 0, m_y0, .int 0),
  (3, .istore_n 2, 4, 2, 0, 0, m_y0, .null),
  (4, .iload_n 2, 5, 2, 0, 0, m_y0, .null),
  (5, .aload_n 0, 6, 0, 0, 0, m_y0, .null),
  (6, .getfield 99, 9, 9, 6, 897, m_y0, .null),
  (9, .if_icmp .ge 115, 12, 124, 0, 0, m_y0, .null),
  (12, .aload_n 0, 13, 0, 0, 0, m_y0, .null),
  (13, .iload_n 2, 14, 2, 0, 0, m_y0, .null),
  (14, .invokevirtual 231, 17, 2, 0, 1160, y_O_weighsPart, .null),
  (17, .aload_n 0, 18, 0, 0, 0, m_y0, .null),
  (18, .getfield 56, 21, 9, 25, 916, m_y0, .null),
  (21, .iload_n 2, 22, 2, 0, 0, m_y0, .null),
  (22, .aload_n 0, 23, 0, 0, 0, m_y0, .null),
  (23, .getfield 211, 26, 9, 24, 915, m_y0, .null),
  (26, .lconst 0, 27, 0, 0, 0, m_y0, .long 0),
  (27, .lcmp, 28, 0, 0, 0, m_y0, .null),
  (28, .ifCond .le 18, 31, 46, 0, 0, m_y0, .null),
  (31, .aload_n 0, 32, 0, 0, 0, m_y0, .null),
  (32, .invokevirtual 241, 35, 1, 0, 1188, y_O_mostOf, .null),
  (35, .ifCond .ne 11, 38, 46, 0, 0, m_y0, .null),
  (38, .aload_n 0, 39, 0, 0, 0, m_y0, .null),
  (39, .iconst 0, 40, 0, 0, 0, m_y0, .int 0),
  (40, .invokevirtual 244, 43, 2, 0, 1196, y_O_whenNow, .null),
  (43, .goto 4, 46, 47, 0, 0, m_y0, .null),
  (46, .iconst (-1), 47, 0, 0, 0, m_y0, .int (-1)),
  (47, .iastore, 48, 0, 0, 0, m_y0, .null),
  (48, .aload_n 0, 49, 0, 0, 0, m_y0, .null),
  (49, .getfield 56, 52, 9, 25, 916, m_y0, .null),
  (52, .iload_n 2, 53, 2, 0, 0, m_y0, .null),
  (53, .iaload, 54, 0, 0, 0, m_y0, .null),
  (54, .ifCond .ge 6, 57, 60, 0, 0, m_y0, .null),
  (57, .goto 61, 60, 118, 0, 0, m_y0, .null),
  (60, .iload_n 1, 61, 1, 0, 0, m_y0, .null),
  (61, .istore_n 3, 62, 3, 0, 0, m_y0, .null),
  (62, .iload_n 3, 63, 3, 0, 0, m_y0, .null),
  (63, .ifCond .le 40, 66, 103, 0, 0, m_y0, .null),
  (66, .aload_n 0, 67, 0, 0, 0, m_y0, .null),
  (67, .getfield 59, 70, 9, 26, 917, m_y0, .null),
  (70, .iload_n 3, 71, 3, 0, 0, m_y0, .null),
  (71, .iconst 1, 72, 0, 0, 0, m_y0, .int 1),
  (72, .isub, 73, 0, 0, 0, m_y0, .null),
  (73, .iaload, 74, 0, 0, 0, m_y0, .null),
  (74, .aload_n 0, 75, 0, 0, 0, m_y0, .null),
  (75, .getfield 56, 78, 9, 25, 916, m_y0, .null),
  (78, .iload_n 2, 79, 2, 0, 0, m_y0, .null),
  (79, .iaload, 80, 0, 0, 0, m_y0, .null),
  (80, .if_icmp .le 23, 83, 103, 0, 0, m_y0, .null),
  (83, .aload_n 0, 84, 0, 0, 0, m_y0, .null)]
def M_O_odd_1 : List (Nat × ME) := [
  (84, .getfield 59, 87, 9, 26, 917, m_y0, .null),
  (87, .iload_n 3, 88, 3, 0, 0, m_y0, .null),
  (88, .aload_n 0, 89, 0, 0, 0, m_y0, .null),
  (89, .getfield 59, 92, 9, 26, 917, m_y0, .null),
  (92, .iload_n 3, 93, 3, 0, 0, m_y0, .null),
  (93, .iconst 1, 94, 0, 0, 0, m_y0, .int 1),
  (94, .isub, 95, 0, 0, 0, m_y0, .null),
  (95, .iaload, 96, 0, 0, 0, m_y0, .null),
  (96, .iastore, 97, 0, 0, 0, m_y0, .null),
  (97, .iinc 3 (-1), 100, 3, 0, 0, m_y0, .int (-1)),
  (100, .goto (-38), 103, 62, 0, 0, m_y0, .null),
  (103, .aload_n 0, 104, 0, 0, 0, m_y0, .null),
  (104, .getfield 59, 107, 9, 26, 917, m_y0, .null),
  (107, .iload_n 3, 108, 3, 0, 0, m_y0, .null),
  (108, .aload_n 0, 109, 0, 0, 0, m_y0, .null),
  (109, .getfield 56, 112, 9, 25, 916, m_y0, .null),
  (112, .iload_n 2, 113, 2, 0, 0, m_y0, .null),
  (113, .iaload, 114, 0, 0, 0, m_y0, .null),
  (114, .iastore, 115, 0, 0, 0, m_y0, .null),
  (115, .iinc 1 1, 118, 1, 0, 0, m_y0, .int 1),
  (118, .iinc 2 1, 121, 2, 0, 0, m_y0, .int 1),
  (121, .goto (-117), 124, 4, 0, 0, m_y0, .null),
  (124, .iconst 0, 125, 0, 0, 0, m_y0, .int 0),
  (125, .istore_n 2, 126, 2, 0, 0, m_y0, .null),
  (126, .iconst 0, 127, 0, 0, 0, m_y0, .int 0),
  (127, .istore_n 3, 128, 3, 0, 0, m_y0, .null),
  (128, .iload_n 3, 129, 3, 0, 0, m_y0, .null),
  (129, .aload_n 0, 130, 0, 0, 0, m_y0, .null),
  (130, .getfield 99, 133, 9, 6, 897, m_y0, .null),
  (133, .if_icmp .ge 64, 136, 197, 0, 0, m_y0, .null),
  (136, .aload_n 0, 137, 0, 0, 0, m_y0, .null),
  (137, .getfield 56, 140, 9, 25, 916, m_y0, .null),
  (140, .iload_n 3, 141, 3, 0, 0, m_y0, .null),
  (141, .iaload, 142, 0, 0, 0, m_y0, .null),
  (142, .ifCond .ge 7, 145, 149, 0, 0, m_y0, .null),
  (145, .iconst 0, 146, 0, 0, 0, m_y0, .int 0),
  (146, .goto 20, 149, 166, 0, 0, m_y0, .null),
  (149, .aload_n 0, 150, 0, 0, 0, m_y0, .null),
  (150, .getfield 56, 153, 9, 25, 916, m_y0, .null),
  (153, .iload_n 3, 154, 3, 0, 0, m_y0, .null),
  (154, .iaload, 155, 0, 0, 0, m_y0, .null),
  (155, .aload_n 0, 156, 0, 0, 0, m_y0, .null),
  (156, .getfield 59, 159, 9, 26, 917, m_y0, .null),
  (159, .iload_n 1, 160, 1, 0, 0, m_y0, .null),
  (160, .iconst 1, 161, 0, 0, 0, m_y0, .int 1),
  (161, .isub, 162, 0, 0, 0, m_y0, .null),
  (162, .iconst 2, 163, 0, 0, 0, m_y0, .int 2),
  (163, .idiv, 164, 0, 0, 0, m_y0, .null),
  (164, .iaload, 165, 0, 0, 0, m_y0, .null),
  (165, .isub, 166, 0, 0, 0, m_y0, .null)]
def M_O_odd_2 : List (Nat × ME) := [
  (166, .istore 4, 168, 4, 0, 0, m_y0, .null),
  (168, .iload_n 2, 169, 2, 0, 0, m_y0, .null),
  (169, .iload 4, 171, 4, 0, 0, m_y0, .null),
  (171, .iconst 2, 172, 0, 0, 0, m_y0, .int 2),
  (172, .if_icmp .gt 10, 175, 182, 0, 0, m_y0, .null),
  (175, .iload 4, 177, 4, 0, 0, m_y0, .null),
  (177, .bipush (-2), 179, 0, 0, 0, m_y0, .int (-2)),
  (179, .if_icmp .ge 9, 182, 188, 0, 0, m_y0, .null),
  (182, .iconst 1, 183, 0, 0, 0, m_y0, .int 1),
  (183, .iload_n 3, 184, 3, 0, 0, m_y0, .null),
  (184, .ishl, 185, 0, 0, 0, m_y0, .null),
  (185, .goto 4, 188, 189, 0, 0, m_y0, .null),
  (188, .iconst 0, 189, 0, 0, 0, m_y0, .int 0),
  (189, .ior, 190, 0, 0, 0, m_y0, .null),
  (190, .istore_n 2, 191, 2, 0, 0, m_y0, .null),
  (191, .iinc 3 1, 194, 3, 0, 0, m_y0, .int 1),
  (194, .goto (-66), 197, 128, 0, 0, m_y0, .null),
  (197, .iload_n 2, 198, 2, 0, 0, m_y0, .null),
  (198, .ireturn, 199, 0, 0, 0, m_y0, .null)]
def M_O_odd : MD := (y_O_odd, prog_11_method_44_code, 5, (some .int), (1, 0, 9), M_O_odd_0 ++ (M_O_odd_1 ++ (M_O_odd_2)))
set_option maxRecDepth 100000 in
theorem k1_O_odd_0 : M_O_odd_0.all (m_eok y_O_odd prog_11_method_44_code 5) = true := by decide +kernel
set_option maxRecDepth 100000 in
theorem k1_O_odd_1 : M_O_odd_1.all (m_eok y_O_odd prog_11_method_44_code 5) = true := by decide +kernel
set_option maxRecDepth 100000 in
theorem k1_O_odd_2 : M_O_odd_2.all (m_eok y_O_odd prog_11_method_44_code 5) = true := by decide +kernel
theorem k1_O_odd : MOk1 M_O_odd := m_ok1_of (m_all_app k1_O_odd_0 (m_all_app k1_O_odd_1 k1_O_odd_2))
set_option maxRecDepth 100000 in
theorem k2_O_odd : MOk2 M_O_odd := m_ok2_spec (p0 := 1208) (p1 := 77) (p2 := 1206) (p3 := 1207) (by decide +kernel)
def M_O_next_0 : List (Nat × ME) := [
  (0, .aload_n 0, 1, 0, 0, 0, m_y0, .null),
  (1, .iload_n 1, 2, 1, 0, 0, m_y0, .null),
  (2, .invokevirtual 132, 5, 2, 0, 1076, y_O_isPart, .null),
  (5, .ifCond .ne 5, 8, 10, 0, 0, m_y0, .null),
  (8, .iconst (-1), 9, 0, 0, 0, m_y0, .int (-1)),
  (9, .ireturn, 10, 0, 0, 0, m_y0, .null),
  (10, .aload_n 0, 11, 0, 0, 0, m_y0, .null),
  (11, .iload_n 1, 12, 1, 0, 0, m_y0, .null),
  (12, .invokevirtual 231, 15, 2, 0, 1160, y_O_weighsPart, .null),
  (15, .bipush (-2), 17, 0, 0, 0, m_y0, .int (-2)),
  (17, .istore_n 2, 18, 2, 0, 0, m_y0, .null),
  (18, .lconst 0, 19, 0, 0, 0, m_y0, .long 0),
  (19, .lstore_n 3, 20, 3, 0, 0, m_y0, .null),
  (20, .iconst 0, 21, 0, 0, 0, m_y0, .int 0),
  (21, .istore 5, 23, 5, 0, 0, m_y0, .null),
  (23, .iload 5, 25, 5, 0, 0, m_y0, .null),
  (25, .bipush 6, 27, 0, 0, 0, m_y0, .int 6),
  (27, .if_icmp .ge 142, 30, 169, 0, 0, m_y0, .null),
  (30, .aload_n 0, 31, 0, 0, 0, m_y0, .null),
  (31, .getfield 46, 34, 9, 21, 912, m_y0, .null),
  (34, .iload 5, 36, 5, 0, 0, m_y0, .null),
  (36, .iaload, 37, 0, 0, 0, m_y0, .null),
  (37, .ifCond .eq 6, 40, 43, 0, 0, m_y0, .null),
  (40, .goto 123, 43, 163, 0, 0, m_y0, .null),
  (43, .lconst 0, 44, 0, 0, 0, m_y0, .long 0),
  (44, .lstore 6, 46, 6, 0, 0, m_y0, .null),
  (46, .lconst 0, 47, 0, 0, 0, m_y0, .long 0),
  (47, .lstore 8, 49, 8, 0, 0, m_y0, .null),
  (49, .iconst 0, 50, 0, 0, 0, m_y0, .int 0),
  (50, .istore 10, 52, 10, 0, 0, m_y0, .null),
  (52, .iload 10, 54, 10, 0, 0, m_y0, .null),
  (54, .sipush 180, 57, 0, 0, 0, m_y0, .int 180),
  (57, .if_icmp .ge 60, 60, 117, 0, 0, m_y0, .null),
  (60, .aload_n 0, 61, 0, 0, 0, m_y0, .null),
  (61, .getfield 43, 64, 9, 20, 911, m_y0, .null),
  (64, .sipush 180, 67, 0, 0, 0, m_y0, .int 180),
  (67, .iload 5, 69, 5, 0, 0, m_y0, .null),
  (69, .imul, 70, 0, 0, 0, m_y0, .null),
  (70, .iload 10, 72, 10, 0, 0, m_y0, .null),
  (72, .iadd, 73, 0, 0, 0, m_y0, .null),
  (73, .iaload, 74, 0, 0, 0, m_y0, .null),
  (74, .istore 11, 76, 11, 0, 0, m_y0, .null),
  (76, .lload 6, 78, 6, 0, 0, m_y0, .null),
  (78, .aload_n 0, 79, 0, 0, 0, m_y0, .null),
  (79, .getfield 49, 82, 9, 22, 913, m_y0, .null),
  (82, .iload 10, 84, 10, 0, 0, m_y0, .null),
  (84, .laload, 85, 0, 0, 0, m_y0, .null),
  (85, .iload 11, 87, 11, 0, 0, m_y0, .null),
  (87, .i2l, 88, 0, 0, 0, m_y0, .null),
  (88, .lmul, 89, 0, 0, 0, m_y0, .null)]
def M_O_next_1 : List (Nat × ME) := [
  (89, .ladd, 90, 0, 0, 0, m_y0, .null),
  (90, .lstore 6, 92, 6, 0, 0, m_y0, .null),
  (92, .lload 8, 94, 8, 0, 0, m_y0, .null),
  (94, .aload_n 0, 95, 0, 0, 0, m_y0, .null),
  (95, .getfield 49, 98, 9, 22, 913, m_y0, .null),
  (98, .iload 10, 100, 10, 0, 0, m_y0, .null),
  (100, .laload, 101, 0, 0, 0, m_y0, .null),
  (101, .bipush 100, 103, 0, 0, 0, m_y0, .int 100),
  (103, .iload 11, 105, 11, 0, 0, m_y0, .null),
  (105, .isub, 106, 0, 0, 0, m_y0, .null),
  (106, .i2l, 107, 0, 0, 0, m_y0, .null),
  (107, .lmul, 108, 0, 0, 0, m_y0, .null),
  (108, .ladd, 109, 0, 0, 0, m_y0, .null),
  (109, .lstore 8, 111, 8, 0, 0, m_y0, .null),
  (111, .iinc 10 1, 114, 10, 0, 0, m_y0, .int 1),
  (114, .goto (-62), 117, 52, 0, 0, m_y0, .null),
  (117, .lload 6, 119, 6, 0, 0, m_y0, .null),
  (119, .lload 8, 121, 8, 0, 0, m_y0, .null),
  (121, .lcmp, 122, 0, 0, 0, m_y0, .null),
  (122, .ifCond .le 8, 125, 130, 0, 0, m_y0, .null),
  (125, .lload 6, 127, 6, 0, 0, m_y0, .null),
  (127, .goto 5, 130, 132, 0, 0, m_y0, .null),
  (130, .lload 8, 132, 8, 0, 0, m_y0, .null),
  (132, .aload_n 0, 133, 0, 0, 0, m_y0, .null),
  (133, .getfield 9, 136, 9, 0, 891, m_y0, .null),
  (136, .bipush 12, 138, 0, 0, 0, m_y0, .int 12),
  (138, .iload 5, 140, 5, 0, 0, m_y0, .null),
  (140, .iadd, 141, 0, 0, 0, m_y0, .null),
  (141, .iaload, 142, 0, 0, 0, m_y0, .null),
  (142, .i2l, 143, 0, 0, 0, m_y0, .null),
  (143, .lmul, 144, 0, 0, 0, m_y0, .null),
  (144, .lstore 10, 146, 10, 0, 0, m_y0, .null),
  (146, .iload_n 2, 147, 2, 0, 0, m_y0, .null),
  (147, .ifCond .lt 10, 150, 157, 0, 0, m_y0, .null),
  (150, .lload 10, 152, 10, 0, 0, m_y0, .null),
  (152, .lload_n 3, 153, 3, 0, 0, m_y0, .null),
  (153, .lcmp, 154, 0, 0, 0, m_y0, .null),
  (154, .ifCond .ge 9, 157, 163, 0, 0, m_y0, .null),
  (157, .iload 5, 159, 5, 0, 0, m_y0, .null),
  (159, .istore_n 2, 160, 2, 0, 0, m_y0, .null),
  (160, .lload 10, 162, 10, 0, 0, m_y0, .null),
  (162, .lstore_n 3, 163, 3, 0, 0, m_y0, .null),
  (163, .iinc 5 1, 166, 5, 0, 0, m_y0, .int 1),
  (166, .goto (-143), 169, 23, 0, 0, m_y0, .null),
  (169, .iload_n 2, 170, 2, 0, 0, m_y0, .null),
  (170, .ireturn, 171, 0, 0, 0, m_y0, .null)]
def M_O_next : MD := (y_O_next, prog_11_method_45_code, 12, (some .int), (1, 1, 9), M_O_next_0 ++ (M_O_next_1))
set_option maxRecDepth 100000 in
theorem k1_O_next_0 : M_O_next_0.all (m_eok y_O_next prog_11_method_45_code 12) = true := by decide +kernel
set_option maxRecDepth 100000 in
theorem k1_O_next_1 : M_O_next_1.all (m_eok y_O_next prog_11_method_45_code 12) = true := by decide +kernel
theorem k1_O_next : MOk1 M_O_next := m_ok1_of (m_all_app k1_O_next_0 k1_O_next_1)
set_option maxRecDepth 100000 in
theorem k2_O_next : MOk2 M_O_next := m_ok2_spec (p0 := 1212) (p1 := 77) (p2 := 1210) (p3 := 1211) (by decide +kernel)
def M_O_unlooked : MD := (y_O_unlooked, prog_11_method_47_code, 4, (some .int), (1, 1, 9), [
  (0, .iconst 0, 1, 0, 0, 0, m_y0, .int 0),
  (1, .istore_n 2, 2, 2, 0, 0, m_y0, .null),
  (2, .iconst 0, 3, 0, 0, 0, m_y0, .int 0),
  (3, .istore_n 3, 4, 3, 0, 0, m_y0, .null),
  (4, .iload_n 3, 5, 3, 0, 0, m_y0, .null),
  (5, .bipush 6, 7, 0, 0, 0, m_y0, .int 6),
  (7, .if_icmp .ge 33, 10, 40, 0, 0, m_y0, .null),
  (10, .iload_n 2, 11, 2, 0, 0, m_y0, .null),
  (11, .aload_n 0, 12, 0, 0, 0, m_y0, .null),
  (12, .getfield 28, 15, 9, 9, 900, m_y0, .null),
  (15, .bipush 6, 17, 0, 0, 0, m_y0, .int 6),
  (17, .iload_n 1, 18, 1, 0, 0, m_y0, .null),
  (18, .imul, 19, 0, 0, 0, m_y0, .null),
  (19, .iload_n 3, 20, 3, 0, 0, m_y0, .null),
  (20, .iadd, 21, 0, 0, 0, m_y0, .null),
  (21, .iaload, 22, 0, 0, 0, m_y0, .null),
  (22, .ifCond .ne 9, 25, 31, 0, 0, m_y0, .null),
  (25, .iconst 1, 26, 0, 0, 0, m_y0, .int 1),
  (26, .iload_n 3, 27, 3, 0, 0, m_y0, .null),
  (27, .ishl, 28, 0, 0, 0, m_y0, .null),
  (28, .goto 4, 31, 32, 0, 0, m_y0, .null),
  (31, .iconst 0, 32, 0, 0, 0, m_y0, .int 0),
  (32, .ior, 33, 0, 0, 0, m_y0, .null),
  (33, .istore_n 2, 34, 2, 0, 0, m_y0, .null),
  (34, .iinc 3 1, 37, 3, 0, 0, m_y0, .int 1),
  (37, .goto (-33), 40, 4, 0, 0, m_y0, .null),
  (40, .iload_n 2, 41, 2, 0, 0, m_y0, .null),
  (41, .ireturn, 42, 0, 0, 0, m_y0, .null)])
set_option maxRecDepth 100000 in
theorem k1_O_unlooked : MOk1 M_O_unlooked := m_ok1_of (by decide +kernel)
set_option maxRecDepth 100000 in
theorem k2_O_unlooked : MOk2 M_O_unlooked := m_ok2_spec (p0 := 1221) (p1 := 77) (p2 := 1220) (p3 := 50) (by decide +kernel)
def M_O_namedBy_0 : List (Nat × ME) := [
  (0, .lconst 0, 1, 0, 0, 0, m_y0, .long 0),
  (1, .lstore 5, 3, 5, 0, 0, m_y0, .null),
  (3, .lload_n 3, 4, 3, 0, 0, m_y0, .null),
  (4, .lstore 7, 6, 7, 0, 0, m_y0, .null),
  (6, .iconst 0, 7, 0, 0, 0, m_y0, .int 0),
  (7, .istore 9, 9, 9, 0, 0, m_y0, .null),
  (9, .iload 9, 11, 9, 0, 0, m_y0, .null),
  (11, .bipush 6, 13, 0, 0, 0, m_y0, .int 6),
  (13, .if_icmp .ge 31, 16, 44, 0, 0, m_y0, .null),
  (16, .lload 7, 18, 7, 0, 0, m_y0, .null),
  (18, .iload_n 2, 19, 2, 0, 0, m_y0, .null),
  (19, .iload 9, 21, 9, 0, 0, m_y0, .null),
  (21, .ishr, 22, 0, 0, 0, m_y0, .null),
  (22, .iconst 1, 23, 0, 0, 0, m_y0, .int 1),
  (23, .iand, 24, 0, 0, 0, m_y0, .null),
  (24, .iconst 1, 25, 0, 0, 0, m_y0, .int 1),
  (25, .if_icmp .ne 9, 28, 34, 0, 0, m_y0, .null),
  (28, .ldc2_w 215, 31, 0, 0, 1172, m_y0, .long 100),
  (31, .goto 4, 34, 35, 0, 0, m_y0, .null),
  (34, .lconst 1, 35, 0, 0, 0, m_y0, .long 1),
  (35, .lmul, 36, 0, 0, 0, m_y0, .null),
  (36, .lstore 7, 38, 7, 0, 0, m_y0, .null),
  (38, .iinc 9 1, 41, 9, 0, 0, m_y0, .int 1),
  (41, .goto (-32), 44, 9, 0, 0, m_y0, .null),
  (44, .iload_n 2, 45, 2, 0, 0, m_y0, .null),
  (45, .istore 9, 47, 9, 0, 0, m_y0, .null),
  (47, .iconst 1, 48, 0, 0, 0, m_y0, .int 1),
  (48, .istore 10, 50, 10, 0, 0, m_y0, .null),
  (50, .iload 10, 52, 10, 0, 0, m_y0, .null),
  (52, .ifCond .eq 107, 55, 159, 0, 0, m_y0, .null),
  (55, .iconst 0, 56, 0, 0, 0, m_y0, .int 0),
  (56, .istore 11, 58, 11, 0, 0, m_y0, .null),
  (58, .iload 11, 60, 11, 0, 0, m_y0, .null),
  (60, .bipush 6, 62, 0, 0, 0, m_y0, .int 6),
  (62, .if_icmp .ge 56, 65, 118, 0, 0, m_y0, .null),
  (65, .aload_n 0, 66, 0, 0, 0, m_y0, .null),
  (66, .getfield 46, 69, 9, 21, 912, m_y0, .null),
  (69, .iload 11, 71, 11, 0, 0, m_y0, .null),
  (71, .iload_n 2, 72, 2, 0, 0, m_y0, .null),
  (72, .iload 11, 74, 11, 0, 0, m_y0, .null),
  (74, .ishr, 75, 0, 0, 0, m_y0, .null),
  (75, .iconst 1, 76, 0, 0, 0, m_y0, .int 1),
  (76, .iand, 77, 0, 0, 0, m_y0, .null),
  (77, .ifCond .ne 18, 80, 95, 0, 0, m_y0, .null),
  (80, .aload_n 0, 81, 0, 0, 0, m_y0, .null),
  (81, .getfield 28, 84, 9, 9, 900, m_y0, .null),
  (84, .bipush 6, 86, 0, 0, 0, m_y0, .int 6),
  (86, .iload_n 1, 87, 1, 0, 0, m_y0, .null),
  (87, .imul, 88, 0, 0, 0, m_y0, .null),
  (88, .iload 11, 90, 11, 0, 0, m_y0, .null)]
def M_O_namedBy_1 : List (Nat × ME) := [
  (90, .iadd, 91, 0, 0, 0, m_y0, .null),
  (91, .iaload, 92, 0, 0, 0, m_y0, .null),
  (92, .goto 19, 95, 111, 0, 0, m_y0, .null),
  (95, .iload 9, 97, 9, 0, 0, m_y0, .null),
  (97, .iload 11, 99, 11, 0, 0, m_y0, .null),
  (99, .ishr, 100, 0, 0, 0, m_y0, .null),
  (100, .iconst 1, 101, 0, 0, 0, m_y0, .int 1),
  (101, .iand, 102, 0, 0, 0, m_y0, .null),
  (102, .iconst 1, 103, 0, 0, 0, m_y0, .int 1),
  (103, .if_icmp .ne 7, 106, 110, 0, 0, m_y0, .null),
  (106, .iconst 1, 107, 0, 0, 0, m_y0, .int 1),
  (107, .goto 4, 110, 111, 0, 0, m_y0, .null),
  (110, .iconst 2, 111, 0, 0, 0, m_y0, .int 2),
  (111, .iastore, 112, 0, 0, 0, m_y0, .null),
  (112, .iinc 11 1, 115, 11, 0, 0, m_y0, .int 1),
  (115, .goto (-57), 118, 58, 0, 0, m_y0, .null),
  (118, .aload_n 0, 119, 0, 0, 0, m_y0, .null),
  (119, .invokevirtual 221, 122, 1, 0, 1168, y_O_weighs, .null),
  (122, .lload 5, 124, 5, 0, 0, m_y0, .null),
  (124, .aload_n 0, 125, 0, 0, 0, m_y0, .null),
  (125, .getfield 53, 128, 9, 23, 914, m_y0, .null),
  (128, .aload_n 0, 129, 0, 0, 0, m_y0, .null),
  (129, .invokevirtual 241, 132, 1, 0, 1188, y_O_mostOf, .null),
  (132, .laload, 133, 0, 0, 0, m_y0, .null),
  (133, .ladd, 134, 0, 0, 0, m_y0, .null),
  (134, .lstore 5, 136, 5, 0, 0, m_y0, .null),
  (136, .iload 9, 138, 9, 0, 0, m_y0, .null),
  (138, .ifCond .eq 7, 141, 145, 0, 0, m_y0, .null),
  (141, .iconst 1, 142, 0, 0, 0, m_y0, .int 1),
  (142, .goto 4, 145, 146, 0, 0, m_y0, .null),
  (145, .iconst 0, 146, 0, 0, 0, m_y0, .int 0),
  (146, .istore 10, 148, 10, 0, 0, m_y0, .null),
  (148, .iload 9, 150, 9, 0, 0, m_y0, .null),
  (150, .iconst 1, 151, 0, 0, 0, m_y0, .int 1),
  (151, .isub, 152, 0, 0, 0, m_y0, .null),
  (152, .iload_n 2, 153, 2, 0, 0, m_y0, .null),
  (153, .iand, 154, 0, 0, 0, m_y0, .null),
  (154, .istore 9, 156, 9, 0, 0, m_y0, .null),
  (156, .goto (-106), 159, 50, 0, 0, m_y0, .null),
  (159, .ldc2_w 249, 162, 0, 0, 1226, m_y0, .long 1000),
  (162, .lload 5, 164, 5, 0, 0, m_y0, .null),
  (164, .lmul, 165, 0, 0, 0, m_y0, .null),
  (165, .lload 7, 167, 7, 0, 0, m_y0, .null),
  (167, .ldiv, 168, 0, 0, 0, m_y0, .null),
  (168, .l2i, 169, 0, 0, 0, m_y0, .null),
  (169, .ireturn, 170, 0, 0, 0, m_y0, .null)]
def M_O_namedBy : MD := (y_O_namedBy, prog_11_method_48_code, 12, (some .int), (1, 3, 9), M_O_namedBy_0 ++ (M_O_namedBy_1))
set_option maxRecDepth 100000 in
theorem k1_O_namedBy_0 : M_O_namedBy_0.all (m_eok y_O_namedBy prog_11_method_48_code 12) = true := by decide +kernel
set_option maxRecDepth 100000 in
theorem k1_O_namedBy_1 : M_O_namedBy_1.all (m_eok y_O_namedBy prog_11_method_48_code 12) = true := by decide +kernel
theorem k1_O_namedBy : MOk1 M_O_namedBy := m_ok1_of (m_all_app k1_O_namedBy_0 k1_O_namedBy_1)
set_option maxRecDepth 100000 in
theorem k2_O_namedBy : MOk2 M_O_namedBy := m_ok2_spec (p0 := 1225) (p1 := 77) (p2 := 1224) (p3 := 51) (by decide +kernel)
def M_O_named : MD := (y_O_named, prog_11_method_49_code, 3, (some .int), (1, 2, 9), [
  (0, .aload_n 0, 1, 0, 0, 0, m_y0, .null),
  (1, .iload_n 1, 2, 1, 0, 0, m_y0, .null),
  (2, .invokevirtual 132, 5, 2, 0, 1076, y_O_isPart, .null),
  (5, .ifCond .eq 15, 8, 20, 0, 0, m_y0, .null),
  (8, .iload_n 2, 9, 2, 0, 0, m_y0, .null),
  (9, .i2l, 10, 0, 0, 0, m_y0, .null),
  (10, .lconst 0, 11, 0, 0, 0, m_y0, .long 0),
  (11, .ldc2_w 251, 14, 0, 0, 1217, m_y0, .long 63),
  (14, .invokestatic 102, 17, 3, 0, 1037, y_O_within, .null),
  (17, .ifCond .ne 5, 20, 22, 0, 0, m_y0, .null),
  (20, .iconst (-1), 21, 0, 0, 0, m_y0, .int (-1)),
  (21, .ireturn, 22, 0, 0, 0, m_y0, .null),
  (22, .aload_n 0, 23, 0, 0, 0, m_y0, .null),
  (23, .iload_n 1, 24, 1, 0, 0, m_y0, .null),
  (24, .invokevirtual 231, 27, 2, 0, 1160, y_O_weighsPart, .null),
  (27, .aload_n 0, 28, 0, 0, 0, m_y0, .null),
  (28, .getfield 211, 31, 9, 24, 915, m_y0, .null),
  (31, .lconst 0, 32, 0, 0, 0, m_y0, .long 0),
  (32, .lcmp, 33, 0, 0, 0, m_y0, .null),
  (33, .ifCond .ne 8, 36, 41, 0, 0, m_y0, .null),
  (36, .bipush (-2), 38, 0, 0, 0, m_y0, .int (-2)),
  (38, .goto 19, 41, 57, 0, 0, m_y0, .null),
  (41, .aload_n 0, 42, 0, 0, 0, m_y0, .null),
  (42, .iload_n 1, 43, 1, 0, 0, m_y0, .null),
  (43, .iload_n 2, 44, 2, 0, 0, m_y0, .null),
  (44, .aload_n 0, 45, 0, 0, 0, m_y0, .null),
  (45, .iload_n 1, 46, 1, 0, 0, m_y0, .null),
  (46, .invokevirtual 253, 49, 2, 0, 1218, y_O_unlooked, .null),
  (49, .iand, 50, 0, 0, 0, m_y0, .null),
  (50, .aload_n 0, 51, 0, 0, 0, m_y0, .null),
  (51, .getfield 211, 54, 9, 24, 915, m_y0, .null),
  (54, .invokevirtual 256, 57, 4, 0, 1222, y_O_namedBy, .null),
  (57, .ireturn, 58, 0, 0, 0, m_y0, .null)])
set_option maxRecDepth 100000 in
theorem k1_O_named : MOk1 M_O_named := m_ok1_of (by decide +kernel)
set_option maxRecDepth 100000 in
theorem k2_O_named : MOk2 M_O_named := m_ok2_spec (p0 := 1216) (p1 := 77) (p2 := 1214) (p3 := 1215) (by decide +kernel)
def M_O_minutesOf : MD := (y_O_minutesOf, prog_11_method_50_code, 4, (some .int), (1, 1, 9), [
  (0, .iconst 0, 1, 0, 0, 0, m_y0, .int 0),
  (1, .istore_n 2, 2, 2, 0, 0, m_y0, .null),
  (2, .iconst 0, 3, 0, 0, 0, m_y0, .int 0),
  (3, .istore_n 3, 4, 3, 0, 0, m_y0, .null),
  (4, .iload_n 3, 5, 3, 0, 0, m_y0, .null),
  (5, .bipush 6, 7, 0, 0, 0, m_y0, .int 6),
  (7, .if_icmp .ge 34, 10, 41, 0, 0, m_y0, .null),
  (10, .iload_n 2, 11, 2, 0, 0, m_y0, .null),
  (11, .iload_n 1, 12, 1, 0, 0, m_y0, .null),
  (12, .iload_n 3, 13, 3, 0, 0, m_y0, .null),
  (13, .ishr, 14, 0, 0, 0, m_y0, .null),
  (14, .iconst 1, 15, 0, 0, 0, m_y0, .int 1),
  (15, .iand, 16, 0, 0, 0, m_y0, .null),
  (16, .iconst 1, 17, 0, 0, 0, m_y0, .int 1),
  (17, .if_icmp .ne 15, 20, 32, 0, 0, m_y0, .null),
  (20, .aload_n 0, 21, 0, 0, 0, m_y0, .null),
  (21, .getfield 9, 24, 9, 0, 891, m_y0, .null),
  (24, .bipush 12, 26, 0, 0, 0, m_y0, .int 12),
  (26, .iload_n 3, 27, 3, 0, 0, m_y0, .null),
  (27, .iadd, 28, 0, 0, 0, m_y0, .null),
  (28, .iaload, 29, 0, 0, 0, m_y0, .null),
  (29, .goto 4, 32, 33, 0, 0, m_y0, .null),
  (32, .iconst 0, 33, 0, 0, 0, m_y0, .int 0),
  (33, .iadd, 34, 0, 0, 0, m_y0, .null),
  (34, .istore_n 2, 35, 2, 0, 0, m_y0, .null),
  (35, .iinc 3 1, 38, 3, 0, 0, m_y0, .int 1),
  (38, .goto (-34), 41, 4, 0, 0, m_y0, .null),
  (41, .iload_n 2, 42, 2, 0, 0, m_y0, .null),
  (42, .ireturn, 43, 0, 0, 0, m_y0, .null)])
set_option maxRecDepth 100000 in
theorem k1_O_minutesOf : MOk1 M_O_minutesOf := m_ok1_of (by decide +kernel)
set_option maxRecDepth 100000 in
theorem k2_O_minutesOf : MOk2 M_O_minutesOf := m_ok2_spec (p0 := 1235) (p1 := 77) (p2 := 1234) (p3 := 52) (by decide +kernel)
def M_O_plan_0 : List (Nat × ME) := [
  (0, .aload_n 0, 1, 0, 0, 0, m_y0, .null),
  (1, .iload_n 1, 2, 1, 0, 0, m_y0, .null),
  (2, .invokevirtual 132, 5, 2, 0, 1076, y_O_isPart, .null),
  (5, .ifCond .eq 15, 8, 20, 0, 0, m_y0, .null),
  (8, .iload_n 2, 9, 2, 0, 0, m_y0, .null),
  (9, .i2l, 10, 0, 0, 0, m_y0, .null),
  (10, .lconst 0, 11, 0, 0, 0, m_y0, .long 0),
  (11, .ldc2_w 260, 14, 0, 0, 1231, m_y0, .long 54),
  (14, .invokestatic 102, 17, 3, 0, 1037, y_O_within, .null),
  (17, .ifCond .ne 5, 20, 22, 0, 0, m_y0, .null),
  (20, .iconst (-1), 21, 0, 0, 0, m_y0, .int (-1)),
  (21, .ireturn, 22, 0, 0, 0, m_y0, .null),
  (22, .aload_n 0, 23, 0, 0, 0, m_y0, .null),
  (23, .iload_n 1, 24, 1, 0, 0, m_y0, .null),
  (24, .invokevirtual 231, 27, 2, 0, 1160, y_O_weighsPart, .null),
  (27, .aload_n 0, 28, 0, 0, 0, m_y0, .null),
  (28, .getfield 211, 31, 9, 24, 915, m_y0, .null),
  (31, .lconst 0, 32, 0, 0, 0, m_y0, .long 0),
  (32, .lcmp, 33, 0, 0, 0, m_y0, .null),
  (33, .ifCond .ne 6, 36, 39, 0, 0, m_y0, .null),
  (36, .bipush (-2), 38, 0, 0, 0, m_y0, .int (-2)),
  (38, .ireturn, 39, 0, 0, 0, m_y0, .null),
  (39, .aload_n 0, 40, 0, 0, 0, m_y0, .null),
  (40, .getfield 211, 43, 9, 24, 915, m_y0, .null),
  (43, .lstore_n 3, 44, 3, 0, 0, m_y0, .null),
  (44, .aload_n 0, 45, 0, 0, 0, m_y0, .null),
  (45, .iload_n 1, 46, 1, 0, 0, m_y0, .null),
  (46, .invokevirtual 253, 49, 2, 0, 1218, y_O_unlooked, .null),
  (49, .istore 5, 51, 5, 0, 0, m_y0, .null),
  (51, .iconst (-1), 52, 0, 0, 0, m_y0, .int (-1)),
  (52, .istore 6, 54, 6, 0, 0, m_y0, .null),
  (54, .iconst 0, 55, 0, 0, 0, m_y0, .int 0),
  (55, .istore 7, 57, 7, 0, 0, m_y0, .null),
  (57, .iconst 0, 58, 0, 0, 0, m_y0, .int 0),
  (58, .istore 8, 60, 8, 0, 0, m_y0, .null),
  (60, .iload 8, 62, 8, 0, 0, m_y0, .null),
  (62, .bipush 64, 64, 0, 0, 0, m_y0, .int 64),
  (64, .if_icmp .ge 84, 67, 148, 0, 0, m_y0, .null),
  (67, .iload 8, 69, 8, 0, 0, m_y0, .null),
  (69, .iload 5, 71, 5, 0, 0, m_y0, .null),
  (71, .iconst (-1), 72, 0, 0, 0, m_y0, .int (-1)),
  (72, .ixor, 73, 0, 0, 0, m_y0, .null),
  (73, .iand, 74, 0, 0, 0, m_y0, .null),
  (74, .ifCond .ne 68, 77, 142, 0, 0, m_y0, .null),
  (77, .aload_n 0, 78, 0, 0, 0, m_y0, .null),
  (78, .iload 8, 80, 8, 0, 0, m_y0, .null),
  (80, .invokevirtual 262, 83, 2, 0, 1232, y_O_minutesOf, .null),
  (83, .iload_n 2, 84, 2, 0, 0, m_y0, .null),
  (84, .if_icmp .le 6, 87, 90, 0, 0, m_y0, .null),
  (87, .goto 55, 90, 142, 0, 0, m_y0, .null)]
def M_O_plan_1 : List (Nat × ME) := [
  (90, .aload_n 0, 91, 0, 0, 0, m_y0, .null),
  (91, .iload_n 1, 92, 1, 0, 0, m_y0, .null),
  (92, .iload 8, 94, 8, 0, 0, m_y0, .null),
  (94, .lload_n 3, 95, 3, 0, 0, m_y0, .null),
  (95, .invokevirtual 256, 98, 4, 0, 1222, y_O_namedBy, .null),
  (98, .istore 9, 100, 9, 0, 0, m_y0, .null),
  (100, .iload 6, 102, 6, 0, 0, m_y0, .null),
  (102, .ifCond .lt 32, 105, 134, 0, 0, m_y0, .null),
  (105, .iload 9, 107, 9, 0, 0, m_y0, .null),
  (107, .iload 7, 109, 7, 0, 0, m_y0, .null),
  (109, .if_icmp .gt 25, 112, 134, 0, 0, m_y0, .null),
  (112, .iload 9, 114, 9, 0, 0, m_y0, .null),
  (114, .iload 7, 116, 7, 0, 0, m_y0, .null),
  (116, .if_icmp .ne 26, 119, 142, 0, 0, m_y0, .null),
  (119, .aload_n 0, 120, 0, 0, 0, m_y0, .null),
  (120, .iload 8, 122, 8, 0, 0, m_y0, .null),
  (122, .invokevirtual 262, 125, 2, 0, 1232, y_O_minutesOf, .null),
  (125, .aload_n 0, 126, 0, 0, 0, m_y0, .null),
  (126, .iload 6, 128, 6, 0, 0, m_y0, .null),
  (128, .invokevirtual 262, 131, 2, 0, 1232, y_O_minutesOf, .null),
  (131, .if_icmp .ge 11, 134, 142, 0, 0, m_y0, .null),
  (134, .iload 8, 136, 8, 0, 0, m_y0, .null),
  (136, .istore 6, 138, 6, 0, 0, m_y0, .null),
  (138, .iload 9, 140, 9, 0, 0, m_y0, .null),
  (140, .istore 7, 142, 7, 0, 0, m_y0, .null),
  (142, .iinc 8 1, 145, 8, 0, 0, m_y0, .int 1),
  (145, .goto (-85), 148, 60, 0, 0, m_y0, .null),
  (148, .iload 6, 150, 6, 0, 0, m_y0, .null),
  (150, .ireturn, 151, 0, 0, 0, m_y0, .null)]
def M_O_plan : MD := (y_O_plan, prog_11_method_51_code, 10, (some .int), (1, 2, 9), M_O_plan_0 ++ (M_O_plan_1))
set_option maxRecDepth 100000 in
theorem k1_O_plan_0 : M_O_plan_0.all (m_eok y_O_plan prog_11_method_51_code 10) = true := by decide +kernel
set_option maxRecDepth 100000 in
theorem k1_O_plan_1 : M_O_plan_1.all (m_eok y_O_plan prog_11_method_51_code 10) = true := by decide +kernel
theorem k1_O_plan : MOk1 M_O_plan := m_ok1_of (m_all_app k1_O_plan_0 k1_O_plan_1)
set_option maxRecDepth 100000 in
theorem k2_O_plan : MOk2 M_O_plan := m_ok2_spec (p0 := 1230) (p1 := 77) (p2 := 1228) (p3 := 1229) (by decide +kernel)
def M_O_believedBy : MD := (y_O_believedBy, prog_11_method_52_code, 3, (some .int), (1, 1, 9), [
  (0, .iconst 0, 1, 0, 0, 0, m_y0, .int 0),
  (1, .istore_n 2, 2, 2, 0, 0, m_y0, .null),
  (2, .iload_n 2, 3, 2, 0, 0, m_y0, .null),
  (3, .bipush 6, 5, 0, 0, 0, m_y0, .int 6),
  (5, .if_icmp .ge 29, 8, 34, 0, 0, m_y0, .null),
  (8, .aload_n 0, 9, 0, 0, 0, m_y0, .null),
  (9, .getfield 46, 12, 9, 21, 912, m_y0, .null),
  (12, .iload_n 2, 13, 2, 0, 0, m_y0, .null),
  (13, .iload_n 1, 14, 1, 0, 0, m_y0, .null),
  (14, .iload_n 2, 15, 2, 0, 0, m_y0, .null),
  (15, .ishr, 16, 0, 0, 0, m_y0, .null),
  (16, .iconst 1, 17, 0, 0, 0, m_y0, .int 1),
  (17, .iand, 18, 0, 0, 0, m_y0, .null),
  (18, .iconst 1, 19, 0, 0, 0, m_y0, .int 1),
  (19, .if_icmp .ne 7, 22, 26, 0, 0, m_y0, .null),
  (22, .iconst 1, 23, 0, 0, 0, m_y0, .int 1),
  (23, .goto 4, 26, 27, 0, 0, m_y0, .null),
  (26, .iconst 2, 27, 0, 0, 0, m_y0, .int 2),
  (27, .iastore, 28, 0, 0, 0, m_y0, .null),
  (28, .iinc 2 1, 31, 2, 0, 0, m_y0, .int 1),
  (31, .goto (-29), 34, 2, 0, 0, m_y0, .null),
  (34, .aload_n 0, 35, 0, 0, 0, m_y0, .null),
  (35, .invokevirtual 221, 38, 1, 0, 1168, y_O_weighs, .null),
  (38, .aload_n 0, 39, 0, 0, 0, m_y0, .null),
  (39, .iconst 0, 40, 0, 0, 0, m_y0, .int 0),
  (40, .invokevirtual 238, 43, 2, 0, 1180, y_O_percentNow, .null),
  (43, .ireturn, 44, 0, 0, 0, m_y0, .null)])
set_option maxRecDepth 100000 in
theorem k1_O_believedBy : MOk1 M_O_believedBy := m_ok1_of (by decide +kernel)
set_option maxRecDepth 100000 in
theorem k2_O_believedBy : MOk2 M_O_believedBy := m_ok2_spec (p0 := 1243) (p1 := 77) (p2 := 1242) (p3 := 53) (by decide +kernel)
def M_O_believed : MD := (y_O_believed, prog_11_method_53_code, 3, (some .int), (1, 2, 9), [
  (0, .aload_n 0, 1, 0, 0, 0, m_y0, .null),
  (1, .iload_n 1, 2, 1, 0, 0, m_y0, .null),
  (2, .invokevirtual 132, 5, 2, 0, 1076, y_O_isPart, .null),
  (5, .ifCond .eq 15, 8, 20, 0, 0, m_y0, .null),
  (8, .iload_n 2, 9, 2, 0, 0, m_y0, .null),
  (9, .i2l, 10, 0, 0, 0, m_y0, .null),
  (10, .lconst 0, 11, 0, 0, 0, m_y0, .long 0),
  (11, .ldc2_w 251, 14, 0, 0, 1217, m_y0, .long 63),
  (14, .invokestatic 102, 17, 3, 0, 1037, y_O_within, .null),
  (17, .ifCond .ne 5, 20, 22, 0, 0, m_y0, .null),
  (20, .iconst (-1), 21, 0, 0, 0, m_y0, .int (-1)),
  (21, .ireturn, 22, 0, 0, 0, m_y0, .null),
  (22, .aload_n 0, 23, 0, 0, 0, m_y0, .null),
  (23, .iload_n 1, 24, 1, 0, 0, m_y0, .null),
  (24, .invokevirtual 217, 27, 2, 0, 1164, y_O_looksAt, .null),
  (27, .aload_n 0, 28, 0, 0, 0, m_y0, .null),
  (28, .iload_n 2, 29, 2, 0, 0, m_y0, .null),
  (29, .invokevirtual 265, 32, 2, 0, 1240, y_O_believedBy, .null),
  (32, .ireturn, 33, 0, 0, 0, m_y0, .null)])
set_option maxRecDepth 100000 in
theorem k1_O_believed : MOk1 M_O_believed := m_ok1_of (by decide +kernel)
set_option maxRecDepth 100000 in
theorem k2_O_believed : MOk2 M_O_believed := m_ok2_spec (p0 := 1239) (p1 := 77) (p2 := 1237) (p3 := 1238) (by decide +kernel)
def M_O_costOf : MD := (y_O_costOf, prog_11_method_54_code, 4, (some .int), (1, 1, 9), [
  (0, .iconst 0, 1, 0, 0, 0, m_y0, .int 0),
  (1, .istore_n 2, 2, 2, 0, 0, m_y0, .null),
  (2, .iconst 0, 3, 0, 0, 0, m_y0, .int 0),
  (3, .istore_n 3, 4, 3, 0, 0, m_y0, .null),
  (4, .iload_n 3, 5, 3, 0, 0, m_y0, .null),
  (5, .bipush 6, 7, 0, 0, 0, m_y0, .int 6),
  (7, .if_icmp .ge 34, 10, 41, 0, 0, m_y0, .null),
  (10, .iload_n 2, 11, 2, 0, 0, m_y0, .null),
  (11, .iload_n 1, 12, 1, 0, 0, m_y0, .null),
  (12, .iload_n 3, 13, 3, 0, 0, m_y0, .null),
  (13, .ishr, 14, 0, 0, 0, m_y0, .null),
  (14, .iconst 1, 15, 0, 0, 0, m_y0, .int 1),
  (15, .iand, 16, 0, 0, 0, m_y0, .null),
  (16, .iconst 1, 17, 0, 0, 0, m_y0, .int 1),
  (17, .if_icmp .ne 15, 20, 32, 0, 0, m_y0, .null),
  (20, .aload_n 0, 21, 0, 0, 0, m_y0, .null),
  (21, .getfield 9, 24, 9, 0, 891, m_y0, .null),
  (24, .bipush 18, 26, 0, 0, 0, m_y0, .int 18),
  (26, .iload_n 3, 27, 3, 0, 0, m_y0, .null),
  (27, .iadd, 28, 0, 0, 0, m_y0, .null),
  (28, .iaload, 29, 0, 0, 0, m_y0, .null),
  (29, .goto 4, 32, 33, 0, 0, m_y0, .null),
  (32, .iconst 0, 33, 0, 0, 0, m_y0, .int 0),
  (33, .iadd, 34, 0, 0, 0, m_y0, .null),
  (34, .istore_n 2, 35, 2, 0, 0, m_y0, .null),
  (35, .iinc 3 1, 38, 3, 0, 0, m_y0, .int 1),
  (38, .goto (-34), 41, 4, 0, 0, m_y0, .null),
  (41, .iload_n 2, 42, 2, 0, 0, m_y0, .null),
  (42, .ireturn, 43, 0, 0, 0, m_y0, .null)])
set_option maxRecDepth 100000 in
theorem k1_O_costOf : MOk1 M_O_costOf := m_ok1_of (by decide +kernel)
set_option maxRecDepth 100000 in
theorem k2_O_costOf : MOk2 M_O_costOf := m_ok2_spec (p0 := 1251) (p1 := 77) (p2 := 1250) (p3 := 54) (by decide +kernel)
def M_O_cheapest : MD := (y_O_cheapest, prog_11_method_55_code, 6, (some .int), (1, 3, 9), [
  (0, .aload_n 0, 1, 0, 0, 0, m_y0, .null),
  (1, .iload_n 1, 2, 1, 0, 0, m_y0, .null),
  (2, .invokevirtual 132, 5, 2, 0, 1076, y_O_isPart, .null),
  (5, .ifCond .eq 25, 8, 30, 0, 0, m_y0, .null),
  (8, .iload_n 2, 9, 2, 0, 0, m_y0, .null),
  (9, .i2l, 10, 0, 0, 0, m_y0, .null),
  (10, .lconst 0, 11, 0, 0, 0, m_y0, .long 0),
  (11, .ldc2_w 215, 14, 0, 0, 1172, m_y0, .long 100),
  (14, .invokestatic 102, 17, 3, 0, 1037, y_O_within, .null),
  (17, .ifCond .eq 13, 20, 30, 0, 0, m_y0, .null),
  (20, .iload_n 3, 21, 3, 0, 0, m_y0, .null),
  (21, .i2l, 22, 0, 0, 0, m_y0, .null),
  (22, .lconst 0, 23, 0, 0, 0, m_y0, .long 0),
  (23, .lconst 1, 24, 0, 0, 0, m_y0, .long 1),
  (24, .invokestatic 102, 27, 3, 0, 1037, y_O_within, .null),
  (27, .ifCond .ne 5, 30, 32, 0, 0, m_y0, .null),
  (30, .iconst (-1), 31, 0, 0, 0, m_y0, .int (-1)),
  (31, .ireturn, 32, 0, 0, 0, m_y0, .null),
  (32, .aload_n 0, 33, 0, 0, 0, m_y0, .null),
  (33, .iload_n 1, 34, 1, 0, 0, m_y0, .null),
  (34, .invokevirtual 217, 37, 2, 0, 1164, y_O_looksAt, .null),
  (37, .bipush (-2), 39, 0, 0, 0, m_y0, .int (-2)),
  (39, .istore 4, 41, 4, 0, 0, m_y0, .null),
  (41, .iconst 0, 42, 0, 0, 0, m_y0, .int 0),
  (42, .istore 5, 44, 5, 0, 0, m_y0, .null),
  (44, .iload 5, 46, 5, 0, 0, m_y0, .null),
  (46, .bipush 64, 48, 0, 0, 0, m_y0, .int 64),
  (48, .if_icmp .ge 43, 51, 91, 0, 0, m_y0, .null),
  (51, .aload_n 0, 52, 0, 0, 0, m_y0, .null),
  (52, .iload 5, 54, 5, 0, 0, m_y0, .null),
  (54, .invokevirtual 265, 57, 2, 0, 1240, y_O_believedBy, .null),
  (57, .iload_n 2, 58, 2, 0, 0, m_y0, .null),
  (58, .if_icmp .lt 27, 61, 85, 0, 0, m_y0, .null),
  (61, .iload 4, 63, 4, 0, 0, m_y0, .null),
  (63, .ifCond .lt 18, 66, 81, 0, 0, m_y0, .null),
  (66, .aload_n 0, 67, 0, 0, 0, m_y0, .null),
  (67, .iload 5, 69, 5, 0, 0, m_y0, .null),
  (69, .invokevirtual 268, 72, 2, 0, 1248, y_O_costOf, .null),
  (72, .aload_n 0, 73, 0, 0, 0, m_y0, .null),
  (73, .iload 4, 75, 4, 0, 0, m_y0, .null),
  (75, .invokevirtual 268, 78, 2, 0, 1248, y_O_costOf, .null),
  (78, .if_icmp .ge 7, 81, 85, 0, 0, m_y0, .null),
  (81, .iload 5, 83, 5, 0, 0, m_y0, .null),
  (83, .istore 4, 85, 4, 0, 0, m_y0, .null),
  (85, .iinc 5 1, 88, 5, 0, 0, m_y0, .int 1),
  (88, .goto (-44), 91, 44, 0, 0, m_y0, .null),
  (91, .iload 4, 93, 4, 0, 0, m_y0, .null),
  (93, .ifCond .lt 7, 96, 100, 0, 0, m_y0, .null),
  (96, .iload_n 3, 97, 3, 0, 0, m_y0, .null),
  (97, .ifCond .ne 8, 100, 105, 0, 0, m_y0, .null),
  (100, .iload 4, 102, 4, 0, 0, m_y0, .null),
  (102, .goto 9, 105, 111, 0, 0, m_y0, .null),
  (105, .aload_n 0, 106, 0, 0, 0, m_y0, .null),
  (106, .iload 4, 108, 4, 0, 0, m_y0, .null),
  (108, .invokevirtual 268, 111, 2, 0, 1248, y_O_costOf, .null),
  (111, .ireturn, 112, 0, 0, 0, m_y0, .null)])
set_option maxRecDepth 100000 in
theorem k1_O_cheapest : MOk1 M_O_cheapest := m_ok1_of (by decide +kernel)
set_option maxRecDepth 100000 in
theorem k2_O_cheapest : MOk2 M_O_cheapest := m_ok2_spec (p0 := 1247) (p1 := 77) (p2 := 1245) (p3 := 1246) (by decide +kernel)
def M_O_spoils : MD := (y_O_spoils, prog_11_method_56_code, 7, (some .int), (1, 2, 9), [
  (0, .aload_n 0, 1, 0, 0, 0, m_y0, .null),
  (1, .iload_n 1, 2, 1, 0, 0, m_y0, .null),
  (2, .invokevirtual 132, 5, 2, 0, 1076, y_O_isPart, .null),
  (5, .ifCond .eq 15, 8, 20, 0, 0, m_y0, .null),
  (8, .iload_n 2, 9, 2, 0, 0, m_y0, .null),
  (9, .i2l, 10, 0, 0, 0, m_y0, .null),
  (10, .lconst 0, 11, 0, 0, 0, m_y0, .long 0),
  (11, .ldc2_w 251, 14, 0, 0, 1217, m_y0, .long 63),
  (14, .invokestatic 102, 17, 3, 0, 1037, y_O_within, .null),
  (17, .ifCond .ne 5, 20, 22, 0, 0, m_y0, .null),
  (20, .iconst (-1), 21, 0, 0, 0, m_y0, .int (-1)),
  (21, .ireturn, 22, 0, 0, 0, m_y0, .null),
  (22, .aload_n 0, 23, 0, 0, 0, m_y0, .null),
  (23, .iload_n 1, 24, 1, 0, 0, m_y0, .null),
  (24, .invokevirtual 217, 27, 2, 0, 1164, y_O_looksAt, .null),
  (27, .bipush (-2), 29, 0, 0, 0, m_y0, .int (-2)),
  (29, .istore_n 3, 30, 3, 0, 0, m_y0, .null),
  (30, .iconst 0, 31, 0, 0, 0, m_y0, .int 0),
  (31, .istore 4, 33, 4, 0, 0, m_y0, .null),
  (33, .iconst 0, 34, 0, 0, 0, m_y0, .int 0),
  (34, .istore 5, 36, 5, 0, 0, m_y0, .null),
  (36, .iload 5, 38, 5, 0, 0, m_y0, .null),
  (38, .bipush 6, 40, 0, 0, 0, m_y0, .int 6),
  (40, .if_icmp .ge 60, 43, 100, 0, 0, m_y0, .null),
  (43, .iload_n 2, 44, 2, 0, 0, m_y0, .null),
  (44, .iload 5, 46, 5, 0, 0, m_y0, .null),
  (46, .ishr, 47, 0, 0, 0, m_y0, .null),
  (47, .iconst 1, 48, 0, 0, 0, m_y0, .int 1),
  (48, .iand, 49, 0, 0, 0, m_y0, .null),
  (49, .iconst 1, 50, 0, 0, 0, m_y0, .int 1),
  (50, .if_icmp .ne 18, 53, 68, 0, 0, m_y0, .null),
  (53, .aload_n 0, 54, 0, 0, 0, m_y0, .null),
  (54, .iload_n 2, 55, 2, 0, 0, m_y0, .null),
  (55, .iconst 1, 56, 0, 0, 0, m_y0, .int 1),
  (56, .iload 5, 58, 5, 0, 0, m_y0, .null),
  (58, .ishl, 59, 0, 0, 0, m_y0, .null),
  (59, .iconst (-1), 60, 0, 0, 0, m_y0, .int (-1)),
  (60, .ixor, 61, 0, 0, 0, m_y0, .null),
  (61, .iand, 62, 0, 0, 0, m_y0, .null),
  (62, .invokevirtual 265, 65, 2, 0, 1240, y_O_believedBy, .null),
  (65, .goto 4, 68, 69, 0, 0, m_y0, .null),
  (68, .iconst (-1), 69, 0, 0, 0, m_y0, .int (-1)),
  (69, .istore 6, 71, 6, 0, 0, m_y0, .null),
  (71, .iload 6, 73, 6, 0, 0, m_y0, .null),
  (73, .ifCond .lt 21, 76, 94, 0, 0, m_y0, .null),
  (76, .iload_n 3, 77, 3, 0, 0, m_y0, .null),
  (77, .ifCond .lt 10, 80, 87, 0, 0, m_y0, .null),
  (80, .iload 6, 82, 6, 0, 0, m_y0, .null),
  (82, .iload 4, 84, 4, 0, 0, m_y0, .null),
  (84, .if_icmp .ge 10, 87, 94, 0, 0, m_y0, .null),
  (87, .iload 5, 89, 5, 0, 0, m_y0, .null),
  (89, .istore_n 3, 90, 3, 0, 0, m_y0, .null),
  (90, .iload 6, 92, 6, 0, 0, m_y0, .null),
  (92, .istore 4, 94, 4, 0, 0, m_y0, .null),
  (94, .iinc 5 1, 97, 5, 0, 0, m_y0, .int 1),
  (97, .goto (-61), 100, 36, 0, 0, m_y0, .null),
  (100, .iload_n 3, 101, 3, 0, 0, m_y0, .null),
  (101, .ireturn, 102, 0, 0, 0, m_y0, .null)])
set_option maxRecDepth 100000 in
theorem k1_O_spoils : MOk1 M_O_spoils := m_ok1_of (by decide +kernel)
set_option maxRecDepth 100000 in
theorem k2_O_spoils : MOk2 M_O_spoils := m_ok2_spec (p0 := 1255) (p1 := 77) (p2 := 1253) (p3 := 1254) (by decide +kernel)
def M_O_priceOf : MD := (y_O_priceOf, prog_11_method_57_code, 4, (some .int), (1, 1, 9), [
  (0, .aload_n 0, 1, 0, 0, 0, m_y0, .null),
  (1, .iload_n 1, 2, 1, 0, 0, m_y0, .null),
  (2, .invokevirtual 231, 5, 2, 0, 1160, y_O_weighsPart, .null),
  (5, .iconst 0, 6, 0, 0, 0, m_y0, .int 0),
  (6, .istore_n 2, 7, 2, 0, 0, m_y0, .null),
  (7, .iconst 0, 8, 0, 0, 0, m_y0, .int 0),
  (8, .istore_n 3, 9, 3, 0, 0, m_y0, .null),
  (9, .iload_n 3, 10, 3, 0, 0, m_y0, .null),
  (10, .bipush 6, 12, 0, 0, 0, m_y0, .int 6),
  (12, .if_icmp .ge 27, 15, 39, 0, 0, m_y0, .null),
  (15, .iload_n 2, 16, 2, 0, 0, m_y0, .null),
  (16, .aload_n 0, 17, 0, 0, 0, m_y0, .null),
  (17, .getfield 9, 20, 9, 0, 891, m_y0, .null),
  (20, .bipush 6, 22, 0, 0, 0, m_y0, .int 6),
  (22, .iload_n 3, 23, 3, 0, 0, m_y0, .null),
  (23, .iadd, 24, 0, 0, 0, m_y0, .null),
  (24, .iaload, 25, 0, 0, 0, m_y0, .null),
  (25, .aload_n 0, 26, 0, 0, 0, m_y0, .null),
  (26, .iload_n 3, 27, 3, 0, 0, m_y0, .null),
  (27, .invokevirtual 238, 30, 2, 0, 1180, y_O_percentNow, .null),
  (30, .imul, 31, 0, 0, 0, m_y0, .null),
  (31, .iadd, 32, 0, 0, 0, m_y0, .null),
  (32, .istore_n 2, 33, 2, 0, 0, m_y0, .null),
  (33, .iinc 3 1, 36, 3, 0, 0, m_y0, .int 1),
  (36, .goto (-27), 39, 9, 0, 0, m_y0, .null),
  (39, .iload_n 2, 40, 2, 0, 0, m_y0, .null),
  (40, .bipush 100, 42, 0, 0, 0, m_y0, .int 100),
  (42, .idiv, 43, 0, 0, 0, m_y0, .null),
  (43, .ireturn, 44, 0, 0, 0, m_y0, .null)])
set_option maxRecDepth 100000 in
theorem k1_O_priceOf : MOk1 M_O_priceOf := m_ok1_of (by decide +kernel)
set_option maxRecDepth 100000 in
theorem k2_O_priceOf : MOk2 M_O_priceOf := m_ok2_spec (p0 := 1263) (p1 := 77) (p2 := 1262) (p3 := 55) (by decide +kernel)
def M_O_price : MD := (y_O_price, prog_11_method_58_code, 4, (some .int), (1, 1, 9), [
  (0, .iload_n 1, 1, 1, 0, 0, m_y0, .null),
  (1, .iconst (-1), 2, 0, 0, 0, m_y0, .int (-1)),
  (2, .if_icmp .ne 31, 5, 33, 0, 0, m_y0, .null),
  (5, .iconst 0, 6, 0, 0, 0, m_y0, .int 0),
  (6, .istore_n 2, 7, 2, 0, 0, m_y0, .null),
  (7, .iconst 0, 8, 0, 0, 0, m_y0, .int 0),
  (8, .istore_n 3, 9, 3, 0, 0, m_y0, .null),
  (9, .iload_n 3, 10, 3, 0, 0, m_y0, .null),
  (10, .aload_n 0, 11, 0, 0, 0, m_y0, .null),
  (11, .getfield 99, 14, 9, 6, 897, m_y0, .null),
  (14, .if_icmp .ge 17, 17, 31, 0, 0, m_y0, .null),
  (17, .iload_n 2, 18, 2, 0, 0, m_y0, .null),
  (18, .aload_n 0, 19, 0, 0, 0, m_y0, .null),
  (19, .iload_n 3, 20, 3, 0, 0, m_y0, .null),
  (20, .invokevirtual 271, 23, 2, 0, 1260, y_O_priceOf, .null),
  (23, .iadd, 24, 0, 0, 0, m_y0, .null),
  (24, .istore_n 2, 25, 2, 0, 0, m_y0, .null),
  (25, .iinc 3 1, 28, 3, 0, 0, m_y0, .int 1),
  (28, .goto (-19), 31, 9, 0, 0, m_y0, .null),
  (31, .iload_n 2, 32, 2, 0, 0, m_y0, .null),
  (32, .ireturn, 33, 0, 0, 0, m_y0, .null),
  (33, .aload_n 0, 34, 0, 0, 0, m_y0, .null),
  (34, .iload_n 1, 35, 1, 0, 0, m_y0, .null),
  (35, .invokevirtual 132, 38, 2, 0, 1076, y_O_isPart, .null),
  (38, .ifCond .eq 11, 41, 49, 0, 0, m_y0, .null),
  (41, .aload_n 0, 42, 0, 0, 0, m_y0, .null),
  (42, .iload_n 1, 43, 1, 0, 0, m_y0, .null),
  (43, .invokevirtual 271, 46, 2, 0, 1260, y_O_priceOf, .null),
  (46, .goto 4, 49, 50, 0, 0, m_y0, .null),
  (49, .iconst (-1), 50, 0, 0, 0, m_y0, .int (-1)),
  (50, .ireturn, 51, 0, 0, 0, m_y0, .null)])
set_option maxRecDepth 100000 in
theorem k1_O_price : MOk1 M_O_price := m_ok1_of (by decide +kernel)
set_option maxRecDepth 100000 in
theorem k2_O_price : MOk2 M_O_price := m_ok2_spec (p0 := 1259) (p1 := 77) (p2 := 1257) (p3 := 1258) (by decide +kernel)
def M_O_paper_0 : List (Nat × ME) := [
  (0, .iload_n 1, 1, 1, 0, 0, m_y0, .null),
  (1, .ifCond .lt 44, 4, 45, 0, 0, m_y0, .null),
  (4, .iload_n 1, 5, 1, 0, 0, m_y0, .null),
  (5, .bipush 100, 7, 0, 0, 0, m_y0, .int 100),
  (7, .idiv, 8, 0, 0, 0, m_y0, .null),
  (8, .bipush 30, 10, 0, 0, 0, m_y0, .int 30),
  (10, .if_icmp .ge 35, 13, 45, 0, 0, m_y0, .null),
  (13, .iload_n 1, 14, 1, 0, 0, m_y0, .null),
  (14, .bipush 100, 16, 0, 0, 0, m_y0, .int 100),
  (16, .irem, 17, 0, 0, 0, m_y0, .null),
  (17, .bipush 30, 19, 0, 0, 0, m_y0, .int 30),
  (19, .if_icmp .ge 26, 22, 45, 0, 0, m_y0, .null),
  (22, .iload_n 1, 23, 1, 0, 0, m_y0, .null),
  (23, .bipush 100, 25, 0, 0, 0, m_y0, .int 100),
  (25, .idiv, 26, 0, 0, 0, m_y0, .null),
  (26, .iload_n 1, 27, 1, 0, 0, m_y0, .null),
  (27, .bipush 100, 29, 0, 0, 0, m_y0, .int 100),
  (29, .irem, 30, 0, 0, 0, m_y0, .null),
  (30, .if_icmp .gt 15, 33, 45, 0, 0, m_y0, .null),
  (33, .iload_n 2, 34, 2, 0, 0, m_y0, .null),
  (34, .i2l, 35, 0, 0, 0, m_y0, .null),
  (35, .lconst 0, 36, 0, 0, 0, m_y0, .long 0),
  (36, .ldc2_w 120, 39, 0, 0, 1053, m_y0, .long 9),
  (39, .invokestatic 102, 42, 3, 0, 1037, y_O_within, .null),
  (42, .ifCond .ne 5, 45, 47, 0, 0, m_y0, .null),
  (45, .iconst (-1), 46, 0, 0, 0, m_y0, .int (-1)),
  (46, .ireturn, 47, 0, 0, 0, m_y0, .null),
  (47, .aload_n 0, 48, 0, 0, 0, m_y0, .null),
  (48, .getfield 274, 51, 9, 27, 918, m_y0, .null),
  (51, .bipush 10, 53, 0, 0, 0, m_y0, .int 10),
  (53, .if_icmp .ne 6, 56, 59, 0, 0, m_y0, .null),
  (56, .bipush (-3), 58, 0, 0, 0, m_y0, .int (-3)),
  (58, .ireturn, 59, 0, 0, 0, m_y0, .null),
  (59, .aload_n 0, 60, 0, 0, 0, m_y0, .null),
  (60, .getfield 62, 63, 9, 28, 919, m_y0, .null),
  (63, .aload_n 0, 64, 0, 0, 0, m_y0, .null),
  (64, .getfield 274, 67, 9, 27, 918, m_y0, .null),
  (67, .iload_n 1, 68, 1, 0, 0, m_y0, .null),
  (68, .bipush 100, 70, 0, 0, 0, m_y0, .int 100),
  (70, .idiv, 71, 0, 0, 0, m_y0, .null),
  (71, .iastore, 72, 0, 0, 0, m_y0, .null),
  (72, .aload_n 0, 73, 0, 0, 0, m_y0, .null),
  (73, .getfield 65, 76, 9, 29, 920, m_y0, .null),
  (76, .aload_n 0, 77, 0, 0, 0, m_y0, .null),
  (77, .getfield 274, 80, 9, 27, 918, m_y0, .null),
  (80, .iload_n 1, 81, 1, 0, 0, m_y0, .null),
  (81, .bipush 100, 83, 0, 0, 0, m_y0, .int 100),
  (83, .irem, 84, 0, 0, 0, m_y0, .null),
  (84, .iastore, 85, 0, 0, 0, m_y0, .null),
  (85, .aload_n 0, 86, 0, 0, 0, m_y0, .null)]
def M_O_paper_1 : List (Nat × ME) := [
  (86, .getfield 68, 89, 9, 30, 921, m_y0, .null),
  (89, .aload_n 0, 90, 0, 0, 0, m_y0, .null),
  (90, .getfield 274, 93, 9, 27, 918, m_y0, .null),
  (93, .iload_n 2, 94, 2, 0, 0, m_y0, .null),
  (94, .iastore, 95, 0, 0, 0, m_y0, .null),
  (95, .aload_n 0, 96, 0, 0, 0, m_y0, .null),
  (96, .dup, 97, 0, 0, 0, m_y0, .null),
  (97, .getfield 274, 100, 9, 27, 918, m_y0, .null),
  (100, .iconst 1, 101, 0, 0, 0, m_y0, .int 1),
  (101, .iadd, 102, 0, 0, 0, m_y0, .null),
  (102, .putfield 274, 105, 9, 27, 918, m_y0, .int 0),
  (105, .aload_n 0, 106, 0, 0, 0, m_y0, .null),
  (106, .getfield 274, 109, 9, 27, 918, m_y0, .null),
  (109, .iconst 1, 110, 0, 0, 0, m_y0, .int 1),
  (110, .isub, 111, 0, 0, 0, m_y0, .null),
  (111, .ireturn, 112, 0, 0, 0, m_y0, .null)]
def M_O_paper : MD := (y_O_paper, prog_11_method_59_code, 3, (some .int), (1, 2, 9), M_O_paper_0 ++ (M_O_paper_1))
set_option maxRecDepth 100000 in
theorem k1_O_paper_0 : M_O_paper_0.all (m_eok y_O_paper prog_11_method_59_code 3) = true := by decide +kernel
set_option maxRecDepth 100000 in
theorem k1_O_paper_1 : M_O_paper_1.all (m_eok y_O_paper prog_11_method_59_code 3) = true := by decide +kernel
theorem k1_O_paper : MOk1 M_O_paper := m_ok1_of (m_all_app k1_O_paper_0 k1_O_paper_1)
set_option maxRecDepth 100000 in
theorem k2_O_paper : MOk2 M_O_paper := m_ok2_spec (p0 := 1267) (p1 := 77) (p2 := 1265) (p3 := 1266) (by decide +kernel)
end
section
def M_O_clash : MD := (y_O_clash, prog_11_method_60_code, 3, (some .int), (1, 0, 9), [
  (0, .iconst 0, 1, 0, 0, 0, m_y0, .int 0),
  (1, .istore_n 1, 2, 1, 0, 0, m_y0, .null),
  (2, .iload_n 1, 3, 1, 0, 0, m_y0, .null),
  (3, .aload_n 0, 4, 0, 0, 0, m_y0, .null),
  (4, .getfield 274, 7, 9, 27, 918, m_y0, .null),
  (7, .if_icmp .ge 69, 10, 76, 0, 0, m_y0, .null),
  (10, .iconst 0, 11, 0, 0, 0, m_y0, .int 0),
  (11, .istore_n 2, 12, 2, 0, 0, m_y0, .null),
  (12, .iload_n 2, 13, 2, 0, 0, m_y0, .null),
  (13, .iload_n 1, 14, 1, 0, 0, m_y0, .null),
  (14, .if_icmp .ge 56, 17, 70, 0, 0, m_y0, .null),
  (17, .aload_n 0, 18, 0, 0, 0, m_y0, .null),
  (18, .getfield 68, 21, 9, 30, 921, m_y0, .null),
  (21, .iload_n 2, 22, 2, 0, 0, m_y0, .null),
  (22, .iaload, 23, 0, 0, 0, m_y0, .null),
  (23, .aload_n 0, 24, 0, 0, 0, m_y0, .null),
  (24, .getfield 68, 27, 9, 30, 921, m_y0, .null),
  (27, .iload_n 1, 28, 1, 0, 0, m_y0, .null),
  (28, .iaload, 29, 0, 0, 0, m_y0, .null),
  (29, .if_icmp .eq 35, 32, 64, 0, 0, m_y0, .null),
  (32, .aload_n 0, 33, 0, 0, 0, m_y0, .null),
  (33, .getfield 62, 36, 9, 28, 919, m_y0, .null),
  (36, .iload_n 2, 37, 2, 0, 0, m_y0, .null),
  (37, .iaload, 38, 0, 0, 0, m_y0, .null),
  (38, .aload_n 0, 39, 0, 0, 0, m_y0, .null),
  (39, .getfield 65, 42, 9, 29, 920, m_y0, .null),
  (42, .iload_n 1, 43, 1, 0, 0, m_y0, .null),
  (43, .iaload, 44, 0, 0, 0, m_y0, .null),
  (44, .if_icmp .gt 20, 47, 64, 0, 0, m_y0, .null),
  (47, .aload_n 0, 48, 0, 0, 0, m_y0, .null),
  (48, .getfield 62, 51, 9, 28, 919, m_y0, .null),
  (51, .iload_n 1, 52, 1, 0, 0, m_y0, .null),
  (52, .iaload, 53, 0, 0, 0, m_y0, .null),
  (53, .aload_n 0, 54, 0, 0, 0, m_y0, .null),
  (54, .getfield 65, 57, 9, 29, 920, m_y0, .null),
  (57, .iload_n 2, 58, 2, 0, 0, m_y0, .null),
  (58, .iaload, 59, 0, 0, 0, m_y0, .null),
  (59, .if_icmp .gt 5, 62, 64, 0, 0, m_y0, .null),
  (62, .iload_n 1, 63, 1, 0, 0, m_y0, .null),
  (63, .ireturn, 64, 0, 0, 0, m_y0, .null),
  (64, .iinc 2 1, 67, 2, 0, 0, m_y0, .int 1),
  (67, .goto (-55), 70, 12, 0, 0, m_y0, .null),
  (70, .iinc 1 1, 73, 1, 0, 0, m_y0, .int 1),
  (73, .goto (-71), 76, 2, 0, 0, m_y0, .null),
  (76, .bipush (-2), 78, 0, 0, 0, m_y0, .int (-2)),
  (78, .ireturn, 79, 0, 0, 0, m_y0, .null)])
set_option maxRecDepth 100000 in
theorem k1_O_clash : MOk1 M_O_clash := m_ok1_of (by decide +kernel)
set_option maxRecDepth 100000 in
theorem k2_O_clash : MOk2 M_O_clash := m_ok2_spec (p0 := 1275) (p1 := 77) (p2 := 1274) (p3 := 56) (by decide +kernel)
def M_O_houseOf : MD := (y_O_houseOf, prog_11_method_61_code, 3, (some .int), (1, 1, 9), [
  (0, .iconst 0, 1, 0, 0, 0, m_y0, .int 0),
  (1, .istore_n 2, 2, 2, 0, 0, m_y0, .null),
  (2, .iload_n 2, 3, 2, 0, 0, m_y0, .null),
  (3, .aload_n 0, 4, 0, 0, 0, m_y0, .null),
  (4, .getfield 274, 7, 9, 27, 918, m_y0, .null),
  (7, .if_icmp .ge 38, 10, 45, 0, 0, m_y0, .null),
  (10, .iload_n 1, 11, 1, 0, 0, m_y0, .null),
  (11, .i2l, 12, 0, 0, 0, m_y0, .null),
  (12, .aload_n 0, 13, 0, 0, 0, m_y0, .null),
  (13, .getfield 62, 16, 9, 28, 919, m_y0, .null),
  (16, .iload_n 2, 17, 2, 0, 0, m_y0, .null),
  (17, .iaload, 18, 0, 0, 0, m_y0, .null),
  (18, .i2l, 19, 0, 0, 0, m_y0, .null),
  (19, .aload_n 0, 20, 0, 0, 0, m_y0, .null),
  (20, .getfield 65, 23, 9, 29, 920, m_y0, .null),
  (23, .iload_n 2, 24, 2, 0, 0, m_y0, .null),
  (24, .iaload, 25, 0, 0, 0, m_y0, .null),
  (25, .i2l, 26, 0, 0, 0, m_y0, .null),
  (26, .invokestatic 102, 29, 3, 0, 1037, y_O_within, .null),
  (29, .ifCond .eq 10, 32, 39, 0, 0, m_y0, .null),
  (32, .aload_n 0, 33, 0, 0, 0, m_y0, .null),
  (33, .getfield 68, 36, 9, 30, 921, m_y0, .null),
  (36, .iload_n 2, 37, 2, 0, 0, m_y0, .null),
  (37, .iaload, 38, 0, 0, 0, m_y0, .null),
  (38, .ireturn, 39, 0, 0, 0, m_y0, .null),
  (39, .iinc 2 1, 42, 2, 0, 0, m_y0, .int 1),
  (42, .goto (-40), 45, 2, 0, 0, m_y0, .null),
  (45, .bipush (-2), 47, 0, 0, 0, m_y0, .int (-2)),
  (47, .ireturn, 48, 0, 0, 0, m_y0, .null)])
set_option maxRecDepth 100000 in
theorem k1_O_houseOf : MOk1 M_O_houseOf := m_ok1_of (by decide +kernel)
set_option maxRecDepth 100000 in
theorem k2_O_houseOf : MOk2 M_O_houseOf := m_ok2_spec (p0 := 1283) (p1 := 77) (p2 := 1282) (p3 := 58) (by decide +kernel)
def M_O_gaps : MD := (y_O_gaps, prog_11_method_62_code, 5, (some .int), (1, 0, 9), [
  (0, .bipush 30, 2, 0, 0, 0, m_y0, .int 30),
  (2, .istore_n 1, 3, 1, 0, 0, m_y0, .null),
  (3, .iconst (-1), 4, 0, 0, 0, m_y0, .int (-1)),
  (4, .istore_n 2, 5, 2, 0, 0, m_y0, .null),
  (5, .iconst 0, 6, 0, 0, 0, m_y0, .int 0),
  (6, .istore_n 3, 7, 3, 0, 0, m_y0, .null),
  (7, .iload_n 3, 8, 3, 0, 0, m_y0, .null),
  (8, .aload_n 0, 9, 0, 0, 0, m_y0, .null),
  (9, .getfield 274, 12, 9, 27, 918, m_y0, .null),
  (12, .if_icmp .ge 51, 15, 63, 0, 0, m_y0, .null),
  (15, .aload_n 0, 16, 0, 0, 0, m_y0, .null),
  (16, .getfield 62, 19, 9, 28, 919, m_y0, .null),
  (19, .iload_n 3, 20, 3, 0, 0, m_y0, .null),
  (20, .iaload, 21, 0, 0, 0, m_y0, .null),
  (21, .iload_n 1, 22, 1, 0, 0, m_y0, .null),
  (22, .if_icmp .ge 12, 25, 34, 0, 0, m_y0, .null),
  (25, .aload_n 0, 26, 0, 0, 0, m_y0, .null),
  (26, .getfield 62, 29, 9, 28, 919, m_y0, .null),
  (29, .iload_n 3, 30, 3, 0, 0, m_y0, .null),
  (30, .iaload, 31, 0, 0, 0, m_y0, .null),
  (31, .goto 4, 34, 35, 0, 0, m_y0, .null),
  (34, .iload_n 1, 35, 1, 0, 0, m_y0, .null),
  (35, .istore_n 1, 36, 1, 0, 0, m_y0, .null),
  (36, .aload_n 0, 37, 0, 0, 0, m_y0, .null),
  (37, .getfield 65, 40, 9, 29, 920, m_y0, .null),
  (40, .iload_n 3, 41, 3, 0, 0, m_y0, .null),
  (41, .iaload, 42, 0, 0, 0, m_y0, .null),
  (42, .iload_n 2, 43, 2, 0, 0, m_y0, .null),
  (43, .if_icmp .le 12, 46, 55, 0, 0, m_y0, .null),
  (46, .aload_n 0, 47, 0, 0, 0, m_y0, .null),
  (47, .getfield 65, 50, 9, 29, 920, m_y0, .null),
  (50, .iload_n 3, 51, 3, 0, 0, m_y0, .null),
  (51, .iaload, 52, 0, 0, 0, m_y0, .null),
  (52, .goto 4, 55, 56, 0, 0, m_y0, .null),
  (55, .iload_n 2, 56, 2, 0, 0, m_y0, .null),
  (56, .istore_n 2, 57, 2, 0, 0, m_y0, .null),
  (57, .iinc 3 1, 60, 3, 0, 0, m_y0, .int 1),
  (60, .goto (-53), 63, 7, 0, 0, m_y0, .null),
  (63, .iconst 0, 64, 0, 0, 0, m_y0, .int 0),
  (64, .istore_n 3, 65, 3, 0, 0, m_y0, .null),
  (65, .iload_n 1, 66, 1, 0, 0, m_y0, .null),
  (66, .istore 4, 68, 4, 0, 0, m_y0, .null),
  (68, .iload 4, 70, 4, 0, 0, m_y0, .null),
  (70, .iload_n 2, 71, 2, 0, 0, m_y0, .null),
  (71, .if_icmp .gt 26, 74, 97, 0, 0, m_y0, .null),
  (74, .iload_n 3, 75, 3, 0, 0, m_y0, .null),
  (75, .aload_n 0, 76, 0, 0, 0, m_y0, .null),
  (76, .iload 4, 78, 4, 0, 0, m_y0, .null),
  (78, .invokevirtual 277, 81, 2, 0, 1280, y_O_houseOf, .null),
  (81, .ifCond .ge 7, 84, 88, 0, 0, m_y0, .null),
  (84, .iconst 1, 85, 0, 0, 0, m_y0, .int 1),
  (85, .goto 4, 88, 89, 0, 0, m_y0, .null),
  (88, .iconst 0, 89, 0, 0, 0, m_y0, .int 0),
  (89, .iadd, 90, 0, 0, 0, m_y0, .null),
  (90, .istore_n 3, 91, 3, 0, 0, m_y0, .null),
  (91, .iinc 4 1, 94, 4, 0, 0, m_y0, .int 1),
  (94, .goto (-26), 97, 68, 0, 0, m_y0, .null),
  (97, .iload_n 3, 98, 3, 0, 0, m_y0, .null),
  (98, .ireturn, 99, 0, 0, 0, m_y0, .null)])
set_option maxRecDepth 100000 in
theorem k1_O_gaps : MOk1 M_O_gaps := m_ok1_of (by decide +kernel)
set_option maxRecDepth 100000 in
theorem k2_O_gaps : MOk2 M_O_gaps := m_ok2_spec (p0 := 1279) (p1 := 77) (p2 := 1278) (p3 := 57) (by decide +kernel)
def M_O_papers : MD := (y_O_papers, prog_11_method_63_code, 2, (some .int), (1, 1, 9), [
  (0, .iload_n 1, 1, 1, 0, 0, m_y0, .null),
  (1, .ifCond .ne 10, 4, 11, 0, 0, m_y0, .null),
  (4, .aload_n 0, 5, 0, 0, 0, m_y0, .null),
  (5, .invokevirtual 280, 8, 1, 0, 1272, y_O_clash, .null),
  (8, .goto 16, 11, 24, 0, 0, m_y0, .null),
  (11, .iload_n 1, 12, 1, 0, 0, m_y0, .null),
  (12, .iconst 1, 13, 0, 0, 0, m_y0, .int 1),
  (13, .if_icmp .ne 10, 16, 23, 0, 0, m_y0, .null),
  (16, .aload_n 0, 17, 0, 0, 0, m_y0, .null),
  (17, .invokevirtual 283, 20, 1, 0, 1276, y_O_gaps, .null),
  (20, .goto 4, 23, 24, 0, 0, m_y0, .null),
  (23, .iconst (-1), 24, 0, 0, 0, m_y0, .int (-1)),
  (24, .ireturn, 25, 0, 0, 0, m_y0, .null)])
set_option maxRecDepth 100000 in
theorem k1_O_papers : MOk1 M_O_papers := m_ok1_of (by decide +kernel)
set_option maxRecDepth 100000 in
theorem k2_O_papers : MOk2 M_O_papers := m_ok2_spec (p0 := 1271) (p1 := 77) (p2 := 1269) (p3 := 1270) (by decide +kernel)
def M_O_house : MD := (y_O_house, prog_11_method_64_code, 2, (some .int), (1, 1, 9), [
  (0, .iload_n 1, 1, 1, 0, 0, m_y0, .null),
  (1, .i2l, 2, 0, 0, 0, m_y0, .null),
  (2, .lconst 0, 3, 0, 0, 0, m_y0, .long 0),
  (3, .ldc2_w 286, 6, 0, 0, 1288, m_y0, .long 29),
  (6, .invokestatic 102, 9, 3, 0, 1037, y_O_within, .null),
  (9, .ifCond .eq 11, 12, 20, 0, 0, m_y0, .null),
  (12, .aload_n 0, 13, 0, 0, 0, m_y0, .null),
  (13, .iload_n 1, 14, 1, 0, 0, m_y0, .null),
  (14, .invokevirtual 277, 17, 2, 0, 1280, y_O_houseOf, .null),
  (17, .goto 4, 20, 21, 0, 0, m_y0, .null),
  (20, .iconst (-1), 21, 0, 0, 0, m_y0, .int (-1)),
  (21, .ireturn, 22, 0, 0, 0, m_y0, .null)])
set_option maxRecDepth 100000 in
theorem k1_O_house : MOk1 M_O_house := m_ok1_of (by decide +kernel)
set_option maxRecDepth 100000 in
theorem k2_O_house : MOk2 M_O_house := m_ok2_spec (p0 := 1287) (p1 := 77) (p2 := 1285) (p3 := 1286) (by decide +kernel)
def M_O_drawn_0 : List (Nat × ME) := [
  (0, .iload_n 2, 1, 2, 0, 0, m_y0, .null),
  (1, .i2l, 2, 0, 0, 0, m_y0, .null),
  (2, .lconst 1, 3, 0, 0, 0, m_y0, .long 1),
  (3, .ldc2_w 148, 6, 0, 0, 1089, m_y0, .long 30),
  (6, .invokestatic 102, 9, 3, 0, 1037, y_O_within, .null),
  (9, .ifCond .eq 41, 12, 50, 0, 0, m_y0, .null),
  (12, .iload_n 3, 13, 3, 0, 0, m_y0, .null),
  (13, .ifCond .lt 37, 16, 50, 0, 0, m_y0, .null),
  (16, .aload_n 0, 17, 0, 0, 0, m_y0, .null),
  (17, .iload_n 3, 18, 3, 0, 0, m_y0, .null),
  (18, .sipush 1000, 21, 0, 0, 0, m_y0, .int 1000),
  (21, .idiv, 22, 0, 0, 0, m_y0, .null),
  (22, .invokevirtual 132, 25, 2, 0, 1076, y_O_isPart, .null),
  (25, .ifCond .eq 25, 28, 50, 0, 0, m_y0, .null),
  (28, .iload_n 3, 29, 3, 0, 0, m_y0, .null),
  (29, .bipush 100, 31, 0, 0, 0, m_y0, .int 100),
  (31, .idiv, 32, 0, 0, 0, m_y0, .null),
  (32, .bipush 10, 34, 0, 0, 0, m_y0, .int 10),
  (34, .irem, 35, 0, 0, 0, m_y0, .null),
  (35, .invokestatic 122, 38, 1, 0, 1058, y_O_isKind, .null),
  (38, .ifCond .eq 12, 41, 50, 0, 0, m_y0, .null),
  (41, .iload_n 3, 42, 3, 0, 0, m_y0, .null),
  (42, .bipush 100, 44, 0, 0, 0, m_y0, .int 100),
  (44, .irem, 45, 0, 0, 0, m_y0, .null),
  (45, .bipush 30, 47, 0, 0, 0, m_y0, .int 30),
  (47, .if_icmp .lt 5, 50, 52, 0, 0, m_y0, .null),
  (50, .iconst (-1), 51, 0, 0, 0, m_y0, .int (-1)),
  (51, .ireturn, 52, 0, 0, 0, m_y0, .null),
  (52, .iload_n 3, 53, 3, 0, 0, m_y0, .null),
  (53, .bipush 100, 55, 0, 0, 0, m_y0, .int 100),
  (55, .idiv, 56, 0, 0, 0, m_y0, .null),
  (56, .bipush 10, 58, 0, 0, 0, m_y0, .int 10),
  (58, .irem, 59, 0, 0, 0, m_y0, .null),
  (59, .istore 4, 61, 4, 0, 0, m_y0, .null),
  (61, .aload_n 0, 62, 0, 0, 0, m_y0, .null),
  (62, .iload_n 3, 63, 3, 0, 0, m_y0, .null),
  (63, .sipush 1000, 66, 0, 0, 0, m_y0, .int 1000),
  (66, .idiv, 67, 0, 0, 0, m_y0, .null),
  (67, .invokevirtual 217, 70, 2, 0, 1164, y_O_looksAt, .null),
  (70, .iload_n 1, 71, 1, 0, 0, m_y0, .null),
  (71, .istore 5, 73, 5, 0, 0, m_y0, .null),
  (73, .iconst 0, 74, 0, 0, 0, m_y0, .int 0),
  (74, .istore 6, 76, 6, 0, 0, m_y0, .null),
  (76, .iconst 0, 77, 0, 0, 0, m_y0, .int 0),
  (77, .istore 7, 79, 7, 0, 0, m_y0, .null),
  (79, .iload 7, 81, 7, 0, 0, m_y0, .null),
  (81, .iload_n 2, 82, 2, 0, 0, m_y0, .null),
  (82, .if_icmp .ge 114, 85, 196, 0, 0, m_y0, .null),
  (85, .iconst 0, 86, 0, 0, 0, m_y0, .int 0),
  (86, .istore 8, 88, 8, 0, 0, m_y0, .null)]
def M_O_drawn_1 : List (Nat × ME) := [
  (88, .iload 8, 90, 8, 0, 0, m_y0, .null),
  (90, .bipush 6, 92, 0, 0, 0, m_y0, .int 6),
  (92, .if_icmp .ge 66, 95, 158, 0, 0, m_y0, .null),
  (95, .iload 5, 97, 5, 0, 0, m_y0, .null),
  (97, .ldc_w 288, 100, 0, 0, 1293, m_y0, .int 1103515245),
  (100, .imul, 101, 0, 0, 0, m_y0, .null),
  (101, .sipush 12345, 104, 0, 0, 0, m_y0, .int 12345),
  (104, .iadd, 105, 0, 0, 0, m_y0, .null),
  (105, .istore 5, 107, 5, 0, 0, m_y0, .null),
  (107, .aload_n 0, 108, 0, 0, 0, m_y0, .null),
  (108, .getfield 46, 111, 9, 21, 912, m_y0, .null),
  (111, .iload 8, 113, 8, 0, 0, m_y0, .null),
  (113, .iload 5, 115, 5, 0, 0, m_y0, .null),
  (115, .bipush 8, 117, 0, 0, 0, m_y0, .int 8),
  (117, .iushr, 118, 0, 0, 0, m_y0, .null),
  (118, .bipush 100, 120, 0, 0, 0, m_y0, .int 100),
  (120, .irem, 121, 0, 0, 0, m_y0, .null),
  (121, .aload_n 0, 122, 0, 0, 0, m_y0, .null),
  (122, .getfield 43, 125, 9, 20, 911, m_y0, .null),
  (125, .sipush 180, 128, 0, 0, 0, m_y0, .int 180),
  (128, .iload 8, 130, 8, 0, 0, m_y0, .null),
  (130, .imul, 131, 0, 0, 0, m_y0, .null),
  (131, .bipush 30, 133, 0, 0, 0, m_y0, .int 30),
  (133, .iload 4, 135, 4, 0, 0, m_y0, .null),
  (135, .imul, 136, 0, 0, 0, m_y0, .null),
  (136, .iadd, 137, 0, 0, 0, m_y0, .null),
  (137, .iload_n 3, 138, 3, 0, 0, m_y0, .null),
  (138, .bipush 100, 140, 0, 0, 0, m_y0, .int 100),
  (140, .irem, 141, 0, 0, 0, m_y0, .null),
  (141, .iadd, 142, 0, 0, 0, m_y0, .null),
  (142, .iaload, 143, 0, 0, 0, m_y0, .null),
  (143, .if_icmp .ge 7, 146, 150, 0, 0, m_y0, .null),
  (146, .iconst 1, 147, 0, 0, 0, m_y0, .int 1),
  (147, .goto 4, 150, 151, 0, 0, m_y0, .null),
  (150, .iconst 2, 151, 0, 0, 0, m_y0, .int 2),
  (151, .iastore, 152, 0, 0, 0, m_y0, .null),
  (152, .iinc 8 1, 155, 8, 0, 0, m_y0, .int 1),
  (155, .goto (-67), 158, 88, 0, 0, m_y0, .null),
  (158, .aload_n 0, 159, 0, 0, 0, m_y0, .null),
  (159, .invokevirtual 221, 162, 1, 0, 1168, y_O_weighs, .null),
  (162, .iload 6, 164, 6, 0, 0, m_y0, .null),
  (164, .aload_n 0, 165, 0, 0, 0, m_y0, .null),
  (165, .getfield 211, 168, 9, 24, 915, m_y0, .null),
  (168, .lconst 0, 169, 0, 0, 0, m_y0, .long 0),
  (169, .lcmp, 170, 0, 0, 0, m_y0, .null),
  (170, .ifCond .le 16, 173, 186, 0, 0, m_y0, .null),
  (173, .aload_n 0, 174, 0, 0, 0, m_y0, .null),
  (174, .invokevirtual 241, 177, 1, 0, 1188, y_O_mostOf, .null),
  (177, .iload 4, 179, 4, 0, 0, m_y0, .null),
  (179, .if_icmp .ne 7, 182, 186, 0, 0, m_y0, .null)]
def M_O_drawn_2 : List (Nat × ME) := [
  (182, .iconst 1, 183, 0, 0, 0, m_y0, .int 1),
  (183, .goto 4, 186, 187, 0, 0, m_y0, .null),
  (186, .iconst 0, 187, 0, 0, 0, m_y0, .int 0),
  (187, .iadd, 188, 0, 0, 0, m_y0, .null),
  (188, .istore 6, 190, 6, 0, 0, m_y0, .null),
  (190, .iinc 7 1, 193, 7, 0, 0, m_y0, .int 1),
  (193, .goto (-114), 196, 79, 0, 0, m_y0, .null),
  (196, .iload 6, 198, 6, 0, 0, m_y0, .null),
  (198, .ireturn, 199, 0, 0, 0, m_y0, .null)]
def M_O_drawn : MD := (y_O_drawn, prog_11_method_65_code, 9, (some .int), (1, 3, 9), M_O_drawn_0 ++ (M_O_drawn_1 ++ (M_O_drawn_2)))
set_option maxRecDepth 100000 in
theorem k1_O_drawn_0 : M_O_drawn_0.all (m_eok y_O_drawn prog_11_method_65_code 9) = true := by decide +kernel
set_option maxRecDepth 100000 in
theorem k1_O_drawn_1 : M_O_drawn_1.all (m_eok y_O_drawn prog_11_method_65_code 9) = true := by decide +kernel
set_option maxRecDepth 100000 in
theorem k1_O_drawn_2 : M_O_drawn_2.all (m_eok y_O_drawn prog_11_method_65_code 9) = true := by decide +kernel
theorem k1_O_drawn : MOk1 M_O_drawn := m_ok1_of (m_all_app k1_O_drawn_0 (m_all_app k1_O_drawn_1 k1_O_drawn_2))
set_option maxRecDepth 100000 in
theorem k2_O_drawn : MOk2 M_O_drawn := m_ok2_spec (p0 := 1292) (p1 := 77) (p2 := 1290) (p3 := 1291) (by decide +kernel)
def M_O_image : MD := (y_O_image, prog_11_method_66_code, 2, (some .int), (1, 0, 9), [
  (0, .aload_n 0, 1, 0, 0, 0, m_y0, .null),
  (1, .iconst 1, 2, 0, 0, 0, m_y0, .int 1),
  (2, .putfield 289, 5, 9, 33, 924, m_y0, .int 1),
  (5, .aload_n 0, 6, 0, 0, 0, m_y0, .null),
  (6, .aload_n 0, 7, 0, 0, 0, m_y0, .null),
  (7, .getfield 99, 10, 9, 6, 897, m_y0, .null),
  (10, .putfield 293, 13, 9, 32, 923, m_y0, .int 0),
  (13, .iconst 0, 14, 0, 0, 0, m_y0, .int 0),
  (14, .istore_n 1, 15, 1, 0, 0, m_y0, .null),
  (15, .iload_n 1, 16, 1, 0, 0, m_y0, .null),
  (16, .bipush 48, 18, 0, 0, 0, m_y0, .int 48),
  (18, .if_icmp .ge 21, 21, 39, 0, 0, m_y0, .null),
  (21, .aload_n 0, 22, 0, 0, 0, m_y0, .null),
  (22, .getfield 71, 25, 9, 31, 922, m_y0, .null),
  (25, .iload_n 1, 26, 1, 0, 0, m_y0, .null),
  (26, .aload_n 0, 27, 0, 0, 0, m_y0, .null),
  (27, .getfield 28, 30, 9, 9, 900, m_y0, .null),
  (30, .iload_n 1, 31, 1, 0, 0, m_y0, .null),
  (31, .iaload, 32, 0, 0, 0, m_y0, .null),
  (32, .iastore, 33, 0, 0, 0, m_y0, .null),
  (33, .iinc 1 1, 36, 1, 0, 0, m_y0, .int 1),
  (36, .goto (-21), 39, 15, 0, 0, m_y0, .null),
  (39, .aload_n 0, 40, 0, 0, 0, m_y0, .null),
  (40, .getfield 99, 43, 9, 6, 897, m_y0, .null),
  (43, .ireturn, 44, 0, 0, 0, m_y0, .null)])
set_option maxRecDepth 100000 in
theorem k1_O_image : MOk1 M_O_image := m_ok1_of (by decide +kernel)
set_option maxRecDepth 100000 in
theorem k2_O_image : MOk2 M_O_image := m_ok2_spec (p0 := 1297) (p1 := 77) (p2 := 1295) (p3 := 1296) (by decide +kernel)
def M_O_back : MD := (y_O_back, prog_11_method_67_code, 2, (some .int), (1, 0, 9), [
  (0, .aload_n 0, 1, 0, 0, 0, m_y0, .null),
  (1, .getfield 289, 4, 9, 33, 924, m_y0, .null),
  (4, .ifCond .ne 6, 7, 10, 0, 0, m_y0, .null),
  (7, .bipush (-5), 9, 0, 0, 0, m_y0, .int (-5)),
  (9, .ireturn, 10, 0, 0, 0, m_y0, .null),
  (10, .iconst 0, 11, 0, 0, 0, m_y0, .int 0),
  (11, .istore_n 1, 12, 1, 0, 0, m_y0, .null),
  (12, .iload_n 1, 13, 1, 0, 0, m_y0, .null),
  (13, .bipush 48, 15, 0, 0, 0, m_y0, .int 48),
  (15, .if_icmp .ge 36, 18, 51, 0, 0, m_y0, .null),
  (18, .aload_n 0, 19, 0, 0, 0, m_y0, .null),
  (19, .getfield 28, 22, 9, 9, 900, m_y0, .null),
  (22, .iload_n 1, 23, 1, 0, 0, m_y0, .null),
  (23, .iload_n 1, 24, 1, 0, 0, m_y0, .null),
  (24, .bipush 6, 26, 0, 0, 0, m_y0, .int 6),
  (26, .aload_n 0, 27, 0, 0, 0, m_y0, .null),
  (27, .getfield 293, 30, 9, 32, 923, m_y0, .null),
  (30, .imul, 31, 0, 0, 0, m_y0, .null),
  (31, .if_icmp .ge 12, 34, 43, 0, 0, m_y0, .null),
  (34, .aload_n 0, 35, 0, 0, 0, m_y0, .null),
  (35, .getfield 71, 38, 9, 31, 922, m_y0, .null),
  (38, .iload_n 1, 39, 1, 0, 0, m_y0, .null),
  (39, .iaload, 40, 0, 0, 0, m_y0, .null),
  (40, .goto 4, 43, 44, 0, 0, m_y0, .null),
  (43, .iconst 0, 44, 0, 0, 0, m_y0, .int 0),
  (44, .iastore, 45, 0, 0, 0, m_y0, .null),
  (45, .iinc 1 1, 48, 1, 0, 0, m_y0, .int 1),
  (48, .goto (-36), 51, 12, 0, 0, m_y0, .null),
  (51, .aload_n 0, 52, 0, 0, 0, m_y0, .null),
  (52, .getfield 99, 55, 9, 6, 897, m_y0, .null),
  (55, .ireturn, 56, 0, 0, 0, m_y0, .null)])
set_option maxRecDepth 100000 in
theorem k1_O_back : MOk1 M_O_back := m_ok1_of (by decide +kernel)
set_option maxRecDepth 100000 in
theorem k2_O_back : MOk2 M_O_back := m_ok2_spec (p0 := 1301) (p1 := 77) (p2 := 1299) (p3 := 1300) (by decide +kernel)
def M_O_lookedFor : MD := (y_O_lookedFor, prog_11_method_68_code, 3, (some .int), (1, 0, 9), [
  (0, .iconst 0, 1, 0, 0, 0, m_y0, .int 0),
  (1, .istore_n 1, 2, 1, 0, 0, m_y0, .null),
  (2, .iconst 0, 3, 0, 0, 0, m_y0, .int 0),
  (3, .istore_n 2, 4, 2, 0, 0, m_y0, .null),
  (4, .iload_n 2, 5, 2, 0, 0, m_y0, .null),
  (5, .bipush 6, 7, 0, 0, 0, m_y0, .int 6),
  (7, .aload_n 0, 8, 0, 0, 0, m_y0, .null),
  (8, .getfield 99, 11, 9, 6, 897, m_y0, .null),
  (11, .imul, 12, 0, 0, 0, m_y0, .null),
  (12, .if_icmp .ge 26, 15, 38, 0, 0, m_y0, .null),
  (15, .iload_n 1, 16, 1, 0, 0, m_y0, .null),
  (16, .aload_n 0, 17, 0, 0, 0, m_y0, .null),
  (17, .getfield 28, 20, 9, 9, 900, m_y0, .null),
  (20, .iload_n 2, 21, 2, 0, 0, m_y0, .null),
  (21, .iaload, 22, 0, 0, 0, m_y0, .null),
  (22, .ifCond .le 7, 25, 29, 0, 0, m_y0, .null),
  (25, .iconst 1, 26, 0, 0, 0, m_y0, .int 1),
  (26, .goto 4, 29, 30, 0, 0, m_y0, .null),
  (29, .iconst 0, 30, 0, 0, 0, m_y0, .int 0),
  (30, .iadd, 31, 0, 0, 0, m_y0, .null),
  (31, .istore_n 1, 32, 1, 0, 0, m_y0, .null),
  (32, .iinc 2 1, 35, 2, 0, 0, m_y0, .int 1),
  (35, .goto (-31), 38, 4, 0, 0, m_y0, .null),
  (38, .iload_n 1, 39, 1, 0, 0, m_y0, .null),
  (39, .ireturn, 40, 0, 0, 0, m_y0, .null)])
set_option maxRecDepth 100000 in
theorem k1_O_lookedFor : MOk1 M_O_lookedFor := m_ok1_of (by decide +kernel)
set_option maxRecDepth 100000 in
theorem k2_O_lookedFor : MOk2 M_O_lookedFor := m_ok2_spec (p0 := 1385) (p1 := 77) (p2 := 1384) (p3 := 67) (by decide +kernel)
def M_O_isBody : MD := (y_O_isBody, prog_11_method_69_code, 2, (some .boolean), (1, 1, 9), [
  (0, .iload_n 1, 1, 1, 0, 0, m_y0, .null),
  (1, .i2l, 2, 0, 0, 0, m_y0, .null),
  (2, .lconst 0, 3, 0, 0, 0, m_y0, .long 0),
  (3, .aload_n 0, 4, 0, 0, 0, m_y0, .null),
  (4, .getfield 296, 7, 9, 34, 925, m_y0, .null),
  (7, .iconst 1, 8, 0, 0, 0, m_y0, .int 1),
  (8, .isub, 9, 0, 0, 0, m_y0, .null),
  (9, .i2l, 10, 0, 0, 0, m_y0, .null),
  (10, .invokestatic 102, 13, 3, 0, 1037, y_O_within, .null),
  (13, .ireturn, 14, 0, 0, 0, m_y0, .null)])
set_option maxRecDepth 100000 in
theorem k1_O_isBody : MOk1 M_O_isBody := m_ok1_of (by decide +kernel)
set_option maxRecDepth 100000 in
theorem k2_O_isBody : MOk2 M_O_isBody := m_ok2_spec (p0 := 1314) (p1 := 77) (p2 := 1313) (p3 := 59) (by decide +kernel)
def M_O_kindOf : MD := (y_O_kindOf, prog_11_method_70_code, 2, (some .int), (1, 1, 9), [
  (0, .aload_n 0, 1, 0, 0, 0, m_y0, .null),
  (1, .getfield 74, 4, 9, 35, 926, m_y0, .null),
  (4, .iload_n 1, 5, 1, 0, 0, m_y0, .null),
  (5, .iaload, 6, 0, 0, 0, m_y0, .null),
  (6, .ireturn, 7, 0, 0, 0, m_y0, .null)])
set_option maxRecDepth 100000 in
theorem k1_O_kindOf : MOk1 M_O_kindOf := m_ok1_of (by decide +kernel)
set_option maxRecDepth 100000 in
theorem k2_O_kindOf : MOk2 M_O_kindOf := m_ok2_spec (p0 := 1374) (p1 := 77) (p2 := 1373) (p3 := 66) (by decide +kernel)
def M_O_body : MD := (y_O_body, prog_11_method_71_code, 2, (some .int), (1, 1, 9), [
  (0, .iload_n 1, 1, 1, 0, 0, m_y0, .null),
  (1, .i2l, 2, 0, 0, 0, m_y0, .null),
  (2, .lconst 0, 3, 0, 0, 0, m_y0, .long 0),
  (3, .ldc2_w 299, 6, 0, 0, 1306, m_y0, .long 7),
  (6, .invokestatic 102, 9, 3, 0, 1037, y_O_within, .null),
  (9, .ifCond .ne 5, 12, 14, 0, 0, m_y0, .null),
  (12, .iconst (-1), 13, 0, 0, 0, m_y0, .int (-1)),
  (13, .ireturn, 14, 0, 0, 0, m_y0, .null),
  (14, .aload_n 0, 15, 0, 0, 0, m_y0, .null),
  (15, .getfield 296, 18, 9, 34, 925, m_y0, .null),
  (18, .bipush 50, 20, 0, 0, 0, m_y0, .int 50),
  (20, .if_icmp .ne 6, 23, 26, 0, 0, m_y0, .null),
  (23, .bipush (-3), 25, 0, 0, 0, m_y0, .int (-3)),
  (25, .ireturn, 26, 0, 0, 0, m_y0, .null),
  (26, .aload_n 0, 27, 0, 0, 0, m_y0, .null),
  (27, .getfield 74, 30, 9, 35, 926, m_y0, .null),
  (30, .aload_n 0, 31, 0, 0, 0, m_y0, .null),
  (31, .getfield 296, 34, 9, 34, 925, m_y0, .null),
  (34, .iload_n 1, 35, 1, 0, 0, m_y0, .null),
  (35, .iastore, 36, 0, 0, 0, m_y0, .null),
  (36, .aload_n 0, 37, 0, 0, 0, m_y0, .null),
  (37, .dup, 38, 0, 0, 0, m_y0, .null),
  (38, .getfield 296, 41, 9, 34, 925, m_y0, .null),
  (41, .iconst 1, 42, 0, 0, 0, m_y0, .int 1),
  (42, .iadd, 43, 0, 0, 0, m_y0, .null),
  (43, .putfield 296, 46, 9, 34, 925, m_y0, .int 0),
  (46, .aload_n 0, 47, 0, 0, 0, m_y0, .null),
  (47, .getfield 296, 50, 9, 34, 925, m_y0, .null),
  (50, .iconst 1, 51, 0, 0, 0, m_y0, .int 1),
  (51, .isub, 52, 0, 0, 0, m_y0, .null),
  (52, .ireturn, 53, 0, 0, 0, m_y0, .null)])
set_option maxRecDepth 100000 in
theorem k1_O_body : MOk1 M_O_body := m_ok1_of (by decide +kernel)
set_option maxRecDepth 100000 in
theorem k2_O_body : MOk2 M_O_body := m_ok2_spec (p0 := 1305) (p1 := 77) (p2 := 1303) (p3 := 1304) (by decide +kernel)
def M_O_above : MD := (y_O_above, prog_11_method_72_code, 1, (some .int), (0, 1, 9), [
  (0, .iload_n 0, 1, 0, 0, 0, m_y0, .null),
  (1, .iconst 3, 2, 0, 0, 0, m_y0, .int 3),
  (2, .if_icmp .ne 7, 5, 9, 0, 0, m_y0, .null),
  (5, .iconst 2, 6, 0, 0, 0, m_y0, .int 2),
  (6, .goto 32, 9, 38, 0, 0, m_y0, .null),
  (9, .iload_n 0, 10, 0, 0, 0, m_y0, .null),
  (10, .iconst 4, 11, 0, 0, 0, m_y0, .int 4),
  (11, .if_icmp .ne 7, 14, 18, 0, 0, m_y0, .null),
  (14, .iconst 1, 15, 0, 0, 0, m_y0, .int 1),
  (15, .goto 23, 18, 38, 0, 0, m_y0, .null),
  (18, .iload_n 0, 19, 0, 0, 0, m_y0, .null),
  (19, .iconst 5, 20, 0, 0, 0, m_y0, .int 5),
  (20, .if_icmp .ne 7, 23, 27, 0, 0, m_y0, .null),
  (23, .iconst 3, 24, 0, 0, 0, m_y0, .int 3),
  (24, .goto 14, 27, 38, 0, 0, m_y0, .null),
  (27, .iload_n 0, 28, 0, 0, 0, m_y0, .null),
  (28, .bipush 7, 30, 0, 0, 0, m_y0, .int 7),
  (30, .if_icmp .ne 7, 33, 37, 0, 0, m_y0, .null),
  (33, .iconst 4, 34, 0, 0, 0, m_y0, .int 4),
  (34, .goto 4, 37, 38, 0, 0, m_y0, .null),
  (37, .iconst 0, 38, 0, 0, 0, m_y0, .int 0),
  (38, .ireturn, 39, 0, 0, 0, m_y0, .null)])
set_option maxRecDepth 100000 in
theorem k1_O_above : MOk1 M_O_above := m_ok1_of (by decide +kernel)
set_option maxRecDepth 100000 in
theorem k2_O_above : MOk2 M_O_above := m_ok2_spec (p0 := 1377) (p1 := 77) (p2 := 1376) (p3 := 0) (by decide +kernel)
def M_O_begins : MD := (y_O_begins, prog_11_method_73_code, 2, none, (1, 1, 9), [
  (0, .aload_n 0, 1, 0, 0, 0, m_y0, .null),
  (1, .getfield 301, 4, 9, 37, 928, m_y0, .null),
  (4, .bipush 24, 6, 0, 0, 0, m_y0, .int 24),
  (6, .if_icmp .ge 13, 9, 19, 0, 0, m_y0, .null),
  (9, .aload_n 0, 10, 0, 0, 0, m_y0, .null),
  (10, .getfield 77, 13, 9, 36, 927, m_y0, .null),
  (13, .aload_n 0, 14, 0, 0, 0, m_y0, .null),
  (14, .getfield 301, 17, 9, 37, 928, m_y0, .null),
  (17, .iload_n 1, 18, 1, 0, 0, m_y0, .null),
  (18, .iastore, 19, 0, 0, 0, m_y0, .null),
  (19, .aload_n 0, 20, 0, 0, 0, m_y0, .null),
  (20, .dup, 21, 0, 0, 0, m_y0, .null),
  (21, .getfield 301, 24, 9, 37, 928, m_y0, .null),
  (24, .iconst 1, 25, 0, 0, 0, m_y0, .int 1),
  (25, .iadd, 26, 0, 0, 0, m_y0, .null),
  (26, .putfield 301, 29, 9, 37, 928, m_y0, .int 0),
  (29, .return_, 30, 0, 0, 0, m_y0, .null)])
set_option maxRecDepth 100000 in
theorem k1_O_begins : MOk1 M_O_begins := m_ok1_of (by decide +kernel)
set_option maxRecDepth 100000 in
theorem k2_O_begins : MOk2 M_O_begins := m_ok2_spec (p0 := 1322) (p1 := 77) (p2 := 1321) (p3 := 61) (by decide +kernel)
def M_O_agesAs : MD := (y_O_agesAs, prog_11_method_74_code, 3, (some .int), (1, 2, 9), [
  (0, .iload_n 1, 1, 1, 0, 0, m_y0, .null),
  (1, .iconst 1, 2, 0, 0, 0, m_y0, .int 1),
  (2, .if_icmp .eq 14, 5, 16, 0, 0, m_y0, .null),
  (5, .iload_n 1, 6, 1, 0, 0, m_y0, .null),
  (6, .iconst 4, 7, 0, 0, 0, m_y0, .int 4),
  (7, .if_icmp .eq 9, 10, 16, 0, 0, m_y0, .null),
  (10, .iload_n 1, 11, 1, 0, 0, m_y0, .null),
  (11, .bipush 7, 13, 0, 0, 0, m_y0, .int 7),
  (13, .if_icmp .ne 18, 16, 31, 0, 0, m_y0, .null),
  (16, .aload_n 0, 17, 0, 0, 0, m_y0, .null),
  (17, .bipush 20, 19, 0, 0, 0, m_y0, .int 20),
  (19, .invokevirtual 304, 22, 2, 0, 1319, y_O_begins, .null),
  (22, .aload_n 0, 23, 0, 0, 0, m_y0, .null),
  (23, .iconst 0, 24, 0, 0, 0, m_y0, .int 0),
  (24, .iload_n 2, 25, 2, 0, 0, m_y0, .null),
  (25, .invokevirtual 307, 28, 3, 0, 1315, y_O_agesAs, .null),
  (28, .iconst 3, 29, 0, 0, 0, m_y0, .int 3),
  (29, .iadd, 30, 0, 0, 0, m_y0, .null),
  (30, .ireturn, 31, 0, 0, 0, m_y0, .null),
  (31, .iload_n 1, 32, 1, 0, 0, m_y0, .null),
  (32, .bipush 6, 34, 0, 0, 0, m_y0, .int 6),
  (34, .if_icmp .ne 18, 37, 52, 0, 0, m_y0, .null),
  (37, .aload_n 0, 38, 0, 0, 0, m_y0, .null),
  (38, .bipush 70, 40, 0, 0, 0, m_y0, .int 70),
  (40, .invokevirtual 304, 43, 2, 0, 1319, y_O_begins, .null),
  (43, .aload_n 0, 44, 0, 0, 0, m_y0, .null),
  (44, .iconst 0, 45, 0, 0, 0, m_y0, .int 0),
  (45, .iload_n 2, 46, 2, 0, 0, m_y0, .null),
  (46, .invokevirtual 307, 49, 3, 0, 1315, y_O_agesAs, .null),
  (49, .iconst 2, 50, 0, 0, 0, m_y0, .int 2),
  (50, .imul, 51, 0, 0, 0, m_y0, .null),
  (51, .ireturn, 52, 0, 0, 0, m_y0, .null),
  (52, .aload_n 0, 53, 0, 0, 0, m_y0, .null),
  (53, .iconst 1, 54, 0, 0, 0, m_y0, .int 1),
  (54, .invokevirtual 304, 57, 2, 0, 1319, y_O_begins, .null),
  (57, .iload_n 2, 58, 2, 0, 0, m_y0, .null),
  (58, .aload_n 0, 59, 0, 0, 0, m_y0, .null),
  (59, .getfield 310, 62, 9, 39, 930, m_y0, .null),
  (62, .iadd, 63, 0, 0, 0, m_y0, .null),
  (63, .ireturn, 64, 0, 0, 0, m_y0, .null)])
set_option maxRecDepth 100000 in
theorem k1_O_agesAs : MOk1 M_O_agesAs := m_ok1_of (by decide +kernel)
set_option maxRecDepth 100000 in
theorem k2_O_agesAs : MOk2 M_O_agesAs := m_ok2_spec (p0 := 1318) (p1 := 77) (p2 := 1317) (p3 := 60) (by decide +kernel)
def M_O_joinsAs : MD := (y_O_joinsAs, prog_11_method_75_code, 4, (some .int), (1, 2, 9), [
  (0, .iload_n 1, 1, 1, 0, 0, m_y0, .null),
  (1, .iconst 3, 2, 0, 0, 0, m_y0, .int 3),
  (2, .if_icmp .eq 8, 5, 10, 0, 0, m_y0, .null),
  (5, .iload_n 1, 6, 1, 0, 0, m_y0, .null),
  (6, .iconst 5, 7, 0, 0, 0, m_y0, .int 5),
  (7, .if_icmp .ne 18, 10, 25, 0, 0, m_y0, .null),
  (10, .aload_n 0, 11, 0, 0, 0, m_y0, .null),
  (11, .bipush 41, 13, 0, 0, 0, m_y0, .int 41),
  (13, .invokevirtual 304, 16, 2, 0, 1319, y_O_begins, .null),
  (16, .aload_n 0, 17, 0, 0, 0, m_y0, .null),
  (17, .iconst 2, 18, 0, 0, 0, m_y0, .int 2),
  (18, .iload_n 2, 19, 2, 0, 0, m_y0, .null),
  (19, .iconst 1, 20, 0, 0, 0, m_y0, .int 1),
  (20, .iadd, 21, 0, 0, 0, m_y0, .null),
  (21, .invokevirtual 313, 24, 3, 0, 1323, y_O_joinsAs, .null),
  (24, .ireturn, 25, 0, 0, 0, m_y0, .null),
  (25, .iload_n 1, 26, 1, 0, 0, m_y0, .null),
  (26, .iconst 2, 27, 0, 0, 0, m_y0, .int 2),
  (27, .if_icmp .ne 17, 30, 44, 0, 0, m_y0, .null),
  (30, .aload_n 0, 31, 0, 0, 0, m_y0, .null),
  (31, .bipush 30, 33, 0, 0, 0, m_y0, .int 30),
  (33, .invokevirtual 304, 36, 2, 0, 1319, y_O_begins, .null),
  (36, .aload_n 0, 37, 0, 0, 0, m_y0, .null),
  (37, .iconst 0, 38, 0, 0, 0, m_y0, .int 0),
  (38, .iload_n 2, 39, 2, 0, 0, m_y0, .null),
  (39, .invokevirtual 313, 42, 3, 0, 1323, y_O_joinsAs, .null),
  (42, .ineg, 43, 0, 0, 0, m_y0, .null),
  (43, .ireturn, 44, 0, 0, 0, m_y0, .null),
  (44, .iload_n 1, 45, 1, 0, 0, m_y0, .null),
  (45, .bipush 7, 47, 0, 0, 0, m_y0, .int 7),
  (47, .if_icmp .ne 28, 50, 75, 0, 0, m_y0, .null),
  (50, .aload_n 0, 51, 0, 0, 0, m_y0, .null),
  (51, .bipush 80, 53, 0, 0, 0, m_y0, .int 80),
  (53, .invokevirtual 304, 56, 2, 0, 1319, y_O_begins, .null),
  (56, .aload_n 0, 57, 0, 0, 0, m_y0, .null),
  (57, .iconst 4, 58, 0, 0, 0, m_y0, .int 4),
  (58, .iload_n 2, 59, 2, 0, 0, m_y0, .null),
  (59, .invokevirtual 313, 62, 3, 0, 1323, y_O_joinsAs, .null),
  (62, .istore_n 3, 63, 3, 0, 0, m_y0, .null),
  (63, .iload_n 3, 64, 3, 0, 0, m_y0, .null),
  (64, .aload_n 0, 65, 0, 0, 0, m_y0, .null),
  (65, .aload_n 0, 66, 0, 0, 0, m_y0, .null),
  (66, .getfield 316, 69, 9, 38, 929, m_y0, .null),
  (69, .iconst 2, 70, 0, 0, 0, m_y0, .int 2),
  (70, .invokevirtual 319, 73, 3, 0, 1327, y_O_showsAs, .null),
  (73, .iadd, 74, 0, 0, 0, m_y0, .null),
  (74, .ireturn, 75, 0, 0, 0, m_y0, .null),
  (75, .aload_n 0, 76, 0, 0, 0, m_y0, .null),
  (76, .bipush 10, 78, 0, 0, 0, m_y0, .int 10),
  (78, .invokevirtual 304, 81, 2, 0, 1319, y_O_begins, .null),
  (81, .aload_n 0, 82, 0, 0, 0, m_y0, .null),
  (82, .aload_n 0, 83, 0, 0, 0, m_y0, .null),
  (83, .getfield 316, 86, 9, 38, 929, m_y0, .null),
  (86, .iload_n 2, 87, 2, 0, 0, m_y0, .null),
  (87, .invokevirtual 307, 90, 3, 0, 1315, y_O_agesAs, .null),
  (90, .iconst 2, 91, 0, 0, 0, m_y0, .int 2),
  (91, .imul, 92, 0, 0, 0, m_y0, .null),
  (92, .ireturn, 93, 0, 0, 0, m_y0, .null)])
set_option maxRecDepth 100000 in
theorem k1_O_joinsAs : MOk1 M_O_joinsAs := m_ok1_of (by decide +kernel)
set_option maxRecDepth 100000 in
theorem k2_O_joinsAs : MOk2 M_O_joinsAs := m_ok2_spec (p0 := 1326) (p1 := 77) (p2 := 1325) (p3 := 62) (by decide +kernel)
def M_O_showsAs : MD := (y_O_showsAs, prog_11_method_76_code, 4, (some .int), (1, 2, 9), [
  (0, .iload_n 1, 1, 1, 0, 0, m_y0, .null),
  (1, .iconst 3, 2, 0, 0, 0, m_y0, .int 3),
  (2, .if_icmp .eq 8, 5, 10, 0, 0, m_y0, .null),
  (5, .iload_n 1, 6, 1, 0, 0, m_y0, .null),
  (6, .iconst 5, 7, 0, 0, 0, m_y0, .int 5),
  (7, .if_icmp .ne 18, 10, 25, 0, 0, m_y0, .null),
  (10, .aload_n 0, 11, 0, 0, 0, m_y0, .null),
  (11, .bipush 40, 13, 0, 0, 0, m_y0, .int 40),
  (13, .invokevirtual 304, 16, 2, 0, 1319, y_O_begins, .null),
  (16, .aload_n 0, 17, 0, 0, 0, m_y0, .null),
  (17, .iconst 2, 18, 0, 0, 0, m_y0, .int 2),
  (18, .iload_n 2, 19, 2, 0, 0, m_y0, .null),
  (19, .invokevirtual 319, 22, 3, 0, 1327, y_O_showsAs, .null),
  (22, .iconst 3, 23, 0, 0, 0, m_y0, .int 3),
  (23, .imul, 24, 0, 0, 0, m_y0, .null),
  (24, .ireturn, 25, 0, 0, 0, m_y0, .null),
  (25, .iload_n 1, 26, 1, 0, 0, m_y0, .null),
  (26, .iconst 4, 27, 0, 0, 0, m_y0, .int 4),
  (27, .if_icmp .eq 9, 30, 36, 0, 0, m_y0, .null),
  (30, .iload_n 1, 31, 1, 0, 0, m_y0, .null),
  (31, .bipush 7, 33, 0, 0, 0, m_y0, .int 7),
  (33, .if_icmp .ne 28, 36, 61, 0, 0, m_y0, .null),
  (36, .aload_n 0, 37, 0, 0, 0, m_y0, .null),
  (37, .bipush 50, 39, 0, 0, 0, m_y0, .int 50),
  (39, .invokevirtual 304, 42, 2, 0, 1319, y_O_begins, .null),
  (42, .aload_n 0, 43, 0, 0, 0, m_y0, .null),
  (43, .iconst 1, 44, 0, 0, 0, m_y0, .int 1),
  (44, .iload_n 2, 45, 2, 0, 0, m_y0, .null),
  (45, .invokevirtual 319, 48, 3, 0, 1327, y_O_showsAs, .null),
  (48, .istore_n 3, 49, 3, 0, 0, m_y0, .null),
  (49, .iload_n 3, 50, 3, 0, 0, m_y0, .null),
  (50, .aload_n 0, 51, 0, 0, 0, m_y0, .null),
  (51, .aload_n 0, 52, 0, 0, 0, m_y0, .null),
  (52, .getfield 316, 55, 9, 38, 929, m_y0, .null),
  (55, .iconst 2, 56, 0, 0, 0, m_y0, .int 2),
  (56, .invokevirtual 307, 59, 3, 0, 1315, y_O_agesAs, .null),
  (59, .isub, 60, 0, 0, 0, m_y0, .null),
  (60, .ireturn, 61, 0, 0, 0, m_y0, .null),
  (61, .aload_n 0, 62, 0, 0, 0, m_y0, .null),
  (62, .bipush 11, 64, 0, 0, 0, m_y0, .int 11),
  (64, .invokevirtual 304, 67, 2, 0, 1319, y_O_begins, .null),
  (67, .iload_n 2, 68, 2, 0, 0, m_y0, .null),
  (68, .aload_n 0, 69, 0, 0, 0, m_y0, .null),
  (69, .getfield 310, 72, 9, 39, 930, m_y0, .null),
  (72, .ixor, 73, 0, 0, 0, m_y0, .null),
  (73, .ireturn, 74, 0, 0, 0, m_y0, .null)])
set_option maxRecDepth 100000 in
theorem k1_O_showsAs : MOk1 M_O_showsAs := m_ok1_of (by decide +kernel)
set_option maxRecDepth 100000 in
theorem k2_O_showsAs : MOk2 M_O_showsAs := m_ok2_spec (p0 := 1330) (p1 := 77) (p2 := 1329) (p3 := 63) (by decide +kernel)
def M_O_tellsAs : MD := (y_O_tellsAs, prog_11_method_77_code, 4, (some .int), (1, 2, 9), [
  (0, .iload_n 1, 1, 1, 0, 0, m_y0, .null),
  (1, .iconst 5, 2, 0, 0, 0, m_y0, .int 5),
  (2, .if_icmp .ne 18, 5, 20, 0, 0, m_y0, .null),
  (5, .aload_n 0, 6, 0, 0, 0, m_y0, .null),
  (6, .bipush 60, 8, 0, 0, 0, m_y0, .int 60),
  (8, .invokevirtual 304, 11, 2, 0, 1319, y_O_begins, .null),
  (11, .aload_n 0, 12, 0, 0, 0, m_y0, .null),
  (12, .iconst 3, 13, 0, 0, 0, m_y0, .int 3),
  (13, .iload_n 2, 14, 2, 0, 0, m_y0, .null),
  (14, .invokevirtual 322, 17, 3, 0, 1331, y_O_tellsAs, .null),
  (17, .iconst 5, 18, 0, 0, 0, m_y0, .int 5),
  (18, .ixor, 19, 0, 0, 0, m_y0, .null),
  (19, .ireturn, 20, 0, 0, 0, m_y0, .null),
  (20, .iload_n 1, 21, 1, 0, 0, m_y0, .null),
  (21, .bipush 7, 23, 0, 0, 0, m_y0, .int 7),
  (23, .if_icmp .ne 18, 26, 41, 0, 0, m_y0, .null),
  (26, .aload_n 0, 27, 0, 0, 0, m_y0, .null),
  (27, .bipush 81, 29, 0, 0, 0, m_y0, .int 81),
  (29, .invokevirtual 304, 32, 2, 0, 1319, y_O_begins, .null),
  (32, .aload_n 0, 33, 0, 0, 0, m_y0, .null),
  (33, .iconst 4, 34, 0, 0, 0, m_y0, .int 4),
  (34, .iload_n 2, 35, 2, 0, 0, m_y0, .null),
  (35, .invokevirtual 322, 38, 3, 0, 1331, y_O_tellsAs, .null),
  (38, .iconst 1, 39, 0, 0, 0, m_y0, .int 1),
  (39, .isub, 40, 0, 0, 0, m_y0, .null),
  (40, .ireturn, 41, 0, 0, 0, m_y0, .null),
  (41, .aload_n 0, 42, 0, 0, 0, m_y0, .null),
  (42, .iconst 2, 43, 0, 0, 0, m_y0, .int 2),
  (43, .invokevirtual 304, 46, 2, 0, 1319, y_O_begins, .null),
  (46, .aload_n 0, 47, 0, 0, 0, m_y0, .null),
  (47, .aload_n 0, 48, 0, 0, 0, m_y0, .null),
  (48, .getfield 316, 51, 9, 38, 929, m_y0, .null),
  (51, .iload_n 2, 52, 2, 0, 0, m_y0, .null),
  (52, .invokevirtual 313, 55, 3, 0, 1323, y_O_joinsAs, .null),
  (55, .istore_n 3, 56, 3, 0, 0, m_y0, .null),
  (56, .iload_n 3, 57, 3, 0, 0, m_y0, .null),
  (57, .aload_n 0, 58, 0, 0, 0, m_y0, .null),
  (58, .aload_n 0, 59, 0, 0, 0, m_y0, .null),
  (59, .getfield 316, 62, 9, 38, 929, m_y0, .null),
  (62, .iconst 1, 63, 0, 0, 0, m_y0, .int 1),
  (63, .invokevirtual 319, 66, 3, 0, 1327, y_O_showsAs, .null),
  (66, .isub, 67, 0, 0, 0, m_y0, .null),
  (67, .ireturn, 68, 0, 0, 0, m_y0, .null)])
set_option maxRecDepth 100000 in
theorem k1_O_tellsAs : MOk1 M_O_tellsAs := m_ok1_of (by decide +kernel)
set_option maxRecDepth 100000 in
theorem k2_O_tellsAs : MOk2 M_O_tellsAs := m_ok2_spec (p0 := 1334) (p1 := 77) (p2 := 1333) (p3 := 64) (by decide +kernel)
def M_O_act : MD := (y_O_act, prog_11_method_78_code, 4, (some .int), (1, 3, 9), [
  (0, .aload_n 0, 1, 0, 0, 0, m_y0, .null),
  (1, .iconst 0, 2, 0, 0, 0, m_y0, .int 0),
  (2, .putfield 301, 5, 9, 37, 928, m_y0, .int 0),
  (5, .aload_n 0, 6, 0, 0, 0, m_y0, .null),
  (6, .iload_n 1, 7, 1, 0, 0, m_y0, .null),
  (7, .invokevirtual 325, 10, 2, 0, 1311, y_O_isBody, .null),
  (10, .ifCond .ne 5, 13, 15, 0, 0, m_y0, .null),
  (13, .iconst 0, 14, 0, 0, 0, m_y0, .int 0),
  (14, .ireturn, 15, 0, 0, 0, m_y0, .null),
  (15, .aload_n 0, 16, 0, 0, 0, m_y0, .null),
  (16, .aload_n 0, 17, 0, 0, 0, m_y0, .null),
  (17, .getfield 74, 20, 9, 35, 926, m_y0, .null),
  (20, .iload_n 1, 21, 1, 0, 0, m_y0, .null),
  (21, .iaload, 22, 0, 0, 0, m_y0, .null),
  (22, .putfield 316, 25, 9, 38, 929, m_y0, .int 0),
  (25, .aload_n 0, 26, 0, 0, 0, m_y0, .null),
  (26, .iload_n 1, 27, 1, 0, 0, m_y0, .null),
  (27, .putfield 310, 30, 9, 39, 930, m_y0, .int 0),
  (30, .iload_n 2, 31, 2, 0, 0, m_y0, .null),
  (31, .tableswitch 69 0 3 #[29, 39, 49, 59], 60, 29, 0, 0, m_y0, .null),
  (60, .aload_n 0, 61, 0, 0, 0, m_y0, .null),
  (61, .aload_n 0, 62, 0, 0, 0, m_y0, .null),
  (62, .getfield 316, 65, 9, 38, 929, m_y0, .null),
  (65, .iload_n 3, 66, 3, 0, 0, m_y0, .null),
  (66, .invokevirtual 307, 69, 3, 0, 1315, y_O_agesAs, .null),
  (69, .ireturn, 70, 0, 0, 0, m_y0, .null),
  (70, .aload_n 0, 71, 0, 0, 0, m_y0, .null),
  (71, .aload_n 0, 72, 0, 0, 0, m_y0, .null),
  (72, .getfield 316, 75, 9, 38, 929, m_y0, .null),
  (75, .iload_n 3, 76, 3, 0, 0, m_y0, .null),
  (76, .invokevirtual 313, 79, 3, 0, 1323, y_O_joinsAs, .null),
  (79, .ireturn, 80, 0, 0, 0, m_y0, .null),
  (80, .aload_n 0, 81, 0, 0, 0, m_y0, .null),
  (81, .aload_n 0, 82, 0, 0, 0, m_y0, .null),
  (82, .getfield 316, 85, 9, 38, 929, m_y0, .null),
  (85, .iload_n 3, 86, 3, 0, 0, m_y0, .null),
  (86, .invokevirtual 319, 89, 3, 0, 1327, y_O_showsAs, .null),
  (89, .ireturn, 90, 0, 0, 0, m_y0, .null),
  (90, .aload_n 0, 91, 0, 0, 0, m_y0, .null),
  (91, .aload_n 0, 92, 0, 0, 0, m_y0, .null),
  (92, .getfield 316, 95, 9, 38, 929, m_y0, .null),
  (95, .iload_n 3, 96, 3, 0, 0, m_y0, .null),
  (96, .invokevirtual 322, 99, 3, 0, 1331, y_O_tellsAs, .null),
  (99, .ireturn, 100, 0, 0, 0, m_y0, .null),
  (100, .iconst 0, 101, 0, 0, 0, m_y0, .int 0),
  (101, .ireturn, 102, 0, 0, 0, m_y0, .null)])
set_option maxRecDepth 100000 in
theorem k1_O_act : MOk1 M_O_act := m_ok1_of (by decide +kernel)
set_option maxRecDepth 100000 in
theorem k2_O_act : MOk2 M_O_act := m_ok2_spec (p0 := 1310) (p1 := 77) (p2 := 1308) (p3 := 1309) (by decide +kernel)
def M_O_trace : MD := (y_O_trace, prog_11_method_79_code, 2, (some .int), (1, 1, 9), [
  (0, .iload_n 1, 1, 1, 0, 0, m_y0, .null),
  (1, .ifCond .lt 26, 4, 27, 0, 0, m_y0, .null),
  (4, .iload_n 1, 5, 1, 0, 0, m_y0, .null),
  (5, .aload_n 0, 6, 0, 0, 0, m_y0, .null),
  (6, .getfield 301, 9, 9, 37, 928, m_y0, .null),
  (9, .if_icmp .ge 18, 12, 27, 0, 0, m_y0, .null),
  (12, .iload_n 1, 13, 1, 0, 0, m_y0, .null),
  (13, .bipush 24, 15, 0, 0, 0, m_y0, .int 24),
  (15, .if_icmp .ge 12, 18, 27, 0, 0, m_y0, .null),
  (18, .aload_n 0, 19, 0, 0, 0, m_y0, .null),
  (19, .getfield 77, 22, 9, 36, 927, m_y0, .null),
  (22, .iload_n 1, 23, 1, 0, 0, m_y0, .null),
  (23, .iaload, 24, 0, 0, 0, m_y0, .null),
  (24, .goto 4, 27, 28, 0, 0, m_y0, .null),
  (27, .iconst (-1), 28, 0, 0, 0, m_y0, .int (-1)),
  (28, .ireturn, 29, 0, 0, 0, m_y0, .null)])
set_option maxRecDepth 100000 in
theorem k1_O_trace : MOk1 M_O_trace := m_ok1_of (by decide +kernel)
set_option maxRecDepth 100000 in
theorem k2_O_trace : MOk2 M_O_trace := m_ok2_spec (p0 := 1338) (p1 := 77) (p2 := 1336) (p3 := 1337) (by decide +kernel)
def M_O_isShelf : MD := (y_O_isShelf, prog_11_method_80_code, 1, (some .boolean), (0, 1, 9), [
  (0, .iload_n 0, 1, 0, 0, 0, m_y0, .null),
  (1, .i2l, 2, 0, 0, 0, m_y0, .null),
  (2, .lconst 0, 3, 0, 0, 0, m_y0, .long 0),
  (3, .ldc2_w 106, 6, 0, 0, 1051, m_y0, .long 5),
  (6, .invokestatic 102, 9, 3, 0, 1037, y_O_within, .null),
  (9, .ireturn, 10, 0, 0, 0, m_y0, .null)])
set_option maxRecDepth 100000 in
theorem k1_O_isShelf : MOk1 M_O_isShelf := m_ok1_of (by decide +kernel)
set_option maxRecDepth 100000 in
theorem k2_O_isShelf : MOk2 M_O_isShelf := m_ok2_spec (p0 := 1050) (p1 := 77) (p2 := 1049) (p3 := 0) (by decide +kernel)
def M_O_keep : MD := (y_O_keep, prog_11_method_81_code, 3, (some .int), (1, 2, 9), [
  (0, .iload_n 1, 1, 1, 0, 0, m_y0, .null),
  (1, .invokestatic 114, 4, 1, 0, 1048, y_O_isShelf, .null),
  (4, .ifCond .eq 16, 7, 20, 0, 0, m_y0, .null),
  (7, .iload_n 2, 8, 2, 0, 0, m_y0, .null),
  (8, .iconst (-1), 9, 0, 0, 0, m_y0, .int (-1)),
  (9, .if_icmp .eq 13, 12, 22, 0, 0, m_y0, .null),
  (12, .aload_n 0, 13, 0, 0, 0, m_y0, .null),
  (13, .iload_n 2, 14, 2, 0, 0, m_y0, .null),
  (14, .invokevirtual 325, 17, 2, 0, 1311, y_O_isBody, .null),
  (17, .ifCond .ne 5, 20, 22, 0, 0, m_y0, .null),
  (20, .iconst (-1), 21, 0, 0, 0, m_y0, .int (-1)),
  (21, .ireturn, 22, 0, 0, 0, m_y0, .null),
  (22, .aload_n 0, 23, 0, 0, 0, m_y0, .null),
  (23, .getfield 80, 26, 9, 40, 931, m_y0, .null),
  (26, .iload_n 1, 27, 1, 0, 0, m_y0, .null),
  (27, .iload_n 2, 28, 2, 0, 0, m_y0, .null),
  (28, .iastore, 29, 0, 0, 0, m_y0, .null),
  (29, .aload_n 0, 30, 0, 0, 0, m_y0, .null),
  (30, .getfield 83, 33, 9, 41, 932, m_y0, .null),
  (33, .iload_n 1, 34, 1, 0, 0, m_y0, .null),
  (34, .iconst 0, 35, 0, 0, 0, m_y0, .int 0),
  (35, .iastore, 36, 0, 0, 0, m_y0, .null),
  (36, .iconst 1, 37, 0, 0, 0, m_y0, .int 1),
  (37, .ireturn, 38, 0, 0, 0, m_y0, .null)])
set_option maxRecDepth 100000 in
theorem k1_O_keep : MOk1 M_O_keep := m_ok1_of (by decide +kernel)
set_option maxRecDepth 100000 in
theorem k2_O_keep : MOk2 M_O_keep := m_ok2_spec (p0 := 1342) (p1 := 77) (p2 := 1340) (p3 := 1341) (by decide +kernel)
def M_O_row : MD := (y_O_row, prog_11_method_82_code, 5, (some .int), (1, 3, 9), [
  (0, .iload_n 1, 1, 1, 0, 0, m_y0, .null),
  (1, .invokestatic 114, 4, 1, 0, 1048, y_O_isShelf, .null),
  (4, .ifCond .eq 21, 7, 25, 0, 0, m_y0, .null),
  (7, .iload_n 2, 8, 2, 0, 0, m_y0, .null),
  (8, .i2l, 9, 0, 0, 0, m_y0, .null),
  (9, .lconst 0, 10, 0, 0, 0, m_y0, .long 0),
  (10, .ldc2_w 328, 13, 0, 0, 1347, m_y0, .long 4),
  (13, .invokestatic 102, 16, 3, 0, 1037, y_O_within, .null),
  (16, .ifCond .eq 9, 19, 25, 0, 0, m_y0, .null),
  (19, .iload_n 3, 20, 3, 0, 0, m_y0, .null),
  (20, .bipush 60, 22, 0, 0, 0, m_y0, .int 60),
  (22, .if_icmp .le 5, 25, 27, 0, 0, m_y0, .null),
  (25, .iconst (-1), 26, 0, 0, 0, m_y0, .int (-1)),
  (26, .ireturn, 27, 0, 0, 0, m_y0, .null),
  (27, .iload_n 3, 28, 3, 0, 0, m_y0, .null),
  (28, .ifCond .ge 6, 31, 34, 0, 0, m_y0, .null),
  (31, .bipush (-14), 33, 0, 0, 0, m_y0, .int (-14)),
  (33, .ireturn, 34, 0, 0, 0, m_y0, .null),
  (34, .aload_n 0, 35, 0, 0, 0, m_y0, .null),
  (35, .getfield 80, 38, 9, 40, 931, m_y0, .null),
  (38, .iload_n 1, 39, 1, 0, 0, m_y0, .null),
  (39, .bipush 50, 41, 0, 0, 0, m_y0, .int 50),
  (41, .iload_n 2, 42, 2, 0, 0, m_y0, .null),
  (42, .iadd, 43, 0, 0, 0, m_y0, .null),
  (43, .iastore, 44, 0, 0, 0, m_y0, .null),
  (44, .aload_n 0, 45, 0, 0, 0, m_y0, .null),
  (45, .getfield 83, 48, 9, 41, 932, m_y0, .null),
  (48, .iload_n 1, 49, 1, 0, 0, m_y0, .null),
  (49, .iload_n 3, 50, 3, 0, 0, m_y0, .null),
  (50, .iastore, 51, 0, 0, 0, m_y0, .null),
  (51, .bipush 60, 53, 0, 0, 0, m_y0, .int 60),
  (53, .iload_n 1, 54, 1, 0, 0, m_y0, .null),
  (54, .imul, 55, 0, 0, 0, m_y0, .null),
  (55, .istore 4, 57, 4, 0, 0, m_y0, .null),
  (57, .iload 4, 59, 4, 0, 0, m_y0, .null),
  (59, .bipush 60, 61, 0, 0, 0, m_y0, .int 60),
  (61, .iload_n 1, 62, 1, 0, 0, m_y0, .null),
  (62, .imul, 63, 0, 0, 0, m_y0, .null),
  (63, .bipush 60, 65, 0, 0, 0, m_y0, .int 60),
  (65, .iadd, 66, 0, 0, 0, m_y0, .null),
  (66, .if_icmp .ge 17, 69, 83, 0, 0, m_y0, .null),
  (69, .aload_n 0, 70, 0, 0, 0, m_y0, .null),
  (70, .getfield 86, 73, 9, 42, 933, m_y0, .null),
  (73, .iload 4, 75, 4, 0, 0, m_y0, .null),
  (75, .lconst 0, 76, 0, 0, 0, m_y0, .long 0),
  (76, .lastore, 77, 0, 0, 0, m_y0, .null),
  (77, .iinc 4 1, 80, 4, 0, 0, m_y0, .int 1),
  (80, .goto (-23), 83, 57, 0, 0, m_y0, .null),
  (83, .iconst 1, 84, 0, 0, 0, m_y0, .int 1),
  (84, .ireturn, 85, 0, 0, 0, m_y0, .null)])
set_option maxRecDepth 100000 in
theorem k1_O_row : MOk1 M_O_row := m_ok1_of (by decide +kernel)
set_option maxRecDepth 100000 in
theorem k2_O_row : MOk2 M_O_row := m_ok2_spec (p0 := 1346) (p1 := 77) (p2 := 1344) (p3 := 1345) (by decide +kernel)
def M_O_refusal : MD := (y_O_refusal, prog_11_method_83_code, 3, (some .int), (1, 2, 9), [
  (0, .iload_n 1, 1, 1, 0, 0, m_y0, .null),
  (1, .invokestatic 114, 4, 1, 0, 1048, y_O_isShelf, .null),
  (4, .ifCond .ne 5, 7, 9, 0, 0, m_y0, .null),
  (7, .iconst (-1), 8, 0, 0, 0, m_y0, .int (-1)),
  (8, .ireturn, 9, 0, 0, 0, m_y0, .null),
  (9, .aload_n 0, 10, 0, 0, 0, m_y0, .null),
  (10, .getfield 80, 13, 9, 40, 931, m_y0, .null),
  (13, .iload_n 1, 14, 1, 0, 0, m_y0, .null),
  (14, .iaload, 15, 0, 0, 0, m_y0, .null),
  (15, .ifCond .ge 6, 18, 21, 0, 0, m_y0, .null),
  (18, .bipush (-11), 20, 0, 0, 0, m_y0, .int (-11)),
  (20, .ireturn, 21, 0, 0, 0, m_y0, .null),
  (21, .aload_n 0, 22, 0, 0, 0, m_y0, .null),
  (22, .getfield 80, 25, 9, 40, 931, m_y0, .null),
  (25, .iload_n 1, 26, 1, 0, 0, m_y0, .null),
  (26, .iaload, 27, 0, 0, 0, m_y0, .null),
  (27, .bipush 50, 29, 0, 0, 0, m_y0, .int 50),
  (29, .if_icmp .ge 6, 32, 35, 0, 0, m_y0, .null),
  (32, .bipush (-12), 34, 0, 0, 0, m_y0, .int (-12)),
  (34, .ireturn, 35, 0, 0, 0, m_y0, .null),
  (35, .iload_n 2, 36, 2, 0, 0, m_y0, .null),
  (36, .ifCond .lt 17, 39, 53, 0, 0, m_y0, .null),
  (39, .iload_n 2, 40, 2, 0, 0, m_y0, .null),
  (40, .aload_n 0, 41, 0, 0, 0, m_y0, .null),
  (41, .getfield 83, 44, 9, 41, 932, m_y0, .null),
  (44, .iload_n 1, 45, 1, 0, 0, m_y0, .null),
  (45, .iaload, 46, 0, 0, 0, m_y0, .null),
  (46, .if_icmp .ge 7, 49, 53, 0, 0, m_y0, .null),
  (49, .iconst 0, 50, 0, 0, 0, m_y0, .int 0),
  (50, .goto 5, 53, 55, 0, 0, m_y0, .null),
  (53, .bipush (-13), 55, 0, 0, 0, m_y0, .int (-13)),
  (55, .ireturn, 56, 0, 0, 0, m_y0, .null)])
set_option maxRecDepth 100000 in
theorem k1_O_refusal : MOk1 M_O_refusal := m_ok1_of (by decide +kernel)
set_option maxRecDepth 100000 in
theorem k2_O_refusal : MOk2 M_O_refusal := m_ok2_spec (p0 := 1355) (p1 := 77) (p2 := 1354) (p3 := 65) (by decide +kernel)
def M_O_asSort : MD := (y_O_asSort, prog_11_method_84_code, 3, (some .long), (0, 2, 9), [
  (0, .iload_n 0, 1, 0, 0, 0, m_y0, .null),
  (1, .ifCond .ne 10, 4, 11, 0, 0, m_y0, .null),
  (4, .lload_n 1, 5, 1, 0, 0, m_y0, .null),
  (5, .l2i, 6, 0, 0, 0, m_y0, .null),
  (6, .i2b, 7, 0, 0, 0, m_y0, .null),
  (7, .i2l, 8, 0, 0, 0, m_y0, .null),
  (8, .goto 46, 11, 54, 0, 0, m_y0, .null),
  (11, .iload_n 0, 12, 0, 0, 0, m_y0, .null),
  (12, .iconst 1, 13, 0, 0, 0, m_y0, .int 1),
  (13, .if_icmp .ne 10, 16, 23, 0, 0, m_y0, .null),
  (16, .lload_n 1, 17, 1, 0, 0, m_y0, .null),
  (17, .l2i, 18, 0, 0, 0, m_y0, .null),
  (18, .i2s, 19, 0, 0, 0, m_y0, .null),
  (19, .i2l, 20, 0, 0, 0, m_y0, .null),
  (20, .goto 34, 23, 54, 0, 0, m_y0, .null),
  (23, .iload_n 0, 24, 0, 0, 0, m_y0, .null),
  (24, .iconst 2, 25, 0, 0, 0, m_y0, .int 2),
  (25, .if_icmp .ne 9, 28, 34, 0, 0, m_y0, .null),
  (28, .lload_n 1, 29, 1, 0, 0, m_y0, .null),
  (29, .l2i, 30, 0, 0, 0, m_y0, .null),
  (30, .i2l, 31, 0, 0, 0, m_y0, .null),
  (31, .goto 23, 34, 54, 0, 0, m_y0, .null),
  (34, .iload_n 0, 35, 0, 0, 0, m_y0, .null),
  (35, .iconst 4, 36, 0, 0, 0, m_y0, .int 4),
  (36, .if_icmp .ne 17, 39, 53, 0, 0, m_y0, .null),
  (39, .lload_n 1, 40, 1, 0, 0, m_y0, .null),
  (40, .lconst 0, 41, 0, 0, 0, m_y0, .long 0),
  (41, .lcmp, 42, 0, 0, 0, m_y0, .null),
  (42, .ifCond .eq 7, 45, 49, 0, 0, m_y0, .null),
  (45, .lconst 1, 46, 0, 0, 0, m_y0, .long 1),
  (46, .goto 8, 49, 54, 0, 0, m_y0, .null),
  (49, .lconst 0, 50, 0, 0, 0, m_y0, .long 0),
  (50, .goto 4, 53, 54, 0, 0, m_y0, .null),
  (53, .lload_n 1, 54, 1, 0, 0, m_y0, .null),
  (54, .lreturn, 55, 0, 0, 0, m_y0, .null)])
set_option maxRecDepth 100000 in
theorem k1_O_asSort : MOk1 M_O_asSort := m_ok1_of (by decide +kernel)
set_option maxRecDepth 100000 in
theorem k2_O_asSort : MOk2 M_O_asSort := m_ok2_spec (p0 := 1358) (p1 := 77) (p2 := 1357) (p3 := 0) (by decide +kernel)
def M_O_put : MD := (y_O_put, prog_11_method_85_code, 6, (some .int), (1, 3, 9), [
  (0, .aload_n 0, 1, 0, 0, 0, m_y0, .null),
  (1, .iload_n 1, 2, 1, 0, 0, m_y0, .null),
  (2, .iload_n 2, 3, 2, 0, 0, m_y0, .null),
  (3, .invokevirtual 330, 6, 3, 0, 1352, y_O_refusal, .null),
  (6, .istore 5, 8, 5, 0, 0, m_y0, .null),
  (8, .iload 5, 10, 5, 0, 0, m_y0, .null),
  (10, .ifCond .ne 27, 13, 37, 0, 0, m_y0, .null),
  (13, .aload_n 0, 14, 0, 0, 0, m_y0, .null),
  (14, .getfield 86, 17, 9, 42, 933, m_y0, .null),
  (17, .bipush 60, 19, 0, 0, 0, m_y0, .int 60),
  (19, .iload_n 1, 20, 1, 0, 0, m_y0, .null),
  (20, .imul, 21, 0, 0, 0, m_y0, .null),
  (21, .iload_n 2, 22, 2, 0, 0, m_y0, .null),
  (22, .iadd, 23, 0, 0, 0, m_y0, .null),
  (23, .aload_n 0, 24, 0, 0, 0, m_y0, .null),
  (24, .getfield 80, 27, 9, 40, 931, m_y0, .null),
  (27, .iload_n 1, 28, 1, 0, 0, m_y0, .null),
  (28, .iaload, 29, 0, 0, 0, m_y0, .null),
  (29, .bipush 50, 31, 0, 0, 0, m_y0, .int 50),
  (31, .isub, 32, 0, 0, 0, m_y0, .null),
  (32, .lload_n 3, 33, 3, 0, 0, m_y0, .null),
  (33, .invokestatic 333, 36, 2, 0, 1356, y_O_asSort, .null),
  (36, .lastore, 37, 0, 0, 0, m_y0, .null),
  (37, .iload 5, 39, 5, 0, 0, m_y0, .null),
  (39, .ifCond .ne 7, 42, 46, 0, 0, m_y0, .null),
  (42, .iconst 1, 43, 0, 0, 0, m_y0, .int 1),
  (43, .goto 5, 46, 48, 0, 0, m_y0, .null),
  (46, .iload 5, 48, 5, 0, 0, m_y0, .null),
  (48, .ireturn, 49, 0, 0, 0, m_y0, .null)])
set_option maxRecDepth 100000 in
theorem k1_O_put : MOk1 M_O_put := m_ok1_of (by decide +kernel)
set_option maxRecDepth 100000 in
theorem k2_O_put : MOk2 M_O_put := m_ok2_spec (p0 := 1351) (p1 := 77) (p2 := 1349) (p3 := 1350) (by decide +kernel)
def M_O_element : MD := (y_O_element, prog_11_method_86_code, 3, (some .long), (1, 2, 9), [
  (0, .aload_n 0, 1, 0, 0, 0, m_y0, .null),
  (1, .iload_n 1, 2, 1, 0, 0, m_y0, .null),
  (2, .iload_n 2, 3, 2, 0, 0, m_y0, .null),
  (3, .invokevirtual 330, 6, 3, 0, 1352, y_O_refusal, .null),
  (6, .ifCond .eq 9, 9, 15, 0, 0, m_y0, .null),
  (9, .ldc2_w 229, 12, 0, 0, 1159, m_y0, .long (-9223372036854775808)),
  (12, .goto 14, 15, 26, 0, 0, m_y0, .null),
  (15, .aload_n 0, 16, 0, 0, 0, m_y0, .null),
  (16, .getfield 86, 19, 9, 42, 933, m_y0, .null),
  (19, .bipush 60, 21, 0, 0, 0, m_y0, .int 60),
  (21, .iload_n 1, 22, 1, 0, 0, m_y0, .null),
  (22, .imul, 23, 0, 0, 0, m_y0, .null),
  (23, .iload_n 2, 24, 2, 0, 0, m_y0, .null),
  (24, .iadd, 25, 0, 0, 0, m_y0, .null),
  (25, .laload, 26, 0, 0, 0, m_y0, .null),
  (26, .lreturn, 27, 0, 0, 0, m_y0, .null)])
set_option maxRecDepth 100000 in
theorem k1_O_element : MOk1 M_O_element := m_ok1_of (by decide +kernel)
set_option maxRecDepth 100000 in
theorem k2_O_element : MOk2 M_O_element := m_ok2_spec (p0 := 1362) (p1 := 77) (p2 := 1360) (p3 := 1361) (by decide +kernel)
def M_O_shift_0 : List (Nat × ME) := [
  (0, .iload_n 1, 1, 1, 0, 0, m_y0, .null),
  (1, .invokestatic 114, 4, 1, 0, 1048, y_O_isShelf, .null),
  (4, .ifCond .eq 10, 7, 14, 0, 0, m_y0, .null),
  (7, .iload_n 3, 8, 3, 0, 0, m_y0, .null),
  (8, .invokestatic 114, 11, 1, 0, 1048, y_O_isShelf, .null),
  (11, .ifCond .ne 5, 14, 16, 0, 0, m_y0, .null),
  (14, .iconst (-1), 15, 0, 0, 0, m_y0, .int (-1)),
  (15, .ireturn, 16, 0, 0, 0, m_y0, .null),
  (16, .aload_n 0, 17, 0, 0, 0, m_y0, .null),
  (17, .getfield 80, 20, 9, 40, 931, m_y0, .null),
  (20, .iload_n 1, 21, 1, 0, 0, m_y0, .null),
  (21, .iaload, 22, 0, 0, 0, m_y0, .null),
  (22, .ifCond .lt 12, 25, 34, 0, 0, m_y0, .null),
  (25, .aload_n 0, 26, 0, 0, 0, m_y0, .null),
  (26, .getfield 80, 29, 9, 40, 931, m_y0, .null),
  (29, .iload_n 3, 30, 3, 0, 0, m_y0, .null),
  (30, .iaload, 31, 0, 0, 0, m_y0, .null),
  (31, .ifCond .ge 6, 34, 37, 0, 0, m_y0, .null),
  (34, .bipush (-11), 36, 0, 0, 0, m_y0, .int (-11)),
  (36, .ireturn, 37, 0, 0, 0, m_y0, .null),
  (37, .aload_n 0, 38, 0, 0, 0, m_y0, .null),
  (38, .getfield 80, 41, 9, 40, 931, m_y0, .null),
  (41, .iload_n 1, 42, 1, 0, 0, m_y0, .null),
  (42, .iaload, 43, 0, 0, 0, m_y0, .null),
  (43, .bipush 50, 45, 0, 0, 0, m_y0, .int 50),
  (45, .if_icmp .lt 18, 48, 63, 0, 0, m_y0, .null),
  (48, .aload_n 0, 49, 0, 0, 0, m_y0, .null),
  (49, .getfield 80, 52, 9, 40, 931, m_y0, .null),
  (52, .iload_n 1, 53, 1, 0, 0, m_y0, .null),
  (53, .iaload, 54, 0, 0, 0, m_y0, .null),
  (54, .aload_n 0, 55, 0, 0, 0, m_y0, .null),
  (55, .getfield 80, 58, 9, 40, 931, m_y0, .null),
  (58, .iload_n 3, 59, 3, 0, 0, m_y0, .null),
  (59, .iaload, 60, 0, 0, 0, m_y0, .null),
  (60, .if_icmp .eq 6, 63, 66, 0, 0, m_y0, .null),
  (63, .bipush (-12), 65, 0, 0, 0, m_y0, .int (-12)),
  (65, .ireturn, 66, 0, 0, 0, m_y0, .null),
  (66, .iload 5, 68, 5, 0, 0, m_y0, .null),
  (68, .ifCond .lt 39, 71, 107, 0, 0, m_y0, .null),
  (71, .iload_n 2, 72, 2, 0, 0, m_y0, .null),
  (72, .ifCond .lt 35, 75, 107, 0, 0, m_y0, .null),
  (75, .iload 4, 77, 4, 0, 0, m_y0, .null),
  (77, .ifCond .lt 30, 80, 107, 0, 0, m_y0, .null),
  (80, .iload_n 2, 81, 2, 0, 0, m_y0, .null),
  (81, .aload_n 0, 82, 0, 0, 0, m_y0, .null),
  (82, .getfield 83, 85, 9, 41, 932, m_y0, .null),
  (85, .iload_n 1, 86, 1, 0, 0, m_y0, .null),
  (86, .iaload, 87, 0, 0, 0, m_y0, .null),
  (87, .iload 5, 89, 5, 0, 0, m_y0, .null),
  (89, .isub, 90, 0, 0, 0, m_y0, .null)]
def M_O_shift_1 : List (Nat × ME) := [
  (90, .if_icmp .gt 17, 93, 107, 0, 0, m_y0, .null),
  (93, .iload 4, 95, 4, 0, 0, m_y0, .null),
  (95, .aload_n 0, 96, 0, 0, 0, m_y0, .null),
  (96, .getfield 83, 99, 9, 41, 932, m_y0, .null),
  (99, .iload_n 3, 100, 3, 0, 0, m_y0, .null),
  (100, .iaload, 101, 0, 0, 0, m_y0, .null),
  (101, .iload 5, 103, 5, 0, 0, m_y0, .null),
  (103, .isub, 104, 0, 0, 0, m_y0, .null),
  (104, .if_icmp .le 6, 107, 110, 0, 0, m_y0, .null),
  (107, .bipush (-13), 109, 0, 0, 0, m_y0, .int (-13)),
  (109, .ireturn, 110, 0, 0, 0, m_y0, .null),
  (110, .iconst 0, 111, 0, 0, 0, m_y0, .int 0),
  (111, .istore 6, 113, 6, 0, 0, m_y0, .null),
  (113, .iload 6, 115, 6, 0, 0, m_y0, .null),
  (115, .iload 5, 117, 5, 0, 0, m_y0, .null),
  (117, .if_icmp .ge 30, 120, 147, 0, 0, m_y0, .null),
  (120, .aload_n 0, 121, 0, 0, 0, m_y0, .null),
  (121, .getfield 89, 124, 9, 43, 934, m_y0, .null),
  (124, .iload 6, 126, 6, 0, 0, m_y0, .null),
  (126, .aload_n 0, 127, 0, 0, 0, m_y0, .null),
  (127, .getfield 86, 130, 9, 42, 933, m_y0, .null),
  (130, .bipush 60, 132, 0, 0, 0, m_y0, .int 60),
  (132, .iload_n 1, 133, 1, 0, 0, m_y0, .null),
  (133, .imul, 134, 0, 0, 0, m_y0, .null),
  (134, .iload_n 2, 135, 2, 0, 0, m_y0, .null),
  (135, .iadd, 136, 0, 0, 0, m_y0, .null),
  (136, .iload 6, 138, 6, 0, 0, m_y0, .null),
  (138, .iadd, 139, 0, 0, 0, m_y0, .null),
  (139, .laload, 140, 0, 0, 0, m_y0, .null),
  (140, .lastore, 141, 0, 0, 0, m_y0, .null),
  (141, .iinc 6 1, 144, 6, 0, 0, m_y0, .int 1),
  (144, .goto (-31), 147, 113, 0, 0, m_y0, .null),
  (147, .iconst 0, 148, 0, 0, 0, m_y0, .int 0),
  (148, .istore 6, 150, 6, 0, 0, m_y0, .null),
  (150, .iload 6, 152, 6, 0, 0, m_y0, .null),
  (152, .iload 5, 154, 5, 0, 0, m_y0, .null),
  (154, .if_icmp .ge 31, 157, 185, 0, 0, m_y0, .null),
  (157, .aload_n 0, 158, 0, 0, 0, m_y0, .null),
  (158, .getfield 86, 161, 9, 42, 933, m_y0, .null),
  (161, .bipush 60, 163, 0, 0, 0, m_y0, .int 60),
  (163, .iload_n 3, 164, 3, 0, 0, m_y0, .null),
  (164, .imul, 165, 0, 0, 0, m_y0, .null),
  (165, .iload 4, 167, 4, 0, 0, m_y0, .null),
  (167, .iadd, 168, 0, 0, 0, m_y0, .null),
  (168, .iload 6, 170, 6, 0, 0, m_y0, .null),
  (170, .iadd, 171, 0, 0, 0, m_y0, .null),
  (171, .aload_n 0, 172, 0, 0, 0, m_y0, .null),
  (172, .getfield 89, 175, 9, 43, 934, m_y0, .null),
  (175, .iload 6, 177, 6, 0, 0, m_y0, .null),
  (177, .laload, 178, 0, 0, 0, m_y0, .null)]
def M_O_shift_2 : List (Nat × ME) := [
  (178, .lastore, 179, 0, 0, 0, m_y0, .null),
  (179, .iinc 6 1, 182, 6, 0, 0, m_y0, .int 1),
  (182, .goto (-32), 185, 150, 0, 0, m_y0, .null),
  (185, .iload 5, 187, 5, 0, 0, m_y0, .null),
  (187, .ireturn, 188, 0, 0, 0, m_y0, .null)]
def M_O_shift : MD := (y_O_shift, prog_11_method_87_code, 7, (some .int), (1, 5, 9), M_O_shift_0 ++ (M_O_shift_1 ++ (M_O_shift_2)))
set_option maxRecDepth 100000 in
theorem k1_O_shift_0 : M_O_shift_0.all (m_eok y_O_shift prog_11_method_87_code 7) = true := by decide +kernel
set_option maxRecDepth 100000 in
theorem k1_O_shift_1 : M_O_shift_1.all (m_eok y_O_shift prog_11_method_87_code 7) = true := by decide +kernel
set_option maxRecDepth 100000 in
theorem k1_O_shift_2 : M_O_shift_2.all (m_eok y_O_shift prog_11_method_87_code 7) = true := by decide +kernel
theorem k1_O_shift : MOk1 M_O_shift := m_ok1_of (m_all_app k1_O_shift_0 (m_all_app k1_O_shift_1 k1_O_shift_2))
set_option maxRecDepth 100000 in
theorem k2_O_shift : MOk2 M_O_shift := m_ok2_spec (p0 := 1366) (p1 := 77) (p2 := 1364) (p3 := 1365) (by decide +kernel)
def M_O_taken : MD := (y_O_taken, prog_11_method_88_code, 4, (some .int), (1, 2, 9), [
  (0, .iload_n 1, 1, 1, 0, 0, m_y0, .null),
  (1, .invokestatic 114, 4, 1, 0, 1048, y_O_isShelf, .null),
  (4, .ifCond .eq 15, 7, 19, 0, 0, m_y0, .null),
  (7, .iload_n 2, 8, 2, 0, 0, m_y0, .null),
  (8, .i2l, 9, 0, 0, 0, m_y0, .null),
  (9, .lconst 0, 10, 0, 0, 0, m_y0, .long 0),
  (10, .ldc2_w 299, 13, 0, 0, 1306, m_y0, .long 7),
  (13, .invokestatic 102, 16, 3, 0, 1037, y_O_within, .null),
  (16, .ifCond .ne 5, 19, 21, 0, 0, m_y0, .null),
  (19, .iconst (-1), 20, 0, 0, 0, m_y0, .int (-1)),
  (20, .ireturn, 21, 0, 0, 0, m_y0, .null),
  (21, .aload_n 0, 22, 0, 0, 0, m_y0, .null),
  (22, .getfield 80, 25, 9, 40, 931, m_y0, .null),
  (25, .iload_n 1, 26, 1, 0, 0, m_y0, .null),
  (26, .iaload, 27, 0, 0, 0, m_y0, .null),
  (27, .ifCond .ge 6, 30, 33, 0, 0, m_y0, .null),
  (30, .bipush (-11), 32, 0, 0, 0, m_y0, .int (-11)),
  (32, .ireturn, 33, 0, 0, 0, m_y0, .null),
  (33, .aload_n 0, 34, 0, 0, 0, m_y0, .null),
  (34, .getfield 80, 37, 9, 40, 931, m_y0, .null),
  (37, .iload_n 1, 38, 1, 0, 0, m_y0, .null),
  (38, .iaload, 39, 0, 0, 0, m_y0, .null),
  (39, .bipush 50, 41, 0, 0, 0, m_y0, .int 50),
  (41, .if_icmp .lt 6, 44, 47, 0, 0, m_y0, .null),
  (44, .bipush (-12), 46, 0, 0, 0, m_y0, .int (-12)),
  (46, .ireturn, 47, 0, 0, 0, m_y0, .null),
  (47, .aload_n 0, 48, 0, 0, 0, m_y0, .null),
  (48, .aload_n 0, 49, 0, 0, 0, m_y0, .null),
  (49, .getfield 80, 52, 9, 40, 931, m_y0, .null),
  (52, .iload_n 1, 53, 1, 0, 0, m_y0, .null),
  (53, .iaload, 54, 0, 0, 0, m_y0, .null),
  (54, .invokevirtual 337, 57, 2, 0, 1371, y_O_kindOf, .null),
  (57, .istore_n 3, 58, 3, 0, 0, m_y0, .null),
  (58, .iload_n 3, 59, 3, 0, 0, m_y0, .null),
  (59, .iload_n 2, 60, 2, 0, 0, m_y0, .null),
  (60, .if_icmp .eq 15, 63, 75, 0, 0, m_y0, .null),
  (63, .iload_n 3, 64, 3, 0, 0, m_y0, .null),
  (64, .ifCond .le 11, 67, 75, 0, 0, m_y0, .null),
  (67, .iload_n 3, 68, 3, 0, 0, m_y0, .null),
  (68, .invokestatic 340, 71, 1, 0, 1375, y_O_above, .null),
  (71, .istore_n 3, 72, 3, 0, 0, m_y0, .null),
  (72, .goto (-14), 75, 58, 0, 0, m_y0, .null),
  (75, .iload_n 3, 76, 3, 0, 0, m_y0, .null),
  (76, .iload_n 2, 77, 2, 0, 0, m_y0, .null),
  (77, .if_icmp .ne 16, 80, 93, 0, 0, m_y0, .null),
  (80, .aload_n 0, 81, 0, 0, 0, m_y0, .null),
  (81, .aload_n 0, 82, 0, 0, 0, m_y0, .null),
  (82, .getfield 80, 85, 9, 40, 931, m_y0, .null),
  (85, .iload_n 1, 86, 1, 0, 0, m_y0, .null),
  (86, .iaload, 87, 0, 0, 0, m_y0, .null),
  (87, .invokevirtual 337, 90, 2, 0, 1371, y_O_kindOf, .null),
  (90, .goto 5, 93, 95, 0, 0, m_y0, .null),
  (93, .bipush (-12), 95, 0, 0, 0, m_y0, .int (-12)),
  (95, .ireturn, 96, 0, 0, 0, m_y0, .null)])
set_option maxRecDepth 100000 in
theorem k1_O_taken : MOk1 M_O_taken := m_ok1_of (by decide +kernel)
set_option maxRecDepth 100000 in
theorem k2_O_taken : MOk2 M_O_taken := m_ok2_spec (p0 := 1370) (p1 := 77) (p2 := 1368) (p3 := 1369) (by decide +kernel)
def M_O_count : MD := (y_O_count, prog_11_method_89_code, 2, (some .int), (1, 1, 9), [
  (0, .iload_n 1, 1, 1, 0, 0, m_y0, .null),
  (1, .tableswitch 78 0 6 #[43, 48, 53, 58, 63, 68, 73], 44, 43, 0, 0, m_y0, .null),
  (44, .aload_n 0, 45, 0, 0, 0, m_y0, .null),
  (45, .getfield 99, 48, 9, 6, 897, m_y0, .null),
  (48, .ireturn, 49, 0, 0, 0, m_y0, .null),
  (49, .aload_n 0, 50, 0, 0, 0, m_y0, .null),
  (50, .getfield 274, 53, 9, 27, 918, m_y0, .null),
  (53, .ireturn, 54, 0, 0, 0, m_y0, .null),
  (54, .aload_n 0, 55, 0, 0, 0, m_y0, .null),
  (55, .invokevirtual 343, 58, 1, 0, 1382, y_O_lookedFor, .null),
  (58, .ireturn, 59, 0, 0, 0, m_y0, .null),
  (59, .aload_n 0, 60, 0, 0, 0, m_y0, .null),
  (60, .getfield 154, 63, 9, 11, 902, m_y0, .null),
  (63, .ireturn, 64, 0, 0, 0, m_y0, .null),
  (64, .aload_n 0, 65, 0, 0, 0, m_y0, .null),
  (65, .getfield 92, 68, 9, 5, 896, m_y0, .null),
  (68, .ireturn, 69, 0, 0, 0, m_y0, .null),
  (69, .aload_n 0, 70, 0, 0, 0, m_y0, .null),
  (70, .getfield 296, 73, 9, 34, 925, m_y0, .null),
  (73, .ireturn, 74, 0, 0, 0, m_y0, .null),
  (74, .aload_n 0, 75, 0, 0, 0, m_y0, .null),
  (75, .getfield 301, 78, 9, 37, 928, m_y0, .null),
  (78, .ireturn, 79, 0, 0, 0, m_y0, .null),
  (79, .iconst (-1), 80, 0, 0, 0, m_y0, .int (-1)),
  (80, .ireturn, 81, 0, 0, 0, m_y0, .null)])
set_option maxRecDepth 100000 in
theorem k1_O_count : MOk1 M_O_count := m_ok1_of (by decide +kernel)
set_option maxRecDepth 100000 in
theorem k2_O_count : MOk2 M_O_count := m_ok2_spec (p0 := 1381) (p1 := 77) (p2 := 1379) (p3 := 1380) (by decide +kernel)
def M_W_law_0 : List (Nat × ME) := [
  (0, .new 7, 3, 8, 0, 83, m_y0, .null),
  (3, .dup, 4, 0, 0, 0, m_y0, .null),
  (4, .invokespecial 9, 7, 1, 0, 85, y_C_init, .null),
  (7, .astore_n 1, 8, 1, 0, 0, m_y0, .null),
  (8, .new 10, 11, 9, 0, 885, m_y0, .null),
  (11, .dup, 12, 0, 0, 0, m_y0, .null),
  (12, .invokespecial 12, 15, 1, 0, 887, y_O_init, .null),
  (15, .astore_n 2, 16, 2, 0, 0, m_y0, .null),
  (16, .iconst 0, 17, 0, 0, 0, m_y0, .int 0),
  (17, .istore_n 3, 18, 3, 0, 0, m_y0, .null),
  (18, .iload_n 3, 19, 3, 0, 0, m_y0, .null),
  (19, .aload_n 0, 20, 0, 0, 0, m_y0, .null),
  (20, .arraylength, 21, 0, 0, 0, m_y0, .null),
  (21, .bipush 6, 23, 0, 0, 0, m_y0, .int 6),
  (23, .isub, 24, 0, 0, 0, m_y0, .null),
  (24, .if_icmp .gt 1375, 27, 1399, 0, 0, m_y0, .null),
  (27, .aload_n 0, 28, 0, 0, 0, m_y0, .null),
  (28, .iload_n 3, 29, 3, 0, 0, m_y0, .null),
  (29, .iaload, 30, 0, 0, 0, m_y0, .null),
  (30, .bipush 63, 32, 0, 0, 0, m_y0, .int 63),
  (32, .iand, 33, 0, 0, 0, m_y0, .null),
  (33, .tableswitch 1360 0 38 #[171, 194, 237, 280, 313, 346, 369, 392, 425, 459, 482, 505, 538, 561, 574, 597, 630, 663, 696, 739, 772, 795, 828, 851, 874, 917, 930, 943, 956, 969, 992, 1035, 1058, 1091, 1134, 1207, 1241, 1304, 1337], 204, 171, 0, 0, m_y0, .null),
  (204, .aload_n 1, 205, 1, 0, 0, m_y0, .null),
  (205, .aload_n 0, 206, 0, 0, 0, m_y0, .null),
  (206, .iload_n 3, 207, 3, 0, 0, m_y0, .null),
  (207, .iconst 1, 208, 0, 0, 0, m_y0, .int 1),
  (208, .iadd, 209, 0, 0, 0, m_y0, .null),
  (209, .iaload, 210, 0, 0, 0, m_y0, .null),
  (210, .invokevirtual 13, 213, 2, 0, 294, y_C_part, .null),
  (213, .aload_n 2, 214, 2, 0, 0, m_y0, .null),
  (214, .aload_n 0, 215, 0, 0, 0, m_y0, .null),
  (215, .iload_n 3, 216, 3, 0, 0, m_y0, .null),
  (216, .iconst 1, 217, 0, 0, 0, m_y0, .int 1),
  (217, .iadd, 218, 0, 0, 0, m_y0, .null),
  (218, .iaload, 219, 0, 0, 0, m_y0, .null),
  (219, .invokevirtual 17, 222, 2, 0, 1032, y_O_part, .null),
  (222, .if_icmp .eq 1171, 225, 1393, 0, 0, m_y0, .null),
  (225, .iconst 0, 226, 0, 0, 0, m_y0, .int 0),
  (226, .ireturn, 227, 0, 0, 0, m_y0, .null),
  (227, .aload_n 1, 228, 1, 0, 0, m_y0, .null),
  (228, .aload_n 0, 229, 0, 0, 0, m_y0, .null),
  (229, .iload_n 3, 230, 3, 0, 0, m_y0, .null),
  (230, .iconst 1, 231, 0, 0, 0, m_y0, .int 1),
  (231, .iadd, 232, 0, 0, 0, m_y0, .null),
  (232, .iaload, 233, 0, 0, 0, m_y0, .null),
  (233, .aload_n 0, 234, 0, 0, 0, m_y0, .null),
  (234, .iload_n 3, 235, 3, 0, 0, m_y0, .null),
  (235, .iconst 2, 236, 0, 0, 0, m_y0, .int 2),
  (236, .iadd, 237, 0, 0, 0, m_y0, .null),
  (237, .iaload, 238, 0, 0, 0, m_y0, .null)]
def M_W_law_1 : List (Nat × ME) := [
  (238, .aload_n 0, 239, 0, 0, 0, m_y0, .null),
  (239, .iload_n 3, 240, 3, 0, 0, m_y0, .null),
  (240, .iconst 3, 241, 0, 0, 0, m_y0, .int 3),
  (241, .iadd, 242, 0, 0, 0, m_y0, .null),
  (242, .iaload, 243, 0, 0, 0, m_y0, .null),
  (243, .invokevirtual 18, 246, 4, 0, 336, y_C_parts, .null),
  (246, .aload_n 2, 247, 2, 0, 0, m_y0, .null),
  (247, .aload_n 0, 248, 0, 0, 0, m_y0, .null),
  (248, .iload_n 3, 249, 3, 0, 0, m_y0, .null),
  (249, .iconst 1, 250, 0, 0, 0, m_y0, .int 1),
  (250, .iadd, 251, 0, 0, 0, m_y0, .null),
  (251, .iaload, 252, 0, 0, 0, m_y0, .null),
  (252, .aload_n 0, 253, 0, 0, 0, m_y0, .null),
  (253, .iload_n 3, 254, 3, 0, 0, m_y0, .null),
  (254, .iconst 2, 255, 0, 0, 0, m_y0, .int 2),
  (255, .iadd, 256, 0, 0, 0, m_y0, .null),
  (256, .iaload, 257, 0, 0, 0, m_y0, .null),
  (257, .aload_n 0, 258, 0, 0, 0, m_y0, .null),
  (258, .iload_n 3, 259, 3, 0, 0, m_y0, .null),
  (259, .iconst 3, 260, 0, 0, 0, m_y0, .int 3),
  (260, .iadd, 261, 0, 0, 0, m_y0, .null),
  (261, .iaload, 262, 0, 0, 0, m_y0, .null),
  (262, .invokevirtual 22, 265, 4, 0, 1044, y_O_parts, .null),
  (265, .if_icmp .eq 1128, 268, 1393, 0, 0, m_y0, .null),
  (268, .iconst 0, 269, 0, 0, 0, m_y0, .int 0),
  (269, .ireturn, 270, 0, 0, 0, m_y0, .null),
  (270, .aload_n 1, 271, 1, 0, 0, m_y0, .null),
  (271, .aload_n 0, 272, 0, 0, 0, m_y0, .null),
  (272, .iload_n 3, 273, 3, 0, 0, m_y0, .null),
  (273, .iconst 1, 274, 0, 0, 0, m_y0, .int 1),
  (274, .iadd, 275, 0, 0, 0, m_y0, .null),
  (275, .iaload, 276, 0, 0, 0, m_y0, .null),
  (276, .aload_n 0, 277, 0, 0, 0, m_y0, .null),
  (277, .iload_n 3, 278, 3, 0, 0, m_y0, .null),
  (278, .iconst 2, 279, 0, 0, 0, m_y0, .int 2),
  (279, .iadd, 280, 0, 0, 0, m_y0, .null),
  (280, .iaload, 281, 0, 0, 0, m_y0, .null),
  (281, .aload_n 0, 282, 0, 0, 0, m_y0, .null),
  (282, .iload_n 3, 283, 3, 0, 0, m_y0, .null),
  (283, .iconst 3, 284, 0, 0, 0, m_y0, .int 3),
  (284, .iadd, 285, 0, 0, 0, m_y0, .null),
  (285, .iaload, 286, 0, 0, 0, m_y0, .null),
  (286, .invokevirtual 23, 289, 4, 0, 362, y_C_mend, .null),
  (289, .aload_n 2, 290, 2, 0, 0, m_y0, .null),
  (290, .aload_n 0, 291, 0, 0, 0, m_y0, .null),
  (291, .iload_n 3, 292, 3, 0, 0, m_y0, .null),
  (292, .iconst 1, 293, 0, 0, 0, m_y0, .int 1),
  (293, .iadd, 294, 0, 0, 0, m_y0, .null),
  (294, .iaload, 295, 0, 0, 0, m_y0, .null),
  (295, .aload_n 0, 296, 0, 0, 0, m_y0, .null)]
def M_W_law_2 : List (Nat × ME) := [
  (296, .iload_n 3, 297, 3, 0, 0, m_y0, .null),
  (297, .iconst 2, 298, 0, 0, 0, m_y0, .int 2),
  (298, .iadd, 299, 0, 0, 0, m_y0, .null),
  (299, .iaload, 300, 0, 0, 0, m_y0, .null),
  (300, .aload_n 0, 301, 0, 0, 0, m_y0, .null),
  (301, .iload_n 3, 302, 3, 0, 0, m_y0, .null),
  (302, .iconst 3, 303, 0, 0, 0, m_y0, .int 3),
  (303, .iadd, 304, 0, 0, 0, m_y0, .null),
  (304, .iaload, 305, 0, 0, 0, m_y0, .null),
  (305, .invokevirtual 26, 308, 4, 0, 1054, y_O_mend, .null),
  (308, .if_icmp .eq 1085, 311, 1393, 0, 0, m_y0, .null),
  (311, .iconst 0, 312, 0, 0, 0, m_y0, .int 0),
  (312, .ireturn, 313, 0, 0, 0, m_y0, .null),
  (313, .aload_n 1, 314, 1, 0, 0, m_y0, .null),
  (314, .aload_n 0, 315, 0, 0, 0, m_y0, .null),
  (315, .iload_n 3, 316, 3, 0, 0, m_y0, .null),
  (316, .iconst 1, 317, 0, 0, 0, m_y0, .int 1),
  (317, .iadd, 318, 0, 0, 0, m_y0, .null),
  (318, .iaload, 319, 0, 0, 0, m_y0, .null),
  (319, .aload_n 0, 320, 0, 0, 0, m_y0, .null),
  (320, .iload_n 3, 321, 3, 0, 0, m_y0, .null),
  (321, .iconst 2, 322, 0, 0, 0, m_y0, .int 2),
  (322, .iadd, 323, 0, 0, 0, m_y0, .null),
  (323, .iaload, 324, 0, 0, 0, m_y0, .null),
  (324, .invokevirtual 27, 327, 3, 0, 393, y_C_find, .null),
  (327, .aload_n 2, 328, 2, 0, 0, m_y0, .null),
  (328, .aload_n 0, 329, 0, 0, 0, m_y0, .null),
  (329, .iload_n 3, 330, 3, 0, 0, m_y0, .null),
  (330, .iconst 1, 331, 0, 0, 0, m_y0, .int 1),
  (331, .iadd, 332, 0, 0, 0, m_y0, .null),
  (332, .iaload, 333, 0, 0, 0, m_y0, .null),
  (333, .aload_n 0, 334, 0, 0, 0, m_y0, .null),
  (334, .iload_n 3, 335, 3, 0, 0, m_y0, .null),
  (335, .iconst 2, 336, 0, 0, 0, m_y0, .int 2),
  (336, .iadd, 337, 0, 0, 0, m_y0, .null),
  (337, .iaload, 338, 0, 0, 0, m_y0, .null),
  (338, .invokevirtual 31, 341, 3, 0, 1068, y_O_find, .null),
  (341, .if_icmp .eq 1052, 344, 1393, 0, 0, m_y0, .null),
  (344, .iconst 0, 345, 0, 0, 0, m_y0, .int 0),
  (345, .ireturn, 346, 0, 0, 0, m_y0, .null),
  (346, .aload_n 1, 347, 1, 0, 0, m_y0, .null),
  (347, .aload_n 0, 348, 0, 0, 0, m_y0, .null),
  (348, .iload_n 3, 349, 3, 0, 0, m_y0, .null),
  (349, .iconst 1, 350, 0, 0, 0, m_y0, .int 1),
  (350, .iadd, 351, 0, 0, 0, m_y0, .null),
  (351, .iaload, 352, 0, 0, 0, m_y0, .null),
  (352, .aload_n 0, 353, 0, 0, 0, m_y0, .null),
  (353, .iload_n 3, 354, 3, 0, 0, m_y0, .null),
  (354, .iconst 2, 355, 0, 0, 0, m_y0, .int 2),
  (355, .iadd, 356, 0, 0, 0, m_y0, .null)]
def M_W_law_3 : List (Nat × ME) := [
  (356, .iaload, 357, 0, 0, 0, m_y0, .null),
  (357, .invokevirtual 32, 360, 3, 0, 415, y_C_of, .null),
  (360, .aload_n 2, 361, 2, 0, 0, m_y0, .null),
  (361, .aload_n 0, 362, 0, 0, 0, m_y0, .null),
  (362, .iload_n 3, 363, 3, 0, 0, m_y0, .null),
  (363, .iconst 1, 364, 0, 0, 0, m_y0, .int 1),
  (364, .iadd, 365, 0, 0, 0, m_y0, .null),
  (365, .iaload, 366, 0, 0, 0, m_y0, .null),
  (366, .aload_n 0, 367, 0, 0, 0, m_y0, .null),
  (367, .iload_n 3, 368, 3, 0, 0, m_y0, .null),
  (368, .iconst 2, 369, 0, 0, 0, m_y0, .int 2),
  (369, .iadd, 370, 0, 0, 0, m_y0, .null),
  (370, .iaload, 371, 0, 0, 0, m_y0, .null),
  (371, .invokevirtual 35, 374, 3, 0, 1081, y_O_of, .null),
  (374, .if_icmp .eq 1019, 377, 1393, 0, 0, m_y0, .null),
  (377, .iconst 0, 378, 0, 0, 0, m_y0, .int 0),
  (378, .ireturn, 379, 0, 0, 0, m_y0, .null),
  (379, .aload_n 1, 380, 1, 0, 0, m_y0, .null),
  (380, .aload_n 0, 381, 0, 0, 0, m_y0, .null),
  (381, .iload_n 3, 382, 3, 0, 0, m_y0, .null),
  (382, .iconst 1, 383, 0, 0, 0, m_y0, .int 1),
  (383, .iadd, 384, 0, 0, 0, m_y0, .null),
  (384, .iaload, 385, 0, 0, 0, m_y0, .null),
  (385, .invokevirtual 36, 388, 2, 0, 424, y_C_feed, .null),
  (388, .aload_n 2, 389, 2, 0, 0, m_y0, .null),
  (389, .aload_n 0, 390, 0, 0, 0, m_y0, .null),
  (390, .iload_n 3, 391, 3, 0, 0, m_y0, .null),
  (391, .iconst 1, 392, 0, 0, 0, m_y0, .int 1),
  (392, .iadd, 393, 0, 0, 0, m_y0, .null),
  (393, .iaload, 394, 0, 0, 0, m_y0, .null),
  (394, .invokevirtual 39, 397, 2, 0, 1091, y_O_feed, .null),
  (397, .if_icmp .eq 996, 400, 1393, 0, 0, m_y0, .null),
  (400, .iconst 0, 401, 0, 0, 0, m_y0, .int 0),
  (401, .ireturn, 402, 0, 0, 0, m_y0, .null),
  (402, .aload_n 1, 403, 1, 0, 0, m_y0, .null),
  (403, .aload_n 0, 404, 0, 0, 0, m_y0, .null),
  (404, .iload_n 3, 405, 3, 0, 0, m_y0, .null),
  (405, .iconst 1, 406, 0, 0, 0, m_y0, .int 1),
  (406, .iadd, 407, 0, 0, 0, m_y0, .null),
  (407, .iaload, 408, 0, 0, 0, m_y0, .null),
  (408, .invokevirtual 40, 411, 2, 0, 432, y_C_law, .null),
  (411, .aload_n 2, 412, 2, 0, 0, m_y0, .null),
  (412, .aload_n 0, 413, 0, 0, 0, m_y0, .null),
  (413, .iload_n 3, 414, 3, 0, 0, m_y0, .null),
  (414, .iconst 1, 415, 0, 0, 0, m_y0, .int 1),
  (415, .iadd, 416, 0, 0, 0, m_y0, .null),
  (416, .iaload, 417, 0, 0, 0, m_y0, .null),
  (417, .invokevirtual 43, 420, 2, 0, 1096, y_O_law, .null),
  (420, .if_icmp .eq 973, 423, 1393, 0, 0, m_y0, .null),
  (423, .iconst 0, 424, 0, 0, 0, m_y0, .int 0)]
def M_W_law_4 : List (Nat × ME) := [
  (424, .ireturn, 425, 0, 0, 0, m_y0, .null),
  (425, .aload_n 1, 426, 1, 0, 0, m_y0, .null),
  (426, .aload_n 0, 427, 0, 0, 0, m_y0, .null),
  (427, .iload_n 3, 428, 3, 0, 0, m_y0, .null),
  (428, .iconst 1, 429, 0, 0, 0, m_y0, .int 1),
  (429, .iadd, 430, 0, 0, 0, m_y0, .null),
  (430, .iaload, 431, 0, 0, 0, m_y0, .null),
  (431, .aload_n 0, 432, 0, 0, 0, m_y0, .null),
  (432, .iload_n 3, 433, 3, 0, 0, m_y0, .null),
  (433, .iconst 2, 434, 0, 0, 0, m_y0, .int 2),
  (434, .iadd, 435, 0, 0, 0, m_y0, .null),
  (435, .iaload, 436, 0, 0, 0, m_y0, .null),
  (436, .invokevirtual 44, 439, 3, 0, 484, y_C_number, .null),
  (439, .aload_n 2, 440, 2, 0, 0, m_y0, .null),
  (440, .aload_n 0, 441, 0, 0, 0, m_y0, .null),
  (441, .iload_n 3, 442, 3, 0, 0, m_y0, .null),
  (442, .iconst 1, 443, 0, 0, 0, m_y0, .int 1),
  (443, .iadd, 444, 0, 0, 0, m_y0, .null),
  (444, .iaload, 445, 0, 0, 0, m_y0, .null),
  (445, .aload_n 0, 446, 0, 0, 0, m_y0, .null),
  (446, .iload_n 3, 447, 3, 0, 0, m_y0, .null),
  (447, .iconst 2, 448, 0, 0, 0, m_y0, .int 2),
  (448, .iadd, 449, 0, 0, 0, m_y0, .null),
  (449, .iaload, 450, 0, 0, 0, m_y0, .null),
  (450, .invokevirtual 47, 453, 3, 0, 1143, y_O_number, .null),
  (453, .if_icmp .eq 940, 456, 1393, 0, 0, m_y0, .null),
  (456, .iconst 0, 457, 0, 0, 0, m_y0, .int 0),
  (457, .ireturn, 458, 0, 0, 0, m_y0, .null),
  (458, .aload_n 1, 459, 1, 0, 0, m_y0, .null),
  (459, .aload_n 0, 460, 0, 0, 0, m_y0, .null),
  (460, .iload_n 3, 461, 3, 0, 0, m_y0, .null),
  (461, .iconst 1, 462, 0, 0, 0, m_y0, .int 1),
  (462, .iadd, 463, 0, 0, 0, m_y0, .null),
  (463, .iaload, 464, 0, 0, 0, m_y0, .null),
  (464, .aload_n 0, 465, 0, 0, 0, m_y0, .null),
  (465, .iload_n 3, 466, 3, 0, 0, m_y0, .null),
  (466, .iconst 2, 467, 0, 0, 0, m_y0, .int 2),
  (467, .iadd, 468, 0, 0, 0, m_y0, .null),
  (468, .iaload, 469, 0, 0, 0, m_y0, .null),
  (469, .invokevirtual 48, 472, 3, 0, 517, y_C_likely, .null),
  (472, .aload_n 2, 473, 2, 0, 0, m_y0, .null),
  (473, .aload_n 0, 474, 0, 0, 0, m_y0, .null),
  (474, .iload_n 3, 475, 3, 0, 0, m_y0, .null),
  (475, .iconst 1, 476, 0, 0, 0, m_y0, .int 1),
  (476, .iadd, 477, 0, 0, 0, m_y0, .null),
  (477, .iaload, 478, 0, 0, 0, m_y0, .null),
  (478, .aload_n 0, 479, 0, 0, 0, m_y0, .null),
  (479, .iload_n 3, 480, 3, 0, 0, m_y0, .null),
  (480, .iconst 2, 481, 0, 0, 0, m_y0, .int 2),
  (481, .iadd, 482, 0, 0, 0, m_y0, .null)]
def M_W_law_5 : List (Nat × ME) := [
  (482, .iaload, 483, 0, 0, 0, m_y0, .null),
  (483, .invokevirtual 52, 486, 3, 0, 1151, y_O_likely, .null),
  (486, .lcmp, 487, 0, 0, 0, m_y0, .null),
  (487, .ifCond .eq 906, 490, 1393, 0, 0, m_y0, .null),
  (490, .iconst 0, 491, 0, 0, 0, m_y0, .int 0),
  (491, .ireturn, 492, 0, 0, 0, m_y0, .null),
  (492, .aload_n 1, 493, 1, 0, 0, m_y0, .null),
  (493, .aload_n 0, 494, 0, 0, 0, m_y0, .null),
  (494, .iload_n 3, 495, 3, 0, 0, m_y0, .null),
  (495, .iconst 1, 496, 0, 0, 0, m_y0, .int 1),
  (496, .iadd, 497, 0, 0, 0, m_y0, .null),
  (497, .iaload, 498, 0, 0, 0, m_y0, .null),
  (498, .invokevirtual 53, 501, 2, 0, 541, y_C_percent, .null),
  (501, .aload_n 2, 502, 2, 0, 0, m_y0, .null),
  (502, .aload_n 0, 503, 0, 0, 0, m_y0, .null),
  (503, .iload_n 3, 504, 3, 0, 0, m_y0, .null),
  (504, .iconst 1, 505, 0, 0, 0, m_y0, .int 1),
  (505, .iadd, 506, 0, 0, 0, m_y0, .null),
  (506, .iaload, 507, 0, 0, 0, m_y0, .null),
  (507, .invokevirtual 56, 510, 2, 0, 1176, y_O_percent, .null),
  (510, .if_icmp .eq 883, 513, 1393, 0, 0, m_y0, .null),
  (513, .iconst 0, 514, 0, 0, 0, m_y0, .int 0),
  (514, .ireturn, 515, 0, 0, 0, m_y0, .null),
  (515, .aload_n 1, 516, 1, 0, 0, m_y0, .null),
  (516, .aload_n 0, 517, 0, 0, 0, m_y0, .null),
  (517, .iload_n 3, 518, 3, 0, 0, m_y0, .null),
  (518, .iconst 1, 519, 0, 0, 0, m_y0, .int 1),
  (519, .iadd, 520, 0, 0, 0, m_y0, .null),
  (520, .iaload, 521, 0, 0, 0, m_y0, .null),
  (521, .invokevirtual 57, 524, 2, 0, 556, y_C_likeliest, .null),
  (524, .aload_n 2, 525, 2, 0, 0, m_y0, .null),
  (525, .aload_n 0, 526, 0, 0, 0, m_y0, .null),
  (526, .iload_n 3, 527, 3, 0, 0, m_y0, .null),
  (527, .iconst 1, 528, 0, 0, 0, m_y0, .int 1),
  (528, .iadd, 529, 0, 0, 0, m_y0, .null),
  (529, .iaload, 530, 0, 0, 0, m_y0, .null),
  (530, .invokevirtual 60, 533, 2, 0, 1184, y_O_likeliest, .null),
  (533, .if_icmp .eq 860, 536, 1393, 0, 0, m_y0, .null),
  (536, .iconst 0, 537, 0, 0, 0, m_y0, .int 0),
  (537, .ireturn, 538, 0, 0, 0, m_y0, .null),
  (538, .aload_n 1, 539, 1, 0, 0, m_y0, .null),
  (539, .aload_n 0, 540, 0, 0, 0, m_y0, .null),
  (540, .iload_n 3, 541, 3, 0, 0, m_y0, .null),
  (541, .iconst 1, 542, 0, 0, 0, m_y0, .int 1),
  (542, .iadd, 543, 0, 0, 0, m_y0, .null),
  (543, .iaload, 544, 0, 0, 0, m_y0, .null),
  (544, .aload_n 0, 545, 0, 0, 0, m_y0, .null),
  (545, .iload_n 3, 546, 3, 0, 0, m_y0, .null),
  (546, .iconst 2, 547, 0, 0, 0, m_y0, .int 2),
  (547, .iadd, 548, 0, 0, 0, m_y0, .null)]
def M_W_law_6 : List (Nat × ME) := [
  (548, .iaload, 549, 0, 0, 0, m_y0, .null),
  (549, .invokevirtual 61, 552, 3, 0, 564, y_C_when, .null),
  (552, .aload_n 2, 553, 2, 0, 0, m_y0, .null),
  (553, .aload_n 0, 554, 0, 0, 0, m_y0, .null),
  (554, .iload_n 3, 555, 3, 0, 0, m_y0, .null),
  (555, .iconst 1, 556, 0, 0, 0, m_y0, .int 1),
  (556, .iadd, 557, 0, 0, 0, m_y0, .null),
  (557, .iaload, 558, 0, 0, 0, m_y0, .null),
  (558, .aload_n 0, 559, 0, 0, 0, m_y0, .null),
  (559, .iload_n 3, 560, 3, 0, 0, m_y0, .null),
  (560, .iconst 2, 561, 0, 0, 0, m_y0, .int 2),
  (561, .iadd, 562, 0, 0, 0, m_y0, .null),
  (562, .iaload, 563, 0, 0, 0, m_y0, .null),
  (563, .invokevirtual 64, 566, 3, 0, 1192, y_O_when, .null),
  (566, .if_icmp .eq 827, 569, 1393, 0, 0, m_y0, .null),
  (569, .iconst 0, 570, 0, 0, 0, m_y0, .int 0),
  (570, .ireturn, 571, 0, 0, 0, m_y0, .null),
  (571, .aload_n 1, 572, 1, 0, 0, m_y0, .null),
  (572, .aload_n 0, 573, 0, 0, 0, m_y0, .null),
  (573, .iload_n 3, 574, 3, 0, 0, m_y0, .null),
  (574, .iconst 1, 575, 0, 0, 0, m_y0, .int 1),
  (575, .iadd, 576, 0, 0, 0, m_y0, .null),
  (576, .iaload, 577, 0, 0, 0, m_y0, .null),
  (577, .invokevirtual 65, 580, 2, 0, 584, y_C_whole, .null),
  (580, .aload_n 2, 581, 2, 0, 0, m_y0, .null),
  (581, .aload_n 0, 582, 0, 0, 0, m_y0, .null),
  (582, .iload_n 3, 583, 3, 0, 0, m_y0, .null),
  (583, .iconst 1, 584, 0, 0, 0, m_y0, .int 1),
  (584, .iadd, 585, 0, 0, 0, m_y0, .null),
  (585, .iaload, 586, 0, 0, 0, m_y0, .null),
  (586, .invokevirtual 68, 589, 2, 0, 1200, y_O_whole, .null),
  (589, .if_icmp .eq 804, 592, 1393, 0, 0, m_y0, .null),
  (592, .iconst 0, 593, 0, 0, 0, m_y0, .int 0),
  (593, .ireturn, 594, 0, 0, 0, m_y0, .null),
  (594, .aload_n 1, 595, 1, 0, 0, m_y0, .null),
  (595, .invokevirtual 69, 598, 1, 0, 597, y_C_odd, .null),
  (598, .aload_n 2, 599, 2, 0, 0, m_y0, .null),
  (599, .invokevirtual 73, 602, 1, 0, 1205, y_O_odd, .null),
  (602, .if_icmp .eq 791, 605, 1393, 0, 0, m_y0, .null),
  (605, .iconst 0, 606, 0, 0, 0, m_y0, .int 0),
  (606, .ireturn, 607, 0, 0, 0, m_y0, .null),
  (607, .aload_n 1, 608, 1, 0, 0, m_y0, .null),
  (608, .aload_n 0, 609, 0, 0, 0, m_y0, .null),
  (609, .iload_n 3, 610, 3, 0, 0, m_y0, .null),
  (610, .iconst 1, 611, 0, 0, 0, m_y0, .int 1),
  (611, .iadd, 612, 0, 0, 0, m_y0, .null),
  (612, .iaload, 613, 0, 0, 0, m_y0, .null),
  (613, .invokevirtual 74, 616, 2, 0, 611, y_C_next, .null),
  (616, .aload_n 2, 617, 2, 0, 0, m_y0, .null),
  (617, .aload_n 0, 618, 0, 0, 0, m_y0, .null)]
def M_W_law_7 : List (Nat × ME) := [
  (618, .iload_n 3, 619, 3, 0, 0, m_y0, .null),
  (619, .iconst 1, 620, 0, 0, 0, m_y0, .int 1),
  (620, .iadd, 621, 0, 0, 0, m_y0, .null),
  (621, .iaload, 622, 0, 0, 0, m_y0, .null),
  (622, .invokevirtual 77, 625, 2, 0, 1209, y_O_next, .null),
  (625, .if_icmp .eq 768, 628, 1393, 0, 0, m_y0, .null),
  (628, .iconst 0, 629, 0, 0, 0, m_y0, .int 0),
  (629, .ireturn, 630, 0, 0, 0, m_y0, .null),
  (630, .aload_n 1, 631, 1, 0, 0, m_y0, .null),
  (631, .aload_n 0, 632, 0, 0, 0, m_y0, .null),
  (632, .iload_n 3, 633, 3, 0, 0, m_y0, .null),
  (633, .iconst 1, 634, 0, 0, 0, m_y0, .int 1),
  (634, .iadd, 635, 0, 0, 0, m_y0, .null),
  (635, .iaload, 636, 0, 0, 0, m_y0, .null),
  (636, .aload_n 0, 637, 0, 0, 0, m_y0, .null),
  (637, .iload_n 3, 638, 3, 0, 0, m_y0, .null),
  (638, .iconst 2, 639, 0, 0, 0, m_y0, .int 2),
  (639, .iadd, 640, 0, 0, 0, m_y0, .null),
  (640, .iaload, 641, 0, 0, 0, m_y0, .null),
  (641, .invokevirtual 78, 644, 3, 0, 623, y_C_named, .null),
  (644, .aload_n 2, 645, 2, 0, 0, m_y0, .null),
  (645, .aload_n 0, 646, 0, 0, 0, m_y0, .null),
  (646, .iload_n 3, 647, 3, 0, 0, m_y0, .null),
  (647, .iconst 1, 648, 0, 0, 0, m_y0, .int 1),
  (648, .iadd, 649, 0, 0, 0, m_y0, .null),
  (649, .iaload, 650, 0, 0, 0, m_y0, .null),
  (650, .aload_n 0, 651, 0, 0, 0, m_y0, .null),
  (651, .iload_n 3, 652, 3, 0, 0, m_y0, .null),
  (652, .iconst 2, 653, 0, 0, 0, m_y0, .int 2),
  (653, .iadd, 654, 0, 0, 0, m_y0, .null),
  (654, .iaload, 655, 0, 0, 0, m_y0, .null),
  (655, .invokevirtual 81, 658, 3, 0, 1213, y_O_named, .null),
  (658, .if_icmp .eq 735, 661, 1393, 0, 0, m_y0, .null),
  (661, .iconst 0, 662, 0, 0, 0, m_y0, .int 0),
  (662, .ireturn, 663, 0, 0, 0, m_y0, .null),
  (663, .aload_n 1, 664, 1, 0, 0, m_y0, .null),
  (664, .aload_n 0, 665, 0, 0, 0, m_y0, .null),
  (665, .iload_n 3, 666, 3, 0, 0, m_y0, .null),
  (666, .iconst 1, 667, 0, 0, 0, m_y0, .int 1),
  (667, .iadd, 668, 0, 0, 0, m_y0, .null),
  (668, .iaload, 669, 0, 0, 0, m_y0, .null),
  (669, .aload_n 0, 670, 0, 0, 0, m_y0, .null),
  (670, .iload_n 3, 671, 3, 0, 0, m_y0, .null),
  (671, .iconst 2, 672, 0, 0, 0, m_y0, .int 2),
  (672, .iadd, 673, 0, 0, 0, m_y0, .null),
  (673, .iaload, 674, 0, 0, 0, m_y0, .null),
  (674, .invokevirtual 82, 677, 3, 0, 650, y_C_plan, .null),
  (677, .aload_n 2, 678, 2, 0, 0, m_y0, .null),
  (678, .aload_n 0, 679, 0, 0, 0, m_y0, .null),
  (679, .iload_n 3, 680, 3, 0, 0, m_y0, .null)]
def M_W_law_8 : List (Nat × ME) := [
  (680, .iconst 1, 681, 0, 0, 0, m_y0, .int 1),
  (681, .iadd, 682, 0, 0, 0, m_y0, .null),
  (682, .iaload, 683, 0, 0, 0, m_y0, .null),
  (683, .aload_n 0, 684, 0, 0, 0, m_y0, .null),
  (684, .iload_n 3, 685, 3, 0, 0, m_y0, .null),
  (685, .iconst 2, 686, 0, 0, 0, m_y0, .int 2),
  (686, .iadd, 687, 0, 0, 0, m_y0, .null),
  (687, .iaload, 688, 0, 0, 0, m_y0, .null),
  (688, .invokevirtual 85, 691, 3, 0, 1227, y_O_plan, .null),
  (691, .if_icmp .eq 702, 694, 1393, 0, 0, m_y0, .null),
  (694, .iconst 0, 695, 0, 0, 0, m_y0, .int 0),
  (695, .ireturn, 696, 0, 0, 0, m_y0, .null),
  (696, .aload_n 1, 697, 1, 0, 0, m_y0, .null),
  (697, .aload_n 0, 698, 0, 0, 0, m_y0, .null),
  (698, .iload_n 3, 699, 3, 0, 0, m_y0, .null),
  (699, .iconst 1, 700, 0, 0, 0, m_y0, .int 1),
  (700, .iadd, 701, 0, 0, 0, m_y0, .null),
  (701, .iaload, 702, 0, 0, 0, m_y0, .null),
  (702, .aload_n 0, 703, 0, 0, 0, m_y0, .null),
  (703, .iload_n 3, 704, 3, 0, 0, m_y0, .null),
  (704, .iconst 2, 705, 0, 0, 0, m_y0, .int 2),
  (705, .iadd, 706, 0, 0, 0, m_y0, .null),
  (706, .iaload, 707, 0, 0, 0, m_y0, .null),
  (707, .invokevirtual 86, 710, 3, 0, 663, y_C_believed, .null),
  (710, .aload_n 2, 711, 2, 0, 0, m_y0, .null),
  (711, .aload_n 0, 712, 0, 0, 0, m_y0, .null),
  (712, .iload_n 3, 713, 3, 0, 0, m_y0, .null),
  (713, .iconst 1, 714, 0, 0, 0, m_y0, .int 1),
  (714, .iadd, 715, 0, 0, 0, m_y0, .null),
  (715, .iaload, 716, 0, 0, 0, m_y0, .null),
  (716, .aload_n 0, 717, 0, 0, 0, m_y0, .null),
  (717, .iload_n 3, 718, 3, 0, 0, m_y0, .null),
  (718, .iconst 2, 719, 0, 0, 0, m_y0, .int 2),
  (719, .iadd, 720, 0, 0, 0, m_y0, .null),
  (720, .iaload, 721, 0, 0, 0, m_y0, .null),
  (721, .invokevirtual 89, 724, 3, 0, 1236, y_O_believed, .null),
  (724, .if_icmp .eq 669, 727, 1393, 0, 0, m_y0, .null),
  (727, .iconst 0, 728, 0, 0, 0, m_y0, .int 0),
  (728, .ireturn, 729, 0, 0, 0, m_y0, .null),
  (729, .aload_n 1, 730, 1, 0, 0, m_y0, .null),
  (730, .aload_n 0, 731, 0, 0, 0, m_y0, .null),
  (731, .iload_n 3, 732, 3, 0, 0, m_y0, .null),
  (732, .iconst 1, 733, 0, 0, 0, m_y0, .int 1),
  (733, .iadd, 734, 0, 0, 0, m_y0, .null),
  (734, .iaload, 735, 0, 0, 0, m_y0, .null),
  (735, .aload_n 0, 736, 0, 0, 0, m_y0, .null),
  (736, .iload_n 3, 737, 3, 0, 0, m_y0, .null),
  (737, .iconst 2, 738, 0, 0, 0, m_y0, .int 2),
  (738, .iadd, 739, 0, 0, 0, m_y0, .null),
  (739, .iaload, 740, 0, 0, 0, m_y0, .null)]
def M_W_law_9 : List (Nat × ME) := [
  (740, .aload_n 0, 741, 0, 0, 0, m_y0, .null),
  (741, .iload_n 3, 742, 3, 0, 0, m_y0, .null),
  (742, .iconst 3, 743, 0, 0, 0, m_y0, .int 3),
  (743, .iadd, 744, 0, 0, 0, m_y0, .null),
  (744, .iaload, 745, 0, 0, 0, m_y0, .null),
  (745, .invokevirtual 90, 748, 4, 0, 673, y_C_cheapest, .null),
  (748, .aload_n 2, 749, 2, 0, 0, m_y0, .null),
  (749, .aload_n 0, 750, 0, 0, 0, m_y0, .null),
  (750, .iload_n 3, 751, 3, 0, 0, m_y0, .null),
  (751, .iconst 1, 752, 0, 0, 0, m_y0, .int 1),
  (752, .iadd, 753, 0, 0, 0, m_y0, .null),
  (753, .iaload, 754, 0, 0, 0, m_y0, .null),
  (754, .aload_n 0, 755, 0, 0, 0, m_y0, .null),
  (755, .iload_n 3, 756, 3, 0, 0, m_y0, .null),
  (756, .iconst 2, 757, 0, 0, 0, m_y0, .int 2),
  (757, .iadd, 758, 0, 0, 0, m_y0, .null),
  (758, .iaload, 759, 0, 0, 0, m_y0, .null),
  (759, .aload_n 0, 760, 0, 0, 0, m_y0, .null),
  (760, .iload_n 3, 761, 3, 0, 0, m_y0, .null),
  (761, .iconst 3, 762, 0, 0, 0, m_y0, .int 3),
  (762, .iadd, 763, 0, 0, 0, m_y0, .null),
  (763, .iaload, 764, 0, 0, 0, m_y0, .null),
  (764, .invokevirtual 93, 767, 4, 0, 1244, y_O_cheapest, .null),
  (767, .if_icmp .eq 626, 770, 1393, 0, 0, m_y0, .null),
  (770, .iconst 0, 771, 0, 0, 0, m_y0, .int 0),
  (771, .ireturn, 772, 0, 0, 0, m_y0, .null),
  (772, .aload_n 1, 773, 1, 0, 0, m_y0, .null),
  (773, .aload_n 0, 774, 0, 0, 0, m_y0, .null),
  (774, .iload_n 3, 775, 3, 0, 0, m_y0, .null),
  (775, .iconst 1, 776, 0, 0, 0, m_y0, .int 1),
  (776, .iadd, 777, 0, 0, 0, m_y0, .null),
  (777, .iaload, 778, 0, 0, 0, m_y0, .null),
  (778, .aload_n 0, 779, 0, 0, 0, m_y0, .null),
  (779, .iload_n 3, 780, 3, 0, 0, m_y0, .null),
  (780, .iconst 2, 781, 0, 0, 0, m_y0, .int 2),
  (781, .iadd, 782, 0, 0, 0, m_y0, .null),
  (782, .iaload, 783, 0, 0, 0, m_y0, .null),
  (783, .invokevirtual 94, 786, 3, 0, 682, y_C_spoils, .null),
  (786, .aload_n 2, 787, 2, 0, 0, m_y0, .null),
  (787, .aload_n 0, 788, 0, 0, 0, m_y0, .null),
  (788, .iload_n 3, 789, 3, 0, 0, m_y0, .null),
  (789, .iconst 1, 790, 0, 0, 0, m_y0, .int 1),
  (790, .iadd, 791, 0, 0, 0, m_y0, .null),
  (791, .iaload, 792, 0, 0, 0, m_y0, .null),
  (792, .aload_n 0, 793, 0, 0, 0, m_y0, .null),
  (793, .iload_n 3, 794, 3, 0, 0, m_y0, .null),
  (794, .iconst 2, 795, 0, 0, 0, m_y0, .int 2),
  (795, .iadd, 796, 0, 0, 0, m_y0, .null),
  (796, .iaload, 797, 0, 0, 0, m_y0, .null),
  (797, .invokevirtual 97, 800, 3, 0, 1252, y_O_spoils, .null)]
def M_W_law_10 : List (Nat × ME) := [
  (800, .if_icmp .eq 593, 803, 1393, 0, 0, m_y0, .null),
  (803, .iconst 0, 804, 0, 0, 0, m_y0, .int 0),
  (804, .ireturn, 805, 0, 0, 0, m_y0, .null),
  (805, .aload_n 1, 806, 1, 0, 0, m_y0, .null),
  (806, .aload_n 0, 807, 0, 0, 0, m_y0, .null),
  (807, .iload_n 3, 808, 3, 0, 0, m_y0, .null),
  (808, .iconst 1, 809, 0, 0, 0, m_y0, .int 1),
  (809, .iadd, 810, 0, 0, 0, m_y0, .null),
  (810, .iaload, 811, 0, 0, 0, m_y0, .null),
  (811, .invokevirtual 98, 814, 2, 0, 686, y_C_price, .null),
  (814, .aload_n 2, 815, 2, 0, 0, m_y0, .null),
  (815, .aload_n 0, 816, 0, 0, 0, m_y0, .null),
  (816, .iload_n 3, 817, 3, 0, 0, m_y0, .null),
  (817, .iconst 1, 818, 0, 0, 0, m_y0, .int 1),
  (818, .iadd, 819, 0, 0, 0, m_y0, .null),
  (819, .iaload, 820, 0, 0, 0, m_y0, .null),
  (820, .invokevirtual 101, 823, 2, 0, 1256, y_O_price, .null),
  (823, .if_icmp .eq 570, 826, 1393, 0, 0, m_y0, .null),
  (826, .iconst 0, 827, 0, 0, 0, m_y0, .int 0),
  (827, .ireturn, 828, 0, 0, 0, m_y0, .null),
  (828, .aload_n 1, 829, 1, 0, 0, m_y0, .null),
  (829, .aload_n 0, 830, 0, 0, 0, m_y0, .null),
  (830, .iload_n 3, 831, 3, 0, 0, m_y0, .null),
  (831, .iconst 1, 832, 0, 0, 0, m_y0, .int 1),
  (832, .iadd, 833, 0, 0, 0, m_y0, .null),
  (833, .iaload, 834, 0, 0, 0, m_y0, .null),
  (834, .aload_n 0, 835, 0, 0, 0, m_y0, .null),
  (835, .iload_n 3, 836, 3, 0, 0, m_y0, .null),
  (836, .iconst 2, 837, 0, 0, 0, m_y0, .int 2),
  (837, .iadd, 838, 0, 0, 0, m_y0, .null),
  (838, .iaload, 839, 0, 0, 0, m_y0, .null),
  (839, .invokevirtual 102, 842, 3, 0, 694, y_C_paper, .null),
  (842, .aload_n 2, 843, 2, 0, 0, m_y0, .null),
  (843, .aload_n 0, 844, 0, 0, 0, m_y0, .null),
  (844, .iload_n 3, 845, 3, 0, 0, m_y0, .null),
  (845, .iconst 1, 846, 0, 0, 0, m_y0, .int 1),
  (846, .iadd, 847, 0, 0, 0, m_y0, .null),
  (847, .iaload, 848, 0, 0, 0, m_y0, .null),
  (848, .aload_n 0, 849, 0, 0, 0, m_y0, .null),
  (849, .iload_n 3, 850, 3, 0, 0, m_y0, .null),
  (850, .iconst 2, 851, 0, 0, 0, m_y0, .int 2),
  (851, .iadd, 852, 0, 0, 0, m_y0, .null),
  (852, .iaload, 853, 0, 0, 0, m_y0, .null),
  (853, .invokevirtual 105, 856, 3, 0, 1264, y_O_paper, .null),
  (856, .if_icmp .eq 537, 859, 1393, 0, 0, m_y0, .null),
  (859, .iconst 0, 860, 0, 0, 0, m_y0, .int 0),
  (860, .ireturn, 861, 0, 0, 0, m_y0, .null),
  (861, .aload_n 1, 862, 1, 0, 0, m_y0, .null),
  (862, .aload_n 0, 863, 0, 0, 0, m_y0, .null),
  (863, .iload_n 3, 864, 3, 0, 0, m_y0, .null)]
def M_W_law_11 : List (Nat × ME) := [
  (864, .iconst 1, 865, 0, 0, 0, m_y0, .int 1),
  (865, .iadd, 866, 0, 0, 0, m_y0, .null),
  (866, .iaload, 867, 0, 0, 0, m_y0, .null),
  (867, .invokevirtual 106, 870, 2, 0, 702, y_C_papers, .null),
  (870, .aload_n 2, 871, 2, 0, 0, m_y0, .null),
  (871, .aload_n 0, 872, 0, 0, 0, m_y0, .null),
  (872, .iload_n 3, 873, 3, 0, 0, m_y0, .null),
  (873, .iconst 1, 874, 0, 0, 0, m_y0, .int 1),
  (874, .iadd, 875, 0, 0, 0, m_y0, .null),
  (875, .iaload, 876, 0, 0, 0, m_y0, .null),
  (876, .invokevirtual 109, 879, 2, 0, 1268, y_O_papers, .null),
  (879, .if_icmp .eq 514, 882, 1393, 0, 0, m_y0, .null),
  (882, .iconst 0, 883, 0, 0, 0, m_y0, .int 0),
  (883, .ireturn, 884, 0, 0, 0, m_y0, .null),
  (884, .aload_n 1, 885, 1, 0, 0, m_y0, .null),
  (885, .aload_n 0, 886, 0, 0, 0, m_y0, .null),
  (886, .iload_n 3, 887, 3, 0, 0, m_y0, .null),
  (887, .iconst 1, 888, 0, 0, 0, m_y0, .int 1),
  (888, .iadd, 889, 0, 0, 0, m_y0, .null),
  (889, .iaload, 890, 0, 0, 0, m_y0, .null),
  (890, .invokevirtual 110, 893, 2, 0, 718, y_C_house, .null),
  (893, .aload_n 2, 894, 2, 0, 0, m_y0, .null),
  (894, .aload_n 0, 895, 0, 0, 0, m_y0, .null),
  (895, .iload_n 3, 896, 3, 0, 0, m_y0, .null),
  (896, .iconst 1, 897, 0, 0, 0, m_y0, .int 1),
  (897, .iadd, 898, 0, 0, 0, m_y0, .null),
  (898, .iaload, 899, 0, 0, 0, m_y0, .null),
  (899, .invokevirtual 113, 902, 2, 0, 1284, y_O_house, .null),
  (902, .if_icmp .eq 491, 905, 1393, 0, 0, m_y0, .null),
  (905, .iconst 0, 906, 0, 0, 0, m_y0, .int 0),
  (906, .ireturn, 907, 0, 0, 0, m_y0, .null),
  (907, .aload_n 1, 908, 1, 0, 0, m_y0, .null),
  (908, .aload_n 0, 909, 0, 0, 0, m_y0, .null),
  (909, .iload_n 3, 910, 3, 0, 0, m_y0, .null),
  (910, .iconst 1, 911, 0, 0, 0, m_y0, .int 1),
  (911, .iadd, 912, 0, 0, 0, m_y0, .null),
  (912, .iaload, 913, 0, 0, 0, m_y0, .null),
  (913, .aload_n 0, 914, 0, 0, 0, m_y0, .null),
  (914, .iload_n 3, 915, 3, 0, 0, m_y0, .null),
  (915, .iconst 2, 916, 0, 0, 0, m_y0, .int 2),
  (916, .iadd, 917, 0, 0, 0, m_y0, .null),
  (917, .iaload, 918, 0, 0, 0, m_y0, .null),
  (918, .aload_n 0, 919, 0, 0, 0, m_y0, .null),
  (919, .iload_n 3, 920, 3, 0, 0, m_y0, .null),
  (920, .iconst 3, 921, 0, 0, 0, m_y0, .int 3),
  (921, .iadd, 922, 0, 0, 0, m_y0, .null),
  (922, .iaload, 923, 0, 0, 0, m_y0, .null),
  (923, .invokevirtual 114, 926, 4, 0, 723, y_C_drawn, .null),
  (926, .aload_n 2, 927, 2, 0, 0, m_y0, .null),
  (927, .aload_n 0, 928, 0, 0, 0, m_y0, .null)]
def M_W_law_12 : List (Nat × ME) := [
  (928, .iload_n 3, 929, 3, 0, 0, m_y0, .null),
  (929, .iconst 1, 930, 0, 0, 0, m_y0, .int 1),
  (930, .iadd, 931, 0, 0, 0, m_y0, .null),
  (931, .iaload, 932, 0, 0, 0, m_y0, .null),
  (932, .aload_n 0, 933, 0, 0, 0, m_y0, .null),
  (933, .iload_n 3, 934, 3, 0, 0, m_y0, .null),
  (934, .iconst 2, 935, 0, 0, 0, m_y0, .int 2),
  (935, .iadd, 936, 0, 0, 0, m_y0, .null),
  (936, .iaload, 937, 0, 0, 0, m_y0, .null),
  (937, .aload_n 0, 938, 0, 0, 0, m_y0, .null),
  (938, .iload_n 3, 939, 3, 0, 0, m_y0, .null),
  (939, .iconst 3, 940, 0, 0, 0, m_y0, .int 3),
  (940, .iadd, 941, 0, 0, 0, m_y0, .null),
  (941, .iaload, 942, 0, 0, 0, m_y0, .null),
  (942, .invokevirtual 117, 945, 4, 0, 1289, y_O_drawn, .null),
  (945, .if_icmp .eq 448, 948, 1393, 0, 0, m_y0, .null),
  (948, .iconst 0, 949, 0, 0, 0, m_y0, .int 0),
  (949, .ireturn, 950, 0, 0, 0, m_y0, .null),
  (950, .aload_n 1, 951, 1, 0, 0, m_y0, .null),
  (951, .invokevirtual 118, 954, 1, 0, 728, y_C_image, .null),
  (954, .aload_n 2, 955, 2, 0, 0, m_y0, .null),
  (955, .invokevirtual 121, 958, 1, 0, 1294, y_O_image, .null),
  (958, .if_icmp .eq 435, 961, 1393, 0, 0, m_y0, .null),
  (961, .iconst 0, 962, 0, 0, 0, m_y0, .int 0),
  (962, .ireturn, 963, 0, 0, 0, m_y0, .null),
  (963, .aload_n 1, 964, 1, 0, 0, m_y0, .null),
  (964, .invokevirtual 122, 967, 1, 0, 732, y_C_back, .null),
  (967, .aload_n 2, 968, 2, 0, 0, m_y0, .null),
  (968, .invokevirtual 125, 971, 1, 0, 1298, y_O_back, .null),
  (971, .if_icmp .eq 422, 974, 1393, 0, 0, m_y0, .null),
  (974, .iconst 0, 975, 0, 0, 0, m_y0, .int 0),
  (975, .ireturn, 976, 0, 0, 0, m_y0, .null),
  (976, .aload_n 1, 977, 1, 0, 0, m_y0, .null),
  (977, .invokevirtual 126, 980, 1, 0, 736, y_C_undo, .null),
  (980, .aload_n 2, 981, 2, 0, 0, m_y0, .null),
  (981, .invokevirtual 129, 984, 1, 0, 1024, y_O_undo, .null),
  (984, .if_icmp .eq 409, 987, 1393, 0, 0, m_y0, .null),
  (987, .iconst 0, 988, 0, 0, 0, m_y0, .int 0),
  (988, .ireturn, 989, 0, 0, 0, m_y0, .null),
  (989, .aload_n 1, 990, 1, 0, 0, m_y0, .null),
  (990, .invokevirtual 130, 993, 1, 0, 744, y_C_redo, .null),
  (993, .aload_n 2, 994, 2, 0, 0, m_y0, .null),
  (994, .invokevirtual 133, 997, 1, 0, 1028, y_O_redo, .null),
  (997, .if_icmp .eq 396, 1000, 1393, 0, 0, m_y0, .null),
  (1000, .iconst 0, 1001, 0, 0, 0, m_y0, .int 0),
  (1001, .ireturn, 1002, 0, 0, 0, m_y0, .null),
  (1002, .aload_n 1, 1003, 1, 0, 0, m_y0, .null),
  (1003, .aload_n 0, 1004, 0, 0, 0, m_y0, .null),
  (1004, .iload_n 3, 1005, 3, 0, 0, m_y0, .null),
  (1005, .iconst 1, 1006, 0, 0, 0, m_y0, .int 1)]
def M_W_law_13 : List (Nat × ME) := [
  (1006, .iadd, 1007, 0, 0, 0, m_y0, .null),
  (1007, .iaload, 1008, 0, 0, 0, m_y0, .null),
  (1008, .invokevirtual 134, 1011, 2, 0, 752, y_C_body, .null),
  (1011, .aload_n 2, 1012, 2, 0, 0, m_y0, .null),
  (1012, .aload_n 0, 1013, 0, 0, 0, m_y0, .null),
  (1013, .iload_n 3, 1014, 3, 0, 0, m_y0, .null),
  (1014, .iconst 1, 1015, 0, 0, 0, m_y0, .int 1),
  (1015, .iadd, 1016, 0, 0, 0, m_y0, .null),
  (1016, .iaload, 1017, 0, 0, 0, m_y0, .null),
  (1017, .invokevirtual 137, 1020, 2, 0, 1302, y_O_body, .null),
  (1020, .if_icmp .eq 373, 1023, 1393, 0, 0, m_y0, .null),
  (1023, .iconst 0, 1024, 0, 0, 0, m_y0, .int 0),
  (1024, .ireturn, 1025, 0, 0, 0, m_y0, .null),
  (1025, .aload_n 1, 1026, 1, 0, 0, m_y0, .null),
  (1026, .aload_n 0, 1027, 0, 0, 0, m_y0, .null),
  (1027, .iload_n 3, 1028, 3, 0, 0, m_y0, .null),
  (1028, .iconst 1, 1029, 0, 0, 0, m_y0, .int 1),
  (1029, .iadd, 1030, 0, 0, 0, m_y0, .null),
  (1030, .iaload, 1031, 0, 0, 0, m_y0, .null),
  (1031, .aload_n 0, 1032, 0, 0, 0, m_y0, .null),
  (1032, .iload_n 3, 1033, 3, 0, 0, m_y0, .null),
  (1033, .iconst 2, 1034, 0, 0, 0, m_y0, .int 2),
  (1034, .iadd, 1035, 0, 0, 0, m_y0, .null),
  (1035, .iaload, 1036, 0, 0, 0, m_y0, .null),
  (1036, .aload_n 0, 1037, 0, 0, 0, m_y0, .null),
  (1037, .iload_n 3, 1038, 3, 0, 0, m_y0, .null),
  (1038, .iconst 3, 1039, 0, 0, 0, m_y0, .int 3),
  (1039, .iadd, 1040, 0, 0, 0, m_y0, .null),
  (1040, .iaload, 1041, 0, 0, 0, m_y0, .null),
  (1041, .invokevirtual 138, 1044, 4, 0, 764, y_C_act, .null),
  (1044, .aload_n 2, 1045, 2, 0, 0, m_y0, .null),
  (1045, .aload_n 0, 1046, 0, 0, 0, m_y0, .null),
  (1046, .iload_n 3, 1047, 3, 0, 0, m_y0, .null),
  (1047, .iconst 1, 1048, 0, 0, 0, m_y0, .int 1),
  (1048, .iadd, 1049, 0, 0, 0, m_y0, .null),
  (1049, .iaload, 1050, 0, 0, 0, m_y0, .null),
  (1050, .aload_n 0, 1051, 0, 0, 0, m_y0, .null),
  (1051, .iload_n 3, 1052, 3, 0, 0, m_y0, .null),
  (1052, .iconst 2, 1053, 0, 0, 0, m_y0, .int 2),
  (1053, .iadd, 1054, 0, 0, 0, m_y0, .null),
  (1054, .iaload, 1055, 0, 0, 0, m_y0, .null),
  (1055, .aload_n 0, 1056, 0, 0, 0, m_y0, .null),
  (1056, .iload_n 3, 1057, 3, 0, 0, m_y0, .null),
  (1057, .iconst 3, 1058, 0, 0, 0, m_y0, .int 3),
  (1058, .iadd, 1059, 0, 0, 0, m_y0, .null),
  (1059, .iaload, 1060, 0, 0, 0, m_y0, .null),
  (1060, .invokevirtual 141, 1063, 4, 0, 1307, y_O_act, .null),
  (1063, .if_icmp .eq 330, 1066, 1393, 0, 0, m_y0, .null),
  (1066, .iconst 0, 1067, 0, 0, 0, m_y0, .int 0),
  (1067, .ireturn, 1068, 0, 0, 0, m_y0, .null)]
def M_W_law_14 : List (Nat × ME) := [
  (1068, .aload_n 1, 1069, 1, 0, 0, m_y0, .null),
  (1069, .aload_n 0, 1070, 0, 0, 0, m_y0, .null),
  (1070, .iload_n 3, 1071, 3, 0, 0, m_y0, .null),
  (1071, .iconst 1, 1072, 0, 0, 0, m_y0, .int 1),
  (1072, .iadd, 1073, 0, 0, 0, m_y0, .null),
  (1073, .iaload, 1074, 0, 0, 0, m_y0, .null),
  (1074, .invokevirtual 142, 1077, 2, 0, 795, y_C_trace, .null),
  (1077, .aload_n 2, 1078, 2, 0, 0, m_y0, .null),
  (1078, .aload_n 0, 1079, 0, 0, 0, m_y0, .null),
  (1079, .iload_n 3, 1080, 3, 0, 0, m_y0, .null),
  (1080, .iconst 1, 1081, 0, 0, 0, m_y0, .int 1),
  (1081, .iadd, 1082, 0, 0, 0, m_y0, .null),
  (1082, .iaload, 1083, 0, 0, 0, m_y0, .null),
  (1083, .invokevirtual 145, 1086, 2, 0, 1335, y_O_trace, .null),
  (1086, .if_icmp .eq 307, 1089, 1393, 0, 0, m_y0, .null),
  (1089, .iconst 0, 1090, 0, 0, 0, m_y0, .int 0),
  (1090, .ireturn, 1091, 0, 0, 0, m_y0, .null),
  (1091, .aload_n 1, 1092, 1, 0, 0, m_y0, .null),
  (1092, .aload_n 0, 1093, 0, 0, 0, m_y0, .null),
  (1093, .iload_n 3, 1094, 3, 0, 0, m_y0, .null),
  (1094, .iconst 1, 1095, 0, 0, 0, m_y0, .int 1),
  (1095, .iadd, 1096, 0, 0, 0, m_y0, .null),
  (1096, .iaload, 1097, 0, 0, 0, m_y0, .null),
  (1097, .aload_n 0, 1098, 0, 0, 0, m_y0, .null),
  (1098, .iload_n 3, 1099, 3, 0, 0, m_y0, .null),
  (1099, .iconst 2, 1100, 0, 0, 0, m_y0, .int 2),
  (1100, .iadd, 1101, 0, 0, 0, m_y0, .null),
  (1101, .iaload, 1102, 0, 0, 0, m_y0, .null),
  (1102, .invokevirtual 146, 1105, 3, 0, 803, y_C_keep, .null),
  (1105, .aload_n 2, 1106, 2, 0, 0, m_y0, .null),
  (1106, .aload_n 0, 1107, 0, 0, 0, m_y0, .null),
  (1107, .iload_n 3, 1108, 3, 0, 0, m_y0, .null),
  (1108, .iconst 1, 1109, 0, 0, 0, m_y0, .int 1),
  (1109, .iadd, 1110, 0, 0, 0, m_y0, .null),
  (1110, .iaload, 1111, 0, 0, 0, m_y0, .null),
  (1111, .aload_n 0, 1112, 0, 0, 0, m_y0, .null),
  (1112, .iload_n 3, 1113, 3, 0, 0, m_y0, .null),
  (1113, .iconst 2, 1114, 0, 0, 0, m_y0, .int 2),
  (1114, .iadd, 1115, 0, 0, 0, m_y0, .null),
  (1115, .iaload, 1116, 0, 0, 0, m_y0, .null),
  (1116, .invokevirtual 149, 1119, 3, 0, 1339, y_O_keep, .null),
  (1119, .if_icmp .eq 274, 1122, 1393, 0, 0, m_y0, .null),
  (1122, .iconst 0, 1123, 0, 0, 0, m_y0, .int 0),
  (1123, .ireturn, 1124, 0, 0, 0, m_y0, .null),
  (1124, .aload_n 1, 1125, 1, 0, 0, m_y0, .null),
  (1125, .aload_n 0, 1126, 0, 0, 0, m_y0, .null),
  (1126, .iload_n 3, 1127, 3, 0, 0, m_y0, .null),
  (1127, .iconst 1, 1128, 0, 0, 0, m_y0, .int 1),
  (1128, .iadd, 1129, 0, 0, 0, m_y0, .null),
  (1129, .iaload, 1130, 0, 0, 0, m_y0, .null)]
def M_W_law_15 : List (Nat × ME) := [
  (1130, .aload_n 0, 1131, 0, 0, 0, m_y0, .null),
  (1131, .iload_n 3, 1132, 3, 0, 0, m_y0, .null),
  (1132, .iconst 2, 1133, 0, 0, 0, m_y0, .int 2),
  (1133, .iadd, 1134, 0, 0, 0, m_y0, .null),
  (1134, .iaload, 1135, 0, 0, 0, m_y0, .null),
  (1135, .aload_n 0, 1136, 0, 0, 0, m_y0, .null),
  (1136, .iload_n 3, 1137, 3, 0, 0, m_y0, .null),
  (1137, .iconst 3, 1138, 0, 0, 0, m_y0, .int 3),
  (1138, .iadd, 1139, 0, 0, 0, m_y0, .null),
  (1139, .iaload, 1140, 0, 0, 0, m_y0, .null),
  (1140, .invokevirtual 150, 1143, 4, 0, 811, y_C_row, .null),
  (1143, .aload_n 2, 1144, 2, 0, 0, m_y0, .null),
  (1144, .aload_n 0, 1145, 0, 0, 0, m_y0, .null),
  (1145, .iload_n 3, 1146, 3, 0, 0, m_y0, .null),
  (1146, .iconst 1, 1147, 0, 0, 0, m_y0, .int 1),
  (1147, .iadd, 1148, 0, 0, 0, m_y0, .null),
  (1148, .iaload, 1149, 0, 0, 0, m_y0, .null),
  (1149, .aload_n 0, 1150, 0, 0, 0, m_y0, .null),
  (1150, .iload_n 3, 1151, 3, 0, 0, m_y0, .null),
  (1151, .iconst 2, 1152, 0, 0, 0, m_y0, .int 2),
  (1152, .iadd, 1153, 0, 0, 0, m_y0, .null),
  (1153, .iaload, 1154, 0, 0, 0, m_y0, .null),
  (1154, .aload_n 0, 1155, 0, 0, 0, m_y0, .null),
  (1155, .iload_n 3, 1156, 3, 0, 0, m_y0, .null),
  (1156, .iconst 3, 1157, 0, 0, 0, m_y0, .int 3),
  (1157, .iadd, 1158, 0, 0, 0, m_y0, .null),
  (1158, .iaload, 1159, 0, 0, 0, m_y0, .null),
  (1159, .invokevirtual 153, 1162, 4, 0, 1343, y_O_row, .null),
  (1162, .if_icmp .eq 231, 1165, 1393, 0, 0, m_y0, .null),
  (1165, .iconst 0, 1166, 0, 0, 0, m_y0, .int 0),
  (1166, .ireturn, 1167, 0, 0, 0, m_y0, .null),
  (1167, .aload_n 1, 1168, 1, 0, 0, m_y0, .null),
  (1168, .aload_n 0, 1169, 0, 0, 0, m_y0, .null),
  (1169, .iload_n 3, 1170, 3, 0, 0, m_y0, .null),
  (1170, .iconst 1, 1171, 0, 0, 0, m_y0, .int 1),
  (1171, .iadd, 1172, 0, 0, 0, m_y0, .null),
  (1172, .iaload, 1173, 0, 0, 0, m_y0, .null),
  (1173, .aload_n 0, 1174, 0, 0, 0, m_y0, .null),
  (1174, .iload_n 3, 1175, 3, 0, 0, m_y0, .null),
  (1175, .iconst 2, 1176, 0, 0, 0, m_y0, .int 2),
  (1176, .iadd, 1177, 0, 0, 0, m_y0, .null),
  (1177, .iaload, 1178, 0, 0, 0, m_y0, .null),
  (1178, .aload_n 0, 1179, 0, 0, 0, m_y0, .null),
  (1179, .iload_n 3, 1180, 3, 0, 0, m_y0, .null),
  (1180, .iconst 3, 1181, 0, 0, 0, m_y0, .int 3),
  (1181, .iadd, 1182, 0, 0, 0, m_y0, .null),
  (1182, .iaload, 1183, 0, 0, 0, m_y0, .null),
  (1183, .i2l, 1184, 0, 0, 0, m_y0, .null),
  (1184, .bipush 32, 1186, 0, 0, 0, m_y0, .int 32),
  (1186, .lshl, 1187, 0, 0, 0, m_y0, .null)]
def M_W_law_16 : List (Nat × ME) := [
  (1187, .aload_n 0, 1188, 0, 0, 0, m_y0, .null),
  (1188, .iload_n 3, 1189, 3, 0, 0, m_y0, .null),
  (1189, .iconst 4, 1190, 0, 0, 0, m_y0, .int 4),
  (1190, .iadd, 1191, 0, 0, 0, m_y0, .null),
  (1191, .iaload, 1192, 0, 0, 0, m_y0, .null),
  (1192, .i2l, 1193, 0, 0, 0, m_y0, .null),
  (1193, .ldc2_w 154, 1196, 0, 0, 1386, m_y0, .long 4294967295),
  (1196, .land, 1197, 0, 0, 0, m_y0, .null),
  (1197, .lor, 1198, 0, 0, 0, m_y0, .null),
  (1198, .invokevirtual 156, 1201, 4, 0, 825, y_C_put, .null),
  (1201, .aload_n 2, 1202, 2, 0, 0, m_y0, .null),
  (1202, .aload_n 0, 1203, 0, 0, 0, m_y0, .null),
  (1203, .iload_n 3, 1204, 3, 0, 0, m_y0, .null),
  (1204, .iconst 1, 1205, 0, 0, 0, m_y0, .int 1),
  (1205, .iadd, 1206, 0, 0, 0, m_y0, .null),
  (1206, .iaload, 1207, 0, 0, 0, m_y0, .null),
  (1207, .aload_n 0, 1208, 0, 0, 0, m_y0, .null),
  (1208, .iload_n 3, 1209, 3, 0, 0, m_y0, .null),
  (1209, .iconst 2, 1210, 0, 0, 0, m_y0, .int 2),
  (1210, .iadd, 1211, 0, 0, 0, m_y0, .null),
  (1211, .iaload, 1212, 0, 0, 0, m_y0, .null),
  (1212, .aload_n 0, 1213, 0, 0, 0, m_y0, .null),
  (1213, .iload_n 3, 1214, 3, 0, 0, m_y0, .null),
  (1214, .iconst 3, 1215, 0, 0, 0, m_y0, .int 3),
  (1215, .iadd, 1216, 0, 0, 0, m_y0, .null),
  (1216, .iaload, 1217, 0, 0, 0, m_y0, .null),
  (1217, .i2l, 1218, 0, 0, 0, m_y0, .null),
  (1218, .bipush 32, 1220, 0, 0, 0, m_y0, .int 32),
  (1220, .lshl, 1221, 0, 0, 0, m_y0, .null),
  (1221, .aload_n 0, 1222, 0, 0, 0, m_y0, .null),
  (1222, .iload_n 3, 1223, 3, 0, 0, m_y0, .null),
  (1223, .iconst 4, 1224, 0, 0, 0, m_y0, .int 4),
  (1224, .iadd, 1225, 0, 0, 0, m_y0, .null),
  (1225, .iaload, 1226, 0, 0, 0, m_y0, .null),
  (1226, .i2l, 1227, 0, 0, 0, m_y0, .null),
  (1227, .ldc2_w 154, 1230, 0, 0, 1386, m_y0, .long 4294967295),
  (1230, .land, 1231, 0, 0, 0, m_y0, .null),
  (1231, .lor, 1232, 0, 0, 0, m_y0, .null),
  (1232, .invokevirtual 160, 1235, 4, 0, 1348, y_O_put, .null),
  (1235, .if_icmp .eq 158, 1238, 1393, 0, 0, m_y0, .null),
  (1238, .iconst 0, 1239, 0, 0, 0, m_y0, .int 0),
  (1239, .ireturn, 1240, 0, 0, 0, m_y0, .null),
  (1240, .aload_n 1, 1241, 1, 0, 0, m_y0, .null),
  (1241, .aload_n 0, 1242, 0, 0, 0, m_y0, .null),
  (1242, .iload_n 3, 1243, 3, 0, 0, m_y0, .null),
  (1243, .iconst 1, 1244, 0, 0, 0, m_y0, .int 1),
  (1244, .iadd, 1245, 0, 0, 0, m_y0, .null),
  (1245, .iaload, 1246, 0, 0, 0, m_y0, .null),
  (1246, .aload_n 0, 1247, 0, 0, 0, m_y0, .null),
  (1247, .iload_n 3, 1248, 3, 0, 0, m_y0, .null)]
def M_W_law_17 : List (Nat × ME) := [
  (1248, .iconst 2, 1249, 0, 0, 0, m_y0, .int 2),
  (1249, .iadd, 1250, 0, 0, 0, m_y0, .null),
  (1250, .iaload, 1251, 0, 0, 0, m_y0, .null),
  (1251, .invokevirtual 161, 1254, 3, 0, 842, y_C_element, .null),
  (1254, .aload_n 2, 1255, 2, 0, 0, m_y0, .null),
  (1255, .aload_n 0, 1256, 0, 0, 0, m_y0, .null),
  (1256, .iload_n 3, 1257, 3, 0, 0, m_y0, .null),
  (1257, .iconst 1, 1258, 0, 0, 0, m_y0, .int 1),
  (1258, .iadd, 1259, 0, 0, 0, m_y0, .null),
  (1259, .iaload, 1260, 0, 0, 0, m_y0, .null),
  (1260, .aload_n 0, 1261, 0, 0, 0, m_y0, .null),
  (1261, .iload_n 3, 1262, 3, 0, 0, m_y0, .null),
  (1262, .iconst 2, 1263, 0, 0, 0, m_y0, .int 2),
  (1263, .iadd, 1264, 0, 0, 0, m_y0, .null),
  (1264, .iaload, 1265, 0, 0, 0, m_y0, .null),
  (1265, .invokevirtual 164, 1268, 3, 0, 1359, y_O_element, .null),
  (1268, .lcmp, 1269, 0, 0, 0, m_y0, .null),
  (1269, .ifCond .eq 124, 1272, 1393, 0, 0, m_y0, .null),
  (1272, .iconst 0, 1273, 0, 0, 0, m_y0, .int 0),
  (1273, .ireturn, 1274, 0, 0, 0, m_y0, .null),
  (1274, .aload_n 1, 1275, 1, 0, 0, m_y0, .null),
  (1275, .aload_n 0, 1276, 0, 0, 0, m_y0, .null),
  (1276, .iload_n 3, 1277, 3, 0, 0, m_y0, .null),
  (1277, .iconst 1, 1278, 0, 0, 0, m_y0, .int 1),
  (1278, .iadd, 1279, 0, 0, 0, m_y0, .null),
  (1279, .iaload, 1280, 0, 0, 0, m_y0, .null),
  (1280, .aload_n 0, 1281, 0, 0, 0, m_y0, .null),
  (1281, .iload_n 3, 1282, 3, 0, 0, m_y0, .null),
  (1282, .iconst 2, 1283, 0, 0, 0, m_y0, .int 2),
  (1283, .iadd, 1284, 0, 0, 0, m_y0, .null),
  (1284, .iaload, 1285, 0, 0, 0, m_y0, .null),
  (1285, .aload_n 0, 1286, 0, 0, 0, m_y0, .null),
  (1286, .iload_n 3, 1287, 3, 0, 0, m_y0, .null),
  (1287, .iconst 3, 1288, 0, 0, 0, m_y0, .int 3),
  (1288, .iadd, 1289, 0, 0, 0, m_y0, .null),
  (1289, .iaload, 1290, 0, 0, 0, m_y0, .null),
  (1290, .aload_n 0, 1291, 0, 0, 0, m_y0, .null),
  (1291, .iload_n 3, 1292, 3, 0, 0, m_y0, .null),
  (1292, .iconst 4, 1293, 0, 0, 0, m_y0, .int 4),
  (1293, .iadd, 1294, 0, 0, 0, m_y0, .null),
  (1294, .iaload, 1295, 0, 0, 0, m_y0, .null),
  (1295, .aload_n 0, 1296, 0, 0, 0, m_y0, .null),
  (1296, .iload_n 3, 1297, 3, 0, 0, m_y0, .null),
  (1297, .iconst 5, 1298, 0, 0, 0, m_y0, .int 5),
  (1298, .iadd, 1299, 0, 0, 0, m_y0, .null),
  (1299, .iaload, 1300, 0, 0, 0, m_y0, .null),
  (1300, .invokevirtual 165, 1303, 6, 0, 846, y_C_shift, .null),
  (1303, .aload_n 2, 1304, 2, 0, 0, m_y0, .null),
  (1304, .aload_n 0, 1305, 0, 0, 0, m_y0, .null),
  (1305, .iload_n 3, 1306, 3, 0, 0, m_y0, .null)]
def M_W_law_18 : List (Nat × ME) := [
  (1306, .iconst 1, 1307, 0, 0, 0, m_y0, .int 1),
  (1307, .iadd, 1308, 0, 0, 0, m_y0, .null),
  (1308, .iaload, 1309, 0, 0, 0, m_y0, .null),
  (1309, .aload_n 0, 1310, 0, 0, 0, m_y0, .null),
  (1310, .iload_n 3, 1311, 3, 0, 0, m_y0, .null),
  (1311, .iconst 2, 1312, 0, 0, 0, m_y0, .int 2),
  (1312, .iadd, 1313, 0, 0, 0, m_y0, .null),
  (1313, .iaload, 1314, 0, 0, 0, m_y0, .null),
  (1314, .aload_n 0, 1315, 0, 0, 0, m_y0, .null),
  (1315, .iload_n 3, 1316, 3, 0, 0, m_y0, .null),
  (1316, .iconst 3, 1317, 0, 0, 0, m_y0, .int 3),
  (1317, .iadd, 1318, 0, 0, 0, m_y0, .null),
  (1318, .iaload, 1319, 0, 0, 0, m_y0, .null),
  (1319, .aload_n 0, 1320, 0, 0, 0, m_y0, .null),
  (1320, .iload_n 3, 1321, 3, 0, 0, m_y0, .null),
  (1321, .iconst 4, 1322, 0, 0, 0, m_y0, .int 4),
  (1322, .iadd, 1323, 0, 0, 0, m_y0, .null),
  (1323, .iaload, 1324, 0, 0, 0, m_y0, .null),
  (1324, .aload_n 0, 1325, 0, 0, 0, m_y0, .null),
  (1325, .iload_n 3, 1326, 3, 0, 0, m_y0, .null),
  (1326, .iconst 5, 1327, 0, 0, 0, m_y0, .int 5),
  (1327, .iadd, 1328, 0, 0, 0, m_y0, .null),
  (1328, .iaload, 1329, 0, 0, 0, m_y0, .null),
  (1329, .invokevirtual 169, 1332, 6, 0, 1363, y_O_shift, .null),
  (1332, .if_icmp .eq 61, 1335, 1393, 0, 0, m_y0, .null),
  (1335, .iconst 0, 1336, 0, 0, 0, m_y0, .int 0),
  (1336, .ireturn, 1337, 0, 0, 0, m_y0, .null),
  (1337, .aload_n 1, 1338, 1, 0, 0, m_y0, .null),
  (1338, .aload_n 0, 1339, 0, 0, 0, m_y0, .null),
  (1339, .iload_n 3, 1340, 3, 0, 0, m_y0, .null),
  (1340, .iconst 1, 1341, 0, 0, 0, m_y0, .int 1),
  (1341, .iadd, 1342, 0, 0, 0, m_y0, .null),
  (1342, .iaload, 1343, 0, 0, 0, m_y0, .null),
  (1343, .aload_n 0, 1344, 0, 0, 0, m_y0, .null),
  (1344, .iload_n 3, 1345, 3, 0, 0, m_y0, .null),
  (1345, .iconst 2, 1346, 0, 0, 0, m_y0, .int 2),
  (1346, .iadd, 1347, 0, 0, 0, m_y0, .null),
  (1347, .iaload, 1348, 0, 0, 0, m_y0, .null),
  (1348, .invokevirtual 170, 1351, 3, 0, 859, y_C_taken, .null),
  (1351, .aload_n 2, 1352, 2, 0, 0, m_y0, .null),
  (1352, .aload_n 0, 1353, 0, 0, 0, m_y0, .null),
  (1353, .iload_n 3, 1354, 3, 0, 0, m_y0, .null),
  (1354, .iconst 1, 1355, 0, 0, 0, m_y0, .int 1),
  (1355, .iadd, 1356, 0, 0, 0, m_y0, .null),
  (1356, .iaload, 1357, 0, 0, 0, m_y0, .null),
  (1357, .aload_n 0, 1358, 0, 0, 0, m_y0, .null),
  (1358, .iload_n 3, 1359, 3, 0, 0, m_y0, .null),
  (1359, .iconst 2, 1360, 0, 0, 0, m_y0, .int 2),
  (1360, .iadd, 1361, 0, 0, 0, m_y0, .null),
  (1361, .iaload, 1362, 0, 0, 0, m_y0, .null)]
def M_W_law_19 : List (Nat × ME) := [
  (1362, .invokevirtual 173, 1365, 3, 0, 1367, y_O_taken, .null),
  (1365, .if_icmp .eq 28, 1368, 1393, 0, 0, m_y0, .null),
  (1368, .iconst 0, 1369, 0, 0, 0, m_y0, .int 0),
  (1369, .ireturn, 1370, 0, 0, 0, m_y0, .null),
  (1370, .aload_n 1, 1371, 1, 0, 0, m_y0, .null),
  (1371, .aload_n 0, 1372, 0, 0, 0, m_y0, .null),
  (1372, .iload_n 3, 1373, 3, 0, 0, m_y0, .null),
  (1373, .iconst 1, 1374, 0, 0, 0, m_y0, .int 1),
  (1374, .iadd, 1375, 0, 0, 0, m_y0, .null),
  (1375, .iaload, 1376, 0, 0, 0, m_y0, .null),
  (1376, .invokevirtual 174, 1379, 2, 0, 871, y_C_count, .null),
  (1379, .aload_n 2, 1380, 2, 0, 0, m_y0, .null),
  (1380, .aload_n 0, 1381, 0, 0, 0, m_y0, .null),
  (1381, .iload_n 3, 1382, 3, 0, 0, m_y0, .null),
  (1382, .iconst 1, 1383, 0, 0, 0, m_y0, .int 1),
  (1383, .iadd, 1384, 0, 0, 0, m_y0, .null),
  (1384, .iaload, 1385, 0, 0, 0, m_y0, .null),
  (1385, .invokevirtual 177, 1388, 2, 0, 1378, y_O_count, .null),
  (1388, .if_icmp .eq 5, 1391, 1393, 0, 0, m_y0, .null),
  (1391, .iconst 0, 1392, 0, 0, 0, m_y0, .int 0),
  (1392, .ireturn, 1393, 0, 0, 0, m_y0, .null),
  (1393, .iinc 3 6, 1396, 3, 0, 0, m_y0, .int 6),
  (1396, .goto (-1378), 1399, 18, 0, 0, m_y0, .null),
  (1399, .iconst 1, 1400, 0, 0, 0, m_y0, .int 1),
  (1400, .ireturn, 1401, 0, 0, 0, m_y0, .null)]
def M_W_law : MD := (y_W_law, code, 4, (some .boolean), (3, 1, 0), M_W_law_0 ++ (M_W_law_1 ++ (M_W_law_2 ++ (M_W_law_3 ++ (M_W_law_4 ++ (M_W_law_5 ++ (M_W_law_6 ++ (M_W_law_7 ++ (M_W_law_8 ++ (M_W_law_9 ++ (M_W_law_10 ++ (M_W_law_11 ++ (M_W_law_12 ++ (M_W_law_13 ++ (M_W_law_14 ++ (M_W_law_15 ++ (M_W_law_16 ++ (M_W_law_17 ++ (M_W_law_18 ++ (M_W_law_19))))))))))))))))))))
set_option maxRecDepth 100000 in
theorem k1_W_law_0 : M_W_law_0.all (m_eok y_W_law code 4) = true := by decide +kernel
set_option maxRecDepth 100000 in
theorem k1_W_law_1 : M_W_law_1.all (m_eok y_W_law code 4) = true := by decide +kernel
set_option maxRecDepth 100000 in
theorem k1_W_law_2 : M_W_law_2.all (m_eok y_W_law code 4) = true := by decide +kernel
set_option maxRecDepth 100000 in
theorem k1_W_law_3 : M_W_law_3.all (m_eok y_W_law code 4) = true := by decide +kernel
set_option maxRecDepth 100000 in
theorem k1_W_law_4 : M_W_law_4.all (m_eok y_W_law code 4) = true := by decide +kernel
set_option maxRecDepth 100000 in
theorem k1_W_law_5 : M_W_law_5.all (m_eok y_W_law code 4) = true := by decide +kernel
set_option maxRecDepth 100000 in
theorem k1_W_law_6 : M_W_law_6.all (m_eok y_W_law code 4) = true := by decide +kernel
set_option maxRecDepth 100000 in
theorem k1_W_law_7 : M_W_law_7.all (m_eok y_W_law code 4) = true := by decide +kernel
set_option maxRecDepth 100000 in
theorem k1_W_law_8 : M_W_law_8.all (m_eok y_W_law code 4) = true := by decide +kernel
set_option maxRecDepth 100000 in
theorem k1_W_law_9 : M_W_law_9.all (m_eok y_W_law code 4) = true := by decide +kernel
set_option maxRecDepth 100000 in
theorem k1_W_law_10 : M_W_law_10.all (m_eok y_W_law code 4) = true := by decide +kernel
set_option maxRecDepth 100000 in
theorem k1_W_law_11 : M_W_law_11.all (m_eok y_W_law code 4) = true := by decide +kernel
set_option maxRecDepth 100000 in
theorem k1_W_law_12 : M_W_law_12.all (m_eok y_W_law code 4) = true := by decide +kernel
set_option maxRecDepth 100000 in
theorem k1_W_law_13 : M_W_law_13.all (m_eok y_W_law code 4) = true := by decide +kernel
set_option maxRecDepth 100000 in
theorem k1_W_law_14 : M_W_law_14.all (m_eok y_W_law code 4) = true := by decide +kernel
set_option maxRecDepth 100000 in
theorem k1_W_law_15 : M_W_law_15.all (m_eok y_W_law code 4) = true := by decide +kernel
set_option maxRecDepth 100000 in
theorem k1_W_law_16 : M_W_law_16.all (m_eok y_W_law code 4) = true := by decide +kernel
set_option maxRecDepth 100000 in
theorem k1_W_law_17 : M_W_law_17.all (m_eok y_W_law code 4) = true := by decide +kernel
set_option maxRecDepth 100000 in
theorem k1_W_law_18 : M_W_law_18.all (m_eok y_W_law code 4) = true := by decide +kernel
set_option maxRecDepth 100000 in
theorem k1_W_law_19 : M_W_law_19.all (m_eok y_W_law code 4) = true := by decide +kernel
theorem k1_W_law : MOk1 M_W_law := m_ok1_of (m_all_app k1_W_law_0 (m_all_app k1_W_law_1 (m_all_app k1_W_law_2 (m_all_app k1_W_law_3 (m_all_app k1_W_law_4 (m_all_app k1_W_law_5 (m_all_app k1_W_law_6 (m_all_app k1_W_law_7 (m_all_app k1_W_law_8 (m_all_app k1_W_law_9 (m_all_app k1_W_law_10 (m_all_app k1_W_law_11 (m_all_app k1_W_law_12 (m_all_app k1_W_law_13 (m_all_app k1_W_law_14 (m_all_app k1_W_law_15 (m_all_app k1_W_law_16 (m_all_app k1_W_law_17 (m_all_app k1_W_law_18 k1_W_law_19)))))))))))))))))))
end
section
/-! first contracts -/
def bI (p : Prop) [Decidable p] : Int32 := if p then 1 else 0
theorem bI_0 {p : Prop} [Decidable p] : bI p = 0 ↔ ¬ p := by
  unfold bI
  by_cases h : p
  · rw [if_pos h]; exact ⟨fun e => absurd e (by decide), fun e => absurd h e⟩
  · rw [if_neg h]; exact ⟨fun _ => h, fun _ => rfl⟩
theorem bI_t {p : Prop} [Decidable p] (h : p) : bI p = 1 := if_pos h
theorem bI_f {p : Prop} [Decidable p] (h : ¬ p) : bI p = 0 := if_neg h
theorem bI_nar {p : Prop} [Decidable p] : narrow .boolean (.int (bI p)) = .int (bI p) := by
  unfold bI
  split <;> rfl
theorem mw_r1 {M : MD} {d mc ms : Nat} {v : Option Value} {hT : MH} {cells slots pc : Nat} {l : ML} {h : MH} {x : Value} (hr : m_ret M pc (some x) = true) (hb : m_bool M (some x)) (hc : cells ≤ mc) (hs : slots ≤ ms) (hv : v = some x) (hh : hT = h) : MW M d mc ms v hT cells slots pc l [x] h := by
  subst hv
  subst hh
  exact mw_ret hr hb hc hs
theorem mw_r0 {M : MD} {d mc ms : Nat} {v : Option Value} {hT : MH} {cells slots pc : Nat} {l : ML} {h : MH} (hr : m_ret M pc none = true) (hc : cells ≤ mc) (hs : slots ≤ ms) (hv : v = none) (hh : hT = h) : MW M d mc ms v hT cells slots pc l [] h := by
  subst hv
  subst hh
  exact mw_ret hr (by unfold m_bool; split <;> first | trivial | contradiction) hc hs
theorem c_within (h : MH) (x lo hi : Int32) : MC M_C_within 0 0 0 [.int x, .int lo, .int hi] h (some (.int (bI (lo ≤ x ∧ x ≤ hi)))) h := by
  refine mc_of k1_C_within k2_C_within (Nat.le_of_ble_eq_true rfl) ?_
  repeat (refine mw_step rfl ?_)
  refine mw_br rfl (fun h1 => ?_) (fun h1 => ?_)
  · repeat (refine mw_step rfl ?_)
    exact mw_r1 rfl rfl (Nat.le_refl _) (Nat.le_refl _) (by rw [bI_f]; intro z; exact m_nlt z.1 h1) rfl
  · repeat (refine mw_step rfl ?_)
    refine mw_br rfl (fun h2 => ?_) (fun h2 => ?_)
    · repeat (refine mw_step rfl ?_)
      exact mw_r1 rfl rfl (Nat.le_refl _) (Nat.le_refl _) (by rw [bI_f]; intro z; exact m_nlt z.2 h2) rfl
    · repeat (refine mw_step rfl ?_)
      exact mw_r1 rfl rfl (Nat.le_refl _) (Nat.le_refl _) (by rw [bI_t]; exact ⟨Int32.not_lt.mp h1, Int32.not_lt.mp h2⟩) rfl
end
section
/-! the world -/
abbrev xTS : Type := (Nat → Int32) × (Nat → Int32) × (Nat → Int32) × (Nat → Int32) × Int32 × Int32
abbrev xWS : Type := (Nat → Int32) × (Nat → Int32) × (Nat → Int32)
abbrev xRS : Type := (Nat → Int32) × Int32 × (Nat → Int32) × Int32 × Int32 × Int32
abbrev xSS : Type := (Nat → Int64) × (Nat → Int64) × (Nat → Int64) × (Nat → Int64)
abbrev xPS : Type := (Nat → Int32) × (Nat → Int32) × (Nat → Int32) × Int32
abbrev xBS : Type := (Nat → Int32) × Int32 × (Nat → Int32) × Int32
abbrev xHS : Type := (Nat → Int32) × (Nat → Int32) × (Nat → Int32) × (Nat → Int64)
abbrev xCS : Type := (Nat → Int32) × (Nat → Int32) × (Nat → Int32) × Int32 × Int32
abbrev XS : Type := xTS × xWS × xRS × xSS × xPS × xBS × xHS × xCS
abbrev xT_now (x : XS) : (Nat → Int32) := x.1.1
abbrev xT_cells (x : XS) : (Nat → Int32) := x.1.2.1
abbrev xT_before (x : XS) : (Nat → Int32) := x.1.2.2.1
abbrev xT_after (x : XS) : (Nat → Int32) := x.1.2.2.2.1
abbrev xT_done (x : XS) : Int32 := x.1.2.2.2.2.1
abbrev xT_kept (x : XS) : Int32 := x.1.2.2.2.2.2
abbrev xT_s (x : XS) (v : xTS) : XS := (v, x.2.1, x.2.2.1, x.2.2.2.1, x.2.2.2.2.1, x.2.2.2.2.2.1, x.2.2.2.2.2.2.1, x.2.2.2.2.2.2.2)
abbrev xT_now_s (x : XS) (v : (Nat → Int32)) : XS := ((v, x.1.2.1, x.1.2.2.1, x.1.2.2.2.1, x.1.2.2.2.2.1, x.1.2.2.2.2.2), x.2.1, x.2.2.1, x.2.2.2.1, x.2.2.2.2.1, x.2.2.2.2.2.1, x.2.2.2.2.2.2.1, x.2.2.2.2.2.2.2)
abbrev xT_cells_s (x : XS) (v : (Nat → Int32)) : XS := ((x.1.1, v, x.1.2.2.1, x.1.2.2.2.1, x.1.2.2.2.2.1, x.1.2.2.2.2.2), x.2.1, x.2.2.1, x.2.2.2.1, x.2.2.2.2.1, x.2.2.2.2.2.1, x.2.2.2.2.2.2.1, x.2.2.2.2.2.2.2)
abbrev xT_before_s (x : XS) (v : (Nat → Int32)) : XS := ((x.1.1, x.1.2.1, v, x.1.2.2.2.1, x.1.2.2.2.2.1, x.1.2.2.2.2.2), x.2.1, x.2.2.1, x.2.2.2.1, x.2.2.2.2.1, x.2.2.2.2.2.1, x.2.2.2.2.2.2.1, x.2.2.2.2.2.2.2)
abbrev xT_after_s (x : XS) (v : (Nat → Int32)) : XS := ((x.1.1, x.1.2.1, x.1.2.2.1, v, x.1.2.2.2.2.1, x.1.2.2.2.2.2), x.2.1, x.2.2.1, x.2.2.2.1, x.2.2.2.2.1, x.2.2.2.2.2.1, x.2.2.2.2.2.2.1, x.2.2.2.2.2.2.2)
abbrev xT_done_s (x : XS) (v : Int32) : XS := ((x.1.1, x.1.2.1, x.1.2.2.1, x.1.2.2.2.1, v, x.1.2.2.2.2.2), x.2.1, x.2.2.1, x.2.2.2.1, x.2.2.2.2.1, x.2.2.2.2.2.1, x.2.2.2.2.2.2.1, x.2.2.2.2.2.2.2)
abbrev xT_kept_s (x : XS) (v : Int32) : XS := ((x.1.1, x.1.2.1, x.1.2.2.1, x.1.2.2.2.1, x.1.2.2.2.2.1, v), x.2.1, x.2.2.1, x.2.2.2.1, x.2.2.2.2.1, x.2.2.2.2.2.1, x.2.2.2.2.2.2.1, x.2.2.2.2.2.2.2)
abbrev xW_code (x : XS) : (Nat → Int32) := x.2.1.1
abbrev xW_sizes (x : XS) : (Nat → Int32) := x.2.1.2.1
abbrev xW_stack (x : XS) : (Nat → Int32) := x.2.1.2.2
abbrev xW_s (x : XS) (v : xWS) : XS := (x.1, v, x.2.2.1, x.2.2.2.1, x.2.2.2.2.1, x.2.2.2.2.2.1, x.2.2.2.2.2.2.1, x.2.2.2.2.2.2.2)
abbrev xW_code_s (x : XS) (v : (Nat → Int32)) : XS := (x.1, (v, x.2.1.2.1, x.2.1.2.2), x.2.2.1, x.2.2.2.1, x.2.2.2.2.1, x.2.2.2.2.2.1, x.2.2.2.2.2.2.1, x.2.2.2.2.2.2.2)
abbrev xW_sizes_s (x : XS) (v : (Nat → Int32)) : XS := (x.1, (x.2.1.1, v, x.2.1.2.2), x.2.2.1, x.2.2.2.1, x.2.2.2.2.1, x.2.2.2.2.2.1, x.2.2.2.2.2.2.1, x.2.2.2.2.2.2.2)
abbrev xW_stack_s (x : XS) (v : (Nat → Int32)) : XS := (x.1, (x.2.1.1, x.2.1.2.1, v), x.2.2.1, x.2.2.2.1, x.2.2.2.2.1, x.2.2.2.2.2.1, x.2.2.2.2.2.2.1, x.2.2.2.2.2.2.2)
abbrev xR_tape (x : XS) : (Nat → Int32) := x.2.2.1.1
abbrev xR_len (x : XS) : Int32 := x.2.2.1.2.1
abbrev xR_code (x : XS) : (Nat → Int32) := x.2.2.1.2.2.1
abbrev xR_size (x : XS) : Int32 := x.2.2.1.2.2.2.1
abbrev xR_at (x : XS) : Int32 := x.2.2.1.2.2.2.2.1
abbrev xR_fault (x : XS) : Int32 := x.2.2.1.2.2.2.2.2
abbrev xR_s (x : XS) (v : xRS) : XS := (x.1, x.2.1, v, x.2.2.2.1, x.2.2.2.2.1, x.2.2.2.2.2.1, x.2.2.2.2.2.2.1, x.2.2.2.2.2.2.2)
abbrev xR_tape_s (x : XS) (v : (Nat → Int32)) : XS := (x.1, x.2.1, (v, x.2.2.1.2.1, x.2.2.1.2.2.1, x.2.2.1.2.2.2.1, x.2.2.1.2.2.2.2.1, x.2.2.1.2.2.2.2.2), x.2.2.2.1, x.2.2.2.2.1, x.2.2.2.2.2.1, x.2.2.2.2.2.2.1, x.2.2.2.2.2.2.2)
abbrev xR_len_s (x : XS) (v : Int32) : XS := (x.1, x.2.1, (x.2.2.1.1, v, x.2.2.1.2.2.1, x.2.2.1.2.2.2.1, x.2.2.1.2.2.2.2.1, x.2.2.1.2.2.2.2.2), x.2.2.2.1, x.2.2.2.2.1, x.2.2.2.2.2.1, x.2.2.2.2.2.2.1, x.2.2.2.2.2.2.2)
abbrev xR_code_s (x : XS) (v : (Nat → Int32)) : XS := (x.1, x.2.1, (x.2.2.1.1, x.2.2.1.2.1, v, x.2.2.1.2.2.2.1, x.2.2.1.2.2.2.2.1, x.2.2.1.2.2.2.2.2), x.2.2.2.1, x.2.2.2.2.1, x.2.2.2.2.2.1, x.2.2.2.2.2.2.1, x.2.2.2.2.2.2.2)
abbrev xR_size_s (x : XS) (v : Int32) : XS := (x.1, x.2.1, (x.2.2.1.1, x.2.2.1.2.1, x.2.2.1.2.2.1, v, x.2.2.1.2.2.2.2.1, x.2.2.1.2.2.2.2.2), x.2.2.2.1, x.2.2.2.2.1, x.2.2.2.2.2.1, x.2.2.2.2.2.2.1, x.2.2.2.2.2.2.2)
abbrev xR_at_s (x : XS) (v : Int32) : XS := (x.1, x.2.1, (x.2.2.1.1, x.2.2.1.2.1, x.2.2.1.2.2.1, x.2.2.1.2.2.2.1, v, x.2.2.1.2.2.2.2.2), x.2.2.2.1, x.2.2.2.2.1, x.2.2.2.2.2.1, x.2.2.2.2.2.2.1, x.2.2.2.2.2.2.2)
abbrev xR_fault_s (x : XS) (v : Int32) : XS := (x.1, x.2.1, (x.2.2.1.1, x.2.2.1.2.1, x.2.2.1.2.2.1, x.2.2.1.2.2.2.1, x.2.2.1.2.2.2.2.1, v), x.2.2.2.1, x.2.2.2.2.1, x.2.2.2.2.2.1, x.2.2.2.2.2.2.1, x.2.2.2.2.2.2.2)
abbrev xS_sums (x : XS) : (Nat → Int64) := x.2.2.2.1.1
abbrev xS_ways (x : XS) : (Nat → Int64) := x.2.2.2.1.2.1
abbrev xS_merged (x : XS) : (Nat → Int64) := x.2.2.2.1.2.2.1
abbrev xS_prod (x : XS) : (Nat → Int64) := x.2.2.2.1.2.2.2
abbrev xS_s (x : XS) (v : xSS) : XS := (x.1, x.2.1, x.2.2.1, v, x.2.2.2.2.1, x.2.2.2.2.2.1, x.2.2.2.2.2.2.1, x.2.2.2.2.2.2.2)
abbrev xS_sums_s (x : XS) (v : (Nat → Int64)) : XS := (x.1, x.2.1, x.2.2.1, (v, x.2.2.2.1.2.1, x.2.2.2.1.2.2.1, x.2.2.2.1.2.2.2), x.2.2.2.2.1, x.2.2.2.2.2.1, x.2.2.2.2.2.2.1, x.2.2.2.2.2.2.2)
abbrev xS_ways_s (x : XS) (v : (Nat → Int64)) : XS := (x.1, x.2.1, x.2.2.1, (x.2.2.2.1.1, v, x.2.2.2.1.2.2.1, x.2.2.2.1.2.2.2), x.2.2.2.2.1, x.2.2.2.2.2.1, x.2.2.2.2.2.2.1, x.2.2.2.2.2.2.2)
abbrev xS_merged_s (x : XS) (v : (Nat → Int64)) : XS := (x.1, x.2.1, x.2.2.1, (x.2.2.2.1.1, x.2.2.2.1.2.1, v, x.2.2.2.1.2.2.2), x.2.2.2.2.1, x.2.2.2.2.2.1, x.2.2.2.2.2.2.1, x.2.2.2.2.2.2.2)
abbrev xS_prod_s (x : XS) (v : (Nat → Int64)) : XS := (x.1, x.2.1, x.2.2.1, (x.2.2.2.1.1, x.2.2.2.1.2.1, x.2.2.2.1.2.2.1, v), x.2.2.2.2.1, x.2.2.2.2.2.1, x.2.2.2.2.2.2.1, x.2.2.2.2.2.2.2)
abbrev xP_from (x : XS) : (Nat → Int32) := x.2.2.2.2.1.1
abbrev xP_to (x : XS) : (Nat → Int32) := x.2.2.2.2.1.2.1
abbrev xP_houses (x : XS) : (Nat → Int32) := x.2.2.2.2.1.2.2.1
abbrev xP_many (x : XS) : Int32 := x.2.2.2.2.1.2.2.2
abbrev xP_s (x : XS) (v : xPS) : XS := (x.1, x.2.1, x.2.2.1, x.2.2.2.1, v, x.2.2.2.2.2.1, x.2.2.2.2.2.2.1, x.2.2.2.2.2.2.2)
abbrev xP_from_s (x : XS) (v : (Nat → Int32)) : XS := (x.1, x.2.1, x.2.2.1, x.2.2.2.1, (v, x.2.2.2.2.1.2.1, x.2.2.2.2.1.2.2.1, x.2.2.2.2.1.2.2.2), x.2.2.2.2.2.1, x.2.2.2.2.2.2.1, x.2.2.2.2.2.2.2)
abbrev xP_to_s (x : XS) (v : (Nat → Int32)) : XS := (x.1, x.2.1, x.2.2.1, x.2.2.2.1, (x.2.2.2.2.1.1, v, x.2.2.2.2.1.2.2.1, x.2.2.2.2.1.2.2.2), x.2.2.2.2.2.1, x.2.2.2.2.2.2.1, x.2.2.2.2.2.2.2)
abbrev xP_houses_s (x : XS) (v : (Nat → Int32)) : XS := (x.1, x.2.1, x.2.2.1, x.2.2.2.1, (x.2.2.2.2.1.1, x.2.2.2.2.1.2.1, v, x.2.2.2.2.1.2.2.2), x.2.2.2.2.2.1, x.2.2.2.2.2.2.1, x.2.2.2.2.2.2.2)
abbrev xP_many_s (x : XS) (v : Int32) : XS := (x.1, x.2.1, x.2.2.1, x.2.2.2.1, (x.2.2.2.2.1.1, x.2.2.2.2.1.2.1, x.2.2.2.2.1.2.2.1, v), x.2.2.2.2.2.1, x.2.2.2.2.2.2.1, x.2.2.2.2.2.2.2)
abbrev xB_kinds (x : XS) : (Nat → Int32) := x.2.2.2.2.2.1.1
abbrev xB_many (x : XS) : Int32 := x.2.2.2.2.2.1.2.1
abbrev xB_ran (x : XS) : (Nat → Int32) := x.2.2.2.2.2.1.2.2.1
abbrev xB_runs (x : XS) : Int32 := x.2.2.2.2.2.1.2.2.2
abbrev xB_s (x : XS) (v : xBS) : XS := (x.1, x.2.1, x.2.2.1, x.2.2.2.1, x.2.2.2.2.1, v, x.2.2.2.2.2.2.1, x.2.2.2.2.2.2.2)
abbrev xB_kinds_s (x : XS) (v : (Nat → Int32)) : XS := (x.1, x.2.1, x.2.2.1, x.2.2.2.1, x.2.2.2.2.1, (v, x.2.2.2.2.2.1.2.1, x.2.2.2.2.2.1.2.2.1, x.2.2.2.2.2.1.2.2.2), x.2.2.2.2.2.2.1, x.2.2.2.2.2.2.2)
abbrev xB_many_s (x : XS) (v : Int32) : XS := (x.1, x.2.1, x.2.2.1, x.2.2.2.1, x.2.2.2.2.1, (x.2.2.2.2.2.1.1, v, x.2.2.2.2.2.1.2.2.1, x.2.2.2.2.2.1.2.2.2), x.2.2.2.2.2.2.1, x.2.2.2.2.2.2.2)
abbrev xB_ran_s (x : XS) (v : (Nat → Int32)) : XS := (x.1, x.2.1, x.2.2.1, x.2.2.2.1, x.2.2.2.2.1, (x.2.2.2.2.2.1.1, x.2.2.2.2.2.1.2.1, v, x.2.2.2.2.2.1.2.2.2), x.2.2.2.2.2.2.1, x.2.2.2.2.2.2.2)
abbrev xB_runs_s (x : XS) (v : Int32) : XS := (x.1, x.2.1, x.2.2.1, x.2.2.2.1, x.2.2.2.2.1, (x.2.2.2.2.2.1.1, x.2.2.2.2.2.1.2.1, x.2.2.2.2.2.1.2.2.1, v), x.2.2.2.2.2.2.1, x.2.2.2.2.2.2.2)
abbrev xH_sorts (x : XS) : (Nat → Int32) := x.2.2.2.2.2.2.1.1
abbrev xH_held (x : XS) : (Nat → Int32) := x.2.2.2.2.2.2.1.2.1
abbrev xH_lens (x : XS) : (Nat → Int32) := x.2.2.2.2.2.2.1.2.2.1
abbrev xH_cells (x : XS) : (Nat → Int64) := x.2.2.2.2.2.2.1.2.2.2
abbrev xH_s (x : XS) (v : xHS) : XS := (x.1, x.2.1, x.2.2.1, x.2.2.2.1, x.2.2.2.2.1, x.2.2.2.2.2.1, v, x.2.2.2.2.2.2.2)
abbrev xH_sorts_s (x : XS) (v : (Nat → Int32)) : XS := (x.1, x.2.1, x.2.2.1, x.2.2.2.1, x.2.2.2.2.1, x.2.2.2.2.2.1, (v, x.2.2.2.2.2.2.1.2.1, x.2.2.2.2.2.2.1.2.2.1, x.2.2.2.2.2.2.1.2.2.2), x.2.2.2.2.2.2.2)
abbrev xH_held_s (x : XS) (v : (Nat → Int32)) : XS := (x.1, x.2.1, x.2.2.1, x.2.2.2.1, x.2.2.2.2.1, x.2.2.2.2.2.1, (x.2.2.2.2.2.2.1.1, v, x.2.2.2.2.2.2.1.2.2.1, x.2.2.2.2.2.2.1.2.2.2), x.2.2.2.2.2.2.2)
abbrev xH_lens_s (x : XS) (v : (Nat → Int32)) : XS := (x.1, x.2.1, x.2.2.1, x.2.2.2.1, x.2.2.2.2.1, x.2.2.2.2.2.1, (x.2.2.2.2.2.2.1.1, x.2.2.2.2.2.2.1.2.1, v, x.2.2.2.2.2.2.1.2.2.2), x.2.2.2.2.2.2.2)
abbrev xH_cells_s (x : XS) (v : (Nat → Int64)) : XS := (x.1, x.2.1, x.2.2.1, x.2.2.2.1, x.2.2.2.2.1, x.2.2.2.2.2.1, (x.2.2.2.2.2.2.1.1, x.2.2.2.2.2.2.1.2.1, x.2.2.2.2.2.2.1.2.2.1, v), x.2.2.2.2.2.2.2)
abbrev xC_whens (x : XS) : (Nat → Int32) := x.2.2.2.2.2.2.2.1
abbrev xC_kl (x : XS) : (Nat → Int32) := x.2.2.2.2.2.2.2.2.1
abbrev xC_kt (x : XS) : (Nat → Int32) := x.2.2.2.2.2.2.2.2.2.1
abbrev xC_kc (x : XS) : Int32 := x.2.2.2.2.2.2.2.2.2.2.1
abbrev xC_has (x : XS) : Int32 := x.2.2.2.2.2.2.2.2.2.2.2
abbrev xC_s (x : XS) (v : xCS) : XS := (x.1, x.2.1, x.2.2.1, x.2.2.2.1, x.2.2.2.2.1, x.2.2.2.2.2.1, x.2.2.2.2.2.2.1, v)
abbrev xC_whens_s (x : XS) (v : (Nat → Int32)) : XS := (x.1, x.2.1, x.2.2.1, x.2.2.2.1, x.2.2.2.2.1, x.2.2.2.2.2.1, x.2.2.2.2.2.2.1, (v, x.2.2.2.2.2.2.2.2.1, x.2.2.2.2.2.2.2.2.2.1, x.2.2.2.2.2.2.2.2.2.2.1, x.2.2.2.2.2.2.2.2.2.2.2))
abbrev xC_kl_s (x : XS) (v : (Nat → Int32)) : XS := (x.1, x.2.1, x.2.2.1, x.2.2.2.1, x.2.2.2.2.1, x.2.2.2.2.2.1, x.2.2.2.2.2.2.1, (x.2.2.2.2.2.2.2.1, v, x.2.2.2.2.2.2.2.2.2.1, x.2.2.2.2.2.2.2.2.2.2.1, x.2.2.2.2.2.2.2.2.2.2.2))
abbrev xC_kt_s (x : XS) (v : (Nat → Int32)) : XS := (x.1, x.2.1, x.2.2.1, x.2.2.2.1, x.2.2.2.2.1, x.2.2.2.2.2.1, x.2.2.2.2.2.2.1, (x.2.2.2.2.2.2.2.1, x.2.2.2.2.2.2.2.2.1, v, x.2.2.2.2.2.2.2.2.2.2.1, x.2.2.2.2.2.2.2.2.2.2.2))
abbrev xC_kc_s (x : XS) (v : Int32) : XS := (x.1, x.2.1, x.2.2.1, x.2.2.2.1, x.2.2.2.2.1, x.2.2.2.2.2.1, x.2.2.2.2.2.2.1, (x.2.2.2.2.2.2.2.1, x.2.2.2.2.2.2.2.2.1, x.2.2.2.2.2.2.2.2.2.1, v, x.2.2.2.2.2.2.2.2.2.2.2))
abbrev xC_has_s (x : XS) (v : Int32) : XS := (x.1, x.2.1, x.2.2.1, x.2.2.2.1, x.2.2.2.2.1, x.2.2.2.2.2.1, x.2.2.2.2.2.2.1, (x.2.2.2.2.2.2.2.1, x.2.2.2.2.2.2.2.2.1, x.2.2.2.2.2.2.2.2.2.1, x.2.2.2.2.2.2.2.2.2.2.1, v))
abbrev zaS : Type := (Nat → Int32) × (Nat → Int32) × (Nat → Int32) × (Nat → Int32) × Int32 × Int32
abbrev zpS : Type := Int32 × (Nat → Int32) × (Nat → Int32) × (Nat → Int32)
abbrev ztS : Type := (Nat → Int32) × Int32 × (Nat → Int32) × (Nat → Int32) × Int32 × Int32 × Int32 × Int32 × Int32 × (Nat → Int32)
abbrev zwS : Type := (Nat → Int32) × (Nat → Int32) × (Nat → Int64) × (Nat → Int64) × Int64
abbrev zoS : Type := (Nat → Int32) × (Nat → Int32)
abbrev zqS : Type := Int32 × (Nat → Int32) × (Nat → Int32) × (Nat → Int32)
abbrev ziS : Type := (Nat → Int32) × Int32 × Int32
abbrev zbS : Type := Int32 × (Nat → Int32) × (Nat → Int32) × Int32 × Int32 × Int32
abbrev zsS : Type := (Nat → Int32) × (Nat → Int32) × (Nat → Int64) × (Nat → Int64)
abbrev OS : Type := zaS × zpS × ztS × zwS × zoS × zqS × ziS × zbS × zsS
abbrev za_may (x : OS) : (Nat → Int32) := x.1.1
abbrev za_chAt (x : OS) : (Nat → Int32) := x.1.2.1
abbrev za_chWas (x : OS) : (Nat → Int32) := x.1.2.2.1
abbrev za_chIs (x : OS) : (Nat → Int32) := x.1.2.2.2.1
abbrev za_keptMany (x : OS) : Int32 := x.1.2.2.2.2.1
abbrev za_done (x : OS) : Int32 := x.1.2.2.2.2.2
abbrev za_s (x : OS) (v : zaS) : OS := (v, x.2.1, x.2.2.1, x.2.2.2.1, x.2.2.2.2.1, x.2.2.2.2.2.1, x.2.2.2.2.2.2.1, x.2.2.2.2.2.2.2.1, x.2.2.2.2.2.2.2.2)
abbrev za_may_s (x : OS) (v : (Nat → Int32)) : OS := ((v, x.1.2.1, x.1.2.2.1, x.1.2.2.2.1, x.1.2.2.2.2.1, x.1.2.2.2.2.2), x.2.1, x.2.2.1, x.2.2.2.1, x.2.2.2.2.1, x.2.2.2.2.2.1, x.2.2.2.2.2.2.1, x.2.2.2.2.2.2.2.1, x.2.2.2.2.2.2.2.2)
abbrev za_chAt_s (x : OS) (v : (Nat → Int32)) : OS := ((x.1.1, v, x.1.2.2.1, x.1.2.2.2.1, x.1.2.2.2.2.1, x.1.2.2.2.2.2), x.2.1, x.2.2.1, x.2.2.2.1, x.2.2.2.2.1, x.2.2.2.2.2.1, x.2.2.2.2.2.2.1, x.2.2.2.2.2.2.2.1, x.2.2.2.2.2.2.2.2)
abbrev za_chWas_s (x : OS) (v : (Nat → Int32)) : OS := ((x.1.1, x.1.2.1, v, x.1.2.2.2.1, x.1.2.2.2.2.1, x.1.2.2.2.2.2), x.2.1, x.2.2.1, x.2.2.2.1, x.2.2.2.2.1, x.2.2.2.2.2.1, x.2.2.2.2.2.2.1, x.2.2.2.2.2.2.2.1, x.2.2.2.2.2.2.2.2)
abbrev za_chIs_s (x : OS) (v : (Nat → Int32)) : OS := ((x.1.1, x.1.2.1, x.1.2.2.1, v, x.1.2.2.2.2.1, x.1.2.2.2.2.2), x.2.1, x.2.2.1, x.2.2.2.1, x.2.2.2.2.1, x.2.2.2.2.2.1, x.2.2.2.2.2.2.1, x.2.2.2.2.2.2.2.1, x.2.2.2.2.2.2.2.2)
abbrev za_keptMany_s (x : OS) (v : Int32) : OS := ((x.1.1, x.1.2.1, x.1.2.2.1, x.1.2.2.2.1, v, x.1.2.2.2.2.2), x.2.1, x.2.2.1, x.2.2.2.1, x.2.2.2.2.1, x.2.2.2.2.2.1, x.2.2.2.2.2.2.1, x.2.2.2.2.2.2.2.1, x.2.2.2.2.2.2.2.2)
abbrev za_done_s (x : OS) (v : Int32) : OS := ((x.1.1, x.1.2.1, x.1.2.2.1, x.1.2.2.2.1, x.1.2.2.2.2.1, v), x.2.1, x.2.2.1, x.2.2.2.1, x.2.2.2.2.1, x.2.2.2.2.2.1, x.2.2.2.2.2.2.1, x.2.2.2.2.2.2.2.1, x.2.2.2.2.2.2.2.2)
abbrev zp_parts (x : OS) : Int32 := x.2.1.1
abbrev zp_wood (x : OS) : (Nat → Int32) := x.2.1.2.1
abbrev zp_place (x : OS) : (Nat → Int32) := x.2.1.2.2.1
abbrev zp_found (x : OS) : (Nat → Int32) := x.2.1.2.2.2
abbrev zp_s (x : OS) (v : zpS) : OS := (x.1, v, x.2.2.1, x.2.2.2.1, x.2.2.2.2.1, x.2.2.2.2.2.1, x.2.2.2.2.2.2.1, x.2.2.2.2.2.2.2.1, x.2.2.2.2.2.2.2.2)
abbrev zp_parts_s (x : OS) (v : Int32) : OS := (x.1, (v, x.2.1.2.1, x.2.1.2.2.1, x.2.1.2.2.2), x.2.2.1, x.2.2.2.1, x.2.2.2.2.1, x.2.2.2.2.2.1, x.2.2.2.2.2.2.1, x.2.2.2.2.2.2.2.1, x.2.2.2.2.2.2.2.2)
abbrev zp_wood_s (x : OS) (v : (Nat → Int32)) : OS := (x.1, (x.2.1.1, v, x.2.1.2.2.1, x.2.1.2.2.2), x.2.2.1, x.2.2.2.1, x.2.2.2.2.1, x.2.2.2.2.2.1, x.2.2.2.2.2.2.1, x.2.2.2.2.2.2.2.1, x.2.2.2.2.2.2.2.2)
abbrev zp_place_s (x : OS) (v : (Nat → Int32)) : OS := (x.1, (x.2.1.1, x.2.1.2.1, v, x.2.1.2.2.2), x.2.2.1, x.2.2.2.1, x.2.2.2.2.1, x.2.2.2.2.2.1, x.2.2.2.2.2.2.1, x.2.2.2.2.2.2.2.1, x.2.2.2.2.2.2.2.2)
abbrev zp_found_s (x : OS) (v : (Nat → Int32)) : OS := (x.1, (x.2.1.1, x.2.1.2.1, x.2.1.2.2.1, v), x.2.2.1, x.2.2.2.1, x.2.2.2.2.1, x.2.2.2.2.2.1, x.2.2.2.2.2.2.1, x.2.2.2.2.2.2.2.1, x.2.2.2.2.2.2.2.2)
abbrev zt_tape (x : OS) : (Nat → Int32) := x.2.2.1.1
abbrev zt_tapeMany (x : OS) : Int32 := x.2.2.1.2.1
abbrev zt_text (x : OS) : (Nat → Int32) := x.2.2.1.2.2.1
abbrev zt_textMany (x : OS) : (Nat → Int32) := x.2.2.1.2.2.2.1
abbrev zt_base (x : OS) : Int32 := x.2.2.1.2.2.2.2.1
abbrev zt_at (x : OS) : Int32 := x.2.2.1.2.2.2.2.2.1
abbrev zt_ends (x : OS) : Int32 := x.2.2.1.2.2.2.2.2.2.1
abbrev zt_fault (x : OS) : Int32 := x.2.2.1.2.2.2.2.2.2.2.1
abbrev zt_opened (x : OS) : Int32 := x.2.2.1.2.2.2.2.2.2.2.2.1
abbrev zt_names (x : OS) : (Nat → Int32) := x.2.2.1.2.2.2.2.2.2.2.2.2
abbrev zt_s (x : OS) (v : ztS) : OS := (x.1, x.2.1, v, x.2.2.2.1, x.2.2.2.2.1, x.2.2.2.2.2.1, x.2.2.2.2.2.2.1, x.2.2.2.2.2.2.2.1, x.2.2.2.2.2.2.2.2)
abbrev zt_tape_s (x : OS) (v : (Nat → Int32)) : OS := (x.1, x.2.1, (v, x.2.2.1.2.1, x.2.2.1.2.2.1, x.2.2.1.2.2.2.1, x.2.2.1.2.2.2.2.1, x.2.2.1.2.2.2.2.2.1, x.2.2.1.2.2.2.2.2.2.1, x.2.2.1.2.2.2.2.2.2.2.1, x.2.2.1.2.2.2.2.2.2.2.2.1, x.2.2.1.2.2.2.2.2.2.2.2.2), x.2.2.2.1, x.2.2.2.2.1, x.2.2.2.2.2.1, x.2.2.2.2.2.2.1, x.2.2.2.2.2.2.2.1, x.2.2.2.2.2.2.2.2)
abbrev zt_tapeMany_s (x : OS) (v : Int32) : OS := (x.1, x.2.1, (x.2.2.1.1, v, x.2.2.1.2.2.1, x.2.2.1.2.2.2.1, x.2.2.1.2.2.2.2.1, x.2.2.1.2.2.2.2.2.1, x.2.2.1.2.2.2.2.2.2.1, x.2.2.1.2.2.2.2.2.2.2.1, x.2.2.1.2.2.2.2.2.2.2.2.1, x.2.2.1.2.2.2.2.2.2.2.2.2), x.2.2.2.1, x.2.2.2.2.1, x.2.2.2.2.2.1, x.2.2.2.2.2.2.1, x.2.2.2.2.2.2.2.1, x.2.2.2.2.2.2.2.2)
abbrev zt_text_s (x : OS) (v : (Nat → Int32)) : OS := (x.1, x.2.1, (x.2.2.1.1, x.2.2.1.2.1, v, x.2.2.1.2.2.2.1, x.2.2.1.2.2.2.2.1, x.2.2.1.2.2.2.2.2.1, x.2.2.1.2.2.2.2.2.2.1, x.2.2.1.2.2.2.2.2.2.2.1, x.2.2.1.2.2.2.2.2.2.2.2.1, x.2.2.1.2.2.2.2.2.2.2.2.2), x.2.2.2.1, x.2.2.2.2.1, x.2.2.2.2.2.1, x.2.2.2.2.2.2.1, x.2.2.2.2.2.2.2.1, x.2.2.2.2.2.2.2.2)
abbrev zt_textMany_s (x : OS) (v : (Nat → Int32)) : OS := (x.1, x.2.1, (x.2.2.1.1, x.2.2.1.2.1, x.2.2.1.2.2.1, v, x.2.2.1.2.2.2.2.1, x.2.2.1.2.2.2.2.2.1, x.2.2.1.2.2.2.2.2.2.1, x.2.2.1.2.2.2.2.2.2.2.1, x.2.2.1.2.2.2.2.2.2.2.2.1, x.2.2.1.2.2.2.2.2.2.2.2.2), x.2.2.2.1, x.2.2.2.2.1, x.2.2.2.2.2.1, x.2.2.2.2.2.2.1, x.2.2.2.2.2.2.2.1, x.2.2.2.2.2.2.2.2)
abbrev zt_base_s (x : OS) (v : Int32) : OS := (x.1, x.2.1, (x.2.2.1.1, x.2.2.1.2.1, x.2.2.1.2.2.1, x.2.2.1.2.2.2.1, v, x.2.2.1.2.2.2.2.2.1, x.2.2.1.2.2.2.2.2.2.1, x.2.2.1.2.2.2.2.2.2.2.1, x.2.2.1.2.2.2.2.2.2.2.2.1, x.2.2.1.2.2.2.2.2.2.2.2.2), x.2.2.2.1, x.2.2.2.2.1, x.2.2.2.2.2.1, x.2.2.2.2.2.2.1, x.2.2.2.2.2.2.2.1, x.2.2.2.2.2.2.2.2)
abbrev zt_at_s (x : OS) (v : Int32) : OS := (x.1, x.2.1, (x.2.2.1.1, x.2.2.1.2.1, x.2.2.1.2.2.1, x.2.2.1.2.2.2.1, x.2.2.1.2.2.2.2.1, v, x.2.2.1.2.2.2.2.2.2.1, x.2.2.1.2.2.2.2.2.2.2.1, x.2.2.1.2.2.2.2.2.2.2.2.1, x.2.2.1.2.2.2.2.2.2.2.2.2), x.2.2.2.1, x.2.2.2.2.1, x.2.2.2.2.2.1, x.2.2.2.2.2.2.1, x.2.2.2.2.2.2.2.1, x.2.2.2.2.2.2.2.2)
abbrev zt_ends_s (x : OS) (v : Int32) : OS := (x.1, x.2.1, (x.2.2.1.1, x.2.2.1.2.1, x.2.2.1.2.2.1, x.2.2.1.2.2.2.1, x.2.2.1.2.2.2.2.1, x.2.2.1.2.2.2.2.2.1, v, x.2.2.1.2.2.2.2.2.2.2.1, x.2.2.1.2.2.2.2.2.2.2.2.1, x.2.2.1.2.2.2.2.2.2.2.2.2), x.2.2.2.1, x.2.2.2.2.1, x.2.2.2.2.2.1, x.2.2.2.2.2.2.1, x.2.2.2.2.2.2.2.1, x.2.2.2.2.2.2.2.2)
abbrev zt_fault_s (x : OS) (v : Int32) : OS := (x.1, x.2.1, (x.2.2.1.1, x.2.2.1.2.1, x.2.2.1.2.2.1, x.2.2.1.2.2.2.1, x.2.2.1.2.2.2.2.1, x.2.2.1.2.2.2.2.2.1, x.2.2.1.2.2.2.2.2.2.1, v, x.2.2.1.2.2.2.2.2.2.2.2.1, x.2.2.1.2.2.2.2.2.2.2.2.2), x.2.2.2.1, x.2.2.2.2.1, x.2.2.2.2.2.1, x.2.2.2.2.2.2.1, x.2.2.2.2.2.2.2.1, x.2.2.2.2.2.2.2.2)
abbrev zt_opened_s (x : OS) (v : Int32) : OS := (x.1, x.2.1, (x.2.2.1.1, x.2.2.1.2.1, x.2.2.1.2.2.1, x.2.2.1.2.2.2.1, x.2.2.1.2.2.2.2.1, x.2.2.1.2.2.2.2.2.1, x.2.2.1.2.2.2.2.2.2.1, x.2.2.1.2.2.2.2.2.2.2.1, v, x.2.2.1.2.2.2.2.2.2.2.2.2), x.2.2.2.1, x.2.2.2.2.1, x.2.2.2.2.2.1, x.2.2.2.2.2.2.1, x.2.2.2.2.2.2.2.1, x.2.2.2.2.2.2.2.2)
abbrev zt_names_s (x : OS) (v : (Nat → Int32)) : OS := (x.1, x.2.1, (x.2.2.1.1, x.2.2.1.2.1, x.2.2.1.2.2.1, x.2.2.1.2.2.2.1, x.2.2.1.2.2.2.2.1, x.2.2.1.2.2.2.2.2.1, x.2.2.1.2.2.2.2.2.2.1, x.2.2.1.2.2.2.2.2.2.2.1, x.2.2.1.2.2.2.2.2.2.2.2.1, v), x.2.2.2.1, x.2.2.2.2.1, x.2.2.2.2.2.1, x.2.2.2.2.2.2.1, x.2.2.2.2.2.2.2.1, x.2.2.2.2.2.2.2.2)
abbrev zw_numbers (x : OS) : (Nat → Int32) := x.2.2.2.1.1
abbrev zw_way (x : OS) : (Nat → Int32) := x.2.2.2.1.2.1
abbrev zw_weight (x : OS) : (Nat → Int64) := x.2.2.2.1.2.2.1
abbrev zw_kindSum (x : OS) : (Nat → Int64) := x.2.2.2.1.2.2.2.1
abbrev zw_allSum (x : OS) : Int64 := x.2.2.2.1.2.2.2.2
abbrev zw_s (x : OS) (v : zwS) : OS := (x.1, x.2.1, x.2.2.1, v, x.2.2.2.2.1, x.2.2.2.2.2.1, x.2.2.2.2.2.2.1, x.2.2.2.2.2.2.2.1, x.2.2.2.2.2.2.2.2)
abbrev zw_numbers_s (x : OS) (v : (Nat → Int32)) : OS := (x.1, x.2.1, x.2.2.1, (v, x.2.2.2.1.2.1, x.2.2.2.1.2.2.1, x.2.2.2.1.2.2.2.1, x.2.2.2.1.2.2.2.2), x.2.2.2.2.1, x.2.2.2.2.2.1, x.2.2.2.2.2.2.1, x.2.2.2.2.2.2.2.1, x.2.2.2.2.2.2.2.2)
abbrev zw_way_s (x : OS) (v : (Nat → Int32)) : OS := (x.1, x.2.1, x.2.2.1, (x.2.2.2.1.1, v, x.2.2.2.1.2.2.1, x.2.2.2.1.2.2.2.1, x.2.2.2.1.2.2.2.2), x.2.2.2.2.1, x.2.2.2.2.2.1, x.2.2.2.2.2.2.1, x.2.2.2.2.2.2.2.1, x.2.2.2.2.2.2.2.2)
abbrev zw_weight_s (x : OS) (v : (Nat → Int64)) : OS := (x.1, x.2.1, x.2.2.1, (x.2.2.2.1.1, x.2.2.2.1.2.1, v, x.2.2.2.1.2.2.2.1, x.2.2.2.1.2.2.2.2), x.2.2.2.2.1, x.2.2.2.2.2.1, x.2.2.2.2.2.2.1, x.2.2.2.2.2.2.2.1, x.2.2.2.2.2.2.2.2)
abbrev zw_kindSum_s (x : OS) (v : (Nat → Int64)) : OS := (x.1, x.2.1, x.2.2.1, (x.2.2.2.1.1, x.2.2.2.1.2.1, x.2.2.2.1.2.2.1, v, x.2.2.2.1.2.2.2.2), x.2.2.2.2.1, x.2.2.2.2.2.1, x.2.2.2.2.2.2.1, x.2.2.2.2.2.2.2.1, x.2.2.2.2.2.2.2.2)
abbrev zw_allSum_s (x : OS) (v : Int64) : OS := (x.1, x.2.1, x.2.2.1, (x.2.2.2.1.1, x.2.2.2.1.2.1, x.2.2.2.1.2.2.1, x.2.2.2.1.2.2.2.1, v), x.2.2.2.2.1, x.2.2.2.2.2.1, x.2.2.2.2.2.2.1, x.2.2.2.2.2.2.2.1, x.2.2.2.2.2.2.2.2)
abbrev zo_trueWhen (x : OS) : (Nat → Int32) := x.2.2.2.2.1.1
abbrev zo_sorted (x : OS) : (Nat → Int32) := x.2.2.2.2.1.2
abbrev zo_s (x : OS) (v : zoS) : OS := (x.1, x.2.1, x.2.2.1, x.2.2.2.1, v, x.2.2.2.2.2.1, x.2.2.2.2.2.2.1, x.2.2.2.2.2.2.2.1, x.2.2.2.2.2.2.2.2)
abbrev zo_trueWhen_s (x : OS) (v : (Nat → Int32)) : OS := (x.1, x.2.1, x.2.2.1, x.2.2.2.1, (v, x.2.2.2.2.1.2), x.2.2.2.2.2.1, x.2.2.2.2.2.2.1, x.2.2.2.2.2.2.2.1, x.2.2.2.2.2.2.2.2)
abbrev zo_sorted_s (x : OS) (v : (Nat → Int32)) : OS := (x.1, x.2.1, x.2.2.1, x.2.2.2.1, (x.2.2.2.2.1.1, v), x.2.2.2.2.2.1, x.2.2.2.2.2.2.1, x.2.2.2.2.2.2.2.1, x.2.2.2.2.2.2.2.2)
abbrev zq_papers (x : OS) : Int32 := x.2.2.2.2.2.1.1
abbrev zq_from (x : OS) : (Nat → Int32) := x.2.2.2.2.2.1.2.1
abbrev zq_to (x : OS) : (Nat → Int32) := x.2.2.2.2.2.1.2.2.1
abbrev zq_house (x : OS) : (Nat → Int32) := x.2.2.2.2.2.1.2.2.2
abbrev zq_s (x : OS) (v : zqS) : OS := (x.1, x.2.1, x.2.2.1, x.2.2.2.1, x.2.2.2.2.1, v, x.2.2.2.2.2.2.1, x.2.2.2.2.2.2.2.1, x.2.2.2.2.2.2.2.2)
abbrev zq_papers_s (x : OS) (v : Int32) : OS := (x.1, x.2.1, x.2.2.1, x.2.2.2.1, x.2.2.2.2.1, (v, x.2.2.2.2.2.1.2.1, x.2.2.2.2.2.1.2.2.1, x.2.2.2.2.2.1.2.2.2), x.2.2.2.2.2.2.1, x.2.2.2.2.2.2.2.1, x.2.2.2.2.2.2.2.2)
abbrev zq_from_s (x : OS) (v : (Nat → Int32)) : OS := (x.1, x.2.1, x.2.2.1, x.2.2.2.1, x.2.2.2.2.1, (x.2.2.2.2.2.1.1, v, x.2.2.2.2.2.1.2.2.1, x.2.2.2.2.2.1.2.2.2), x.2.2.2.2.2.2.1, x.2.2.2.2.2.2.2.1, x.2.2.2.2.2.2.2.2)
abbrev zq_to_s (x : OS) (v : (Nat → Int32)) : OS := (x.1, x.2.1, x.2.2.1, x.2.2.2.1, x.2.2.2.2.1, (x.2.2.2.2.2.1.1, x.2.2.2.2.2.1.2.1, v, x.2.2.2.2.2.1.2.2.2), x.2.2.2.2.2.2.1, x.2.2.2.2.2.2.2.1, x.2.2.2.2.2.2.2.2)
abbrev zq_house_s (x : OS) (v : (Nat → Int32)) : OS := (x.1, x.2.1, x.2.2.1, x.2.2.2.1, x.2.2.2.2.1, (x.2.2.2.2.2.1.1, x.2.2.2.2.2.1.2.1, x.2.2.2.2.2.1.2.2.1, v), x.2.2.2.2.2.2.1, x.2.2.2.2.2.2.2.1, x.2.2.2.2.2.2.2.2)
abbrev zi_image (x : OS) : (Nat → Int32) := x.2.2.2.2.2.2.1.1
abbrev zi_parts (x : OS) : Int32 := x.2.2.2.2.2.2.1.2.1
abbrev zi_isKept (x : OS) : Int32 := x.2.2.2.2.2.2.1.2.2
abbrev zi_s (x : OS) (v : ziS) : OS := (x.1, x.2.1, x.2.2.1, x.2.2.2.1, x.2.2.2.2.1, x.2.2.2.2.2.1, v, x.2.2.2.2.2.2.2.1, x.2.2.2.2.2.2.2.2)
abbrev zi_image_s (x : OS) (v : (Nat → Int32)) : OS := (x.1, x.2.1, x.2.2.1, x.2.2.2.1, x.2.2.2.2.1, x.2.2.2.2.2.1, (v, x.2.2.2.2.2.2.1.2.1, x.2.2.2.2.2.2.1.2.2), x.2.2.2.2.2.2.2.1, x.2.2.2.2.2.2.2.2)
abbrev zi_parts_s (x : OS) (v : Int32) : OS := (x.1, x.2.1, x.2.2.1, x.2.2.2.1, x.2.2.2.2.1, x.2.2.2.2.2.1, (x.2.2.2.2.2.2.1.1, v, x.2.2.2.2.2.2.1.2.2), x.2.2.2.2.2.2.2.1, x.2.2.2.2.2.2.2.2)
abbrev zi_isKept_s (x : OS) (v : Int32) : OS := (x.1, x.2.1, x.2.2.1, x.2.2.2.1, x.2.2.2.2.1, x.2.2.2.2.2.1, (x.2.2.2.2.2.2.1.1, x.2.2.2.2.2.2.1.2.1, v), x.2.2.2.2.2.2.2.1, x.2.2.2.2.2.2.2.2)
abbrev zb_bodies (x : OS) : Int32 := x.2.2.2.2.2.2.2.1.1
abbrev zb_kind (x : OS) : (Nat → Int32) := x.2.2.2.2.2.2.2.1.2.1
abbrev zb_trace (x : OS) : (Nat → Int32) := x.2.2.2.2.2.2.2.1.2.2.1
abbrev zb_ran (x : OS) : Int32 := x.2.2.2.2.2.2.2.1.2.2.2.1
abbrev zb_ownKind (x : OS) : Int32 := x.2.2.2.2.2.2.2.1.2.2.2.2.1
abbrev zb_ownNumber (x : OS) : Int32 := x.2.2.2.2.2.2.2.1.2.2.2.2.2
abbrev zb_s (x : OS) (v : zbS) : OS := (x.1, x.2.1, x.2.2.1, x.2.2.2.1, x.2.2.2.2.1, x.2.2.2.2.2.1, x.2.2.2.2.2.2.1, v, x.2.2.2.2.2.2.2.2)
abbrev zb_bodies_s (x : OS) (v : Int32) : OS := (x.1, x.2.1, x.2.2.1, x.2.2.2.1, x.2.2.2.2.1, x.2.2.2.2.2.1, x.2.2.2.2.2.2.1, (v, x.2.2.2.2.2.2.2.1.2.1, x.2.2.2.2.2.2.2.1.2.2.1, x.2.2.2.2.2.2.2.1.2.2.2.1, x.2.2.2.2.2.2.2.1.2.2.2.2.1, x.2.2.2.2.2.2.2.1.2.2.2.2.2), x.2.2.2.2.2.2.2.2)
abbrev zb_kind_s (x : OS) (v : (Nat → Int32)) : OS := (x.1, x.2.1, x.2.2.1, x.2.2.2.1, x.2.2.2.2.1, x.2.2.2.2.2.1, x.2.2.2.2.2.2.1, (x.2.2.2.2.2.2.2.1.1, v, x.2.2.2.2.2.2.2.1.2.2.1, x.2.2.2.2.2.2.2.1.2.2.2.1, x.2.2.2.2.2.2.2.1.2.2.2.2.1, x.2.2.2.2.2.2.2.1.2.2.2.2.2), x.2.2.2.2.2.2.2.2)
abbrev zb_trace_s (x : OS) (v : (Nat → Int32)) : OS := (x.1, x.2.1, x.2.2.1, x.2.2.2.1, x.2.2.2.2.1, x.2.2.2.2.2.1, x.2.2.2.2.2.2.1, (x.2.2.2.2.2.2.2.1.1, x.2.2.2.2.2.2.2.1.2.1, v, x.2.2.2.2.2.2.2.1.2.2.2.1, x.2.2.2.2.2.2.2.1.2.2.2.2.1, x.2.2.2.2.2.2.2.1.2.2.2.2.2), x.2.2.2.2.2.2.2.2)
abbrev zb_ran_s (x : OS) (v : Int32) : OS := (x.1, x.2.1, x.2.2.1, x.2.2.2.1, x.2.2.2.2.1, x.2.2.2.2.2.1, x.2.2.2.2.2.2.1, (x.2.2.2.2.2.2.2.1.1, x.2.2.2.2.2.2.2.1.2.1, x.2.2.2.2.2.2.2.1.2.2.1, v, x.2.2.2.2.2.2.2.1.2.2.2.2.1, x.2.2.2.2.2.2.2.1.2.2.2.2.2), x.2.2.2.2.2.2.2.2)
abbrev zb_ownKind_s (x : OS) (v : Int32) : OS := (x.1, x.2.1, x.2.2.1, x.2.2.2.1, x.2.2.2.2.1, x.2.2.2.2.2.1, x.2.2.2.2.2.2.1, (x.2.2.2.2.2.2.2.1.1, x.2.2.2.2.2.2.2.1.2.1, x.2.2.2.2.2.2.2.1.2.2.1, x.2.2.2.2.2.2.2.1.2.2.2.1, v, x.2.2.2.2.2.2.2.1.2.2.2.2.2), x.2.2.2.2.2.2.2.2)
abbrev zb_ownNumber_s (x : OS) (v : Int32) : OS := (x.1, x.2.1, x.2.2.1, x.2.2.2.1, x.2.2.2.2.1, x.2.2.2.2.2.1, x.2.2.2.2.2.2.1, (x.2.2.2.2.2.2.2.1.1, x.2.2.2.2.2.2.2.1.2.1, x.2.2.2.2.2.2.2.1.2.2.1, x.2.2.2.2.2.2.2.1.2.2.2.1, x.2.2.2.2.2.2.2.1.2.2.2.2.1, v), x.2.2.2.2.2.2.2.2)
abbrev zs_shelf (x : OS) : (Nat → Int32) := x.2.2.2.2.2.2.2.2.1
abbrev zs_many (x : OS) : (Nat → Int32) := x.2.2.2.2.2.2.2.2.2.1
abbrev zs_items (x : OS) : (Nat → Int64) := x.2.2.2.2.2.2.2.2.2.2.1
abbrev zs_carried (x : OS) : (Nat → Int64) := x.2.2.2.2.2.2.2.2.2.2.2
abbrev zs_s (x : OS) (v : zsS) : OS := (x.1, x.2.1, x.2.2.1, x.2.2.2.1, x.2.2.2.2.1, x.2.2.2.2.2.1, x.2.2.2.2.2.2.1, x.2.2.2.2.2.2.2.1, v)
abbrev zs_shelf_s (x : OS) (v : (Nat → Int32)) : OS := (x.1, x.2.1, x.2.2.1, x.2.2.2.1, x.2.2.2.2.1, x.2.2.2.2.2.1, x.2.2.2.2.2.2.1, x.2.2.2.2.2.2.2.1, (v, x.2.2.2.2.2.2.2.2.2.1, x.2.2.2.2.2.2.2.2.2.2.1, x.2.2.2.2.2.2.2.2.2.2.2))
abbrev zs_many_s (x : OS) (v : (Nat → Int32)) : OS := (x.1, x.2.1, x.2.2.1, x.2.2.2.1, x.2.2.2.2.1, x.2.2.2.2.2.1, x.2.2.2.2.2.2.1, x.2.2.2.2.2.2.2.1, (x.2.2.2.2.2.2.2.2.1, v, x.2.2.2.2.2.2.2.2.2.2.1, x.2.2.2.2.2.2.2.2.2.2.2))
abbrev zs_items_s (x : OS) (v : (Nat → Int64)) : OS := (x.1, x.2.1, x.2.2.1, x.2.2.2.1, x.2.2.2.2.1, x.2.2.2.2.2.1, x.2.2.2.2.2.2.1, x.2.2.2.2.2.2.2.1, (x.2.2.2.2.2.2.2.2.1, x.2.2.2.2.2.2.2.2.2.1, v, x.2.2.2.2.2.2.2.2.2.2.2))
abbrev zs_carried_s (x : OS) (v : (Nat → Int64)) : OS := (x.1, x.2.1, x.2.2.1, x.2.2.2.1, x.2.2.2.2.1, x.2.2.2.2.2.1, x.2.2.2.2.2.2.1, x.2.2.2.2.2.2.2.1, (x.2.2.2.2.2.2.2.2.1, x.2.2.2.2.2.2.2.2.2.1, x.2.2.2.2.2.2.2.2.2.2.1, v))
abbrev PieceS : Type := Int32 × Int32 × Int32 × Int32 × Int32 × (Nat → Int32)
abbrev i_wood (p : PieceS) : Int32 := p.1
abbrev i_place (p : PieceS) : Int32 := p.2.1
abbrev i_looked (p : PieceS) : Int32 := p.2.2.1
abbrev i_there (p : PieceS) : Int32 := p.2.2.2.1
abbrev i_known (p : PieceS) : Int32 := p.2.2.2.2.1
abbrev i_num (p : PieceS) : (Nat → Int32) := p.2.2.2.2.2
def pcells : Nat → List PieceS → MH
  | _, [] => []
  | i, p :: r => .inr (3, [.int (i_wood p), .int (i_place p), .int (i_looked p), .int (i_there p), .int (i_known p), .ref (i + 1)]) :: .inl (.int, 1080, .inl (i_num p)) :: pcells (i + 2) r
def k_least : Nat → Int32 := fun j => [0, 0, 1, 0].getD j 0
def k_most : Nat → Int32 := fun j => [9, 99, 9, 99].getD j 0
def k_above : Nat → Int32 := fun j => [-1, 0, 0, 2, 1, 3, 0, 4].getD j 0
def k_own : Nat → Int32 := fun j => [1, 10, 11, 2, 20, 0, 0, 0, 0, 30, 0, 0, 0, 41, 40, 0, 0, 0, 50, 0, 0, 0, 0, 60, 70, 0, 0, 0, 0, 80, 0, 81].getD j 0
def k_pcs (n : Nat) : Nat → Option Nat := fun j => if j < n then some (2 * j + 67) else none
/-- all cells: statics, script, the class (n parts), the reference, then what follows -/
def heapN (n : Nat) (sc : Nat × (Nat → Int32)) (x : XS) (m : OS) (tl : MH) : MH :=
  .inl (.int, 4, .inl k_least) :: -- 0
  .inl (.int, 4, .inl k_most) :: -- 1
  .inl (.int, 8, .inl k_above) :: -- 2
  .inl (.int, 32, .inl k_own) :: -- 3
  .inl (.int, sc.1, .inl sc.2) :: -- 4
  .inr (8, [.ref 6, .ref 11, .ref 15, .ref 18, .ref 23, .ref 27, .ref 30, .ref 35, .int (nI n), .ref 36, .ref 37, .ref 38, .int (xC_kc x), .int (xC_has x)]) :: -- 5
  .inr (7, [.ref 7, .ref 8, .ref 9, .ref 10, .int (xT_done x), .int (xT_kept x)]) :: -- 6
  .inl (.int, 24, .inl (xT_now x)) :: -- 7
  .inl (.int, 40, .inl (xT_cells x)) :: -- 8
  .inl (.int, 40, .inl (xT_before x)) :: -- 9
  .inl (.int, 40, .inl (xT_after x)) :: -- 10
  .inr (1, [.ref 12, .ref 13, .ref 14]) :: -- 11
  .inl (.int, 720, .inl (xW_code x)) :: -- 12
  .inl (.int, 6, .inl (xW_sizes x)) :: -- 13
  .inl (.int, 120, .inl (xW_stack x)) :: -- 14
  .inr (4, [.ref 16, .int (xR_len x), .ref 17, .int (xR_size x), .int (xR_at x), .int (xR_fault x)]) :: -- 15
  .inl (.int, 120, .inl (xR_tape x)) :: -- 16
  .inl (.int, 120, .inl (xR_code x)) :: -- 17
  .inr (5, [.ref 6, .ref 11, .ref 19, .ref 20, .ref 21, .ref 22]) :: -- 18
  .inl (.long, 6, .inr (.inl (xS_sums x))) :: -- 19
  .inl (.long, 384, .inr (.inl (xS_ways x))) :: -- 20
  .inl (.long, 384, .inr (.inl (xS_merged x))) :: -- 21
  .inl (.long, 64, .inr (.inl (xS_prod x))) :: -- 22
  .inr (2, [.ref 24, .ref 25, .ref 26, .int (xP_many x)]) :: -- 23
  .inl (.int, 10, .inl (xP_from x)) :: -- 24
  .inl (.int, 10, .inl (xP_to x)) :: -- 25
  .inl (.int, 10, .inl (xP_houses x)) :: -- 26
  .inr (0, [.ref 28, .int (xB_many x), .ref 29, .int (xB_runs x)]) :: -- 27
  .inl (.int, 50, .inl (xB_kinds x)) :: -- 28
  .inl (.int, 24, .inl (xB_ran x)) :: -- 29
  .inr (6, [.ref 31, .ref 32, .ref 33, .ref 34]) :: -- 30
  .inl (.int, 6, .inl (xH_sorts x)) :: -- 31
  .inl (.int, 6, .inl (xH_held x)) :: -- 32
  .inl (.int, 6, .inl (xH_lens x)) :: -- 33
  .inl (.long, 360, .inr (.inl (xH_cells x))) :: -- 34
  .inl (.object "ChairOld$Piece", 8, .inr (.inr (.inr (.inr (k_pcs n))))) :: -- 35
  .inl (.int, 8, .inl (xC_whens x)) :: -- 36
  .inl (.int, 8, .inl (xC_kl x)) :: -- 37
  .inl (.int, 8, .inl (xC_kt x)) :: -- 38
  .inr (9, [.ref 40, .ref 41, .ref 42, .ref 43, .int (za_keptMany m), .int (za_done m), .int (zp_parts m), .ref 44, .ref 45, .ref 46, .ref 47, .int (zt_tapeMany m), .ref 48, .ref 49, .int (zt_base m), .int (zt_at m), .int (zt_ends m), .int (zt_fault m), .int (zt_opened m), .ref 50, .ref 51, .ref 52, .ref 53, .ref 54, .long (zw_allSum m), .ref 55, .ref 56, .int (zq_papers m), .ref 57, .ref 58, .ref 59, .ref 60, .int (zi_parts m), .int (zi_isKept m), .int (zb_bodies m), .ref 61, .ref 62, .int (zb_ran m), .int (zb_ownKind m), .int (zb_ownNumber m), .ref 63, .ref 64, .ref 65, .ref 66]) :: -- 39
  .inl (.int, 24, .inl (za_may m)) :: -- 40
  .inl (.int, 40, .inl (za_chAt m)) :: -- 41
  .inl (.int, 40, .inl (za_chWas m)) :: -- 42
  .inl (.int, 40, .inl (za_chIs m)) :: -- 43
  .inl (.int, 8, .inl (zp_wood m)) :: -- 44
  .inl (.int, 8, .inl (zp_place m)) :: -- 45
  .inl (.int, 48, .inl (zp_found m)) :: -- 46
  .inl (.int, 120, .inl (zt_tape m)) :: -- 47
  .inl (.int, 720, .inl (zt_text m)) :: -- 48
  .inl (.int, 6, .inl (zt_textMany m)) :: -- 49
  .inl (.int, 4, .inl (zt_names m)) :: -- 50
  .inl (.int, 1080, .inl (zw_numbers m)) :: -- 51
  .inl (.int, 6, .inl (zw_way m)) :: -- 52
  .inl (.long, 180, .inr (.inl (zw_weight m))) :: -- 53
  .inl (.long, 6, .inr (.inl (zw_kindSum m))) :: -- 54
  .inl (.int, 8, .inl (zo_trueWhen m)) :: -- 55
  .inl (.int, 8, .inl (zo_sorted m)) :: -- 56
  .inl (.int, 10, .inl (zq_from m)) :: -- 57
  .inl (.int, 10, .inl (zq_to m)) :: -- 58
  .inl (.int, 10, .inl (zq_house m)) :: -- 59
  .inl (.int, 48, .inl (zi_image m)) :: -- 60
  .inl (.int, 50, .inl (zb_kind m)) :: -- 61
  .inl (.int, 24, .inl (zb_trace m)) :: -- 62
  .inl (.int, 6, .inl (zs_shelf m)) :: -- 63
  .inl (.int, 6, .inl (zs_many m)) :: -- 64
  .inl (.long, 360, .inr (.inl (zs_items m))) :: -- 65
  .inl (.long, 60, .inr (.inl (zs_carried m))) :: -- 66
  tl
def heap (sc : Nat × (Nat → Int32)) (x : XS) (m : OS) (P : List PieceS) : MH := heapN P.length sc x m (pcells 67 P)
theorem heapN_get (n : Nat) (sc : Nat × (Nat → Int32)) (x : XS) (m : OS) (tl : MH) (j : Nat) : (heapN n sc x m tl)[j + 67]? = tl[j]? := rfl
theorem heapN_set (n : Nat) (sc : Nat × (Nat → Int32)) (x : XS) (m : OS) (tl : MH) (j : Nat) (c : MCell) : (heapN n sc x m tl).set (j + 67) c = heapN n sc x m (tl.set j c) := rfl
theorem heapN_len (n : Nat) (sc : Nat × (Nat → Int32)) (x : XS) (m : OS) (tl : MH) : (heapN n sc x m tl).length = tl.length + 67 := rfl
theorem heapN_app (n : Nat) (sc : Nat × (Nat → Int32)) (x : XS) (m : OS) (tl : MH) (c : MCell) : heapN n sc x m tl ++ [c] = heapN n sc x m (tl ++ [c]) := rfl
theorem pcells_len : ∀ (P : List PieceS) (i : Nat), (pcells i P).length = 2 * P.length
  | [], _ => rfl
  | p :: r, i => by
    simp only [pcells, List.length_cons, pcells_len r (i + 2)]
    omega
theorem pcells_get : ∀ (P : List PieceS) (i k : Nat) (p : PieceS), P[k]? = some p → (pcells i P)[2 * k]? = some (.inr (3, [.int (i_wood p), .int (i_place p), .int (i_looked p), .int (i_there p), .int (i_known p), .ref (2 * k + i + 1)])) ∧ (pcells i P)[2 * k + 1]? = some (.inl (.int, 1080, .inl (i_num p)))
  | [], i, k, p, h => by simp at h
  | q :: r, i, 0, p, h => by
    simp at h
    subst h
    simp [pcells]
  | q :: r, i, k + 1, p, h => by
    obtain ⟨h1, h2⟩ := pcells_get r (i + 2) k p (by simpa using h)
    simp only [pcells, show 2 * (k + 1) = 2 * k + 1 + 1 by omega, List.getElem?_cons_succ]
    exact ⟨by rw [h1]; rw [show 2 * k + (i + 2) + 1 = 2 * k + 1 + 1 + i + 1 by omega], h2⟩
theorem pcells_set : ∀ (P : List PieceS) (i k : Nat) (p : PieceS), k < P.length → pcells i (P.set k p) = ((pcells i P).set (2 * k) (.inr (3, [.int (i_wood p), .int (i_place p), .int (i_looked p), .int (i_there p), .int (i_known p), .ref (2 * k + i + 1)]))).set (2 * k + 1) (.inl (.int, 1080, .inl (i_num p)))
  | [], i, k, p, h => by simp at h
  | q :: r, i, 0, p, h => by simp [pcells]
  | q :: r, i, k + 1, p, h => by
    simp only [pcells, show 2 * (k + 1) = 2 * k + 1 + 1 by omega, List.set_cons_succ]
    rw [pcells_set r (i + 2) k p (by simpa using h)]
    rw [show 2 * k + (i + 2) + 1 = 2 * k + 1 + 1 + i + 1 by omega]
theorem pcells_app : ∀ (P : List PieceS) (i : Nat) (p : PieceS), pcells i (P ++ [p]) = pcells i P ++ [.inr (3, [.int (i_wood p), .int (i_place p), .int (i_looked p), .int (i_there p), .int (i_known p), .ref (2 * P.length + i + 1)]), .inl (.int, 1080, .inl (i_num p))]
  | [], i, p => by simp [pcells]
  | q :: r, i, p => by
    simp only [List.cons_append, pcells, pcells_app r (i + 2) p, List.length_cons]
    rw [show 2 * r.length + (i + 2) + 1 = 2 * (r.length + 1) + i + 1 by omega]
end
section
/-! array rules with named indices; small number facts -/
def m_ldI (M : MD) (pc : Nat) (st : List Value) (h : MH) : Option (Nat × Int32 × (Nat → Int32) × Nat × List Value) := match m_find pc M.2.2.2.2.2 with
  | some (.iaload, nx, _) => match st with
    | .int j :: .ref i :: r => match h[i]? with
      | some (.inl (_, n, .inl f)) => some (n, j, f, nx, r)
      | _ => none
    | _ => none
  | _ => none
def m_ldL (M : MD) (pc : Nat) (st : List Value) (h : MH) : Option (Nat × Int32 × (Nat → Int64) × Nat × List Value) := match m_find pc M.2.2.2.2.2 with
  | some (.laload, nx, _) => match st with
    | .int j :: .ref i :: r => match h[i]? with
      | some (.inl (_, n, .inr (.inl f))) => bif Nat.ble 5 i then some (n, j, f, nx, r) else none
      | _ => none
    | _ => none
  | _ => none
section RW
variable {M : MD} {d mc ms : Nat} {v : Option Value} {hT : MH} {cells slots pc : Nat} {l : ML} {st : List Value} {h : MH}
theorem mw_ild {n nx i : Nat} {j : Int32} {f : Nat → Int32} {r : List Value} (hs : m_ldI M pc st h = some (n, j, f, nx, r)) (hj : j = nI i) (hi : i < n) (hn : n < 2 ^ 31) (K : MW M d mc ms v hT cells slots nx l (.int (f i) :: r) h) : MW M d mc ms v hT cells slots pc l st h := by
  refine mw_ald (n := n) (j := j) (x := .int (f j.toNatClampNeg)) (nx := nx) (r := r) ?_ (by rw [hj]; exact vp_in_nI hi hn) (by rw [hj, nI_clamp (by omega)]; exact K)
  unfold m_ldI at hs
  unfold m_ald
  split at hs
  · next nx2 rest hf =>
    rw [hf]
    split at hs
    · split at hs
      · next h1 =>
        cases hs
        simp only [h1]
      · cases hs
    · cases hs
  · cases hs
theorem mw_lld {n nx i : Nat} {j : Int32} {f : Nat → Int64} {r : List Value} (hs : m_ldL M pc st h = some (n, j, f, nx, r)) (hj : j = nI i) (hi : i < n) (hn : n < 2 ^ 31) (K : MW M d mc ms v hT cells slots nx l (.long (f i) :: r) h) : MW M d mc ms v hT cells slots pc l st h := by
  refine mw_ald (n := n) (j := j) (x := .long (f j.toNatClampNeg)) (nx := nx) (r := r) ?_ (by rw [hj]; exact vp_in_nI hi hn) (by rw [hj, nI_clamp (by omega)]; exact K)
  unfold m_ldL at hs
  unfold m_ald
  split at hs
  · next nx2 rest hf =>
    rw [hf]
    split at hs
    · split at hs
      · next h1 =>
        obtain ⟨b1, hs⟩ := m_cond hs
        cases hs
        simp only [h1, b1]
        rfl
      · cases hs
    · cases hs
  · cases hs
def m_stI (M : MD) (pc : Nat) (st : List Value) (h : MH) : Option (Nat × FieldType × Nat × Int32 × Int32 × (Nat → Int32) × Nat × List Value) := match m_find pc M.2.2.2.2.2 with
  | some (.iastore, nx, _) => match st with
    | .int x :: .int j :: .ref i :: r => match h[i]? with
      | some (.inl (ty, n, .inl f)) => bif Nat.ble 5 i then some (i, ty, n, j, x, f, nx, r) else none
      | _ => none
    | _ => none
  | _ => none
def m_stL (M : MD) (pc : Nat) (st : List Value) (h : MH) : Option (Nat × FieldType × Nat × Int32 × Int64 × (Nat → Int64) × Nat × List Value) := match m_find pc M.2.2.2.2.2 with
  | some (.lastore, nx, _) => match st with
    | .long x :: .int j :: .ref i :: r => match h[i]? with
      | some (.inl (ty, n, .inr (.inl f))) => bif Nat.ble 5 i then some (i, ty, n, j, x, f, nx, r) else none
      | _ => none
    | _ => none
  | _ => none
theorem mw_ist {a n nx i : Nat} {ty : FieldType} {j x : Int32} {f : Nat → Int32} {r : List Value} (hs : m_stI M pc st h = some (a, ty, n, j, x, f, nx, r)) (hj : j = nI i) (hi : i < n) (hn : n < 2 ^ 31) (K : MW M d mc ms v hT cells slots nx l r (h.set a (.inl (ty, n, .inl (upd f i x))))) : MW M d mc ms v hT cells slots pc l st h := by
  refine mw_ast (n := n) (j := j) (h' := h.set a (.inl (ty, n, .inl (upd f j.toNatClampNeg x)))) (nx := nx) (r := r) ?_ (by rw [hj]; exact vp_in_nI hi hn) (by rw [hj, nI_clamp (by omega)]; exact K)
  unfold m_stI at hs
  unfold m_ast
  split at hs
  · next nx2 rest hf =>
    rw [hf]
    split at hs
    · split at hs
      · next h1 =>
        obtain ⟨b1, hs⟩ := m_cond hs
        cases hs
        simp only [h1, b1]
        rfl
      · cases hs
    · cases hs
  · cases hs
theorem mw_lst {a n nx i : Nat} {ty : FieldType} {j : Int32} {x : Int64} {f : Nat → Int64} {r : List Value} (hs : m_stL M pc st h = some (a, ty, n, j, x, f, nx, r)) (hj : j = nI i) (hi : i < n) (hn : n < 2 ^ 31) (K : MW M d mc ms v hT cells slots nx l r (h.set a (.inl (ty, n, .inr (.inl (vp_updL f i x)))))) : MW M d mc ms v hT cells slots pc l st h := by
  refine mw_ast (n := n) (j := j) (h' := h.set a (.inl (ty, n, .inr (.inl (vp_updL f j.toNatClampNeg x))))) (nx := nx) (r := r) ?_ (by rw [hj]; exact vp_in_nI hi hn) (by rw [hj, nI_clamp (by omega)]; exact K)
  unfold m_stL at hs
  unfold m_ast
  split at hs
  · next nx2 rest hf =>
    rw [hf]
    split at hs
    · split at hs
      · next h1 =>
        obtain ⟨b1, hs⟩ := m_cond hs
        cases hs
        simp only [h1, b1]
        rfl
      · cases hs
    · cases hs
  · cases hs
end RW
theorem n_lt {a b : Nat} (h : a < b) (hb : b < 2 ^ 31) : nI a < nI b := nI_lt h hb
theorem n_nlt {a b : Nat} (h : b ≤ a) (ha : a < 2 ^ 31) : ¬ nI a < nI b := nI_nlt h ha
theorem lg_lt0 (x y : Int64) : lg_cmp x y < 0 ↔ x < y := by
  unfold lg_cmp
  by_cases h1 : y < x
  · rw [if_pos h1]
    constructor
    · intro z; exact absurd z (by decide)
    · intro z; rw [Int64.lt_iff_toInt_lt] at h1 z; omega
  · rw [if_neg h1]
    by_cases h2 : x = y
    · rw [if_pos h2]
      subst h2
      constructor
      · intro z; exact absurd z (by decide)
      · intro z; exact absurd z h1
    · rw [if_neg h2]
      constructor
      · intro _
        rw [Int64.lt_iff_toInt_lt] at h1 ⊢
        have : x.toInt ≠ y.toInt := fun e => h2 (Int64.toInt_inj.mp e)
        omega
      · intro _; decide
theorem lg_gt0 (x y : Int64) : 0 < lg_cmp x y ↔ y < x := by
  unfold lg_cmp
  by_cases h1 : y < x
  · rw [if_pos h1]
    exact ⟨fun _ => h1, fun _ => by decide⟩
  · rw [if_neg h1]
    by_cases h2 : x = y
    · rw [if_pos h2]
      exact ⟨fun z => absurd z (by decide), fun z => absurd z h1⟩
    · rw [if_neg h2]
      exact ⟨fun z => absurd z (by decide), fun z => absurd z h1⟩
theorem lg_eq0 (x y : Int64) : lg_cmp x y = 0 ↔ x = y := by
  unfold lg_cmp
  by_cases h1 : y < x
  · rw [if_pos h1]
    constructor
    · intro z; exact absurd z (by decide)
    · intro z; subst z; rw [Int64.lt_iff_toInt_lt] at h1; omega
  · rw [if_neg h1]
    by_cases h2 : x = y
    · rw [if_pos h2]; exact ⟨fun _ => h2, fun _ => rfl⟩
    · rw [if_neg h2]; exact ⟨fun z => absurd z (by decide), fun z => absurd z h2⟩
theorem c_withinO (h : MH) (x lo hi : Int64) : MC M_O_within 0 0 0 [.long x, .long lo, .long hi] h (some (.int (bI (lo ≤ x ∧ x ≤ hi)))) h := by
  refine mc_of k1_O_within k2_O_within (Nat.le_of_ble_eq_true rfl) ?_
  repeat (refine mw_step rfl ?_)
  refine mw_br rfl (fun h1 => ?_) (fun h1 => ?_)
  · repeat (refine mw_step rfl ?_)
    exact mw_r1 rfl rfl (Nat.le_refl _) (Nat.le_refl _) (by rw [bI_f]; intro z; rw [lg_lt0, Int64.lt_iff_toInt_lt] at h1; have := z.1; rw [Int64.le_iff_toInt_le] at this; omega) rfl
  · repeat (refine mw_step rfl ?_)
    refine mw_br rfl (fun h2 => ?_) (fun h2 => ?_)
    · repeat (refine mw_step rfl ?_)
      exact mw_r1 rfl rfl (Nat.le_refl _) (Nat.le_refl _) (by rw [bI_f]; intro z; rw [lg_gt0, Int64.lt_iff_toInt_lt] at h2; have := z.2; rw [Int64.le_iff_toInt_le] at this; omega) rfl
    · repeat (refine mw_step rfl ?_)
      exact mw_r1 rfl rfl (Nat.le_refl _) (Nat.le_refl _) (by rw [bI_t]; rw [lg_lt0] at h1; rw [lg_gt0] at h2; exact ⟨Int64.not_lt.mp h1, Int64.not_lt.mp h2⟩) rfl
end
section
/-! papers, on both sides -/
def sp_house (f t hs : Nat → Int32) (y : Int32) : Nat → Nat → Int32
  | 0, _ => -2
  | k + 1, i => if f i ≤ y ∧ y ≤ t i then hs i else sp_house f t hs y k (i + 1)
section PA
variable {N : Nat} {sc : Nat × (Nat → Int32)} {x : XS} {m : OS} {tl : MH} {n : Nat}
theorem l_P_houseAt (y : Int32) (hn : xP_many x = nI n) (h10 : n ≤ 10) : ∀ k i, i + k = n → MW M_P_houseAt 0 0 0 (some (.int (sp_house (xP_from x) (xP_to x) (xP_houses x) y k i))) (heapN N sc x m tl) 0 0 2 [(0, .ref 23), (1, .int y), (2, .int (nI i))] [] (heapN N sc x m tl) := by
  intro k
  induction k with
  | zero =>
    intro i hi
    repeat (refine mw_step rfl ?_)
    refine mw_brF rfl (by rw [hn]; exact n_nlt (by omega) (by omega)) ?_
    repeat (refine mw_step rfl ?_)
    exact mw_r1 rfl trivial (Nat.le_refl _) (Nat.le_refl _) rfl rfl
  | succ k ih =>
    intro i hi
    repeat (refine mw_step rfl ?_)
    refine mw_brT rfl (by rw [hn]; exact n_lt (by omega) (by omega)) ?_
    repeat (refine mw_step rfl ?_)
    refine mw_brT rfl (n_lt (b := 10) (by omega) (by omega)) ?_
    repeat (refine mw_step rfl ?_)
    refine mw_ild rfl (rfl) (by omega) (by decide) ?_
    repeat (refine mw_step rfl ?_)
    refine mw_br rfl (fun h1 => ?_) (fun h1 => ?_)
    · repeat (refine mw_to 2 rfl rfl ?_)
      rw [nI_1]
      refine mw_pick [0, 1, 2] ?_
      rw [sp_house, if_neg (fun z => m_nlt z.1 h1)]
      exact ih (i + 1) (by omega)
    · repeat (refine mw_step rfl ?_)
      refine mw_ild rfl (rfl) (by omega) (by decide) ?_
      refine mw_br rfl (fun h2 => ?_) (fun h2 => ?_)
      · repeat (refine mw_to 2 rfl rfl ?_)
        rw [nI_1]
        refine mw_pick [0, 1, 2] ?_
        rw [sp_house, if_neg (fun z => m_nlt z.2 h2)]
        exact ih (i + 1) (by omega)
      · repeat (refine mw_step rfl ?_)
        refine mw_ild rfl (rfl) (by omega) (by decide) ?_
        exact mw_r1 rfl trivial (Nat.le_refl _) (Nat.le_refl _) (by rw [sp_house, if_pos ⟨Int32.not_lt.mp h1, Int32.not_lt.mp h2⟩]) rfl
theorem c_P_houseAt (y : Int32) (hn : xP_many x = nI n) (h10 : n ≤ 10) : MC M_P_houseAt 0 0 0 [.ref 23, .int y] (heapN N sc x m tl) (some (.int (sp_house (xP_from x) (xP_to x) (xP_houses x) y n 0))) (heapN N sc x m tl) := by
  refine mc_of k1_P_houseAt k2_P_houseAt (Nat.le_of_ble_eq_true rfl) ?_
  repeat (refine mw_to 2 rfl rfl ?_)
  refine mw_pick [0, 1, 2] ?_
  exact l_P_houseAt y hn h10 n 0 (by omega)
theorem c_P_add (a b c : Int32) (hn : xP_many x = nI n) (h10 : n < 10) : MC M_P_add 0 0 0 [.ref 23, .int a, .int b, .int c] (heapN N sc x m tl) (some (.int (nI n))) (heapN N sc (xP_s x (upd (xP_from x) n a, upd (xP_to x) n b, upd (xP_houses x) n c, nI (n + 1))) m tl) := by
  refine mc_of k1_P_add k2_P_add (Nat.le_of_ble_eq_true rfl) ?_
  repeat (refine mw_step rfl ?_)
  refine mw_brF rfl (by rw [hn]; exact nI_pos (by omega)) ?_
  repeat (refine mw_step rfl ?_)
  refine mw_brT rfl (by rw [hn]; exact n_lt (b := 10) (by omega) (by omega)) ?_
  repeat (refine mw_step rfl ?_)
  refine mw_ist rfl (hn) (by omega) (by decide) ?_
  repeat (refine mw_step rfl ?_)
  refine mw_ist rfl (hn) (by omega) (by decide) ?_
  repeat (refine mw_step rfl ?_)
  refine mw_ist rfl (hn) (by omega) (by decide) ?_
  repeat (refine mw_step rfl ?_)
  exact mw_r1 rfl trivial (Nat.le_refl _) (Nat.le_refl _) (by rw [show (xP_many x + 1 - 1) = nI n by rw [hn, nI_1]; exact nI_pred n] ) ( by rw [← nI_1, ← hn]; rfl)
def sp_cl1 (f t hs : Nat → Int32) (k : Nat) : Nat → Nat → Bool
  | 0, _ => false
  | r + 1, j => if f k ≤ t j ∧ f j ≤ t k ∧ hs k ≠ hs j then true else sp_cl1 f t hs k r (j + 1)
def sp_clash (f t hs : Nat → Int32) : Nat → Nat → Int32
  | 0, _ => -2
  | r + 1, k => if sp_cl1 f t hs k k 0 = true then nI k else sp_clash f t hs r (k + 1)
theorem l_P_clash1 {v : Option Value} (hn : xP_many x = nI n) (h10 : n ≤ 10) (k : Nat) (hk : k < n) : ∀ r j, j + r = k → (sp_cl1 (xP_from x) (xP_to x) (xP_houses x) k r j = true → v = some (.int (nI k))) → (sp_cl1 (xP_from x) (xP_to x) (xP_houses x) k r j = false → MW M_P_firstClash 0 0 0 v (heapN N sc x m tl) 0 0 86 [(0, .ref 23), (1, .int (nI k))] [] (heapN N sc x m tl)) → MW M_P_firstClash 0 0 0 v (heapN N sc x m tl) 0 0 18 [(0, .ref 23), (1, .int (nI k)), (2, .int (nI j))] [] (heapN N sc x m tl) := by
  intro r
  induction r with
  | zero =>
    intro j hj hv K
    repeat (refine mw_step rfl ?_)
    refine mw_brF rfl (n_nlt (by omega) (by omega)) ?_
    refine mw_pick [0, 1] ?_
    exact K rfl
  | succ r ih =>
    intro j hj hv K
    repeat (refine mw_step rfl ?_)
    refine mw_brT rfl (n_lt (by omega) (by omega)) ?_
    repeat (refine mw_step rfl ?_)
    refine mw_ild rfl (rfl) (by omega) (by decide) ?_
    repeat (refine mw_step rfl ?_)
    refine mw_ild rfl (rfl) (by omega) (by decide) ?_
    refine mw_br rfl (fun h1 => ?_) (fun h1 => ?_)
    · repeat (refine mw_step rfl ?_)
      refine mw_brT rfl (rfl) ?_
      repeat (refine mw_to 18 rfl rfl ?_)
      rw [nI_1]
      refine mw_pick [0, 1, 2] ?_
      have e : sp_cl1 (xP_from x) (xP_to x) (xP_houses x) k (r + 1) j = sp_cl1 (xP_from x) (xP_to x) (xP_houses x) k r (j + 1) := by rw [sp_cl1, if_neg (fun z => m_nlt z.1 h1)]
      rw [e] at hv K
      exact ih (j + 1) (by omega) hv K
    · repeat (refine mw_step rfl ?_)
      refine mw_ild rfl (rfl) (by omega) (by decide) ?_
      repeat (refine mw_step rfl ?_)
      refine mw_ild rfl (rfl) (by omega) (by decide) ?_
      refine mw_br rfl (fun h2 => ?_) (fun h2 => ?_)
      · repeat (refine mw_step rfl ?_)
        refine mw_brT rfl (rfl) ?_
        repeat (refine mw_to 18 rfl rfl ?_)
        rw [nI_1]
        refine mw_pick [0, 1, 2] ?_
        have e : sp_cl1 (xP_from x) (xP_to x) (xP_houses x) k (r + 1) j = sp_cl1 (xP_from x) (xP_to x) (xP_houses x) k r (j + 1) := by rw [sp_cl1, if_neg (fun z => m_nlt z.2.1 h2)]
        rw [e] at hv K
        exact ih (j + 1) (by omega) hv K
      · repeat (refine mw_step rfl ?_)
        refine mw_brF rfl (by decide) ?_
        repeat (refine mw_step rfl ?_)
        refine mw_ild rfl (rfl) (by omega) (by decide) ?_
        repeat (refine mw_step rfl ?_)
        refine mw_ild rfl (rfl) (by omega) (by decide) ?_
        refine mw_br rfl (fun h3 => ?_) (fun h3 => ?_)
        · repeat (refine mw_to 18 rfl rfl ?_)
          rw [nI_1]
          refine mw_pick [0, 1, 2] ?_
          have e : sp_cl1 (xP_from x) (xP_to x) (xP_houses x) k (r + 1) j = sp_cl1 (xP_from x) (xP_to x) (xP_houses x) k r (j + 1) := by rw [sp_cl1, if_neg (fun z => z.2.2 h3)]
          rw [e] at hv K
          exact ih (j + 1) (by omega) hv K
        · repeat (refine mw_step rfl ?_)
          exact mw_r1 rfl trivial (Nat.le_refl _) (Nat.le_refl _) (hv (by rw [sp_cl1, if_pos ⟨Int32.not_lt.mp h1, Int32.not_lt.mp h2, h3⟩])) rfl
theorem l_P_clash (hn : xP_many x = nI n) (h10 : n ≤ 10) : ∀ r k, k + r = n → MW M_P_firstClash 0 0 0 (some (.int (sp_clash (xP_from x) (xP_to x) (xP_houses x) r k))) (heapN N sc x m tl) 0 0 2 [(0, .ref 23), (1, .int (nI k))] [] (heapN N sc x m tl) := by
  intro r
  induction r with
  | zero =>
    intro k hk
    repeat (refine mw_step rfl ?_)
    refine mw_brF rfl (by rw [hn]; exact n_nlt (by omega) (by omega)) ?_
    repeat (refine mw_step rfl ?_)
    exact mw_r1 rfl trivial (Nat.le_refl _) (Nat.le_refl _) rfl rfl
  | succ r ih =>
    intro k hk
    repeat (refine mw_step rfl ?_)
    refine mw_brT rfl (by rw [hn]; exact n_lt (by omega) (by omega)) ?_
    repeat (refine mw_step rfl ?_)
    refine mw_brT rfl (n_lt (b := 10) (by omega) (by omega)) ?_
    repeat (refine mw_to 18 rfl rfl ?_)
    refine mw_pick [0, 1, 2] ?_
    refine l_P_clash1 hn h10 k (by omega) k 0 (by omega) (fun e => by rw [sp_clash, if_pos e]) (fun e => ?_)
    repeat (refine mw_to 2 rfl rfl ?_)
    rw [nI_1]
    refine mw_pick [0, 1] ?_
    rw [sp_clash, if_neg (by rw [e]; decide)]
    exact ih (k + 1) (by omega)
theorem c_P_clash (hn : xP_many x = nI n) (h10 : n ≤ 10) : MC M_P_firstClash 0 0 0 [.ref 23] (heapN N sc x m tl) (some (.int (sp_clash (xP_from x) (xP_to x) (xP_houses x) n 0))) (heapN N sc x m tl) := by
  refine mc_of k1_P_firstClash k2_P_firstClash (Nat.le_of_ble_eq_true rfl) ?_
  repeat (refine mw_to 2 rfl rfl ?_)
  refine mw_pick [0, 1] ?_
  exact l_P_clash hn h10 n 0 (by omega)
/-- the class's count of gaps: seen, missing, since -/
def sp_gapsX (hs : Nat → Int32) : Nat → Nat → Int32 → Int32 → Int32 → Int32
  | 0, _, _, b, _ => b
  | r + 1, y, a, b, c => if hs y = -2 then sp_gapsX hs r (y + 1) a b (c + 1) else sp_gapsX hs r (y + 1) (a + 1) (b + (if a = 0 then 0 else c)) 0
theorem l_P_gaps (hn : xP_many x = nI n) (h10 : n ≤ 10) : ∀ r y (a b c : Int32), y + r = 30 → MW M_P_gaps 1 0 0 (some (.int (sp_gapsX (fun y => sp_house (xP_from x) (xP_to x) (xP_houses x) (nI y) n 0) r y a b c))) (heapN N sc x m tl) 0 0 9 [(0, .ref 23), (1, .int a), (2, .int b), (3, .int c), (4, .int (nI y))] [] (heapN N sc x m tl) := by
  intro r
  induction r with
  | zero =>
    intro y a b c hy
    repeat (refine mw_step rfl ?_)
    refine mw_brF rfl (n_nlt (b := 30) (by omega) (by omega)) ?_
    repeat (refine mw_step rfl ?_)
    exact mw_r1 rfl trivial (Nat.le_refl _) (Nat.le_refl _) rfl rfl
  | succ r ih =>
    intro y a b c hy
    repeat (refine mw_step rfl ?_)
    refine mw_brT rfl (n_lt (b := 30) (by omega) (by omega)) ?_
    repeat (refine mw_step rfl ?_)
    refine mw_call (c_P_houseAt (nI y) hn h10) rfl rfl (Nat.le_of_ble_eq_true rfl) (Nat.le_refl _) (Nat.le_refl _) ?_
    repeat (refine mw_step rfl ?_)
    refine mw_br rfl (fun h1 => ?_) (fun h1 => ?_)
    · repeat (refine mw_to 9 rfl rfl ?_)
      rw [nI_1]
      refine mw_pick [0, 1, 2, 3, 4] ?_
      rw [sp_gapsX, if_pos h1]
      exact ih (y + 1) a b (c + 1) (by omega)
    · repeat (refine mw_step rfl ?_)
      refine mw_br rfl (fun h2 => ?_) (fun h2 => ?_)
      · repeat (refine mw_to 9 rfl rfl ?_)
        rw [nI_1]
        refine mw_pick [0, 1, 2, 3, 4] ?_
        rw [sp_gapsX, if_neg h1, if_pos h2]
        exact ih (y + 1) (a + 1) (b + 0) 0 (by omega)
      · repeat (refine mw_to 9 rfl rfl ?_)
        rw [nI_1]
        refine mw_pick [0, 1, 2, 3, 4] ?_
        rw [sp_gapsX, if_neg h1, if_neg h2]
        exact ih (y + 1) (a + 1) (b + c) 0 (by omega)
theorem c_P_gaps (hn : xP_many x = nI n) (h10 : n ≤ 10) : MC M_P_gaps 1 0 0 [.ref 23] (heapN N sc x m tl) (some (.int (sp_gapsX (fun y => sp_house (xP_from x) (xP_to x) (xP_houses x) (nI y) n 0) 30 0 0 0 0))) (heapN N sc x m tl) := by
  refine mc_of k1_P_gaps k2_P_gaps (Nat.le_of_ble_eq_true rfl) ?_
  repeat (refine mw_to 9 rfl rfl ?_)
  refine mw_pick [0, 1, 2, 3, 4] ?_
  exact l_P_gaps hn h10 30 0 0 0 0 (by omega)
theorem fa_wide_le (a b : Int32) : a.toInt64 ≤ b.toInt64 ↔ a ≤ b := by
  rw [Int64.le_iff_toInt_le, Int32.le_iff_toInt_le, Int32.toInt_toInt64, Int32.toInt_toInt64]
/-- the reference's side -/
theorem l_O_houseOf (y : Int32) (hn : zq_papers m = nI n) (h10 : n ≤ 10) : ∀ k i, i + k = n → MW M_O_houseOf 1 0 0 (some (.int (sp_house (zq_from m) (zq_to m) (zq_house m) y k i))) (heapN N sc x m tl) 0 0 2 [(0, .ref 39), (1, .int y), (2, .int (nI i))] [] (heapN N sc x m tl) := by
  intro k
  induction k with
  | zero =>
    intro i hi
    repeat (refine mw_step rfl ?_)
    refine mw_brF rfl (by rw [hn]; exact n_nlt (by omega) (by omega)) ?_
    repeat (refine mw_step rfl ?_)
    exact mw_r1 rfl trivial (Nat.le_refl _) (Nat.le_refl _) rfl rfl
  | succ k ih =>
    intro i hi
    repeat (refine mw_step rfl ?_)
    refine mw_brT rfl (by rw [hn]; exact n_lt (by omega) (by omega)) ?_
    repeat (refine mw_step rfl ?_)
    refine mw_ild rfl (rfl) (by omega) (by decide) ?_
    repeat (refine mw_step rfl ?_)
    refine mw_ild rfl (rfl) (by omega) (by decide) ?_
    repeat (refine mw_step rfl ?_)
    refine mw_call (c_withinO _ _ _ _) rfl rfl (Nat.le_of_ble_eq_true rfl) (Nat.le_refl _) (Nat.le_refl _) ?_
    refine mw_br rfl (fun h1 => ?_) (fun h1 => ?_)
    · repeat (refine mw_to 2 rfl rfl ?_)
      rw [nI_1]
      refine mw_pick [0, 1, 2] ?_
      rw [bI_0, fa_wide_le, fa_wide_le] at h1
      rw [sp_house, if_neg h1]
      exact ih (i + 1) (by omega)
    · repeat (refine mw_step rfl ?_)
      refine mw_ild rfl (rfl) (by omega) (by decide) ?_
      rw [bI_0, fa_wide_le, fa_wide_le] at h1
      exact mw_r1 rfl trivial (Nat.le_refl _) (Nat.le_refl _) (by rw [sp_house, if_pos (Classical.not_not.mp h1)]) rfl
theorem c_O_houseOf (y : Int32) (hn : zq_papers m = nI n) (h10 : n ≤ 10) : MC M_O_houseOf 1 0 0 [.ref 39, .int y] (heapN N sc x m tl) (some (.int (sp_house (zq_from m) (zq_to m) (zq_house m) y n 0))) (heapN N sc x m tl) := by
  refine mc_of k1_O_houseOf k2_O_houseOf (Nat.le_of_ble_eq_true rfl) ?_
  repeat (refine mw_to 2 rfl rfl ?_)
  refine mw_pick [0, 1, 2] ?_
  exact l_O_houseOf y hn h10 n 0 (by omega)
end PA
end
section
/-! small tests; what is told, on both sides -/
theorem bI_congr {p q : Prop} [Decidable p] [Decidable q] (h : p ↔ q) : bI p = bI q := by
  by_cases z : p
  · rw [bI_t z, bI_t (h.mp z)]
  · rw [bI_f z, bI_f (fun y => z (h.mpr y))]
theorem rng {x : Int32} {n : Nat} (hn : n < 2 ^ 31) (h : 0 ≤ x ∧ x ≤ nI n) : ∃ j : Nat, j ≤ n ∧ x = nI j := nI_of2 (nI_toInt hn) (Int32.not_lt.mpr h.1) h.2
theorem rng_in {j n : Nat} (h : j ≤ n) (hn : n < 2 ^ 31) : 0 ≤ nI j ∧ nI j ≤ nI n := ⟨nI_pos' (by omega), nI_le h hn⟩
theorem c_withinO32 (h : MH) (x lo hi : Int32) : MC M_O_within 0 0 0 [.long x.toInt64, .long lo.toInt64, .long hi.toInt64] h (some (.int (bI (lo ≤ x ∧ x ≤ hi)))) h := by
  have := c_withinO h x.toInt64 lo.toInt64 hi.toInt64
  rw [bI_congr (q := lo ≤ x ∧ x ≤ hi) (by rw [fa_wide_le, fa_wide_le])] at this
  exact this
theorem c_isKind (h : MH) (x : Int32) : MC M_C_isKind 1 0 0 [.int x] h (some (.int (bI (0 ≤ x ∧ x ≤ nI 5)))) h := by
  refine mc_of k1_C_isKind k2_C_isKind (Nat.le_of_ble_eq_true rfl) ?_
  repeat (refine mw_step rfl ?_)
  refine mw_call (c_within _ _ _ _) rfl rfl (Nat.le_of_ble_eq_true rfl) (Nat.le_refl _) (Nat.le_refl _) ?_
  exact mw_r1 rfl bI_nar (Nat.le_refl _) (Nat.le_refl _) rfl rfl
theorem c_isMark (h : MH) (x : Int32) : MC M_C_isMark 1 0 0 [.int x] h (some (.int (bI (0 ≤ x ∧ x ≤ nI 5)))) h := by
  refine mc_of k1_C_isMark k2_C_isMark (Nat.le_of_ble_eq_true rfl) ?_
  repeat (refine mw_step rfl ?_)
  refine mw_call (c_within _ _ _ _) rfl rfl (Nat.le_of_ble_eq_true rfl) (Nat.le_refl _) (Nat.le_refl _) ?_
  exact mw_r1 rfl bI_nar (Nat.le_refl _) (Nat.le_refl _) rfl rfl
theorem c_isTime (h : MH) (x : Int32) : MC M_C_isTime 1 0 0 [.int x] h (some (.int (bI (0 ≤ x ∧ x ≤ nI 29)))) h := by
  refine mc_of k1_C_isTime k2_C_isTime (Nat.le_of_ble_eq_true rfl) ?_
  repeat (refine mw_step rfl ?_)
  refine mw_call (c_within _ _ _ _) rfl rfl (Nat.le_of_ble_eq_true rfl) (Nat.le_refl _) (Nat.le_refl _) ?_
  exact mw_r1 rfl bI_nar (Nat.le_refl _) (Nat.le_refl _) rfl rfl
theorem c_isSet (h : MH) (x : Int32) : MC M_C_isSet 1 0 0 [.int x] h (some (.int (bI (0 ≤ x ∧ x ≤ nI 63)))) h := by
  refine mc_of k1_C_isSet k2_C_isSet (Nat.le_of_ble_eq_true rfl) ?_
  repeat (refine mw_step rfl ?_)
  refine mw_call (c_within _ _ _ _) rfl rfl (Nat.le_of_ble_eq_true rfl) (Nat.le_refl _) (Nat.le_refl _) ?_
  exact mw_r1 rfl bI_nar (Nat.le_refl _) (Nat.le_refl _) rfl rfl
theorem c_isShelf (h : MH) (x : Int32) : MC M_C_isShelf 1 0 0 [.int x] h (some (.int (bI (0 ≤ x ∧ x ≤ nI 5)))) h := by
  refine mc_of k1_C_isShelf k2_C_isShelf (Nat.le_of_ble_eq_true rfl) ?_
  repeat (refine mw_step rfl ?_)
  refine mw_call (c_within _ _ _ _) rfl rfl (Nat.le_of_ble_eq_true rfl) (Nat.le_refl _) (Nat.le_refl _) ?_
  exact mw_r1 rfl bI_nar (Nat.le_refl _) (Nat.le_refl _) rfl rfl
theorem c_hasBit (h : MH) (x y : Int32) : MC M_C_hasBit 0 0 0 [.int x, .int y] h (some (.int (bI ((x >>> (y &&& 31)) &&& 1 = 1)))) h := by
  refine mc_of k1_C_hasBit k2_C_hasBit (Nat.le_of_ble_eq_true rfl) ?_
  repeat (refine mw_step rfl ?_)
  refine mw_br rfl (fun h1 => ?_) (fun h1 => ?_)
  · repeat (refine mw_step rfl ?_)
    exact mw_r1 rfl rfl (Nat.le_refl _) (Nat.le_refl _) (by rw [bI_t h1]) rfl
  · repeat (refine mw_step rfl ?_)
    exact mw_r1 rfl rfl (Nat.le_refl _) (Nat.le_refl _) (by rw [bI_f h1]) rfl
theorem c_O_isKind (h : MH) (x : Int32) : MC M_O_isKind 1 0 0 [.int x] h (some (.int (bI (0 ≤ x ∧ x ≤ nI 5)))) h := by
  refine mc_of k1_O_isKind k2_O_isKind (Nat.le_of_ble_eq_true rfl) ?_
  repeat (refine mw_step rfl ?_)
  refine mw_call (c_withinO32 _ x 0 (nI 5)) rfl rfl (Nat.le_of_ble_eq_true rfl) (Nat.le_refl _) (Nat.le_refl _) ?_
  exact mw_r1 rfl bI_nar (Nat.le_refl _) (Nat.le_refl _) rfl rfl
theorem c_O_isMark (h : MH) (x : Int32) : MC M_O_isMark 1 0 0 [.int x] h (some (.int (bI (0 ≤ x ∧ x ≤ nI 5)))) h := by
  refine mc_of k1_O_isMark k2_O_isMark (Nat.le_of_ble_eq_true rfl) ?_
  repeat (refine mw_step rfl ?_)
  refine mw_call (c_withinO32 _ x 0 (nI 5)) rfl rfl (Nat.le_of_ble_eq_true rfl) (Nat.le_refl _) (Nat.le_refl _) ?_
  exact mw_r1 rfl bI_nar (Nat.le_refl _) (Nat.le_refl _) rfl rfl
theorem c_O_isShelf (h : MH) (x : Int32) : MC M_O_isShelf 1 0 0 [.int x] h (some (.int (bI (0 ≤ x ∧ x ≤ nI 5)))) h := by
  refine mc_of k1_O_isShelf k2_O_isShelf (Nat.le_of_ble_eq_true rfl) ?_
  repeat (refine mw_step rfl ?_)
  refine mw_call (c_withinO32 _ x 0 (nI 5)) rfl rfl (Nat.le_of_ble_eq_true rfl) (Nat.le_refl _) (Nat.le_refl _) ?_
  exact mw_r1 rfl bI_nar (Nat.le_refl _) (Nat.le_refl _) rfl rfl
section TO
variable {N : Nat} {sc : Nat × (Nat → Int32)} {x : XS} {m : OS} {tl : MH}
theorem n_ma (a b : Nat) : nI a * nI 6 + nI b = nI (a * 6 + b) := by rw [pk_mul, nI_add]
theorem c_T_get (a b : Nat) (hb : a * 6 + b < 24) : MC M_T_get 0 0 0 [.ref 6, .int (nI a), .int (nI b)] (heapN N sc x m tl) (some (.int (xT_now x (a * 6 + b)))) (heapN N sc x m tl) := by
  refine mc_of k1_T_get k2_T_get (Nat.le_of_ble_eq_true rfl) ?_
  repeat (refine mw_step rfl ?_)
  refine mw_brF rfl (by rw [show nI a * 6 + nI b = nI (a * 6 + b) from n_ma a b]; exact nI_pos (by omega)) ?_
  repeat (refine mw_step rfl ?_)
  refine mw_brT rfl (by rw [show nI a * 6 + nI b = nI (a * 6 + b) from n_ma a b]; exact n_lt (b := 24) (by omega) (by omega)) ?_
  repeat (refine mw_step rfl ?_)
  refine mw_ild rfl (n_ma a b) (by omega) (by decide) ?_
  repeat (refine mw_step rfl ?_)
  exact mw_r1 rfl trivial (Nat.le_refl _) (Nat.le_refl _) rfl rfl
theorem c_T_set (c : Nat) (v : Int32) (hc : c < 24) : MC M_T_set 0 0 0 [.ref 6, .int (nI c), .int v] (heapN N sc x m tl) none (heapN N sc (xT_now_s x (upd (xT_now x) c v)) m tl) := by
  refine mc_of k1_T_set k2_T_set (Nat.le_of_ble_eq_true rfl) ?_
  repeat (refine mw_step rfl ?_)
  refine mw_brF rfl (nI_pos (by omega)) ?_
  repeat (refine mw_step rfl ?_)
  refine mw_brT rfl (n_lt (b := 24) (by omega) (by omega)) ?_
  repeat (refine mw_step rfl ?_)
  refine mw_ist rfl (rfl) (by omega) (by decide) ?_
  exact mw_r0 rfl (Nat.le_refl _) (Nat.le_refl _) rfl rfl
def sp_drop (f : Nat → Int32) : Nat → Int32 := va_cpy f f 1 0 39
theorem c_T_drop : MC M_T_dropOldest 1 0 0 [.ref 6] (heapN N sc x m tl) none (heapN N sc (xT_s x (xT_now x, sp_drop (xT_cells x), sp_drop (xT_before x), sp_drop (xT_after x), nI 39, xT_kept x)) m tl) := by
  refine mc_of k1_T_dropOldest k2_T_dropOldest (Nat.le_of_ble_eq_true rfl) ?_
  repeat (refine mw_step rfl ?_)
  refine mw_cpyi (i0 := 8) (i1 := 8) (sp := 1) (dp := 0) (n := 39) rfl (by decide) rfl rfl (by decide) (by decide) (by decide) (by decide) (by decide) (by decide) (by decide) ?_
  repeat (refine mw_step rfl ?_)
  refine mw_cpyi (i0 := 9) (i1 := 9) (sp := 1) (dp := 0) (n := 39) rfl (by decide) rfl rfl (by decide) (by decide) (by decide) (by decide) (by decide) (by decide) (by decide) ?_
  repeat (refine mw_step rfl ?_)
  refine mw_cpyi (i0 := 10) (i1 := 10) (sp := 1) (dp := 0) (n := 39) rfl (by decide) rfl rfl (by decide) (by decide) (by decide) (by decide) (by decide) (by decide) (by decide) ?_
  repeat (refine mw_step rfl ?_)
  exact mw_r0 rfl (Nat.le_refl _) (Nat.le_refl _) rfl rfl
end TO
end
section
/-! what is told, its changes -/
theorem bI_ne {p : Prop} [Decidable p] (h : p) : ¬ bI p = 0 := by
  rw [bI_t h]
  decide
theorem bI_of {p : Prop} [Decidable p] (h : ¬ bI p = 0) : p := Classical.not_not.mp (fun z => h (bI_f z))
theorem m_sw_out {M : MD} {pc : Nat} {x dflt lo hi : Int} {offs : Array Int} {e : Nat × Nat × Nat × Nat × MethodName × Value} {t : Int} (hf : m_find pc M.2.2.2.2.2 = some (.tableswitch dflt lo hi offs, e)) (h : x < lo ∨ hi < x) (ht : (pc : Int) + dflt = t) : m_sw M pc x = some t := by
  unfold m_sw
  rw [hf]
  have : (decide (x < lo) || decide (hi < x)) = true := by
    rw [Bool.or_eq_true, decide_eq_true_eq, decide_eq_true_eq]
    exact h
  simp only [this, cond_true, ht]
theorem m_out {x : Int32} {n : Nat} (hn : n < 2 ^ 31) (h : ¬ (0 ≤ x ∧ x ≤ nI n)) : x.toInt < 0 ∨ (n : Int) < x.toInt := by
  rw [Int32.le_iff_toInt_le, Int32.le_iff_toInt_le, nI_toInt hn, Int32.toInt_zero] at h
  omega
abbrev gT (x : XS) : xTS := x.1
abbrev gA (m : OS) : zaS := m.1
/-- the reference's order of the two counts -/
def zt (t : xTS) : zaS := (t.1, t.2.1, t.2.2.1, t.2.2.2.1, t.2.2.2.2.2, t.2.2.2.2.1)
def tz (t : zaS) : xTS := (t.1, t.2.1, t.2.2.1, t.2.2.2.1, t.2.2.2.2.2, t.2.2.2.2.1)
def sp_rem (t : xTS) (dn : Nat) (c w v : Int32) : xTS := if dn = 40 then (t.1, upd (sp_drop t.2.1) 39 c, upd (sp_drop t.2.2.1) 39 w, upd (sp_drop t.2.2.2.1) 39 v, nI 40, nI 40) else (t.1, upd t.2.1 dn c, upd t.2.2.1 dn w, upd t.2.2.2.1 dn v, nI (dn + 1), nI (dn + 1))
def sp_bec (t : xTS) (dn c : Nat) (v : Int32) : xTS := if t.1 c = v then t else (upd t.1 c v, (sp_rem t dn (nI c) (t.1 c) v).2)
section TP
variable {N : Nat} {sc : Nat × (Nat → Int32)} {x : XS} {m : OS} {tl : MH} {dn kn : Nat}
theorem c_T_rem (hd : xT_done x = nI dn) (h40 : dn ≤ 40) (c w v : Int32) : MC M_T_remember 2 0 0 [.ref 6, .int c, .int w, .int v] (heapN N sc x m tl) none (heapN N sc (xT_s x (sp_rem (gT x) dn c w v)) m tl) := by
  refine mc_of k1_T_remember k2_T_remember (Nat.le_of_ble_eq_true rfl) ?_
  repeat (refine mw_step rfl ?_)
  by_cases hx : dn = 40
  · refine mw_brF rfl (by rw [hd]; exact n_nlt (b := 40) (by omega) (by omega)) ?_
    repeat (refine mw_step rfl ?_)
    refine mw_call (c_T_drop) rfl rfl (Nat.le_of_ble_eq_true rfl) (Nat.le_refl _) (Nat.le_refl _) ?_
    repeat (refine mw_step rfl ?_)
    refine mw_brF rfl (show ¬ nI 39 < 0 by decide) ?_
    repeat (refine mw_step rfl ?_)
    refine mw_brT rfl (show nI 39 < 40 by decide) ?_
    repeat (refine mw_step rfl ?_)
    refine mw_ist rfl (rfl) (by omega) (by decide) ?_
    repeat (refine mw_step rfl ?_)
    refine mw_ist rfl (rfl) (by omega) (by decide) ?_
    repeat (refine mw_step rfl ?_)
    refine mw_ist rfl (rfl) (by omega) (by decide) ?_
    repeat (refine mw_step rfl ?_)
    exact mw_r0 rfl (Nat.le_refl _) (Nat.le_refl _) rfl (by rw [sp_rem, if_pos hx]; rfl)
  · refine mw_brT rfl (by rw [hd]; exact n_lt (b := 40) (by omega) (by omega)) ?_
    repeat (refine mw_step rfl ?_)
    refine mw_brF rfl (by rw [hd]; exact nI_pos (by omega)) ?_
    repeat (refine mw_step rfl ?_)
    refine mw_brT rfl (by rw [hd]; exact n_lt (b := 40) (by omega) (by omega)) ?_
    repeat (refine mw_step rfl ?_)
    refine mw_ist rfl (hd) (by omega) (by decide) ?_
    repeat (refine mw_step rfl ?_)
    refine mw_ist rfl (hd) (by omega) (by decide) ?_
    repeat (refine mw_step rfl ?_)
    refine mw_ist rfl (hd) (by omega) (by decide) ?_
    repeat (refine mw_step rfl ?_)
    exact mw_r0 rfl (Nat.le_refl _) (Nat.le_refl _) rfl (by rw [sp_rem, if_neg hx, ← nI_1, ← hd]; rfl)
theorem c_T_change (hd : xT_done x = nI dn) (h40 : dn ≤ 40) (a b : Nat) (hb : a * 6 + b < 24) (v : Int32) : MC M_T_change 3 0 0 [.ref 6, .int (nI a), .int (nI b), .int v] (heapN N sc x m tl) (some (.int (xT_now x (a * 6 + b)))) (heapN N sc (xT_s x (sp_bec (gT x) dn (a * 6 + b) v)) m tl) := by
  refine mc_of k1_T_change k2_T_change (Nat.le_of_ble_eq_true rfl) ?_
  repeat (refine mw_step rfl ?_)
  refine mw_call (c_T_get a b hb) rfl rfl (Nat.le_of_ble_eq_true rfl) (Nat.le_refl _) (Nat.le_refl _) ?_
  repeat (refine mw_step rfl ?_)
  refine mw_br rfl (fun h1 => ?_) (fun h1 => ?_)
  · repeat (refine mw_step rfl ?_)
    exact mw_r1 rfl trivial (Nat.le_refl _) (Nat.le_refl _) (rfl ) ( by rw [sp_bec, if_pos h1])
  · repeat (refine mw_step rfl ?_)
    rw [show nI a * 6 + nI b = nI (a * 6 + b) from n_ma a b]
    refine mw_call (c_T_rem hd h40 _ _ _) rfl rfl (Nat.le_of_ble_eq_true rfl) (Nat.le_refl _) (Nat.le_refl _) ?_
    repeat (refine mw_step rfl ?_)
    rw [show nI a * 6 + nI b = nI (a * 6 + b) from n_ma a b]
    refine mw_call (c_T_set (x := xT_s x (sp_rem (gT x) dn (nI (a * 6 + b)) (xT_now x (a * 6 + b)) v)) (a * 6 + b) v hb) rfl rfl (Nat.le_of_ble_eq_true rfl) (Nat.le_refl _) (Nat.le_refl _) ?_
    repeat (refine mw_step rfl ?_)
    exact mw_r1 rfl trivial (Nat.le_refl _) (Nat.le_refl _) (rfl ) ( by rw [sp_bec, if_neg h1]; unfold sp_rem; split <;> rfl)
/-- one step back -/
def sp_undo (t : xTS) (dn c : Nat) : xTS := (upd t.1 c (t.2.2.1 (dn - 1)), t.2.1, t.2.2.1, t.2.2.2.1, nI (dn - 1), t.2.2.2.2.2)
def sp_redo (t : xTS) (dn c : Nat) : xTS := (upd t.1 c (t.2.2.2.1 dn), t.2.1, t.2.2.1, t.2.2.2.1, nI (dn + 1), t.2.2.2.2.2)
theorem c_T_back0 (hd : xT_done x = nI 0) : MC M_T_stepBack 1 0 0 [.ref 6] (heapN N sc x m tl) (some (.int (-5))) (heapN N sc x m tl) := by
  refine mc_of k1_T_stepBack k2_T_stepBack (Nat.le_of_ble_eq_true rfl) ?_
  repeat (refine mw_step rfl ?_)
  refine mw_brF rfl (by rw [hd]; decide) ?_
  repeat (refine mw_step rfl ?_)
  exact mw_r1 rfl trivial (Nat.le_refl _) (Nat.le_refl _) rfl rfl
theorem c_T_back (hd : xT_done x = nI (dn + 1)) (h40 : dn < 40) (c : Nat) (hc : c < 24) (hcc : xT_cells x dn = nI c) : MC M_T_stepBack 1 0 0 [.ref 6] (heapN N sc x m tl) (some (.int (nI dn))) (heapN N sc (xT_s x (sp_undo (gT x) (dn + 1) c)) m tl) := by
  have hp : xT_done x - 1 = nI dn := by rw [hd, nI_pred]
  refine mc_of k1_T_stepBack k2_T_stepBack (Nat.le_of_ble_eq_true rfl) ?_
  repeat (refine mw_step rfl ?_)
  refine mw_brT rfl (by rw [hd]; exact n_lt (a := 0) (by omega) (by omega)) ?_
  repeat (refine mw_step rfl ?_)
  refine mw_brF rfl (by rw [hd]; exact n_nlt (a := 40) (by omega) (by omega)) ?_
  repeat (refine mw_step rfl ?_)
  refine mw_ild rfl (hp) (by omega) (by decide) ?_
  repeat (refine mw_step rfl ?_)
  refine mw_ild rfl (hp) (by omega) (by decide) ?_
  rw [hcc]
  refine mw_call (c_T_set (x := xT_done_s x (xT_done x - 1)) c (xT_before x dn) hc) rfl rfl (Nat.le_of_ble_eq_true rfl) (Nat.le_refl _) (Nat.le_refl _) ?_
  repeat (refine mw_step rfl ?_)
  exact mw_r1 rfl trivial (Nat.le_refl _) (Nat.le_refl _) (by rw [← hp] ) ( by rw [sp_undo, show dn + 1 - 1 = dn by omega, ← hp])
theorem c_T_again0 (hd : xT_done x = nI dn) (hk : xT_kept x = nI dn) (h40 : dn ≤ 40) : MC M_T_stepAgain 1 0 0 [.ref 6] (heapN N sc x m tl) (some (.int (-5))) (heapN N sc x m tl) := by
  refine mc_of k1_T_stepAgain k2_T_stepAgain (Nat.le_of_ble_eq_true rfl) ?_
  repeat (refine mw_step rfl ?_)
  refine mw_brF rfl (by rw [hd]; exact nI_pos (by omega)) ?_
  repeat (refine mw_step rfl ?_)
  refine mw_brF rfl (by rw [hd, hk]; exact n_nlt (by omega) (by omega)) ?_
  repeat (refine mw_step rfl ?_)
  exact mw_r1 rfl trivial (Nat.le_refl _) (Nat.le_refl _) rfl rfl
theorem c_T_again (hd : xT_done x = nI dn) (hk : xT_kept x = nI kn) (h1 : dn < kn) (h40 : kn ≤ 40) (c : Nat) (hc : c < 24) (hcc : xT_cells x dn = nI c) : MC M_T_stepAgain 1 0 0 [.ref 6] (heapN N sc x m tl) (some (.int (nI (kn - (dn + 1))))) (heapN N sc (xT_s x (sp_redo (gT x) dn c)) m tl) := by
  refine mc_of k1_T_stepAgain k2_T_stepAgain (Nat.le_of_ble_eq_true rfl) ?_
  repeat (refine mw_step rfl ?_)
  refine mw_brF rfl (by rw [hd]; exact nI_pos (by omega)) ?_
  repeat (refine mw_step rfl ?_)
  refine mw_brT rfl (by rw [hd, hk]; exact n_lt (by omega) (by omega)) ?_
  repeat (refine mw_step rfl ?_)
  refine mw_brT rfl (by rw [hd]; exact n_lt (b := 40) (by omega) (by omega)) ?_
  repeat (refine mw_step rfl ?_)
  refine mw_ild rfl (hd) (by omega) (by decide) ?_
  repeat (refine mw_step rfl ?_)
  refine mw_ild rfl (hd) (by omega) (by decide) ?_
  rw [hcc]
  refine mw_call (c_T_set c (xT_after x dn) hc) rfl rfl (Nat.le_of_ble_eq_true rfl) (Nat.le_refl _) (Nat.le_refl _) ?_
  repeat (refine mw_step rfl ?_)
  exact mw_r1 rfl trivial (Nat.le_refl _) (Nat.le_refl _) (by rw [hk, hd, nI_1, pk_sub (by omega)] ) ( by rw [sp_redo, ← nI_1, ← hd]; rfl)
theorem c_C_undo {v : Option Value} {h' : MH} (hC : MC M_T_stepBack 1 0 0 [.ref 6] (heapN N sc x m tl) v h') {r : Int32} (hv : v = some (.int r)) : MC M_C_undo 2 0 0 [.ref 5] (heapN N sc x m tl) (some (.int r)) h' := by
  subst hv
  refine mc_of k1_C_undo k2_C_undo (Nat.le_of_ble_eq_true rfl) ?_
  repeat (refine mw_step rfl ?_)
  refine mw_call (hC) rfl rfl (Nat.le_of_ble_eq_true rfl) (Nat.le_refl _) (Nat.le_refl _) ?_
  exact mw_r1 rfl trivial (Nat.le_refl _) (Nat.le_refl _) rfl rfl
theorem c_C_redo {v : Option Value} {h' : MH} (hC : MC M_T_stepAgain 1 0 0 [.ref 6] (heapN N sc x m tl) v h') {r : Int32} (hv : v = some (.int r)) : MC M_C_redo 2 0 0 [.ref 5] (heapN N sc x m tl) (some (.int r)) h' := by
  subst hv
  refine mc_of k1_C_redo k2_C_redo (Nat.le_of_ble_eq_true rfl) ?_
  repeat (refine mw_step rfl ?_)
  refine mw_call (hC) rfl rfl (Nat.le_of_ble_eq_true rfl) (Nat.le_refl _) (Nat.le_refl _) ?_
  exact mw_r1 rfl trivial (Nat.le_refl _) (Nat.le_refl _) rfl rfl
def sp_mendOk (n what v : Int32) : Prop := (0 ≤ what ∧ what ≤ nI 3) ∧ (0 ≤ n ∧ n ≤ nI 5) ∧ (k_least what.toNatClampNeg ≤ v ∧ v ≤ k_most what.toNatClampNeg)
theorem c_C_mend_bad (n what v : Int32) (hok : ¬ sp_mendOk n what v) : MC M_C_mend 4 0 0 [.ref 5, .int n, .int what, .int v] (heapN N sc x m tl) (some (.int (-1))) (heapN N sc x m tl) := by
  refine mc_of k1_C_mend k2_C_mend (Nat.le_of_ble_eq_true rfl) ?_
  repeat (refine mw_step rfl ?_)
  refine mw_call (c_within _ _ _ _) rfl rfl (Nat.le_of_ble_eq_true rfl) (Nat.le_refl _) (Nat.le_refl _) ?_
  refine mw_br rfl (fun h1 => ?_) (fun h1 => ?_)
  · repeat (refine mw_step rfl ?_)
    exact mw_r1 rfl trivial (Nat.le_refl _) (Nat.le_refl _) rfl rfl
  · rw [bI_0, Classical.not_not] at h1
    repeat (refine mw_step rfl ?_)
    refine mw_call (c_within _ _ _ _) rfl rfl (Nat.le_of_ble_eq_true rfl) (Nat.le_refl _) (Nat.le_refl _) ?_
    refine mw_br rfl (fun h2 => ?_) (fun h2 => ?_)
    · repeat (refine mw_step rfl ?_)
      exact mw_r1 rfl trivial (Nat.le_refl _) (Nat.le_refl _) rfl rfl
    · rw [bI_0, Classical.not_not] at h2
      obtain ⟨a, ha, rfl⟩ := rng (n := 3) (by decide) h1
      repeat (refine mw_step rfl ?_)
      refine mw_ild rfl (rfl) (by omega) (by decide) ?_
      repeat (refine mw_step rfl ?_)
      refine mw_ild rfl (rfl) (by omega) (by decide) ?_
      refine mw_call (c_within _ _ _ _) rfl rfl (Nat.le_of_ble_eq_true rfl) (Nat.le_refl _) (Nat.le_refl _) ?_
      refine mw_br rfl (fun h3 => ?_) (fun h3 => ?_)
      · repeat (refine mw_step rfl ?_)
        exact mw_r1 rfl trivial (Nat.le_refl _) (Nat.le_refl _) rfl rfl
      · rw [bI_0, Classical.not_not] at h3
        refine absurd ⟨h1, h2, ?_⟩ hok
        rw [nI_clamp (by omega)]
        exact h3
theorem c_C_mend (hd : xT_done x = nI dn) (h40 : dn ≤ 40) (a b : Nat) (v : Int32) (ha : a ≤ 3) (hb : b ≤ 5) (hv : k_least a ≤ v ∧ v ≤ k_most a) : MC M_C_mend 4 0 0 [.ref 5, .int (nI b), .int (nI a), .int v] (heapN N sc x m tl) (some (.int (xT_now x (a * 6 + b)))) (heapN N sc (xT_s x (sp_bec (gT x) dn (a * 6 + b) v)) m tl) := by
  refine mc_of k1_C_mend k2_C_mend (Nat.le_of_ble_eq_true rfl) ?_
  repeat (refine mw_step rfl ?_)
  refine mw_call (c_within _ _ _ _) rfl rfl (Nat.le_of_ble_eq_true rfl) (Nat.le_refl _) (Nat.le_refl _) ?_
  refine mw_brF rfl (bI_ne (rng_in (n := 3) ha (by decide))) ?_
  repeat (refine mw_step rfl ?_)
  refine mw_call (c_within _ _ _ _) rfl rfl (Nat.le_of_ble_eq_true rfl) (Nat.le_refl _) (Nat.le_refl _) ?_
  refine mw_brF rfl (bI_ne (rng_in (n := 5) hb (by decide))) ?_
  repeat (refine mw_step rfl ?_)
  refine mw_ild rfl (rfl) (by omega) (by decide) ?_
  repeat (refine mw_step rfl ?_)
  refine mw_ild rfl (rfl) (by omega) (by decide) ?_
  refine mw_call (c_within _ _ _ _) rfl rfl (Nat.le_of_ble_eq_true rfl) (Nat.le_refl _) (Nat.le_refl _) ?_
  refine mw_brF rfl (bI_ne hv) ?_
  repeat (refine mw_step rfl ?_)
  refine mw_call (c_T_change hd h40 a b (by omega) v) rfl rfl (Nat.le_of_ble_eq_true rfl) (Nat.le_refl _) (Nat.le_refl _) ?_
  exact mw_r1 rfl trivial (Nat.le_refl _) (Nat.le_refl _) rfl rfl
/-- the reference's shifting of its rows -/
def sp_sh (f : Nat → Int32) (k : Nat) : Nat → Int32 := fun j => if j + 1 < k then f (j + 1) else f j
theorem sp_sh_up (f : Nat → Int32) (k : Nat) (hk : 1 ≤ k) : upd (sp_sh f k) (k - 1) (sp_sh f k k) = sp_sh f (k + 1) := by
  funext j
  unfold upd sp_sh
  by_cases h1 : j = k - 1
  · subst h1
    rw [if_pos rfl, if_neg (by omega), if_pos (by omega), show k - 1 + 1 = k by omega]
  · rw [if_neg h1]
    by_cases h2 : j + 1 < k
    · rw [if_pos h2, if_pos (by omega)]
    · rw [if_neg h2, if_neg (by omega)]
theorem sp_sh_1 (f : Nat → Int32) : sp_sh f 1 = f := by
  funext j
  unfold sp_sh
  rw [if_neg (by omega)]
theorem sp_sh_40 (f : Nat → Int32) : sp_sh f 40 = sp_drop f := by
  funext j
  unfold sp_sh sp_drop va_cpy
  by_cases h : j < 39
  · rw [if_pos (by omega), if_pos ⟨by omega, by omega⟩, show 1 + (j - 0) = j + 1 by omega]
  · rw [if_neg (by omega), if_neg (by omega)]
theorem l_O_shift {v : Option Value} {hT : MH} {l : ML} (m0 : OS) (hl : l = [(0, .ref 39), (1, .int 0), (2, .int 0), (3, .int 0)] ∨ True) (c w u : Int32) : ∀ r k, k + r = 40 → 1 ≤ k → MW M_O_becomes 0 0 0 v hT 0 0 87 [(0, .ref 39), (1, .int c), (2, .int u), (3, .int w)] [] (heapN N sc x (za_s m0 (za_may m0, sp_sh (za_chAt m0) 40, sp_sh (za_chWas m0) 40, sp_sh (za_chIs m0) 40, za_keptMany m0, za_done m0)) tl) → MW M_O_becomes 0 0 0 v hT 0 0 26 [(0, .ref 39), (1, .int c), (2, .int u), (3, .int w), (4, .int (nI k))] [] (heapN N sc x (za_s m0 (za_may m0, sp_sh (za_chAt m0) k, sp_sh (za_chWas m0) k, sp_sh (za_chIs m0) k, za_keptMany m0, za_done m0)) tl) := by
  intro r
  induction r with
  | zero =>
    intro k hk h1 K
    rw [show k = 40 by omega]
    repeat (refine mw_step rfl ?_)
    refine mw_brF rfl (by decide) ?_
    refine mw_pick [0, 1, 2, 3] ?_
    exact K
  | succ r ih =>
    intro k hk h1 K
    have ek : nI k - 1 = nI (k - 1) := by
      obtain ⟨j, rfl⟩ : ∃ j, k = j + 1 := ⟨k - 1, by omega⟩
      rw [nI_pred, show j + 1 - 1 = j by omega]
    repeat (refine mw_step rfl ?_)
    refine mw_brT rfl (n_lt (b := 40) (by omega) (by omega)) ?_
    repeat (refine mw_step rfl ?_)
    refine mw_ild rfl (rfl) (by omega) (by decide) ?_
    refine mw_ist rfl (ek) (by omega) (by decide) ?_
    repeat (refine mw_step rfl ?_)
    refine mw_ild rfl (rfl) (by omega) (by decide) ?_
    refine mw_ist rfl (ek) (by omega) (by decide) ?_
    repeat (refine mw_step rfl ?_)
    refine mw_ild rfl (rfl) (by omega) (by decide) ?_
    refine mw_ist rfl (ek) (by omega) (by decide) ?_
    repeat (refine mw_to 26 rfl rfl ?_)
    rw [nI_1]
    refine mw_pick [0, 1, 2, 3, 4] ?_
    have := ih (k + 1) (by omega) (by omega) K
    rw [← sp_sh_up _ k h1, ← sp_sh_up _ k h1, ← sp_sh_up _ k h1] at this
    exact this
theorem c_O_becomes (hd : za_done m = nI dn) (h40 : dn ≤ 40) (c : Nat) (hc : c < 24) (v : Int32) : MC M_O_becomes 0 0 0 [.ref 39, .int (nI c), .int v] (heapN N sc x m tl) (some (.int (za_may m c))) (heapN N sc x (za_s m (zt (sp_bec (tz (gA m)) dn c v))) tl) := by
  refine mc_of k1_O_becomes k2_O_becomes (Nat.le_of_ble_eq_true rfl) ?_
  repeat (refine mw_step rfl ?_)
  refine mw_ild rfl (rfl) (by omega) (by decide) ?_
  repeat (refine mw_step rfl ?_)
  refine mw_br rfl (fun h1 => ?_) (fun h1 => ?_)
  · repeat (refine mw_step rfl ?_)
    exact mw_r1 rfl trivial (Nat.le_refl _) (Nat.le_refl _) (rfl ) ( by rw [sp_bec, if_pos (show (tz (gA m)).1 c = v from h1)]; rfl)
  · repeat (refine mw_step rfl ?_)
    by_cases hx : dn = 40
    · refine mw_brT rfl (by rw [hd, hx]; rfl) ?_
      repeat (refine mw_to 26 rfl rfl ?_)
      refine mw_pick [0, 1, 2, 3, 4] ?_
      have L := l_O_shift (N := N) (sc := sc) (x := x) (tl := tl) (v := some (.int (za_may m c))) (hT := heapN N sc x (za_s m (zt (sp_bec (tz (gA m)) dn c v))) tl) (l := []) m (Or.inr trivial) (nI c) (za_may m c) v 39 1 (by omega) (by omega)
      rw [sp_sh_1, sp_sh_1, sp_sh_1, sp_sh_40, sp_sh_40, sp_sh_40] at L
      refine L ?_
      have hp : za_done m - 1 = nI 39 := by rw [hd, hx]; rfl
      repeat (refine mw_step rfl ?_)
      refine mw_ist rfl (hp) (by omega) (by decide) ?_
      repeat (refine mw_step rfl ?_)
      refine mw_ist rfl (hp) (by omega) (by decide) ?_
      repeat (refine mw_step rfl ?_)
      refine mw_ist rfl (hp) (by omega) (by decide) ?_
      repeat (refine mw_step rfl ?_)
      refine mw_ist rfl (rfl) (by omega) (by decide) ?_
      repeat (refine mw_step rfl ?_)
      exact mw_r1 rfl trivial (Nat.le_refl _) (Nat.le_refl _) (rfl ) ( by rw [sp_bec, if_neg (show ¬ (tz (gA m)).1 c = v from h1), sp_rem, if_pos hx, show nI 40 = za_done m - 1 + 1 by rw [hp]; rfl]; rfl)
    · refine mw_brF rfl (by rw [hd]; intro e; exact hx ((nI_eq (by omega) (b := 40) (by omega)).mp e)) ?_
      repeat (refine mw_step rfl ?_)
      refine mw_ist rfl (hd) (by omega) (by decide) ?_
      repeat (refine mw_step rfl ?_)
      refine mw_ist rfl (hd) (by omega) (by decide) ?_
      repeat (refine mw_step rfl ?_)
      refine mw_ist rfl (hd) (by omega) (by decide) ?_
      repeat (refine mw_step rfl ?_)
      refine mw_ist rfl (rfl) (by omega) (by decide) ?_
      repeat (refine mw_step rfl ?_)
      exact mw_r1 rfl trivial (Nat.le_refl _) (Nat.le_refl _) (rfl ) ( by rw [sp_bec, if_neg (show ¬ (tz (gA m)).1 c = v from h1), sp_rem, if_neg hx, ← nI_1, ← hd]; rfl)
theorem c_O_undo0 (hd : za_done m = nI 0) : MC M_O_undo 0 0 0 [.ref 39] (heapN N sc x m tl) (some (.int (-5))) (heapN N sc x m tl) := by
  refine mc_of k1_O_undo k2_O_undo (Nat.le_of_ble_eq_true rfl) ?_
  repeat (refine mw_step rfl ?_)
  refine mw_brT rfl (by rw [hd]; rfl) ?_
  repeat (refine mw_step rfl ?_)
  exact mw_r1 rfl trivial (Nat.le_refl _) (Nat.le_refl _) rfl rfl
theorem c_O_undo (hd : za_done m = nI (dn + 1)) (h40 : dn < 40) (c : Nat) (hc : c < 24) (hcc : za_chAt m dn = nI c) : MC M_O_undo 0 0 0 [.ref 39] (heapN N sc x m tl) (some (.int (nI dn))) (heapN N sc x (za_s m (zt (sp_undo (tz (gA m)) (dn + 1) c))) tl) := by
  have hp : za_done m - 1 = nI dn := by rw [hd, nI_pred]
  refine mc_of k1_O_undo k2_O_undo (Nat.le_of_ble_eq_true rfl) ?_
  repeat (refine mw_step rfl ?_)
  refine mw_brF rfl (by rw [hd]; exact nI_ne0 (by omega) (by omega)) ?_
  repeat (refine mw_step rfl ?_)
  refine mw_ild rfl (hp) (by omega) (by decide) ?_
  repeat (refine mw_step rfl ?_)
  refine mw_ild rfl (hp) (by omega) (by decide) ?_
  refine mw_ist rfl (hcc) (by omega) (by decide) ?_
  repeat (refine mw_step rfl ?_)
  exact mw_r1 rfl trivial (Nat.le_refl _) (Nat.le_refl _) (by rw [← hp] ) ( by rw [sp_undo, show dn + 1 - 1 = dn by omega, ← hp]; rfl)
theorem c_O_redo0 (hd : za_done m = nI dn) (hk : za_keptMany m = nI dn) : MC M_O_redo 0 0 0 [.ref 39] (heapN N sc x m tl) (some (.int (-5))) (heapN N sc x m tl) := by
  refine mc_of k1_O_redo k2_O_redo (Nat.le_of_ble_eq_true rfl) ?_
  repeat (refine mw_step rfl ?_)
  refine mw_brT rfl (by rw [hd, hk]) ?_
  repeat (refine mw_step rfl ?_)
  exact mw_r1 rfl trivial (Nat.le_refl _) (Nat.le_refl _) rfl rfl
theorem c_O_redo (hd : za_done m = nI dn) (hk : za_keptMany m = nI kn) (h1 : dn < kn) (h40 : kn ≤ 40) (c : Nat) (hc : c < 24) (hcc : za_chAt m dn = nI c) : MC M_O_redo 0 0 0 [.ref 39] (heapN N sc x m tl) (some (.int (nI (kn - (dn + 1))))) (heapN N sc x (za_s m (zt (sp_redo (tz (gA m)) dn c))) tl) := by
  refine mc_of k1_O_redo k2_O_redo (Nat.le_of_ble_eq_true rfl) ?_
  repeat (refine mw_step rfl ?_)
  refine mw_brF rfl (by rw [hd, hk]; intro e; have := (nI_eq (by omega) (by omega)).mp e; omega) ?_
  repeat (refine mw_step rfl ?_)
  refine mw_ild rfl (hd) (by omega) (by decide) ?_
  repeat (refine mw_step rfl ?_)
  refine mw_ild rfl (hd) (by omega) (by decide) ?_
  refine mw_ist rfl (hcc) (by omega) (by decide) ?_
  repeat (refine mw_step rfl ?_)
  exact mw_r1 rfl trivial (Nat.le_refl _) (Nat.le_refl _) (by rw [hk, hd, nI_1, pk_sub (by omega)] ) ( by rw [sp_redo, ← nI_1, ← hd]; rfl)
end TP
end
section
/-! mend (reference), papers, bodies and traces as they are called -/
theorem irem_of (a b : Nat) (ha : a < 2 ^ 31) (hb : b < 2 ^ 31) (h0 : 0 < b) : nI a - nI a / nI b * nI b = nI (a % b) := pk_rem ha h0 hb
section SI
variable {N : Nat} {sc : Nat × (Nat → Int32)} {x : XS} {m : OS} {tl : MH} {dn n : Nat}
theorem c_O_mend (hd : za_done m = nI dn) (h40 : dn ≤ 40) (a b : Nat) (v : Int32) (ha : a ≤ 3) (hb : b ≤ 5) (hv : k_least a ≤ v ∧ v ≤ k_most a) : MC M_O_mend 2 0 0 [.ref 39, .int (nI b), .int (nI a), .int v] (heapN N sc x m tl) (some (.int (za_may m (a * 6 + b)))) (heapN N sc x (za_s m (zt (sp_bec (tz (gA m)) dn (a * 6 + b) v))) tl) := by
  refine mc_of k1_O_mend k2_O_mend (Nat.le_of_ble_eq_true rfl) ?_
  repeat (refine mw_step rfl ?_)
  rcases (show a = 0 ∨ a = 1 ∨ a = 2 ∨ a = 3 by omega) with rfl | rfl | rfl | rfl
  · refine mw_sw (t := 32) rfl ?_
    repeat (refine mw_step rfl ?_)
    refine mw_call (c_O_isKind _ _) rfl rfl (Nat.le_of_ble_eq_true rfl) (Nat.le_refl _) (Nat.le_refl _) ?_
    refine mw_brF rfl (bI_ne (rng_in hb (by decide))) ?_
    repeat (refine mw_step rfl ?_)
    refine mw_call (c_withinO32 _ v 0 9) rfl rfl (Nat.le_of_ble_eq_true rfl) (Nat.le_refl _) (Nat.le_refl _) ?_
    refine mw_brF rfl (bI_ne hv) ?_
    repeat (refine mw_step rfl ?_)
    refine mw_call (c_O_becomes hd h40 b (by omega) v) rfl rfl (Nat.le_of_ble_eq_true rfl) (Nat.le_refl _) (Nat.le_refl _) ?_
    repeat (refine mw_step rfl ?_)
    exact mw_r1 rfl trivial (Nat.le_refl _) (Nat.le_refl _) (by rw [show 0 * 6 + b = b by omega] ) ( by rw [show 0 * 6 + b = b by omega])
  · refine mw_sw (t := 62) rfl ?_
    repeat (refine mw_step rfl ?_)
    refine mw_call (c_O_isKind _ _) rfl rfl (Nat.le_of_ble_eq_true rfl) (Nat.le_refl _) (Nat.le_refl _) ?_
    refine mw_brF rfl (bI_ne (rng_in hb (by decide))) ?_
    repeat (refine mw_step rfl ?_)
    refine mw_call (c_withinO32 _ v 0 99) rfl rfl (Nat.le_of_ble_eq_true rfl) (Nat.le_refl _) (Nat.le_refl _) ?_
    refine mw_brF rfl (bI_ne hv) ?_
    repeat (refine mw_step rfl ?_)
    rw [show (6 : Int32) + nI b = nI (1 * 6 + b) from nI_add 6 b]
    refine mw_call (c_O_becomes hd h40 (1 * 6 + b) (by omega) v) rfl rfl (Nat.le_of_ble_eq_true rfl) (Nat.le_refl _) (Nat.le_refl _) ?_
    repeat (refine mw_step rfl ?_)
    exact mw_r1 rfl trivial (Nat.le_refl _) (Nat.le_refl _) rfl rfl
  · refine mw_sw (t := 95) rfl ?_
    repeat (refine mw_step rfl ?_)
    refine mw_call (c_O_isMark _ _) rfl rfl (Nat.le_of_ble_eq_true rfl) (Nat.le_refl _) (Nat.le_refl _) ?_
    refine mw_brF rfl (bI_ne (rng_in hb (by decide))) ?_
    repeat (refine mw_step rfl ?_)
    refine mw_call (c_withinO32 _ v 1 9) rfl rfl (Nat.le_of_ble_eq_true rfl) (Nat.le_refl _) (Nat.le_refl _) ?_
    refine mw_brF rfl (bI_ne hv) ?_
    repeat (refine mw_step rfl ?_)
    rw [show (12 : Int32) + nI b = nI (2 * 6 + b) from nI_add 12 b]
    refine mw_call (c_O_becomes hd h40 (2 * 6 + b) (by omega) v) rfl rfl (Nat.le_of_ble_eq_true rfl) (Nat.le_refl _) (Nat.le_refl _) ?_
    repeat (refine mw_step rfl ?_)
    exact mw_r1 rfl trivial (Nat.le_refl _) (Nat.le_refl _) rfl rfl
  · refine mw_sw (t := 128) rfl ?_
    repeat (refine mw_step rfl ?_)
    refine mw_call (c_O_isMark _ _) rfl rfl (Nat.le_of_ble_eq_true rfl) (Nat.le_refl _) (Nat.le_refl _) ?_
    refine mw_brF rfl (bI_ne (rng_in hb (by decide))) ?_
    repeat (refine mw_step rfl ?_)
    refine mw_call (c_withinO32 _ v 0 99) rfl rfl (Nat.le_of_ble_eq_true rfl) (Nat.le_refl _) (Nat.le_refl _) ?_
    refine mw_brF rfl (bI_ne hv) ?_
    repeat (refine mw_step rfl ?_)
    rw [show (18 : Int32) + nI b = nI (3 * 6 + b) from nI_add 18 b]
    refine mw_call (c_O_becomes hd h40 (3 * 6 + b) (by omega) v) rfl rfl (Nat.le_of_ble_eq_true rfl) (Nat.le_refl _) (Nat.le_refl _) ?_
    repeat (refine mw_step rfl ?_)
    exact mw_r1 rfl trivial (Nat.le_refl _) (Nat.le_refl _) rfl rfl
theorem c_O_mend_bad (k what v : Int32) (hok : ¬ sp_mendOk k what v) : MC M_O_mend 2 0 0 [.ref 39, .int k, .int what, .int v] (heapN N sc x m tl) (some (.int (-1))) (heapN N sc x m tl) := by
  refine mc_of k1_O_mend k2_O_mend (Nat.le_of_ble_eq_true rfl) ?_
  repeat (refine mw_step rfl ?_)
  by_cases hw : 0 ≤ what ∧ what ≤ nI 3
  · obtain ⟨a, ha, rfl⟩ := rng (n := 3) (by decide) hw
    have hok : ¬ ((0 ≤ k ∧ k ≤ nI 5) ∧ (k_least a ≤ v ∧ v ≤ k_most a)) := fun z => hok ⟨hw, z.1, by rw [nI_clamp (by omega)]; exact z.2⟩
    rcases (show a = 0 ∨ a = 1 ∨ a = 2 ∨ a = 3 by omega) with rfl | rfl | rfl | rfl
    · refine mw_sw (t := 32) rfl ?_
      repeat (refine mw_step rfl ?_)
      refine mw_call (c_O_isKind _ _) rfl rfl (Nat.le_of_ble_eq_true rfl) (Nat.le_refl _) (Nat.le_refl _) ?_
      refine mw_br rfl (fun h1 => ?_) (fun h1 => ?_)
      · repeat (refine mw_step rfl ?_)
        exact mw_r1 rfl trivial (Nat.le_refl _) (Nat.le_refl _) rfl rfl
      · repeat (refine mw_step rfl ?_)
        refine mw_call (c_withinO32 _ v 0 9) rfl rfl (Nat.le_of_ble_eq_true rfl) (Nat.le_refl _) (Nat.le_refl _) ?_
        refine mw_br rfl (fun h2 => ?_) (fun h2 => ?_)
        · repeat (refine mw_step rfl ?_)
          exact mw_r1 rfl trivial (Nat.le_refl _) (Nat.le_refl _) rfl rfl
        · exact absurd ⟨bI_of h1, bI_of h2⟩ hok
    · refine mw_sw (t := 62) rfl ?_
      repeat (refine mw_step rfl ?_)
      refine mw_call (c_O_isKind _ _) rfl rfl (Nat.le_of_ble_eq_true rfl) (Nat.le_refl _) (Nat.le_refl _) ?_
      refine mw_br rfl (fun h1 => ?_) (fun h1 => ?_)
      · repeat (refine mw_step rfl ?_)
        exact mw_r1 rfl trivial (Nat.le_refl _) (Nat.le_refl _) rfl rfl
      · repeat (refine mw_step rfl ?_)
        refine mw_call (c_withinO32 _ v 0 99) rfl rfl (Nat.le_of_ble_eq_true rfl) (Nat.le_refl _) (Nat.le_refl _) ?_
        refine mw_br rfl (fun h2 => ?_) (fun h2 => ?_)
        · repeat (refine mw_step rfl ?_)
          exact mw_r1 rfl trivial (Nat.le_refl _) (Nat.le_refl _) rfl rfl
        · exact absurd ⟨bI_of h1, bI_of h2⟩ hok
    · refine mw_sw (t := 95) rfl ?_
      repeat (refine mw_step rfl ?_)
      refine mw_call (c_O_isMark _ _) rfl rfl (Nat.le_of_ble_eq_true rfl) (Nat.le_refl _) (Nat.le_refl _) ?_
      refine mw_br rfl (fun h1 => ?_) (fun h1 => ?_)
      · repeat (refine mw_step rfl ?_)
        exact mw_r1 rfl trivial (Nat.le_refl _) (Nat.le_refl _) rfl rfl
      · repeat (refine mw_step rfl ?_)
        refine mw_call (c_withinO32 _ v 1 9) rfl rfl (Nat.le_of_ble_eq_true rfl) (Nat.le_refl _) (Nat.le_refl _) ?_
        refine mw_br rfl (fun h2 => ?_) (fun h2 => ?_)
        · repeat (refine mw_step rfl ?_)
          exact mw_r1 rfl trivial (Nat.le_refl _) (Nat.le_refl _) rfl rfl
        · exact absurd ⟨bI_of h1, bI_of h2⟩ hok
    · refine mw_sw (t := 128) rfl ?_
      repeat (refine mw_step rfl ?_)
      refine mw_call (c_O_isMark _ _) rfl rfl (Nat.le_of_ble_eq_true rfl) (Nat.le_refl _) (Nat.le_refl _) ?_
      refine mw_br rfl (fun h1 => ?_) (fun h1 => ?_)
      · repeat (refine mw_step rfl ?_)
        exact mw_r1 rfl trivial (Nat.le_refl _) (Nat.le_refl _) rfl rfl
      · repeat (refine mw_step rfl ?_)
        refine mw_call (c_withinO32 _ v 0 99) rfl rfl (Nat.le_of_ble_eq_true rfl) (Nat.le_refl _) (Nat.le_refl _) ?_
        refine mw_br rfl (fun h2 => ?_) (fun h2 => ?_)
        · repeat (refine mw_step rfl ?_)
          exact mw_r1 rfl trivial (Nat.le_refl _) (Nat.le_refl _) rfl rfl
        · exact absurd ⟨bI_of h1, bI_of h2⟩ hok
  · refine mw_sw (t := 161) (m_sw_out rfl (m_out (n := 3) (by decide) hw) rfl) ?_
    repeat (refine mw_step rfl ?_)
    exact mw_r1 rfl trivial (Nat.le_refl _) (Nat.le_refl _) rfl rfl
/-- papers as the law calls them -/
def sp_ftOk (ft hs : Int32) : Prop := ¬ ft < 0 ∧ ft / 100 < nI 30 ∧ ft - ft / 100 * 100 < nI 30 ∧ ¬ (ft - ft / 100 * 100 < ft / 100) ∧ (0 ≤ hs ∧ hs ≤ nI 9)
theorem l_O_clash1 {v : Option Value} (hn : zq_papers m = nI n) (h10 : n ≤ 10) (k : Nat) (hk : k < n) : ∀ r j, j + r = k → (sp_cl1 (zq_from m) (zq_to m) (zq_house m) k r j = true → v = some (.int (nI k))) → (sp_cl1 (zq_from m) (zq_to m) (zq_house m) k r j = false → MW M_O_clash 0 0 0 v (heapN N sc x m tl) 0 0 70 [(0, .ref 39), (1, .int (nI k))] [] (heapN N sc x m tl)) → MW M_O_clash 0 0 0 v (heapN N sc x m tl) 0 0 12 [(0, .ref 39), (1, .int (nI k)), (2, .int (nI j))] [] (heapN N sc x m tl) := by
  intro r
  induction r with
  | zero =>
    intro j hj hv K
    repeat (refine mw_step rfl ?_)
    refine mw_brF rfl (n_nlt (by omega) (by omega)) ?_
    refine mw_pick [0, 1] ?_
    exact K rfl
  | succ r ih =>
    intro j hj hv K
    repeat (refine mw_step rfl ?_)
    refine mw_brT rfl (n_lt (by omega) (by omega)) ?_
    repeat (refine mw_step rfl ?_)
    refine mw_ild rfl (rfl) (by omega) (by decide) ?_
    repeat (refine mw_step rfl ?_)
    refine mw_ild rfl (rfl) (by omega) (by decide) ?_
    refine mw_br rfl (fun h1 => ?_) (fun h1 => ?_)
    · repeat (refine mw_to 12 rfl rfl ?_)
      rw [nI_1]
      refine mw_pick [0, 1, 2] ?_
      have e : sp_cl1 (zq_from m) (zq_to m) (zq_house m) k (r + 1) j = sp_cl1 (zq_from m) (zq_to m) (zq_house m) k r (j + 1) := by rw [sp_cl1, if_neg (fun z => z.2.2 h1.symm)]
      rw [e] at hv K
      exact ih (j + 1) (by omega) hv K
    · repeat (refine mw_step rfl ?_)
      refine mw_ild rfl (rfl) (by omega) (by decide) ?_
      repeat (refine mw_step rfl ?_)
      refine mw_ild rfl (rfl) (by omega) (by decide) ?_
      refine mw_br rfl (fun h2 => ?_) (fun h2 => ?_)
      · repeat (refine mw_to 12 rfl rfl ?_)
        rw [nI_1]
        refine mw_pick [0, 1, 2] ?_
        have e : sp_cl1 (zq_from m) (zq_to m) (zq_house m) k (r + 1) j = sp_cl1 (zq_from m) (zq_to m) (zq_house m) k r (j + 1) := by rw [sp_cl1, if_neg (fun z => m_nlt z.2.1 h2)]
        rw [e] at hv K
        exact ih (j + 1) (by omega) hv K
      · repeat (refine mw_step rfl ?_)
        refine mw_ild rfl (rfl) (by omega) (by decide) ?_
        repeat (refine mw_step rfl ?_)
        refine mw_ild rfl (rfl) (by omega) (by decide) ?_
        refine mw_br rfl (fun h3 => ?_) (fun h3 => ?_)
        · repeat (refine mw_to 12 rfl rfl ?_)
          rw [nI_1]
          refine mw_pick [0, 1, 2] ?_
          have e : sp_cl1 (zq_from m) (zq_to m) (zq_house m) k (r + 1) j = sp_cl1 (zq_from m) (zq_to m) (zq_house m) k r (j + 1) := by rw [sp_cl1, if_neg (fun z => m_nlt z.1 h3)]
          rw [e] at hv K
          exact ih (j + 1) (by omega) hv K
        · repeat (refine mw_step rfl ?_)
          exact mw_r1 rfl trivial (Nat.le_refl _) (Nat.le_refl _) (hv (by rw [sp_cl1, if_pos ⟨Int32.not_lt.mp h3, Int32.not_lt.mp h2, fun e => h1 e.symm⟩])) rfl
theorem l_O_clash (hn : zq_papers m = nI n) (h10 : n ≤ 10) : ∀ r k, k + r = n → MW M_O_clash 0 0 0 (some (.int (sp_clash (zq_from m) (zq_to m) (zq_house m) r k))) (heapN N sc x m tl) 0 0 2 [(0, .ref 39), (1, .int (nI k))] [] (heapN N sc x m tl) := by
  intro r
  induction r with
  | zero =>
    intro k hk
    repeat (refine mw_step rfl ?_)
    refine mw_brF rfl (by rw [hn]; exact n_nlt (by omega) (by omega)) ?_
    repeat (refine mw_step rfl ?_)
    exact mw_r1 rfl trivial (Nat.le_refl _) (Nat.le_refl _) rfl rfl
  | succ r ih =>
    intro k hk
    repeat (refine mw_step rfl ?_)
    refine mw_brT rfl (by rw [hn]; exact n_lt (by omega) (by omega)) ?_
    repeat (refine mw_to 12 rfl rfl ?_)
    refine mw_pick [0, 1, 2] ?_
    refine l_O_clash1 hn h10 k (by omega) k 0 (by omega) (fun e => by rw [sp_clash, if_pos e]) (fun e => ?_)
    repeat (refine mw_to 2 rfl rfl ?_)
    rw [nI_1]
    refine mw_pick [0, 1] ?_
    rw [sp_clash, if_neg (by rw [e]; decide)]
    exact ih (k + 1) (by omega)
theorem c_O_clash (hn : zq_papers m = nI n) (h10 : n ≤ 10) : MC M_O_clash 0 0 0 [.ref 39] (heapN N sc x m tl) (some (.int (sp_clash (zq_from m) (zq_to m) (zq_house m) n 0))) (heapN N sc x m tl) := by
  refine mc_of k1_O_clash k2_O_clash (Nat.le_of_ble_eq_true rfl) ?_
  repeat (refine mw_to 2 rfl rfl ?_)
  refine mw_pick [0, 1] ?_
  exact l_O_clash hn h10 n 0 (by omega)
/-- the reference's count of gaps -/
def sp_least (f : Nat → Int32) : Nat → Nat → Int32 → Int32
  | 0, _, a => a
  | r + 1, k, a => sp_least f r (k + 1) (if f k < a then f k else a)
def sp_most (t : Nat → Int32) : Nat → Nat → Int32 → Int32
  | 0, _, b => b
  | r + 1, k, b => sp_most t r (k + 1) (if b < t k then t k else b)
def sp_gapsO (hs : Int32 → Int32) : Nat → Int32 → Int32 → Int32
  | 0, _, c => c
  | r + 1, y, c => sp_gapsO hs r (y + 1) (c + (if hs y < 0 then 1 else 0))
theorem l_O_gaps1 {v : Option Value} (hn : zq_papers m = nI n) (h10 : n ≤ 10) : ∀ r k (a b : Int32), k + r = n → MW M_O_gaps 2 0 0 v (heapN N sc x m tl) 0 0 63 [(0, .ref 39), (1, .int (sp_least (zq_from m) r k a)), (2, .int (sp_most (zq_to m) r k b))] [] (heapN N sc x m tl) → MW M_O_gaps 2 0 0 v (heapN N sc x m tl) 0 0 7 [(0, .ref 39), (1, .int a), (2, .int b), (3, .int (nI k))] [] (heapN N sc x m tl) := by
  intro r
  induction r with
  | zero =>
    intro k a b hk K
    repeat (refine mw_step rfl ?_)
    refine mw_brF rfl (by rw [hn]; exact n_nlt (by omega) (by omega)) ?_
    refine mw_pick [0, 1, 2] ?_
    exact K
  | succ r ih =>
    intro k a b hk K
    repeat (refine mw_step rfl ?_)
    refine mw_brT rfl (by rw [hn]; exact n_lt (by omega) (by omega)) ?_
    repeat (refine mw_step rfl ?_)
    refine mw_ild rfl (rfl) (by omega) (by decide) ?_
    repeat (refine mw_step rfl ?_)
    rw [sp_least, sp_most] at K
    refine mw_br rfl (fun h1 => ?_) (fun h1 => ?_)
    · rw [if_pos h1] at K
      repeat (refine mw_step rfl ?_)
      refine mw_ild rfl (rfl) (by omega) (by decide) ?_
      repeat (refine mw_step rfl ?_)
      refine mw_ild rfl (rfl) (by omega) (by decide) ?_
      repeat (refine mw_step rfl ?_)
      refine mw_br rfl (fun h2 => ?_) (fun h2 => ?_)
      · rw [if_pos h2] at K
        repeat (refine mw_step rfl ?_)
        refine mw_ild rfl (rfl) (by omega) (by decide) ?_
        repeat (refine mw_to 7 rfl rfl ?_)
        rw [nI_1]
        refine mw_pick [0, 1, 2, 3] ?_
        exact ih (k + 1) _ _ (by omega) K
      · rw [if_neg h2] at K
        repeat (refine mw_to 7 rfl rfl ?_)
        rw [nI_1]
        refine mw_pick [0, 1, 2, 3] ?_
        exact ih (k + 1) _ _ (by omega) K
    · rw [if_neg h1] at K
      repeat (refine mw_step rfl ?_)
      refine mw_ild rfl (rfl) (by omega) (by decide) ?_
      repeat (refine mw_step rfl ?_)
      refine mw_br rfl (fun h2 => ?_) (fun h2 => ?_)
      · rw [if_pos h2] at K
        repeat (refine mw_step rfl ?_)
        refine mw_ild rfl (rfl) (by omega) (by decide) ?_
        repeat (refine mw_to 7 rfl rfl ?_)
        rw [nI_1]
        refine mw_pick [0, 1, 2, 3] ?_
        exact ih (k + 1) _ _ (by omega) K
      · rw [if_neg h2] at K
        repeat (refine mw_to 7 rfl rfl ?_)
        rw [nI_1]
        refine mw_pick [0, 1, 2, 3] ?_
        exact ih (k + 1) _ _ (by omega) K
/-- how many turns: from y up to b -/
theorem l_O_gaps2 (hn : zq_papers m = nI n) (h10 : n ≤ 10) (a b : Int32) (hb : b.toInt < 30) : ∀ (r : Nat) (y c : Int32), (0 ≤ y.toInt) → (y.toInt + (r : Int) = b.toInt + 1 ∨ (r = 0 ∧ b.toInt < y.toInt)) → y.toInt ≤ 30 → MW M_O_gaps 2 0 0 (some (.int (sp_gapsO (fun y => sp_house (zq_from m) (zq_to m) (zq_house m) y n 0) r y c))) (heapN N sc x m tl) 0 0 68 [(0, .ref 39), (1, .int a), (2, .int b), (3, .int c), (4, .int y)] [] (heapN N sc x m tl) := by
  intro r
  induction r with
  | zero =>
    intro y c h0 hr hy
    repeat (refine mw_step rfl ?_)
    refine mw_brT rfl (by rw [Int32.lt_iff_toInt_lt]; omega) ?_
    repeat (refine mw_step rfl ?_)
    exact mw_r1 rfl trivial (Nat.le_refl _) (Nat.le_refl _) rfl rfl
  | succ r ih =>
    intro y c h0 hr hy
    have e1 : (y + 1).toInt = y.toInt + 1 := by
      obtain ⟨j, hj⟩ : ∃ j : Nat, y = nI j ∧ j < 2 ^ 31 := by
        obtain ⟨j, h1, h2⟩ := nI_of (x := y) (by rw [Int32.lt_iff_toInt_lt, Int32.toInt_zero]; omega)
        exact ⟨j, h2, h1⟩
      obtain ⟨rfl, h1⟩ := hj
      rw [nI_toInt h1] at hy
      rw [nI_1, nI_toInt (by omega), nI_toInt h1]
      omega
    repeat (refine mw_step rfl ?_)
    refine mw_brF rfl (by rw [Int32.lt_iff_toInt_lt]; omega) ?_
    repeat (refine mw_step rfl ?_)
    refine mw_call (c_O_houseOf y hn h10) rfl rfl (Nat.le_of_ble_eq_true rfl) (Nat.le_refl _) (Nat.le_refl _) ?_
    refine mw_br rfl (fun h1 => ?_) (fun h1 => ?_)
    · repeat (refine mw_to 68 rfl rfl ?_)
      refine mw_pick [0, 1, 2, 3, 4] ?_
      rw [sp_gapsO, if_pos h1]
      exact ih (y + 1) (c + 1) (by omega) (by omega) (by omega)
    · repeat (refine mw_to 68 rfl rfl ?_)
      refine mw_pick [0, 1, 2, 3, 4] ?_
      rw [sp_gapsO, if_neg h1]
      exact ih (y + 1) (c + 0) (by omega) (by omega) (by omega)
theorem c_P_add10 (a b c : Int32) (hn : xP_many x = nI 10) : MC M_P_add 0 0 0 [.ref 23, .int a, .int b, .int c] (heapN N sc x m tl) (some (.int (-3))) (heapN N sc x m tl) := by
  refine mc_of k1_P_add k2_P_add (Nat.le_of_ble_eq_true rfl) ?_
  repeat (refine mw_step rfl ?_)
  refine mw_brF rfl (by rw [hn]; decide) ?_
  repeat (refine mw_step rfl ?_)
  refine mw_brF rfl (by rw [hn]; decide) ?_
  repeat (refine mw_step rfl ?_)
  exact mw_r1 rfl trivial (Nat.le_refl _) (Nat.le_refl _) rfl rfl
theorem c_B_isBodyKind (h : MH) (y : Int32) : MC M_B_isBodyKind 1 0 0 [.int y] h (some (.int (bI (0 ≤ y ∧ y ≤ nI 7)))) h := by
  refine mc_of k1_B_isBodyKind k2_B_isBodyKind (Nat.le_of_ble_eq_true rfl) ?_
  repeat (refine mw_step rfl ?_)
  refine mw_call (c_within _ _ _ _) rfl rfl (Nat.le_of_ble_eq_true rfl) (Nat.le_refl _) (Nat.le_refl _) ?_
  exact mw_r1 rfl bI_nar (Nat.le_refl _) (Nat.le_refl _) rfl rfl
theorem c_B_add (k : Int32) (hn : xB_many x = nI n) (h50 : n < 50) : MC M_B_add 0 0 0 [.ref 27, .int k] (heapN N sc x m tl) (some (.int (nI n))) (heapN N sc (xB_s x (upd (xB_kinds x) n k, nI (n + 1), xB_ran x, xB_runs x)) m tl) := by
  refine mc_of k1_B_add k2_B_add (Nat.le_of_ble_eq_true rfl) ?_
  repeat (refine mw_step rfl ?_)
  refine mw_brF rfl (by rw [hn]; exact nI_pos (by omega)) ?_
  repeat (refine mw_step rfl ?_)
  refine mw_brT rfl (by rw [hn]; exact n_lt (b := 50) (by omega) (by omega)) ?_
  repeat (refine mw_step rfl ?_)
  refine mw_ist rfl (hn) (by omega) (by decide) ?_
  repeat (refine mw_step rfl ?_)
  exact mw_r1 rfl trivial (Nat.le_refl _) (Nat.le_refl _) (by rw [show (xB_many x + 1 - 1) = nI n by rw [hn, nI_1]; exact nI_pred n] ) ( by rw [← nI_1, ← hn]; rfl)
theorem c_B_add50 (k : Int32) (hn : xB_many x = nI 50) : MC M_B_add 0 0 0 [.ref 27, .int k] (heapN N sc x m tl) (some (.int (-3))) (heapN N sc x m tl) := by
  refine mc_of k1_B_add k2_B_add (Nat.le_of_ble_eq_true rfl) ?_
  repeat (refine mw_step rfl ?_)
  refine mw_brF rfl (by rw [hn]; decide) ?_
  repeat (refine mw_step rfl ?_)
  refine mw_brF rfl (by rw [hn]; decide) ?_
  repeat (refine mw_step rfl ?_)
  exact mw_r1 rfl trivial (Nat.le_refl _) (Nat.le_refl _) rfl rfl
theorem c_B_kindOf (k : Nat) (hn : xB_many x = nI n) (h50 : n ≤ 50) (hk : k < n) : MC M_B_kindOf 1 0 0 [.ref 27, .int (nI k)] (heapN N sc x m tl) (some (.int (xB_kinds x k))) (heapN N sc x m tl) := by
  refine mc_of k1_B_kindOf k2_B_kindOf (Nat.le_of_ble_eq_true rfl) ?_
  repeat (refine mw_step rfl ?_)
  refine mw_call (c_within _ _ _ _) rfl rfl (Nat.le_of_ble_eq_true rfl) (Nat.le_refl _) (Nat.le_refl _) ?_
  refine mw_brF rfl (bI_ne (by rw [hn]; obtain ⟨j, rfl⟩ : ∃ j, n = j + 1 := ⟨n - 1, by omega⟩; rw [nI_pred]; exact rng_in (by omega) (by omega))) ?_
  repeat (refine mw_step rfl ?_)
  refine mw_brT rfl (n_lt (b := 50) (by omega) (by omega)) ?_
  repeat (refine mw_step rfl ?_)
  refine mw_ild rfl (rfl) (by omega) (by decide) ?_
  repeat (refine mw_step rfl ?_)
  exact mw_r1 rfl trivial (Nat.le_refl _) (Nat.le_refl _) rfl rfl
theorem n_pred_le {k : Int32} (hn : n ≤ 50) (h : 0 ≤ k ∧ k ≤ nI n - 1) : ∃ j, j < n ∧ k = nI j := by
  cases n with
  | zero =>
    rw [Int32.le_iff_toInt_le, Int32.le_iff_toInt_le] at h
    exact absurd h (by rw [show (nI 0 - 1).toInt = -1 from rfl, Int32.toInt_zero]; omega)
  | succ n =>
    rw [nI_pred] at h
    obtain ⟨j, hj, e⟩ := rng (by omega) h
    exact ⟨j, by omega, e⟩
theorem c_B_kindOf_bad (k : Int32) (hn : xB_many x = nI n) (h50 : n ≤ 50) (hk : ¬ ∃ j, j < n ∧ k = nI j) : MC M_B_kindOf 1 0 0 [.ref 27, .int k] (heapN N sc x m tl) (some (.int (-2))) (heapN N sc x m tl) := by
  refine mc_of k1_B_kindOf k2_B_kindOf (Nat.le_of_ble_eq_true rfl) ?_
  repeat (refine mw_step rfl ?_)
  refine mw_call (c_within _ _ _ _) rfl rfl (Nat.le_of_ble_eq_true rfl) (Nat.le_refl _) (Nat.le_refl _) ?_
  refine mw_brT rfl (bI_f (by rw [hn]; exact fun z => hk (n_pred_le h50 z))) ?_
  repeat (refine mw_step rfl ?_)
  exact mw_r1 rfl trivial (Nat.le_refl _) (Nat.le_refl _) rfl rfl
end SI
end
section
/-! shelves, on both sides -/
theorem n_m60 (a b : Nat) : nI a * nI 60 + nI b = nI (a * 60 + b) := by rw [pk_mul, nI_add]
theorem n_60m (a b : Nat) : nI 60 * nI a + nI b = nI (60 * a + b) := by rw [pk_mul, nI_add]
/-- a stretch of a row filled -/
def sp_fill (f : Nat → Int64) (a b : Nat) (v : Int64) : Nat → Int64 := fun j => if a ≤ j ∧ j < b then v else f j
theorem sp_fill_0 (f : Nat → Int64) (a : Nat) (v : Int64) : sp_fill f a a v = f := by
  funext j
  unfold sp_fill
  rw [if_neg (by omega)]
theorem sp_fill_up (f : Nat → Int64) (a b : Nat) (v : Int64) (h : a ≤ b) : vp_updL (sp_fill f a b v) b v = sp_fill f a (b + 1) v := by
  funext j
  unfold vp_updL sp_fill
  by_cases h1 : j = b
  · subst h1
    rw [if_pos rfl, if_pos (by omega)]
  · rw [if_neg h1]
    by_cases h2 : a ≤ j ∧ j < b
    · rw [if_pos h2, if_pos (by omega)]
    · rw [if_neg h2, if_neg (by omega)]
def sp_refX (s len i : Int32) : Int32 := if s = -2 then -11 else if s = -1 then -12 else if 0 ≤ i ∧ i ≤ len - 1 then 0 else -13
def sp_refO (s len i : Int32) : Int32 := if s < 0 then -11 else if s < 50 then -12 else if i < 0 then -13 else if i < len then 0 else -13
def sp_low (s : Int32) (v : Int64) : Int64 := if s = 0 then v.toInt32.toInt8.toInt32.toInt64 else if s = 1 then v.toInt32.toInt16.toInt32.toInt64 else if s = 2 then v.toInt32.toInt64 else if s = 4 then (if v = 0 then 0 else 1) else v
section SH
variable {N : Nat} {sc : Nat × (Nat → Int32)} {x : XS} {m : OS} {tl : MH} {n : Nat}
theorem c_H_sortOn (a : Nat) (ha : a ≤ 5) : MC M_H_sortOn 2 0 0 [.ref 30, .int (nI a)] (heapN N sc x m tl) (some (.int (xH_sorts x a))) (heapN N sc x m tl) := by
  refine mc_of k1_H_sortOn k2_H_sortOn (Nat.le_of_ble_eq_true rfl) ?_
  repeat (refine mw_step rfl ?_)
  refine mw_call (c_isShelf _ _) rfl rfl (Nat.le_of_ble_eq_true rfl) (Nat.le_refl _) (Nat.le_refl _) ?_
  refine mw_brF rfl (bI_ne (rng_in ha (by decide))) ?_
  repeat (refine mw_step rfl ?_)
  refine mw_ild rfl (rfl) (by omega) (by decide) ?_
  repeat (refine mw_step rfl ?_)
  exact mw_r1 rfl trivial (Nat.le_refl _) (Nat.le_refl _) rfl rfl
theorem c_H_bodyOn (a : Nat) (ha : a ≤ 5) : MC M_H_bodyOn 2 0 0 [.ref 30, .int (nI a)] (heapN N sc x m tl) (some (.int (xH_held x a))) (heapN N sc x m tl) := by
  refine mc_of k1_H_bodyOn k2_H_bodyOn (Nat.le_of_ble_eq_true rfl) ?_
  repeat (refine mw_step rfl ?_)
  refine mw_call (c_isShelf _ _) rfl rfl (Nat.le_of_ble_eq_true rfl) (Nat.le_refl _) (Nat.le_refl _) ?_
  refine mw_brF rfl (bI_ne (rng_in ha (by decide))) ?_
  repeat (refine mw_step rfl ?_)
  refine mw_ild rfl (rfl) (by omega) (by decide) ?_
  repeat (refine mw_step rfl ?_)
  exact mw_r1 rfl trivial (Nat.le_refl _) (Nat.le_refl _) rfl rfl
theorem c_H_lengthOn (a : Nat) (ha : a ≤ 5) : MC M_H_lengthOn 2 0 0 [.ref 30, .int (nI a)] (heapN N sc x m tl) (some (.int (xH_lens x a))) (heapN N sc x m tl) := by
  refine mc_of k1_H_lengthOn k2_H_lengthOn (Nat.le_of_ble_eq_true rfl) ?_
  repeat (refine mw_step rfl ?_)
  refine mw_call (c_isShelf _ _) rfl rfl (Nat.le_of_ble_eq_true rfl) (Nat.le_refl _) (Nat.le_refl _) ?_
  refine mw_brF rfl (bI_ne (rng_in ha (by decide))) ?_
  repeat (refine mw_step rfl ?_)
  refine mw_ild rfl (rfl) (by omega) (by decide) ?_
  repeat (refine mw_step rfl ?_)
  exact mw_r1 rfl trivial (Nat.le_refl _) (Nat.le_refl _) rfl rfl
theorem c_H_hold (a : Nat) (ha : a ≤ 5) (b : Int32) : MC M_H_hold 2 0 0 [.ref 30, .int (nI a), .int b] (heapN N sc x m tl) none (heapN N sc (xH_s x (upd (xH_sorts x) a (if b < 0 then -2 else -1), upd (xH_held x) a b, upd (xH_lens x) a 0, xH_cells x)) m tl) := by
  refine mc_of k1_H_hold k2_H_hold (Nat.le_of_ble_eq_true rfl) ?_
  repeat (refine mw_step rfl ?_)
  refine mw_call (c_isShelf _ _) rfl rfl (Nat.le_of_ble_eq_true rfl) (Nat.le_refl _) (Nat.le_refl _) ?_
  refine mw_brF rfl (bI_ne (rng_in ha (by decide))) ?_
  repeat (refine mw_step rfl ?_)
  refine mw_br rfl (fun h1 => ?_) (fun h1 => ?_)
  · repeat (refine mw_step rfl ?_)
    refine mw_ist rfl (rfl) (by omega) (by decide) ?_
    repeat (refine mw_step rfl ?_)
    refine mw_ist rfl (rfl) (by omega) (by decide) ?_
    repeat (refine mw_step rfl ?_)
    refine mw_ist rfl (rfl) (by omega) (by decide) ?_
    exact mw_r0 rfl (Nat.le_refl _) (Nat.le_refl _) rfl (by rw [if_pos h1]; rfl)
  · repeat (refine mw_step rfl ?_)
    refine mw_ist rfl (rfl) (by omega) (by decide) ?_
    repeat (refine mw_step rfl ?_)
    refine mw_ist rfl (rfl) (by omega) (by decide) ?_
    repeat (refine mw_step rfl ?_)
    refine mw_ist rfl (rfl) (by omega) (by decide) ?_
    exact mw_r0 rfl (Nat.le_refl _) (Nat.le_refl _) rfl (by rw [if_neg h1]; rfl)
theorem c_J_range (h : MH) (l a b : Int32) (h1 : ¬ b < a) (h2 : ¬ a < 0) (h3 : ¬ l < b) : MC M_J_range 0 0 0 [.int l, .int a, .int b] h none h := by
  refine mc_of k1_J_range k2_J_range (Nat.le_of_ble_eq_true rfl) ?_
  repeat (refine mw_step rfl ?_)
  refine mw_brF rfl (h1) ?_
  repeat (refine mw_step rfl ?_)
  refine mw_brF rfl (h2) ?_
  repeat (refine mw_step rfl ?_)
  refine mw_brF rfl (h3) ?_
  exact mw_r0 rfl (Nat.le_refl _) (Nat.le_refl _) rfl rfl
theorem l_J_fillR (v : Int64) (f0 : Nat → Int64) (a b : Nat) (hb : b ≤ 360) {hT : MH} (hT' : hT = heapN N sc (xH_cells_s x (sp_fill f0 a b v)) m tl) : ∀ r i, i + r = b → a ≤ i → MW M_J_fillR 1 0 0 none hT 0 0 10 [(0, .ref 34), (2, .int (nI b)), (3, .long v), (5, .int (nI i))] [] (heapN N sc (xH_cells_s x (sp_fill f0 a i v)) m tl) := by
  intro r
  induction r with
  | zero =>
    intro i hi ha
    rw [show i = b by omega]
    repeat (refine mw_step rfl ?_)
    refine mw_brF rfl (n_nlt (by omega) (by omega)) ?_
    exact mw_r0 rfl (Nat.le_refl _) (Nat.le_refl _) rfl hT'
  | succ r ih =>
    intro i hi ha
    repeat (refine mw_step rfl ?_)
    refine mw_brT rfl (n_lt (by omega) (by omega)) ?_
    repeat (refine mw_step rfl ?_)
    refine mw_lst rfl (rfl) (by omega) (by decide) ?_
    repeat (refine mw_to 10 rfl rfl ?_)
    rw [nI_1]
    refine mw_pick [0, 2, 3, 5] ?_
    have := ih (i + 1) (by omega) (by omega)
    rw [← sp_fill_up _ _ _ _ ha] at this
    exact this
theorem c_J_fillR (a b : Nat) (v : Int64) (hab : a ≤ b) (hb : b ≤ 360) : MC M_J_fillR 1 0 0 [.ref 34, .int (nI a), .int (nI b), .long v] (heapN N sc x m tl) none (heapN N sc (xH_cells_s x (sp_fill (xH_cells x) a b v)) m tl) := by
  refine mc_of k1_J_fillR k2_J_fillR (Nat.le_of_ble_eq_true rfl) ?_
  repeat (refine mw_step rfl ?_)
  refine mw_call (c_J_range _ _ _ _ (n_nlt hab (by omega)) (nI_pos (by omega)) (n_nlt (a := 360) hb (by omega))) rfl rfl (Nat.le_of_ble_eq_true rfl) (Nat.le_refl _) (Nat.le_refl _) ?_
  repeat (refine mw_to 10 rfl rfl ?_)
  refine mw_pick [0, 2, 3, 5] ?_
  have := l_J_fillR (N := N) (sc := sc) (x := x) (m := m) (tl := tl) v (xH_cells x) a b hb rfl (b - a) a (by omega) (Nat.le_refl _)
  rw [sp_fill_0] at this
  exact this
theorem c_H_holdRow (a k : Nat) (s : Int32) (ha : a ≤ 5) (hk : k ≤ 60) : MC M_H_holdRow 2 0 0 [.ref 30, .int (nI a), .int s, .int (nI k)] (heapN N sc x m tl) none (heapN N sc (xH_s x (upd (xH_sorts x) a s, xH_held x, upd (xH_lens x) a (nI k), sp_fill (xH_cells x) (a * 60) ((a + 1) * 60) 0)) m tl) := by
  refine mc_of k1_H_holdRow k2_H_holdRow (Nat.le_of_ble_eq_true rfl) ?_
  repeat (refine mw_step rfl ?_)
  refine mw_call (c_isShelf _ _) rfl rfl (Nat.le_of_ble_eq_true rfl) (Nat.le_refl _) (Nat.le_refl _) ?_
  refine mw_brF rfl (bI_ne (rng_in ha (by decide))) ?_
  repeat (refine mw_step rfl ?_)
  refine mw_call (c_within _ _ _ _) rfl rfl (Nat.le_of_ble_eq_true rfl) (Nat.le_refl _) (Nat.le_refl _) ?_
  refine mw_brF rfl (bI_ne (rng_in (n := 60) hk (by decide))) ?_
  repeat (refine mw_step rfl ?_)
  refine mw_ist rfl (rfl) (by omega) (by decide) ?_
  repeat (refine mw_step rfl ?_)
  refine mw_ist rfl (rfl) (by omega) (by decide) ?_
  repeat (refine mw_step rfl ?_)
  rw [nI_1, show nI a * 60 = nI (a * 60) from pk_mul a 60, show nI (a + 1) * 60 = nI ((a + 1) * 60) from pk_mul (a + 1) 60]
  refine mw_call (c_J_fillR (x := xH_s x (upd (xH_sorts x) a s, xH_held x, upd (xH_lens x) a (nI k), xH_cells x)) (a * 60) ((a + 1) * 60) 0 (by omega) (by omega)) rfl rfl (Nat.le_of_ble_eq_true rfl) (Nat.le_refl _) (Nat.le_refl _) ?_
  exact mw_r0 rfl (Nat.le_refl _) (Nat.le_refl _) rfl rfl
theorem c_H_refusal (a : Nat) (ha : a ≤ 5) (i : Int32) : MC M_H_refusal 3 0 0 [.ref 30, .int (nI a), .int i] (heapN N sc x m tl) (some (.int (sp_refX (xH_sorts x a) (xH_lens x a) i))) (heapN N sc x m tl) := by
  refine mc_of k1_H_refusal k2_H_refusal (Nat.le_of_ble_eq_true rfl) ?_
  repeat (refine mw_step rfl ?_)
  refine mw_call (c_H_sortOn a ha) rfl rfl (Nat.le_of_ble_eq_true rfl) (Nat.le_refl _) (Nat.le_refl _) ?_
  repeat (refine mw_step rfl ?_)
  refine mw_br rfl (fun h1 => ?_) (fun h1 => ?_)
  · repeat (refine mw_step rfl ?_)
    exact mw_r1 rfl trivial (Nat.le_refl _) (Nat.le_refl _) (by rw [sp_refX, if_pos h1]) rfl
  · repeat (refine mw_step rfl ?_)
    refine mw_br rfl (fun h2 => ?_) (fun h2 => ?_)
    · repeat (refine mw_step rfl ?_)
      exact mw_r1 rfl trivial (Nat.le_refl _) (Nat.le_refl _) (by rw [sp_refX, if_neg h1, if_pos h2]) rfl
    · repeat (refine mw_step rfl ?_)
      refine mw_call (c_H_lengthOn a ha) rfl rfl (Nat.le_of_ble_eq_true rfl) (Nat.le_refl _) (Nat.le_refl _) ?_
      repeat (refine mw_step rfl ?_)
      refine mw_call (c_within _ _ _ _) rfl rfl (Nat.le_of_ble_eq_true rfl) (Nat.le_refl _) (Nat.le_refl _) ?_
      refine mw_br rfl (fun h3 => ?_) (fun h3 => ?_)
      · repeat (refine mw_step rfl ?_)
        exact mw_r1 rfl trivial (Nat.le_refl _) (Nat.le_refl _) (by rw [sp_refX, if_neg h1, if_neg h2, if_neg (bI_0.mp h3)]) rfl
      · repeat (refine mw_step rfl ?_)
        exact mw_r1 rfl trivial (Nat.le_refl _) (Nat.le_refl _) (by rw [sp_refX, if_neg h1, if_neg h2, if_pos (bI_of h3)]) rfl
theorem c_H_cell (a i : Nat) (ha : a ≤ 5) (hi : i ≤ 59) : MC M_H_cell 2 0 0 [.ref 30, .int (nI a), .int (nI i)] (heapN N sc x m tl) (some (.long (xH_cells x (a * 60 + i)))) (heapN N sc x m tl) := by
  refine mc_of k1_H_cell k2_H_cell (Nat.le_of_ble_eq_true rfl) ?_
  repeat (refine mw_step rfl ?_)
  refine mw_call (c_isShelf _ _) rfl rfl (Nat.le_of_ble_eq_true rfl) (Nat.le_refl _) (Nat.le_refl _) ?_
  refine mw_brF rfl (bI_ne (rng_in ha (by decide))) ?_
  repeat (refine mw_step rfl ?_)
  refine mw_call (c_within _ _ _ _) rfl rfl (Nat.le_of_ble_eq_true rfl) (Nat.le_refl _) (Nat.le_refl _) ?_
  refine mw_brF rfl (bI_ne (rng_in (n := 59) hi (by decide))) ?_
  repeat (refine mw_step rfl ?_)
  refine mw_lld rfl (n_m60 a i) (by omega) (by decide) ?_
  repeat (refine mw_step rfl ?_)
  exact mw_r1 rfl trivial (Nat.le_refl _) (Nat.le_refl _) rfl rfl
theorem c_H_low (s : Nat) (hs : s ≤ 4) (v : Int64) (h : MH) : MC M_H_lowestBits 0 0 0 [.int (nI s), .long v] h (some (.long (sp_low (nI s) v))) h := by
  refine mc_of k1_H_lowestBits k2_H_lowestBits (Nat.le_of_ble_eq_true rfl) ?_
  repeat (refine mw_step rfl ?_)
  rcases (show s = 0 ∨ s = 1 ∨ s = 2 ∨ s = 3 ∨ s = 4 by omega) with rfl | rfl | rfl | rfl | rfl
  · refine mw_sw (t := 36) rfl ?_
    repeat (refine mw_step rfl ?_)
    exact mw_r1 rfl trivial (Nat.le_refl _) (Nat.le_refl _) rfl rfl
  · refine mw_sw (t := 41) rfl ?_
    repeat (refine mw_step rfl ?_)
    exact mw_r1 rfl trivial (Nat.le_refl _) (Nat.le_refl _) rfl rfl
  · refine mw_sw (t := 46) rfl ?_
    repeat (refine mw_step rfl ?_)
    exact mw_r1 rfl trivial (Nat.le_refl _) (Nat.le_refl _) rfl rfl
  · refine mw_sw (t := 62) rfl ?_
    repeat (refine mw_step rfl ?_)
    exact mw_r1 rfl trivial (Nat.le_refl _) (Nat.le_refl _) rfl rfl
  · refine mw_sw (t := 50) rfl ?_
    repeat (refine mw_step rfl ?_)
    refine mw_br rfl (fun h1 => ?_) (fun h1 => ?_)
    · repeat (refine mw_step rfl ?_)
      rw [lg_eq0] at h1
      exact mw_r1 rfl trivial (Nat.le_refl _) (Nat.le_refl _) (by subst h1; rfl) rfl
    · repeat (refine mw_step rfl ?_)
      rw [lg_eq0] at h1
      exact mw_r1 rfl trivial (Nat.le_refl _) (Nat.le_refl _) (by show some (Value.long (if v = 0 then 0 else 1)) = _; rw [if_neg h1]) rfl
theorem c_H_setCell (a i s : Nat) (ha : a ≤ 5) (hi : i ≤ 59) (hs : s ≤ 4) (hss : xH_sorts x a = nI s) (v : Int64) : MC M_H_setCell 2 0 0 [.ref 30, .int (nI a), .int (nI i), .long v] (heapN N sc x m tl) none (heapN N sc (xH_cells_s x (vp_updL (xH_cells x) (a * 60 + i) (sp_low (nI s) v))) m tl) := by
  refine mc_of k1_H_setCell k2_H_setCell (Nat.le_of_ble_eq_true rfl) ?_
  repeat (refine mw_step rfl ?_)
  refine mw_call (c_isShelf _ _) rfl rfl (Nat.le_of_ble_eq_true rfl) (Nat.le_refl _) (Nat.le_refl _) ?_
  refine mw_brF rfl (bI_ne (rng_in ha (by decide))) ?_
  repeat (refine mw_step rfl ?_)
  refine mw_call (c_within _ _ _ _) rfl rfl (Nat.le_of_ble_eq_true rfl) (Nat.le_refl _) (Nat.le_refl _) ?_
  refine mw_brF rfl (bI_ne (rng_in (n := 59) hi (by decide))) ?_
  repeat (refine mw_step rfl ?_)
  refine mw_ild rfl (rfl) (by omega) (by decide) ?_
  repeat (refine mw_step rfl ?_)
  rw [hss]
  refine mw_call (c_H_low s hs v _) rfl rfl (Nat.le_of_ble_eq_true rfl) (Nat.le_refl _) (Nat.le_refl _) ?_
  refine mw_lst rfl (n_m60 a i) (by omega) (by decide) ?_
  exact mw_r0 rfl (Nat.le_refl _) (Nat.le_refl _) rfl rfl
theorem c_H_reaches (a : Nat) (ha : a ≤ 5) (i k : Int32) : MC M_H_reaches 3 0 0 [.ref 30, .int (nI a), .int i, .int k] (heapN N sc x m tl) (some (.int (bI (¬ i < 0 ∧ ¬ xH_lens x a - k < i)))) (heapN N sc x m tl) := by
  refine mc_of k1_H_reaches k2_H_reaches (Nat.le_of_ble_eq_true rfl) ?_
  repeat (refine mw_step rfl ?_)
  refine mw_br rfl (fun h1 => ?_) (fun h1 => ?_)
  · repeat (refine mw_step rfl ?_)
    exact mw_r1 rfl rfl (Nat.le_refl _) (Nat.le_refl _) (by rw [bI_f]; exact fun z => z.1 h1) rfl
  · repeat (refine mw_step rfl ?_)
    refine mw_call (c_H_lengthOn a ha) rfl rfl (Nat.le_of_ble_eq_true rfl) (Nat.le_refl _) (Nat.le_refl _) ?_
    repeat (refine mw_step rfl ?_)
    refine mw_br rfl (fun h2 => ?_) (fun h2 => ?_)
    · repeat (refine mw_step rfl ?_)
      exact mw_r1 rfl rfl (Nat.le_refl _) (Nat.le_refl _) (by rw [bI_f]; exact fun z => z.2 h2) rfl
    · repeat (refine mw_step rfl ?_)
      exact mw_r1 rfl rfl (Nat.le_refl _) (Nat.le_refl _) (by rw [bI_t ⟨h1, h2⟩]) rfl
/-- the reference's -/
theorem c_O_refusal (a : Nat) (ha : a ≤ 5) (i : Int32) : MC M_O_refusal 2 0 0 [.ref 39, .int (nI a), .int i] (heapN N sc x m tl) (some (.int (sp_refO (zs_shelf m a) (zs_many m a) i))) (heapN N sc x m tl) := by
  refine mc_of k1_O_refusal k2_O_refusal (Nat.le_of_ble_eq_true rfl) ?_
  repeat (refine mw_step rfl ?_)
  refine mw_call (c_O_isShelf _ _) rfl rfl (Nat.le_of_ble_eq_true rfl) (Nat.le_refl _) (Nat.le_refl _) ?_
  refine mw_brF rfl (bI_ne (rng_in ha (by decide))) ?_
  repeat (refine mw_step rfl ?_)
  refine mw_ild rfl (rfl) (by omega) (by decide) ?_
  refine mw_br rfl (fun h1 => ?_) (fun h1 => ?_)
  · repeat (refine mw_step rfl ?_)
    exact mw_r1 rfl trivial (Nat.le_refl _) (Nat.le_refl _) (by rw [sp_refO, if_pos h1]) rfl
  · repeat (refine mw_step rfl ?_)
    refine mw_ild rfl (rfl) (by omega) (by decide) ?_
    repeat (refine mw_step rfl ?_)
    refine mw_br rfl (fun h2 => ?_) (fun h2 => ?_)
    · repeat (refine mw_step rfl ?_)
      exact mw_r1 rfl trivial (Nat.le_refl _) (Nat.le_refl _) (by rw [sp_refO, if_neg h1, if_pos h2]) rfl
    · repeat (refine mw_step rfl ?_)
      refine mw_br rfl (fun h3 => ?_) (fun h3 => ?_)
      · repeat (refine mw_step rfl ?_)
        exact mw_r1 rfl trivial (Nat.le_refl _) (Nat.le_refl _) (by rw [sp_refO, if_neg h1, if_neg h2, if_pos h3]) rfl
      · repeat (refine mw_step rfl ?_)
        refine mw_ild rfl (rfl) (by omega) (by decide) ?_
        refine mw_br rfl (fun h4 => ?_) (fun h4 => ?_)
        · repeat (refine mw_step rfl ?_)
          exact mw_r1 rfl trivial (Nat.le_refl _) (Nat.le_refl _) (by rw [sp_refO, if_neg h1, if_neg h2, if_neg h3, if_pos h4]) rfl
        · repeat (refine mw_step rfl ?_)
          exact mw_r1 rfl trivial (Nat.le_refl _) (Nat.le_refl _) (by rw [sp_refO, if_neg h1, if_neg h2, if_neg h3, if_neg h4]) rfl
theorem c_O_refusal_bad (d i : Int32) (hd : ¬ (0 ≤ d ∧ d ≤ nI 5)) : MC M_O_refusal 2 0 0 [.ref 39, .int d, .int i] (heapN N sc x m tl) (some (.int (-1))) (heapN N sc x m tl) := by
  refine mc_of k1_O_refusal k2_O_refusal (Nat.le_of_ble_eq_true rfl) ?_
  repeat (refine mw_step rfl ?_)
  refine mw_call (c_O_isShelf _ _) rfl rfl (Nat.le_of_ble_eq_true rfl) (Nat.le_refl _) (Nat.le_refl _) ?_
  refine mw_brT rfl (bI_f hd) ?_
  repeat (refine mw_step rfl ?_)
  exact mw_r1 rfl trivial (Nat.le_refl _) (Nat.le_refl _) rfl rfl
theorem c_O_asSort (s : Int32) (v : Int64) (h : MH) : MC M_O_asSort 0 0 0 [.int s, .long v] h (some (.long (sp_low s v))) h := by
  refine mc_of k1_O_asSort k2_O_asSort (Nat.le_of_ble_eq_true rfl) ?_
  repeat (refine mw_step rfl ?_)
  refine mw_br rfl (fun h1 => ?_) (fun h1 => ?_)
  · repeat (refine mw_step rfl ?_)
    exact mw_r1 rfl trivial (Nat.le_refl _) (Nat.le_refl _) (by rw [sp_low, if_pos h1]) rfl
  · repeat (refine mw_step rfl ?_)
    refine mw_br rfl (fun h2 => ?_) (fun h2 => ?_)
    · repeat (refine mw_step rfl ?_)
      exact mw_r1 rfl trivial (Nat.le_refl _) (Nat.le_refl _) (by rw [sp_low, if_neg h1, if_pos h2]) rfl
    · repeat (refine mw_step rfl ?_)
      refine mw_br rfl (fun h3 => ?_) (fun h3 => ?_)
      · repeat (refine mw_step rfl ?_)
        exact mw_r1 rfl trivial (Nat.le_refl _) (Nat.le_refl _) (by rw [sp_low, if_neg h1, if_neg h2, if_pos h3]) rfl
      · repeat (refine mw_step rfl ?_)
        refine mw_br rfl (fun h4 => ?_) (fun h4 => ?_)
        · repeat (refine mw_step rfl ?_)
          refine mw_br rfl (fun h5 => ?_) (fun h5 => ?_)
          · repeat (refine mw_step rfl ?_)
            rw [lg_eq0] at h5
            exact mw_r1 rfl trivial (Nat.le_refl _) (Nat.le_refl _) (by rw [sp_low, if_neg h1, if_neg h2, if_neg h3, if_pos h4, if_pos h5]) rfl
          · repeat (refine mw_step rfl ?_)
            rw [lg_eq0] at h5
            exact mw_r1 rfl trivial (Nat.le_refl _) (Nat.le_refl _) (by rw [sp_low, if_neg h1, if_neg h2, if_neg h3, if_pos h4, if_neg h5]) rfl
        · repeat (refine mw_step rfl ?_)
          exact mw_r1 rfl trivial (Nat.le_refl _) (Nat.le_refl _) (by rw [sp_low, if_neg h1, if_neg h2, if_neg h3, if_neg h4]) rfl
theorem l_O_row {v : Option Value} (a : Nat) (ha : a ≤ 5) (s k : Int32) (f0 : Nat → Int64) {hT : MH} (K : MW M_O_row 2 0 0 v hT 0 0 83 [(0, .ref 39), (1, .int (nI a)), (2, .int s), (3, .int k)] [] (heapN N sc x (zs_items_s m (sp_fill f0 (60 * a) (60 * a + 60) 0)) tl)) : ∀ r i, i + r = 60 * a + 60 → 60 * a ≤ i → MW M_O_row 2 0 0 v hT 0 0 57 [(0, .ref 39), (1, .int (nI a)), (2, .int s), (3, .int k), (4, .int (nI i))] [] (heapN N sc x (zs_items_s m (sp_fill f0 (60 * a) i 0)) tl) := by
  intro r
  induction r with
  | zero =>
    intro i hi h1
    rw [show i = 60 * a + 60 by omega]
    repeat (refine mw_step rfl ?_)
    refine mw_brF rfl (by rw [show (60 : Int32) * nI a + 60 = nI (60 * a + 60) from n_60m a 60]; exact n_nlt (by omega) (by omega)) ?_
    refine mw_pick [0, 1, 2, 3] ?_
    exact K
  | succ r ih =>
    intro i hi h1
    repeat (refine mw_step rfl ?_)
    refine mw_brT rfl (by rw [show (60 : Int32) * nI a + 60 = nI (60 * a + 60) from n_60m a 60]; exact n_lt (by omega) (by omega)) ?_
    repeat (refine mw_step rfl ?_)
    refine mw_lst rfl (rfl) (by omega) (by decide) ?_
    repeat (refine mw_to 57 rfl rfl ?_)
    rw [nI_1]
    refine mw_pick [0, 1, 2, 3, 4] ?_
    have := ih (i + 1) (by omega) (by omega)
    rw [← sp_fill_up _ _ _ _ h1] at this
    exact this
end SH
end
section
/-! shelves as the law calls them -/
section SG
variable {N : Nat} {sc : Nat × (Nat → Int32)} {x : XS} {m : OS} {tl : MH} {n : Nat}
theorem c_C_keep_bad (d w : Int32) (h : ¬ ((0 ≤ d ∧ d ≤ nI 5) ∧ (-1 ≤ w ∧ w ≤ xB_many x - 1))) : MC M_C_keep 3 0 0 [.ref 5, .int d, .int w] (heapN N sc x m tl) (some (.int (-1))) (heapN N sc x m tl) := by
  refine mc_of k1_C_keep k2_C_keep (Nat.le_of_ble_eq_true rfl) ?_
  repeat (refine mw_step rfl ?_)
  refine mw_call (c_isShelf _ _) rfl rfl (Nat.le_of_ble_eq_true rfl) (Nat.le_refl _) (Nat.le_refl _) ?_
  refine mw_br rfl (fun h1 => ?_) (fun h1 => ?_)
  · repeat (refine mw_step rfl ?_)
    exact mw_r1 rfl trivial (Nat.le_refl _) (Nat.le_refl _) rfl rfl
  · repeat (refine mw_step rfl ?_)
    refine mw_call (c_within _ _ _ _) rfl rfl (Nat.le_of_ble_eq_true rfl) (Nat.le_refl _) (Nat.le_refl _) ?_
    refine mw_br rfl (fun h2 => ?_) (fun h2 => ?_)
    · repeat (refine mw_step rfl ?_)
      exact mw_r1 rfl trivial (Nat.le_refl _) (Nat.le_refl _) rfl rfl
    · exact absurd ⟨bI_of h1, bI_of h2⟩ h
theorem c_C_keep (a : Nat) (w : Int32) (ha : a ≤ 5) (hw : -1 ≤ w ∧ w ≤ xB_many x - 1) : MC M_C_keep 3 0 0 [.ref 5, .int (nI a), .int w] (heapN N sc x m tl) (some (.int 1)) (heapN N sc (xH_s x (upd (xH_sorts x) a (if w < 0 then -2 else -1), upd (xH_held x) a w, upd (xH_lens x) a 0, xH_cells x)) m tl) := by
  refine mc_of k1_C_keep k2_C_keep (Nat.le_of_ble_eq_true rfl) ?_
  repeat (refine mw_step rfl ?_)
  refine mw_call (c_isShelf _ _) rfl rfl (Nat.le_of_ble_eq_true rfl) (Nat.le_refl _) (Nat.le_refl _) ?_
  refine mw_brF rfl (bI_ne (rng_in ha (by decide))) ?_
  repeat (refine mw_step rfl ?_)
  refine mw_call (c_within _ _ _ _) rfl rfl (Nat.le_of_ble_eq_true rfl) (Nat.le_refl _) (Nat.le_refl _) ?_
  refine mw_brF rfl (bI_ne hw) ?_
  repeat (refine mw_step rfl ?_)
  refine mw_call (c_H_hold a ha w) rfl rfl (Nat.le_of_ble_eq_true rfl) (Nat.le_refl _) (Nat.le_refl _) ?_
  repeat (refine mw_step rfl ?_)
  exact mw_r1 rfl trivial (Nat.le_refl _) (Nat.le_refl _) rfl rfl
theorem c_O_isBody (w : Int32) : MC M_O_isBody 1 0 0 [.ref 39, .int w] (heapN N sc x m tl) (some (.int (bI (0 ≤ w ∧ w ≤ zb_bodies m - 1)))) (heapN N sc x m tl) := by
  refine mc_of k1_O_isBody k2_O_isBody (Nat.le_of_ble_eq_true rfl) ?_
  repeat (refine mw_step rfl ?_)
  refine mw_call (c_withinO32 _ w 0 (zb_bodies m - 1)) rfl rfl (Nat.le_of_ble_eq_true rfl) (Nat.le_refl _) (Nat.le_refl _) ?_
  exact mw_r1 rfl bI_nar (Nat.le_refl _) (Nat.le_refl _) rfl rfl
theorem c_O_keep_bad (d w : Int32) (h : ¬ ((0 ≤ d ∧ d ≤ nI 5) ∧ (w = -1 ∨ (0 ≤ w ∧ w ≤ zb_bodies m - 1)))) : MC M_O_keep 2 0 0 [.ref 39, .int d, .int w] (heapN N sc x m tl) (some (.int (-1))) (heapN N sc x m tl) := by
  refine mc_of k1_O_keep k2_O_keep (Nat.le_of_ble_eq_true rfl) ?_
  repeat (refine mw_step rfl ?_)
  refine mw_call (c_O_isShelf _ _) rfl rfl (Nat.le_of_ble_eq_true rfl) (Nat.le_refl _) (Nat.le_refl _) ?_
  refine mw_br rfl (fun h1 => ?_) (fun h1 => ?_)
  · repeat (refine mw_step rfl ?_)
    exact mw_r1 rfl trivial (Nat.le_refl _) (Nat.le_refl _) rfl rfl
  · repeat (refine mw_step rfl ?_)
    refine mw_br rfl (fun h2 => ?_) (fun h2 => ?_)
    · exact absurd ⟨bI_of h1, Or.inl h2⟩ h
    · repeat (refine mw_step rfl ?_)
      refine mw_call (c_O_isBody w) rfl rfl (Nat.le_of_ble_eq_true rfl) (Nat.le_refl _) (Nat.le_refl _) ?_
      refine mw_br rfl (fun h3 => ?_) (fun h3 => ?_)
      · repeat (refine mw_step rfl ?_)
        exact mw_r1 rfl trivial (Nat.le_refl _) (Nat.le_refl _) rfl rfl
      · exact absurd ⟨bI_of h1, Or.inr (bI_of h3)⟩ h
theorem c_O_keep (a : Nat) (w : Int32) (ha : a ≤ 5) (hw : w = -1 ∨ (0 ≤ w ∧ w ≤ zb_bodies m - 1)) : MC M_O_keep 2 0 0 [.ref 39, .int (nI a), .int w] (heapN N sc x m tl) (some (.int 1)) (heapN N sc x (zs_s m (upd (zs_shelf m) a w, upd (zs_many m) a 0, zs_items m, zs_carried m)) tl) := by
  refine mc_of k1_O_keep k2_O_keep (Nat.le_of_ble_eq_true rfl) ?_
  repeat (refine mw_step rfl ?_)
  refine mw_call (c_O_isShelf _ _) rfl rfl (Nat.le_of_ble_eq_true rfl) (Nat.le_refl _) (Nat.le_refl _) ?_
  refine mw_brF rfl (bI_ne (rng_in ha (by decide))) ?_
  repeat (refine mw_step rfl ?_)
  refine mw_br rfl (fun h2 => ?_) (fun h2 => ?_)
  · repeat (refine mw_step rfl ?_)
    refine mw_ist rfl (rfl) (by omega) (by decide) ?_
    repeat (refine mw_step rfl ?_)
    refine mw_ist rfl (rfl) (by omega) (by decide) ?_
    repeat (refine mw_step rfl ?_)
    exact mw_r1 rfl trivial (Nat.le_refl _) (Nat.le_refl _) rfl rfl
  · repeat (refine mw_step rfl ?_)
    refine mw_call (c_O_isBody w) rfl rfl (Nat.le_of_ble_eq_true rfl) (Nat.le_refl _) (Nat.le_refl _) ?_
    refine mw_brF rfl (bI_ne (hw.resolve_left h2)) ?_
    repeat (refine mw_step rfl ?_)
    refine mw_ist rfl (rfl) (by omega) (by decide) ?_
    repeat (refine mw_step rfl ?_)
    refine mw_ist rfl (rfl) (by omega) (by decide) ?_
    repeat (refine mw_step rfl ?_)
    exact mw_r1 rfl trivial (Nat.le_refl _) (Nat.le_refl _) rfl rfl
def sp_rowOk (d s k : Int32) : Prop := (0 ≤ d ∧ d ≤ nI 5) ∧ (0 ≤ s ∧ s ≤ nI 4) ∧ ¬ nI 60 < k
theorem c_C_row_bad (d s k : Int32) (h : ¬ sp_rowOk d s k) : MC M_C_row 3 0 0 [.ref 5, .int d, .int s, .int k] (heapN N sc x m tl) (some (.int (-1))) (heapN N sc x m tl) := by
  refine mc_of k1_C_row k2_C_row (Nat.le_of_ble_eq_true rfl) ?_
  repeat (refine mw_step rfl ?_)
  refine mw_call (c_isShelf _ _) rfl rfl (Nat.le_of_ble_eq_true rfl) (Nat.le_refl _) (Nat.le_refl _) ?_
  refine mw_br rfl (fun h1 => ?_) (fun h1 => ?_)
  · repeat (refine mw_step rfl ?_)
    exact mw_r1 rfl trivial (Nat.le_refl _) (Nat.le_refl _) rfl rfl
  · repeat (refine mw_step rfl ?_)
    refine mw_call (c_within _ _ _ _) rfl rfl (Nat.le_of_ble_eq_true rfl) (Nat.le_refl _) (Nat.le_refl _) ?_
    refine mw_br rfl (fun h2 => ?_) (fun h2 => ?_)
    · repeat (refine mw_step rfl ?_)
      exact mw_r1 rfl trivial (Nat.le_refl _) (Nat.le_refl _) rfl rfl
    · repeat (refine mw_step rfl ?_)
      refine mw_br rfl (fun h3 => ?_) (fun h3 => ?_)
      · repeat (refine mw_step rfl ?_)
        exact mw_r1 rfl trivial (Nat.le_refl _) (Nat.le_refl _) rfl rfl
      · exact absurd ⟨bI_of h1, bI_of h2, h3⟩ h
theorem c_C_row_neg (d s k : Int32) (h : sp_rowOk d s k) (hk : k < 0) : MC M_C_row 3 0 0 [.ref 5, .int d, .int s, .int k] (heapN N sc x m tl) (some (.int (-14))) (heapN N sc x m tl) := by
  refine mc_of k1_C_row k2_C_row (Nat.le_of_ble_eq_true rfl) ?_
  repeat (refine mw_step rfl ?_)
  refine mw_call (c_isShelf _ _) rfl rfl (Nat.le_of_ble_eq_true rfl) (Nat.le_refl _) (Nat.le_refl _) ?_
  refine mw_brF rfl (bI_ne h.1) ?_
  repeat (refine mw_step rfl ?_)
  refine mw_call (c_within _ _ _ _) rfl rfl (Nat.le_of_ble_eq_true rfl) (Nat.le_refl _) (Nat.le_refl _) ?_
  refine mw_brF rfl (bI_ne h.2.1) ?_
  repeat (refine mw_step rfl ?_)
  refine mw_brF rfl (h.2.2) ?_
  repeat (refine mw_step rfl ?_)
  refine mw_brT rfl (hk) ?_
  repeat (refine mw_step rfl ?_)
  exact mw_r1 rfl trivial (Nat.le_refl _) (Nat.le_refl _) rfl rfl
theorem c_C_row (a k : Nat) (s : Int32) (ha : a ≤ 5) (hs : 0 ≤ s ∧ s ≤ nI 4) (hk : k ≤ 60) : MC M_C_row 3 0 0 [.ref 5, .int (nI a), .int s, .int (nI k)] (heapN N sc x m tl) (some (.int 1)) (heapN N sc (xH_s x (upd (xH_sorts x) a s, xH_held x, upd (xH_lens x) a (nI k), sp_fill (xH_cells x) (a * 60) ((a + 1) * 60) 0)) m tl) := by
  refine mc_of k1_C_row k2_C_row (Nat.le_of_ble_eq_true rfl) ?_
  repeat (refine mw_step rfl ?_)
  refine mw_call (c_isShelf _ _) rfl rfl (Nat.le_of_ble_eq_true rfl) (Nat.le_refl _) (Nat.le_refl _) ?_
  refine mw_brF rfl (bI_ne (rng_in ha (by decide))) ?_
  repeat (refine mw_step rfl ?_)
  refine mw_call (c_within _ _ _ _) rfl rfl (Nat.le_of_ble_eq_true rfl) (Nat.le_refl _) (Nat.le_refl _) ?_
  refine mw_brF rfl (bI_ne hs) ?_
  repeat (refine mw_step rfl ?_)
  refine mw_brF rfl (n_nlt (a := 60) hk (by omega)) ?_
  repeat (refine mw_step rfl ?_)
  refine mw_brF rfl (nI_pos (by omega)) ?_
  repeat (refine mw_step rfl ?_)
  refine mw_call (c_H_holdRow a k s ha hk) rfl rfl (Nat.le_of_ble_eq_true rfl) (Nat.le_refl _) (Nat.le_refl _) ?_
  repeat (refine mw_step rfl ?_)
  exact mw_r1 rfl trivial (Nat.le_refl _) (Nat.le_refl _) rfl rfl
theorem c_O_row_bad (d s k : Int32) (h : ¬ sp_rowOk d s k) : MC M_O_row 2 0 0 [.ref 39, .int d, .int s, .int k] (heapN N sc x m tl) (some (.int (-1))) (heapN N sc x m tl) := by
  refine mc_of k1_O_row k2_O_row (Nat.le_of_ble_eq_true rfl) ?_
  repeat (refine mw_step rfl ?_)
  refine mw_call (c_O_isShelf _ _) rfl rfl (Nat.le_of_ble_eq_true rfl) (Nat.le_refl _) (Nat.le_refl _) ?_
  refine mw_br rfl (fun h1 => ?_) (fun h1 => ?_)
  · repeat (refine mw_step rfl ?_)
    exact mw_r1 rfl trivial (Nat.le_refl _) (Nat.le_refl _) rfl rfl
  · repeat (refine mw_step rfl ?_)
    refine mw_call (c_withinO32 _ s 0 (nI 4)) rfl rfl (Nat.le_of_ble_eq_true rfl) (Nat.le_refl _) (Nat.le_refl _) ?_
    refine mw_br rfl (fun h2 => ?_) (fun h2 => ?_)
    · repeat (refine mw_step rfl ?_)
      exact mw_r1 rfl trivial (Nat.le_refl _) (Nat.le_refl _) rfl rfl
    · repeat (refine mw_step rfl ?_)
      refine mw_br rfl (fun h3 => ?_) (fun h3 => ?_)
      · repeat (refine mw_step rfl ?_)
        exact mw_r1 rfl trivial (Nat.le_refl _) (Nat.le_refl _) rfl rfl
      · exact absurd ⟨bI_of h1, bI_of h2, h3⟩ h
theorem c_O_row_neg (d s k : Int32) (h : sp_rowOk d s k) (hk : k < 0) : MC M_O_row 2 0 0 [.ref 39, .int d, .int s, .int k] (heapN N sc x m tl) (some (.int (-14))) (heapN N sc x m tl) := by
  refine mc_of k1_O_row k2_O_row (Nat.le_of_ble_eq_true rfl) ?_
  repeat (refine mw_step rfl ?_)
  refine mw_call (c_O_isShelf _ _) rfl rfl (Nat.le_of_ble_eq_true rfl) (Nat.le_refl _) (Nat.le_refl _) ?_
  refine mw_brF rfl (bI_ne h.1) ?_
  repeat (refine mw_step rfl ?_)
  refine mw_call (c_withinO32 _ s 0 (nI 4)) rfl rfl (Nat.le_of_ble_eq_true rfl) (Nat.le_refl _) (Nat.le_refl _) ?_
  refine mw_brF rfl (bI_ne h.2.1) ?_
  repeat (refine mw_step rfl ?_)
  refine mw_brF rfl (h.2.2) ?_
  repeat (refine mw_step rfl ?_)
  refine mw_brT rfl (hk) ?_
  repeat (refine mw_step rfl ?_)
  exact mw_r1 rfl trivial (Nat.le_refl _) (Nat.le_refl _) rfl rfl
theorem c_O_row (a k : Nat) (s : Int32) (ha : a ≤ 5) (hs : 0 ≤ s ∧ s ≤ nI 4) (hk : k ≤ 60) : MC M_O_row 2 0 0 [.ref 39, .int (nI a), .int s, .int (nI k)] (heapN N sc x m tl) (some (.int 1)) (heapN N sc x (zs_s m (upd (zs_shelf m) a (50 + s), upd (zs_many m) a (nI k), sp_fill (zs_items m) (60 * a) (60 * a + 60) 0, zs_carried m)) tl) := by
  refine mc_of k1_O_row k2_O_row (Nat.le_of_ble_eq_true rfl) ?_
  repeat (refine mw_step rfl ?_)
  refine mw_call (c_O_isShelf _ _) rfl rfl (Nat.le_of_ble_eq_true rfl) (Nat.le_refl _) (Nat.le_refl _) ?_
  refine mw_brF rfl (bI_ne (rng_in ha (by decide))) ?_
  repeat (refine mw_step rfl ?_)
  refine mw_call (c_withinO32 _ s 0 (nI 4)) rfl rfl (Nat.le_of_ble_eq_true rfl) (Nat.le_refl _) (Nat.le_refl _) ?_
  refine mw_brF rfl (bI_ne hs) ?_
  repeat (refine mw_step rfl ?_)
  refine mw_brF rfl (n_nlt (a := 60) hk (by omega)) ?_
  repeat (refine mw_step rfl ?_)
  refine mw_brF rfl (nI_pos (by omega)) ?_
  repeat (refine mw_step rfl ?_)
  refine mw_ist rfl (rfl) (by omega) (by decide) ?_
  repeat (refine mw_step rfl ?_)
  refine mw_ist rfl (rfl) (by omega) (by decide) ?_
  repeat (refine mw_to 57 rfl rfl ?_)
  rw [show (60 : Int32) * nI a = nI (60 * a) from pk_mul 60 a]
  refine mw_pick [0, 1, 2, 3, 4] ?_
  have := l_O_row (N := N) (sc := sc) (x := x) (tl := tl) (m := zs_s m (upd (zs_shelf m) a (50 + s), upd (zs_many m) a (nI k), zs_items m, zs_carried m)) (v := some (.int 1)) (hT := heapN N sc x (zs_s m (upd (zs_shelf m) a (50 + s), upd (zs_many m) a (nI k), sp_fill (zs_items m) (60 * a) (60 * a + 60) 0, zs_carried m)) tl) a ha s (nI k) (zs_items m) (by
    repeat (refine mw_step rfl ?_)
    exact mw_r1 rfl trivial (Nat.le_refl _) (Nat.le_refl _) rfl rfl) 60 (60 * a) (by omega) (Nat.le_refl _)
  rw [sp_fill_0] at this
  exact this
theorem c_C_put_bad (d i : Int32) (v : Int64) (hd : ¬ (0 ≤ d ∧ d ≤ nI 5)) : MC M_C_put 4 0 0 [.ref 5, .int d, .int i, .long v] (heapN N sc x m tl) (some (.int (-1))) (heapN N sc x m tl) := by
  refine mc_of k1_C_put k2_C_put (Nat.le_of_ble_eq_true rfl) ?_
  repeat (refine mw_step rfl ?_)
  refine mw_call (c_isShelf _ _) rfl rfl (Nat.le_of_ble_eq_true rfl) (Nat.le_refl _) (Nat.le_refl _) ?_
  refine mw_brT rfl (bI_f hd) ?_
  repeat (refine mw_step rfl ?_)
  refine mw_brF rfl (by decide) ?_
  repeat (refine mw_step rfl ?_)
  exact mw_r1 rfl trivial (Nat.le_refl _) (Nat.le_refl _) rfl rfl
theorem c_C_put_ref (a : Nat) (ha : a ≤ 5) (i : Int32) (v : Int64) (h : ¬ sp_refX (xH_sorts x a) (xH_lens x a) i = 0) : MC M_C_put 4 0 0 [.ref 5, .int (nI a), .int i, .long v] (heapN N sc x m tl) (some (.int (sp_refX (xH_sorts x a) (xH_lens x a) i))) (heapN N sc x m tl) := by
  refine mc_of k1_C_put k2_C_put (Nat.le_of_ble_eq_true rfl) ?_
  repeat (refine mw_step rfl ?_)
  refine mw_call (c_isShelf _ _) rfl rfl (Nat.le_of_ble_eq_true rfl) (Nat.le_refl _) (Nat.le_refl _) ?_
  refine mw_brF rfl (bI_ne (rng_in ha (by decide))) ?_
  repeat (refine mw_step rfl ?_)
  refine mw_call (c_H_refusal a ha i) rfl rfl (Nat.le_of_ble_eq_true rfl) (Nat.le_refl _) (Nat.le_refl _) ?_
  repeat (refine mw_step rfl ?_)
  refine mw_brF rfl (h) ?_
  repeat (refine mw_step rfl ?_)
  exact mw_r1 rfl trivial (Nat.le_refl _) (Nat.le_refl _) rfl rfl
theorem c_C_put (a i s : Nat) (ha : a ≤ 5) (hi : i ≤ 59) (hs : s ≤ 4) (hss : xH_sorts x a = nI s) (v : Int64) (h : sp_refX (xH_sorts x a) (xH_lens x a) (nI i) = 0) : MC M_C_put 4 0 0 [.ref 5, .int (nI a), .int (nI i), .long v] (heapN N sc x m tl) (some (.int 1)) (heapN N sc (xH_cells_s x (vp_updL (xH_cells x) (a * 60 + i) (sp_low (nI s) v))) m tl) := by
  refine mc_of k1_C_put k2_C_put (Nat.le_of_ble_eq_true rfl) ?_
  repeat (refine mw_step rfl ?_)
  refine mw_call (c_isShelf _ _) rfl rfl (Nat.le_of_ble_eq_true rfl) (Nat.le_refl _) (Nat.le_refl _) ?_
  refine mw_brF rfl (bI_ne (rng_in ha (by decide))) ?_
  repeat (refine mw_step rfl ?_)
  refine mw_call (c_H_refusal a ha (nI i)) rfl rfl (Nat.le_of_ble_eq_true rfl) (Nat.le_refl _) (Nat.le_refl _) ?_
  repeat (refine mw_step rfl ?_)
  refine mw_brT rfl (h) ?_
  repeat (refine mw_step rfl ?_)
  refine mw_call (c_H_setCell a i s ha hi hs hss v) rfl rfl (Nat.le_of_ble_eq_true rfl) (Nat.le_refl _) (Nat.le_refl _) ?_
  repeat (refine mw_step rfl ?_)
  exact mw_r1 rfl trivial (Nat.le_refl _) (Nat.le_refl _) rfl rfl
theorem c_O_put_bad (d i : Int32) (v : Int64) (hd : ¬ (0 ≤ d ∧ d ≤ nI 5)) : MC M_O_put 3 0 0 [.ref 39, .int d, .int i, .long v] (heapN N sc x m tl) (some (.int (-1))) (heapN N sc x m tl) := by
  refine mc_of k1_O_put k2_O_put (Nat.le_of_ble_eq_true rfl) ?_
  repeat (refine mw_step rfl ?_)
  refine mw_call (c_O_refusal_bad d i hd) rfl rfl (Nat.le_of_ble_eq_true rfl) (Nat.le_refl _) (Nat.le_refl _) ?_
  repeat (refine mw_step rfl ?_)
  refine mw_brF rfl (by decide) ?_
  repeat (refine mw_step rfl ?_)
  refine mw_brF rfl (by decide) ?_
  repeat (refine mw_step rfl ?_)
  exact mw_r1 rfl trivial (Nat.le_refl _) (Nat.le_refl _) rfl rfl
theorem c_O_put_ref (a : Nat) (ha : a ≤ 5) (i : Int32) (v : Int64) (h : ¬ sp_refO (zs_shelf m a) (zs_many m a) i = 0) : MC M_O_put 3 0 0 [.ref 39, .int (nI a), .int i, .long v] (heapN N sc x m tl) (some (.int (sp_refO (zs_shelf m a) (zs_many m a) i))) (heapN N sc x m tl) := by
  refine mc_of k1_O_put k2_O_put (Nat.le_of_ble_eq_true rfl) ?_
  repeat (refine mw_step rfl ?_)
  refine mw_call (c_O_refusal a ha i) rfl rfl (Nat.le_of_ble_eq_true rfl) (Nat.le_refl _) (Nat.le_refl _) ?_
  repeat (refine mw_step rfl ?_)
  refine mw_brF rfl (h) ?_
  repeat (refine mw_step rfl ?_)
  refine mw_brF rfl (h) ?_
  repeat (refine mw_step rfl ?_)
  exact mw_r1 rfl trivial (Nat.le_refl _) (Nat.le_refl _) rfl rfl
theorem c_O_put (a i : Nat) (ha : a ≤ 5) (hi : i ≤ 59) (v : Int64) (h : sp_refO (zs_shelf m a) (zs_many m a) (nI i) = 0) : MC M_O_put 3 0 0 [.ref 39, .int (nI a), .int (nI i), .long v] (heapN N sc x m tl) (some (.int 1)) (heapN N sc x (zs_items_s m (vp_updL (zs_items m) (60 * a + i) (sp_low (zs_shelf m a - 50) v))) tl) := by
  refine mc_of k1_O_put k2_O_put (Nat.le_of_ble_eq_true rfl) ?_
  repeat (refine mw_step rfl ?_)
  refine mw_call (c_O_refusal a ha (nI i)) rfl rfl (Nat.le_of_ble_eq_true rfl) (Nat.le_refl _) (Nat.le_refl _) ?_
  repeat (refine mw_step rfl ?_)
  refine mw_brT rfl (h) ?_
  repeat (refine mw_step rfl ?_)
  refine mw_ild rfl (rfl) (by omega) (by decide) ?_
  repeat (refine mw_step rfl ?_)
  refine mw_call (c_O_asSort _ v _) rfl rfl (Nat.le_of_ble_eq_true rfl) (Nat.le_refl _) (Nat.le_refl _) ?_
  refine mw_lst rfl (n_60m a i) (by omega) (by decide) ?_
  repeat (refine mw_step rfl ?_)
  refine mw_brT rfl (h) ?_
  repeat (refine mw_step rfl ?_)
  exact mw_r1 rfl trivial (Nat.le_refl _) (Nat.le_refl _) rfl rfl
theorem c_C_el_bad (d i : Int32) (hd : ¬ (0 ≤ d ∧ d ≤ nI 5)) : MC M_C_element 4 0 0 [.ref 5, .int d, .int i] (heapN N sc x m tl) (some (.long (-9223372036854775808))) (heapN N sc x m tl) := by
  refine mc_of k1_C_element k2_C_element (Nat.le_of_ble_eq_true rfl) ?_
  repeat (refine mw_step rfl ?_)
  refine mw_call (c_isShelf _ _) rfl rfl (Nat.le_of_ble_eq_true rfl) (Nat.le_refl _) (Nat.le_refl _) ?_
  refine mw_brT rfl (bI_f hd) ?_
  repeat (refine mw_step rfl ?_)
  exact mw_r1 rfl trivial (Nat.le_refl _) (Nat.le_refl _) rfl rfl
theorem c_C_el_ref (a : Nat) (ha : a ≤ 5) (i : Int32) (h : ¬ sp_refX (xH_sorts x a) (xH_lens x a) i = 0) : MC M_C_element 4 0 0 [.ref 5, .int (nI a), .int i] (heapN N sc x m tl) (some (.long (-9223372036854775808))) (heapN N sc x m tl) := by
  refine mc_of k1_C_element k2_C_element (Nat.le_of_ble_eq_true rfl) ?_
  repeat (refine mw_step rfl ?_)
  refine mw_call (c_isShelf _ _) rfl rfl (Nat.le_of_ble_eq_true rfl) (Nat.le_refl _) (Nat.le_refl _) ?_
  refine mw_brF rfl (bI_ne (rng_in ha (by decide))) ?_
  repeat (refine mw_step rfl ?_)
  refine mw_call (c_H_refusal a ha i) rfl rfl (Nat.le_of_ble_eq_true rfl) (Nat.le_refl _) (Nat.le_refl _) ?_
  refine mw_brF rfl (h) ?_
  repeat (refine mw_step rfl ?_)
  exact mw_r1 rfl trivial (Nat.le_refl _) (Nat.le_refl _) rfl rfl
theorem c_C_el (a i : Nat) (ha : a ≤ 5) (hi : i ≤ 59) (h : sp_refX (xH_sorts x a) (xH_lens x a) (nI i) = 0) : MC M_C_element 4 0 0 [.ref 5, .int (nI a), .int (nI i)] (heapN N sc x m tl) (some (.long (xH_cells x (a * 60 + i)))) (heapN N sc x m tl) := by
  refine mc_of k1_C_element k2_C_element (Nat.le_of_ble_eq_true rfl) ?_
  repeat (refine mw_step rfl ?_)
  refine mw_call (c_isShelf _ _) rfl rfl (Nat.le_of_ble_eq_true rfl) (Nat.le_refl _) (Nat.le_refl _) ?_
  refine mw_brF rfl (bI_ne (rng_in ha (by decide))) ?_
  repeat (refine mw_step rfl ?_)
  refine mw_call (c_H_refusal a ha (nI i)) rfl rfl (Nat.le_of_ble_eq_true rfl) (Nat.le_refl _) (Nat.le_refl _) ?_
  refine mw_brT rfl (h) ?_
  repeat (refine mw_step rfl ?_)
  refine mw_call (c_H_cell a i ha hi) rfl rfl (Nat.le_of_ble_eq_true rfl) (Nat.le_refl _) (Nat.le_refl _) ?_
  exact mw_r1 rfl trivial (Nat.le_refl _) (Nat.le_refl _) rfl rfl
theorem c_O_el_bad (d i : Int32) (hd : ¬ (0 ≤ d ∧ d ≤ nI 5)) : MC M_O_element 3 0 0 [.ref 39, .int d, .int i] (heapN N sc x m tl) (some (.long (-9223372036854775808))) (heapN N sc x m tl) := by
  refine mc_of k1_O_element k2_O_element (Nat.le_of_ble_eq_true rfl) ?_
  repeat (refine mw_step rfl ?_)
  refine mw_call (c_O_refusal_bad d i hd) rfl rfl (Nat.le_of_ble_eq_true rfl) (Nat.le_refl _) (Nat.le_refl _) ?_
  refine mw_brF rfl (by decide) ?_
  repeat (refine mw_step rfl ?_)
  exact mw_r1 rfl trivial (Nat.le_refl _) (Nat.le_refl _) rfl rfl
theorem c_O_el_ref (a : Nat) (ha : a ≤ 5) (i : Int32) (h : ¬ sp_refO (zs_shelf m a) (zs_many m a) i = 0) : MC M_O_element 3 0 0 [.ref 39, .int (nI a), .int i] (heapN N sc x m tl) (some (.long (-9223372036854775808))) (heapN N sc x m tl) := by
  refine mc_of k1_O_element k2_O_element (Nat.le_of_ble_eq_true rfl) ?_
  repeat (refine mw_step rfl ?_)
  refine mw_call (c_O_refusal a ha i) rfl rfl (Nat.le_of_ble_eq_true rfl) (Nat.le_refl _) (Nat.le_refl _) ?_
  refine mw_brF rfl (h) ?_
  repeat (refine mw_step rfl ?_)
  exact mw_r1 rfl trivial (Nat.le_refl _) (Nat.le_refl _) rfl rfl
theorem c_O_el (a i : Nat) (ha : a ≤ 5) (hi : i ≤ 59) (h : sp_refO (zs_shelf m a) (zs_many m a) (nI i) = 0) : MC M_O_element 3 0 0 [.ref 39, .int (nI a), .int (nI i)] (heapN N sc x m tl) (some (.long (zs_items m (60 * a + i)))) (heapN N sc x m tl) := by
  refine mc_of k1_O_element k2_O_element (Nat.le_of_ble_eq_true rfl) ?_
  repeat (refine mw_step rfl ?_)
  refine mw_call (c_O_refusal a ha (nI i)) rfl rfl (Nat.le_of_ble_eq_true rfl) (Nat.le_refl _) (Nat.le_refl _) ?_
  refine mw_brT rfl (h) ?_
  repeat (refine mw_step rfl ?_)
  refine mw_lld rfl (n_60m a i) (by omega) (by decide) ?_
  exact mw_r1 rfl trivial (Nat.le_refl _) (Nat.le_refl _) rfl rfl
/-- shift -/
def sp_shX (s1 s2 l1 l2 i j k : Int32) : Int32 := if s1 = -2 then -11 else if s2 = -2 then -11 else if s1 = -1 then -12 else if s1 = s2 then (if k < 0 then -13 else if ¬ i < 0 ∧ ¬ l1 - k < i then (if ¬ j < 0 ∧ ¬ l2 - k < j then 1 else -13) else -13) else -12
theorem c_H_copy_ref (a b : Nat) (ha : a ≤ 5) (hb : b ≤ 5) (i j k : Int32) (h : ¬ sp_shX (xH_sorts x a) (xH_sorts x b) (xH_lens x a) (xH_lens x b) i j k = 1) : MC M_H_copy 4 0 0 [.ref 30, .int (nI a), .int i, .int (nI b), .int j, .int k] (heapN N sc x m tl) (some (.int (sp_shX (xH_sorts x a) (xH_sorts x b) (xH_lens x a) (xH_lens x b) i j k))) (heapN N sc x m tl) := by
  refine mc_of k1_H_copy k2_H_copy (Nat.le_of_ble_eq_true rfl) ?_
  repeat (refine mw_step rfl ?_)
  refine mw_call (c_H_sortOn a ha) rfl rfl (Nat.le_of_ble_eq_true rfl) (Nat.le_refl _) (Nat.le_refl _) ?_
  repeat (refine mw_step rfl ?_)
  refine mw_call (c_H_sortOn b hb) rfl rfl (Nat.le_of_ble_eq_true rfl) (Nat.le_refl _) (Nat.le_refl _) ?_
  repeat (refine mw_step rfl ?_)
  unfold sp_shX at h ⊢
  refine mw_br rfl (fun h1 => ?_) (fun h1 => ?_)
  · repeat (refine mw_step rfl ?_)
    exact mw_r1 rfl trivial (Nat.le_refl _) (Nat.le_refl _) (by rw [if_pos h1]) rfl
  · rw [if_neg h1] at h ⊢
    repeat (refine mw_step rfl ?_)
    refine mw_br rfl (fun h2 => ?_) (fun h2 => ?_)
    · repeat (refine mw_step rfl ?_)
      exact mw_r1 rfl trivial (Nat.le_refl _) (Nat.le_refl _) (by rw [if_pos h2]) rfl
    · rw [if_neg h2] at h ⊢
      repeat (refine mw_step rfl ?_)
      refine mw_br rfl (fun h3 => ?_) (fun h3 => ?_)
      · repeat (refine mw_step rfl ?_)
        exact mw_r1 rfl trivial (Nat.le_refl _) (Nat.le_refl _) (by rw [if_pos h3]) rfl
      · rw [if_neg h3] at h ⊢
        repeat (refine mw_step rfl ?_)
        refine mw_br rfl (fun h4 => ?_) (fun h4 => ?_)
        · rw [if_pos h4] at h ⊢
          repeat (refine mw_step rfl ?_)
          refine mw_br rfl (fun h5 => ?_) (fun h5 => ?_)
          · repeat (refine mw_step rfl ?_)
            exact mw_r1 rfl trivial (Nat.le_refl _) (Nat.le_refl _) (by rw [if_pos h5]) rfl
          · rw [if_neg h5] at h ⊢
            repeat (refine mw_step rfl ?_)
            refine mw_call (c_H_reaches a ha i k) rfl rfl (Nat.le_of_ble_eq_true rfl) (Nat.le_refl _) (Nat.le_refl _) ?_
            refine mw_br rfl (fun h6 => ?_) (fun h6 => ?_)
            · rw [if_neg (bI_0.mp h6)] at h ⊢
              repeat (refine mw_step rfl ?_)
              exact mw_r1 rfl trivial (Nat.le_refl _) (Nat.le_refl _) rfl rfl
            · rw [if_pos (bI_of h6)] at h ⊢
              repeat (refine mw_step rfl ?_)
              refine mw_call (c_H_reaches b hb j k) rfl rfl (Nat.le_of_ble_eq_true rfl) (Nat.le_refl _) (Nat.le_refl _) ?_
              refine mw_br rfl (fun h7 => ?_) (fun h7 => ?_)
              · rw [if_neg (bI_0.mp h7)] at h ⊢
                repeat (refine mw_step rfl ?_)
                exact mw_r1 rfl trivial (Nat.le_refl _) (Nat.le_refl _) rfl rfl
              · rw [if_pos (bI_of h7)] at h
                exact absurd rfl h
        · rw [if_neg h4] at h ⊢
          repeat (refine mw_step rfl ?_)
          exact mw_r1 rfl trivial (Nat.le_refl _) (Nat.le_refl _) rfl rfl
theorem c_H_copy (a b i j k : Nat) (ha : a ≤ 5) (hb : b ≤ 5) (hi : i + k ≤ 60) (hj : j + k ≤ 60) (h : sp_shX (xH_sorts x a) (xH_sorts x b) (xH_lens x a) (xH_lens x b) (nI i) (nI j) (nI k) = 1) : MC M_H_copy 4 0 0 [.ref 30, .int (nI a), .int (nI i), .int (nI b), .int (nI j), .int (nI k)] (heapN N sc x m tl) (some (.int (nI k))) (heapN N sc (xH_cells_s x (va_cpy (xH_cells x) (xH_cells x) (a * 60 + i) (b * 60 + j) k)) m tl) := by
  have e1 := nI_clamp (n := a * 60 + i) (by omega)
  have e2 := nI_clamp (n := b * 60 + j) (by omega)
  have e3 := nI_clamp (n := k) (by omega)
  refine mc_of k1_H_copy k2_H_copy (Nat.le_of_ble_eq_true rfl) ?_
  repeat (refine mw_step rfl ?_)
  refine mw_call (c_H_sortOn a ha) rfl rfl (Nat.le_of_ble_eq_true rfl) (Nat.le_refl _) (Nat.le_refl _) ?_
  repeat (refine mw_step rfl ?_)
  refine mw_call (c_H_sortOn b hb) rfl rfl (Nat.le_of_ble_eq_true rfl) (Nat.le_refl _) (Nat.le_refl _) ?_
  repeat (refine mw_step rfl ?_)
  unfold sp_shX at h
  refine mw_br rfl (fun h1 => ?_) (fun h1 => ?_)
  · rw [if_pos h1] at h
    exact absurd h (by decide)
  · rw [if_neg h1] at h
    repeat (refine mw_step rfl ?_)
    refine mw_br rfl (fun h2 => ?_) (fun h2 => ?_)
    · rw [if_pos h2] at h
      exact absurd h (by decide)
    · rw [if_neg h2] at h
      repeat (refine mw_step rfl ?_)
      refine mw_br rfl (fun h3 => ?_) (fun h3 => ?_)
      · rw [if_pos h3] at h
        exact absurd h (by decide)
      · rw [if_neg h3] at h
        repeat (refine mw_step rfl ?_)
        refine mw_br rfl (fun h4 => ?_) (fun h4 => ?_)
        · rw [if_pos h4] at h
          repeat (refine mw_step rfl ?_)
          refine mw_br rfl (fun h5 => ?_) (fun h5 => ?_)
          · rw [if_pos h5] at h
            exact absurd h (by decide)
          · rw [if_neg h5] at h
            repeat (refine mw_step rfl ?_)
            refine mw_call (c_H_reaches a ha (nI i) (nI k)) rfl rfl (Nat.le_of_ble_eq_true rfl) (Nat.le_refl _) (Nat.le_refl _) ?_
            refine mw_br rfl (fun h6 => ?_) (fun h6 => ?_)
            · rw [if_neg (bI_0.mp h6)] at h
              exact absurd h (by decide)
            · rw [if_pos (bI_of h6)] at h
              repeat (refine mw_step rfl ?_)
              refine mw_call (c_H_reaches b hb (nI j) (nI k)) rfl rfl (Nat.le_of_ble_eq_true rfl) (Nat.le_refl _) (Nat.le_refl _) ?_
              refine mw_br rfl (fun h7 => ?_) (fun h7 => ?_)
              · rw [if_neg (bI_0.mp h7)] at h
                exact absurd h (by decide)
              · repeat (refine mw_step rfl ?_)
                rw [show nI a * 60 + nI i = nI (a * 60 + i) from n_m60 a i, show nI b * 60 + nI j = nI (b * 60 + j) from n_m60 b j]
                refine mw_cpyl (i0 := 34) (i1 := 34) (sp := nI (a * 60 + i)) (dp := nI (b * 60 + j)) (n := nI k) rfl (by decide) rfl rfl (by decide) (by decide) (nI_pos (by omega)) (nI_pos (by omega)) (nI_pos (by omega)) (by rw [e1, e3]; omega) (by rw [e2, e3]; omega) ?_
                rw [e1, e2, e3]
                repeat (refine mw_step rfl ?_)
                exact mw_r1 rfl trivial (Nat.le_refl _) (Nat.le_refl _) rfl rfl
        · rw [if_neg h4] at h
          exact absurd h (by decide)
theorem c_C_shift_bad (d e i j k : Int32) (h : ¬ ((0 ≤ d ∧ d ≤ nI 5) ∧ (0 ≤ e ∧ e ≤ nI 5))) : MC M_C_shift 5 0 0 [.ref 5, .int d, .int i, .int e, .int j, .int k] (heapN N sc x m tl) (some (.int (-1))) (heapN N sc x m tl) := by
  refine mc_of k1_C_shift k2_C_shift (Nat.le_of_ble_eq_true rfl) ?_
  repeat (refine mw_step rfl ?_)
  refine mw_call (c_isShelf _ _) rfl rfl (Nat.le_of_ble_eq_true rfl) (Nat.le_refl _) (Nat.le_refl _) ?_
  refine mw_br rfl (fun h1 => ?_) (fun h1 => ?_)
  · repeat (refine mw_step rfl ?_)
    exact mw_r1 rfl trivial (Nat.le_refl _) (Nat.le_refl _) rfl rfl
  · repeat (refine mw_step rfl ?_)
    refine mw_call (c_isShelf _ _) rfl rfl (Nat.le_of_ble_eq_true rfl) (Nat.le_refl _) (Nat.le_refl _) ?_
    refine mw_br rfl (fun h2 => ?_) (fun h2 => ?_)
    · repeat (refine mw_step rfl ?_)
      exact mw_r1 rfl trivial (Nat.le_refl _) (Nat.le_refl _) rfl rfl
    · exact absurd ⟨bI_of h1, bI_of h2⟩ h
theorem c_C_shift {a b : Nat} (ha : a ≤ 5) (hb : b ≤ 5) {i j k r : Int32} {h' : MH} (hC : MC M_H_copy 4 0 0 [.ref 30, .int (nI a), .int i, .int (nI b), .int j, .int k] (heapN N sc x m tl) (some (.int r)) h') : MC M_C_shift 5 0 0 [.ref 5, .int (nI a), .int i, .int (nI b), .int j, .int k] (heapN N sc x m tl) (some (.int r)) h' := by
  refine mc_of k1_C_shift k2_C_shift (Nat.le_of_ble_eq_true rfl) ?_
  repeat (refine mw_step rfl ?_)
  refine mw_call (c_isShelf _ _) rfl rfl (Nat.le_of_ble_eq_true rfl) (Nat.le_refl _) (Nat.le_refl _) ?_
  refine mw_brF rfl (bI_ne (rng_in ha (by decide))) ?_
  repeat (refine mw_step rfl ?_)
  refine mw_call (c_isShelf _ _) rfl rfl (Nat.le_of_ble_eq_true rfl) (Nat.le_refl _) (Nat.le_refl _) ?_
  refine mw_brF rfl (bI_ne (rng_in hb (by decide))) ?_
  repeat (refine mw_step rfl ?_)
  refine mw_call (hC) rfl rfl (Nat.le_of_ble_eq_true rfl) (Nat.le_refl _) (Nat.le_refl _) ?_
  exact mw_r1 rfl trivial (Nat.le_refl _) (Nat.le_refl _) rfl rfl
end SG
end
section
/-! shift of the reference; taken -/
def sp_shO (s1 s2 l1 l2 i j k : Int32) : Int32 := if s1 < 0 then -11 else if s2 < 0 then -11 else if s1 < 50 then -12 else if s1 = s2 then (if k < 0 then -13 else if i < 0 then -13 else if j < 0 then -13 else if l1 - k < i then -13 else if l2 - k < j then -13 else 1) else -12
def sp_car (f g : Nat → Int64) (p t : Nat) : Nat → Int64 := fun q => if q < t then f (p + q) else g q
theorem sp_car_0 (f g : Nat → Int64) (p : Nat) : sp_car f g p 0 = g := by
  funext q
  unfold sp_car
  rw [if_neg (by omega)]
theorem sp_car_up (f g : Nat → Int64) (p t : Nat) : vp_updL (sp_car f g p t) t (f (p + t)) = sp_car f g p (t + 1) := by
  funext q
  unfold vp_updL sp_car
  by_cases h : q = t
  · subst h
    rw [if_pos rfl, if_pos (by omega)]
  · rw [if_neg h]
    by_cases h2 : q < t
    · rw [if_pos h2, if_pos (by omega)]
    · rw [if_neg h2, if_neg (by omega)]
theorem va_cpy_0 (f g : Nat → Int64) (p q : Nat) : va_cpy f g p q 0 = g := by
  funext k
  unfold va_cpy
  rw [if_neg (by omega)]
theorem va_cpy_up (f g : Nat → Int64) (p q t : Nat) : vp_updL (va_cpy f g p q t) (q + t) (f (p + t)) = va_cpy f g p q (t + 1) := by
  funext k
  unfold vp_updL va_cpy
  by_cases h : k = q + t
  · subst h
    rw [if_pos rfl, if_pos (by omega), show q + t - q = t by omega]
  · rw [if_neg h]
    by_cases h2 : q ≤ k ∧ k < q + t
    · rw [if_pos h2, if_pos (by omega)]
    · rw [if_neg h2, if_neg (by omega)]
section SF
variable {N : Nat} {sc : Nat × (Nat → Int32)} {x : XS} {m : OS} {tl : MH} {n : Nat}
theorem n_60m2 (a i t : Nat) : nI 60 * nI a + nI i + nI t = nI (60 * a + i + t) := by rw [pk_mul, nI_add, nI_add]
theorem l_O_shift1 {v : Option Value} {hT : MH} (a b i j k : Nat) (ha : a ≤ 5) (hi : i + k ≤ 60) (g : Nat → Int64) (K : MW M_O_shift 2 0 0 v hT 0 0 147 [(0, .ref 39), (1, .int (nI a)), (2, .int (nI i)), (3, .int (nI b)), (4, .int (nI j)), (5, .int (nI k))] [] (heapN N sc x (zs_carried_s m (sp_car (zs_items m) g (60 * a + i) k)) tl)) : ∀ r t, t + r = k → MW M_O_shift 2 0 0 v hT 0 0 113 [(0, .ref 39), (1, .int (nI a)), (2, .int (nI i)), (3, .int (nI b)), (4, .int (nI j)), (5, .int (nI k)), (6, .int (nI t))] [] (heapN N sc x (zs_carried_s m (sp_car (zs_items m) g (60 * a + i) t)) tl) := by
  intro r
  induction r with
  | zero =>
    intro t ht
    rw [show t = k by omega]
    repeat (refine mw_step rfl ?_)
    refine mw_brF rfl (n_nlt (by omega) (by omega)) ?_
    refine mw_pick [0, 1, 2, 3, 4, 5] ?_
    exact K
  | succ r ih =>
    intro t ht
    repeat (refine mw_step rfl ?_)
    refine mw_brT rfl (n_lt (by omega) (by omega)) ?_
    repeat (refine mw_step rfl ?_)
    refine mw_lld rfl (n_60m2 a i t) (by omega) (by decide) ?_
    refine mw_lst rfl (rfl) (by omega) (by decide) ?_
    repeat (refine mw_to 113 rfl rfl ?_)
    rw [nI_1]
    refine mw_pick [0, 1, 2, 3, 4, 5, 6] ?_
    have := ih (t + 1) (by omega)
    rw [← sp_car_up] at this
    exact this
theorem l_O_shift2 {v : Option Value} {hT : MH} (a b i j k : Nat) (hb : b ≤ 5) (hj : j + k ≤ 60) (f : Nat → Int64) (p : Nat) (hc : ∀ q, q < k → zs_carried m q = f (p + q)) (K : MW M_O_shift 2 0 0 v hT 0 0 185 [(0, .ref 39), (5, .int (nI k))] [] (heapN N sc x (zs_items_s m (va_cpy f f p (60 * b + j) k)) tl)) : ∀ r t, t + r = k → MW M_O_shift 2 0 0 v hT 0 0 150 [(0, .ref 39), (1, .int (nI a)), (2, .int (nI i)), (3, .int (nI b)), (4, .int (nI j)), (5, .int (nI k)), (6, .int (nI t))] [] (heapN N sc x (zs_items_s m (va_cpy f f p (60 * b + j) t)) tl) := by
  intro r
  induction r with
  | zero =>
    intro t ht
    rw [show t = k by omega]
    repeat (refine mw_step rfl ?_)
    refine mw_brF rfl (n_nlt (by omega) (by omega)) ?_
    refine mw_pick [0, 5] ?_
    exact K
  | succ r ih =>
    intro t ht
    repeat (refine mw_step rfl ?_)
    refine mw_brT rfl (n_lt (by omega) (by omega)) ?_
    repeat (refine mw_step rfl ?_)
    refine mw_lld rfl (rfl) (by omega) (by decide) ?_
    rw [show zs_carried (zs_items_s m (va_cpy f f p (60 * b + j) t)) t = f (p + t) from hc t (by omega)]
    refine mw_lst rfl (n_60m2 b j t) (by omega) (by decide) ?_
    repeat (refine mw_to 150 rfl rfl ?_)
    rw [nI_1]
    refine mw_pick [0, 1, 2, 3, 4, 5, 6] ?_
    have := ih (t + 1) (by omega)
    rw [← va_cpy_up] at this
    exact this
theorem c_O_shift_bad (d e i j k : Int32) (h : ¬ ((0 ≤ d ∧ d ≤ nI 5) ∧ (0 ≤ e ∧ e ≤ nI 5))) : MC M_O_shift 2 0 0 [.ref 39, .int d, .int i, .int e, .int j, .int k] (heapN N sc x m tl) (some (.int (-1))) (heapN N sc x m tl) := by
  refine mc_of k1_O_shift k2_O_shift (Nat.le_of_ble_eq_true rfl) ?_
  repeat (refine mw_step rfl ?_)
  refine mw_call (c_O_isShelf _ _) rfl rfl (Nat.le_of_ble_eq_true rfl) (Nat.le_refl _) (Nat.le_refl _) ?_
  refine mw_br rfl (fun h1 => ?_) (fun h1 => ?_)
  · repeat (refine mw_step rfl ?_)
    exact mw_r1 rfl trivial (Nat.le_refl _) (Nat.le_refl _) rfl rfl
  · repeat (refine mw_step rfl ?_)
    refine mw_call (c_O_isShelf _ _) rfl rfl (Nat.le_of_ble_eq_true rfl) (Nat.le_refl _) (Nat.le_refl _) ?_
    refine mw_br rfl (fun h2 => ?_) (fun h2 => ?_)
    · repeat (refine mw_step rfl ?_)
      exact mw_r1 rfl trivial (Nat.le_refl _) (Nat.le_refl _) rfl rfl
    · exact absurd ⟨bI_of h1, bI_of h2⟩ h
theorem c_O_shift_ref (a b : Nat) (ha : a ≤ 5) (hb : b ≤ 5) (i j k : Int32) (h : ¬ sp_shO (zs_shelf m a) (zs_shelf m b) (zs_many m a) (zs_many m b) i j k = 1) : MC M_O_shift 2 0 0 [.ref 39, .int (nI a), .int i, .int (nI b), .int j, .int k] (heapN N sc x m tl) (some (.int (sp_shO (zs_shelf m a) (zs_shelf m b) (zs_many m a) (zs_many m b) i j k))) (heapN N sc x m tl) := by
  refine mc_of k1_O_shift k2_O_shift (Nat.le_of_ble_eq_true rfl) ?_
  repeat (refine mw_step rfl ?_)
  refine mw_call (c_O_isShelf _ _) rfl rfl (Nat.le_of_ble_eq_true rfl) (Nat.le_refl _) (Nat.le_refl _) ?_
  refine mw_brF rfl (bI_ne (rng_in ha (by decide))) ?_
  repeat (refine mw_step rfl ?_)
  refine mw_call (c_O_isShelf _ _) rfl rfl (Nat.le_of_ble_eq_true rfl) (Nat.le_refl _) (Nat.le_refl _) ?_
  refine mw_brF rfl (bI_ne (rng_in hb (by decide))) ?_
  repeat (refine mw_step rfl ?_)
  refine mw_ild rfl (rfl) (by omega) (by decide) ?_
  unfold sp_shO at h ⊢
  refine mw_br rfl (fun h1 => ?_) (fun h1 => ?_)
  · rw [if_pos h1]
    repeat (refine mw_step rfl ?_)
    exact mw_r1 rfl trivial (Nat.le_refl _) (Nat.le_refl _) rfl rfl
  · rw [if_neg h1] at h ⊢
    repeat (refine mw_step rfl ?_)
    refine mw_ild rfl (rfl) (by omega) (by decide) ?_
    refine mw_br rfl (fun h2 => ?_) (fun h2 => ?_)
    · rw [if_pos h2]
      repeat (refine mw_step rfl ?_)
      exact mw_r1 rfl trivial (Nat.le_refl _) (Nat.le_refl _) rfl rfl
    · rw [if_neg h2] at h ⊢
      repeat (refine mw_step rfl ?_)
      refine mw_ild rfl (rfl) (by omega) (by decide) ?_
      repeat (refine mw_step rfl ?_)
      refine mw_br rfl (fun h3 => ?_) (fun h3 => ?_)
      · rw [if_pos h3]
        repeat (refine mw_step rfl ?_)
        exact mw_r1 rfl trivial (Nat.le_refl _) (Nat.le_refl _) rfl rfl
      · rw [if_neg h3] at h ⊢
        repeat (refine mw_step rfl ?_)
        refine mw_ild rfl (rfl) (by omega) (by decide) ?_
        repeat (refine mw_step rfl ?_)
        refine mw_ild rfl (rfl) (by omega) (by decide) ?_
        refine mw_br rfl (fun h4 => ?_) (fun h4 => ?_)
        · rw [if_pos h4] at h ⊢
          repeat (refine mw_step rfl ?_)
          refine mw_br rfl (fun h5 => ?_) (fun h5 => ?_)
          · rw [if_pos h5]
            repeat (refine mw_step rfl ?_)
            exact mw_r1 rfl trivial (Nat.le_refl _) (Nat.le_refl _) rfl rfl
          · rw [if_neg h5] at h ⊢
            repeat (refine mw_step rfl ?_)
            refine mw_br rfl (fun h6 => ?_) (fun h6 => ?_)
            · rw [if_pos h6]
              repeat (refine mw_step rfl ?_)
              exact mw_r1 rfl trivial (Nat.le_refl _) (Nat.le_refl _) rfl rfl
            · rw [if_neg h6] at h ⊢
              repeat (refine mw_step rfl ?_)
              refine mw_br rfl (fun h7 => ?_) (fun h7 => ?_)
              · rw [if_pos h7]
                repeat (refine mw_step rfl ?_)
                exact mw_r1 rfl trivial (Nat.le_refl _) (Nat.le_refl _) rfl rfl
              · rw [if_neg h7] at h ⊢
                repeat (refine mw_step rfl ?_)
                refine mw_ild rfl (rfl) (by omega) (by decide) ?_
                repeat (refine mw_step rfl ?_)
                refine mw_br rfl (fun h8 => ?_) (fun h8 => ?_)
                · rw [if_pos h8]
                  repeat (refine mw_step rfl ?_)
                  exact mw_r1 rfl trivial (Nat.le_refl _) (Nat.le_refl _) rfl rfl
                · rw [if_neg h8] at h ⊢
                  repeat (refine mw_step rfl ?_)
                  refine mw_ild rfl (rfl) (by omega) (by decide) ?_
                  repeat (refine mw_step rfl ?_)
                  refine mw_br rfl (fun h9 => ?_) (fun h9 => ?_)
                  · rw [if_pos h9]
                    repeat (refine mw_step rfl ?_)
                    exact mw_r1 rfl trivial (Nat.le_refl _) (Nat.le_refl _) rfl rfl
                  · rw [if_neg h9] at h
                    exact absurd rfl h
        · rw [if_neg h4]
          repeat (refine mw_step rfl ?_)
          exact mw_r1 rfl trivial (Nat.le_refl _) (Nat.le_refl _) rfl rfl
theorem c_O_shift (a b i j k : Nat) (ha : a ≤ 5) (hb : b ≤ 5) (hi : i + k ≤ 60) (hj : j + k ≤ 60) (h : sp_shO (zs_shelf m a) (zs_shelf m b) (zs_many m a) (zs_many m b) (nI i) (nI j) (nI k) = 1) : MC M_O_shift 2 0 0 [.ref 39, .int (nI a), .int (nI i), .int (nI b), .int (nI j), .int (nI k)] (heapN N sc x m tl) (some (.int (nI k))) (heapN N sc x (zs_s m (zs_shelf m, zs_many m, va_cpy (zs_items m) (zs_items m) (60 * a + i) (60 * b + j) k, sp_car (zs_items m) (zs_carried m) (60 * a + i) k)) tl) := by
  refine mc_of k1_O_shift k2_O_shift (Nat.le_of_ble_eq_true rfl) ?_
  repeat (refine mw_step rfl ?_)
  refine mw_call (c_O_isShelf _ _) rfl rfl (Nat.le_of_ble_eq_true rfl) (Nat.le_refl _) (Nat.le_refl _) ?_
  refine mw_brF rfl (bI_ne (rng_in ha (by decide))) ?_
  repeat (refine mw_step rfl ?_)
  refine mw_call (c_O_isShelf _ _) rfl rfl (Nat.le_of_ble_eq_true rfl) (Nat.le_refl _) (Nat.le_refl _) ?_
  refine mw_brF rfl (bI_ne (rng_in hb (by decide))) ?_
  repeat (refine mw_step rfl ?_)
  refine mw_ild rfl (rfl) (by omega) (by decide) ?_
  unfold sp_shO at h
  refine mw_br rfl (fun h1 => ?_) (fun h1 => ?_)
  · rw [if_pos h1] at h
    exact absurd h (by decide)
  · rw [if_neg h1] at h
    repeat (refine mw_step rfl ?_)
    refine mw_ild rfl (rfl) (by omega) (by decide) ?_
    refine mw_br rfl (fun h2 => ?_) (fun h2 => ?_)
    · rw [if_pos h2] at h
      exact absurd h (by decide)
    · rw [if_neg h2] at h
      repeat (refine mw_step rfl ?_)
      refine mw_ild rfl (rfl) (by omega) (by decide) ?_
      repeat (refine mw_step rfl ?_)
      refine mw_br rfl (fun h3 => ?_) (fun h3 => ?_)
      · rw [if_pos h3] at h
        exact absurd h (by decide)
      · rw [if_neg h3] at h
        repeat (refine mw_step rfl ?_)
        refine mw_ild rfl (rfl) (by omega) (by decide) ?_
        repeat (refine mw_step rfl ?_)
        refine mw_ild rfl (rfl) (by omega) (by decide) ?_
        refine mw_br rfl (fun h4 => ?_) (fun h4 => ?_)
        · rw [if_pos h4] at h
          repeat (refine mw_step rfl ?_)
          refine mw_brF rfl (nI_pos (by omega)) ?_
          repeat (refine mw_step rfl ?_)
          refine mw_brF rfl (nI_pos (by omega)) ?_
          repeat (refine mw_step rfl ?_)
          refine mw_brF rfl (nI_pos (by omega)) ?_
          rw [if_neg (nI_pos (by omega)), if_neg (nI_pos (by omega)), if_neg (nI_pos (by omega))] at h
          repeat (refine mw_step rfl ?_)
          refine mw_ild rfl (rfl) (by omega) (by decide) ?_
          repeat (refine mw_step rfl ?_)
          refine mw_br rfl (fun h8 => ?_) (fun h8 => ?_)
          · rw [if_pos h8] at h
            exact absurd h (by decide)
          · rw [if_neg h8] at h
            repeat (refine mw_step rfl ?_)
            refine mw_ild rfl (rfl) (by omega) (by decide) ?_
            repeat (refine mw_step rfl ?_)
            refine mw_br rfl (fun h9 => ?_) (fun h9 => ?_)
            · rw [if_pos h9] at h
              exact absurd h (by decide)
            · repeat (refine mw_to 113 rfl rfl ?_)
              refine mw_pick [0, 1, 2, 3, 4, 5, 6] ?_
              have L := l_O_shift1 (N := N) (sc := sc) (x := x) (m := m) (tl := tl) (v := some (.int (nI k))) (hT := heapN N sc x (zs_s m (zs_shelf m, zs_many m, va_cpy (zs_items m) (zs_items m) (60 * a + i) (60 * b + j) k, sp_car (zs_items m) (zs_carried m) (60 * a + i) k)) tl) a b i j k ha hi (zs_carried m) ?_ k 0 (by omega)
              · rw [sp_car_0] at L
                exact L
              · repeat (refine mw_to 150 rfl rfl ?_)
                refine mw_pick [0, 1, 2, 3, 4, 5, 6] ?_
                have L2 := l_O_shift2 (N := N) (sc := sc) (x := x) (m := zs_carried_s m (sp_car (zs_items m) (zs_carried m) (60 * a + i) k)) (tl := tl) (v := some (.int (nI k))) (hT := heapN N sc x (zs_s m (zs_shelf m, zs_many m, va_cpy (zs_items m) (zs_items m) (60 * a + i) (60 * b + j) k, sp_car (zs_items m) (zs_carried m) (60 * a + i) k)) tl) a b i j k hb hj (zs_items m) (60 * a + i) (fun q hq => if_pos hq) ?_ k 0 (by omega)
                · rw [va_cpy_0] at L2
                  exact L2
                · repeat (refine mw_step rfl ?_)
                  exact mw_r1 rfl trivial (Nat.le_refl _) (Nat.le_refl _) rfl rfl
        · rw [if_neg h4] at h
          exact absurd h (by decide)
end SF
end
section
/-! rules whose cells are told by hypotheses -/
section RX
variable {M : MD} {d mc ms : Nat} {v : Option Value} {hT : MH} {cells slots pc : Nat} {l : ML} {st : List Value} {h : MH}
def m_fld (M : MD) (pc : Nat) : Option (Nat × Nat × Nat) := match m_find pc M.2.2.2.2.2 with
  | some (.getfield _, nx, a, k, _) => some (a, k, nx)
  | _ => none
theorem mw_getf {a k nx i : Nat} {fs : List Value} {w : Value} (hs : m_fld M pc = some (a, k, nx)) (hi : h[i]? = some (.inr (a, fs))) (h5 : 5 ≤ i) (hw : fs[k]? = some w) (K : MW M d mc ms v hT cells slots nx l (w :: st) h) : MW M d mc ms v hT cells slots pc l (.ref i :: st) h := by
  refine mw_step (pc' := nx) (l' := l) (st' := w :: st) (h' := h) ?_ K
  unfold m_fld at hs
  unfold m_step
  split at hs
  · next idx nx2 a2 k2 rest hf =>
    obtain ⟨pos, y, z⟩ := rest
    rw [hf]
    cases hs
    simp only [m_ins, hi, hw, show Nat.beq a a = true from Nat.beq_refl a, Nat.ble_eq_true_of_le h5, Bool.and_self, cond_true]
  · cases hs
def m_pfld (M : MD) (pc : Nat) : Option (Nat × Nat × Value × Nat) := match m_find pc M.2.2.2.2.2 with
  | some (.putfield _, nx, a, k, _, _, w) => some (a, k, w, nx)
  | _ => none
theorem mw_putf {a k nx i : Nat} {fs : List Value} {w u : Value} (hs : m_pfld M pc = some (a, k, w, nx)) (hi : h[i]? = some (.inr (a, fs))) (h5 : 5 ≤ i) (hk : k < fs.length) (hw : m_fit w u = true) (K : MW M d mc ms v hT cells slots nx l st (h.set i (.inr (a, fs.set k u)))) : MW M d mc ms v hT cells slots pc l (u :: .ref i :: st) h := by
  refine mw_step (pc' := nx) (l' := l) (st' := st) (h' := h.set i (.inr (a, fs.set k u))) ?_ K
  unfold m_pfld at hs
  unfold m_step
  split at hs
  · next idx nx2 a2 k2 pos y z hf =>
    rw [hf]
    cases hs
    have hb : Nat.blt k fs.length = true := Nat.ble_eq_true_of_le hk
    simp only [m_ins, hi, hw, hb, show Nat.beq a a = true from Nat.beq_refl a, Nat.ble_eq_true_of_le h5, Bool.and_self, cond_true]
  · cases hs
def m_isld (M : MD) (pc : Nat) : Option Nat := match m_find pc M.2.2.2.2.2 with
  | some (.iaload, nx, _) => some nx
  | _ => none
theorem mw_ildP {nx i a n : Nat} {j : Int32} {ty : FieldType} {f : Nat → Int32} (hs : m_isld M pc = some nx) (ha : h[a]? = some (.inl (ty, n, .inl f))) (hj : j = nI i) (hi : i < n) (hn : n < 2 ^ 31) (K : MW M d mc ms v hT cells slots nx l (.int (f i) :: st) h) : MW M d mc ms v hT cells slots pc l (.int j :: .ref a :: st) h := by
  refine mw_ild (n := n) (j := j) (f := f) (nx := nx) (r := st) ?_ hj hi hn K
  unfold m_isld at hs
  unfold m_ldI
  split at hs
  · next nx2 rest hf =>
    rw [hf]
    cases hs
    simp only [ha]
  · cases hs
def m_isst (M : MD) (pc : Nat) : Option Nat := match m_find pc M.2.2.2.2.2 with
  | some (.iastore, nx, _) => some nx
  | _ => none
theorem mw_istP {nx i a n : Nat} {j x : Int32} {ty : FieldType} {f : Nat → Int32} (hs : m_isst M pc = some nx) (ha : h[a]? = some (.inl (ty, n, .inl f))) (h5 : 5 ≤ a) (hj : j = nI i) (hi : i < n) (hn : n < 2 ^ 31) (K : MW M d mc ms v hT cells slots nx l st (h.set a (.inl (ty, n, .inl (upd f i x))))) : MW M d mc ms v hT cells slots pc l (.int x :: .int j :: .ref a :: st) h := by
  refine mw_ist (a := a) (ty := ty) (n := n) (j := j) (x := x) (f := f) (nx := nx) (r := st) ?_ hj hi hn K
  unfold m_isst at hs
  unfold m_stI
  split at hs
  · next nx2 rest hf =>
    rw [hf]
    cases hs
    simp only [ha, Nat.ble_eq_true_of_le h5, cond_true]
  · cases hs
def m_isal (M : MD) (pc : Nat) : Option Nat := match m_find pc M.2.2.2.2.2 with
  | some (.arraylength, nx, _) => some nx
  | _ => none
theorem mw_alenP {nx a n : Nat} {ty : FieldType} {u : (Nat → Int32) ⊕ (Nat → Int64) ⊕ (Nat → UInt32) ⊕ (Nat → UInt64) ⊕ (Nat → Option Nat)} (hs : m_isal M pc = some nx) (ha : h[a]? = some (.inl (ty, n, u))) (K : MW M d mc ms v hT cells slots nx l (.int (nI n) :: st) h) : MW M d mc ms v hT cells slots pc l (.ref a :: st) h := by
  refine mw_step (pc' := nx) (l' := l) (st' := .int (nI n) :: st) (h' := h) ?_ K
  unfold m_isal at hs
  unfold m_step
  split at hs
  · next nx2 rest hf =>
    obtain ⟨a2, k2, pos, y, z⟩ := rest
    rw [hf]
    cases hs
    simp only [m_ins, ha]
    rfl
  · cases hs
def m_isV (M : MD) (pc : Nat) : Bool := match m_find pc M.2.2.2.2.2 with
  | some (.invokevirtual _, _) => true
  | _ => false
/-- a call whose receiver's cell is told by a hypothesis -/
theorem mw_callP {M' : MD} {d' mc' ms' nx i ci : Nat} {As r : List Value} {fs : List Value} {w : Option Value} {h' : MH}
    (hC : MC M' d' mc' ms' (.ref i :: As) h w h') (hs : m_inv M pc st = some (M'.1, .ref i :: As, nx, r)) (hv : m_isV M pc = true) (hi : h[i]? = some (.inr (ci, fs))) (h5 : 5 ≤ i) (hk : (Nat.beq M'.2.2.2.2.1.1 1 && Nat.beq As.length M'.2.2.2.2.1.2.1 && Nat.beq ci M'.2.2.2.2.1.2.2) = true) (hd : d' + 1 ≤ d) (hc : cells + mc' ≤ mc) (hsl : slots + ms' ≤ ms)
    (K : MW M d mc ms v hT (cells + mc') (slots + ms') nx l (w.toList ++ r) h') : MW M d mc ms v hT cells slots pc l st h := by
  refine mw_call hC hs ?_ hd hc hsl K
  unfold m_isV at hv
  unfold m_kok
  split at hv
  · next idx rest hf =>
    rw [hf]
    simp only [hi, hk, Nat.ble_eq_true_of_le h5, Bool.and_self]
  · cases hv
end RX
end
section
/-! pieces -/
def sp_found (lk th mk : Int32) : Int32 := if (lk >>> (mk &&& 31)) &&& 1 = 1 then (if (th >>> (mk &&& 31)) &&& 1 = 1 then 1 else 2) else 0
abbrev pcell (w pl lk th kn : Int32) (nb : Nat) : MCell := .inr (3, [.int w, .int pl, .int lk, .int th, .int kn, .ref nb])
section PI
variable {h : MH} {i nb : Nat} {w pl lk th kn : Int32}
theorem c_I_foundOf (hi : h[i]? = some (pcell w pl lk th kn nb)) (h5 : 5 ≤ i) (mk : Int32) : MC M_I_foundOf 1 0 0 [.ref i, .int mk] h (some (.int (sp_found lk th mk))) h := by
  refine mc_of k1_I_foundOf k2_I_foundOf (Nat.le_of_ble_eq_true rfl) ?_
  repeat (refine mw_step rfl ?_)
  refine mw_getf rfl hi h5 rfl ?_
  repeat (refine mw_step rfl ?_)
  refine mw_call (c_hasBit _ _ _) rfl rfl (Nat.le_of_ble_eq_true rfl) (Nat.le_refl _) (Nat.le_refl _) ?_
  refine mw_br rfl (fun h1 => ?_) (fun h1 => ?_)
  · repeat (refine mw_step rfl ?_)
    exact mw_r1 rfl trivial (Nat.le_refl _) (Nat.le_refl _) (by rw [sp_found, if_neg (bI_0.mp h1)]) rfl
  · repeat (refine mw_step rfl ?_)
    refine mw_getf rfl hi h5 rfl ?_
    repeat (refine mw_step rfl ?_)
    refine mw_call (c_hasBit _ _ _) rfl rfl (Nat.le_of_ble_eq_true rfl) (Nat.le_refl _) (Nat.le_refl _) ?_
    refine mw_br rfl (fun h2 => ?_) (fun h2 => ?_)
    · repeat (refine mw_step rfl ?_)
      exact mw_r1 rfl trivial (Nat.le_refl _) (Nat.le_refl _) (by rw [sp_found, if_pos (bI_of h1), if_neg (bI_0.mp h2)]) rfl
    · repeat (refine mw_step rfl ?_)
      exact mw_r1 rfl trivial (Nat.le_refl _) (Nat.le_refl _) (by rw [sp_found, if_pos (bI_of h1), if_pos (bI_of h2)]) rfl
def sp_lk (lk mk u : Int32) : Int32 := if u = 0 then lk &&& ((1 <<< (mk &&& 31)) ^^^ (-1)) else lk ||| (1 <<< (mk &&& 31))
def sp_th (th mk u : Int32) : Int32 := if u = 1 then th ||| (1 <<< (mk &&& 31)) else th &&& ((1 <<< (mk &&& 31)) ^^^ (-1))
theorem set_set (h : MH) (i : Nat) (a b : MCell) : (h.set i a).set i b = h.set i b := List.set_set ..
theorem get_set {h : MH} {i : Nat} {a b : MCell} (hi : h[i]? = some a) : (h.set i b)[i]? = some b := List.getElem?_set_self (List.getElem?_eq_some_iff.mp hi).1
theorem c_I_setFound (hi : h[i]? = some (pcell w pl lk th kn nb)) (h5 : 5 ≤ i) (mk u : Int32) : MC M_I_setFound 0 0 0 [.ref i, .int mk, .int u] h none (h.set i (pcell w pl (sp_lk lk mk u) (sp_th th mk u) kn nb)) := by
  refine mc_of k1_I_setFound k2_I_setFound (Nat.le_of_ble_eq_true rfl) ?_
  repeat (refine mw_step rfl ?_)
  refine mw_br rfl (fun h1 => ?_) (fun h1 => ?_)
  · repeat (refine mw_step rfl ?_)
    refine mw_getf rfl hi h5 rfl ?_
    repeat (refine mw_step rfl ?_)
    refine mw_putf rfl hi h5 (Nat.le_of_ble_eq_true rfl) rfl ?_
    repeat (refine mw_step rfl ?_)
    refine mw_br rfl (fun h2 => ?_) (fun h2 => ?_)
    · exact absurd (h1.symm.trans h2) (by decide)
    · repeat (refine mw_step rfl ?_)
      refine mw_getf rfl (get_set hi) h5 rfl ?_
      repeat (refine mw_step rfl ?_)
      refine mw_putf rfl (get_set hi) h5 (Nat.le_of_ble_eq_true rfl) rfl ?_
      exact mw_r0 rfl (Nat.le_refl _) (Nat.le_refl _) rfl (by rw [set_set, sp_lk, if_pos h1, sp_th, if_neg h2]; rfl)
  · repeat (refine mw_step rfl ?_)
    refine mw_getf rfl hi h5 rfl ?_
    repeat (refine mw_step rfl ?_)
    refine mw_putf rfl hi h5 (Nat.le_of_ble_eq_true rfl) rfl ?_
    repeat (refine mw_step rfl ?_)
    refine mw_br rfl (fun h2 => ?_) (fun h2 => ?_)
    · repeat (refine mw_step rfl ?_)
      refine mw_getf rfl (get_set hi) h5 rfl ?_
      repeat (refine mw_step rfl ?_)
      refine mw_putf rfl (get_set hi) h5 (Nat.le_of_ble_eq_true rfl) rfl ?_
      exact mw_r0 rfl (Nat.le_refl _) (Nat.le_refl _) rfl (by rw [set_set, sp_lk, if_neg h1, sp_th, if_pos h2]; rfl)
    · repeat (refine mw_step rfl ?_)
      refine mw_getf rfl (get_set hi) h5 rfl ?_
      repeat (refine mw_step rfl ?_)
      refine mw_putf rfl (get_set hi) h5 (Nat.le_of_ble_eq_true rfl) rfl ?_
      exact mw_r0 rfl (Nat.le_refl _) (Nat.le_refl _) rfl (by rw [set_set, sp_lk, if_neg h1, sp_th, if_neg h2]; rfl)
theorem n_mkt (a b c : Nat) : (nI a * nI 6 + nI b) * nI 30 + nI c = nI ((a * 6 + b) * 30 + c) := by rw [pk_mul, nI_add, pk_mul, nI_add]
theorem c_I_numberAt {f : Nat → Int32} (hi : h[i]? = some (pcell w pl lk th kn nb)) (h5 : 5 ≤ i) (hn : h[nb]? = some (.inl (.int, 1080, .inl f))) (a b c : Nat) (hb : (a * 6 + b) * 30 + c < 1080) : MC M_I_numberAt 0 0 0 [.ref i, .int (nI a), .int (nI b), .int (nI c)] h (some (.int (f ((a * 6 + b) * 30 + c)))) h := by
  have e : (nI a * 6 + nI b) * 30 + nI c = nI ((a * 6 + b) * 30 + c) := n_mkt a b c
  refine mc_of k1_I_numberAt k2_I_numberAt (Nat.le_of_ble_eq_true rfl) ?_
  repeat (refine mw_step rfl ?_)
  refine mw_brF rfl (by rw [e]; exact nI_pos (by omega)) ?_
  repeat (refine mw_step rfl ?_)
  refine mw_getf rfl hi h5 rfl ?_
  refine mw_alenP rfl hn ?_
  refine mw_brT rfl (by rw [e]; exact n_lt (by omega) (by omega)) ?_
  repeat (refine mw_step rfl ?_)
  refine mw_getf rfl hi h5 rfl ?_
  repeat (refine mw_step rfl ?_)
  refine mw_ildP rfl hn e hb (by decide) ?_
  repeat (refine mw_step rfl ?_)
  exact mw_r1 rfl trivial (Nat.le_refl _) (Nat.le_refl _) rfl rfl
end PI
section PJ
variable {N : Nat} {sc : Nat × (Nat → Int32)} {x : XS} {m : OS} {tl : MH}
theorem n_predN {k : Int32} {n : Nat} (hn : n < 2 ^ 31) (h : 0 ≤ k ∧ k ≤ nI n - 1) : ∃ j, j < n ∧ k = nI j := by
  cases n with
  | zero =>
    rw [Int32.le_iff_toInt_le, Int32.le_iff_toInt_le] at h
    exact absurd h (by rw [show (nI 0 - 1).toInt = -1 from rfl, Int32.toInt_zero]; omega)
  | succ n =>
    rw [nI_pred] at h
    obtain ⟨j, hj, e⟩ := rng (by omega) h
    exact ⟨j, by omega, e⟩
theorem n_predI {n j : Nat} (hj : j < n) (hn : n < 2 ^ 31) : 0 ≤ nI j ∧ nI j ≤ nI n - 1 := by
  obtain ⟨q, rfl⟩ : ∃ q, n = q + 1 := ⟨n - 1, by omega⟩
  rw [nI_pred]
  exact rng_in (by omega) (by omega)
theorem c_pieceAt (k : Nat) (hN : N ≤ 8) (hk : k < N) : MC M_C_pieceAt 1 0 0 [.ref 5, .int (nI k)] (heapN N sc x m tl) (some (.ref (2 * k + 67))) (heapN N sc x m tl) := by
  refine mc_of k1_C_pieceAt k2_C_pieceAt (Nat.le_of_ble_eq_true rfl) ?_
  repeat (refine mw_step rfl ?_)
  refine mw_call (c_within _ _ _ _) rfl rfl (Nat.le_of_ble_eq_true rfl) (Nat.le_refl _) (Nat.le_refl _) ?_
  refine mw_brF rfl (bI_ne (n_predI hk (by omega))) ?_
  repeat (refine mw_step rfl ?_)
  refine mw_brT rfl (n_lt (b := 8) (by omega) (by omega)) ?_
  repeat (refine mw_step rfl ?_)
  refine mw_ald rfl (vp_in_nI (by omega) (by decide)) ?_
  rw [nI_clamp (by omega), k_pcs, if_pos hk]
  repeat (refine mw_step rfl ?_)
  exact mw_r1 rfl trivial (Nat.le_refl _) (Nat.le_refl _) rfl rfl
theorem c_pieceAt_bad (k : Int32) (hN : N ≤ 8) (hk : ¬ ∃ j, j < N ∧ k = nI j) : MC M_C_pieceAt 1 0 0 [.ref 5, .int k] (heapN N sc x m tl) (some .null) (heapN N sc x m tl) := by
  refine mc_of k1_C_pieceAt k2_C_pieceAt (Nat.le_of_ble_eq_true rfl) ?_
  repeat (refine mw_step rfl ?_)
  refine mw_call (c_within _ _ _ _) rfl rfl (Nat.le_of_ble_eq_true rfl) (Nat.le_refl _) (Nat.le_refl _) ?_
  refine mw_brT rfl (bI_f (fun z => hk (n_predN (by omega) z))) ?_
  repeat (refine mw_step rfl ?_)
  exact mw_r1 rfl trivial (Nat.le_refl _) (Nat.le_refl _) rfl rfl
theorem app_set {h : MH} {i : Nat} (hi : i < h.length) (a b : MCell) : (h ++ [a]).set i b = h.set i b ++ [a] := List.set_append_left _ _ hi
theorem app_get {h : MH} {i : Nat} {a c : MCell} (hi : h[i]? = some c) : (h ++ [a])[i]? = some c := by
  rw [List.getElem?_append_left (List.getElem?_eq_some_iff.mp hi).1]
  exact hi
theorem c_I_init {h : MH} {i : Nat} (hi : h[i]? = some (.inr (3, [.int 0, .int 0, .int 0, .int 0, .int 0, .null]))) (h5 : 5 ≤ i) (w pl : Int32) : MC M_I_init 1 1 1080 [.ref i, .int w, .int pl] h none (h.set i (pcell w pl 0 0 0 h.length) ++ [.inl (.int, 1080, .inl fun _ => 0)]) := by
  have hl : i < h.length := (List.getElem?_eq_some_iff.mp hi).1
  refine mc_of k1_I_init k2_I_init (Nat.le_of_ble_eq_true rfl) ?_
  repeat (refine mw_step rfl ?_)
  refine mw_obj rfl (by decide) ?_
  repeat (refine mw_step rfl ?_)
  refine mw_putf rfl hi h5 (Nat.le_of_ble_eq_true rfl) rfl ?_
  repeat (refine mw_step rfl ?_)
  refine mw_putf rfl (get_set hi) h5 (Nat.le_of_ble_eq_true rfl) rfl ?_
  rw [set_set]
  repeat (refine mw_step rfl ?_)
  refine mw_putf rfl (get_set hi) h5 (Nat.le_of_ble_eq_true rfl) rfl ?_
  rw [set_set]
  repeat (refine mw_step rfl ?_)
  refine mw_newa (N := 1080) (by decide) (by decide) rfl (by decide) (Nat.le_refl _) (Nat.le_refl _) ?_
  repeat (refine mw_step rfl ?_)
  refine mw_putf rfl (app_get (get_set hi)) h5 (Nat.le_of_ble_eq_true rfl) rfl ?_
  rw [app_set (by rw [List.length_set]; exact hl), set_set, List.length_set]
  repeat (refine mw_step rfl ?_)
  refine mw_putf rfl (app_get (get_set hi)) h5 (Nat.le_of_ble_eq_true rfl) rfl ?_
  rw [app_set (by rw [List.length_set]; exact hl), set_set]
  repeat (refine mw_step rfl ?_)
  refine mw_putf rfl (app_get (get_set hi)) h5 (Nat.le_of_ble_eq_true rfl) rfl ?_
  rw [app_set (by rw [List.length_set]; exact hl), set_set]
  exact mw_r0 rfl (Nat.le_refl _) (Nat.le_refl _) rfl rfl
def m_isast (M : MD) (pc : Nat) : Option Nat := match m_find pc M.2.2.2.2.2 with
  | some (.aastore, nx, _) => some nx
  | _ => none
theorem mw_aastP {M : MD} {d mc ms : Nat} {v : Option Value} {hT : MH} {cells slots pc : Nat} {l : ML} {st : List Value} {h : MH} {nx a y n i : Nat} {j : Int32} {ty : FieldType} {f : Nat → Option Nat} {fs : List Value} (hs : m_isast M pc = some nx) (ha : h[a]? = some (.inl (ty, n, .inr (.inr (.inr (.inr f)))))) (hy : h[y]? = some (.inr (3, fs))) (h5 : 5 ≤ a) (h6 : 5 ≤ y) (hj : j = nI i) (hi : i < n) (hn : n < 2 ^ 31) (K : MW M d mc ms v hT cells slots nx l st (h.set a (.inl (ty, n, .inr (.inr (.inr (.inr (va_up f i (some y)))))))) ) : MW M d mc ms v hT cells slots pc l (.ref y :: .int j :: .ref a :: st) h := by
  refine mw_ast (n := n) (j := j) (h' := h.set a (.inl (ty, n, .inr (.inr (.inr (.inr (va_up f j.toNatClampNeg (some y)))))))) (nx := nx) (r := st) ?_ (by rw [hj]; exact vp_in_nI hi hn) (by rw [hj, nI_clamp (by omega)]; exact K)
  unfold m_isast at hs
  unfold m_ast
  split at hs
  · next nx2 rest hf =>
    rw [hf]
    cases hs
    simp only [ha, hy, Nat.ble_eq_true_of_le h5, Nat.ble_eq_true_of_le h6, Bool.and_self, Nat.beq_refl, cond_true]
  · cases hs
theorem k_pcs_up (n : Nat) : va_up (k_pcs n) n (some (2 * n + 67)) = k_pcs (n + 1) := by
  funext j
  unfold va_up k_pcs
  by_cases h : j = n
  · subst h
    rw [if_pos rfl, if_pos (by omega)]
  · rw [if_neg h]
    by_cases h2 : j < n
    · rw [if_pos h2, if_pos (by omega)]
    · rw [if_neg h2, if_neg (by omega)]
/-- a new piece -/
def p0 (w pl : Int32) : PieceS := (w, pl, 0, 0, 0, fun _ => 0)
theorem c_addPiece (P : List PieceS) (h8 : P.length < 8) (w pl : Int32) : MC M_C_addPiece 2 2 1086 [.ref 5, .int w, .int pl] (heap sc x m P) none (heap sc x m (P ++ [p0 w pl])) := by
  have hlen : (heap sc x m P).length = 2 * P.length + 67 := by rw [heap, heapN_len, pcells_len]
  refine mc_of k1_C_addPiece k2_C_addPiece (Nat.le_of_ble_eq_true rfl) ?_
  unfold heap
  repeat (refine mw_step rfl ?_)
  refine mw_brT rfl (n_lt (b := 8) h8 (by omega)) ?_
  repeat (refine mw_step rfl ?_)
  refine mw_new rfl (Nat.le_of_ble_eq_true rfl) (Nat.le_of_ble_eq_true rfl) ?_
  rw [show (heapN P.length sc x m (pcells 67 P)).length = 2 * P.length + 67 from hlen, heapN_app]
  repeat (refine mw_step rfl ?_)
  have hi : (heapN P.length sc x m (pcells 67 P ++ [.inr (3, m_dfl 3)]))[2 * P.length + 67]? = some (.inr (3, m_dfl 3)) := by
    rw [heapN_get, ← pcells_len P 67, List.getElem?_concat_length]
  refine mw_call (c_I_init hi (by omega) w pl) rfl rfl (Nat.le_of_ble_eq_true rfl) (Nat.le_of_ble_eq_true rfl) (Nat.le_of_ble_eq_true rfl) ?_
  rw [heapN_len, heapN_set, heapN_app]
  have e1 : ((pcells 67 P ++ [(.inr (3, m_dfl 3) : MCell)]).set (2 * P.length) (pcell w pl 0 0 0 ((pcells 67 P ++ [(.inr (3, m_dfl 3) : MCell)]).length + 67)) ++ [.inl (.int, 1080, .inl fun _ => 0)]) = pcells 67 (P ++ [p0 w pl]) := by
    rw [pcells_app, List.length_append, pcells_len, ← pcells_len P 67, List.set_append_right _ _ (Nat.le_refl _), Nat.sub_self, pcells_len]
    simp [p0]
  rw [e1]
  have hy : (heapN P.length sc x m (pcells 67 (P ++ [p0 w pl])))[2 * P.length + 67]? = some (pcell w pl 0 0 0 (2 * P.length + 67 + 1)) := by
    rw [heapN_get]
    exact (pcells_get (P ++ [p0 w pl]) 67 P.length (p0 w pl) (by simp)).1
  refine mw_aastP (a := 35) (i := P.length) rfl rfl hy (by decide) (by omega) rfl (by omega) (by decide) ?_
  rw [k_pcs_up]
  repeat (refine mw_step rfl ?_)
  exact mw_r0 rfl (Nat.le_of_ble_eq_true rfl) (Nat.le_of_ble_eq_true rfl) rfl (by rw [List.length_append, List.length_singleton, nI_1]; rfl)
end PJ
end
section
/-! parts, marks, images as they are called -/
theorem tdiv_toInt (y : Int32) (d : Nat) (h0 : 1 < d) (hd : d < 2 ^ 31) : (y / nI d).toInt = y.toInt.tdiv d := by
  rw [Int32.toInt_div_of_ne_right _ _ (fun e => by
    have := congrArg Int32.toInt e
    rw [nI_toInt hd] at this
    have h2 : (-1 : Int32).toInt = -1 := rfl
    omega), nI_toInt hd]
theorem trem_toInt (y : Int32) (d : Nat) (h0 : 1 < d) (hd : d < 2 ^ 31) : (y - y / nI d * nI d).toInt = y.toInt.tmod d := by
  have h1 := tdiv_toInt y d h0 hd
  have b1 := Int32.toInt_lt y
  have b2 := Int32.le_toInt y
  have hm : y.toInt.tdiv d * d + y.toInt.tmod d = y.toInt := Int.tdiv_mul_add_tmod y.toInt d
  have hb : -(d : Int) < y.toInt.tmod d ∧ y.toInt.tmod d < d := tmod_bounds (by omega)
  have hs : 0 ≤ y.toInt → 0 ≤ y.toInt.tmod d := fun z => Int.tmod_nonneg _ z
  have hs2 : y.toInt ≤ 0 → y.toInt.tmod d ≤ 0 := fun z => by
    have e : y.toInt.tmod d = -((-y.toInt).tmod d) := by rw [Int.neg_tmod, Int.neg_neg]
    have := Int.tmod_nonneg (a := -y.toInt) d (by omega)
    omega
  have e1 : (y / nI d * nI d).toInt = y.toInt.tdiv d * d := by
    rw [Int32.toInt_mul, h1, nI_toInt hd]
    have hr : -2 ^ 31 ≤ y.toInt.tdiv d * d ∧ y.toInt.tdiv d * d < 2 ^ 31 := by
      rcases Int.le_total 0 y.toInt with z | z
      · have := hs z
        omega
      · have := hs2 z
        omega
    exact Int.bmod_eq_of_le (by omega) (by omega)
  rw [Int32.toInt_sub, e1]
  rw [show y.toInt - y.toInt.tdiv d * d = y.toInt.tmod d by omega]
  exact Int.bmod_eq_of_le (by omega) (by omega)
/-- below 0 either the quotient or the rest is below 0 -/
theorem dm_neg (y : Int32) (d : Nat) (h0 : 1 < d) (hd : d < 2 ^ 31) (hy : y < 0) : y / nI d < 0 ∨ y - y / nI d * nI d < 0 := by
  rw [Int32.lt_iff_toInt_lt, Int32.toInt_zero] at hy
  rw [Int32.lt_iff_toInt_lt, Int32.lt_iff_toInt_lt, Int32.toInt_zero, tdiv_toInt y d h0 hd, trem_toInt y d h0 hd]
  have hm : (d : Int) * y.toInt.tdiv d + y.toInt.tmod d = y.toInt := Int.mul_tdiv_add_tmod y.toInt d
  rcases Int.lt_or_le (y.toInt.tdiv d) 0 with z | z
  · exact Or.inl z
  · rcases Int.lt_or_le (y.toInt.tmod d) 0 with z2 | z2
    · exact Or.inr z2
    · have := Int.mul_nonneg (Int.natCast_nonneg d) z
      omega
section PK
variable {sc : Nat × (Nat → Int32)} {x : XS} {m : OS} {P : List PieceS}
theorem c_C_part_bad (wp : Int32) (h : ¬ (0 ≤ wp ∧ wp ≤ nI 99)) : MC M_C_part 3 2 1086 [.ref 5, .int wp] (heap sc x m P) (some (.int (-1))) (heap sc x m P) := by
  refine mc_of k1_C_part k2_C_part (Nat.le_of_ble_eq_true rfl) ?_
  unfold heap
  repeat (refine mw_step rfl ?_)
  refine mw_call (c_within _ _ _ _) rfl rfl (Nat.le_of_ble_eq_true rfl) (Nat.le_of_ble_eq_true rfl) (Nat.le_of_ble_eq_true rfl) ?_
  refine mw_brT rfl (bI_f h) ?_
  repeat (refine mw_step rfl ?_)
  exact mw_r1 rfl trivial (Nat.zero_le _) (Nat.zero_le _) rfl rfl
theorem c_C_part_full (wp : Int32) (h : 0 ≤ wp ∧ wp ≤ nI 99) (h8 : P.length = 8) : MC M_C_part 3 2 1086 [.ref 5, .int wp] (heap sc x m P) (some (.int (-3))) (heap sc x m P) := by
  refine mc_of k1_C_part k2_C_part (Nat.le_of_ble_eq_true rfl) ?_
  unfold heap
  repeat (refine mw_step rfl ?_)
  refine mw_call (c_within _ _ _ _) rfl rfl (Nat.le_of_ble_eq_true rfl) (Nat.le_of_ble_eq_true rfl) (Nat.le_of_ble_eq_true rfl) ?_
  refine mw_brF rfl (bI_ne h) ?_
  repeat (refine mw_step rfl ?_)
  refine mw_brF rfl (by rw [h8]; decide) ?_
  repeat (refine mw_step rfl ?_)
  exact mw_r1 rfl trivial (Nat.zero_le _) (Nat.zero_le _) rfl rfl
theorem c_C_part (wp : Int32) (h : 0 ≤ wp ∧ wp ≤ nI 99) (h8 : P.length < 8) : MC M_C_part 3 2 1086 [.ref 5, .int wp] (heap sc x m P) (some (.int (nI P.length))) (heap sc x m (P ++ [p0 (wp / 10) (wp - wp / 10 * 10)])) := by
  refine mc_of k1_C_part k2_C_part (Nat.le_of_ble_eq_true rfl) ?_
  unfold heap
  repeat (refine mw_step rfl ?_)
  refine mw_call (c_within _ _ _ _) rfl rfl (Nat.le_of_ble_eq_true rfl) (Nat.le_of_ble_eq_true rfl) (Nat.le_of_ble_eq_true rfl) ?_
  refine mw_brF rfl (bI_ne h) ?_
  repeat (refine mw_step rfl ?_)
  refine mw_brT rfl (n_lt (b := 8) h8 (by omega)) ?_
  repeat (refine mw_step rfl ?_)
  refine mw_div rfl (by decide) ?_
  repeat (refine mw_step rfl ?_)
  refine mw_div rfl (by decide) ?_
  refine mw_call (c_addPiece (sc := sc) (x := x) (m := m) P h8 (wp / 10) (wp - wp / 10 * 10)) rfl rfl (Nat.le_of_ble_eq_true rfl) (Nat.le_of_ble_eq_true rfl) (Nat.le_of_ble_eq_true rfl) ?_
  unfold heap
  repeat (refine mw_step rfl ?_)
  exact mw_r1 rfl trivial (Nat.le_of_ble_eq_true rfl) (Nat.le_of_ble_eq_true rfl) (by rw [List.length_append, List.length_singleton, nI_pred]) rfl
theorem l_O_adds {N : Nat} {tl : MH} {v : Option Value} {hT : MH} (n : Nat) (hn : n < 8) (hp : zp_parts m = nI n) (w pl : Int32) (f0 : Nat → Int32) (K : MW M_O_adds 0 0 0 v hT 0 0 49 [(0, .ref 39)] [] (heapN N sc x (zp_found_s m (fun q => if 6 * n ≤ q ∧ q < 6 * n + 6 then 0 else f0 q)) tl)) : ∀ r k, k + r = 6 → MW M_O_adds 0 0 0 v hT 0 0 22 [(0, .ref 39), (1, .int w), (2, .int pl), (3, .int (nI k))] [] (heapN N sc x (zp_found_s m (fun q => if 6 * n ≤ q ∧ q < 6 * n + k then 0 else f0 q)) tl) := by
  intro r
  induction r with
  | zero =>
    intro k hk
    rw [show k = 6 by omega]
    repeat (refine mw_step rfl ?_)
    refine mw_brF rfl (by decide) ?_
    refine mw_pick [0] ?_
    exact K
  | succ r ih =>
    intro k hk
    repeat (refine mw_step rfl ?_)
    refine mw_brT rfl (n_lt (b := 6) (by omega) (by omega)) ?_
    repeat (refine mw_step rfl ?_)
    rw [show zp_parts (zp_found_s m (fun q => if 6 * n ≤ q ∧ q < 6 * n + k then 0 else f0 q)) = nI n from hp]
    refine mw_ist rfl (show (6 : Int32) * nI n + nI k = nI (6 * n + k) by rw [show (6 : Int32) = nI 6 from rfl, pk_mul, nI_add]) (by omega) (by decide) ?_
    repeat (refine mw_to 22 rfl rfl ?_)
    rw [nI_1]
    refine mw_pick [0, 1, 2, 3] ?_
    have e : upd (fun q => if 6 * n ≤ q ∧ q < 6 * n + k then 0 else f0 q) (6 * n + k) 0 = fun q => if 6 * n ≤ q ∧ q < 6 * n + (k + 1) then 0 else f0 q := by
      funext q
      unfold upd
      by_cases h1 : q = 6 * n + k
      · rw [if_pos h1, if_pos (by omega)]
      · rw [if_neg h1]
        show (if 6 * n ≤ q ∧ q < 6 * n + k then (0 : Int32) else f0 q) = _
        by_cases h2 : 6 * n ≤ q ∧ q < 6 * n + k
        · rw [if_pos h2, if_pos (by omega)]
        · rw [if_neg h2, if_neg (by omega)]
    have := ih (k + 1) (by omega)
    rw [← e] at this
    exact this
def sp_adds (a : zpS) (n : Nat) (w pl : Int32) : zpS := (nI (n + 1), upd a.2.1 n w, upd a.2.2.1 n pl, fun q => if 6 * n ≤ q ∧ q < 6 * n + 6 then 0 else a.2.2.2 q)
abbrev gP (m : OS) : zpS := m.2.1
theorem c_O_adds {N : Nat} {tl : MH} (n : Nat) (hn : n < 8) (hp : zp_parts m = nI n) (w pl : Int32) : MC M_O_adds 0 0 0 [.ref 39, .int w, .int pl] (heapN N sc x m tl) none (heapN N sc x (zp_s m (sp_adds (gP m) n w pl)) tl) := by
  refine mc_of k1_O_adds k2_O_adds (Nat.le_of_ble_eq_true rfl) ?_
  repeat (refine mw_step rfl ?_)
  refine mw_ist rfl (hp) (by omega) (by decide) ?_
  repeat (refine mw_step rfl ?_)
  refine mw_ist rfl (hp) (by omega) (by decide) ?_
  repeat (refine mw_to 22 rfl rfl ?_)
  refine mw_pick [0, 1, 2, 3] ?_
  have L := l_O_adds (N := N) (sc := sc) (x := x) (tl := tl) (m := zp_s m (zp_parts m, upd (zp_wood m) n w, upd (zp_place m) n pl, zp_found m)) (v := none) (hT := heapN N sc x (zp_s m (sp_adds (gP m) n w pl)) tl) n hn hp w pl (zp_found m) (by
    repeat (refine mw_step rfl ?_)
    exact mw_r0 rfl (Nat.le_refl _) (Nat.le_refl _) rfl (by rw [sp_adds, ← nI_1, ← hp]; rfl)) 6 0 (by omega)
  rw [show (fun q => if 6 * n ≤ q ∧ q < 6 * n + 0 then 0 else zp_found m q) = zp_found m from funext fun q => if_neg (by omega)] at L
  exact L
theorem c_O_part_bad {N : Nat} {tl : MH} (wp : Int32) (h : ¬ (0 ≤ wp ∧ wp ≤ nI 99)) : MC M_O_part 1 0 0 [.ref 39, .int wp] (heapN N sc x m tl) (some (.int (-1))) (heapN N sc x m tl) := by
  refine mc_of k1_O_part k2_O_part (Nat.le_of_ble_eq_true rfl) ?_
  repeat (refine mw_step rfl ?_)
  refine mw_call (c_withinO32 _ wp 0 (nI 99)) rfl rfl (Nat.le_of_ble_eq_true rfl) (Nat.le_refl _) (Nat.le_refl _) ?_
  refine mw_brT rfl (bI_f h) ?_
  repeat (refine mw_step rfl ?_)
  exact mw_r1 rfl trivial (Nat.le_refl _) (Nat.le_refl _) rfl rfl
theorem c_O_part_full {N : Nat} {tl : MH} (wp : Int32) (h : 0 ≤ wp ∧ wp ≤ nI 99) (hp : zp_parts m = nI 8) : MC M_O_part 1 0 0 [.ref 39, .int wp] (heapN N sc x m tl) (some (.int (-3))) (heapN N sc x m tl) := by
  refine mc_of k1_O_part k2_O_part (Nat.le_of_ble_eq_true rfl) ?_
  repeat (refine mw_step rfl ?_)
  refine mw_call (c_withinO32 _ wp 0 (nI 99)) rfl rfl (Nat.le_of_ble_eq_true rfl) (Nat.le_refl _) (Nat.le_refl _) ?_
  refine mw_brF rfl (bI_ne h) ?_
  repeat (refine mw_step rfl ?_)
  refine mw_brT rfl (by rw [hp]; rfl) ?_
  repeat (refine mw_step rfl ?_)
  exact mw_r1 rfl trivial (Nat.le_refl _) (Nat.le_refl _) rfl rfl
theorem c_O_part {N : Nat} {tl : MH} (wp : Int32) (h : 0 ≤ wp ∧ wp ≤ nI 99) (n : Nat) (hn : n < 8) (hp : zp_parts m = nI n) : MC M_O_part 1 0 0 [.ref 39, .int wp] (heapN N sc x m tl) (some (.int (nI n))) (heapN N sc x (zp_s m (sp_adds (gP m) n (wp / 10) (wp - wp / 10 * 10))) tl) := by
  refine mc_of k1_O_part k2_O_part (Nat.le_of_ble_eq_true rfl) ?_
  repeat (refine mw_step rfl ?_)
  refine mw_call (c_withinO32 _ wp 0 (nI 99)) rfl rfl (Nat.le_of_ble_eq_true rfl) (Nat.le_refl _) (Nat.le_refl _) ?_
  refine mw_brF rfl (bI_ne h) ?_
  repeat (refine mw_step rfl ?_)
  refine mw_brF rfl (by rw [hp]; intro e; have := (nI_eq (by omega) (b := 8) (by omega)).mp e; omega) ?_
  repeat (refine mw_step rfl ?_)
  refine mw_div rfl (by decide) ?_
  repeat (refine mw_step rfl ?_)
  refine mw_div rfl (by decide) ?_
  refine mw_call (c_O_adds n hn hp _ _) rfl rfl (Nat.le_of_ble_eq_true rfl) (Nat.le_refl _) (Nat.le_refl _) ?_
  repeat (refine mw_step rfl ?_)
  exact mw_r1 rfl trivial (Nat.le_refl _) (Nat.le_refl _) (by rw [show zp_parts (zp_s m (sp_adds (gP m) n (wp / 10) (wp - wp / 10 * 10))) = nI (n + 1) from rfl, nI_pred]) rfl
end PK
end
section
/-! marks found, told numbers, images -/
theorem piece_set1 {P : List PieceS} {k : Nat} {p q : PieceS} (hp : P[k]? = some p) (hn : i_num q = i_num p) : (pcells 67 P).set (2 * k) (pcell (i_wood q) (i_place q) (i_looked q) (i_there q) (i_known q) (2 * k + 67 + 1)) = pcells 67 (P.set k q) := by
  have hk : k < P.length := (List.getElem?_eq_some_iff.mp hp).1
  rw [pcells_set P 67 k q hk, hn]
  apply List.ext_getElem?
  intro j
  by_cases h1 : 2 * k + 1 = j
  · subst h1
    rw [List.getElem?_set_ne (by omega), (pcells_get P 67 k p hp).2, List.getElem?_set_self (by rw [List.length_set, pcells_len]; omega)]
  · rw [List.getElem?_set_ne h1]
def sp_pm (N : Nat) (pm : Int32) : Prop := (∃ k, k < N ∧ pm / 10 = nI k) ∧ (0 ≤ pm - pm / 10 * 10 ∧ pm - pm / 10 * 10 ≤ nI 5)
section MK
variable {sc : Nat × (Nat → Int32)} {x : XS} {m : OS} {P : List PieceS}
theorem heap_get {k : Nat} {p : PieceS} (hp : P[k]? = some p) : (heap sc x m P)[2 * k + 67]? = some (pcell (i_wood p) (i_place p) (i_looked p) (i_there p) (i_known p) (2 * k + 67 + 1)) ∧ (heap sc x m P)[2 * k + 67 + 1]? = some (.inl (.int, 1080, .inl (i_num p))) := by
  obtain ⟨h1, h2⟩ := pcells_get P 67 k p hp
  refine ⟨h1, ?_⟩
  rw [show 2 * k + 67 + 1 = 2 * k + 1 + 67 by omega]
  exact h2
theorem c_C_find_bad (h8 : P.length ≤ 8) (pm u : Int32) (h : ¬ (sp_pm P.length pm ∧ (0 ≤ u ∧ u ≤ nI 2))) : MC M_C_find 2 0 0 [.ref 5, .int pm, .int u] (heap sc x m P) (some (.int (-1))) (heap sc x m P) := by
  refine mc_of k1_C_find k2_C_find (Nat.le_of_ble_eq_true rfl) ?_
  unfold heap
  repeat (refine mw_step rfl ?_)
  refine mw_div rfl (by decide) ?_
  by_cases hk : ∃ j, j < P.length ∧ pm / 10 = nI j
  · obtain ⟨k, hk, e⟩ := id hk
    have hkk : ∃ j, j < P.length ∧ pm / 10 = nI j := ⟨k, hk, e⟩
    rw [e]
    refine mw_call (c_pieceAt k h8 hk) rfl rfl (Nat.le_of_ble_eq_true rfl) (Nat.le_refl _) (Nat.le_refl _) ?_
    repeat (refine mw_step rfl ?_)
    refine mw_div rfl (by decide) ?_
    repeat (refine mw_step rfl ?_)
    refine mw_call (c_isMark _ _) rfl rfl (Nat.le_of_ble_eq_true rfl) (Nat.le_refl _) (Nat.le_refl _) ?_
    refine mw_br rfl (fun h1 => ?_) (fun h1 => ?_)
    · repeat (refine mw_step rfl ?_)
      exact mw_r1 rfl trivial (Nat.le_refl _) (Nat.le_refl _) rfl rfl
    · repeat (refine mw_step rfl ?_)
      refine mw_call (c_within _ _ _ _) rfl rfl (Nat.le_of_ble_eq_true rfl) (Nat.le_refl _) (Nat.le_refl _) ?_
      refine mw_br rfl (fun h2 => ?_) (fun h2 => ?_)
      · repeat (refine mw_step rfl ?_)
        exact mw_r1 rfl trivial (Nat.le_refl _) (Nat.le_refl _) rfl rfl
      · exact absurd ⟨⟨hkk, bI_of h1⟩, bI_of h2⟩ h
  · refine mw_call (c_pieceAt_bad _ h8 hk) rfl rfl (Nat.le_of_ble_eq_true rfl) (Nat.le_refl _) (Nat.le_refl _) ?_
    repeat (refine mw_step rfl ?_)
    refine mw_div rfl (by decide) ?_
    repeat (refine mw_step rfl ?_)
    exact mw_r1 rfl trivial (Nat.le_refl _) (Nat.le_refl _) rfl rfl
theorem c_C_find (h8 : P.length ≤ 8) (pm u : Int32) (k j : Nat) (p : PieceS) (hp : P[k]? = some p) (e1 : pm / 10 = nI k) (e2 : pm - pm / 10 * 10 = nI j) (hj : j ≤ 5) (hu : 0 ≤ u ∧ u ≤ nI 2) : MC M_C_find 2 0 0 [.ref 5, .int pm, .int u] (heap sc x m P) (some (.int (sp_found (i_looked p) (i_there p) (nI j)))) (heap sc x m (P.set k (i_wood p, i_place p, sp_lk (i_looked p) (nI j) u, sp_th (i_there p) (nI j) u, i_known p, i_num p))) := by
  have hk : k < P.length := (List.getElem?_eq_some_iff.mp hp).1
  have hi := (heap_get (sc := sc) (x := x) (m := m) hp).1
  refine mc_of k1_C_find k2_C_find (Nat.le_of_ble_eq_true rfl) ?_
  unfold heap at hi ⊢
  repeat (refine mw_step rfl ?_)
  refine mw_div rfl (by decide) ?_
  rw [show pm / 10 = nI k from e1]
  refine mw_call (c_pieceAt k h8 hk) rfl rfl (Nat.le_of_ble_eq_true rfl) (Nat.le_refl _) (Nat.le_refl _) ?_
  repeat (refine mw_step rfl ?_)
  refine mw_div rfl (by decide) ?_
  rw [show pm - pm / 10 * 10 = nI j from e2]
  repeat (refine mw_step rfl ?_)
  refine mw_call (c_isMark _ _) rfl rfl (Nat.le_of_ble_eq_true rfl) (Nat.le_refl _) (Nat.le_refl _) ?_
  refine mw_brF rfl (bI_ne (rng_in hj (by decide))) ?_
  repeat (refine mw_step rfl ?_)
  refine mw_call (c_within _ _ _ _) rfl rfl (Nat.le_of_ble_eq_true rfl) (Nat.le_refl _) (Nat.le_refl _) ?_
  refine mw_brF rfl (bI_ne hu) ?_
  repeat (refine mw_step rfl ?_)
  refine mw_callP (c_I_foundOf hi (by omega) (nI j)) rfl rfl hi (by omega) rfl (Nat.le_of_ble_eq_true rfl) (Nat.le_refl _) (Nat.le_refl _) ?_
  repeat (refine mw_step rfl ?_)
  refine mw_callP (c_I_setFound hi (by omega) (nI j) u) rfl rfl hi (by omega) rfl (Nat.le_of_ble_eq_true rfl) (Nat.le_refl _) (Nat.le_refl _) ?_
  repeat (refine mw_step rfl ?_)
  exact mw_r1 rfl trivial (Nat.le_refl _) (Nat.le_refl _) (rfl ) ( by rw [heapN_set, List.length_set, ← piece_set1 (q := (i_wood p, i_place p, sp_lk (i_looked p) (nI j) u, sp_th (i_there p) (nI j) u, i_known p, i_num p)) hp rfl])
theorem c_O_isPart {N : Nat} {tl : MH} (k : Int32) : MC M_O_isPart 1 0 0 [.ref 39, .int k] (heapN N sc x m tl) (some (.int (bI (0 ≤ k ∧ k ≤ zp_parts m - 1)))) (heapN N sc x m tl) := by
  refine mc_of k1_O_isPart k2_O_isPart (Nat.le_of_ble_eq_true rfl) ?_
  repeat (refine mw_step rfl ?_)
  refine mw_call (c_withinO32 _ k 0 (zp_parts m - 1)) rfl rfl (Nat.le_of_ble_eq_true rfl) (Nat.le_refl _) (Nat.le_refl _) ?_
  exact mw_r1 rfl bI_nar (Nat.le_refl _) (Nat.le_refl _) rfl rfl
theorem sp_pm_nn {N : Nat} {pm : Int32} (h : sp_pm N pm) (hN : N ≤ 8) : ¬ pm < 0 := by
  intro z
  obtain ⟨⟨k, hk, e⟩, h2, -⟩ := h
  rcases dm_neg pm 10 (by decide) (by decide) z with h3 | h3
  · rw [show pm / nI 10 = nI k from e] at h3
    exact nI_pos (by omega) h3
  · exact m_nlt h2 h3
theorem c_O_isPm {N n : Nat} {tl : MH} (hp : zp_parts m = nI n) (hn : n ≤ 8) (pm : Int32) [Decidable (sp_pm n pm)] : MC M_O_isPm 2 0 0 [.ref 39, .int pm] (heapN N sc x m tl) (some (.int (bI (sp_pm n pm)))) (heapN N sc x m tl) := by
  refine mc_of k1_O_isPm k2_O_isPm (Nat.le_of_ble_eq_true rfl) ?_
  repeat (refine mw_step rfl ?_)
  refine mw_br rfl (fun h0 => ?_) (fun h0 => ?_)
  · repeat (refine mw_step rfl ?_)
    exact mw_r1 rfl rfl (Nat.le_refl _) (Nat.le_refl _) (by rw [bI_f]; exact fun z => sp_pm_nn z hn h0) rfl
  · repeat (refine mw_step rfl ?_)
    refine mw_div rfl (by decide) ?_
    refine mw_call (c_O_isPart _) rfl rfl (Nat.le_of_ble_eq_true rfl) (Nat.le_refl _) (Nat.le_refl _) ?_
    refine mw_br rfl (fun h1 => ?_) (fun h1 => ?_)
    · repeat (refine mw_step rfl ?_)
      exact mw_r1 rfl rfl (Nat.le_refl _) (Nat.le_refl _) (by rw [bI_f]; rintro ⟨⟨k, hk, e⟩, -⟩; exact bI_0.mp h1 (by rw [e, hp]; exact n_predI hk (by omega))) rfl
    · repeat (refine mw_step rfl ?_)
      refine mw_div rfl (by decide) ?_
      refine mw_call (c_O_isMark _ _) rfl rfl (Nat.le_of_ble_eq_true rfl) (Nat.le_refl _) (Nat.le_refl _) ?_
      refine mw_br rfl (fun h2 => ?_) (fun h2 => ?_)
      · repeat (refine mw_step rfl ?_)
        exact mw_r1 rfl rfl (Nat.le_refl _) (Nat.le_refl _) (by rw [bI_f]; rintro ⟨-, z⟩; exact bI_0.mp h2 z) rfl
      · repeat (refine mw_step rfl ?_)
        exact mw_r1 rfl rfl (Nat.le_refl _) (Nat.le_refl _) (by rw [bI_t ⟨n_predN (by omega) (by have := bI_of h1; rw [hp] at this; exact this), bI_of h2⟩]) rfl
theorem c_O_find_bad {N n : Nat} {tl : MH} (hp : zp_parts m = nI n) (hn : n ≤ 8) (pm u : Int32) (h : ¬ (sp_pm n pm ∧ (0 ≤ u ∧ u ≤ nI 2))) : MC M_O_find 3 0 0 [.ref 39, .int pm, .int u] (heapN N sc x m tl) (some (.int (-1))) (heapN N sc x m tl) := by
  have : Decidable (sp_pm n pm) := Classical.propDecidable _
  refine mc_of k1_O_find k2_O_find (Nat.le_of_ble_eq_true rfl) ?_
  repeat (refine mw_step rfl ?_)
  refine mw_call (c_O_isPm hp hn pm) rfl rfl (Nat.le_of_ble_eq_true rfl) (Nat.le_refl _) (Nat.le_refl _) ?_
  refine mw_br rfl (fun h1 => ?_) (fun h1 => ?_)
  · repeat (refine mw_step rfl ?_)
    exact mw_r1 rfl trivial (Nat.le_refl _) (Nat.le_refl _) rfl rfl
  · repeat (refine mw_step rfl ?_)
    refine mw_call (c_withinO32 _ u 0 (nI 2)) rfl rfl (Nat.le_of_ble_eq_true rfl) (Nat.le_refl _) (Nat.le_refl _) ?_
    refine mw_br rfl (fun h2 => ?_) (fun h2 => ?_)
    · repeat (refine mw_step rfl ?_)
      exact mw_r1 rfl trivial (Nat.le_refl _) (Nat.le_refl _) rfl rfl
    · exact absurd ⟨bI_of h1, bI_of h2⟩ h
theorem c_O_find {N n : Nat} {tl : MH} (hp : zp_parts m = nI n) (hn : n ≤ 8) (pm u : Int32) (k j : Nat) (hk : k < n) (e1 : pm / 10 = nI k) (e2 : pm - pm / 10 * 10 = nI j) (hj : j ≤ 5) (hu : 0 ≤ u ∧ u ≤ nI 2) : MC M_O_find 3 0 0 [.ref 39, .int pm, .int u] (heapN N sc x m tl) (some (.int (zp_found m (6 * k + j)))) (heapN N sc x (zp_found_s m (upd (zp_found m) (6 * k + j) u)) tl) := by
  have : Decidable (sp_pm n pm) := Classical.propDecidable _
  have e3 : (6 : Int32) * (pm / 10) + (pm - pm / 10 * 10) = nI (6 * k + j) := by rw [e2, e1, show (6 : Int32) = nI 6 from rfl, pk_mul, nI_add]
  refine mc_of k1_O_find k2_O_find (Nat.le_of_ble_eq_true rfl) ?_
  repeat (refine mw_step rfl ?_)
  refine mw_call (c_O_isPm hp hn pm) rfl rfl (Nat.le_of_ble_eq_true rfl) (Nat.le_refl _) (Nat.le_refl _) ?_
  refine mw_brF rfl (bI_ne ⟨⟨k, hk, e1⟩, by rw [e2]; exact rng_in hj (by decide)⟩) ?_
  repeat (refine mw_step rfl ?_)
  refine mw_call (c_withinO32 _ u 0 (nI 2)) rfl rfl (Nat.le_of_ble_eq_true rfl) (Nat.le_refl _) (Nat.le_refl _) ?_
  refine mw_brF rfl (bI_ne hu) ?_
  repeat (refine mw_step rfl ?_)
  refine mw_div rfl (by decide) ?_
  repeat (refine mw_step rfl ?_)
  refine mw_div rfl (by decide) ?_
  repeat (refine mw_step rfl ?_)
  refine mw_ild rfl (e3) (by omega) (by decide) ?_
  repeat (refine mw_step rfl ?_)
  refine mw_ist rfl (e3) (by omega) (by decide) ?_
  repeat (refine mw_step rfl ?_)
  exact mw_r1 rfl trivial (Nat.le_refl _) (Nat.le_refl _) rfl rfl
/-- feed -/
theorem c_C_feed_bad {N : Nat} {tl : MH} (c : Int32) (h : ¬ (0 ≤ c ∧ c ≤ nI 255)) : MC M_C_feed 1 0 0 [.ref 5, .int c] (heapN N sc x m tl) (some (.int (-1))) (heapN N sc x m tl) := by
  refine mc_of k1_C_feed k2_C_feed (Nat.le_of_ble_eq_true rfl) ?_
  repeat (refine mw_step rfl ?_)
  refine mw_call (c_within _ _ _ _) rfl rfl (Nat.le_of_ble_eq_true rfl) (Nat.le_refl _) (Nat.le_refl _) ?_
  refine mw_brT rfl (bI_f h) ?_
  repeat (refine mw_step rfl ?_)
  exact mw_r1 rfl trivial (Nat.le_refl _) (Nat.le_refl _) rfl rfl
theorem c_R_take {N n : Nat} {tl : MH} (c : Int32) (hn : xR_len x = nI n) (h1 : n < 120) : MC M_R_take 0 0 0 [.ref 15, .int c] (heapN N sc x m tl) (some (.int 1)) (heapN N sc (xR_s x (upd (xR_tape x) n c, nI (n + 1), xR_code x, xR_size x, xR_at x, xR_fault x)) m tl) := by
  refine mc_of k1_R_take k2_R_take (Nat.le_of_ble_eq_true rfl) ?_
  repeat (refine mw_step rfl ?_)
  refine mw_brF rfl (by rw [hn]; exact nI_pos (by omega)) ?_
  repeat (refine mw_step rfl ?_)
  refine mw_brT rfl (by rw [hn]; exact n_lt (b := 120) h1 (by omega)) ?_
  repeat (refine mw_step rfl ?_)
  refine mw_ist rfl (hn) (by omega) (by decide) ?_
  repeat (refine mw_step rfl ?_)
  exact mw_r1 rfl rfl (Nat.le_refl _) (Nat.le_refl _) rfl (by rw [← nI_1, ← hn]; rfl)
theorem c_R_take_full {N : Nat} {tl : MH} (c : Int32) (hn : xR_len x = nI 120) : MC M_R_take 0 0 0 [.ref 15, .int c] (heapN N sc x m tl) (some (.int 0)) (heapN N sc x m tl) := by
  refine mc_of k1_R_take k2_R_take (Nat.le_of_ble_eq_true rfl) ?_
  repeat (refine mw_step rfl ?_)
  refine mw_brF rfl (by rw [hn]; decide) ?_
  repeat (refine mw_step rfl ?_)
  refine mw_brF rfl (by rw [hn]; decide) ?_
  repeat (refine mw_step rfl ?_)
  exact mw_r1 rfl rfl (Nat.le_refl _) (Nat.le_refl _) rfl rfl
theorem c_C_feed {N n : Nat} {tl : MH} (c : Int32) (h : 0 ≤ c ∧ c ≤ nI 255) (hn : xR_len x = nI n) (h1 : n < 120) : MC M_C_feed 1 0 0 [.ref 5, .int c] (heapN N sc x m tl) (some (.int (nI (n + 1)))) (heapN N sc (xR_s x (upd (xR_tape x) n c, nI (n + 1), xR_code x, xR_size x, xR_at x, xR_fault x)) m tl) := by
  refine mc_of k1_C_feed k2_C_feed (Nat.le_of_ble_eq_true rfl) ?_
  repeat (refine mw_step rfl ?_)
  refine mw_call (c_within _ _ _ _) rfl rfl (Nat.le_of_ble_eq_true rfl) (Nat.le_refl _) (Nat.le_refl _) ?_
  refine mw_brF rfl (bI_ne h) ?_
  repeat (refine mw_step rfl ?_)
  refine mw_call (c_R_take c hn h1) rfl rfl (Nat.le_of_ble_eq_true rfl) (Nat.le_refl _) (Nat.le_refl _) ?_
  refine mw_brF rfl (by decide) ?_
  repeat (refine mw_step rfl ?_)
  exact mw_r1 rfl trivial (Nat.le_refl _) (Nat.le_refl _) rfl rfl
theorem c_C_feed_full {N : Nat} {tl : MH} (c : Int32) (h : 0 ≤ c ∧ c ≤ nI 255) (hn : xR_len x = nI 120) : MC M_C_feed 1 0 0 [.ref 5, .int c] (heapN N sc x m tl) (some (.int (-3))) (heapN N sc x m tl) := by
  refine mc_of k1_C_feed k2_C_feed (Nat.le_of_ble_eq_true rfl) ?_
  repeat (refine mw_step rfl ?_)
  refine mw_call (c_within _ _ _ _) rfl rfl (Nat.le_of_ble_eq_true rfl) (Nat.le_refl _) (Nat.le_refl _) ?_
  refine mw_brF rfl (bI_ne h) ?_
  repeat (refine mw_step rfl ?_)
  refine mw_call (c_R_take_full c hn) rfl rfl (Nat.le_of_ble_eq_true rfl) (Nat.le_refl _) (Nat.le_refl _) ?_
  refine mw_brT rfl (rfl) ?_
  repeat (refine mw_step rfl ?_)
  exact mw_r1 rfl trivial (Nat.le_refl _) (Nat.le_refl _) rfl rfl
theorem c_O_feed_bad {N : Nat} {tl : MH} (c : Int32) (h : ¬ (0 ≤ c ∧ c ≤ nI 255)) : MC M_O_feed 1 0 0 [.ref 39, .int c] (heapN N sc x m tl) (some (.int (-1))) (heapN N sc x m tl) := by
  refine mc_of k1_O_feed k2_O_feed (Nat.le_of_ble_eq_true rfl) ?_
  repeat (refine mw_step rfl ?_)
  refine mw_call (c_withinO32 _ c 0 (nI 255)) rfl rfl (Nat.le_of_ble_eq_true rfl) (Nat.le_refl _) (Nat.le_refl _) ?_
  refine mw_brT rfl (bI_f h) ?_
  repeat (refine mw_step rfl ?_)
  exact mw_r1 rfl trivial (Nat.le_refl _) (Nat.le_refl _) rfl rfl
theorem c_O_feed {N n : Nat} {tl : MH} (c : Int32) (h : 0 ≤ c ∧ c ≤ nI 255) (hn : zt_tapeMany m = nI n) (h1 : n < 120) : MC M_O_feed 1 0 0 [.ref 39, .int c] (heapN N sc x m tl) (some (.int (nI (n + 1)))) (heapN N sc x (zt_s m (upd (zt_tape m) n c, nI (n + 1), zt_text m, zt_textMany m, zt_base m, zt_at m, zt_ends m, zt_fault m, zt_opened m, zt_names m)) tl) := by
  refine mc_of k1_O_feed k2_O_feed (Nat.le_of_ble_eq_true rfl) ?_
  repeat (refine mw_step rfl ?_)
  refine mw_call (c_withinO32 _ c 0 (nI 255)) rfl rfl (Nat.le_of_ble_eq_true rfl) (Nat.le_refl _) (Nat.le_refl _) ?_
  refine mw_brF rfl (bI_ne h) ?_
  repeat (refine mw_step rfl ?_)
  refine mw_brF rfl (by rw [hn]; intro e; have := (nI_eq (by omega) (b := 120) (by omega)).mp e; omega) ?_
  repeat (refine mw_step rfl ?_)
  refine mw_ist rfl (hn) (by omega) (by decide) ?_
  repeat (refine mw_step rfl ?_)
  exact mw_r1 rfl trivial (Nat.le_refl _) (Nat.le_refl _) (by rw [← nI_1, ← hn] ) ( by rw [← nI_1, ← hn]; rfl)
theorem c_O_feed_full {N : Nat} {tl : MH} (c : Int32) (h : 0 ≤ c ∧ c ≤ nI 255) (hn : zt_tapeMany m = nI 120) : MC M_O_feed 1 0 0 [.ref 39, .int c] (heapN N sc x m tl) (some (.int (-3))) (heapN N sc x m tl) := by
  refine mc_of k1_O_feed k2_O_feed (Nat.le_of_ble_eq_true rfl) ?_
  repeat (refine mw_step rfl ?_)
  refine mw_call (c_withinO32 _ c 0 (nI 255)) rfl rfl (Nat.le_of_ble_eq_true rfl) (Nat.le_refl _) (Nat.le_refl _) ?_
  refine mw_brF rfl (bI_ne h) ?_
  repeat (refine mw_step rfl ?_)
  refine mw_brT rfl (by rw [hn]; rfl) ?_
  repeat (refine mw_step rfl ?_)
  exact mw_r1 rfl trivial (Nat.le_refl _) (Nat.le_refl _) rfl rfl
end MK
end
section
/-! of, image, back, count -/
def sp_told (now : Nat → Int32) (n what : Int32) : Int32 := if 0 ≤ n ∧ n ≤ nI 5 then (if what = 20 then now n.toNatClampNeg else if what = 21 then now (6 + n.toNatClampNeg) else if what = 30 then now (12 + n.toNatClampNeg) else if what = 31 then now (18 + n.toNatClampNeg) else -1) else -1
def sp_pcv (p : PieceS) (what : Int32) : Int32 := if what = 0 then i_wood p else if what = 1 then i_place p else if 10 ≤ what ∧ what ≤ 15 then sp_found (i_looked p) (i_there p) (what - 10) else -1
theorem n_ti {y : Int32} {k : Int} (z : Int32) (hz : z.toInt = k) (h : ¬ y = z) : ¬ k = y.toInt := fun e => h (Int32.toInt_inj.mp (by rw [hz]; exact e.symm))
section OF
variable {sc : Nat × (Nat → Int32)} {x : XS} {m : OS} {P : List PieceS} {N : Nat} {tl : MH}
theorem c_C_numberTold (n what : Int32) : MC M_C_numberTold 1 0 0 [.ref 5, .int n, .int what] (heapN N sc x m tl) (some (.int (sp_told (xT_now x) n what))) (heapN N sc x m tl) := by
  refine mc_of k1_C_numberTold k2_C_numberTold (Nat.le_of_ble_eq_true rfl) ?_
  repeat (refine mw_step rfl ?_)
  refine mw_call (c_within _ _ _ _) rfl rfl (Nat.le_of_ble_eq_true rfl) (Nat.le_refl _) (Nat.le_refl _) ?_
  refine mw_br rfl (fun h1 => ?_) (fun h1 => ?_)
  · repeat (refine mw_step rfl ?_)
    exact mw_r1 rfl trivial (Nat.le_refl _) (Nat.le_refl _) (by rw [sp_told, if_neg (show ¬ (0 ≤ n ∧ n ≤ nI 5) from bI_0.mp h1)]) rfl
  · have h1 : 0 ≤ n ∧ n ≤ nI 5 := bI_of h1
    obtain ⟨b, hb, rfl⟩ := rng (n := 5) (by decide) h1
    rw [sp_told, if_pos h1, nI_clamp (by omega)]
    repeat (refine mw_step rfl ?_)
    by_cases h2 : what = 20
    · subst h2
      refine mw_sw (t := 56) rfl ?_
      repeat (refine mw_step rfl ?_)
      refine mw_call (c_T_get 0 b (by omega)) rfl rfl (Nat.le_of_ble_eq_true rfl) (Nat.le_refl _) (Nat.le_refl _) ?_
      exact mw_r1 rfl trivial (Nat.le_refl _) (Nat.le_refl _) (by rw [if_pos rfl, show 0 * 6 + b = b by omega]) rfl
    · rw [if_neg h2]
      by_cases h3 : what = 21
      · subst h3
        refine mw_sw (t := 66) rfl ?_
        repeat (refine mw_step rfl ?_)
        refine mw_call (c_T_get 1 b (by omega)) rfl rfl (Nat.le_of_ble_eq_true rfl) (Nat.le_refl _) (Nat.le_refl _) ?_
        exact mw_r1 rfl trivial (Nat.le_refl _) (Nat.le_refl _) (by rw [if_pos rfl, show 1 * 6 + b = 6 + b by omega]) rfl
      · rw [if_neg h3]
        by_cases h4 : what = 30
        · subst h4
          refine mw_sw (t := 76) rfl ?_
          repeat (refine mw_step rfl ?_)
          refine mw_call (c_T_get 2 b (by omega)) rfl rfl (Nat.le_of_ble_eq_true rfl) (Nat.le_refl _) (Nat.le_refl _) ?_
          exact mw_r1 rfl trivial (Nat.le_refl _) (Nat.le_refl _) (by rw [if_pos rfl, show 2 * 6 + b = 12 + b by omega]) rfl
        · rw [if_neg h4]
          by_cases h5 : what = 31
          · subst h5
            refine mw_sw (t := 86) rfl ?_
            repeat (refine mw_step rfl ?_)
            refine mw_call (c_T_get 3 b (by omega)) rfl rfl (Nat.le_of_ble_eq_true rfl) (Nat.le_refl _) (Nat.le_refl _) ?_
            exact mw_r1 rfl trivial (Nat.le_refl _) (Nat.le_refl _) (by rw [if_pos rfl, show 3 * 6 + b = 18 + b by omega]) rfl
          · rw [if_neg h5]
            refine mw_sw (t := 96) ?_ ?_
            · show some ((12 : Int) + Op.lookupswitch.offset [(20, 44), (21, 54), (30, 64), (31, 74)] 84 what.toInt) = some 96
              rw [Op.lookupswitch.offset_cons, if_neg (n_ti (k := 20) 20 rfl h2), Op.lookupswitch.offset_cons, if_neg (n_ti (k := 21) 21 rfl h3), Op.lookupswitch.offset_cons, if_neg (n_ti (k := 30) 30 rfl h4), Op.lookupswitch.offset_cons, if_neg (n_ti (k := 31) 31 rfl h5)]
              rfl
            · repeat (refine mw_step rfl ?_)
              exact mw_r1 rfl trivial (Nat.le_refl _) (Nat.le_refl _) rfl rfl
theorem c_C_of_told (n what : Int32) (h : ¬ what < 20) : MC M_C_of 2 0 0 [.ref 5, .int n, .int what] (heapN N sc x m tl) (some (.int (sp_told (xT_now x) n what))) (heapN N sc x m tl) := by
  refine mc_of k1_C_of k2_C_of (Nat.le_of_ble_eq_true rfl) ?_
  repeat (refine mw_step rfl ?_)
  refine mw_brF rfl (h) ?_
  repeat (refine mw_step rfl ?_)
  refine mw_call (c_C_numberTold n what) rfl rfl (Nat.le_of_ble_eq_true rfl) (Nat.le_refl _) (Nat.le_refl _) ?_
  exact mw_r1 rfl trivial (Nat.le_refl _) (Nat.le_refl _) rfl rfl
theorem c_C_of_null (n what : Int32) (h : what < 20) (hN : N ≤ 8) (hn : ¬ ∃ j, j < N ∧ n = nI j) : MC M_C_of 2 0 0 [.ref 5, .int n, .int what] (heapN N sc x m tl) (some (.int (-1))) (heapN N sc x m tl) := by
  refine mc_of k1_C_of k2_C_of (Nat.le_of_ble_eq_true rfl) ?_
  repeat (refine mw_step rfl ?_)
  refine mw_brT rfl (h) ?_
  repeat (refine mw_step rfl ?_)
  refine mw_call (c_pieceAt_bad n hN hn) rfl rfl (Nat.le_of_ble_eq_true rfl) (Nat.le_refl _) (Nat.le_refl _) ?_
  repeat (refine mw_step rfl ?_)
  exact mw_r1 rfl trivial (Nat.le_refl _) (Nat.le_refl _) rfl rfl
theorem c_C_of_pc (h8 : P.length ≤ 8) (k : Nat) (p : PieceS) (hp : P[k]? = some p) (what : Int32) (h : what < 20) : MC M_C_of 2 0 0 [.ref 5, .int (nI k), .int what] (heap sc x m P) (some (.int (sp_pcv p what))) (heap sc x m P) := by
  have hk : k < P.length := (List.getElem?_eq_some_iff.mp hp).1
  have hi := (heap_get (sc := sc) (x := x) (m := m) hp).1
  refine mc_of k1_C_of k2_C_of (Nat.le_of_ble_eq_true rfl) ?_
  unfold heap at hi ⊢
  repeat (refine mw_step rfl ?_)
  refine mw_brT rfl (h) ?_
  repeat (refine mw_step rfl ?_)
  refine mw_call (c_pieceAt k h8 hk) rfl rfl (Nat.le_of_ble_eq_true rfl) (Nat.le_refl _) (Nat.le_refl _) ?_
  repeat (refine mw_step rfl ?_)
  unfold sp_pcv
  refine mw_br rfl (fun h1 => ?_) (fun h1 => ?_)
  · repeat (refine mw_step rfl ?_)
    refine mw_getf rfl hi (by omega) rfl ?_
    exact mw_r1 rfl trivial (Nat.le_refl _) (Nat.le_refl _) (by rw [if_pos h1]) rfl
  · repeat (refine mw_step rfl ?_)
    rw [if_neg h1]
    refine mw_br rfl (fun h2 => ?_) (fun h2 => ?_)
    · repeat (refine mw_step rfl ?_)
      refine mw_getf rfl hi (by omega) rfl ?_
      exact mw_r1 rfl trivial (Nat.le_refl _) (Nat.le_refl _) (by rw [if_pos h2]) rfl
    · rw [if_neg h2]
      repeat (refine mw_step rfl ?_)
      refine mw_call (c_within _ _ _ _) rfl rfl (Nat.le_of_ble_eq_true rfl) (Nat.le_refl _) (Nat.le_refl _) ?_
      refine mw_br rfl (fun h3 => ?_) (fun h3 => ?_)
      · repeat (refine mw_step rfl ?_)
        exact mw_r1 rfl trivial (Nat.le_refl _) (Nat.le_refl _) (by rw [if_neg (bI_0.mp h3)]) rfl
      · repeat (refine mw_step rfl ?_)
        refine mw_callP (c_I_foundOf hi (by omega) (what - 10)) rfl rfl hi (by omega) rfl (Nat.le_of_ble_eq_true rfl) (Nat.le_refl _) (Nat.le_refl _) ?_
        repeat (refine mw_step rfl ?_)
        exact mw_r1 rfl trivial (Nat.le_refl _) (Nat.le_refl _) (by rw [if_pos (bI_of h3)]) rfl
theorem c_O_of_told (n what : Int32) (h : ¬ what < 20) : MC M_O_of 2 0 0 [.ref 39, .int n, .int what] (heapN N sc x m tl) (some (.int (sp_told (za_may m) n what))) (heapN N sc x m tl) := by
  refine mc_of k1_O_of k2_O_of (Nat.le_of_ble_eq_true rfl) ?_
  repeat (refine mw_step rfl ?_)
  refine mw_call (c_withinO32 _ what 0 1) rfl rfl (Nat.le_of_ble_eq_true rfl) (Nat.le_refl _) (Nat.le_refl _) ?_
  refine mw_brT rfl (bI_f (fun z => h (by have := z.2; rw [Int32.le_iff_toInt_le] at this; rw [Int32.lt_iff_toInt_lt]; exact Int.lt_of_le_of_lt this (by decide)))) ?_
  repeat (refine mw_step rfl ?_)
  refine mw_call (c_withinO32 _ what 10 15) rfl rfl (Nat.le_of_ble_eq_true rfl) (Nat.le_refl _) (Nat.le_refl _) ?_
  refine mw_brT rfl (bI_f (fun z => h (by have := z.2; rw [Int32.le_iff_toInt_le] at this; rw [Int32.lt_iff_toInt_lt]; exact Int.lt_of_le_of_lt this (by decide)))) ?_
  repeat (refine mw_step rfl ?_)
  refine mw_call (c_withinO32 _ what 20 21) rfl rfl (Nat.le_of_ble_eq_true rfl) (Nat.le_refl _) (Nat.le_refl _) ?_
  refine mw_br rfl (fun h1 => ?_) (fun h1 => ?_)
  · repeat (refine mw_step rfl ?_)
    refine mw_call (c_withinO32 _ what 30 31) rfl rfl (Nat.le_of_ble_eq_true rfl) (Nat.le_refl _) (Nat.le_refl _) ?_
    have n1 : ¬ what = 20 := fun e => bI_0.mp h1 (by rw [e]; decide)
    have n2 : ¬ what = 21 := fun e => bI_0.mp h1 (by rw [e]; decide)
    refine mw_br rfl (fun h2 => ?_) (fun h2 => ?_)
    · repeat (refine mw_step rfl ?_)
      have n3 : ¬ what = 30 := fun e => bI_0.mp h2 (by rw [e]; decide)
      have n4 : ¬ what = 31 := fun e => bI_0.mp h2 (by rw [e]; decide)
      exact mw_r1 rfl trivial (Nat.le_refl _) (Nat.le_refl _) (by rw [sp_told, if_neg n1, if_neg n2, if_neg n3, if_neg n4]; split <;> rfl) rfl
    · repeat (refine mw_step rfl ?_)
      refine mw_call (c_O_isMark _ _) rfl rfl (Nat.le_of_ble_eq_true rfl) (Nat.le_refl _) (Nat.le_refl _) ?_
      refine mw_br rfl (fun h3 => ?_) (fun h3 => ?_)
      · repeat (refine mw_step rfl ?_)
        exact mw_r1 rfl trivial (Nat.le_refl _) (Nat.le_refl _) (by rw [sp_told, if_neg (bI_0.mp h3)]) rfl
      · have h3 := bI_of h3
        obtain ⟨b, hb, rfl⟩ := rng (n := 5) (by decide) h3
        rw [sp_told, if_pos h3, if_neg n1, if_neg n2, nI_clamp (by omega)]
        have h2 := bI_of h2
        rcases (show what = 30 ∨ what = 31 by
          rw [Int32.le_iff_toInt_le, Int32.le_iff_toInt_le, show (30 : Int32).toInt = 30 from rfl, show (31 : Int32).toInt = 31 from rfl] at h2
          rw [← Int32.toInt_inj, ← Int32.toInt_inj, show (30 : Int32).toInt = 30 from rfl, show (31 : Int32).toInt = 31 from rfl]
          omega) with rfl | rfl
        · repeat (refine mw_step rfl ?_)
          refine mw_ild rfl (show (12 : Int32) + 6 * (30 - 30) + nI b = nI (12 + b) from nI_add 12 b) (by omega) (by decide) ?_
          repeat (refine mw_step rfl ?_)
          exact mw_r1 rfl trivial (Nat.le_refl _) (Nat.le_refl _) (by rw [if_pos rfl]) rfl
        · repeat (refine mw_step rfl ?_)
          refine mw_ild rfl (show (12 : Int32) + 6 * (31 - 30) + nI b = nI (18 + b) from nI_add 18 b) (by omega) (by decide) ?_
          repeat (refine mw_step rfl ?_)
          exact mw_r1 rfl trivial (Nat.le_refl _) (Nat.le_refl _) (by rw [if_neg (by decide), if_pos rfl]) rfl
  · repeat (refine mw_step rfl ?_)
    refine mw_call (c_O_isKind _ _) rfl rfl (Nat.le_of_ble_eq_true rfl) (Nat.le_refl _) (Nat.le_refl _) ?_
    refine mw_br rfl (fun h3 => ?_) (fun h3 => ?_)
    · repeat (refine mw_step rfl ?_)
      exact mw_r1 rfl trivial (Nat.le_refl _) (Nat.le_refl _) (by rw [sp_told, if_neg (bI_0.mp h3)]) rfl
    · have h3 := bI_of h3
      obtain ⟨b, hb, rfl⟩ := rng (n := 5) (by decide) h3
      rw [sp_told, if_pos h3, nI_clamp (by omega)]
      have h1 := bI_of h1
      rcases (show what = 20 ∨ what = 21 by
        rw [Int32.le_iff_toInt_le, Int32.le_iff_toInt_le, show (20 : Int32).toInt = 20 from rfl, show (21 : Int32).toInt = 21 from rfl] at h1
        rw [← Int32.toInt_inj, ← Int32.toInt_inj, show (20 : Int32).toInt = 20 from rfl, show (21 : Int32).toInt = 21 from rfl]
        omega) with rfl | rfl
      · repeat (refine mw_step rfl ?_)
        refine mw_ild rfl (show (6 : Int32) * (20 - 20) + nI b = nI (0 + b) from nI_add 0 b) (by omega) (by decide) ?_
        repeat (refine mw_step rfl ?_)
        exact mw_r1 rfl trivial (Nat.le_refl _) (Nat.le_refl _) (by rw [if_pos rfl, Nat.zero_add]) rfl
      · repeat (refine mw_step rfl ?_)
        refine mw_ild rfl (show (6 : Int32) * (21 - 20) + nI b = nI (6 + b) from nI_add 6 b) (by omega) (by decide) ?_
        repeat (refine mw_step rfl ?_)
        exact mw_r1 rfl trivial (Nat.le_refl _) (Nat.le_refl _) (by rw [if_neg (by decide), if_pos rfl]) rfl
def sp_pcO (w pl fo : Nat → Int32) (k : Nat) (what : Int32) : Int32 := if what = 0 then w k else if what = 1 then pl k else if 10 ≤ what ∧ what ≤ 15 then fo (6 * k + (what.toNatClampNeg - 10)) else -1
theorem n_01 (what : Int32) : (0 ≤ what ∧ what ≤ 1) ↔ (what = 0 ∨ what = 1) := by
  rw [Int32.le_iff_toInt_le, Int32.le_iff_toInt_le, ← Int32.toInt_inj, ← Int32.toInt_inj, show (0 : Int32).toInt = 0 from rfl, show (1 : Int32).toInt = 1 from rfl]
  omega
theorem c_O_of_null (n what : Int32) (h : what < 20) (hn : ¬ (0 ≤ n ∧ n ≤ zp_parts m - 1)) : MC M_O_of 2 0 0 [.ref 39, .int n, .int what] (heapN N sc x m tl) (some (.int (-1))) (heapN N sc x m tl) := by
  refine mc_of k1_O_of k2_O_of (Nat.le_of_ble_eq_true rfl) ?_
  repeat (refine mw_step rfl ?_)
  refine mw_call (c_withinO32 _ what 0 1) rfl rfl (Nat.le_of_ble_eq_true rfl) (Nat.le_refl _) (Nat.le_refl _) ?_
  refine mw_br rfl (fun h1 => ?_) (fun h1 => ?_)
  · repeat (refine mw_step rfl ?_)
    refine mw_call (c_withinO32 _ what 10 15) rfl rfl (Nat.le_of_ble_eq_true rfl) (Nat.le_refl _) (Nat.le_refl _) ?_
    refine mw_br rfl (fun h2 => ?_) (fun h2 => ?_)
    · repeat (refine mw_step rfl ?_)
      refine mw_call (c_withinO32 _ what 20 21) rfl rfl (Nat.le_of_ble_eq_true rfl) (Nat.le_refl _) (Nat.le_refl _) ?_
      refine mw_brT rfl (bI_f (fun z => m_nlt z.1 h)) ?_
      repeat (refine mw_step rfl ?_)
      refine mw_call (c_withinO32 _ what 30 31) rfl rfl (Nat.le_of_ble_eq_true rfl) (Nat.le_refl _) (Nat.le_refl _) ?_
      refine mw_brT rfl (bI_f (fun z => by have := z.1; rw [Int32.le_iff_toInt_le, show (30 : Int32).toInt = 30 from rfl] at this; rw [Int32.lt_iff_toInt_lt, show (20 : Int32).toInt = 20 from rfl] at h; omega)) ?_
      repeat (refine mw_step rfl ?_)
      exact mw_r1 rfl trivial (Nat.le_refl _) (Nat.le_refl _) rfl rfl
    · repeat (refine mw_step rfl ?_)
      refine mw_call (c_O_isPart _) rfl rfl (Nat.le_of_ble_eq_true rfl) (Nat.le_refl _) (Nat.le_refl _) ?_
      refine mw_brT rfl (bI_f hn) ?_
      repeat (refine mw_step rfl ?_)
      exact mw_r1 rfl trivial (Nat.le_refl _) (Nat.le_refl _) rfl rfl
  · repeat (refine mw_step rfl ?_)
    refine mw_call (c_O_isPart _) rfl rfl (Nat.le_of_ble_eq_true rfl) (Nat.le_refl _) (Nat.le_refl _) ?_
    refine mw_brT rfl (bI_f hn) ?_
    repeat (refine mw_step rfl ?_)
    exact mw_r1 rfl trivial (Nat.le_refl _) (Nat.le_refl _) rfl rfl
theorem c_O_of_pc (k : Nat) (hk : k < 8) (hn : 0 ≤ nI k ∧ nI k ≤ zp_parts m - 1) (what : Int32) (h : what < 20) : MC M_O_of 2 0 0 [.ref 39, .int (nI k), .int what] (heapN N sc x m tl) (some (.int (sp_pcO (zp_wood m) (zp_place m) (zp_found m) k what))) (heapN N sc x m tl) := by
  refine mc_of k1_O_of k2_O_of (Nat.le_of_ble_eq_true rfl) ?_
  repeat (refine mw_step rfl ?_)
  refine mw_call (c_withinO32 _ what 0 1) rfl rfl (Nat.le_of_ble_eq_true rfl) (Nat.le_refl _) (Nat.le_refl _) ?_
  refine mw_br rfl (fun h1 => ?_) (fun h1 => ?_)
  · have h1 := bI_0.mp h1
    rw [n_01] at h1
    have n1 : ¬ what = 0 := fun e => h1 (Or.inl e)
    have n2 : ¬ what = 1 := fun e => h1 (Or.inr e)
    rw [sp_pcO, if_neg n1, if_neg n2]
    repeat (refine mw_step rfl ?_)
    refine mw_call (c_withinO32 _ what 10 15) rfl rfl (Nat.le_of_ble_eq_true rfl) (Nat.le_refl _) (Nat.le_refl _) ?_
    refine mw_br rfl (fun h2 => ?_) (fun h2 => ?_)
    · rw [if_neg (bI_0.mp h2)]
      repeat (refine mw_step rfl ?_)
      refine mw_call (c_withinO32 _ what 20 21) rfl rfl (Nat.le_of_ble_eq_true rfl) (Nat.le_refl _) (Nat.le_refl _) ?_
      refine mw_brT rfl (bI_f (fun z => m_nlt z.1 h)) ?_
      repeat (refine mw_step rfl ?_)
      refine mw_call (c_withinO32 _ what 30 31) rfl rfl (Nat.le_of_ble_eq_true rfl) (Nat.le_refl _) (Nat.le_refl _) ?_
      refine mw_brT rfl (bI_f (fun z => by have := z.1; rw [Int32.le_iff_toInt_le, show (30 : Int32).toInt = 30 from rfl] at this; rw [Int32.lt_iff_toInt_lt, show (20 : Int32).toInt = 20 from rfl] at h; omega)) ?_
      repeat (refine mw_step rfl ?_)
      exact mw_r1 rfl trivial (Nat.le_refl _) (Nat.le_refl _) rfl rfl
    · have h2 := bI_of h2
      rw [if_pos h2]
      obtain ⟨b, hb, rfl⟩ := rng (n := 15) (x := what) (by decide) ⟨by have := h2.1; rw [Int32.le_iff_toInt_le] at this ⊢; exact Int.le_trans (by decide) this, h2.2⟩
      have hb2 : 10 ≤ b := by
        have := h2.1
        rw [Int32.le_iff_toInt_le, nI_toInt (by omega), show (10 : Int32).toInt = 10 from rfl] at this
        omega
      rw [nI_clamp (by omega)]
      repeat (refine mw_step rfl ?_)
      refine mw_call (c_O_isPart _) rfl rfl (Nat.le_of_ble_eq_true rfl) (Nat.le_refl _) (Nat.le_refl _) ?_
      refine mw_brF rfl (bI_ne hn) ?_
      repeat (refine mw_step rfl ?_)
      refine mw_ild rfl (show (6 : Int32) * nI k + nI b - 10 = nI (6 * k + (b - 10)) by rw [show (6 : Int32) = nI 6 from rfl, show (10 : Int32) = nI 10 from rfl, pk_mul, nI_add, pk_sub (by omega), show 6 * k + b - 10 = 6 * k + (b - 10) by omega]) (by omega) (by decide) ?_
      repeat (refine mw_step rfl ?_)
      exact mw_r1 rfl trivial (Nat.le_refl _) (Nat.le_refl _) rfl rfl
  · have h1 := bI_of h1
    rw [n_01] at h1
    repeat (refine mw_step rfl ?_)
    refine mw_call (c_O_isPart _) rfl rfl (Nat.le_of_ble_eq_true rfl) (Nat.le_refl _) (Nat.le_refl _) ?_
    refine mw_brF rfl (bI_ne hn) ?_
    repeat (refine mw_step rfl ?_)
    rw [sp_pcO]
    refine mw_br rfl (fun h2 => ?_) (fun h2 => ?_)
    · repeat (refine mw_step rfl ?_)
      refine mw_ild rfl (rfl) (by omega) (by decide) ?_
      repeat (refine mw_step rfl ?_)
      exact mw_r1 rfl trivial (Nat.le_refl _) (Nat.le_refl _) (by rw [if_pos h2]) rfl
    · repeat (refine mw_step rfl ?_)
      refine mw_ild rfl (rfl) (by omega) (by decide) ?_
      exact mw_r1 rfl trivial (Nat.le_refl _) (Nat.le_refl _) (by rw [if_neg h2, if_pos (h1.resolve_left h2)]) rfl
/-- images -/
def pz : PieceS := (0, 0, 0, 0, 0, fun _ => 0)
def sp_kl (P : List PieceS) (f : Nat → Int32) (g : PieceS → Int32) (t : Nat) : Nat → Int32 := fun j => if j < t then g (P.getD j pz) else f j
theorem sp_kl_0 (P : List PieceS) (f : Nat → Int32) (g : PieceS → Int32) : sp_kl P f g 0 = f := funext fun j => if_neg (by omega)
theorem sp_kl_up (P : List PieceS) (f : Nat → Int32) (g : PieceS → Int32) (t : Nat) (p : PieceS) (hp : P[t]? = some p) : upd (sp_kl P f g t) t (g p) = sp_kl P f g (t + 1) := by
  funext j
  unfold upd sp_kl
  by_cases h : j = t
  · subst h
    rw [if_pos rfl, if_pos (by omega), List.getD_eq_getElem?_getD, hp]
    rfl
  · rw [if_neg h]
    by_cases h2 : j < t
    · rw [if_pos h2, if_pos (by omega)]
    · rw [if_neg h2, if_neg (by omega)]
theorem l_C_image (h8 : P.length ≤ 8) {hT : MH} {v : Option Value} (f1 f2 : Nat → Int32) (K : MW M_C_image 2 0 0 v hT 0 0 58 [(0, .ref 5)] [] (heap sc (xC_kt_s (xC_kl_s x (sp_kl P f1 i_looked P.length)) (sp_kl P f2 i_there P.length)) m P)) : ∀ r t, t + r = P.length → MW M_C_image 2 0 0 v hT 0 0 2 [(0, .ref 5), (1, .int (nI t))] [] (heap sc (xC_kt_s (xC_kl_s x (sp_kl P f1 i_looked t)) (sp_kl P f2 i_there t)) m P) := by
  intro r
  induction r with
  | zero =>
    intro t ht
    rw [show t = P.length by omega]
    unfold heap at K ⊢
    repeat (refine mw_step rfl ?_)
    refine mw_brF rfl (n_nlt (by omega) (by omega)) ?_
    refine mw_pick [0] ?_
    exact K
  | succ r ih =>
    intro t ht
    obtain ⟨p, hp⟩ : ∃ p, P[t]? = some p := ⟨P[t]'(by omega), List.getElem?_eq_getElem (by omega)⟩
    have hi := fun (y : XS) => (heap_get (sc := sc) (x := y) (m := m) hp).1
    have L := ih (t + 1) (by omega)
    rw [← sp_kl_up P f1 i_looked t p hp, ← sp_kl_up P f2 i_there t p hp] at L
    unfold heap at hi L ⊢
    repeat (refine mw_step rfl ?_)
    refine mw_brT rfl (n_lt (by omega) (by omega)) ?_
    repeat (refine mw_step rfl ?_)
    refine mw_call (c_pieceAt t h8 (by omega)) rfl rfl (Nat.le_of_ble_eq_true rfl) (Nat.le_refl _) (Nat.le_refl _) ?_
    repeat (refine mw_step rfl ?_)
    refine mw_getf rfl (hi _) (by omega) rfl ?_
    refine mw_ist rfl (rfl) (by omega) (by decide) ?_
    repeat (refine mw_step rfl ?_)
    refine mw_getf rfl (hi (xC_kl_s (xC_kt_s (xC_kl_s x (sp_kl P f1 i_looked t)) (sp_kl P f2 i_there t)) (upd (sp_kl P f1 i_looked t) t (i_looked p)))) (by omega) rfl ?_
    refine mw_ist rfl (rfl) (by omega) (by decide) ?_
    repeat (refine mw_to 2 rfl rfl ?_)
    rw [nI_1]
    refine mw_pick [0, 1] ?_
    exact L
theorem c_C_image (h8 : P.length ≤ 8) : MC M_C_image 2 0 0 [.ref 5] (heap sc x m P) (some (.int (nI P.length))) (heap sc (xC_s x (xC_whens x, sp_kl P (xC_kl x) i_looked P.length, sp_kl P (xC_kt x) i_there P.length, nI P.length, 1)) m P) := by
  refine mc_of k1_C_image k2_C_image (Nat.le_of_ble_eq_true rfl) ?_
  repeat (refine mw_to 2 rfl rfl ?_)
  refine mw_pick [0, 1] ?_
  have L := l_C_image (sc := sc) (x := x) (m := m) h8 (hT := heap sc (xC_s x (xC_whens x, sp_kl P (xC_kl x) i_looked P.length, sp_kl P (xC_kt x) i_there P.length, nI P.length, 1)) m P) (v := some (.int (nI P.length))) (xC_kl x) (xC_kt x) (by
    unfold heap
    repeat (refine mw_step rfl ?_)
    exact mw_r1 rfl trivial (Nat.le_refl _) (Nat.le_refl _) rfl rfl) P.length 0 (by omega)
  rw [sp_kl_0, sp_kl_0] at L
  exact L
end OF
end
section
/-! back, count, parts -/
def sp_bk1 (kc : Nat) (kl kt : Nat → Int32) (t : Nat) (p : PieceS) : PieceS := (i_wood p, i_place p, if t < kc then kl t else 0, if t < kc then kt t else 0, i_known p, i_num p)
def sp_bk (kc : Nat) (kl kt : Nat → Int32) (P : List PieceS) : Nat → List PieceS
  | 0 => P
  | t + 1 => (sp_bk kc kl kt P t).set t (sp_bk1 kc kl kt t (P.getD t pz))
theorem sp_bk_len (kc : Nat) (kl kt : Nat → Int32) (P : List PieceS) : ∀ t, (sp_bk kc kl kt P t).length = P.length
  | 0 => rfl
  | t + 1 => by rw [sp_bk, List.length_set, sp_bk_len kc kl kt P t]
theorem sp_bk_ge (kc : Nat) (kl kt : Nat → Int32) (P : List PieceS) : ∀ t j, t ≤ j → (sp_bk kc kl kt P t)[j]? = P[j]?
  | 0, _, _ => rfl
  | t + 1, j, h => by rw [sp_bk, List.getElem?_set_ne (by omega), sp_bk_ge kc kl kt P t j (by omega)]
section BK
variable {sc : Nat × (Nat → Int32)} {x : XS} {m : OS} {P : List PieceS} {N : Nat} {tl : MH}
theorem piece_put2 {P : List PieceS} {k : Nat} {p : PieceS} (hp : P[k]? = some p) (a : Int32) : (heapN N sc x m (pcells 67 P)).set (2 * k + 67) (.inr (3, [.int (i_wood p), .int (i_place p), .int (i_looked p), .int (i_there p), .int (i_known p), .ref (2 * k + 67 + 1)].set 2 (.int a))) = heapN N sc x m (pcells 67 (P.set k (i_wood p, i_place p, a, i_there p, i_known p, i_num p))) := by
  rw [heapN_set, ← piece_set1 (q := (i_wood p, i_place p, a, i_there p, i_known p, i_num p)) hp rfl]
  rfl
theorem piece_put3 {P : List PieceS} {k : Nat} {p : PieceS} (hp : P[k]? = some p) (a : Int32) : (heapN N sc x m (pcells 67 P)).set (2 * k + 67) (.inr (3, [.int (i_wood p), .int (i_place p), .int (i_looked p), .int (i_there p), .int (i_known p), .ref (2 * k + 67 + 1)].set 3 (.int a))) = heapN N sc x m (pcells 67 (P.set k (i_wood p, i_place p, i_looked p, a, i_known p, i_num p))) := by
  rw [heapN_set, ← piece_set1 (q := (i_wood p, i_place p, i_looked p, a, i_known p, i_num p)) hp rfl]
  rfl
theorem l_C_back (h8 : P.length ≤ 8) (kc : Nat) (hkc : kc ≤ 8) (hc : xC_kc x = nI kc) {hT : MH} {v : Option Value} (K : MW M_C_back 2 0 0 v hT 0 0 80 [(0, .ref 5)] [] (heapN P.length sc x m (pcells 67 (sp_bk kc (xC_kl x) (xC_kt x) P P.length)))) : ∀ r t, t + r = P.length → MW M_C_back 2 0 0 v hT 0 0 12 [(0, .ref 5), (1, .int (nI t))] [] (heapN P.length sc x m (pcells 67 (sp_bk kc (xC_kl x) (xC_kt x) P t))) := by
  intro r
  induction r with
  | zero =>
    intro t ht
    rw [show t = P.length by omega]
    repeat (refine mw_step rfl ?_)
    refine mw_brF rfl (n_nlt (by omega) (by omega)) ?_
    refine mw_pick [0] ?_
    exact K
  | succ r ih =>
    intro t ht
    obtain ⟨p, hp0⟩ : ∃ p, P[t]? = some p := ⟨P[t]'(by omega), List.getElem?_eq_getElem (by omega)⟩
    have hp : (sp_bk kc (xC_kl x) (xC_kt x) P t)[t]? = some p := by rw [sp_bk_ge _ _ _ _ _ _ (Nat.le_refl _)]; exact hp0
    have hg : P.getD t pz = p := by rw [List.getD_eq_getElem?_getD, hp0]; rfl
    have L := ih (t + 1) (by omega)
    rw [sp_bk, hg] at L
    generalize sp_bk kc (xC_kl x) (xC_kt x) P t = B at hp L ⊢
    have hi : (heapN P.length sc x m (pcells 67 B))[2 * t + 67]? = _ := (pcells_get B 67 t p hp).1
    have hp2 : ∀ a : Int32, (B.set t (i_wood p, i_place p, a, i_there p, i_known p, i_num p))[t]? = some (i_wood p, i_place p, a, i_there p, i_known p, i_num p) := fun a => List.getElem?_set_self (List.getElem?_eq_some_iff.mp hp).1
    have hi2 : ∀ a : Int32, (heapN P.length sc x m (pcells 67 (B.set t (i_wood p, i_place p, a, i_there p, i_known p, i_num p))))[2 * t + 67]? = _ := fun a => (pcells_get (B.set t (i_wood p, i_place p, a, i_there p, i_known p, i_num p)) 67 t _ (hp2 a)).1
    repeat (refine mw_step rfl ?_)
    refine mw_brT rfl (n_lt (by omega) (by omega)) ?_
    repeat (refine mw_step rfl ?_)
    refine mw_call (c_pieceAt t h8 (by omega)) rfl rfl (Nat.le_of_ble_eq_true rfl) (Nat.le_refl _) (Nat.le_refl _) ?_
    repeat (refine mw_step rfl ?_)
    rw [hc]
    by_cases hk : t < kc
    · refine mw_brT rfl (n_lt hk (by omega)) ?_
      repeat (refine mw_step rfl ?_)
      refine mw_ild rfl (rfl) (by omega) (by decide) ?_
      repeat (refine mw_step rfl ?_)
      refine mw_putf rfl hi (by omega) (Nat.le_of_ble_eq_true rfl) rfl ?_
      rw [piece_put2 hp]
      repeat (refine mw_step rfl ?_)
      rw [hc]
      refine mw_brT rfl (n_lt hk (by omega)) ?_
      repeat (refine mw_step rfl ?_)
      refine mw_ild rfl (rfl) (by omega) (by decide) ?_
      repeat (refine mw_step rfl ?_)
      refine mw_putf rfl (hi2 _) (by omega) (Nat.le_of_ble_eq_true rfl) rfl ?_
      rw [piece_put3 (hp2 _), List.set_set]
      repeat (refine mw_to 12 rfl rfl ?_)
      rw [nI_1]
      refine mw_pick [0, 1] ?_
      rw [sp_bk1, if_pos hk, if_pos hk] at L
      exact L
    · refine mw_brF rfl (n_nlt (by omega) (by omega)) ?_
      repeat (refine mw_step rfl ?_)
      refine mw_putf rfl hi (by omega) (Nat.le_of_ble_eq_true rfl) rfl ?_
      rw [piece_put2 hp]
      repeat (refine mw_step rfl ?_)
      rw [hc]
      refine mw_brF rfl (n_nlt (by omega) (by omega)) ?_
      repeat (refine mw_step rfl ?_)
      refine mw_putf rfl (hi2 _) (by omega) (Nat.le_of_ble_eq_true rfl) rfl ?_
      rw [piece_put3 (hp2 _), List.set_set]
      repeat (refine mw_to 12 rfl rfl ?_)
      rw [nI_1]
      refine mw_pick [0, 1] ?_
      rw [sp_bk1, if_neg hk, if_neg hk] at L
      exact L
theorem c_C_back0 (hh : xC_has x = 0) : MC M_C_back 2 0 0 [.ref 5] (heapN N sc x m tl) (some (.int (-5))) (heapN N sc x m tl) := by
  refine mc_of k1_C_back k2_C_back (Nat.le_of_ble_eq_true rfl) ?_
  repeat (refine mw_step rfl ?_)
  refine mw_brT rfl (hh) ?_
  repeat (refine mw_step rfl ?_)
  exact mw_r1 rfl trivial (Nat.le_refl _) (Nat.le_refl _) rfl rfl
theorem c_C_back (h8 : P.length ≤ 8) (hh : xC_has x = 1) (kc : Nat) (hkc : kc ≤ 8) (hc : xC_kc x = nI kc) : MC M_C_back 2 0 0 [.ref 5] (heap sc x m P) (some (.int (nI P.length))) (heap sc x m (sp_bk kc (xC_kl x) (xC_kt x) P P.length)) := by
  refine mc_of k1_C_back k2_C_back (Nat.le_of_ble_eq_true rfl) ?_
  unfold heap
  rw [sp_bk_len]
  repeat (refine mw_step rfl ?_)
  refine mw_brF rfl (by rw [hh]; decide) ?_
  repeat (refine mw_to 12 rfl rfl ?_)
  refine mw_pick [0, 1] ?_
  refine l_C_back h8 kc hkc hc ?_ P.length 0 (by omega)
  repeat (refine mw_step rfl ?_)
  exact mw_r1 rfl trivial (Nat.le_refl _) (Nat.le_refl _) rfl rfl
/-- the reference's image -/
def sp_cp (f g : Nat → Int32) (t : Nat) : Nat → Int32 := fun j => if j < t then g j else f j
theorem sp_cp_0 (f g : Nat → Int32) : sp_cp f g 0 = f := funext fun j => if_neg (by omega)
theorem sp_cp_up (f g : Nat → Int32) (t : Nat) : upd (sp_cp f g t) t (g t) = sp_cp f g (t + 1) := by
  funext j
  unfold upd sp_cp
  by_cases h : j = t
  · subst h
    rw [if_pos rfl, if_pos (by omega)]
  · rw [if_neg h]
    by_cases h2 : j < t
    · rw [if_pos h2, if_pos (by omega)]
    · rw [if_neg h2, if_neg (by omega)]
theorem l_O_image {hT : MH} {v : Option Value} (f : Nat → Int32) (K : MW M_O_image 0 0 0 v hT 0 0 39 [(0, .ref 39)] [] (heapN N sc x (zi_image_s m (sp_cp f (zp_found m) 48)) tl)) : ∀ r t, t + r = 48 → MW M_O_image 0 0 0 v hT 0 0 15 [(0, .ref 39), (1, .int (nI t))] [] (heapN N sc x (zi_image_s m (sp_cp f (zp_found m) t)) tl) := by
  intro r
  induction r with
  | zero =>
    intro t ht
    rw [show t = 48 by omega]
    repeat (refine mw_step rfl ?_)
    refine mw_brF rfl (by decide) ?_
    refine mw_pick [0] ?_
    exact K
  | succ r ih =>
    intro t ht
    have L := ih (t + 1) (by omega)
    rw [← sp_cp_up] at L
    repeat (refine mw_step rfl ?_)
    refine mw_brT rfl (n_lt (b := 48) (by omega) (by omega)) ?_
    repeat (refine mw_step rfl ?_)
    refine mw_ild rfl (rfl) (by omega) (by decide) ?_
    refine mw_ist rfl (rfl) (by omega) (by decide) ?_
    repeat (refine mw_to 15 rfl rfl ?_)
    rw [nI_1]
    refine mw_pick [0, 1] ?_
    exact L
theorem c_O_image : MC M_O_image 0 0 0 [.ref 39] (heapN N sc x m tl) (some (.int (zp_parts m))) (heapN N sc x (zi_s m (sp_cp (zi_image m) (zp_found m) 48, zp_parts m, 1)) tl) := by
  refine mc_of k1_O_image k2_O_image (Nat.le_of_ble_eq_true rfl) ?_
  repeat (refine mw_to 15 rfl rfl ?_)
  refine mw_pick [0, 1] ?_
  have L := l_O_image (N := N) (sc := sc) (x := x) (tl := tl) (m := zi_s m (zi_image m, zp_parts m, 1)) (hT := heapN N sc x (zi_s m (sp_cp (zi_image m) (zp_found m) 48, zp_parts m, 1)) tl) (v := some (.int (zp_parts m))) (zi_image m) (by
    repeat (refine mw_step rfl ?_)
    exact mw_r1 rfl trivial (Nat.le_refl _) (Nat.le_refl _) rfl rfl) 48 0 (by omega)
  rw [sp_cp_0] at L
  exact L
theorem l_O_back (kc : Nat) (hkc : kc ≤ 8) (hc : zi_parts m = nI kc) {hT : MH} {v : Option Value} (f : Nat → Int32) (K : MW M_O_back 0 0 0 v hT 0 0 51 [(0, .ref 39)] [] (heapN N sc x (zp_found_s m (sp_cp f (fun j => if j < 6 * kc then zi_image m j else 0) 48)) tl)) : ∀ r t, t + r = 48 → MW M_O_back 0 0 0 v hT 0 0 12 [(0, .ref 39), (1, .int (nI t))] [] (heapN N sc x (zp_found_s m (sp_cp f (fun j => if j < 6 * kc then zi_image m j else 0) t)) tl) := by
  intro r
  induction r with
  | zero =>
    intro t ht
    rw [show t = 48 by omega]
    repeat (refine mw_step rfl ?_)
    refine mw_brF rfl (by decide) ?_
    refine mw_pick [0] ?_
    exact K
  | succ r ih =>
    intro t ht
    have e : (6 : Int32) * nI kc = nI (6 * kc) := pk_mul 6 kc
    have L := ih (t + 1) (by omega)
    rw [← sp_cp_up] at L
    repeat (refine mw_step rfl ?_)
    refine mw_brT rfl (n_lt (b := 48) (by omega) (by omega)) ?_
    repeat (refine mw_step rfl ?_)
    rw [show zi_parts (zp_found_s m (sp_cp f (fun j => if j < 6 * kc then zi_image m j else 0) t)) = nI kc from hc, e]
    by_cases hk : t < 6 * kc
    · refine mw_brT rfl (n_lt hk (by omega)) ?_
      repeat (refine mw_step rfl ?_)
      refine mw_ild rfl (rfl) (by omega) (by decide) ?_
      repeat (refine mw_step rfl ?_)
      refine mw_ist rfl (rfl) (by omega) (by decide) ?_
      repeat (refine mw_to 12 rfl rfl ?_)
      rw [nI_1]
      refine mw_pick [0, 1] ?_
      simp only [if_pos hk] at L
      exact L
    · refine mw_brF rfl (n_nlt (by omega) (by omega)) ?_
      repeat (refine mw_step rfl ?_)
      refine mw_ist rfl (rfl) (by omega) (by decide) ?_
      repeat (refine mw_to 12 rfl rfl ?_)
      rw [nI_1]
      refine mw_pick [0, 1] ?_
      simp only [if_neg hk] at L
      exact L
theorem c_O_back0 (hh : zi_isKept m = 0) : MC M_O_back 0 0 0 [.ref 39] (heapN N sc x m tl) (some (.int (-5))) (heapN N sc x m tl) := by
  refine mc_of k1_O_back k2_O_back (Nat.le_of_ble_eq_true rfl) ?_
  repeat (refine mw_step rfl ?_)
  refine mw_brT rfl (hh) ?_
  repeat (refine mw_step rfl ?_)
  exact mw_r1 rfl trivial (Nat.le_refl _) (Nat.le_refl _) rfl rfl
theorem c_O_back (hh : zi_isKept m = 1) (kc : Nat) (hkc : kc ≤ 8) (hc : zi_parts m = nI kc) : MC M_O_back 0 0 0 [.ref 39] (heapN N sc x m tl) (some (.int (zp_parts m))) (heapN N sc x (zp_found_s m (sp_cp (zp_found m) (fun j => if j < 6 * kc then zi_image m j else 0) 48)) tl) := by
  refine mc_of k1_O_back k2_O_back (Nat.le_of_ble_eq_true rfl) ?_
  repeat (refine mw_step rfl ?_)
  refine mw_brF rfl (by rw [hh]; decide) ?_
  repeat (refine mw_to 12 rfl rfl ?_)
  refine mw_pick [0, 1] ?_
  have L := l_O_back (N := N) (sc := sc) (x := x) (tl := tl) (m := m) kc hkc hc (hT := heapN N sc x (zp_found_s m (sp_cp (zp_found m) (fun j => if j < 6 * kc then zi_image m j else 0) 48)) tl) (v := some (.int (zp_parts m))) (zp_found m) (by
    repeat (refine mw_step rfl ?_)
    exact mw_r1 rfl trivial (Nat.le_refl _) (Nat.le_refl _) rfl rfl) 48 0 (by omega)
  rw [sp_cp_0] at L
  exact L
end BK
end
section
/-! count, taken -/
def us (y k : Int32) : Int32 := (y.toUInt32 >>> (k.toUInt32 &&& Int32.toUInt32 31)).toInt32
def sp_b1 (y : Int32) : Int32 := y - (us y 1 &&& 1431655765)
def sp_b2 (a : Int32) : Int32 := (a &&& 858993459) + (us a 2 &&& 858993459)
def sp_b3 (b : Int32) : Int32 := (b + us b 4) &&& 252645135
def sp_bits (y : Int32) : Int32 := let c := sp_b3 (sp_b2 (sp_b1 y)); let d := c + us c 8; (d + us d 16) &&& 63
theorem c_J_bits (h : MH) (y : Int32) : MC M_J_bits 0 0 0 [.int y] h (some (.int (sp_bits y))) h := by
  refine mc_of k1_J_bits k2_J_bits (Nat.le_of_ble_eq_true rfl) ?_
  repeat (refine mw_step rfl ?_)
  exact mw_r1 rfl trivial (Nat.le_refl _) (Nat.le_refl _) rfl rfl
def sp_cntP (P : List PieceS) : Nat → Int32
  | 0 => 0
  | t + 1 => sp_cntP P t + sp_bits (i_looked (P.getD t pz))
def sp_cntO (f : Nat → Int32) : Nat → Int32
  | 0 => 0
  | t + 1 => sp_cntO f t + (if 0 < f t then 1 else 0)
section CN
variable {sc : Nat × (Nat → Int32)} {x : XS} {m : OS} {P : List PieceS} {N : Nat} {tl : MH}
theorem l_C_looked (h8 : P.length ≤ 8) : ∀ r t, t + r = P.length → MW M_C_marksLookedFor 2 0 0 (some (.int (sp_cntP P P.length))) (heap sc x m P) 0 0 4 [(0, .ref 5), (1, .int (sp_cntP P t)), (2, .int (nI t))] [] (heap sc x m P) := by
  intro r
  induction r with
  | zero =>
    intro t ht
    rw [show t = P.length by omega]
    unfold heap
    repeat (refine mw_step rfl ?_)
    refine mw_brF rfl (n_nlt (by omega) (by omega)) ?_
    repeat (refine mw_step rfl ?_)
    exact mw_r1 rfl trivial (Nat.le_refl _) (Nat.le_refl _) rfl rfl
  | succ r ih =>
    intro t ht
    obtain ⟨p, hp⟩ : ∃ p, P[t]? = some p := ⟨P[t]'(by omega), List.getElem?_eq_getElem (by omega)⟩
    have hg : P.getD t pz = p := by rw [List.getD_eq_getElem?_getD, hp]; rfl
    have hi := (heap_get (sc := sc) (x := x) (m := m) hp).1
    have L := ih (t + 1) (by omega)
    rw [sp_cntP, hg] at L
    unfold heap at hi L ⊢
    repeat (refine mw_step rfl ?_)
    refine mw_brT rfl (n_lt (by omega) (by omega)) ?_
    repeat (refine mw_step rfl ?_)
    refine mw_call (c_pieceAt t h8 (by omega)) rfl rfl (Nat.le_of_ble_eq_true rfl) (Nat.le_refl _) (Nat.le_refl _) ?_
    repeat (refine mw_step rfl ?_)
    refine mw_getf rfl hi (by omega) rfl ?_
    refine mw_call (c_J_bits _ _) rfl rfl (Nat.le_of_ble_eq_true rfl) (Nat.le_refl _) (Nat.le_refl _) ?_
    repeat (refine mw_to 4 rfl rfl ?_)
    rw [nI_1]
    refine mw_pick [0, 1, 2] ?_
    exact L
theorem c_C_looked (h8 : P.length ≤ 8) : MC M_C_marksLookedFor 2 0 0 [.ref 5] (heap sc x m P) (some (.int (sp_cntP P P.length))) (heap sc x m P) := by
  refine mc_of k1_C_marksLookedFor k2_C_marksLookedFor (Nat.le_of_ble_eq_true rfl) ?_
  repeat (refine mw_to 4 rfl rfl ?_)
  refine mw_pick [0, 1, 2] ?_
  exact l_C_looked h8 P.length 0 (by omega)
def sp_cnt (what a0 a1 a2 a3 a4 a5 a6 : Int32) : Int32 := if what = nI 0 then a0 else if what = nI 1 then a1 else if what = nI 2 then a2 else if what = nI 3 then a3 else if what = nI 4 then a4 else if what = nI 5 then a5 else if what = nI 6 then a6 else -1
theorem c_C_count (h8 : P.length ≤ 8) (what : Int32) : MC M_C_count 3 0 0 [.ref 5, .int what] (heap sc x m P) (some (.int (sp_cnt what (nI P.length) (xP_many x) (sp_cntP P P.length) (xR_len x) (xT_done x) (xB_many x) (xB_runs x)))) (heap sc x m P) := by
  refine mc_of k1_C_count k2_C_count (Nat.le_of_ble_eq_true rfl) ?_
  have hl := c_C_looked (sc := sc) (x := x) (m := m) h8
  unfold heap at hl ⊢
  repeat (refine mw_step rfl ?_)
  by_cases hw : 0 ≤ what ∧ what ≤ nI 6
  · obtain ⟨a, ha, rfl⟩ := rng (n := 6) (by decide) hw
    rcases (show a = 0 ∨ a = 1 ∨ a = 2 ∨ a = 3 ∨ a = 4 ∨ a = 5 ∨ a = 6 by omega) with rfl | rfl | rfl | rfl | rfl | rfl | rfl
    · refine mw_sw (t := 44) rfl ?_
      repeat (refine mw_step rfl ?_)
      exact mw_r1 rfl trivial (Nat.le_refl _) (Nat.le_refl _) rfl rfl
    · refine mw_sw (t := 49) rfl ?_
      repeat (refine mw_step rfl ?_)
      exact mw_r1 rfl trivial (Nat.le_refl _) (Nat.le_refl _) rfl rfl
    · refine mw_sw (t := 57) rfl ?_
      repeat (refine mw_step rfl ?_)
      refine mw_call (hl) rfl rfl (Nat.le_of_ble_eq_true rfl) (Nat.le_refl _) (Nat.le_refl _) ?_
      exact mw_r1 rfl trivial (Nat.le_refl _) (Nat.le_refl _) rfl rfl
    · refine mw_sw (t := 62) rfl ?_
      repeat (refine mw_step rfl ?_)
      exact mw_r1 rfl trivial (Nat.le_refl _) (Nat.le_refl _) rfl rfl
    · refine mw_sw (t := 70) rfl ?_
      repeat (refine mw_step rfl ?_)
      exact mw_r1 rfl trivial (Nat.le_refl _) (Nat.le_refl _) rfl rfl
    · refine mw_sw (t := 78) rfl ?_
      repeat (refine mw_step rfl ?_)
      exact mw_r1 rfl trivial (Nat.le_refl _) (Nat.le_refl _) rfl rfl
    · refine mw_sw (t := 86) rfl ?_
      repeat (refine mw_step rfl ?_)
      exact mw_r1 rfl trivial (Nat.le_refl _) (Nat.le_refl _) rfl rfl
  · refine mw_sw (t := 94) (m_sw_out rfl (m_out (n := 6) (by decide) hw) rfl) ?_
    repeat (refine mw_step rfl ?_)
    have hne : ∀ k : Nat, k ≤ 6 → ¬ what = nI k := fun k hk e => hw (by rw [e]; exact rng_in hk (by decide))
    exact mw_r1 rfl trivial (Nat.le_refl _) (Nat.le_refl _) (by rw [sp_cnt, if_neg (hne 0 (by omega)), if_neg (hne 1 (by omega)), if_neg (hne 2 (by omega)), if_neg (hne 3 (by omega)), if_neg (hne 4 (by omega)), if_neg (hne 5 (by omega)), if_neg (hne 6 (by omega))]) rfl
theorem l_O_looked (n : Nat) (hn : n ≤ 8) (hp : zp_parts m = nI n) : ∀ r t, t + r = 6 * n → MW M_O_lookedFor 0 0 0 (some (.int (sp_cntO (zp_found m) (6 * n)))) (heapN N sc x m tl) 0 0 4 [(0, .ref 39), (1, .int (sp_cntO (zp_found m) t)), (2, .int (nI t))] [] (heapN N sc x m tl) := by
  have e : (6 : Int32) * nI n = nI (6 * n) := pk_mul 6 n
  intro r
  induction r with
  | zero =>
    intro t ht
    rw [show t = 6 * n by omega]
    repeat (refine mw_step rfl ?_)
    refine mw_brF rfl (by rw [hp, e]; exact n_nlt (by omega) (by omega)) ?_
    repeat (refine mw_step rfl ?_)
    exact mw_r1 rfl trivial (Nat.le_refl _) (Nat.le_refl _) rfl rfl
  | succ r ih =>
    intro t ht
    have L := ih (t + 1) (by omega)
    rw [sp_cntO] at L
    repeat (refine mw_step rfl ?_)
    refine mw_brT rfl (by rw [hp, e]; exact n_lt (by omega) (by omega)) ?_
    repeat (refine mw_step rfl ?_)
    refine mw_ild rfl (rfl) (by omega) (by decide) ?_
    refine mw_br rfl (fun h1 => ?_) (fun h1 => ?_)
    · rw [if_pos h1] at L
      repeat (refine mw_to 4 rfl rfl ?_)
      rw [nI_1]
      refine mw_pick [0, 1, 2] ?_
      exact L
    · rw [if_neg h1] at L
      repeat (refine mw_to 4 rfl rfl ?_)
      rw [nI_1]
      refine mw_pick [0, 1, 2] ?_
      exact L
theorem c_O_looked (n : Nat) (hn : n ≤ 8) (hp : zp_parts m = nI n) : MC M_O_lookedFor 0 0 0 [.ref 39] (heapN N sc x m tl) (some (.int (sp_cntO (zp_found m) (6 * n)))) (heapN N sc x m tl) := by
  refine mc_of k1_O_lookedFor k2_O_lookedFor (Nat.le_of_ble_eq_true rfl) ?_
  repeat (refine mw_to 4 rfl rfl ?_)
  refine mw_pick [0, 1, 2] ?_
  exact l_O_looked n hn hp (6 * n) 0 (by omega)
theorem c_O_count (n : Nat) (hn : n ≤ 8) (hp : zp_parts m = nI n) (what : Int32) : MC M_O_count 1 0 0 [.ref 39, .int what] (heapN N sc x m tl) (some (.int (sp_cnt what (nI n) (zq_papers m) (sp_cntO (zp_found m) (6 * n)) (zt_tapeMany m) (za_done m) (zb_bodies m) (zb_ran m)))) (heapN N sc x m tl) := by
  refine mc_of k1_O_count k2_O_count (Nat.le_of_ble_eq_true rfl) ?_
  repeat (refine mw_step rfl ?_)
  by_cases hw : 0 ≤ what ∧ what ≤ nI 6
  · obtain ⟨a, ha, rfl⟩ := rng (n := 6) (by decide) hw
    rcases (show a = 0 ∨ a = 1 ∨ a = 2 ∨ a = 3 ∨ a = 4 ∨ a = 5 ∨ a = 6 by omega) with rfl | rfl | rfl | rfl | rfl | rfl | rfl
    · refine mw_sw (t := 44) rfl ?_
      repeat (refine mw_step rfl ?_)
      exact mw_r1 rfl trivial (Nat.le_refl _) (Nat.le_refl _) (by rw [hp]; rfl) rfl
    · refine mw_sw (t := 49) rfl ?_
      repeat (refine mw_step rfl ?_)
      exact mw_r1 rfl trivial (Nat.le_refl _) (Nat.le_refl _) rfl rfl
    · refine mw_sw (t := 54) rfl ?_
      repeat (refine mw_step rfl ?_)
      refine mw_call (c_O_looked n hn hp) rfl rfl (Nat.le_of_ble_eq_true rfl) (Nat.le_refl _) (Nat.le_refl _) ?_
      exact mw_r1 rfl trivial (Nat.le_refl _) (Nat.le_refl _) rfl rfl
    · refine mw_sw (t := 59) rfl ?_
      repeat (refine mw_step rfl ?_)
      exact mw_r1 rfl trivial (Nat.le_refl _) (Nat.le_refl _) rfl rfl
    · refine mw_sw (t := 64) rfl ?_
      repeat (refine mw_step rfl ?_)
      exact mw_r1 rfl trivial (Nat.le_refl _) (Nat.le_refl _) rfl rfl
    · refine mw_sw (t := 69) rfl ?_
      repeat (refine mw_step rfl ?_)
      exact mw_r1 rfl trivial (Nat.le_refl _) (Nat.le_refl _) rfl rfl
    · refine mw_sw (t := 74) rfl ?_
      repeat (refine mw_step rfl ?_)
      exact mw_r1 rfl trivial (Nat.le_refl _) (Nat.le_refl _) rfl rfl
  · refine mw_sw (t := 79) (m_sw_out rfl (m_out (n := 6) (by decide) hw) rfl) ?_
    repeat (refine mw_step rfl ?_)
    have hne : ∀ k : Nat, k ≤ 6 → ¬ what = nI k := fun k hk e => hw (by rw [e]; exact rng_in hk (by decide))
    exact mw_r1 rfl trivial (Nat.le_refl _) (Nat.le_refl _) (by rw [sp_cnt, if_neg (hne 0 (by omega)), if_neg (hne 1 (by omega)), if_neg (hne 2 (by omega)), if_neg (hne 3 (by omega)), if_neg (hne 4 (by omega)), if_neg (hne 5 (by omega)), if_neg (hne 6 (by omega))]) rfl
/-- taken -/
def sp_und (top : Int32) : Nat → Int32 → Bool
  | 0, _ => false
  | r + 1, a => if 0 ≤ a ∧ a ≤ nI 7 then (if a = top then true else sp_und top r (k_above a.toNatClampNeg)) else false
theorem bI_b {b : Bool} (h : b = true) : bI (b = true) = 1 := bI_t h
theorem l_B_isUnder (top : Int32) (k0 : Value) : ∀ r t (a : Int32), t + r = 8 → MW M_B_isUnder 2 0 0 (some (.int (bI (sp_und top r a = true)))) (heapN N sc x m tl) 0 0 4 [(0, k0), (1, .int top), (2, .int a), (3, .int (nI t))] [] (heapN N sc x m tl) := by
  intro r
  induction r with
  | zero =>
    intro t a ht
    repeat (refine mw_step rfl ?_)
    refine mw_brF rfl (n_nlt (b := 8) (by omega) (by omega)) ?_
    repeat (refine mw_step rfl ?_)
    exact mw_r1 rfl rfl (Nat.le_refl _) (Nat.le_refl _) (by rw [bI_f]; exact (show ¬ (false = true) by decide)) rfl
  | succ r ih =>
    intro t a ht
    repeat (refine mw_step rfl ?_)
    refine mw_brT rfl (n_lt (b := 8) (by omega) (by omega)) ?_
    repeat (refine mw_step rfl ?_)
    refine mw_call (c_B_isBodyKind _ _) rfl rfl (Nat.le_of_ble_eq_true rfl) (Nat.le_refl _) (Nat.le_refl _) ?_
    refine mw_br rfl (fun h1 => ?_) (fun h1 => ?_)
    · repeat (refine mw_step rfl ?_)
      exact mw_r1 rfl rfl (Nat.le_refl _) (Nat.le_refl _) (by rw [bI_f]; rw [sp_und, if_neg (bI_0.mp h1)]; decide) rfl
    · have h1 := bI_of h1
      repeat (refine mw_step rfl ?_)
      refine mw_br rfl (fun h2 => ?_) (fun h2 => ?_)
      · repeat (refine mw_step rfl ?_)
        exact mw_r1 rfl rfl (Nat.le_refl _) (Nat.le_refl _) (by rw [bI_t]; rw [sp_und, if_pos h1, if_pos h2]) rfl
      · obtain ⟨b, hb, rfl⟩ := rng (n := 7) (by decide) h1
        have L := ih (t + 1) (k_above b) (by omega)
        rw [show sp_und top (r + 1) (nI b) = sp_und top r (k_above b) by rw [sp_und, if_pos h1, if_neg h2, nI_clamp (by omega)]]
        repeat (refine mw_step rfl ?_)
        refine mw_ild rfl (rfl) (by omega) (by decide) ?_
        repeat (refine mw_to 4 rfl rfl ?_)
        rw [nI_1]
        refine mw_pick [0, 1, 2, 3] ?_
        exact L
theorem c_B_isUnder (k top : Int32) : MC M_B_isUnder 2 0 0 [.int k, .int top] (heapN N sc x m tl) (some (.int (bI (sp_und top 8 k = true)))) (heapN N sc x m tl) := by
  refine mc_of k1_B_isUnder k2_B_isUnder (Nat.le_of_ble_eq_true rfl) ?_
  repeat (refine mw_to 4 rfl rfl ?_)
  refine mw_pick [0, 1, 2, 3] ?_
  exact l_B_isUnder top (.int k) 8 0 k (by omega)
def sp_abv (k : Nat) : Nat := if k = 3 then 2 else if k = 4 then 1 else if k = 5 then 3 else if k = 7 then 4 else 0
theorem c_O_above (h : MH) (k : Nat) (hk : k ≤ 7) : MC M_O_above 0 0 0 [.int (nI k)] h (some (.int (nI (sp_abv k)))) h := by
  refine mc_of k1_O_above k2_O_above (Nat.le_of_ble_eq_true rfl) ?_
  rcases (show k = 0 ∨ k = 1 ∨ k = 2 ∨ k = 3 ∨ k = 4 ∨ k = 5 ∨ k = 6 ∨ k = 7 by omega) with rfl | rfl | rfl | rfl | rfl | rfl | rfl | rfl <;>
  · repeat (first | refine mw_step rfl ?_ | refine mw_brT rfl (by decide) ?_ | refine mw_brF rfl (by decide) ?_)
    exact mw_r1 rfl trivial (Nat.le_refl _) (Nat.le_refl _) rfl rfl
def sp_undO (top : Int32) : Nat → Nat → Bool
  | 0, _ => false
  | r + 1, k => if nI k = top then true else if k = 0 then false else sp_undO top r (sp_abv k)
theorem sp_abv_lt {k : Nat} (h : 0 < k) : sp_abv k < k := by
  unfold sp_abv
  split
  · omega
  · split
    · omega
    · split
      · omega
      · split <;> omega
theorem l_O_taken {v : Option Value} {hT : MH} (d top : Int32) : ∀ r k, k < r → k ≤ 7 → (sp_undO top r k = true → MW M_O_taken 2 0 0 v hT 0 0 75 [(0, .ref 39), (1, .int d), (2, .int top), (3, .int top)] [] (heapN N sc x m tl)) → (sp_undO top r k = false → ¬ top = 0 → MW M_O_taken 2 0 0 v hT 0 0 75 [(0, .ref 39), (1, .int d), (2, .int top), (3, .int 0)] [] (heapN N sc x m tl)) → MW M_O_taken 2 0 0 v hT 0 0 58 [(0, .ref 39), (1, .int d), (2, .int top), (3, .int (nI k))] [] (heapN N sc x m tl) := by
  intro r
  induction r with
  | zero => intro k hk; omega
  | succ r ih =>
    intro k hk h7 K1 K2
    rw [sp_undO] at K1 K2
    repeat (refine mw_step rfl ?_)
    refine mw_br rfl (fun h1 => ?_) (fun h1 => ?_)
    · rw [if_pos h1] at K1
      rw [show nI k = top from h1]
      exact K1 rfl
    · rw [if_neg h1] at K1 K2
      repeat (refine mw_step rfl ?_)
      by_cases h0 : k = 0
      · subst h0
        refine mw_brF rfl (by decide) ?_
        rw [if_pos rfl] at K2
        exact K2 rfl (fun e => h1 e.symm)
      · rw [if_neg h0] at K1 K2
        refine mw_brT rfl (n_lt (a := 0) (by omega) (by omega)) ?_
        repeat (refine mw_step rfl ?_)
        refine mw_call (c_O_above _ k h7) rfl rfl (Nat.le_of_ble_eq_true rfl) (Nat.le_refl _) (Nat.le_refl _) ?_
        repeat (refine mw_to 58 rfl rfl ?_)
        refine mw_pick [0, 1, 2, 3] ?_
        have := sp_abv_lt (k := k) (by omega)
        exact ih (sp_abv k) (by omega) (by omega) K1 K2
end CN
end
