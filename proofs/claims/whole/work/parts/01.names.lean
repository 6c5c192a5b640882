-- ===== PART A: goes FIRST, ahead of the names: the tables' words, and 'selects' of the private methods out of them =====
/-- a private method of a class that the tables say can be made, by its rows of tables_1 -/
def lw_okq (q : MethodName × Nat) : Prop := (q.1.cls ≠ "java/lang/invoke/MethodHandle" ∧ q.1.cls ≠ "java/lang/invoke/VarHandle") ∧ Cond.instantiable q.1.cls q.2 ∈ tables_1 ∧ Cond.privateMethod q.1 ∈ tables_1 ∧ Cond.instanceMethod q.1 ∈ tables_1
theorem lw_p0 : lw_okq (⟨"DotThresholds$Text", "step", "()V"⟩, 6) := ⟨⟨by decide +kernel, by decide +kernel⟩, List.mem_of_getElem? (i := 25) (by decide +kernel), List.mem_of_getElem? (i := 352) (by decide +kernel), List.mem_of_getElem? (i := 353) (by decide +kernel)⟩
theorem lw_p1 : lw_okq (⟨"DotThresholds$Text", "readDigits", "(I)V"⟩, 6) := ⟨⟨by decide +kernel, by decide +kernel⟩, List.mem_of_getElem? (i := 25) (by decide +kernel), List.mem_of_getElem? (i := 359) (by decide +kernel), List.mem_of_getElem? (i := 360) (by decide +kernel)⟩
theorem lw_p2 : lw_okq (⟨"DotThresholds$Text", "readItem", "(LDotThresholds$Plan;Z)Z"⟩, 6) := ⟨⟨by decide +kernel, by decide +kernel⟩, List.mem_of_getElem? (i := 25) (by decide +kernel), List.mem_of_getElem? (i := 364) (by decide +kernel), List.mem_of_getElem? (i := 365) (by decide +kernel)⟩
theorem lw_p3 : lw_okq (⟨"DotThresholds$Text", "readMeasures", "(LDotThresholds$Plan;)Z"⟩, 6) := ⟨⟨by decide +kernel, by decide +kernel⟩, List.mem_of_getElem? (i := 25) (by decide +kernel), List.mem_of_getElem? (i := 368) (by decide +kernel), List.mem_of_getElem? (i := 369) (by decide +kernel)⟩
theorem lw_p4 : lw_okq (⟨"DotThresholds$Text", "stepToNumber", "(II)Z"⟩, 6) := ⟨⟨by decide +kernel, by decide +kernel⟩, List.mem_of_getElem? (i := 25) (by decide +kernel), List.mem_of_getElem? (i := 372) (by decide +kernel), List.mem_of_getElem? (i := 373) (by decide +kernel)⟩
theorem lw_p5 : lw_okq (⟨"DotThresholds$Text", "readKernel", "(LDotThresholds$Plan;)Z"⟩, 6) := ⟨⟨by decide +kernel, by decide +kernel⟩, List.mem_of_getElem? (i := 25) (by decide +kernel), List.mem_of_getElem? (i := 376) (by decide +kernel), List.mem_of_getElem? (i := 377) (by decide +kernel)⟩
theorem lw_p6 : lw_okq (⟨"DotThresholds$Text", "readStretch", "(LDotThresholds$Plan;)Z"⟩, 6) := ⟨⟨by decide +kernel, by decide +kernel⟩, List.mem_of_getElem? (i := 25) (by decide +kernel), List.mem_of_getElem? (i := 380) (by decide +kernel), List.mem_of_getElem? (i := 381) (by decide +kernel)⟩
theorem lw_p7 : lw_okq (⟨"DotThresholds$Text", "readCell", "(LDotThresholds$Plan;Z)Z"⟩, 6) := ⟨⟨by decide +kernel, by decide +kernel⟩, List.mem_of_getElem? (i := 25) (by decide +kernel), List.mem_of_getElem? (i := 384) (by decide +kernel), List.mem_of_getElem? (i := 385) (by decide +kernel)⟩
theorem lw_p8 : lw_okq (⟨"DotThresholds", "noDots", "()Z"⟩, 10) := ⟨⟨by decide +kernel, by decide +kernel⟩, List.mem_of_getElem? (i := 17) (by decide +kernel), List.mem_of_getElem? (i := 472) (by decide +kernel), List.mem_of_getElem? (i := 473) (by decide +kernel)⟩
theorem lw_p9 : lw_okq (⟨"DotThresholds", "restStep", "()Z"⟩, 10) := ⟨⟨by decide +kernel, by decide +kernel⟩, List.mem_of_getElem? (i := 17) (by decide +kernel), List.mem_of_getElem? (i := 476) (by decide +kernel), List.mem_of_getElem? (i := 477) (by decide +kernel)⟩
theorem lw_p10 : lw_okq (⟨"DotThresholds$Hold", "farthest", "(JI)I"⟩, 3) := ⟨⟨by decide +kernel, by decide +kernel⟩, List.mem_of_getElem? (i := 178) (by decide +kernel), List.mem_of_getElem? (i := 484) (by decide +kernel), List.mem_of_getElem? (i := 485) (by decide +kernel)⟩
theorem lw_p11 : lw_okq (⟨"DotThresholds", "emptyCells", "()J"⟩, 10) := ⟨⟨by decide +kernel, by decide +kernel⟩, List.mem_of_getElem? (i := 17) (by decide +kernel), List.mem_of_getElem? (i := 488) (by decide +kernel), List.mem_of_getElem? (i := 489) (by decide +kernel)⟩
theorem lw_p12 : lw_okq (⟨"DotThresholds", "bestMove", "()I"⟩, 10) := ⟨⟨by decide +kernel, by decide +kernel⟩, List.mem_of_getElem? (i := 17) (by decide +kernel), List.mem_of_getElem? (i := 534) (by decide +kernel), List.mem_of_getElem? (i := 535) (by decide +kernel)⟩
theorem lw_p13 : lw_okq (⟨"DotThresholds", "gain", "(II)I"⟩, 10) := ⟨⟨by decide +kernel, by decide +kernel⟩, List.mem_of_getElem? (i := 17) (by decide +kernel), List.mem_of_getElem? (i := 538) (by decide +kernel), List.mem_of_getElem? (i := 539) (by decide +kernel)⟩
theorem lw_p14 : lw_okq (⟨"DotThresholds", "numberWithRanks", "(II)I"⟩, 10) := ⟨⟨by decide +kernel, by decide +kernel⟩, List.mem_of_getElem? (i := 17) (by decide +kernel), List.mem_of_getElem? (i := 559) (by decide +kernel), List.mem_of_getElem? (i := 560) (by decide +kernel)⟩
theorem lw_p15 : lw_okq (⟨"DotThresholds", "ranksNow", "()LDotThresholds$Ranks;"⟩, 10) := ⟨⟨by decide +kernel, by decide +kernel⟩, List.mem_of_getElem? (i := 17) (by decide +kernel), List.mem_of_getElem? (i := 563) (by decide +kernel), List.mem_of_getElem? (i := 564) (by decide +kernel)⟩
def lw_privs_1 : List (MethodName × Nat) := [(⟨"DotThresholds$Text", "step", "()V"⟩, 6), (⟨"DotThresholds$Text", "readDigits", "(I)V"⟩, 6), (⟨"DotThresholds$Text", "readItem", "(LDotThresholds$Plan;Z)Z"⟩, 6), (⟨"DotThresholds$Text", "readMeasures", "(LDotThresholds$Plan;)Z"⟩, 6), (⟨"DotThresholds$Text", "stepToNumber", "(II)Z"⟩, 6), (⟨"DotThresholds$Text", "readKernel", "(LDotThresholds$Plan;)Z"⟩, 6), (⟨"DotThresholds$Text", "readStretch", "(LDotThresholds$Plan;)Z"⟩, 6), (⟨"DotThresholds$Text", "readCell", "(LDotThresholds$Plan;Z)Z"⟩, 6), (⟨"DotThresholds", "noDots", "()Z"⟩, 10), (⟨"DotThresholds", "restStep", "()Z"⟩, 10), (⟨"DotThresholds$Hold", "farthest", "(JI)I"⟩, 3), (⟨"DotThresholds", "emptyCells", "()J"⟩, 10), (⟨"DotThresholds", "bestMove", "()I"⟩, 10), (⟨"DotThresholds", "gain", "(II)I"⟩, 10), (⟨"DotThresholds", "numberWithRanks", "(II)I"⟩, 10), (⟨"DotThresholds", "ranksNow", "()LDotThresholds$Ranks;"⟩, 10)]
theorem lw_r1 : ∀ q ∈ lw_privs_1, lw_okq q := List.forall_mem_cons.mpr ⟨lw_p0, List.forall_mem_cons.mpr ⟨lw_p1, List.forall_mem_cons.mpr ⟨lw_p2, List.forall_mem_cons.mpr ⟨lw_p3, List.forall_mem_cons.mpr ⟨lw_p4, List.forall_mem_cons.mpr ⟨lw_p5, List.forall_mem_cons.mpr ⟨lw_p6, List.forall_mem_cons.mpr ⟨lw_p7, List.forall_mem_cons.mpr ⟨lw_p8, List.forall_mem_cons.mpr ⟨lw_p9, List.forall_mem_cons.mpr ⟨lw_p10, List.forall_mem_cons.mpr ⟨lw_p11, List.forall_mem_cons.mpr ⟨lw_p12, List.forall_mem_cons.mpr ⟨lw_p13, List.forall_mem_cons.mpr ⟨lw_p14, List.forall_mem_cons.mpr ⟨lw_p15, fun _ h => absurd h List.not_mem_nil⟩⟩⟩⟩⟩⟩⟩⟩⟩⟩⟩⟩⟩⟩⟩⟩
theorem lw_p16 : lw_okq (⟨"DotThresholds$Ranks", "thin", "()V"⟩, 7) := ⟨⟨by decide +kernel, by decide +kernel⟩, List.mem_of_getElem? (i := 196) (by decide +kernel), List.mem_of_getElem? (i := 572) (by decide +kernel), List.mem_of_getElem? (i := 573) (by decide +kernel)⟩
theorem lw_p17 : lw_okq (⟨"DotThresholds$Ranks", "give", "(II)V"⟩, 7) := ⟨⟨by decide +kernel, by decide +kernel⟩, List.mem_of_getElem? (i := 196) (by decide +kernel), List.mem_of_getElem? (i := 582) (by decide +kernel), List.mem_of_getElem? (i := 583) (by decide +kernel)⟩
theorem lw_p18 : lw_okq (⟨"DotThresholds$Ranks", "fill", "()V"⟩, 7) := ⟨⟨by decide +kernel, by decide +kernel⟩, List.mem_of_getElem? (i := 196) (by decide +kernel), List.mem_of_getElem? (i := 588) (by decide +kernel), List.mem_of_getElem? (i := 589) (by decide +kernel)⟩
theorem lw_p19 : lw_okq (⟨"DotThresholds$Ranks", "turn", "()V"⟩, 7) := ⟨⟨by decide +kernel, by decide +kernel⟩, List.mem_of_getElem? (i := 196) (by decide +kernel), List.mem_of_getElem? (i := 595) (by decide +kernel), List.mem_of_getElem? (i := 596) (by decide +kernel)⟩
theorem lw_p20 : lw_okq (⟨"DotThresholds$Ranks", "nearestOf", "(II)I"⟩, 7) := ⟨⟨by decide +kernel, by decide +kernel⟩, List.mem_of_getElem? (i := 196) (by decide +kernel), List.mem_of_getElem? (i := 629) (by decide +kernel), List.mem_of_getElem? (i := 630) (by decide +kernel)⟩
theorem lw_p21 : lw_okq (⟨"DotThresholds", "pictureNow", "()LDotThresholds$Picture;"⟩, 10) := ⟨⟨by decide +kernel, by decide +kernel⟩, List.mem_of_getElem? (i := 17) (by decide +kernel), List.mem_of_getElem? (i := 655) (by decide +kernel), List.mem_of_getElem? (i := 656) (by decide +kernel)⟩
theorem lw_p22 : lw_okq (⟨"DotThresholds$Picture", "levelOf", "(I)I"⟩, 5) := ⟨⟨by decide +kernel, by decide +kernel⟩, List.mem_of_getElem? (i := 226) (by decide +kernel), List.mem_of_getElem? (i := 669) (by decide +kernel), List.mem_of_getElem? (i := 670) (by decide +kernel)⟩
theorem lw_p23 : lw_okq (⟨"DotThresholds", "isLine", "(I)Z"⟩, 10) := ⟨⟨by decide +kernel, by decide +kernel⟩, List.mem_of_getElem? (i := 17) (by decide +kernel), List.mem_of_getElem? (i := 701) (by decide +kernel), List.mem_of_getElem? (i := 702) (by decide +kernel)⟩
theorem lw_p24 : lw_okq (⟨"DotThresholds$Sights", "fits", "(I)Z"⟩, 5) := ⟨⟨by decide +kernel, by decide +kernel⟩, List.mem_of_getElem? (i := 248) (by decide +kernel), List.mem_of_getElem? (i := 721) (by decide +kernel), List.mem_of_getElem? (i := 722) (by decide +kernel)⟩
theorem lw_p25 : lw_okq (⟨"DotThresholds$Sights", "cellsOn", "(II)I"⟩, 5) := ⟨⟨by decide +kernel, by decide +kernel⟩, List.mem_of_getElem? (i := 248) (by decide +kernel), List.mem_of_getElem? (i := 725) (by decide +kernel), List.mem_of_getElem? (i := 726) (by decide +kernel)⟩
theorem lw_p26 : lw_okq (⟨"DotThresholdsModel", "begins", "()V"⟩, 27) := ⟨⟨by decide +kernel, by decide +kernel⟩, List.mem_of_getElem? (i := 770) (by decide +kernel), List.mem_of_getElem? (i := 776) (by decide +kernel), List.mem_of_getElem? (i := 777) (by decide +kernel)⟩
theorem lw_p27 : lw_okq (⟨"DotThresholdsModel", "becomes", "()V"⟩, 27) := ⟨⟨by decide +kernel, by decide +kernel⟩, List.mem_of_getElem? (i := 770) (by decide +kernel), List.mem_of_getElem? (i := 780) (by decide +kernel), List.mem_of_getElem? (i := 781) (by decide +kernel)⟩
theorem lw_p28 : lw_okq (⟨"DotThresholdsModel", "takes", "()V"⟩, 27) := ⟨⟨by decide +kernel, by decide +kernel⟩, List.mem_of_getElem? (i := 770) (by decide +kernel), List.mem_of_getElem? (i := 881) (by decide +kernel), List.mem_of_getElem? (i := 882) (by decide +kernel)⟩
theorem lw_p29 : lw_okq (⟨"DotThresholdsModel", "isFigure", "(I)Z"⟩, 27) := ⟨⟨by decide +kernel, by decide +kernel⟩, List.mem_of_getElem? (i := 770) (by decide +kernel), List.mem_of_getElem? (i := 885) (by decide +kernel), List.mem_of_getElem? (i := 886) (by decide +kernel)⟩
theorem lw_p30 : lw_okq (⟨"DotThresholdsModel", "item", "(I)Z"⟩, 27) := ⟨⟨by decide +kernel, by decide +kernel⟩, List.mem_of_getElem? (i := 770) (by decide +kernel), List.mem_of_getElem? (i := 889) (by decide +kernel), List.mem_of_getElem? (i := 890) (by decide +kernel)⟩
theorem lw_p31 : lw_okq (⟨"DotThresholdsModel", "readsTo", "(III)Z"⟩, 27) := ⟨⟨by decide +kernel, by decide +kernel⟩, List.mem_of_getElem? (i := 770) (by decide +kernel), List.mem_of_getElem? (i := 893) (by decide +kernel), List.mem_of_getElem? (i := 894) (by decide +kernel)⟩
def lw_privs_2 : List (MethodName × Nat) := [(⟨"DotThresholds$Ranks", "thin", "()V"⟩, 7), (⟨"DotThresholds$Ranks", "give", "(II)V"⟩, 7), (⟨"DotThresholds$Ranks", "fill", "()V"⟩, 7), (⟨"DotThresholds$Ranks", "turn", "()V"⟩, 7), (⟨"DotThresholds$Ranks", "nearestOf", "(II)I"⟩, 7), (⟨"DotThresholds", "pictureNow", "()LDotThresholds$Picture;"⟩, 10), (⟨"DotThresholds$Picture", "levelOf", "(I)I"⟩, 5), (⟨"DotThresholds", "isLine", "(I)Z"⟩, 10), (⟨"DotThresholds$Sights", "fits", "(I)Z"⟩, 5), (⟨"DotThresholds$Sights", "cellsOn", "(II)I"⟩, 5), (⟨"DotThresholdsModel", "begins", "()V"⟩, 27), (⟨"DotThresholdsModel", "becomes", "()V"⟩, 27), (⟨"DotThresholdsModel", "takes", "()V"⟩, 27), (⟨"DotThresholdsModel", "isFigure", "(I)Z"⟩, 27), (⟨"DotThresholdsModel", "item", "(I)Z"⟩, 27), (⟨"DotThresholdsModel", "readsTo", "(III)Z"⟩, 27)]
theorem lw_r2 : ∀ q ∈ lw_privs_2, lw_okq q := List.forall_mem_cons.mpr ⟨lw_p16, List.forall_mem_cons.mpr ⟨lw_p17, List.forall_mem_cons.mpr ⟨lw_p18, List.forall_mem_cons.mpr ⟨lw_p19, List.forall_mem_cons.mpr ⟨lw_p20, List.forall_mem_cons.mpr ⟨lw_p21, List.forall_mem_cons.mpr ⟨lw_p22, List.forall_mem_cons.mpr ⟨lw_p23, List.forall_mem_cons.mpr ⟨lw_p24, List.forall_mem_cons.mpr ⟨lw_p25, List.forall_mem_cons.mpr ⟨lw_p26, List.forall_mem_cons.mpr ⟨lw_p27, List.forall_mem_cons.mpr ⟨lw_p28, List.forall_mem_cons.mpr ⟨lw_p29, List.forall_mem_cons.mpr ⟨lw_p30, List.forall_mem_cons.mpr ⟨lw_p31, fun _ h => absurd h List.not_mem_nil⟩⟩⟩⟩⟩⟩⟩⟩⟩⟩⟩⟩⟩⟩⟩⟩
theorem lw_p32 : lw_okq (⟨"DotThresholdsModel", "reads", "(II)Z"⟩, 27) := ⟨⟨by decide +kernel, by decide +kernel⟩, List.mem_of_getElem? (i := 770) (by decide +kernel), List.mem_of_getElem? (i := 897) (by decide +kernel), List.mem_of_getElem? (i := 898) (by decide +kernel)⟩
theorem lw_p33 : lw_okq (⟨"DotThresholdsModel", "number", "()I"⟩, 27) := ⟨⟨by decide +kernel, by decide +kernel⟩, List.mem_of_getElem? (i := 770) (by decide +kernel), List.mem_of_getElem? (i := 901) (by decide +kernel), List.mem_of_getElem? (i := 902) (by decide +kernel)⟩
theorem lw_p34 : lw_okq (⟨"DotThresholdsModel", "readsCell", "(Z)Z"⟩, 27) := ⟨⟨by decide +kernel, by decide +kernel⟩, List.mem_of_getElem? (i := 770) (by decide +kernel), List.mem_of_getElem? (i := 905) (by decide +kernel), List.mem_of_getElem? (i := 906) (by decide +kernel)⟩
theorem lw_p35 : lw_okq (⟨"DotThresholdsModel", "isPlace", "(II)Z"⟩, 27) := ⟨⟨by decide +kernel, by decide +kernel⟩, List.mem_of_getElem? (i := 770) (by decide +kernel), List.mem_of_getElem? (i := 916) (by decide +kernel), List.mem_of_getElem? (i := 917) (by decide +kernel)⟩
theorem lw_p36 : lw_okq (⟨"DotThresholdsModel", "at", "(II)I"⟩, 27) := ⟨⟨by decide +kernel, by decide +kernel⟩, List.mem_of_getElem? (i := 770) (by decide +kernel), List.mem_of_getElem? (i := 920) (by decide +kernel), List.mem_of_getElem? (i := 921) (by decide +kernel)⟩
theorem lw_p37 : lw_okq (⟨"DotThresholdsModel", "isCell", "(I)Z"⟩, 27) := ⟨⟨by decide +kernel, by decide +kernel⟩, List.mem_of_getElem? (i := 770) (by decide +kernel), List.mem_of_getElem? (i := 928) (by decide +kernel), List.mem_of_getElem? (i := 929) (by decide +kernel)⟩
theorem lw_p38 : lw_okq (⟨"DotThresholdsModel", "cells", "()I"⟩, 27) := ⟨⟨by decide +kernel, by decide +kernel⟩, List.mem_of_getElem? (i := 770) (by decide +kernel), List.mem_of_getElem? (i := 932) (by decide +kernel), List.mem_of_getElem? (i := 933) (by decide +kernel)⟩
theorem lw_p39 : lw_okq (⟨"DotThresholdsModel", "distance", "(II)I"⟩, 27) := ⟨⟨by decide +kernel, by decide +kernel⟩, List.mem_of_getElem? (i := 770) (by decide +kernel), List.mem_of_getElem? (i := 936) (by decide +kernel), List.mem_of_getElem? (i := 937) (by decide +kernel)⟩
theorem lw_p40 : lw_okq (⟨"DotThresholdsModel", "weight", "(I)I"⟩, 27) := ⟨⟨by decide +kernel, by decide +kernel⟩, List.mem_of_getElem? (i := 770) (by decide +kernel), List.mem_of_getElem? (i := 943) (by decide +kernel), List.mem_of_getElem? (i := 944) (by decide +kernel)⟩
theorem lw_p41 : lw_okq (⟨"DotThresholdsModel", "notes", "()V"⟩, 27) := ⟨⟨by decide +kernel, by decide +kernel⟩, List.mem_of_getElem? (i := 770) (by decide +kernel), List.mem_of_getElem? (i := 951) (by decide +kernel), List.mem_of_getElem? (i := 952) (by decide +kernel)⟩
theorem lw_p42 : lw_okq (⟨"DotThresholdsModel", "tightest", "(J)I"⟩, 27) := ⟨⟨by decide +kernel, by decide +kernel⟩, List.mem_of_getElem? (i := 770) (by decide +kernel), List.mem_of_getElem? (i := 959) (by decide +kernel), List.mem_of_getElem? (i := 960) (by decide +kernel)⟩
theorem lw_p43 : lw_okq (⟨"DotThresholdsModel", "extremeOf", "(JJZ)I"⟩, 27) := ⟨⟨by decide +kernel, by decide +kernel⟩, List.mem_of_getElem? (i := 770) (by decide +kernel), List.mem_of_getElem? (i := 963) (by decide +kernel), List.mem_of_getElem? (i := 964) (by decide +kernel)⟩
theorem lw_p44 : lw_okq (⟨"DotThresholdsModel", "heldBy", "(JI)I"⟩, 27) := ⟨⟨by decide +kernel, by decide +kernel⟩, List.mem_of_getElem? (i := 770) (by decide +kernel), List.mem_of_getElem? (i := 967) (by decide +kernel), List.mem_of_getElem? (i := 968) (by decide +kernel)⟩
theorem lw_p45 : lw_okq (⟨"DotThresholdsModel", "emptiest", "(J)I"⟩, 27) := ⟨⟨by decide +kernel, by decide +kernel⟩, List.mem_of_getElem? (i := 770) (by decide +kernel), List.mem_of_getElem? (i := 972) (by decide +kernel), List.mem_of_getElem? (i := 973) (by decide +kernel)⟩
theorem lw_p46 : lw_okq (⟨"DotThresholdsModel", "freeCells", "()J"⟩, 27) := ⟨⟨by decide +kernel, by decide +kernel⟩, List.mem_of_getElem? (i := 770) (by decide +kernel), List.mem_of_getElem? (i := 976) (by decide +kernel), List.mem_of_getElem? (i := 977) (by decide +kernel)⟩
theorem lw_p47 : lw_okq (⟨"DotThresholdsModel", "isFree", "(I)Z"⟩, 27) := ⟨⟨by decide +kernel, by decide +kernel⟩, List.mem_of_getElem? (i := 770) (by decide +kernel), List.mem_of_getElem? (i := 980) (by decide +kernel), List.mem_of_getElem? (i := 981) (by decide +kernel)⟩
def lw_privs_3 : List (MethodName × Nat) := [(⟨"DotThresholdsModel", "reads", "(II)Z"⟩, 27), (⟨"DotThresholdsModel", "number", "()I"⟩, 27), (⟨"DotThresholdsModel", "readsCell", "(Z)Z"⟩, 27), (⟨"DotThresholdsModel", "isPlace", "(II)Z"⟩, 27), (⟨"DotThresholdsModel", "at", "(II)I"⟩, 27), (⟨"DotThresholdsModel", "isCell", "(I)Z"⟩, 27), (⟨"DotThresholdsModel", "cells", "()I"⟩, 27), (⟨"DotThresholdsModel", "distance", "(II)I"⟩, 27), (⟨"DotThresholdsModel", "weight", "(I)I"⟩, 27), (⟨"DotThresholdsModel", "notes", "()V"⟩, 27), (⟨"DotThresholdsModel", "tightest", "(J)I"⟩, 27), (⟨"DotThresholdsModel", "extremeOf", "(JJZ)I"⟩, 27), (⟨"DotThresholdsModel", "heldBy", "(JI)I"⟩, 27), (⟨"DotThresholdsModel", "emptiest", "(J)I"⟩, 27), (⟨"DotThresholdsModel", "freeCells", "()J"⟩, 27), (⟨"DotThresholdsModel", "isFree", "(I)Z"⟩, 27)]
theorem lw_r3 : ∀ q ∈ lw_privs_3, lw_okq q := List.forall_mem_cons.mpr ⟨lw_p32, List.forall_mem_cons.mpr ⟨lw_p33, List.forall_mem_cons.mpr ⟨lw_p34, List.forall_mem_cons.mpr ⟨lw_p35, List.forall_mem_cons.mpr ⟨lw_p36, List.forall_mem_cons.mpr ⟨lw_p37, List.forall_mem_cons.mpr ⟨lw_p38, List.forall_mem_cons.mpr ⟨lw_p39, List.forall_mem_cons.mpr ⟨lw_p40, List.forall_mem_cons.mpr ⟨lw_p41, List.forall_mem_cons.mpr ⟨lw_p42, List.forall_mem_cons.mpr ⟨lw_p43, List.forall_mem_cons.mpr ⟨lw_p44, List.forall_mem_cons.mpr ⟨lw_p45, List.forall_mem_cons.mpr ⟨lw_p46, List.forall_mem_cons.mpr ⟨lw_p47, fun _ h => absurd h List.not_mem_nil⟩⟩⟩⟩⟩⟩⟩⟩⟩⟩⟩⟩⟩⟩⟩⟩
theorem lw_p48 : lw_okq (⟨"DotThresholdsModel", "energyOf", "(J)I"⟩, 27) := ⟨⟨by decide +kernel, by decide +kernel⟩, List.mem_of_getElem? (i := 770) (by decide +kernel), List.mem_of_getElem? (i := 988) (by decide +kernel), List.mem_of_getElem? (i := 989) (by decide +kernel)⟩
theorem lw_p49 : lw_okq (⟨"DotThresholdsModel", "tries", "()V"⟩, 27) := ⟨⟨by decide +kernel, by decide +kernel⟩, List.mem_of_getElem? (i := 770) (by decide +kernel), List.mem_of_getElem? (i := 1015) (by decide +kernel), List.mem_of_getElem? (i := 1016) (by decide +kernel)⟩
theorem lw_p50 : lw_okq (⟨"DotThresholdsModel", "shifted", "(JII)J"⟩, 27) := ⟨⟨by decide +kernel, by decide +kernel⟩, List.mem_of_getElem? (i := 770) (by decide +kernel), List.mem_of_getElem? (i := 1023) (by decide +kernel), List.mem_of_getElem? (i := 1024) (by decide +kernel)⟩
theorem lw_p51 : lw_okq (⟨"DotThresholdsModel", "ranks", "()V"⟩, 27) := ⟨⟨by decide +kernel, by decide +kernel⟩, List.mem_of_getElem? (i := 770) (by decide +kernel), List.mem_of_getElem? (i := 1031) (by decide +kernel), List.mem_of_getElem? (i := 1032) (by decide +kernel)⟩
theorem lw_p52 : lw_okq (⟨"DotThresholdsModel", "free", "()I"⟩, 27) := ⟨⟨by decide +kernel, by decide +kernel⟩, List.mem_of_getElem? (i := 770) (by decide +kernel), List.mem_of_getElem? (i := 1038) (by decide +kernel), List.mem_of_getElem? (i := 1039) (by decide +kernel)⟩
theorem lw_p53 : lw_okq (⟨"DotThresholdsModel", "gapOf", "(I)I"⟩, 27) := ⟨⟨by decide +kernel, by decide +kernel⟩, List.mem_of_getElem? (i := 770) (by decide +kernel), List.mem_of_getElem? (i := 1054) (by decide +kernel), List.mem_of_getElem? (i := 1055) (by decide +kernel)⟩
theorem lw_p54 : lw_okq (⟨"DotThresholdsModel", "isIn", "(II)Z"⟩, 27) := ⟨⟨by decide +kernel, by decide +kernel⟩, List.mem_of_getElem? (i := 770) (by decide +kernel), List.mem_of_getElem? (i := 1058) (by decide +kernel), List.mem_of_getElem? (i := 1059) (by decide +kernel)⟩
theorem lw_p55 : lw_okq (⟨"DotThresholdsModel", "holeOf", "(I)I"⟩, 27) := ⟨⟨by decide +kernel, by decide +kernel⟩, List.mem_of_getElem? (i := 770) (by decide +kernel), List.mem_of_getElem? (i := 1062) (by decide +kernel), List.mem_of_getElem? (i := 1063) (by decide +kernel)⟩
theorem lw_p56 : lw_okq (⟨"DotThresholdsModel", "printed", "()I"⟩, 27) := ⟨⟨by decide +kernel, by decide +kernel⟩, List.mem_of_getElem? (i := 770) (by decide +kernel), List.mem_of_getElem? (i := 1074) (by decide +kernel), List.mem_of_getElem? (i := 1075) (by decide +kernel)⟩
theorem lw_p57 : lw_okq (⟨"DotThresholdsModel", "isInk", "(I)Z"⟩, 27) := ⟨⟨by decide +kernel, by decide +kernel⟩, List.mem_of_getElem? (i := 770) (by decide +kernel), List.mem_of_getElem? (i := 1078) (by decide +kernel), List.mem_of_getElem? (i := 1079) (by decide +kernel)⟩
theorem lw_p58 : lw_okq (⟨"DotThresholdsModel", "level", "(I)I"⟩, 27) := ⟨⟨by decide +kernel, by decide +kernel⟩, List.mem_of_getElem? (i := 770) (by decide +kernel), List.mem_of_getElem? (i := 1082) (by decide +kernel), List.mem_of_getElem? (i := 1083) (by decide +kernel)⟩
theorem lw_p59 : lw_okq (⟨"DotThresholdsModel", "fits", "(I)Z"⟩, 27) := ⟨⟨by decide +kernel, by decide +kernel⟩, List.mem_of_getElem? (i := 770) (by decide +kernel), List.mem_of_getElem? (i := 1106) (by decide +kernel), List.mem_of_getElem? (i := 1107) (by decide +kernel)⟩
theorem lw_p60 : lw_okq (⟨"DotThresholdsModel", "inLine", "(II)I"⟩, 27) := ⟨⟨by decide +kernel, by decide +kernel⟩, List.mem_of_getElem? (i := 770) (by decide +kernel), List.mem_of_getElem? (i := 1110) (by decide +kernel), List.mem_of_getElem? (i := 1111) (by decide +kernel)⟩
def lw_privs_4 : List (MethodName × Nat) := [(⟨"DotThresholdsModel", "energyOf", "(J)I"⟩, 27), (⟨"DotThresholdsModel", "tries", "()V"⟩, 27), (⟨"DotThresholdsModel", "shifted", "(JII)J"⟩, 27), (⟨"DotThresholdsModel", "ranks", "()V"⟩, 27), (⟨"DotThresholdsModel", "free", "()I"⟩, 27), (⟨"DotThresholdsModel", "gapOf", "(I)I"⟩, 27), (⟨"DotThresholdsModel", "isIn", "(II)Z"⟩, 27), (⟨"DotThresholdsModel", "holeOf", "(I)I"⟩, 27), (⟨"DotThresholdsModel", "printed", "()I"⟩, 27), (⟨"DotThresholdsModel", "isInk", "(I)Z"⟩, 27), (⟨"DotThresholdsModel", "level", "(I)I"⟩, 27), (⟨"DotThresholdsModel", "fits", "(I)Z"⟩, 27), (⟨"DotThresholdsModel", "inLine", "(II)I"⟩, 27)]
theorem lw_r4 : ∀ q ∈ lw_privs_4, lw_okq q := List.forall_mem_cons.mpr ⟨lw_p48, List.forall_mem_cons.mpr ⟨lw_p49, List.forall_mem_cons.mpr ⟨lw_p50, List.forall_mem_cons.mpr ⟨lw_p51, List.forall_mem_cons.mpr ⟨lw_p52, List.forall_mem_cons.mpr ⟨lw_p53, List.forall_mem_cons.mpr ⟨lw_p54, List.forall_mem_cons.mpr ⟨lw_p55, List.forall_mem_cons.mpr ⟨lw_p56, List.forall_mem_cons.mpr ⟨lw_p57, List.forall_mem_cons.mpr ⟨lw_p58, List.forall_mem_cons.mpr ⟨lw_p59, List.forall_mem_cons.mpr ⟨lw_p60, fun _ h => absurd h List.not_mem_nil⟩⟩⟩⟩⟩⟩⟩⟩⟩⟩⟩⟩⟩
def lw_privs : List (MethodName × Nat) := lw_privs_1 ++ (lw_privs_2 ++ (lw_privs_3 ++ (lw_privs_4)))
def lw_tbl : List Cond := k2_sels lw_privs ++ tables_1
theorem lw_privs_ok : ∀ q ∈ lw_privs, lw_okq q := by
  show ∀ q ∈ lw_privs_1 ++ (lw_privs_2 ++ (lw_privs_3 ++ (lw_privs_4))), lw_okq q
  exact List.forall_mem_append.mpr ⟨lw_r1, List.forall_mem_append.mpr ⟨lw_r2, List.forall_mem_append.mpr ⟨lw_r3, lw_r4⟩⟩⟩

def RX0 : String := "DotThresholds$Ground"
def TX0 : u_T := fun k => match k with
  | 0 => ("DotThresholds$Ground", "plan", "LDotThresholds$Plan;", true)
  | 1 => ("DotThresholds$Ground", "columns", "[I", true)
  | 2 => ("DotThresholds$Ground", "lines", "[I", true)
  | 3 => ("DotThresholds$Ground", "distances", "[I", true)
  | 4 => ("DotThresholds$Ground", "weights", "[I", true)
  | 5 => ("DotThresholds$Ground", "cells", "I", false)
  | 6 => ("DotThresholds$Ground", "free", "J", false)
  | _ => ("DotThresholds$Ground", "freeCount", "I", false)
def tyX0 : Nat → FieldType := fun k => match k with
  | 0 => .object "DotThresholds$Plan"
  | 1 => .array .int
  | 2 => .array .int
  | 3 => .array .int
  | 4 => .array .int
  | 5 => .int
  | 6 => .long
  | _ => .int
abbrev wsX00 : List Cond := u_ws RX0 TX0 8
theorem nmX0 : ∀ a, a < 8 → ∀ b, b < 8 → a ≠ b → (TX0 a).2.1 ≠ (TX0 b).2.1 := by decide +kernel
theorem tyX0_ok : ∀ k, k < 8 → parseFieldDescriptor (TX0 k).2.2.1 = some (tyX0 k) := by decide +kernel
abbrev cX0_init : ByteArray := prog_2_method_1_code
def yX0_init : MethodName := ⟨RX0, "<init>", "(LDotThresholds$Plan;)V"⟩
abbrev cX0_lay : ByteArray := prog_2_method_2_code
def yX0_lay : MethodName := ⟨RX0, "lay", "()V"⟩
abbrev cX0_isCell : ByteArray := prog_2_method_3_code
def yX0_isCell : MethodName := ⟨RX0, "isCell", "(I)Z"⟩
abbrev cX0_columnOf : ByteArray := prog_2_method_4_code
def yX0_columnOf : MethodName := ⟨RX0, "columnOf", "(I)I"⟩
abbrev cX0_lineOf : ByteArray := prog_2_method_5_code
def yX0_lineOf : MethodName := ⟨RX0, "lineOf", "(I)I"⟩
abbrev cX0_distance : ByteArray := prog_2_method_6_code
def yX0_distance : MethodName := ⟨RX0, "distance", "(II)I"⟩
abbrev cX0_weight : ByteArray := prog_2_method_7_code
def yX0_weight : MethodName := ⟨RX0, "weight", "(II)I"⟩
abbrev cX0_lieOnThemselves : ByteArray := prog_2_method_8_code
def yX0_lieOnThemselves : MethodName := ⟨RX0, "lieOnThemselves", "(JII)Z"⟩
abbrev cX0_wrapped : ByteArray := prog_2_method_9_code
def yX0_wrapped : MethodName := ⟨RX0, "wrapped", "(II)I"⟩
def RX1 : String := "DotThresholds$Hold"
def TX1 : u_T := fun k => match k with
  | 0 => ("DotThresholds$Hold", "ground", "LDotThresholds$Ground;", true)
  | 1 => ("DotThresholds$Hold", "sums", "[I", true)
  | _ => ("DotThresholds$Hold", "holders", "J", false)
def tyX1 : Nat → FieldType := fun k => match k with
  | 0 => .object "DotThresholds$Ground"
  | 1 => .array .int
  | _ => .long
abbrev wsX10 : List Cond := u_ws RX1 TX1 3
theorem nmX1 : ∀ a, a < 3 → ∀ b, b < 3 → a ≠ b → (TX1 a).2.1 ≠ (TX1 b).2.1 := by decide +kernel
theorem tyX1_ok : ∀ k, k < 3 → parseFieldDescriptor (TX1 k).2.2.1 = some (tyX1 k) := by decide +kernel
abbrev cX1_init : ByteArray := prog_3_method_1_code
def yX1_init : MethodName := ⟨RX1, "<init>", "(LDotThresholds$Ground;)V"⟩
abbrev cX1_begin : ByteArray := prog_3_method_2_code
def yX1_begin : MethodName := ⟨RX1, "begin", "(J)V"⟩
abbrev cX1_become : ByteArray := prog_3_method_3_code
def yX1_become : MethodName := ⟨RX1, "become", "(J)V"⟩
abbrev cX1_flip : ByteArray := prog_3_method_4_code
def yX1_flip : MethodName := ⟨RX1, "flip", "(I)V"⟩
abbrev cX1_size : ByteArray := prog_3_method_5_code
def yX1_size : MethodName := ⟨RX1, "size", "()I"⟩
abbrev cX1_sumAt : ByteArray := prog_3_method_6_code
def yX1_sumAt : MethodName := ⟨RX1, "sumAt", "(I)I"⟩
abbrev cX1_most : ByteArray := prog_3_method_7_code
def yX1_most : MethodName := ⟨RX1, "most", "(J)I"⟩
abbrev cX1_least : ByteArray := prog_3_method_8_code
def yX1_least : MethodName := ⟨RX1, "least", "(J)I"⟩
abbrev cX1_farthest : ByteArray := prog_3_method_9_code
def yX1_farthest : MethodName := ⟨RX1, "farthest", "(JI)I"⟩
abbrev cX1_pairs : ByteArray := prog_3_method_10_code
def yX1_pairs : MethodName := ⟨RX1, "pairs", "()I"⟩
def RX2 : String := "DotThresholds$Images"
def TX2 : u_T := fun k => match k with
  | 0 => ("DotThresholds$Images", "dots", "[J", true)
  | _ => ("DotThresholds$Images", "kept", "[Z", true)
def tyX2 : Nat → FieldType := fun k => match k with
  | 0 => .array .long
  | _ => .array .boolean
abbrev wsX20 : List Cond := u_ws RX2 TX2 2
theorem nmX2 : ∀ a, a < 2 → ∀ b, b < 2 → a ≠ b → (TX2 a).2.1 ≠ (TX2 b).2.1 := by decide +kernel
theorem tyX2_ok : ∀ k, k < 2 → parseFieldDescriptor (TX2 k).2.2.1 = some (tyX2 k) := by decide +kernel
abbrev cX2_init : ByteArray := prog_4_method_1_code
def yX2_init : MethodName := ⟨RX2, "<init>", "()V"⟩
abbrev cX2_isImage : ByteArray := prog_4_method_2_code
def yX2_isImage : MethodName := ⟨RX2, "isImage", "(I)Z"⟩
abbrev cX2_isKept : ByteArray := prog_4_method_3_code
def yX2_isKept : MethodName := ⟨RX2, "isKept", "(I)Z"⟩
abbrev cX2_put : ByteArray := prog_4_method_4_code
def yX2_put : MethodName := ⟨RX2, "put", "(IJ)V"⟩
abbrev cX2_dotsOf : ByteArray := prog_4_method_5_code
def yX2_dotsOf : MethodName := ⟨RX2, "dotsOf", "(I)J"⟩
abbrev cX2_drop : ByteArray := prog_4_method_6_code
def yX2_drop : MethodName := ⟨RX2, "drop", "()V"⟩
def RX3 : String := "DotThresholds$Past"
def TX3 : u_T := fun k => match k with
  | 0 => ("DotThresholds$Past", "known", "[J", true)
  | _ => ("DotThresholds$Past", "size", "I", false)
def tyX3 : Nat → FieldType := fun k => match k with
  | 0 => .array .long
  | _ => .int
abbrev wsX30 : List Cond := u_ws RX3 TX3 2
theorem nmX3 : ∀ a, a < 2 → ∀ b, b < 2 → a ≠ b → (TX3 a).2.1 ≠ (TX3 b).2.1 := by decide +kernel
theorem tyX3_ok : ∀ k, k < 2 → parseFieldDescriptor (TX3 k).2.2.1 = some (tyX3 k) := by decide +kernel
abbrev cX3_init : ByteArray := prog_5_method_1_code
def yX3_init : MethodName := ⟨RX3, "<init>", "()V"⟩
abbrev cX3_remember : ByteArray := prog_5_method_2_code
def yX3_remember : MethodName := ⟨RX3, "remember", "(J)V"⟩
abbrev cX3_latest : ByteArray := prog_5_method_3_code
def yX3_latest : MethodName := ⟨RX3, "latest", "()J"⟩
def RX4 : String := "DotThresholds$Picture"
def TX4 : u_T := fun k => match k with
  | 0 => ("DotThresholds$Picture", "ground", "LDotThresholds$Ground;", true)
  | 1 => ("DotThresholds$Picture", "ranks", "LDotThresholds$Ranks;", true)
  | 2 => ("DotThresholds$Picture", "base", "I", false)
  | 3 => ("DotThresholds$Picture", "dx", "I", false)
  | _ => ("DotThresholds$Picture", "dy", "I", false)
def tyX4 : Nat → FieldType := fun k => match k with
  | 0 => .object "DotThresholds$Ground"
  | 1 => .object "DotThresholds$Ranks"
  | 2 => .int
  | 3 => .int
  | _ => .int
abbrev wsX40 : List Cond := u_ws RX4 TX4 5
theorem nmX4 : ∀ a, a < 5 → ∀ b, b < 5 → a ≠ b → (TX4 a).2.1 ≠ (TX4 b).2.1 := by decide +kernel
theorem tyX4_ok : ∀ k, k < 5 → parseFieldDescriptor (TX4 k).2.2.1 = some (tyX4 k) := by decide +kernel
abbrev cX4_init : ByteArray := prog_6_method_1_code
def yX4_init : MethodName := ⟨RX4, "<init>", "(LDotThresholds$Ground;LDotThresholds$Ranks;)V"⟩
abbrev cX4_become : ByteArray := prog_6_method_2_code
def yX4_become : MethodName := ⟨RX4, "become", "(III)V"⟩
abbrev cX4_levelOf : ByteArray := prog_6_method_3_code
def yX4_levelOf : MethodName := ⟨RX4, "levelOf", "(I)I"⟩
abbrev cX4_prints : ByteArray := prog_6_method_4_code
def yX4_prints : MethodName := ⟨RX4, "prints", "(I)Z"⟩
abbrev cX4_printed : ByteArray := prog_6_method_5_code
def yX4_printed : MethodName := ⟨RX4, "printed", "()I"⟩
abbrev cX4_farOff : ByteArray := prog_6_method_6_code
def yX4_farOff : MethodName := ⟨RX4, "farOff", "()I"⟩
def RX5 : String := "DotThresholds$Plan"
def TX5 : u_T := fun k => match k with
  | 0 => ("DotThresholds$Plan", "width", "I", false)
  | 1 => ("DotThresholds$Plan", "height", "I", false)
  | 2 => ("DotThresholds$Plan", "kernel", "I", false)
  | 3 => ("DotThresholds$Plan", "power", "I", false)
  | 4 => ("DotThresholds$Plan", "fall", "I", false)
  | 5 => ("DotThresholds$Plan", "ax", "I", false)
  | 6 => ("DotThresholds$Plan", "ay", "I", false)
  | 7 => ("DotThresholds$Plan", "shut", "J", false)
  | _ => ("DotThresholds$Plan", "dots", "J", false)
def tyX5 : Nat → FieldType := fun k => match k with
  | 0 => .int
  | 1 => .int
  | 2 => .int
  | 3 => .int
  | 4 => .int
  | 5 => .int
  | 6 => .int
  | 7 => .long
  | _ => .long
abbrev wsX50 : List Cond := u_ws RX5 TX5 9
theorem nmX5 : ∀ a, a < 9 → ∀ b, b < 9 → a ≠ b → (TX5 a).2.1 ≠ (TX5 b).2.1 := by decide +kernel
theorem tyX5_ok : ∀ k, k < 9 → parseFieldDescriptor (TX5 k).2.2.1 = some (tyX5 k) := by decide +kernel
abbrev cX5_init : ByteArray := prog_7_method_1_code
def yX5_init : MethodName := ⟨RX5, "<init>", "()V"⟩
abbrev cX5_reset : ByteArray := prog_7_method_2_code
def yX5_reset : MethodName := ⟨RX5, "reset", "()V"⟩
abbrev cX5_become : ByteArray := prog_7_method_3_code
def yX5_become : MethodName := ⟨RX5, "become", "(LDotThresholds$Plan;)V"⟩
abbrev cX5_numberOf : ByteArray := prog_7_method_4_code
def yX5_numberOf : MethodName := ⟨RX5, "numberOf", "(II)I"⟩
abbrev cX5_distanceOf : ByteArray := prog_7_method_5_code
def yX5_distanceOf : MethodName := ⟨RX5, "distanceOf", "(II)I"⟩
abbrev cX5_weightOf : ByteArray := prog_7_method_6_code
def yX5_weightOf : MethodName := ⟨RX5, "weightOf", "(I)I"⟩
def RX6 : String := "DotThresholds$Ranks"
def TX6 : u_T := fun k => match k with
  | 0 => ("DotThresholds$Ranks", "ground", "LDotThresholds$Ground;", true)
  | 1 => ("DotThresholds$Ranks", "hold", "LDotThresholds$Hold;", true)
  | 2 => ("DotThresholds$Ranks", "order", "[I", true)
  | 3 => ("DotThresholds$Ranks", "places", "[I", true)
  | 4 => ("DotThresholds$Ranks", "madeBy", "J", false)
  | 5 => ("DotThresholds$Ranks", "thinned", "I", false)
  | _ => ("DotThresholds$Ranks", "filled", "I", false)
def tyX6 : Nat → FieldType := fun k => match k with
  | 0 => .object "DotThresholds$Ground"
  | 1 => .object "DotThresholds$Hold"
  | 2 => .array .int
  | 3 => .array .int
  | 4 => .long
  | 5 => .int
  | _ => .int
abbrev wsX60 : List Cond := u_ws RX6 TX6 7
theorem nmX6 : ∀ a, a < 7 → ∀ b, b < 7 → a ≠ b → (TX6 a).2.1 ≠ (TX6 b).2.1 := by decide +kernel
theorem tyX6_ok : ∀ k, k < 7 → parseFieldDescriptor (TX6 k).2.2.1 = some (tyX6 k) := by decide +kernel
abbrev cX6_init : ByteArray := prog_8_method_1_code
def yX6_init : MethodName := ⟨RX6, "<init>", "(LDotThresholds$Ground;)V"⟩
abbrev cX6_drop : ByteArray := prog_8_method_2_code
def yX6_drop : MethodName := ⟨RX6, "drop", "()V"⟩
abbrev cX6_standFor : ByteArray := prog_8_method_3_code
def yX6_standFor : MethodName := ⟨RX6, "standFor", "(J)V"⟩
abbrev cX6_thin : ByteArray := prog_8_method_4_code
def yX6_thin : MethodName := ⟨RX6, "thin", "()V"⟩
abbrev cX6_fill : ByteArray := prog_8_method_5_code
def yX6_fill : MethodName := ⟨RX6, "fill", "()V"⟩
abbrev cX6_turn : ByteArray := prog_8_method_6_code
def yX6_turn : MethodName := ⟨RX6, "turn", "()V"⟩
abbrev cX6_give : ByteArray := prog_8_method_7_code
def yX6_give : MethodName := ⟨RX6, "give", "(II)V"⟩
abbrev cX6_rankOf : ByteArray := prog_8_method_8_code
def yX6_rankOf : MethodName := ⟨RX6, "rankOf", "(I)I"⟩
abbrev cX6_cellOf : ByteArray := prog_8_method_9_code
def yX6_cellOf : MethodName := ⟨RX6, "cellOf", "(I)I"⟩
abbrev cX6_stageOf : ByteArray := prog_8_method_10_code
def yX6_stageOf : MethodName := ⟨RX6, "stageOf", "(I)I"⟩
abbrev cX6_gapOf : ByteArray := prog_8_method_11_code
def yX6_gapOf : MethodName := ⟨RX6, "gapOf", "(I)I"⟩
abbrev cX6_holeOf : ByteArray := prog_8_method_12_code
def yX6_holeOf : MethodName := ⟨RX6, "holeOf", "(I)I"⟩
abbrev cX6_finestOf : ByteArray := prog_8_method_13_code
def yX6_finestOf : MethodName := ⟨RX6, "finestOf", "(I)I"⟩
abbrev cX6_nearestOf : ByteArray := prog_8_method_14_code
def yX6_nearestOf : MethodName := ⟨RX6, "nearestOf", "(II)I"⟩
def RX7 : String := "DotThresholds$Sights"
def TX7 : u_T := fun k => match k with
  | 0 => ("DotThresholds$Sights", "ground", "LDotThresholds$Ground;", true)
  | 1 => ("DotThresholds$Sights", "ranks", "LDotThresholds$Ranks;", true)
  | 2 => ("DotThresholds$Sights", "lines", "[I", true)
  | 3 => ("DotThresholds$Sights", "counts", "[I", true)
  | _ => ("DotThresholds$Sights", "size", "I", false)
def tyX7 : Nat → FieldType := fun k => match k with
  | 0 => .object "DotThresholds$Ground"
  | 1 => .object "DotThresholds$Ranks"
  | 2 => .array .int
  | 3 => .array .int
  | _ => .int
abbrev wsX70 : List Cond := u_ws RX7 TX7 5
theorem nmX7 : ∀ a, a < 5 → ∀ b, b < 5 → a ≠ b → (TX7 a).2.1 ≠ (TX7 b).2.1 := by decide +kernel
theorem tyX7_ok : ∀ k, k < 5 → parseFieldDescriptor (TX7 k).2.2.1 = some (tyX7 k) := by decide +kernel
abbrev cX7_init : ByteArray := prog_9_method_1_code
def yX7_init : MethodName := ⟨RX7, "<init>", "(LDotThresholds$Ground;LDotThresholds$Ranks;)V"⟩
abbrev cX7_append : ByteArray := prog_9_method_2_code
def yX7_append : MethodName := ⟨RX7, "append", "(II)Z"⟩
abbrev cX7_shadesThatFit : ByteArray := prog_9_method_3_code
def yX7_shadesThatFit : MethodName := ⟨RX7, "shadesThatFit", "()I"⟩
abbrev cX7_leastThatFits : ByteArray := prog_9_method_4_code
def yX7_leastThatFits : MethodName := ⟨RX7, "leastThatFits", "()I"⟩
abbrev cX7_greatestThatFits : ByteArray := prog_9_method_5_code
def yX7_greatestThatFits : MethodName := ⟨RX7, "greatestThatFits", "()I"⟩
abbrev cX7_fits : ByteArray := prog_9_method_6_code
def yX7_fits : MethodName := ⟨RX7, "fits", "(I)Z"⟩
abbrev cX7_cellsOn : ByteArray := prog_9_method_7_code
def yX7_cellsOn : MethodName := ⟨RX7, "cellsOn", "(II)I"⟩
def RX8 : String := "DotThresholds$Text"
def TX8 : u_T := fun k => match k with
  | 0 => ("DotThresholds$Text", "letters", "[I", true)
  | 1 => ("DotThresholds$Text", "length", "I", false)
  | 2 => ("DotThresholds$Text", "place", "I", false)
  | 3 => ("DotThresholds$Text", "next", "I", false)
  | 4 => ("DotThresholds$Text", "token", "I", false)
  | _ => ("DotThresholds$Text", "value", "I", false)
def tyX8 : Nat → FieldType := fun k => match k with
  | 0 => .array .int
  | 1 => .int
  | 2 => .int
  | 3 => .int
  | 4 => .int
  | _ => .int
abbrev wsX80 : List Cond := u_ws RX8 TX8 6
theorem nmX8 : ∀ a, a < 6 → ∀ b, b < 6 → a ≠ b → (TX8 a).2.1 ≠ (TX8 b).2.1 := by decide +kernel
theorem tyX8_ok : ∀ k, k < 6 → parseFieldDescriptor (TX8 k).2.2.1 = some (tyX8 k) := by decide +kernel
abbrev cX8_init : ByteArray := prog_10_method_1_code
def yX8_init : MethodName := ⟨RX8, "<init>", "()V"⟩
abbrev cX8_append : ByteArray := prog_10_method_2_code
def yX8_append : MethodName := ⟨RX8, "append", "(I)Z"⟩
abbrev cX8_readInto : ByteArray := prog_10_method_3_code
def yX8_readInto : MethodName := ⟨RX8, "readInto", "(LDotThresholds$Plan;)I"⟩
abbrev cX8_readItem : ByteArray := prog_10_method_4_code
def yX8_readItem : MethodName := ⟨RX8, "readItem", "(LDotThresholds$Plan;Z)Z"⟩
abbrev cX8_readMeasures : ByteArray := prog_10_method_5_code
def yX8_readMeasures : MethodName := ⟨RX8, "readMeasures", "(LDotThresholds$Plan;)Z"⟩
abbrev cX8_readKernel : ByteArray := prog_10_method_6_code
def yX8_readKernel : MethodName := ⟨RX8, "readKernel", "(LDotThresholds$Plan;)Z"⟩
abbrev cX8_readStretch : ByteArray := prog_10_method_7_code
def yX8_readStretch : MethodName := ⟨RX8, "readStretch", "(LDotThresholds$Plan;)Z"⟩
abbrev cX8_readCell : ByteArray := prog_10_method_8_code
def yX8_readCell : MethodName := ⟨RX8, "readCell", "(LDotThresholds$Plan;Z)Z"⟩
abbrev cX8_stepToNumber : ByteArray := prog_10_method_9_code
def yX8_stepToNumber : MethodName := ⟨RX8, "stepToNumber", "(II)Z"⟩
abbrev cX8_step : ByteArray := prog_10_method_10_code
def yX8_step : MethodName := ⟨RX8, "step", "()V"⟩
abbrev cX8_readDigits : ByteArray := prog_10_method_11_code
def yX8_readDigits : MethodName := ⟨RX8, "readDigits", "(I)V"⟩
abbrev cX8_isDigit : ByteArray := prog_10_method_12_code
def yX8_isDigit : MethodName := ⟨RX8, "isDigit", "(I)Z"⟩
def RX9 : String := "DotThresholds"
def TX9 : u_T := fun k => match k with
  | 0 => ("DotThresholds", "text", "LDotThresholds$Text;", true)
  | 1 => ("DotThresholds", "plan", "LDotThresholds$Plan;", true)
  | 2 => ("DotThresholds", "draft", "LDotThresholds$Plan;", true)
  | 3 => ("DotThresholds", "ground", "LDotThresholds$Ground;", true)
  | 4 => ("DotThresholds", "dots", "LDotThresholds$Hold;", true)
  | 5 => ("DotThresholds", "ranks", "LDotThresholds$Ranks;", true)
  | 6 => ("DotThresholds", "picture", "LDotThresholds$Picture;", true)
  | 7 => ("DotThresholds", "sights", "LDotThresholds$Sights;", true)
  | 8 => ("DotThresholds", "past", "LDotThresholds$Past;", true)
  | _ => ("DotThresholds", "images", "LDotThresholds$Images;", true)
def tyX9 : Nat → FieldType := fun k => match k with
  | 0 => .object "DotThresholds$Text"
  | 1 => .object "DotThresholds$Plan"
  | 2 => .object "DotThresholds$Plan"
  | 3 => .object "DotThresholds$Ground"
  | 4 => .object "DotThresholds$Hold"
  | 5 => .object "DotThresholds$Ranks"
  | 6 => .object "DotThresholds$Picture"
  | 7 => .object "DotThresholds$Sights"
  | 8 => .object "DotThresholds$Past"
  | _ => .object "DotThresholds$Images"
abbrev wsX90 : List Cond := u_ws RX9 TX9 10
theorem nmX9 : ∀ a, a < 10 → ∀ b, b < 10 → a ≠ b → (TX9 a).2.1 ≠ (TX9 b).2.1 := by decide +kernel
theorem tyX9_ok : ∀ k, k < 10 → parseFieldDescriptor (TX9 k).2.2.1 = some (tyX9 k) := by decide +kernel
abbrev cX9_init : ByteArray := prog_1_method_1_code
def yX9_init : MethodName := ⟨RX9, "<init>", "()V"⟩
abbrev cX9_type : ByteArray := prog_1_method_2_code
def yX9_type : MethodName := ⟨RX9, "type", "(I)I"⟩
abbrev cX9_clear : ByteArray := prog_1_method_3_code
def yX9_clear : MethodName := ⟨RX9, "clear", "()I"⟩
abbrev cX9_grid : ByteArray := prog_1_method_4_code
def yX9_grid : MethodName := ⟨RX9, "grid", "()I"⟩
abbrev cX9_cell : ByteArray := prog_1_method_5_code
def yX9_cell : MethodName := ⟨RX9, "cell", "(II)I"⟩
abbrev cX9_near : ByteArray := prog_1_method_6_code
def yX9_near : MethodName := ⟨RX9, "near", "(III)I"⟩
abbrev cX9_flips : ByteArray := prog_1_method_7_code
def yX9_flips : MethodName := ⟨RX9, "flips", "(II)I"⟩
abbrev cX9_rests : ByteArray := prog_1_method_8_code
def yX9_rests : MethodName := ⟨RX9, "rests", "(I)I"⟩
abbrev cX9_moves : ByteArray := prog_1_method_9_code
def yX9_moves : MethodName := ⟨RX9, "moves", "(II)I"⟩
abbrev cX9_undo : ByteArray := prog_1_method_10_code
def yX9_undo : MethodName := ⟨RX9, "undo", "()I"⟩
abbrev cX9_held : ByteArray := prog_1_method_11_code
def yX9_held : MethodName := ⟨RX9, "held", "(II)I"⟩
abbrev cX9_extreme : ByteArray := prog_1_method_12_code
def yX9_extreme : MethodName := ⟨RX9, "extreme", "(I)I"⟩
abbrev cX9_energy : ByteArray := prog_1_method_13_code
def yX9_energy : MethodName := ⟨RX9, "energy", "()I"⟩
abbrev cX9_better : ByteArray := prog_1_method_14_code
def yX9_better : MethodName := ⟨RX9, "better", "(I)I"⟩
abbrev cX9_shifts : ByteArray := prog_1_method_15_code
def yX9_shifts : MethodName := ⟨RX9, "shifts", "()I"⟩
abbrev cX9_rank : ByteArray := prog_1_method_16_code
def yX9_rank : MethodName := ⟨RX9, "rank", "(II)I"⟩
abbrev cX9_ranked : ByteArray := prog_1_method_17_code
def yX9_ranked : MethodName := ⟨RX9, "ranked", "(I)I"⟩
abbrev cX9_stage : ByteArray := prog_1_method_18_code
def yX9_stage : MethodName := ⟨RX9, "stage", "(II)I"⟩
abbrev cX9_shade : ByteArray := prog_1_method_19_code
def yX9_shade : MethodName := ⟨RX9, "shade", "(II)I"⟩
abbrev cX9_finest : ByteArray := prog_1_method_20_code
def yX9_finest : MethodName := ⟨RX9, "finest", "(I)I"⟩
abbrev cX9_paints : ByteArray := prog_1_method_21_code
def yX9_paints : MethodName := ⟨RX9, "paints", "(III)I"⟩
abbrev cX9_ink : ByteArray := prog_1_method_22_code
def yX9_ink : MethodName := ⟨RX9, "ink", "(II)I"⟩
abbrev cX9_off : ByteArray := prog_1_method_23_code
def yX9_off : MethodName := ⟨RX9, "off", "()I"⟩
abbrev cX9_sees : ByteArray := prog_1_method_24_code
def yX9_sees : MethodName := ⟨RX9, "sees", "(II)I"⟩
abbrev cX9_forget : ByteArray := prog_1_method_25_code
def yX9_forget : MethodName := ⟨RX9, "forget", "()I"⟩
abbrev cX9_unseen : ByteArray := prog_1_method_26_code
def yX9_unseen : MethodName := ⟨RX9, "unseen", "(I)I"⟩
abbrev cX9_keep : ByteArray := prog_1_method_27_code
def yX9_keep : MethodName := ⟨RX9, "keep", "(I)I"⟩
abbrev cX9_back : ByteArray := prog_1_method_28_code
def yX9_back : MethodName := ⟨RX9, "back", "(I)I"⟩
abbrev cX9_count : ByteArray := prog_1_method_29_code
def yX9_count : MethodName := ⟨RX9, "count", "(I)I"⟩
abbrev cX9_has : ByteArray := prog_1_method_30_code
def yX9_has : MethodName := ⟨RX9, "has", "(JI)Z"⟩
abbrev cX9_isSlope : ByteArray := prog_1_method_31_code
def yX9_isSlope : MethodName := ⟨RX9, "isSlope", "(I)Z"⟩
abbrev cX9_isLine : ByteArray := prog_1_method_32_code
def yX9_isLine : MethodName := ⟨RX9, "isLine", "(I)Z"⟩
abbrev cX9_noDots : ByteArray := prog_1_method_33_code
def yX9_noDots : MethodName := ⟨RX9, "noDots", "()Z"⟩
abbrev cX9_numberWithRanks : ByteArray := prog_1_method_34_code
def yX9_numberWithRanks : MethodName := ⟨RX9, "numberWithRanks", "(II)I"⟩
abbrev cX9_emptyCells : ByteArray := prog_1_method_35_code
def yX9_emptyCells : MethodName := ⟨RX9, "emptyCells", "()J"⟩
abbrev cX9_ranksNow : ByteArray := prog_1_method_36_code
def yX9_ranksNow : MethodName := ⟨RX9, "ranksNow", "()LDotThresholds$Ranks;"⟩
abbrev cX9_pictureNow : ByteArray := prog_1_method_37_code
def yX9_pictureNow : MethodName := ⟨RX9, "pictureNow", "()LDotThresholds$Picture;"⟩
abbrev cX9_restStep : ByteArray := prog_1_method_38_code
def yX9_restStep : MethodName := ⟨RX9, "restStep", "()Z"⟩
abbrev cX9_gain : ByteArray := prog_1_method_39_code
def yX9_gain : MethodName := ⟨RX9, "gain", "(II)I"⟩
abbrev cX9_bestMove : ByteArray := prog_1_method_40_code
def yX9_bestMove : MethodName := ⟨RX9, "bestMove", "()I"⟩
def RX10 : String := "DotThresholdsModel"
def TX10 : u_T := fun k => match k with
  | 0 => ("DotThresholdsModel", "thrown", "I", false)
  | 1 => ("DotThresholdsModel", "told", "[I", true)
  | 2 => ("DotThresholdsModel", "draft", "[I", true)
  | 3 => ("DotThresholdsModel", "shut", "J", false)
  | 4 => ("DotThresholdsModel", "dots", "J", false)
  | 5 => ("DotThresholdsModel", "draftShut", "J", false)
  | 6 => ("DotThresholdsModel", "draftDots", "J", false)
  | 7 => ("DotThresholdsModel", "undos", "I", false)
  | 8 => ("DotThresholdsModel", "past", "[J", true)
  | 9 => ("DotThresholdsModel", "kept", "[J", true)
  | 10 => ("DotThresholdsModel", "isKept", "[Z", true)
  | 11 => ("DotThresholdsModel", "base", "I", false)
  | 12 => ("DotThresholdsModel", "slopeX", "I", false)
  | 13 => ("DotThresholdsModel", "slopeY", "I", false)
  | 14 => ("DotThresholdsModel", "seen", "I", false)
  | 15 => ("DotThresholdsModel", "seenLine", "[I", true)
  | 16 => ("DotThresholdsModel", "seenIs", "[I", true)
  | 17 => ("DotThresholdsModel", "rank", "[I", true)
  | 18 => ("DotThresholdsModel", "stage", "[I", true)
  | 19 => ("DotThresholdsModel", "letters", "I", false)
  | 20 => ("DotThresholdsModel", "text", "[I", true)
  | 21 => ("DotThresholdsModel", "next", "I", false)
  | 22 => ("DotThresholdsModel", "begin", "I", false)
  | 23 => ("DotThresholdsModel", "token", "I", false)
  | 24 => ("DotThresholdsModel", "gain", "I", false)
  | 25 => ("DotThresholdsModel", "bestDot", "I", false)
  | _ => ("DotThresholdsModel", "bestCell", "I", false)
def tyX10 : Nat → FieldType := fun k => match k with
  | 0 => .int
  | 1 => .array .int
  | 2 => .array .int
  | 3 => .long
  | 4 => .long
  | 5 => .long
  | 6 => .long
  | 7 => .int
  | 8 => .array .long
  | 9 => .array .long
  | 10 => .array .boolean
  | 11 => .int
  | 12 => .int
  | 13 => .int
  | 14 => .int
  | 15 => .array .int
  | 16 => .array .int
  | 17 => .array .int
  | 18 => .array .int
  | 19 => .int
  | 20 => .array .int
  | 21 => .int
  | 22 => .int
  | 23 => .int
  | 24 => .int
  | 25 => .int
  | _ => .int
abbrev wsX100 : List Cond := u_ws RX10 TX10 27
theorem nmX10 : ∀ a, a < 27 → ∀ b, b < 27 → a ≠ b → (TX10 a).2.1 ≠ (TX10 b).2.1 := by decide +kernel
theorem tyX10_ok : ∀ k, k < 27 → parseFieldDescriptor (TX10 k).2.2.1 = some (tyX10 k) := by decide +kernel
abbrev cX10_init : ByteArray := prog_12_method_1_code
def yX10_init : MethodName := ⟨RX10, "<init>", "()V"⟩
abbrev cX10_in : ByteArray := prog_12_method_3_code
def yX10_in : MethodName := ⟨RX10, "in", "(III)Z"⟩
abbrev cX10_has : ByteArray := prog_12_method_4_code
def yX10_has : MethodName := ⟨RX10, "has", "(JI)Z"⟩
abbrev cX10_ones : ByteArray := prog_12_method_5_code
def yX10_ones : MethodName := ⟨RX10, "ones", "(J)I"⟩
abbrev cX10_type : ByteArray := prog_12_method_6_code
def yX10_type : MethodName := ⟨RX10, "type", "(I)I"⟩
abbrev cX10_clear : ByteArray := prog_12_method_7_code
def yX10_clear : MethodName := ⟨RX10, "clear", "()I"⟩
abbrev cX10_isFigure : ByteArray := prog_12_method_8_code
def yX10_isFigure : MethodName := ⟨RX10, "isFigure", "(I)Z"⟩
abbrev cX10_takes : ByteArray := prog_12_method_9_code
def yX10_takes : MethodName := ⟨RX10, "takes", "()V"⟩
abbrev cX10_number : ByteArray := prog_12_method_10_code
def yX10_number : MethodName := ⟨RX10, "number", "()I"⟩
abbrev cX10_reads : ByteArray := prog_12_method_11_code
def yX10_reads : MethodName := ⟨RX10, "reads", "(II)Z"⟩
abbrev cX10_readsTo : ByteArray := prog_12_method_12_code
def yX10_readsTo : MethodName := ⟨RX10, "readsTo", "(III)Z"⟩
abbrev cX10_readsCell : ByteArray := prog_12_method_13_code
def yX10_readsCell : MethodName := ⟨RX10, "readsCell", "(Z)Z"⟩
abbrev cX10_item : ByteArray := prog_12_method_14_code
def yX10_item : MethodName := ⟨RX10, "item", "(I)Z"⟩
abbrev cX10_begins : ByteArray := prog_12_method_15_code
def yX10_begins : MethodName := ⟨RX10, "begins", "()V"⟩
abbrev cX10_becomes : ByteArray := prog_12_method_16_code
def yX10_becomes : MethodName := ⟨RX10, "becomes", "()V"⟩
abbrev cX10_grid : ByteArray := prog_12_method_17_code
def yX10_grid : MethodName := ⟨RX10, "grid", "()I"⟩
abbrev cX10_cells : ByteArray := prog_12_method_18_code
def yX10_cells : MethodName := ⟨RX10, "cells", "()I"⟩
abbrev cX10_isCell : ByteArray := prog_12_method_19_code
def yX10_isCell : MethodName := ⟨RX10, "isCell", "(I)Z"⟩
abbrev cX10_isPlace : ByteArray := prog_12_method_20_code
def yX10_isPlace : MethodName := ⟨RX10, "isPlace", "(II)Z"⟩
abbrev cX10_at : ByteArray := prog_12_method_21_code
def yX10_at : MethodName := ⟨RX10, "at", "(II)I"⟩
abbrev cX10_isFree : ByteArray := prog_12_method_22_code
def yX10_isFree : MethodName := ⟨RX10, "isFree", "(I)Z"⟩
abbrev cX10_free : ByteArray := prog_12_method_23_code
def yX10_free : MethodName := ⟨RX10, "free", "()I"⟩
abbrev cX10_round : ByteArray := prog_12_method_24_code
def yX10_round : MethodName := ⟨RX10, "round", "(III)I"⟩
abbrev cX10_distance : ByteArray := prog_12_method_25_code
def yX10_distance : MethodName := ⟨RX10, "distance", "(II)I"⟩
abbrev cX10_weight : ByteArray := prog_12_method_26_code
def yX10_weight : MethodName := ⟨RX10, "weight", "(I)I"⟩
abbrev cX10_heldBy : ByteArray := prog_12_method_27_code
def yX10_heldBy : MethodName := ⟨RX10, "heldBy", "(JI)I"⟩
abbrev cX10_freeCells : ByteArray := prog_12_method_28_code
def yX10_freeCells : MethodName := ⟨RX10, "freeCells", "()J"⟩
abbrev cX10_extremeOf : ByteArray := prog_12_method_29_code
def yX10_extremeOf : MethodName := ⟨RX10, "extremeOf", "(JJZ)I"⟩
abbrev cX10_tightest : ByteArray := prog_12_method_30_code
def yX10_tightest : MethodName := ⟨RX10, "tightest", "(J)I"⟩
abbrev cX10_emptiest : ByteArray := prog_12_method_31_code
def yX10_emptiest : MethodName := ⟨RX10, "emptiest", "(J)I"⟩
abbrev cX10_cell : ByteArray := prog_12_method_32_code
def yX10_cell : MethodName := ⟨RX10, "cell", "(II)I"⟩
abbrev cX10_near : ByteArray := prog_12_method_33_code
def yX10_near : MethodName := ⟨RX10, "near", "(III)I"⟩
abbrev cX10_notes : ByteArray := prog_12_method_34_code
def yX10_notes : MethodName := ⟨RX10, "notes", "()V"⟩
abbrev cX10_flips : ByteArray := prog_12_method_35_code
def yX10_flips : MethodName := ⟨RX10, "flips", "(II)I"⟩
abbrev cX10_rests : ByteArray := prog_12_method_36_code
def yX10_rests : MethodName := ⟨RX10, "rests", "(I)I"⟩
abbrev cX10_energyOf : ByteArray := prog_12_method_37_code
def yX10_energyOf : MethodName := ⟨RX10, "energyOf", "(J)I"⟩
abbrev cX10_moved : ByteArray := prog_12_method_38_code
def yX10_moved : MethodName := ⟨RX10, "moved", "(JII)J"⟩
abbrev cX10_moves : ByteArray := prog_12_method_39_code
def yX10_moves : MethodName := ⟨RX10, "moves", "(II)I"⟩
abbrev cX10_undo : ByteArray := prog_12_method_40_code
def yX10_undo : MethodName := ⟨RX10, "undo", "()I"⟩
abbrev cX10_held : ByteArray := prog_12_method_41_code
def yX10_held : MethodName := ⟨RX10, "held", "(II)I"⟩
abbrev cX10_extreme : ByteArray := prog_12_method_42_code
def yX10_extreme : MethodName := ⟨RX10, "extreme", "(I)I"⟩
abbrev cX10_energy : ByteArray := prog_12_method_43_code
def yX10_energy : MethodName := ⟨RX10, "energy", "()I"⟩
abbrev cX10_tries : ByteArray := prog_12_method_44_code
def yX10_tries : MethodName := ⟨RX10, "tries", "()V"⟩
abbrev cX10_better : ByteArray := prog_12_method_45_code
def yX10_better : MethodName := ⟨RX10, "better", "(I)I"⟩
abbrev cX10_shifted : ByteArray := prog_12_method_46_code
def yX10_shifted : MethodName := ⟨RX10, "shifted", "(JII)J"⟩
abbrev cX10_shifts : ByteArray := prog_12_method_47_code
def yX10_shifts : MethodName := ⟨RX10, "shifts", "()I"⟩
abbrev cX10_ranks : ByteArray := prog_12_method_48_code
def yX10_ranks : MethodName := ⟨RX10, "ranks", "()V"⟩
abbrev cX10_rank : ByteArray := prog_12_method_49_code
def yX10_rank : MethodName := ⟨RX10, "rank", "(II)I"⟩
abbrev cX10_ranked : ByteArray := prog_12_method_50_code
def yX10_ranked : MethodName := ⟨RX10, "ranked", "(I)I"⟩
abbrev cX10_stage : ByteArray := prog_12_method_51_code
def yX10_stage : MethodName := ⟨RX10, "stage", "(II)I"⟩
abbrev cX10_isIn : ByteArray := prog_12_method_52_code
def yX10_isIn : MethodName := ⟨RX10, "isIn", "(II)Z"⟩
abbrev cX10_gapOf : ByteArray := prog_12_method_53_code
def yX10_gapOf : MethodName := ⟨RX10, "gapOf", "(I)I"⟩
abbrev cX10_holeOf : ByteArray := prog_12_method_54_code
def yX10_holeOf : MethodName := ⟨RX10, "holeOf", "(I)I"⟩
abbrev cX10_shade : ByteArray := prog_12_method_55_code
def yX10_shade : MethodName := ⟨RX10, "shade", "(II)I"⟩
abbrev cX10_finest : ByteArray := prog_12_method_56_code
def yX10_finest : MethodName := ⟨RX10, "finest", "(I)I"⟩
abbrev cX10_level : ByteArray := prog_12_method_57_code
def yX10_level : MethodName := ⟨RX10, "level", "(I)I"⟩
abbrev cX10_isInk : ByteArray := prog_12_method_58_code
def yX10_isInk : MethodName := ⟨RX10, "isInk", "(I)Z"⟩
abbrev cX10_printed : ByteArray := prog_12_method_59_code
def yX10_printed : MethodName := ⟨RX10, "printed", "()I"⟩
abbrev cX10_paints : ByteArray := prog_12_method_60_code
def yX10_paints : MethodName := ⟨RX10, "paints", "(III)I"⟩
abbrev cX10_ink : ByteArray := prog_12_method_61_code
def yX10_ink : MethodName := ⟨RX10, "ink", "(II)I"⟩
abbrev cX10_off : ByteArray := prog_12_method_62_code
def yX10_off : MethodName := ⟨RX10, "off", "()I"⟩
abbrev cX10_sees : ByteArray := prog_12_method_63_code
def yX10_sees : MethodName := ⟨RX10, "sees", "(II)I"⟩
abbrev cX10_forget : ByteArray := prog_12_method_64_code
def yX10_forget : MethodName := ⟨RX10, "forget", "()I"⟩
abbrev cX10_inLine : ByteArray := prog_12_method_65_code
def yX10_inLine : MethodName := ⟨RX10, "inLine", "(II)I"⟩
abbrev cX10_fits : ByteArray := prog_12_method_66_code
def yX10_fits : MethodName := ⟨RX10, "fits", "(I)Z"⟩
abbrev cX10_unseen : ByteArray := prog_12_method_67_code
def yX10_unseen : MethodName := ⟨RX10, "unseen", "(I)I"⟩
abbrev cX10_keep : ByteArray := prog_12_method_68_code
def yX10_keep : MethodName := ⟨RX10, "keep", "(I)I"⟩
abbrev cX10_back : ByteArray := prog_12_method_69_code
def yX10_back : MethodName := ⟨RX10, "back", "(I)I"⟩
abbrev cX10_count : ByteArray := prog_12_method_70_code
def yX10_count : MethodName := ⟨RX10, "count", "(I)I"⟩
def RJ13 : String := "java/lang/Long"
abbrev cJ13_bitCount_95d88 : ByteArray := prog_13_method_50_code
def yJ13_bitCount_95d88 : MethodName := ⟨RJ13, "bitCount", "(J)I"⟩
def RJ9 : String := "java/lang/Math"
abbrev cJ9_abs_0f7a4 : ByteArray := prog_14_method_59_code
def yJ9_abs_0f7a4 : MethodName := ⟨RJ9, "abs", "(I)I"⟩
abbrev cJ9_max_7cf53 : ByteArray := prog_14_method_65_code
def yJ9_max_7cf53 : MethodName := ⟨RJ9, "max", "(II)I"⟩
abbrev cJ9_min_7cf53 : ByteArray := prog_14_method_69_code
def yJ9_min_7cf53 : MethodName := ⟨RJ9, "min", "(II)I"⟩
def RJ10 : String := "java/lang/System"
def RJ7 : String := "java/util/Arrays"
abbrev cJ7_fill_53178 : ByteArray := prog_16_method_103_code
def yJ7_fill_53178 : MethodName := ⟨RJ7, "fill", "([II)V"⟩
def RL : String := "DotThresholdsLaw"
abbrev cL_law : ByteArray := code
def yL_law : MethodName := ⟨RL, "law", "([I)Z"⟩
abbrev vwCl : List vw_C := [(RX0, TX0, 8), (RX1, TX1, 3), (RX2, TX2, 2), (RX3, TX3, 2), (RX4, TX4, 5), (RX5, TX5, 9), (RX6, TX6, 7), (RX7, TX7, 5), (RX8, TX8, 6), (RX9, TX9, 10), (RX10, TX10, 27)]
/-- the words that every method here takes as given: those of the tables that stay -/
def TB : List Cond := lw_tbl.filter goodWord
theorem tb_i (i : Nat) {w : Cond} (h : tables_1[i]? = some w) (g : goodWord w = true) : w ∈ TB := List.mem_filter.mpr ⟨List.mem_append_right _ (List.mem_of_getElem? h), g⟩
theorem tb_p (i : Nat) {w : Cond} (h : (k2_sels lw_privs)[i]? = some w) (g : goodWord w = true) : w ∈ TB := List.mem_filter.mpr ⟨List.mem_append_left _ (List.mem_of_getElem? h), g⟩
theorem tb_good : GoodIn TB TB := fun w h => ⟨h, good_of_word (List.mem_filter.mp h).2⟩
