section
-- ===== PART A: goes FIRST, ahead of the names: the tables' words, and 'selects' of the private methods out of them =====
/-- a private method of a class that the tables say can be made, by its rows of tables_1 -/
def lw_okq (q : MethodName × Nat) : Prop := (q.1.cls ≠ "java/lang/invoke/MethodHandle" ∧ q.1.cls ≠ "java/lang/invoke/VarHandle") ∧ Cond.instantiable q.1.cls q.2 ∈ tables_1 ∧ Cond.privateMethod q.1 ∈ tables_1 ∧ Cond.instanceMethod q.1 ∈ tables_1
theorem lw_p0 : lw_okq (⟨"DotThresholds$Text", "step", "()V"⟩, 6) := ⟨⟨by decide +kernel, by decide +kernel⟩, List.mem_of_getElem? (i := 25) (by decide +kernel), List.mem_of_getElem? (i := 352) (by decide +kernel), List.mem_of_getElem? (i := 353) (by decide +kernel)⟩
theorem lw_p1 : lw_okq (⟨"DotThresholds$Text", "readDigits", "(I)V"⟩, 6) := ⟨⟨by decide +kernel, by decide +kernel⟩, List.mem_of_getElem? (i := 25) (by decide +kernel), List.mem_of_getElem? (i := 359) (by decide +kernel), List.mem_of_getElem? (i := 360) (by decide +kernel)⟩
theorem lw_p2 : lw_okq (⟨"DotThresholds$Text", "readItem", "(LDotThresholds$Plan;Z)Z"⟩, 6) := ⟨⟨by decide +kernel, by decide +kernel⟩, List.mem_of_getElem? (i := 25) (by decide +kernel), List.mem_of_getElem? (i := 364) (by decide +kernel), List.mem_of_getElem? (i := 365) (by decide +kernel)⟩
theorem lw_p3 : lw_okq (⟨"DotThresholds$Text", "readMeasures", "(LDotThresholds$Plan;)Z"⟩, 6) := ⟨⟨by decide +kernel, by decide +kernel⟩, List.mem_of_getElem? (i := 25) (by decide +kernel), List.mem_of_getElem? (i := 368) (by decide +kernel), List.mem_of_getElem? (i := 369) (by decide +kernel)⟩
theorem lw_p4 : lw_okq (⟨"DotThresholds$Text", "stepToNumber", "(II)Z"⟩, 6) := ⟨⟨by decide +kernel, by decide +kernel⟩, List.mem_of_getElem? (i := 25) (by decide +kernel), List.mem_of_getElem? (i := 372) (by decide +kernel), List.mem_of_getElem? (i := 373) (by decide +kernel)⟩
theorem lw_p5 : lw_okq (⟨"DotThresholds$Text", "readKernel", "(LDotThresholds$Plan;)Z"⟩, 6) := ⟨⟨by decide +kernel, by decide +kernel⟩, List.mem_of_getElem? (i := 25) (by decide +kernel), List.mem_of_getElem? (i := 376) (by decide +kernel), List.mem_of_getElem? (i := 377) (by decide +kernel)⟩
theorem lw_p6 : lw_okq (⟨"DotThresholds$Text", "readStretch", "(LDotThresholds$Plan;)Z"⟩, 6) := ⟨⟨by decide +kernel, by decide +kernel⟩, List.mem_of_getElem? (i := 25) (by decide +kernel), List.mem_of_getElem? (i := 380) (by decide +kernel), List.mem_of_getElem? (i := 381) (by decide +kernel)⟩
theorem lw_p7 : lw_okq (⟨"DotThresholds$Text", "readCell", "(LDotThresholds$Plan;Z)Z"⟩, 6) := ⟨⟨by decide +kernel, by decide +kernel⟩, List.mem_of_getElem? (i := 25) (by decide +kernel), List.mem_of_getElem? (i := 384) (by decide +kernel), List.mem_of_getElem? (i := 385) (by decide +kernel)⟩
theorem lw_p8 : lw_okq (⟨"DotThresholds", "noDots", "()Z"⟩, 10) := ⟨⟨by decide +kernel, by decide +kernel⟩, List.mem_of_getElem? (i := 17) (by decide +kernel), List.mem_of_getElem? (i := 472) (by decide +kernel), List.mem_of_getElem? (i := 473) (by decide +kernel)⟩
theorem lw_p9 : lw_okq (⟨"DotThresholds", "restStep", "()Z"⟩, 10) := ⟨⟨by decide +kernel, by decide +kernel⟩, List.mem_of_getElem? (i := 17) (by decide +kernel), List.mem_of_getElem? (i := 476) (by decide +kernel), List.mem_of_getElem? (i := 477) (by decide +kernel)⟩
theorem lw_p10 : lw_okq (⟨"DotThresholds$Hold", "farthest", "(JI)I"⟩, 3) := ⟨⟨by decide +kernel, by decide +kernel⟩, List.mem_of_getElem? (i := 178) (by decide +kernel), List.mem_of_getElem? (i := 484) (by decide +kernel), List.mem_of_getElem? (i := 485) (by decide +kernel)⟩
theorem lw_p11 : lw_okq (⟨"DotThresholds", "emptyCells", "()J"⟩, 10) := ⟨⟨by decide +kernel, by decide +kernel⟩, List.mem_of_getElem? (i := 17) (by decide +kernel), List.mem_of_getElem? (i := 488) (by decide +kernel), List.mem_of_getElem? (i := 489) (by decide +kernel)⟩
theorem lw_p12 : lw_okq (⟨"DotThresholds", "bestMove", "()I"⟩, 10) := ⟨⟨by decide +kernel, by decide +kernel⟩, List.mem_of_getElem? (i := 17) (by decide +kernel), List.mem_of_getElem? (i := 534) (by decide +kernel), List.mem_of_getElem? (i := 535) (by decide +kernel)⟩
theorem lw_p13 : lw_okq (⟨"DotThresholds", "gain", "(II)I"⟩, 10) := ⟨⟨by decide +kernel, by decide +kernel⟩, List.mem_of_getElem? (i := 17) (by decide +kernel), List.mem_of_getElem? (i := 538) (by decide +kernel), List.mem_of_getElem? (i := 539) (by decide +kernel)⟩
theorem lw_p14 : lw_okq (⟨"DotThresholds", "numberWithRanks", "(II)I"⟩, 10) := ⟨⟨by decide +kernel, by decide +kernel⟩, List.mem_of_getElem? (i := 17) (by decide +kernel), List.mem_of_getElem? (i := 559) (by decide +kernel), List.mem_of_getElem? (i := 560) (by decide +kernel)⟩
theorem lw_p15 : lw_okq (⟨"DotThresholds", "ranksNow", "()LDotThresholds$Ranks;"⟩, 10) := ⟨⟨by decide +kernel, by decide +kernel⟩, List.mem_of_getElem? (i := 17) (by decide +kernel), List.mem_of_getElem? (i := 563) (by decide +kernel), List.mem_of_getElem? (i := 564) (by decide +kernel)⟩
def lw_privs_1 : List (MethodName × Nat) := [(⟨"DotThresholds$Text", "step", "()V"⟩, 6), (⟨"DotThresholds$Text", "readDigits", "(I)V"⟩, 6), (⟨"DotThresholds$Text", "readItem", "(LDotThresholds$Plan;Z)Z"⟩, 6), (⟨"DotThresholds$Text", "readMeasures", "(LDotThresholds$Plan;)Z"⟩, 6), (⟨"DotThresholds$Text", "stepToNumber", "(II)Z"⟩, 6), (⟨"DotThresholds$Text", "readKernel", "(LDotThresholds$Plan;)Z"⟩, 6), (⟨"DotThresholds$Text", "readStretch", "(LDotThresholds$Plan;)Z"⟩, 6), (⟨"DotThresholds$Text", "readCell", "(LDotThresholds$Plan;Z)Z"⟩, 6), (⟨"DotThresholds", "noDots", "()Z"⟩, 10), (⟨"DotThresholds", "restStep", "()Z"⟩, 10), (⟨"DotThresholds$Hold", "farthest", "(JI)I"⟩, 3), (⟨"DotThresholds", "emptyCells", "()J"⟩, 10), (⟨"DotThresholds", "bestMove", "()I"⟩, 10), (⟨"DotThresholds", "gain", "(II)I"⟩, 10), (⟨"DotThresholds", "numberWithRanks", "(II)I"⟩, 10), (⟨"DotThresholds", "ranksNow", "()LDotThresholds$Ranks;"⟩, 10)]
theorem lw_r1 : ∀ q ∈ lw_privs_1, lw_okq q := List.forall_mem_cons.mpr ⟨lw_p0, List.forall_mem_cons.mpr ⟨lw_p1, List.forall_mem_cons.mpr ⟨lw_p2, List.forall_mem_cons.mpr ⟨lw_p3, List.forall_mem_cons.mpr ⟨lw_p4, List.forall_mem_cons.mpr ⟨lw_p5, List.forall_mem_cons.mpr ⟨lw_p6, List.forall_mem_cons.mpr ⟨lw_p7, List.forall_mem_cons.mpr ⟨lw_p8, List.forall_mem_cons.mpr ⟨lw_p9, List.forall_mem_cons.mpr ⟨lw_p10, List.forall_mem_cons.mpr ⟨lw_p11, List.forall_mem_cons.mpr ⟨lw_p12, List.forall_mem_cons.mpr ⟨lw_p13, List.forall_mem_cons.mpr ⟨lw_p14, List.forall_mem_cons.mpr ⟨lw_p15, fun _ h => absurd h List.not_mem_nil⟩⟩⟩⟩⟩⟩⟩⟩⟩⟩⟩⟩⟩⟩⟩⟩
theorem lw_p16 : lw_okq (⟨"DotThresholds$Ranks", "thin", "()V"⟩, 7) := ⟨⟨by decide +kernel, by decide +kernel⟩, List.mem_of_getElem? (i := 196) (by decide +kernel), List.mem_of_getElem? (i := 572) (by decide +kernel), List.mem_of_getElem? (i := 573) (by decide +kernel)⟩
theorem lw_p17 : lw_okq (⟨"DotThresholds$Ranks", "give", "(II)V"⟩, 7) := ⟨⟨by decide +kernel, by decide +kernel⟩, List.mem_of_getElem? (i := 196) (by decide +kernel), List.mem_of_getElem? (i := 582) (by decide +kernel), List.mem_of_getElem? (i := 583) (by decide +kernel)⟩
theorem lw_p18 : lw_okq (⟨"DotThresholds$Ranks", "fill", "()V"⟩, 7) := ⟨⟨by decide +kernel, by decide +kernel⟩, List.mem_of_getElem? (i := 196) (by decide +kernel), List.mem_of_getElem? (i := 588) (by decide +kernel), List.mem_of_getElem? (i := 589) (by decide +kernel)⟩
theorem lw_p19 : lw_okq (⟨"DotThresholds$Ranks", "turn", "()V"⟩, 7) := ⟨⟨by decide +kernel, by decide +kernel⟩, List.mem_of_getElem? (i := 196) (by decide +kernel), List.mem_of_getElem? (i := 595) (by decide +kernel), List.mem_of_getElem? (i := 596) (by decide +kernel)⟩
theorem lw_p20 : lw_okq (⟨"DotThresholds$Ranks", "nearestOf", "(II)I"⟩, 7) := ⟨⟨by decide +kernel, by decide +kernel⟩, List.mem_of_getElem? (i := 196) (by decide +kernel), List.mem_of_getElem? (i := 629) (by decide +kernel), List.mem_of_getElem? (i := 630) (by decide +kernel)⟩
theorem lw_p21 : lw_okq (⟨"DotThresholds", "pictureNow", "()LDotThresholds$Picture;"⟩, 10) := ⟨⟨by decide +kernel, by decide +kernel⟩, List.mem_of_getElem? (i := 17) (by decide +kernel), List.mem_of_getElem? (i := 655) (by decide +kernel), List.mem_of_getElem? (i := 656) (by decide +kernel)⟩
theorem lw_p22 : lw_okq (⟨"DotThresholds$Picture", "levelOf", "(I)I"⟩, 5) := ⟨⟨by decide +kernel, by decide +kernel⟩, List.mem_of_getElem? (i := 226) (by decide +kernel), List.mem_of_getElem? (i := 669) (by decide +kernel), List.mem_of_getElem? (i := 670) (by decide +kernel)⟩
theorem lw_p23 : lw_okq (⟨"DotThresholds", "isLine", "(I)Z"⟩, 10) := ⟨⟨by decide +kernel, by decide +kernel⟩, List.mem_of_getElem? (i := 17) (by decide +kernel), List.mem_of_getElem? (i := 701) (by decide +kernel), List.mem_of_getElem? (i := 702) (by decide +kernel)⟩
theorem lw_p24 : lw_okq (⟨"DotThresholds$Sights", "fits", "(I)Z"⟩, 5) := ⟨⟨by decide +kernel, by decide +kernel⟩, List.mem_of_getElem? (i := 248) (by decide +kernel), List.mem_of_getElem? (i := 721) (by decide +kernel), List.mem_of_getElem? (i := 722) (by decide +kernel)⟩
theorem lw_p25 : lw_okq (⟨"DotThresholds$Sights", "cellsOn", "(II)I"⟩, 5) := ⟨⟨by decide +kernel, by decide +kernel⟩, List.mem_of_getElem? (i := 248) (by decide +kernel), List.mem_of_getElem? (i := 725) (by decide +kernel), List.mem_of_getElem? (i := 726) (by decide +kernel)⟩
theorem lw_p26 : lw_okq (⟨"DotThresholdsModel", "begins", "()V"⟩, 27) := ⟨⟨by decide +kernel, by decide +kernel⟩, List.mem_of_getElem? (i := 770) (by decide +kernel), List.mem_of_getElem? (i := 776) (by decide +kernel), List.mem_of_getElem? (i := 777) (by decide +kernel)⟩
theorem lw_p27 : lw_okq (⟨"DotThresholdsModel", "becomes", "()V"⟩, 27) := ⟨⟨by decide +kernel, by decide +kernel⟩, List.mem_of_getElem? (i := 770) (by decide +kernel), List.mem_of_getElem? (i := 780) (by decide +kernel), List.mem_of_getElem? (i := 781) (by decide +kernel)⟩
theorem lw_p28 : lw_okq (⟨"DotThresholdsModel", "takes", "()V"⟩, 27) := ⟨⟨by decide +kernel, by decide +kernel⟩, List.mem_of_getElem? (i := 770) (by decide +kernel), List.mem_of_getElem? (i := 881) (by decide +kernel), List.mem_of_getElem? (i := 882) (by decide +kernel)⟩
theorem lw_p29 : lw_okq (⟨"DotThresholdsModel", "isFigure", "(I)Z"⟩, 27) := ⟨⟨by decide +kernel, by decide +kernel⟩, List.mem_of_getElem? (i := 770) (by decide +kernel), List.mem_of_getElem? (i := 885) (by decide +kernel), List.mem_of_getElem? (i := 886) (by decide +kernel)⟩
theorem lw_p30 : lw_okq (⟨"DotThresholdsModel", "item", "(I)Z"⟩, 27) := ⟨⟨by decide +kernel, by decide +kernel⟩, List.mem_of_getElem? (i := 770) (by decide +kernel), List.mem_of_getElem? (i := 889) (by decide +kernel), List.mem_of_getElem? (i := 890) (by decide +kernel)⟩
theorem lw_p31 : lw_okq (⟨"DotThresholdsModel", "readsTo", "(III)Z"⟩, 27) := ⟨⟨by decide +kernel, by decide +kernel⟩, List.mem_of_getElem? (i := 770) (by decide +kernel), List.mem_of_getElem? (i := 893) (by decide +kernel), List.mem_of_getElem? (i := 894) (by decide +kernel)⟩
def lw_privs_2 : List (MethodName × Nat) := [(⟨"DotThresholds$Ranks", "thin", "()V"⟩, 7), (⟨"DotThresholds$Ranks", "give", "(II)V"⟩, 7), (⟨"DotThresholds$Ranks", "fill", "()V"⟩, 7), (⟨"DotThresholds$Ranks", "turn", "()V"⟩, 7), (⟨"DotThresholds$Ranks", "nearestOf", "(II)I"⟩, 7), (⟨"DotThresholds", "pictureNow", "()LDotThresholds$Picture;"⟩, 10), (⟨"DotThresholds$Picture", "levelOf", "(I)I"⟩, 5), (⟨"DotThresholds", "isLine", "(I)Z"⟩, 10), (⟨"DotThresholds$Sights", "fits", "(I)Z"⟩, 5), (⟨"DotThresholds$Sights", "cellsOn", "(II)I"⟩, 5), (⟨"DotThresholdsModel", "begins", "()V"⟩, 27), (⟨"DotThresholdsModel", "becomes", "()V"⟩, 27), (⟨"DotThresholdsModel", "takes", "()V"⟩, 27), (⟨"DotThresholdsModel", "isFigure", "(I)Z"⟩, 27), (⟨"DotThresholdsModel", "item", "(I)Z"⟩, 27), (⟨"DotThresholdsModel", "readsTo", "(III)Z"⟩, 27)]
theorem lw_r2 : ∀ q ∈ lw_privs_2, lw_okq q := List.forall_mem_cons.mpr ⟨lw_p16, List.forall_mem_cons.mpr ⟨lw_p17, List.forall_mem_cons.mpr ⟨lw_p18, List.forall_mem_cons.mpr ⟨lw_p19, List.forall_mem_cons.mpr ⟨lw_p20, List.forall_mem_cons.mpr ⟨lw_p21, List.forall_mem_cons.mpr ⟨lw_p22, List.forall_mem_cons.mpr ⟨lw_p23, List.forall_mem_cons.mpr ⟨lw_p24, List.forall_mem_cons.mpr ⟨lw_p25, List.forall_mem_cons.mpr ⟨lw_p26, List.forall_mem_cons.mpr ⟨lw_p27, List.forall_mem_cons.mpr ⟨lw_p28, List.forall_mem_cons.mpr ⟨lw_p29, List.forall_mem_cons.mpr ⟨lw_p30, List.forall_mem_cons.mpr ⟨lw_p31, fun _ h => absurd h List.not_mem_nil⟩⟩⟩⟩⟩⟩⟩⟩⟩⟩⟩⟩⟩⟩⟩⟩
theorem lw_p32 : lw_okq (⟨"DotThresholdsModel", "reads", "(II)Z"⟩, 27) := ⟨⟨by decide +kernel, by decide +kernel⟩, List.mem_of_getElem? (i := 770) (by decide +kernel), List.mem_of_getElem? (i := 897) (by decide +kernel), List.mem_of_getElem? (i := 898) (by decide +kernel)⟩
theorem lw_p33 : lw_okq (⟨"DotThresholdsModel", "number", "()I"⟩, 27) := ⟨⟨by decide +kernel, by decide +kernel⟩, List.mem_of_getElem? (i := 770) (by decide +kernel), List.mem_of_getElem? (i := 901) (by decide +kernel), List.mem_of_getElem? (i := 902) (by decide +kernel)⟩
theorem lw_p34 : lw_okq (⟨"DotThresholdsModel", "readsCell", "(Z)Z"⟩, 27) := ⟨⟨by decide +kernel, by decide +kernel⟩, List.mem_of_getElem? (i := 770) (by decide +kernel), List.mem_of_getElem? (i := 905) (by decide +kernel), List.mem_of_getElem? (i := 906) (by decide +kernel)⟩
theorem lw_p35 : lw_okq (⟨"DotThresholdsModel", "isPlace", "(II)Z"⟩, 27) := ⟨⟨by decide +kernel, by decide +kernel⟩, List.mem_of_getElem? (i := 770) (by decide +kernel), List.mem_of_getElem? (i := 916) (by decide +kernel), List.mem_of_getElem? (i := 917) (by decide +kernel)⟩
theorem lw_p36 : lw_okq (⟨"DotThresholdsModel", "at", "(II)I"⟩, 27) := ⟨⟨by decide +kernel, by decide +kernel⟩, List.mem_of_getElem? (i := 770) (by decide +kernel), List.mem_of_getElem? (i := 920) (by decide +kernel), List.mem_of_getElem? (i := 921) (by decide +kernel)⟩
theorem lw_p37 : lw_okq (⟨"DotThresholdsModel", "isCell", "(I)Z"⟩, 27) := ⟨⟨by decide +kernel, by decide +kernel⟩, List.mem_of_getElem? (i := 770) (by decide +kernel), List.mem_of_getElem? (i := 928) (by decide +kernel), List.mem_of_getElem? (i := 929) (by decide +kernel)⟩
theorem lw_p38 : lw_okq (⟨"DotThresholdsModel", "cells", "()I"⟩, 27) := ⟨⟨by decide +kernel, by decide +kernel⟩, List.mem_of_getElem? (i := 770) (by decide +kernel), List.mem_of_getElem? (i := 932) (by decide +kernel), List.mem_of_getElem? (i := 933) (by decide +kernel)⟩
theorem lw_p39 : lw_okq (⟨"DotThresholdsModel", "distance", "(II)I"⟩, 27) := ⟨⟨by decide +kernel, by decide +kernel⟩, List.mem_of_getElem? (i := 770) (by decide +kernel), List.mem_of_getElem? (i := 936) (by decide +kernel), List.mem_of_getElem? (i := 937) (by decide +kernel)⟩
theorem lw_p40 : lw_okq (⟨"DotThresholdsModel", "weight", "(I)I"⟩, 27) := ⟨⟨by decide +kernel, by decide +kernel⟩, List.mem_of_getElem? (i := 770) (by decide +kernel), List.mem_of_getElem? (i := 943) (by decide +kernel), List.mem_of_getElem? (i := 944) (by decide +kernel)⟩
theorem lw_p41 : lw_okq (⟨"DotThresholdsModel", "notes", "()V"⟩, 27) := ⟨⟨by decide +kernel, by decide +kernel⟩, List.mem_of_getElem? (i := 770) (by decide +kernel), List.mem_of_getElem? (i := 951) (by decide +kernel), List.mem_of_getElem? (i := 952) (by decide +kernel)⟩
theorem lw_p42 : lw_okq (⟨"DotThresholdsModel", "tightest", "(J)I"⟩, 27) := ⟨⟨by decide +kernel, by decide +kernel⟩, List.mem_of_getElem? (i := 770) (by decide +kernel), List.mem_of_getElem? (i := 959) (by decide +kernel), List.mem_of_getElem? (i := 960) (by decide +kernel)⟩
theorem lw_p43 : lw_okq (⟨"DotThresholdsModel", "extremeOf", "(JJZ)I"⟩, 27) := ⟨⟨by decide +kernel, by decide +kernel⟩, List.mem_of_getElem? (i := 770) (by decide +kernel), List.mem_of_getElem? (i := 963) (by decide +kernel), List.mem_of_getElem? (i := 964) (by decide +kernel)⟩
theorem lw_p44 : lw_okq (⟨"DotThresholdsModel", "heldBy", "(JI)I"⟩, 27) := ⟨⟨by decide +kernel, by decide +kernel⟩, List.mem_of_getElem? (i := 770) (by decide +kernel), List.mem_of_getElem? (i := 967) (by decide +kernel), List.mem_of_getElem? (i := 968) (by decide +kernel)⟩
theorem lw_p45 : lw_okq (⟨"DotThresholdsModel", "emptiest", "(J)I"⟩, 27) := ⟨⟨by decide +kernel, by decide +kernel⟩, List.mem_of_getElem? (i := 770) (by decide +kernel), List.mem_of_getElem? (i := 972) (by decide +kernel), List.mem_of_getElem? (i := 973) (by decide +kernel)⟩
theorem lw_p46 : lw_okq (⟨"DotThresholdsModel", "freeCells", "()J"⟩, 27) := ⟨⟨by decide +kernel, by decide +kernel⟩, List.mem_of_getElem? (i := 770) (by decide +kernel), List.mem_of_getElem? (i := 976) (by decide +kernel), List.mem_of_getElem? (i := 977) (by decide +kernel)⟩
theorem lw_p47 : lw_okq (⟨"DotThresholdsModel", "isFree", "(I)Z"⟩, 27) := ⟨⟨by decide +kernel, by decide +kernel⟩, List.mem_of_getElem? (i := 770) (by decide +kernel), List.mem_of_getElem? (i := 980) (by decide +kernel), List.mem_of_getElem? (i := 981) (by decide +kernel)⟩
def lw_privs_3 : List (MethodName × Nat) := [(⟨"DotThresholdsModel", "reads", "(II)Z"⟩, 27), (⟨"DotThresholdsModel", "number", "()I"⟩, 27), (⟨"DotThresholdsModel", "readsCell", "(Z)Z"⟩, 27), (⟨"DotThresholdsModel", "isPlace", "(II)Z"⟩, 27), (⟨"DotThresholdsModel", "at", "(II)I"⟩, 27), (⟨"DotThresholdsModel", "isCell", "(I)Z"⟩, 27), (⟨"DotThresholdsModel", "cells", "()I"⟩, 27), (⟨"DotThresholdsModel", "distance", "(II)I"⟩, 27), (⟨"DotThresholdsModel", "weight", "(I)I"⟩, 27), (⟨"DotThresholdsModel", "notes", "()V"⟩, 27), (⟨"DotThresholdsModel", "tightest", "(J)I"⟩, 27), (⟨"DotThresholdsModel", "extremeOf", "(JJZ)I"⟩, 27), (⟨"DotThresholdsModel", "heldBy", "(JI)I"⟩, 27), (⟨"DotThresholdsModel", "emptiest", "(J)I"⟩, 27), (⟨"DotThresholdsModel", "freeCells", "()J"⟩, 27), (⟨"DotThresholdsModel", "isFree", "(I)Z"⟩, 27)]
theorem lw_r3 : ∀ q ∈ lw_privs_3, lw_okq q := List.forall_mem_cons.mpr ⟨lw_p32, List.forall_mem_cons.mpr ⟨lw_p33, List.forall_mem_cons.mpr ⟨lw_p34, List.forall_mem_cons.mpr ⟨lw_p35, List.forall_mem_cons.mpr ⟨lw_p36, List.forall_mem_cons.mpr ⟨lw_p37, List.forall_mem_cons.mpr ⟨lw_p38, List.forall_mem_cons.mpr ⟨lw_p39, List.forall_mem_cons.mpr ⟨lw_p40, List.forall_mem_cons.mpr ⟨lw_p41, List.forall_mem_cons.mpr ⟨lw_p42, List.forall_mem_cons.mpr ⟨lw_p43, List.forall_mem_cons.mpr ⟨lw_p44, List.forall_mem_cons.mpr ⟨lw_p45, List.forall_mem_cons.mpr ⟨lw_p46, List.forall_mem_cons.mpr ⟨lw_p47, fun _ h => absurd h List.not_mem_nil⟩⟩⟩⟩⟩⟩⟩⟩⟩⟩⟩⟩⟩⟩⟩⟩
theorem lw_p48 : lw_okq (⟨"DotThresholdsModel", "energyOf", "(J)I"⟩, 27) := ⟨⟨by decide +kernel, by decide +kernel⟩, List.mem_of_getElem? (i := 770) (by decide +kernel), List.mem_of_getElem? (i := 988) (by decide +kernel), List.mem_of_getElem? (i := 989) (by decide +kernel)⟩
theorem lw_p49 : lw_okq (⟨"DotThresholdsModel", "tries", "()V"⟩, 27) := ⟨⟨by decide +kernel, by decide +kernel⟩, List.mem_of_getElem? (i := 770) (by decide +kernel), List.mem_of_getElem? (i := 1015) (by decide +kernel), List.mem_of_getElem? (i := 1016) (by decide +kernel)⟩
theorem lw_p50 : lw_okq (⟨"DotThresholdsModel", "shifted", "(JII)J"⟩, 27) := ⟨⟨by decide +kernel, by decide +kernel⟩, List.mem_of_getElem? (i := 770) (by decide +kernel), List.mem_of_getElem? (i := 1023) (by decide +kernel), List.mem_of_getElem? (i := 1024) (by decide +kernel)⟩
theorem lw_p51 : lw_okq (⟨"DotThresholdsModel", "ranks", "()V"⟩, 27) := ⟨⟨by decide +kernel, by decide +kernel⟩, List.mem_of_getElem? (i := 770) (by decide +kernel), List.mem_of_getElem? (i := 1031) (by decide +kernel), List.mem_of_getElem? (i := 1032) (by decide +kernel)⟩
theorem lw_p52 : lw_okq (⟨"DotThresholdsModel", "free", "()I"⟩, 27) := ⟨⟨by decide +kernel, by decide +kernel⟩, List.mem_of_getElem? (i := 770) (by decide +kernel), List.mem_of_getElem? (i := 1038) (by decide +kernel), List.mem_of_getElem? (i := 1039) (by decide +kernel)⟩
theorem lw_p53 : lw_okq (⟨"DotThresholdsModel", "gapOf", "(I)I"⟩, 27) := ⟨⟨by decide +kernel, by decide +kernel⟩, List.mem_of_getElem? (i := 770) (by decide +kernel), List.mem_of_getElem? (i := 1054) (by decide +kernel), List.mem_of_getElem? (i := 1055) (by decide +kernel)⟩
theorem lw_p54 : lw_okq (⟨"DotThresholdsModel", "isIn", "(II)Z"⟩, 27) := ⟨⟨by decide +kernel, by decide +kernel⟩, List.mem_of_getElem? (i := 770) (by decide +kernel), List.mem_of_getElem? (i := 1058) (by decide +kernel), List.mem_of_getElem? (i := 1059) (by decide +kernel)⟩
theorem lw_p55 : lw_okq (⟨"DotThresholdsModel", "holeOf", "(I)I"⟩, 27) := ⟨⟨by decide +kernel, by decide +kernel⟩, List.mem_of_getElem? (i := 770) (by decide +kernel), List.mem_of_getElem? (i := 1062) (by decide +kernel), List.mem_of_getElem? (i := 1063) (by decide +kernel)⟩
theorem lw_p56 : lw_okq (⟨"DotThresholdsModel", "printed", "()I"⟩, 27) := ⟨⟨by decide +kernel, by decide +kernel⟩, List.mem_of_getElem? (i := 770) (by decide +kernel), List.mem_of_getElem? (i := 1074) (by decide +kernel), List.mem_of_getElem? (i := 1075) (by decide +kernel)⟩
theorem lw_p57 : lw_okq (⟨"DotThresholdsModel", "isInk", "(I)Z"⟩, 27) := ⟨⟨by decide +kernel, by decide +kernel⟩, List.mem_of_getElem? (i := 770) (by decide +kernel), List.mem_of_getElem? (i := 1078) (by decide +kernel), List.mem_of_getElem? (i := 1079) (by decide +kernel)⟩
theorem lw_p58 : lw_okq (⟨"DotThresholdsModel", "level", "(I)I"⟩, 27) := ⟨⟨by decide +kernel, by decide +kernel⟩, List.mem_of_getElem? (i := 770) (by decide +kernel), List.mem_of_getElem? (i := 1082) (by decide +kernel), List.mem_of_getElem? (i := 1083) (by decide +kernel)⟩
theorem lw_p59 : lw_okq (⟨"DotThresholdsModel", "fits", "(I)Z"⟩, 27) := ⟨⟨by decide +kernel, by decide +kernel⟩, List.mem_of_getElem? (i := 770) (by decide +kernel), List.mem_of_getElem? (i := 1106) (by decide +kernel), List.mem_of_getElem? (i := 1107) (by decide +kernel)⟩
theorem lw_p60 : lw_okq (⟨"DotThresholdsModel", "inLine", "(II)I"⟩, 27) := ⟨⟨by decide +kernel, by decide +kernel⟩, List.mem_of_getElem? (i := 770) (by decide +kernel), List.mem_of_getElem? (i := 1110) (by decide +kernel), List.mem_of_getElem? (i := 1111) (by decide +kernel)⟩
def lw_privs_4 : List (MethodName × Nat) := [(⟨"DotThresholdsModel", "energyOf", "(J)I"⟩, 27), (⟨"DotThresholdsModel", "tries", "()V"⟩, 27), (⟨"DotThresholdsModel", "shifted", "(JII)J"⟩, 27), (⟨"DotThresholdsModel", "ranks", "()V"⟩, 27), (⟨"DotThresholdsModel", "free", "()I"⟩, 27), (⟨"DotThresholdsModel", "gapOf", "(I)I"⟩, 27), (⟨"DotThresholdsModel", "isIn", "(II)Z"⟩, 27), (⟨"DotThresholdsModel", "holeOf", "(I)I"⟩, 27), (⟨"DotThresholdsModel", "printed", "()I"⟩, 27), (⟨"DotThresholdsModel", "isInk", "(I)Z"⟩, 27), (⟨"DotThresholdsModel", "level", "(I)I"⟩, 27), (⟨"DotThresholdsModel", "fits", "(I)Z"⟩, 27), (⟨"DotThresholdsModel", "inLine", "(II)I"⟩, 27)]
theorem lw_r4 : ∀ q ∈ lw_privs_4, lw_okq q := List.forall_mem_cons.mpr ⟨lw_p48, List.forall_mem_cons.mpr ⟨lw_p49, List.forall_mem_cons.mpr ⟨lw_p50, List.forall_mem_cons.mpr ⟨lw_p51, List.forall_mem_cons.mpr ⟨lw_p52, List.forall_mem_cons.mpr ⟨lw_p53, List.forall_mem_cons.mpr ⟨lw_p54, List.forall_mem_cons.mpr ⟨lw_p55, List.forall_mem_cons.mpr ⟨lw_p56, List.forall_mem_cons.mpr ⟨lw_p57, List.forall_mem_cons.mpr ⟨lw_p58, List.forall_mem_cons.mpr ⟨lw_p59, List.forall_mem_cons.mpr ⟨lw_p60, fun _ h => absurd h List.not_mem_nil⟩⟩⟩⟩⟩⟩⟩⟩⟩⟩⟩⟩⟩
def lw_privs : List (MethodName × Nat) := lw_privs_1 ++ (lw_privs_2 ++ (lw_privs_3 ++ (lw_privs_4)))
def lw_tbl : List Cond := k2_sels lw_privs ++ tables_1
theorem lw_privs_ok : ∀ q ∈ lw_privs, lw_okq q := by
  show ∀ q ∈ lw_privs_1 ++ (lw_privs_2 ++ (lw_privs_3 ++ (lw_privs_4))), lw_okq q
  exact List.forall_mem_append.mpr ⟨lw_r1, List.forall_mem_append.mpr ⟨lw_r2, List.forall_mem_append.mpr ⟨lw_r3, lw_r4⟩⟩⟩

def RX0 : String := "DotThresholds$Ground"
def TX0 : u_T := fun k => match k with
  | 0 => ("DotThresholds$Ground", "plan", "LDotThresholds$Plan;", true)
  | 1 => ("DotThresholds$Ground", "columns", "[I", true)
  | 2 => ("DotThresholds$Ground", "lines", "[I", true)
  | 3 => ("DotThresholds$Ground", "distances", "[I", true)
  | 4 => ("DotThresholds$Ground", "weights", "[I", true)
  | 5 => ("DotThresholds$Ground", "cells", "I", false)
  | 6 => ("DotThresholds$Ground", "free", "J", false)
  | _ => ("DotThresholds$Ground", "freeCount", "I", false)
def tyX0 : Nat → FieldType := fun k => match k with
  | 0 => .object "DotThresholds$Plan"
  | 1 => .array .int
  | 2 => .array .int
  | 3 => .array .int
  | 4 => .array .int
  | 5 => .int
  | 6 => .long
  | _ => .int
abbrev wsX00 : List Cond := u_ws RX0 TX0 8
theorem nmX0 : ∀ a, a < 8 → ∀ b, b < 8 → a ≠ b → (TX0 a).2.1 ≠ (TX0 b).2.1 := by decide +kernel
theorem tyX0_ok : ∀ k, k < 8 → parseFieldDescriptor (TX0 k).2.2.1 = some (tyX0 k) := by decide +kernel
abbrev cX0_init : ByteArray := prog_2_method_1_code
def yX0_init : MethodName := ⟨RX0, "<init>", "(LDotThresholds$Plan;)V"⟩
abbrev cX0_lay : ByteArray := prog_2_method_2_code
def yX0_lay : MethodName := ⟨RX0, "lay", "()V"⟩
abbrev cX0_isCell : ByteArray := prog_2_method_3_code
def yX0_isCell : MethodName := ⟨RX0, "isCell", "(I)Z"⟩
abbrev cX0_columnOf : ByteArray := prog_2_method_4_code
def yX0_columnOf : MethodName := ⟨RX0, "columnOf", "(I)I"⟩
abbrev cX0_lineOf : ByteArray := prog_2_method_5_code
def yX0_lineOf : MethodName := ⟨RX0, "lineOf", "(I)I"⟩
abbrev cX0_distance : ByteArray := prog_2_method_6_code
def yX0_distance : MethodName := ⟨RX0, "distance", "(II)I"⟩
abbrev cX0_weight : ByteArray := prog_2_method_7_code
def yX0_weight : MethodName := ⟨RX0, "weight", "(II)I"⟩
abbrev cX0_lieOnThemselves : ByteArray := prog_2_method_8_code
def yX0_lieOnThemselves : MethodName := ⟨RX0, "lieOnThemselves", "(JII)Z"⟩
abbrev cX0_wrapped : ByteArray := prog_2_method_9_code
def yX0_wrapped : MethodName := ⟨RX0, "wrapped", "(II)I"⟩
def RX1 : String := "DotThresholds$Hold"
def TX1 : u_T := fun k => match k with
  | 0 => ("DotThresholds$Hold", "ground", "LDotThresholds$Ground;", true)
  | 1 => ("DotThresholds$Hold", "sums", "[I", true)
  | _ => ("DotThresholds$Hold", "holders", "J", false)
def tyX1 : Nat → FieldType := fun k => match k with
  | 0 => .object "DotThresholds$Ground"
  | 1 => .array .int
  | _ => .long
abbrev wsX10 : List Cond := u_ws RX1 TX1 3
theorem nmX1 : ∀ a, a < 3 → ∀ b, b < 3 → a ≠ b → (TX1 a).2.1 ≠ (TX1 b).2.1 := by decide +kernel
theorem tyX1_ok : ∀ k, k < 3 → parseFieldDescriptor (TX1 k).2.2.1 = some (tyX1 k) := by decide +kernel
abbrev cX1_init : ByteArray := prog_3_method_1_code
def yX1_init : MethodName := ⟨RX1, "<init>", "(LDotThresholds$Ground;)V"⟩
abbrev cX1_begin : ByteArray := prog_3_method_2_code
def yX1_begin : MethodName := ⟨RX1, "begin", "(J)V"⟩
abbrev cX1_become : ByteArray := prog_3_method_3_code
def yX1_become : MethodName := ⟨RX1, "become", "(J)V"⟩
abbrev cX1_flip : ByteArray := prog_3_method_4_code
def yX1_flip : MethodName := ⟨RX1, "flip", "(I)V"⟩
abbrev cX1_size : ByteArray := prog_3_method_5_code
def yX1_size : MethodName := ⟨RX1, "size", "()I"⟩
abbrev cX1_sumAt : ByteArray := prog_3_method_6_code
def yX1_sumAt : MethodName := ⟨RX1, "sumAt", "(I)I"⟩
abbrev cX1_most : ByteArray := prog_3_method_7_code
def yX1_most : MethodName := ⟨RX1, "most", "(J)I"⟩
abbrev cX1_least : ByteArray := prog_3_method_8_code
def yX1_least : MethodName := ⟨RX1, "least", "(J)I"⟩
abbrev cX1_farthest : ByteArray := prog_3_method_9_code
def yX1_farthest : MethodName := ⟨RX1, "farthest", "(JI)I"⟩
abbrev cX1_pairs : ByteArray := prog_3_method_10_code
def yX1_pairs : MethodName := ⟨RX1, "pairs", "()I"⟩
def RX2 : String := "DotThresholds$Images"
def TX2 : u_T := fun k => match k with
  | 0 => ("DotThresholds$Images", "dots", "[J", true)
  | _ => ("DotThresholds$Images", "kept", "[Z", true)
def tyX2 : Nat → FieldType := fun k => match k with
  | 0 => .array .long
  | _ => .array .boolean
abbrev wsX20 : List Cond := u_ws RX2 TX2 2
theorem nmX2 : ∀ a, a < 2 → ∀ b, b < 2 → a ≠ b → (TX2 a).2.1 ≠ (TX2 b).2.1 := by decide +kernel
theorem tyX2_ok : ∀ k, k < 2 → parseFieldDescriptor (TX2 k).2.2.1 = some (tyX2 k) := by decide +kernel
abbrev cX2_init : ByteArray := prog_4_method_1_code
def yX2_init : MethodName := ⟨RX2, "<init>", "()V"⟩
abbrev cX2_isImage : ByteArray := prog_4_method_2_code
def yX2_isImage : MethodName := ⟨RX2, "isImage", "(I)Z"⟩
abbrev cX2_isKept : ByteArray := prog_4_method_3_code
def yX2_isKept : MethodName := ⟨RX2, "isKept", "(I)Z"⟩
abbrev cX2_put : ByteArray := prog_4_method_4_code
def yX2_put : MethodName := ⟨RX2, "put", "(IJ)V"⟩
abbrev cX2_dotsOf : ByteArray := prog_4_method_5_code
def yX2_dotsOf : MethodName := ⟨RX2, "dotsOf", "(I)J"⟩
abbrev cX2_drop : ByteArray := prog_4_method_6_code
def yX2_drop : MethodName := ⟨RX2, "drop", "()V"⟩
def RX3 : String := "DotThresholds$Past"
def TX3 : u_T := fun k => match k with
  | 0 => ("DotThresholds$Past", "known", "[J", true)
  | _ => ("DotThresholds$Past", "size", "I", false)
def tyX3 : Nat → FieldType := fun k => match k with
  | 0 => .array .long
  | _ => .int
abbrev wsX30 : List Cond := u_ws RX3 TX3 2
theorem nmX3 : ∀ a, a < 2 → ∀ b, b < 2 → a ≠ b → (TX3 a).2.1 ≠ (TX3 b).2.1 := by decide +kernel
theorem tyX3_ok : ∀ k, k < 2 → parseFieldDescriptor (TX3 k).2.2.1 = some (tyX3 k) := by decide +kernel
abbrev cX3_init : ByteArray := prog_5_method_1_code
def yX3_init : MethodName := ⟨RX3, "<init>", "()V"⟩
abbrev cX3_remember : ByteArray := prog_5_method_2_code
def yX3_remember : MethodName := ⟨RX3, "remember", "(J)V"⟩
abbrev cX3_latest : ByteArray := prog_5_method_3_code
def yX3_latest : MethodName := ⟨RX3, "latest", "()J"⟩
def RX4 : String := "DotThresholds$Picture"
def TX4 : u_T := fun k => match k with
  | 0 => ("DotThresholds$Picture", "ground", "LDotThresholds$Ground;", true)
  | 1 => ("DotThresholds$Picture", "ranks", "LDotThresholds$Ranks;", true)
  | 2 => ("DotThresholds$Picture", "base", "I", false)
  | 3 => ("DotThresholds$Picture", "dx", "I", false)
  | _ => ("DotThresholds$Picture", "dy", "I", false)
def tyX4 : Nat → FieldType := fun k => match k with
  | 0 => .object "DotThresholds$Ground"
  | 1 => .object "DotThresholds$Ranks"
  | 2 => .int
  | 3 => .int
  | _ => .int
abbrev wsX40 : List Cond := u_ws RX4 TX4 5
theorem nmX4 : ∀ a, a < 5 → ∀ b, b < 5 → a ≠ b → (TX4 a).2.1 ≠ (TX4 b).2.1 := by decide +kernel
theorem tyX4_ok : ∀ k, k < 5 → parseFieldDescriptor (TX4 k).2.2.1 = some (tyX4 k) := by decide +kernel
abbrev cX4_init : ByteArray := prog_6_method_1_code
def yX4_init : MethodName := ⟨RX4, "<init>", "(LDotThresholds$Ground;LDotThresholds$Ranks;)V"⟩
abbrev cX4_become : ByteArray := prog_6_method_2_code
def yX4_become : MethodName := ⟨RX4, "become", "(III)V"⟩
abbrev cX4_levelOf : ByteArray := prog_6_method_3_code
def yX4_levelOf : MethodName := ⟨RX4, "levelOf", "(I)I"⟩
abbrev cX4_prints : ByteArray := prog_6_method_4_code
def yX4_prints : MethodName := ⟨RX4, "prints", "(I)Z"⟩
abbrev cX4_printed : ByteArray := prog_6_method_5_code
def yX4_printed : MethodName := ⟨RX4, "printed", "()I"⟩
abbrev cX4_farOff : ByteArray := prog_6_method_6_code
def yX4_farOff : MethodName := ⟨RX4, "farOff", "()I"⟩
def RX5 : String := "DotThresholds$Plan"
def TX5 : u_T := fun k => match k with
  | 0 => ("DotThresholds$Plan", "width", "I", false)
  | 1 => ("DotThresholds$Plan", "height", "I", false)
  | 2 => ("DotThresholds$Plan", "kernel", "I", false)
  | 3 => ("DotThresholds$Plan", "power", "I", false)
  | 4 => ("DotThresholds$Plan", "fall", "I", false)
  | 5 => ("DotThresholds$Plan", "ax", "I", false)
  | 6 => ("DotThresholds$Plan", "ay", "I", false)
  | 7 => ("DotThresholds$Plan", "shut", "J", false)
  | _ => ("DotThresholds$Plan", "dots", "J", false)
def tyX5 : Nat → FieldType := fun k => match k with
  | 0 => .int
  | 1 => .int
  | 2 => .int
  | 3 => .int
  | 4 => .int
  | 5 => .int
  | 6 => .int
  | 7 => .long
  | _ => .long
abbrev wsX50 : List Cond := u_ws RX5 TX5 9
theorem nmX5 : ∀ a, a < 9 → ∀ b, b < 9 → a ≠ b → (TX5 a).2.1 ≠ (TX5 b).2.1 := by decide +kernel
theorem tyX5_ok : ∀ k, k < 9 → parseFieldDescriptor (TX5 k).2.2.1 = some (tyX5 k) := by decide +kernel
abbrev cX5_init : ByteArray := prog_7_method_1_code
def yX5_init : MethodName := ⟨RX5, "<init>", "()V"⟩
abbrev cX5_reset : ByteArray := prog_7_method_2_code
def yX5_reset : MethodName := ⟨RX5, "reset", "()V"⟩
abbrev cX5_become : ByteArray := prog_7_method_3_code
def yX5_become : MethodName := ⟨RX5, "become", "(LDotThresholds$Plan;)V"⟩
abbrev cX5_numberOf : ByteArray := prog_7_method_4_code
def yX5_numberOf : MethodName := ⟨RX5, "numberOf", "(II)I"⟩
abbrev cX5_distanceOf : ByteArray := prog_7_method_5_code
def yX5_distanceOf : MethodName := ⟨RX5, "distanceOf", "(II)I"⟩
abbrev cX5_weightOf : ByteArray := prog_7_method_6_code
def yX5_weightOf : MethodName := ⟨RX5, "weightOf", "(I)I"⟩
def RX6 : String := "DotThresholds$Ranks"
def TX6 : u_T := fun k => match k with
  | 0 => ("DotThresholds$Ranks", "ground", "LDotThresholds$Ground;", true)
  | 1 => ("DotThresholds$Ranks", "hold", "LDotThresholds$Hold;", true)
  | 2 => ("DotThresholds$Ranks", "order", "[I", true)
  | 3 => ("DotThresholds$Ranks", "places", "[I", true)
  | 4 => ("DotThresholds$Ranks", "madeBy", "J", false)
  | 5 => ("DotThresholds$Ranks", "thinned", "I", false)
  | _ => ("DotThresholds$Ranks", "filled", "I", false)
def tyX6 : Nat → FieldType := fun k => match k with
  | 0 => .object "DotThresholds$Ground"
  | 1 => .object "DotThresholds$Hold"
  | 2 => .array .int
  | 3 => .array .int
  | 4 => .long
  | 5 => .int
  | _ => .int
abbrev wsX60 : List Cond := u_ws RX6 TX6 7
theorem nmX6 : ∀ a, a < 7 → ∀ b, b < 7 → a ≠ b → (TX6 a).2.1 ≠ (TX6 b).2.1 := by decide +kernel
theorem tyX6_ok : ∀ k, k < 7 → parseFieldDescriptor (TX6 k).2.2.1 = some (tyX6 k) := by decide +kernel
abbrev cX6_init : ByteArray := prog_8_method_1_code
def yX6_init : MethodName := ⟨RX6, "<init>", "(LDotThresholds$Ground;)V"⟩
abbrev cX6_drop : ByteArray := prog_8_method_2_code
def yX6_drop : MethodName := ⟨RX6, "drop", "()V"⟩
abbrev cX6_standFor : ByteArray := prog_8_method_3_code
def yX6_standFor : MethodName := ⟨RX6, "standFor", "(J)V"⟩
abbrev cX6_thin : ByteArray := prog_8_method_4_code
def yX6_thin : MethodName := ⟨RX6, "thin", "()V"⟩
abbrev cX6_fill : ByteArray := prog_8_method_5_code
def yX6_fill : MethodName := ⟨RX6, "fill", "()V"⟩
abbrev cX6_turn : ByteArray := prog_8_method_6_code
def yX6_turn : MethodName := ⟨RX6, "turn", "()V"⟩
abbrev cX6_give : ByteArray := prog_8_method_7_code
def yX6_give : MethodName := ⟨RX6, "give", "(II)V"⟩
abbrev cX6_rankOf : ByteArray := prog_8_method_8_code
def yX6_rankOf : MethodName := ⟨RX6, "rankOf", "(I)I"⟩
abbrev cX6_cellOf : ByteArray := prog_8_method_9_code
def yX6_cellOf : MethodName := ⟨RX6, "cellOf", "(I)I"⟩
abbrev cX6_stageOf : ByteArray := prog_8_method_10_code
def yX6_stageOf : MethodName := ⟨RX6, "stageOf", "(I)I"⟩
abbrev cX6_gapOf : ByteArray := prog_8_method_11_code
def yX6_gapOf : MethodName := ⟨RX6, "gapOf", "(I)I"⟩
abbrev cX6_holeOf : ByteArray := prog_8_method_12_code
def yX6_holeOf : MethodName := ⟨RX6, "holeOf", "(I)I"⟩
abbrev cX6_finestOf : ByteArray := prog_8_method_13_code
def yX6_finestOf : MethodName := ⟨RX6, "finestOf", "(I)I"⟩
abbrev cX6_nearestOf : ByteArray := prog_8_method_14_code
def yX6_nearestOf : MethodName := ⟨RX6, "nearestOf", "(II)I"⟩
def RX7 : String := "DotThresholds$Sights"
def TX7 : u_T := fun k => match k with
  | 0 => ("DotThresholds$Sights", "ground", "LDotThresholds$Ground;", true)
  | 1 => ("DotThresholds$Sights", "ranks", "LDotThresholds$Ranks;", true)
  | 2 => ("DotThresholds$Sights", "lines", "[I", true)
  | 3 => ("DotThresholds$Sights", "counts", "[I", true)
  | _ => ("DotThresholds$Sights", "size", "I", false)
def tyX7 : Nat → FieldType := fun k => match k with
  | 0 => .object "DotThresholds$Ground"
  | 1 => .object "DotThresholds$Ranks"
  | 2 => .array .int
  | 3 => .array .int
  | _ => .int
abbrev wsX70 : List Cond := u_ws RX7 TX7 5
theorem nmX7 : ∀ a, a < 5 → ∀ b, b < 5 → a ≠ b → (TX7 a).2.1 ≠ (TX7 b).2.1 := by decide +kernel
theorem tyX7_ok : ∀ k, k < 5 → parseFieldDescriptor (TX7 k).2.2.1 = some (tyX7 k) := by decide +kernel
abbrev cX7_init : ByteArray := prog_9_method_1_code
def yX7_init : MethodName := ⟨RX7, "<init>", "(LDotThresholds$Ground;LDotThresholds$Ranks;)V"⟩
abbrev cX7_append : ByteArray := prog_9_method_2_code
def yX7_append : MethodName := ⟨RX7, "append", "(II)Z"⟩
abbrev cX7_shadesThatFit : ByteArray := prog_9_method_3_code
def yX7_shadesThatFit : MethodName := ⟨RX7, "shadesThatFit", "()I"⟩
abbrev cX7_leastThatFits : ByteArray := prog_9_method_4_code
def yX7_leastThatFits : MethodName := ⟨RX7, "leastThatFits", "()I"⟩
abbrev cX7_greatestThatFits : ByteArray := prog_9_method_5_code
def yX7_greatestThatFits : MethodName := ⟨RX7, "greatestThatFits", "()I"⟩
abbrev cX7_fits : ByteArray := prog_9_method_6_code
def yX7_fits : MethodName := ⟨RX7, "fits", "(I)Z"⟩
abbrev cX7_cellsOn : ByteArray := prog_9_method_7_code
def yX7_cellsOn : MethodName := ⟨RX7, "cellsOn", "(II)I"⟩
def RX8 : String := "DotThresholds$Text"
def TX8 : u_T := fun k => match k with
  | 0 => ("DotThresholds$Text", "letters", "[I", true)
  | 1 => ("DotThresholds$Text", "length", "I", false)
  | 2 => ("DotThresholds$Text", "place", "I", false)
  | 3 => ("DotThresholds$Text", "next", "I", false)
  | 4 => ("DotThresholds$Text", "token", "I", false)
  | _ => ("DotThresholds$Text", "value", "I", false)
def tyX8 : Nat → FieldType := fun k => match k with
  | 0 => .array .int
  | 1 => .int
  | 2 => .int
  | 3 => .int
  | 4 => .int
  | _ => .int
abbrev wsX80 : List Cond := u_ws RX8 TX8 6
theorem nmX8 : ∀ a, a < 6 → ∀ b, b < 6 → a ≠ b → (TX8 a).2.1 ≠ (TX8 b).2.1 := by decide +kernel
theorem tyX8_ok : ∀ k, k < 6 → parseFieldDescriptor (TX8 k).2.2.1 = some (tyX8 k) := by decide +kernel
abbrev cX8_init : ByteArray := prog_10_method_1_code
def yX8_init : MethodName := ⟨RX8, "<init>", "()V"⟩
abbrev cX8_append : ByteArray := prog_10_method_2_code
def yX8_append : MethodName := ⟨RX8, "append", "(I)Z"⟩
abbrev cX8_readInto : ByteArray := prog_10_method_3_code
def yX8_readInto : MethodName := ⟨RX8, "readInto", "(LDotThresholds$Plan;)I"⟩
abbrev cX8_readItem : ByteArray := prog_10_method_4_code
def yX8_readItem : MethodName := ⟨RX8, "readItem", "(LDotThresholds$Plan;Z)Z"⟩
abbrev cX8_readMeasures : ByteArray := prog_10_method_5_code
def yX8_readMeasures : MethodName := ⟨RX8, "readMeasures", "(LDotThresholds$Plan;)Z"⟩
abbrev cX8_readKernel : ByteArray := prog_10_method_6_code
def yX8_readKernel : MethodName := ⟨RX8, "readKernel", "(LDotThresholds$Plan;)Z"⟩
abbrev cX8_readStretch : ByteArray := prog_10_method_7_code
def yX8_readStretch : MethodName := ⟨RX8, "readStretch", "(LDotThresholds$Plan;)Z"⟩
abbrev cX8_readCell : ByteArray := prog_10_method_8_code
def yX8_readCell : MethodName := ⟨RX8, "readCell", "(LDotThresholds$Plan;Z)Z"⟩
abbrev cX8_stepToNumber : ByteArray := prog_10_method_9_code
def yX8_stepToNumber : MethodName := ⟨RX8, "stepToNumber", "(II)Z"⟩
abbrev cX8_step : ByteArray := prog_10_method_10_code
def yX8_step : MethodName := ⟨RX8, "step", "()V"⟩
abbrev cX8_readDigits : ByteArray := prog_10_method_11_code
def yX8_readDigits : MethodName := ⟨RX8, "readDigits", "(I)V"⟩
abbrev cX8_isDigit : ByteArray := prog_10_method_12_code
def yX8_isDigit : MethodName := ⟨RX8, "isDigit", "(I)Z"⟩
def RX9 : String := "DotThresholds"
def TX9 : u_T := fun k => match k with
  | 0 => ("DotThresholds", "text", "LDotThresholds$Text;", true)
  | 1 => ("DotThresholds", "plan", "LDotThresholds$Plan;", true)
  | 2 => ("DotThresholds", "draft", "LDotThresholds$Plan;", true)
  | 3 => ("DotThresholds", "ground", "LDotThresholds$Ground;", true)
  | 4 => ("DotThresholds", "dots", "LDotThresholds$Hold;", true)
  | 5 => ("DotThresholds", "ranks", "LDotThresholds$Ranks;", true)
  | 6 => ("DotThresholds", "picture", "LDotThresholds$Picture;", true)
  | 7 => ("DotThresholds", "sights", "LDotThresholds$Sights;", true)
  | 8 => ("DotThresholds", "past", "LDotThresholds$Past;", true)
  | _ => ("DotThresholds", "images", "LDotThresholds$Images;", true)
def tyX9 : Nat → FieldType := fun k => match k with
  | 0 => .object "DotThresholds$Text"
  | 1 => .object "DotThresholds$Plan"
  | 2 => .object "DotThresholds$Plan"
  | 3 => .object "DotThresholds$Ground"
  | 4 => .object "DotThresholds$Hold"
  | 5 => .object "DotThresholds$Ranks"
  | 6 => .object "DotThresholds$Picture"
  | 7 => .object "DotThresholds$Sights"
  | 8 => .object "DotThresholds$Past"
  | _ => .object "DotThresholds$Images"
abbrev wsX90 : List Cond := u_ws RX9 TX9 10
theorem nmX9 : ∀ a, a < 10 → ∀ b, b < 10 → a ≠ b → (TX9 a).2.1 ≠ (TX9 b).2.1 := by decide +kernel
theorem tyX9_ok : ∀ k, k < 10 → parseFieldDescriptor (TX9 k).2.2.1 = some (tyX9 k) := by decide +kernel
abbrev cX9_init : ByteArray := prog_1_method_1_code
def yX9_init : MethodName := ⟨RX9, "<init>", "()V"⟩
abbrev cX9_type : ByteArray := prog_1_method_2_code
def yX9_type : MethodName := ⟨RX9, "type", "(I)I"⟩
abbrev cX9_clear : ByteArray := prog_1_method_3_code
def yX9_clear : MethodName := ⟨RX9, "clear", "()I"⟩
abbrev cX9_grid : ByteArray := prog_1_method_4_code
def yX9_grid : MethodName := ⟨RX9, "grid", "()I"⟩
abbrev cX9_cell : ByteArray := prog_1_method_5_code
def yX9_cell : MethodName := ⟨RX9, "cell", "(II)I"⟩
abbrev cX9_near : ByteArray := prog_1_method_6_code
def yX9_near : MethodName := ⟨RX9, "near", "(III)I"⟩
abbrev cX9_flips : ByteArray := prog_1_method_7_code
def yX9_flips : MethodName := ⟨RX9, "flips", "(II)I"⟩
abbrev cX9_rests : ByteArray := prog_1_method_8_code
def yX9_rests : MethodName := ⟨RX9, "rests", "(I)I"⟩
abbrev cX9_moves : ByteArray := prog_1_method_9_code
def yX9_moves : MethodName := ⟨RX9, "moves", "(II)I"⟩
abbrev cX9_undo : ByteArray := prog_1_method_10_code
def yX9_undo : MethodName := ⟨RX9, "undo", "()I"⟩
abbrev cX9_held : ByteArray := prog_1_method_11_code
def yX9_held : MethodName := ⟨RX9, "held", "(II)I"⟩
abbrev cX9_extreme : ByteArray := prog_1_method_12_code
def yX9_extreme : MethodName := ⟨RX9, "extreme", "(I)I"⟩
abbrev cX9_energy : ByteArray := prog_1_method_13_code
def yX9_energy : MethodName := ⟨RX9, "energy", "()I"⟩
abbrev cX9_better : ByteArray := prog_1_method_14_code
def yX9_better : MethodName := ⟨RX9, "better", "(I)I"⟩
abbrev cX9_shifts : ByteArray := prog_1_method_15_code
def yX9_shifts : MethodName := ⟨RX9, "shifts", "()I"⟩
abbrev cX9_rank : ByteArray := prog_1_method_16_code
def yX9_rank : MethodName := ⟨RX9, "rank", "(II)I"⟩
abbrev cX9_ranked : ByteArray := prog_1_method_17_code
def yX9_ranked : MethodName := ⟨RX9, "ranked", "(I)I"⟩
abbrev cX9_stage : ByteArray := prog_1_method_18_code
def yX9_stage : MethodName := ⟨RX9, "stage", "(II)I"⟩
abbrev cX9_shade : ByteArray := prog_1_method_19_code
def yX9_shade : MethodName := ⟨RX9, "shade", "(II)I"⟩
abbrev cX9_finest : ByteArray := prog_1_method_20_code
def yX9_finest : MethodName := ⟨RX9, "finest", "(I)I"⟩
abbrev cX9_paints : ByteArray := prog_1_method_21_code
def yX9_paints : MethodName := ⟨RX9, "paints", "(III)I"⟩
abbrev cX9_ink : ByteArray := prog_1_method_22_code
def yX9_ink : MethodName := ⟨RX9, "ink", "(II)I"⟩
abbrev cX9_off : ByteArray := prog_1_method_23_code
def yX9_off : MethodName := ⟨RX9, "off", "()I"⟩
abbrev cX9_sees : ByteArray := prog_1_method_24_code
def yX9_sees : MethodName := ⟨RX9, "sees", "(II)I"⟩
abbrev cX9_forget : ByteArray := prog_1_method_25_code
def yX9_forget : MethodName := ⟨RX9, "forget", "()I"⟩
abbrev cX9_unseen : ByteArray := prog_1_method_26_code
def yX9_unseen : MethodName := ⟨RX9, "unseen", "(I)I"⟩
abbrev cX9_keep : ByteArray := prog_1_method_27_code
def yX9_keep : MethodName := ⟨RX9, "keep", "(I)I"⟩
abbrev cX9_back : ByteArray := prog_1_method_28_code
def yX9_back : MethodName := ⟨RX9, "back", "(I)I"⟩
abbrev cX9_count : ByteArray := prog_1_method_29_code
def yX9_count : MethodName := ⟨RX9, "count", "(I)I"⟩
abbrev cX9_has : ByteArray := prog_1_method_30_code
def yX9_has : MethodName := ⟨RX9, "has", "(JI)Z"⟩
abbrev cX9_isSlope : ByteArray := prog_1_method_31_code
def yX9_isSlope : MethodName := ⟨RX9, "isSlope", "(I)Z"⟩
abbrev cX9_isLine : ByteArray := prog_1_method_32_code
def yX9_isLine : MethodName := ⟨RX9, "isLine", "(I)Z"⟩
abbrev cX9_noDots : ByteArray := prog_1_method_33_code
def yX9_noDots : MethodName := ⟨RX9, "noDots", "()Z"⟩
abbrev cX9_numberWithRanks : ByteArray := prog_1_method_34_code
def yX9_numberWithRanks : MethodName := ⟨RX9, "numberWithRanks", "(II)I"⟩
abbrev cX9_emptyCells : ByteArray := prog_1_method_35_code
def yX9_emptyCells : MethodName := ⟨RX9, "emptyCells", "()J"⟩
abbrev cX9_ranksNow : ByteArray := prog_1_method_36_code
def yX9_ranksNow : MethodName := ⟨RX9, "ranksNow", "()LDotThresholds$Ranks;"⟩
abbrev cX9_pictureNow : ByteArray := prog_1_method_37_code
def yX9_pictureNow : MethodName := ⟨RX9, "pictureNow", "()LDotThresholds$Picture;"⟩
abbrev cX9_restStep : ByteArray := prog_1_method_38_code
def yX9_restStep : MethodName := ⟨RX9, "restStep", "()Z"⟩
abbrev cX9_gain : ByteArray := prog_1_method_39_code
def yX9_gain : MethodName := ⟨RX9, "gain", "(II)I"⟩
abbrev cX9_bestMove : ByteArray := prog_1_method_40_code
def yX9_bestMove : MethodName := ⟨RX9, "bestMove", "()I"⟩
def RX10 : String := "DotThresholdsModel"
def TX10 : u_T := fun k => match k with
  | 0 => ("DotThresholdsModel", "thrown", "I", false)
  | 1 => ("DotThresholdsModel", "told", "[I", true)
  | 2 => ("DotThresholdsModel", "draft", "[I", true)
  | 3 => ("DotThresholdsModel", "shut", "J", false)
  | 4 => ("DotThresholdsModel", "dots", "J", false)
  | 5 => ("DotThresholdsModel", "draftShut", "J", false)
  | 6 => ("DotThresholdsModel", "draftDots", "J", false)
  | 7 => ("DotThresholdsModel", "undos", "I", false)
  | 8 => ("DotThresholdsModel", "past", "[J", true)
  | 9 => ("DotThresholdsModel", "kept", "[J", true)
  | 10 => ("DotThresholdsModel", "isKept", "[Z", true)
  | 11 => ("DotThresholdsModel", "base", "I", false)
  | 12 => ("DotThresholdsModel", "slopeX", "I", false)
  | 13 => ("DotThresholdsModel", "slopeY", "I", false)
  | 14 => ("DotThresholdsModel", "seen", "I", false)
  | 15 => ("DotThresholdsModel", "seenLine", "[I", true)
  | 16 => ("DotThresholdsModel", "seenIs", "[I", true)
  | 17 => ("DotThresholdsModel", "rank", "[I", true)
  | 18 => ("DotThresholdsModel", "stage", "[I", true)
  | 19 => ("DotThresholdsModel", "letters", "I", false)
  | 20 => ("DotThresholdsModel", "text", "[I", true)
  | 21 => ("DotThresholdsModel", "next", "I", false)
  | 22 => ("DotThresholdsModel", "begin", "I", false)
  | 23 => ("DotThresholdsModel", "token", "I", false)
  | 24 => ("DotThresholdsModel", "gain", "I", false)
  | 25 => ("DotThresholdsModel", "bestDot", "I", false)
  | _ => ("DotThresholdsModel", "bestCell", "I", false)
def tyX10 : Nat → FieldType := fun k => match k with
  | 0 => .int
  | 1 => .array .int
  | 2 => .array .int
  | 3 => .long
  | 4 => .long
  | 5 => .long
  | 6 => .long
  | 7 => .int
  | 8 => .array .long
  | 9 => .array .long
  | 10 => .array .boolean
  | 11 => .int
  | 12 => .int
  | 13 => .int
  | 14 => .int
  | 15 => .array .int
  | 16 => .array .int
  | 17 => .array .int
  | 18 => .array .int
  | 19 => .int
  | 20 => .array .int
  | 21 => .int
  | 22 => .int
  | 23 => .int
  | 24 => .int
  | 25 => .int
  | _ => .int
abbrev wsX100 : List Cond := u_ws RX10 TX10 27
theorem nmX10 : ∀ a, a < 27 → ∀ b, b < 27 → a ≠ b → (TX10 a).2.1 ≠ (TX10 b).2.1 := by decide +kernel
theorem tyX10_ok : ∀ k, k < 27 → parseFieldDescriptor (TX10 k).2.2.1 = some (tyX10 k) := by decide +kernel
abbrev cX10_init : ByteArray := prog_12_method_1_code
def yX10_init : MethodName := ⟨RX10, "<init>", "()V"⟩
abbrev cX10_in : ByteArray := prog_12_method_3_code
def yX10_in : MethodName := ⟨RX10, "in", "(III)Z"⟩
abbrev cX10_has : ByteArray := prog_12_method_4_code
def yX10_has : MethodName := ⟨RX10, "has", "(JI)Z"⟩
abbrev cX10_ones : ByteArray := prog_12_method_5_code
def yX10_ones : MethodName := ⟨RX10, "ones", "(J)I"⟩
abbrev cX10_type : ByteArray := prog_12_method_6_code
def yX10_type : MethodName := ⟨RX10, "type", "(I)I"⟩
abbrev cX10_clear : ByteArray := prog_12_method_7_code
def yX10_clear : MethodName := ⟨RX10, "clear", "()I"⟩
abbrev cX10_isFigure : ByteArray := prog_12_method_8_code
def yX10_isFigure : MethodName := ⟨RX10, "isFigure", "(I)Z"⟩
abbrev cX10_takes : ByteArray := prog_12_method_9_code
def yX10_takes : MethodName := ⟨RX10, "takes", "()V"⟩
abbrev cX10_number : ByteArray := prog_12_method_10_code
def yX10_number : MethodName := ⟨RX10, "number", "()I"⟩
abbrev cX10_reads : ByteArray := prog_12_method_11_code
def yX10_reads : MethodName := ⟨RX10, "reads", "(II)Z"⟩
abbrev cX10_readsTo : ByteArray := prog_12_method_12_code
def yX10_readsTo : MethodName := ⟨RX10, "readsTo", "(III)Z"⟩
abbrev cX10_readsCell : ByteArray := prog_12_method_13_code
def yX10_readsCell : MethodName := ⟨RX10, "readsCell", "(Z)Z"⟩
abbrev cX10_item : ByteArray := prog_12_method_14_code
def yX10_item : MethodName := ⟨RX10, "item", "(I)Z"⟩
abbrev cX10_begins : ByteArray := prog_12_method_15_code
def yX10_begins : MethodName := ⟨RX10, "begins", "()V"⟩
abbrev cX10_becomes : ByteArray := prog_12_method_16_code
def yX10_becomes : MethodName := ⟨RX10, "becomes", "()V"⟩
abbrev cX10_grid : ByteArray := prog_12_method_17_code
def yX10_grid : MethodName := ⟨RX10, "grid", "()I"⟩
abbrev cX10_cells : ByteArray := prog_12_method_18_code
def yX10_cells : MethodName := ⟨RX10, "cells", "()I"⟩
abbrev cX10_isCell : ByteArray := prog_12_method_19_code
def yX10_isCell : MethodName := ⟨RX10, "isCell", "(I)Z"⟩
abbrev cX10_isPlace : ByteArray := prog_12_method_20_code
def yX10_isPlace : MethodName := ⟨RX10, "isPlace", "(II)Z"⟩
abbrev cX10_at : ByteArray := prog_12_method_21_code
def yX10_at : MethodName := ⟨RX10, "at", "(II)I"⟩
abbrev cX10_isFree : ByteArray := prog_12_method_22_code
def yX10_isFree : MethodName := ⟨RX10, "isFree", "(I)Z"⟩
abbrev cX10_free : ByteArray := prog_12_method_23_code
def yX10_free : MethodName := ⟨RX10, "free", "()I"⟩
abbrev cX10_round : ByteArray := prog_12_method_24_code
def yX10_round : MethodName := ⟨RX10, "round", "(III)I"⟩
abbrev cX10_distance : ByteArray := prog_12_method_25_code
def yX10_distance : MethodName := ⟨RX10, "distance", "(II)I"⟩
abbrev cX10_weight : ByteArray := prog_12_method_26_code
def yX10_weight : MethodName := ⟨RX10, "weight", "(I)I"⟩
abbrev cX10_heldBy : ByteArray := prog_12_method_27_code
def yX10_heldBy : MethodName := ⟨RX10, "heldBy", "(JI)I"⟩
abbrev cX10_freeCells : ByteArray := prog_12_method_28_code
def yX10_freeCells : MethodName := ⟨RX10, "freeCells", "()J"⟩
abbrev cX10_extremeOf : ByteArray := prog_12_method_29_code
def yX10_extremeOf : MethodName := ⟨RX10, "extremeOf", "(JJZ)I"⟩
abbrev cX10_tightest : ByteArray := prog_12_method_30_code
def yX10_tightest : MethodName := ⟨RX10, "tightest", "(J)I"⟩
abbrev cX10_emptiest : ByteArray := prog_12_method_31_code
def yX10_emptiest : MethodName := ⟨RX10, "emptiest", "(J)I"⟩
abbrev cX10_cell : ByteArray := prog_12_method_32_code
def yX10_cell : MethodName := ⟨RX10, "cell", "(II)I"⟩
abbrev cX10_near : ByteArray := prog_12_method_33_code
def yX10_near : MethodName := ⟨RX10, "near", "(III)I"⟩
abbrev cX10_notes : ByteArray := prog_12_method_34_code
def yX10_notes : MethodName := ⟨RX10, "notes", "()V"⟩
abbrev cX10_flips : ByteArray := prog_12_method_35_code
def yX10_flips : MethodName := ⟨RX10, "flips", "(II)I"⟩
abbrev cX10_rests : ByteArray := prog_12_method_36_code
def yX10_rests : MethodName := ⟨RX10, "rests", "(I)I"⟩
abbrev cX10_energyOf : ByteArray := prog_12_method_37_code
def yX10_energyOf : MethodName := ⟨RX10, "energyOf", "(J)I"⟩
abbrev cX10_moved : ByteArray := prog_12_method_38_code
def yX10_moved : MethodName := ⟨RX10, "moved", "(JII)J"⟩
abbrev cX10_moves : ByteArray := prog_12_method_39_code
def yX10_moves : MethodName := ⟨RX10, "moves", "(II)I"⟩
abbrev cX10_undo : ByteArray := prog_12_method_40_code
def yX10_undo : MethodName := ⟨RX10, "undo", "()I"⟩
abbrev cX10_held : ByteArray := prog_12_method_41_code
def yX10_held : MethodName := ⟨RX10, "held", "(II)I"⟩
abbrev cX10_extreme : ByteArray := prog_12_method_42_code
def yX10_extreme : MethodName := ⟨RX10, "extreme", "(I)I"⟩
abbrev cX10_energy : ByteArray := prog_12_method_43_code
def yX10_energy : MethodName := ⟨RX10, "energy", "()I"⟩
abbrev cX10_tries : ByteArray := prog_12_method_44_code
def yX10_tries : MethodName := ⟨RX10, "tries", "()V"⟩
abbrev cX10_better : ByteArray := prog_12_method_45_code
def yX10_better : MethodName := ⟨RX10, "better", "(I)I"⟩
abbrev cX10_shifted : ByteArray := prog_12_method_46_code
def yX10_shifted : MethodName := ⟨RX10, "shifted", "(JII)J"⟩
abbrev cX10_shifts : ByteArray := prog_12_method_47_code
def yX10_shifts : MethodName := ⟨RX10, "shifts", "()I"⟩
abbrev cX10_ranks : ByteArray := prog_12_method_48_code
def yX10_ranks : MethodName := ⟨RX10, "ranks", "()V"⟩
abbrev cX10_rank : ByteArray := prog_12_method_49_code
def yX10_rank : MethodName := ⟨RX10, "rank", "(II)I"⟩
abbrev cX10_ranked : ByteArray := prog_12_method_50_code
def yX10_ranked : MethodName := ⟨RX10, "ranked", "(I)I"⟩
abbrev cX10_stage : ByteArray := prog_12_method_51_code
def yX10_stage : MethodName := ⟨RX10, "stage", "(II)I"⟩
abbrev cX10_isIn : ByteArray := prog_12_method_52_code
def yX10_isIn : MethodName := ⟨RX10, "isIn", "(II)Z"⟩
abbrev cX10_gapOf : ByteArray := prog_12_method_53_code
def yX10_gapOf : MethodName := ⟨RX10, "gapOf", "(I)I"⟩
abbrev cX10_holeOf : ByteArray := prog_12_method_54_code
def yX10_holeOf : MethodName := ⟨RX10, "holeOf", "(I)I"⟩
abbrev cX10_shade : ByteArray := prog_12_method_55_code
def yX10_shade : MethodName := ⟨RX10, "shade", "(II)I"⟩
abbrev cX10_finest : ByteArray := prog_12_method_56_code
def yX10_finest : MethodName := ⟨RX10, "finest", "(I)I"⟩
abbrev cX10_level : ByteArray := prog_12_method_57_code
def yX10_level : MethodName := ⟨RX10, "level", "(I)I"⟩
abbrev cX10_isInk : ByteArray := prog_12_method_58_code
def yX10_isInk : MethodName := ⟨RX10, "isInk", "(I)Z"⟩
abbrev cX10_printed : ByteArray := prog_12_method_59_code
def yX10_printed : MethodName := ⟨RX10, "printed", "()I"⟩
abbrev cX10_paints : ByteArray := prog_12_method_60_code
def yX10_paints : MethodName := ⟨RX10, "paints", "(III)I"⟩
abbrev cX10_ink : ByteArray := prog_12_method_61_code
def yX10_ink : MethodName := ⟨RX10, "ink", "(II)I"⟩
abbrev cX10_off : ByteArray := prog_12_method_62_code
def yX10_off : MethodName := ⟨RX10, "off", "()I"⟩
abbrev cX10_sees : ByteArray := prog_12_method_63_code
def yX10_sees : MethodName := ⟨RX10, "sees", "(II)I"⟩
abbrev cX10_forget : ByteArray := prog_12_method_64_code
def yX10_forget : MethodName := ⟨RX10, "forget", "()I"⟩
abbrev cX10_inLine : ByteArray := prog_12_method_65_code
def yX10_inLine : MethodName := ⟨RX10, "inLine", "(II)I"⟩
abbrev cX10_fits : ByteArray := prog_12_method_66_code
def yX10_fits : MethodName := ⟨RX10, "fits", "(I)Z"⟩
abbrev cX10_unseen : ByteArray := prog_12_method_67_code
def yX10_unseen : MethodName := ⟨RX10, "unseen", "(I)I"⟩
abbrev cX10_keep : ByteArray := prog_12_method_68_code
def yX10_keep : MethodName := ⟨RX10, "keep", "(I)I"⟩
abbrev cX10_back : ByteArray := prog_12_method_69_code
def yX10_back : MethodName := ⟨RX10, "back", "(I)I"⟩
abbrev cX10_count : ByteArray := prog_12_method_70_code
def yX10_count : MethodName := ⟨RX10, "count", "(I)I"⟩
def RJ13 : String := "java/lang/Long"
abbrev cJ13_bitCount_95d88 : ByteArray := prog_13_method_50_code
def yJ13_bitCount_95d88 : MethodName := ⟨RJ13, "bitCount", "(J)I"⟩
def RJ9 : String := "java/lang/Math"
abbrev cJ9_abs_0f7a4 : ByteArray := prog_14_method_59_code
def yJ9_abs_0f7a4 : MethodName := ⟨RJ9, "abs", "(I)I"⟩
abbrev cJ9_max_7cf53 : ByteArray := prog_14_method_65_code
def yJ9_max_7cf53 : MethodName := ⟨RJ9, "max", "(II)I"⟩
abbrev cJ9_min_7cf53 : ByteArray := prog_14_method_69_code
def yJ9_min_7cf53 : MethodName := ⟨RJ9, "min", "(II)I"⟩
def RJ10 : String := "java/lang/System"
def RJ7 : String := "java/util/Arrays"
abbrev cJ7_fill_53178 : ByteArray := prog_16_method_103_code
def yJ7_fill_53178 : MethodName := ⟨RJ7, "fill", "([II)V"⟩
def RL : String := "DotThresholdsLaw"
abbrev cL_law : ByteArray := code
def yL_law : MethodName := ⟨RL, "law", "([I)Z"⟩
abbrev vwCl : List vw_C := [(RX0, TX0, 8), (RX1, TX1, 3), (RX2, TX2, 2), (RX3, TX3, 2), (RX4, TX4, 5), (RX5, TX5, 9), (RX6, TX6, 7), (RX7, TX7, 5), (RX8, TX8, 6), (RX9, TX9, 10), (RX10, TX10, 27)]
/-- the words that every method here takes as given: those of the tables that stay -/
def TB : List Cond := lw_tbl.filter goodWord
theorem tb_i (i : Nat) {w : Cond} (h : tables_1[i]? = some w) (g : goodWord w = true) : w ∈ TB := List.mem_filter.mpr ⟨List.mem_append_right _ (List.mem_of_getElem? h), g⟩
theorem tb_p (i : Nat) {w : Cond} (h : (k2_sels lw_privs)[i]? = some w) (g : goodWord w = true) : w ∈ TB := List.mem_filter.mpr ⟨List.mem_append_left _ (List.mem_of_getElem? h), g⟩
theorem tb_good : GoodIn TB TB := fun w h => ⟨h, good_of_word (List.mem_filter.mp h).2⟩
end
section
theorem tw_0 : Cond.initialized RL ∈ TB := tb_i 0 (by decide +kernel) (by decide +kernel)
theorem tw_1 : Cond.initialized RX9 ∈ TB := tb_i 1 (by decide +kernel) (by decide +kernel)
theorem tw_2 : Cond.initialized RX8 ∈ TB := tb_i 2 (by decide +kernel) (by decide +kernel)
theorem tw_3 : Cond.initialized RX5 ∈ TB := tb_i 3 (by decide +kernel) (by decide +kernel)
theorem tw_4 : Cond.initialized RX0 ∈ TB := tb_i 4 (by decide +kernel) (by decide +kernel)
theorem tw_5 : Cond.initialized "java/lang/Math" ∈ TB := tb_i 5 (by decide +kernel) (by decide +kernel)
theorem tw_6 : Cond.initialized "java/lang/Long" ∈ TB := tb_i 6 (by decide +kernel) (by decide +kernel)
theorem tw_7 : Cond.initialized RX1 ∈ TB := tb_i 7 (by decide +kernel) (by decide +kernel)
theorem tw_8 : Cond.initialized RX6 ∈ TB := tb_i 8 (by decide +kernel) (by decide +kernel)
theorem tw_9 : Cond.initialized RX4 ∈ TB := tb_i 9 (by decide +kernel) (by decide +kernel)
theorem tw_10 : Cond.initialized RX7 ∈ TB := tb_i 10 (by decide +kernel) (by decide +kernel)
theorem tw_11 : Cond.initialized RX3 ∈ TB := tb_i 11 (by decide +kernel) (by decide +kernel)
theorem tw_12 : Cond.initialized RX2 ∈ TB := tb_i 12 (by decide +kernel) (by decide +kernel)
theorem tw_13 : Cond.initialized RX10 ∈ TB := tb_i 13 (by decide +kernel) (by decide +kernel)
theorem tw_14 : Cond.initialized "java/util/Arrays" ∈ TB := tb_i 14 (by decide +kernel) (by decide +kernel)
theorem tw_15 : Cond.initialized "java/lang/System" ∈ TB := tb_i 15 (by decide +kernel) (by decide +kernel)
theorem tw_16 : Cond.classLink RL 7 RX9 ∈ TB := tb_i 16 (by decide +kernel) (by decide +kernel)
theorem tw_17 : Cond.instantiable RX9 10 ∈ TB := tb_i 17 (by decide +kernel) (by decide +kernel)
theorem tw_18 : Cond.methodLink RL 9 yX9_init ∈ TB := tb_i 18 (by decide +kernel) (by decide +kernel)
theorem tw_19 : Cond.instanceMethod yX9_init ∈ TB := tb_i 19 (by decide +kernel) (by decide +kernel)
theorem tw_20 : Cond.code yX9_init cX9_init 1 none ∈ TB := tb_i 20 (by decide +kernel) (by decide +kernel)
theorem tw_21 : Cond.methodLink RX9 3 Lib.objectInit ∈ TB := tb_i 21 (by decide +kernel) (by decide +kernel)
theorem tw_22 : Cond.instanceMethod Lib.objectInit ∈ TB := tb_i 22 (by decide +kernel) (by decide +kernel)
theorem tw_23 : Cond.code Lib.objectInit ⟨#[0xb1]⟩ 1 none ∈ TB := tb_i 23 (by decide +kernel) (by decide +kernel)
theorem tw_24 : Cond.classLink RX9 9 RX8 ∈ TB := tb_i 24 (by decide +kernel) (by decide +kernel)
theorem tw_25 : Cond.instantiable RX8 6 ∈ TB := tb_i 25 (by decide +kernel) (by decide +kernel)
theorem tw_27 : Cond.instanceMethod yX8_init ∈ TB := tb_i 27 (by decide +kernel) (by decide +kernel)
theorem tw_28 : Cond.code yX8_init cX8_init 1 none ∈ TB := tb_i 28 (by decide +kernel) (by decide +kernel)
theorem tw_29 : Cond.methodLink RX8 3 Lib.objectInit ∈ TB := tb_i 29 (by decide +kernel) (by decide +kernel)
theorem tw_30 : Cond.fieldLink RX8 11 "DotThresholds$Text" "letters" "[I" ∈ TB := tb_i 30 (by decide +kernel) (by decide +kernel)
theorem tw_31 : Cond.fieldLink RX8 15 "DotThresholds$Text" "length" "I" ∈ TB := tb_i 31 (by decide +kernel) (by decide +kernel)
theorem tw_32 : Cond.fieldLink RX9 85 "DotThresholds$Text" "length" "I" ∈ TB := tb_i 32 (by decide +kernel) (by decide +kernel)
theorem tw_33 : Cond.fieldLink RX8 37 "DotThresholds$Text" "place" "I" ∈ TB := tb_i 33 (by decide +kernel) (by decide +kernel)
theorem tw_34 : Cond.fieldLink RX8 24 "DotThresholds$Text" "next" "I" ∈ TB := tb_i 34 (by decide +kernel) (by decide +kernel)
theorem tw_35 : Cond.fieldLink RX8 30 "DotThresholds$Text" "token" "I" ∈ TB := tb_i 35 (by decide +kernel) (by decide +kernel)
theorem tw_36 : Cond.fieldLink RX8 57 "DotThresholds$Text" "value" "I" ∈ TB := tb_i 36 (by decide +kernel) (by decide +kernel)
theorem tw_50 : Cond.arrayClass .int ∈ TB := tb_i 50 (by decide +kernel) (by decide +kernel)
theorem tw_51 : Cond.classLink RX9 16 RX5 ∈ TB := tb_i 51 (by decide +kernel) (by decide +kernel)
theorem tw_52 : Cond.instantiable RX5 9 ∈ TB := tb_i 52 (by decide +kernel) (by decide +kernel)
theorem tw_53 : Cond.methodLink RX9 18 yX5_init ∈ TB := tb_i 53 (by decide +kernel) (by decide +kernel)
theorem tw_54 : Cond.instanceMethod yX5_init ∈ TB := tb_i 54 (by decide +kernel) (by decide +kernel)
theorem tw_55 : Cond.code yX5_init cX5_init 1 none ∈ TB := tb_i 55 (by decide +kernel) (by decide +kernel)
theorem tw_56 : Cond.methodLink RX5 3 Lib.objectInit ∈ TB := tb_i 56 (by decide +kernel) (by decide +kernel)
theorem tw_57 : Cond.methodLink RX5 9 yX5_reset ∈ TB := tb_i 57 (by decide +kernel) (by decide +kernel)
theorem tw_58 : Cond.instanceMethod yX5_reset ∈ TB := tb_i 58 (by decide +kernel) (by decide +kernel)
theorem tw_59 : Cond.selects RX5 yX5_reset yX5_reset ∈ TB := tb_i 59 (by decide +kernel) (by decide +kernel)
theorem tw_60 : Cond.code yX5_reset cX5_reset 1 none ∈ TB := tb_i 60 (by decide +kernel) (by decide +kernel)
theorem tw_61 : Cond.fieldLink RX5 14 "DotThresholds$Plan" "width" "I" ∈ TB := tb_i 61 (by decide +kernel) (by decide +kernel)
theorem tw_62 : Cond.fieldLink RX0 40 "DotThresholds$Plan" "width" "I" ∈ TB := tb_i 62 (by decide +kernel) (by decide +kernel)
theorem tw_63 : Cond.fieldLink RX8 60 "DotThresholds$Plan" "width" "I" ∈ TB := tb_i 63 (by decide +kernel) (by decide +kernel)
theorem tw_64 : Cond.fieldLink RX9 187 "DotThresholds$Plan" "width" "I" ∈ TB := tb_i 64 (by decide +kernel) (by decide +kernel)
theorem tw_65 : Cond.fieldLink RX5 18 "DotThresholds$Plan" "height" "I" ∈ TB := tb_i 65 (by decide +kernel) (by decide +kernel)
theorem tw_66 : Cond.fieldLink RX0 35 "DotThresholds$Plan" "height" "I" ∈ TB := tb_i 66 (by decide +kernel) (by decide +kernel)
theorem tw_67 : Cond.fieldLink RX8 63 "DotThresholds$Plan" "height" "I" ∈ TB := tb_i 67 (by decide +kernel) (by decide +kernel)
theorem tw_68 : Cond.fieldLink RX9 184 "DotThresholds$Plan" "height" "I" ∈ TB := tb_i 68 (by decide +kernel) (by decide +kernel)
theorem tw_69 : Cond.fieldLink RX5 21 "DotThresholds$Plan" "kernel" "I" ∈ TB := tb_i 69 (by decide +kernel) (by decide +kernel)
theorem tw_70 : Cond.fieldLink RX8 66 "DotThresholds$Plan" "kernel" "I" ∈ TB := tb_i 70 (by decide +kernel) (by decide +kernel)
theorem tw_71 : Cond.fieldLink RX9 269 "DotThresholds$Plan" "kernel" "I" ∈ TB := tb_i 71 (by decide +kernel) (by decide +kernel)
theorem tw_72 : Cond.fieldLink RX5 24 "DotThresholds$Plan" "power" "I" ∈ TB := tb_i 72 (by decide +kernel) (by decide +kernel)
theorem tw_73 : Cond.fieldLink RX8 69 "DotThresholds$Plan" "power" "I" ∈ TB := tb_i 73 (by decide +kernel) (by decide +kernel)
theorem tw_74 : Cond.fieldLink RX9 272 "DotThresholds$Plan" "power" "I" ∈ TB := tb_i 74 (by decide +kernel) (by decide +kernel)
theorem tw_75 : Cond.fieldLink RX5 27 "DotThresholds$Plan" "fall" "I" ∈ TB := tb_i 75 (by decide +kernel) (by decide +kernel)
theorem tw_76 : Cond.fieldLink RX8 72 "DotThresholds$Plan" "fall" "I" ∈ TB := tb_i 76 (by decide +kernel) (by decide +kernel)
theorem tw_77 : Cond.fieldLink RX9 275 "DotThresholds$Plan" "fall" "I" ∈ TB := tb_i 77 (by decide +kernel) (by decide +kernel)
theorem tw_78 : Cond.fieldLink RX5 30 "DotThresholds$Plan" "ax" "I" ∈ TB := tb_i 78 (by decide +kernel) (by decide +kernel)
theorem tw_79 : Cond.fieldLink RX8 75 "DotThresholds$Plan" "ax" "I" ∈ TB := tb_i 79 (by decide +kernel) (by decide +kernel)
theorem tw_80 : Cond.fieldLink RX9 278 "DotThresholds$Plan" "ax" "I" ∈ TB := tb_i 80 (by decide +kernel) (by decide +kernel)
theorem tw_81 : Cond.fieldLink RX5 33 "DotThresholds$Plan" "ay" "I" ∈ TB := tb_i 81 (by decide +kernel) (by decide +kernel)
theorem tw_82 : Cond.fieldLink RX8 78 "DotThresholds$Plan" "ay" "I" ∈ TB := tb_i 82 (by decide +kernel) (by decide +kernel)
theorem tw_83 : Cond.fieldLink RX9 281 "DotThresholds$Plan" "ay" "I" ∈ TB := tb_i 83 (by decide +kernel) (by decide +kernel)
theorem tw_84 : Cond.fieldLink RX5 36 "DotThresholds$Plan" "shut" "J" ∈ TB := tb_i 84 (by decide +kernel) (by decide +kernel)
theorem tw_85 : Cond.fieldLink RX0 53 "DotThresholds$Plan" "shut" "J" ∈ TB := tb_i 85 (by decide +kernel) (by decide +kernel)
theorem tw_86 : Cond.fieldLink RX9 121 "DotThresholds$Plan" "shut" "J" ∈ TB := tb_i 86 (by decide +kernel) (by decide +kernel)
theorem tw_87 : Cond.fieldLink RX8 85 "DotThresholds$Plan" "shut" "J" ∈ TB := tb_i 87 (by decide +kernel) (by decide +kernel)
theorem tw_88 : Cond.fieldLink RX5 40 "DotThresholds$Plan" "dots" "J" ∈ TB := tb_i 88 (by decide +kernel) (by decide +kernel)
theorem tw_89 : Cond.fieldLink RX9 99 "DotThresholds$Plan" "dots" "J" ∈ TB := tb_i 89 (by decide +kernel) (by decide +kernel)
theorem tw_90 : Cond.fieldLink RX8 89 "DotThresholds$Plan" "dots" "J" ∈ TB := tb_i 90 (by decide +kernel) (by decide +kernel)
theorem tw_110 : Cond.classLink RX9 26 RX0 ∈ TB := tb_i 110 (by decide +kernel) (by decide +kernel)
theorem tw_111 : Cond.instantiable RX0 8 ∈ TB := tb_i 111 (by decide +kernel) (by decide +kernel)
theorem tw_112 : Cond.methodLink RX9 28 yX0_init ∈ TB := tb_i 112 (by decide +kernel) (by decide +kernel)
theorem tw_113 : Cond.instanceMethod yX0_init ∈ TB := tb_i 113 (by decide +kernel) (by decide +kernel)
theorem tw_114 : Cond.code yX0_init cX0_init 2 none ∈ TB := tb_i 114 (by decide +kernel) (by decide +kernel)
theorem tw_115 : Cond.methodLink RX0 3 Lib.objectInit ∈ TB := tb_i 115 (by decide +kernel) (by decide +kernel)
theorem tw_116 : Cond.methodLink RX0 28 yX0_lay ∈ TB := tb_i 116 (by decide +kernel) (by decide +kernel)
theorem tw_117 : Cond.instanceMethod yX0_lay ∈ TB := tb_i 117 (by decide +kernel) (by decide +kernel)
theorem tw_118 : Cond.selects RX0 yX0_lay yX0_lay ∈ TB := tb_i 118 (by decide +kernel) (by decide +kernel)
theorem tw_119 : Cond.code yX0_lay cX0_lay 4 none ∈ TB := tb_i 119 (by decide +kernel) (by decide +kernel)
theorem tw_120 : Cond.methodLink RX0 43 yX5_distanceOf ∈ TB := tb_i 120 (by decide +kernel) (by decide +kernel)
theorem tw_121 : Cond.instanceMethod yX5_distanceOf ∈ TB := tb_i 121 (by decide +kernel) (by decide +kernel)
theorem tw_122 : Cond.selects RX5 yX5_distanceOf yX5_distanceOf ∈ TB := tb_i 122 (by decide +kernel) (by decide +kernel)
theorem tw_123 : Cond.code yX5_distanceOf cX5_distanceOf 5 (some Jvm.ClassFile.FieldType.int) ∈ TB := tb_i 123 (by decide +kernel) (by decide +kernel)
theorem tw_124 : Cond.methodLink RX5 43 Lib.Math.min.name ∈ TB := tb_i 124 (by decide +kernel) (by decide +kernel)
theorem tw_125 : Cond.static Lib.Math.min.name ∈ TB := tb_i 125 (by decide +kernel) (by decide +kernel)
theorem tw_126 : Cond.code Lib.Math.min.name Lib.Math.min.code 2 (some Jvm.ClassFile.FieldType.int) ∈ TB := tb_i 126 (by decide +kernel) (by decide +kernel)
theorem tw_127 : Cond.methodLink RX0 47 yX5_weightOf ∈ TB := tb_i 127 (by decide +kernel) (by decide +kernel)
theorem tw_128 : Cond.instanceMethod yX5_weightOf ∈ TB := tb_i 128 (by decide +kernel) (by decide +kernel)
theorem tw_129 : Cond.selects RX5 yX5_weightOf yX5_weightOf ∈ TB := tb_i 129 (by decide +kernel) (by decide +kernel)
theorem tw_130 : Cond.code yX5_weightOf cX5_weightOf 3 (some Jvm.ClassFile.FieldType.int) ∈ TB := tb_i 130 (by decide +kernel) (by decide +kernel)
theorem tw_131 : Cond.methodLink RX5 49 Lib.Math.max.name ∈ TB := tb_i 131 (by decide +kernel) (by decide +kernel)
theorem tw_132 : Cond.static Lib.Math.max.name ∈ TB := tb_i 132 (by decide +kernel) (by decide +kernel)
theorem tw_133 : Cond.code Lib.Math.max.name Lib.Math.max.code 2 (some Jvm.ClassFile.FieldType.int) ∈ TB := tb_i 133 (by decide +kernel) (by decide +kernel)
theorem tw_134 : Cond.constantLong RX0 51 (-1) ∈ TB := tb_i 134 (by decide +kernel) (by decide +kernel)
theorem tw_135 : Cond.methodLink RX0 60 yJ13_bitCount_95d88 ∈ TB := tb_i 135 (by decide +kernel) (by decide +kernel)
theorem tw_136 : Cond.static yJ13_bitCount_95d88 ∈ TB := tb_i 136 (by decide +kernel) (by decide +kernel)
theorem tw_137 : Cond.code yJ13_bitCount_95d88 cJ13_bitCount_95d88 2 (some Jvm.ClassFile.FieldType.int) ∈ TB := tb_i 137 (by decide +kernel) (by decide +kernel)
theorem tw_138 : Cond.constantLong RJ13 314 (6148914691236517205) ∈ TB := tb_i 138 (by decide +kernel) (by decide +kernel)
theorem tw_139 : Cond.constantLong RJ13 316 (3689348814741910323) ∈ TB := tb_i 139 (by decide +kernel) (by decide +kernel)
theorem tw_140 : Cond.constantLong RJ13 318 (1085102592571150095) ∈ TB := tb_i 140 (by decide +kernel) (by decide +kernel)
theorem tw_141 : Cond.fieldLink RX0 24 "DotThresholds$Ground" "plan" "LDotThresholds$Plan;" ∈ TB := tb_i 141 (by decide +kernel) (by decide +kernel)
theorem tw_142 : Cond.fieldLink RX0 9 "DotThresholds$Ground" "columns" "[I" ∈ TB := tb_i 142 (by decide +kernel) (by decide +kernel)
theorem tw_143 : Cond.fieldLink RX0 15 "DotThresholds$Ground" "lines" "[I" ∈ TB := tb_i 143 (by decide +kernel) (by decide +kernel)
theorem tw_144 : Cond.fieldLink RX0 18 "DotThresholds$Ground" "distances" "[I" ∈ TB := tb_i 144 (by decide +kernel) (by decide +kernel)
theorem tw_145 : Cond.fieldLink RX0 21 "DotThresholds$Ground" "weights" "[I" ∈ TB := tb_i 145 (by decide +kernel) (by decide +kernel)
theorem tw_146 : Cond.fieldLink RX0 31 "DotThresholds$Ground" "cells" "I" ∈ TB := tb_i 146 (by decide +kernel) (by decide +kernel)
theorem tw_147 : Cond.fieldLink RX1 33 "DotThresholds$Ground" "cells" "I" ∈ TB := tb_i 147 (by decide +kernel) (by decide +kernel)
theorem tw_148 : Cond.fieldLink RX4 66 "DotThresholds$Ground" "cells" "I" ∈ TB := tb_i 148 (by decide +kernel) (by decide +kernel)
theorem tw_149 : Cond.fieldLink RX6 107 "DotThresholds$Ground" "cells" "I" ∈ TB := tb_i 149 (by decide +kernel) (by decide +kernel)
theorem tw_150 : Cond.fieldLink RX9 292 "DotThresholds$Ground" "cells" "I" ∈ TB := tb_i 150 (by decide +kernel) (by decide +kernel)
theorem tw_151 : Cond.fieldLink RX0 57 "DotThresholds$Ground" "free" "J" ∈ TB := tb_i 151 (by decide +kernel) (by decide +kernel)
theorem tw_152 : Cond.fieldLink RX6 45 "DotThresholds$Ground" "free" "J" ∈ TB := tb_i 152 (by decide +kernel) (by decide +kernel)
theorem tw_153 : Cond.fieldLink RX4 48 "DotThresholds$Ground" "free" "J" ∈ TB := tb_i 153 (by decide +kernel) (by decide +kernel)
theorem tw_154 : Cond.fieldLink RX9 284 "DotThresholds$Ground" "free" "J" ∈ TB := tb_i 154 (by decide +kernel) (by decide +kernel)
theorem tw_155 : Cond.fieldLink RX0 66 "DotThresholds$Ground" "freeCount" "I" ∈ TB := tb_i 155 (by decide +kernel) (by decide +kernel)
theorem tw_156 : Cond.fieldLink RX7 30 "DotThresholds$Ground" "freeCount" "I" ∈ TB := tb_i 156 (by decide +kernel) (by decide +kernel)
theorem tw_157 : Cond.fieldLink RX4 36 "DotThresholds$Ground" "freeCount" "I" ∈ TB := tb_i 157 (by decide +kernel) (by decide +kernel)
theorem tw_158 : Cond.fieldLink RX6 74 "DotThresholds$Ground" "freeCount" "I" ∈ TB := tb_i 158 (by decide +kernel) (by decide +kernel)
theorem tw_159 : Cond.fieldLink RX9 204 "DotThresholds$Ground" "freeCount" "I" ∈ TB := tb_i 159 (by decide +kernel) (by decide +kernel)
theorem tw_177 : Cond.classLink RX9 35 RX1 ∈ TB := tb_i 177 (by decide +kernel) (by decide +kernel)
theorem tw_178 : Cond.instantiable RX1 3 ∈ TB := tb_i 178 (by decide +kernel) (by decide +kernel)
theorem tw_179 : Cond.methodLink RX9 37 yX1_init ∈ TB := tb_i 179 (by decide +kernel) (by decide +kernel)
theorem tw_180 : Cond.instanceMethod yX1_init ∈ TB := tb_i 180 (by decide +kernel) (by decide +kernel)
theorem tw_181 : Cond.code yX1_init cX1_init 2 none ∈ TB := tb_i 181 (by decide +kernel) (by decide +kernel)
theorem tw_182 : Cond.methodLink RX1 3 Lib.objectInit ∈ TB := tb_i 182 (by decide +kernel) (by decide +kernel)
theorem tw_183 : Cond.fieldLink RX1 15 "DotThresholds$Hold" "ground" "LDotThresholds$Ground;" ∈ TB := tb_i 183 (by decide +kernel) (by decide +kernel)
theorem tw_184 : Cond.fieldLink RX1 9 "DotThresholds$Hold" "sums" "[I" ∈ TB := tb_i 184 (by decide +kernel) (by decide +kernel)
theorem tw_185 : Cond.fieldLink RX1 25 "DotThresholds$Hold" "holders" "J" ∈ TB := tb_i 185 (by decide +kernel) (by decide +kernel)
theorem tw_186 : Cond.fieldLink RX6 50 "DotThresholds$Hold" "holders" "J" ∈ TB := tb_i 186 (by decide +kernel) (by decide +kernel)
theorem tw_187 : Cond.fieldLink RX9 128 "DotThresholds$Hold" "holders" "J" ∈ TB := tb_i 187 (by decide +kernel) (by decide +kernel)
theorem tw_195 : Cond.classLink RX9 44 RX6 ∈ TB := tb_i 195 (by decide +kernel) (by decide +kernel)
theorem tw_196 : Cond.instantiable RX6 7 ∈ TB := tb_i 196 (by decide +kernel) (by decide +kernel)
theorem tw_197 : Cond.methodLink RX9 46 yX6_init ∈ TB := tb_i 197 (by decide +kernel) (by decide +kernel)
theorem tw_198 : Cond.instanceMethod yX6_init ∈ TB := tb_i 198 (by decide +kernel) (by decide +kernel)
theorem tw_199 : Cond.code yX6_init cX6_init 2 none ∈ TB := tb_i 199 (by decide +kernel) (by decide +kernel)
theorem tw_200 : Cond.methodLink RX6 3 Lib.objectInit ∈ TB := tb_i 200 (by decide +kernel) (by decide +kernel)
theorem tw_201 : Cond.classLink RX6 22 RX1 ∈ TB := tb_i 201 (by decide +kernel) (by decide +kernel)
theorem tw_202 : Cond.methodLink RX6 24 yX1_init ∈ TB := tb_i 202 (by decide +kernel) (by decide +kernel)
theorem tw_203 : Cond.fieldLink RX6 18 "DotThresholds$Ranks" "ground" "LDotThresholds$Ground;" ∈ TB := tb_i 203 (by decide +kernel) (by decide +kernel)
theorem tw_204 : Cond.fieldLink RX6 27 "DotThresholds$Ranks" "hold" "LDotThresholds$Hold;" ∈ TB := tb_i 204 (by decide +kernel) (by decide +kernel)
theorem tw_205 : Cond.fieldLink RX6 9 "DotThresholds$Ranks" "order" "[I" ∈ TB := tb_i 205 (by decide +kernel) (by decide +kernel)
theorem tw_206 : Cond.fieldLink RX6 15 "DotThresholds$Ranks" "places" "[I" ∈ TB := tb_i 206 (by decide +kernel) (by decide +kernel)
theorem tw_207 : Cond.fieldLink RX6 31 "DotThresholds$Ranks" "madeBy" "J" ∈ TB := tb_i 207 (by decide +kernel) (by decide +kernel)
theorem tw_208 : Cond.fieldLink RX6 62 "DotThresholds$Ranks" "thinned" "I" ∈ TB := tb_i 208 (by decide +kernel) (by decide +kernel)
theorem tw_209 : Cond.fieldLink RX6 83 "DotThresholds$Ranks" "filled" "I" ∈ TB := tb_i 209 (by decide +kernel) (by decide +kernel)
theorem tw_225 : Cond.classLink RX9 51 RX4 ∈ TB := tb_i 225 (by decide +kernel) (by decide +kernel)
theorem tw_226 : Cond.instantiable RX4 5 ∈ TB := tb_i 226 (by decide +kernel) (by decide +kernel)
theorem tw_227 : Cond.methodLink RX9 53 yX4_init ∈ TB := tb_i 227 (by decide +kernel) (by decide +kernel)
theorem tw_228 : Cond.instanceMethod yX4_init ∈ TB := tb_i 228 (by decide +kernel) (by decide +kernel)
theorem tw_229 : Cond.code yX4_init cX4_init 3 none ∈ TB := tb_i 229 (by decide +kernel) (by decide +kernel)
theorem tw_230 : Cond.methodLink RX4 1 Lib.objectInit ∈ TB := tb_i 230 (by decide +kernel) (by decide +kernel)
theorem tw_231 : Cond.fieldLink RX4 7 "DotThresholds$Picture" "ground" "LDotThresholds$Ground;" ∈ TB := tb_i 231 (by decide +kernel) (by decide +kernel)
theorem tw_232 : Cond.fieldLink RX4 13 "DotThresholds$Picture" "ranks" "LDotThresholds$Ranks;" ∈ TB := tb_i 232 (by decide +kernel) (by decide +kernel)
theorem tw_233 : Cond.fieldLink RX4 17 "DotThresholds$Picture" "base" "I" ∈ TB := tb_i 233 (by decide +kernel) (by decide +kernel)
theorem tw_234 : Cond.fieldLink RX4 21 "DotThresholds$Picture" "dx" "I" ∈ TB := tb_i 234 (by decide +kernel) (by decide +kernel)
theorem tw_235 : Cond.fieldLink RX4 24 "DotThresholds$Picture" "dy" "I" ∈ TB := tb_i 235 (by decide +kernel) (by decide +kernel)
theorem tw_247 : Cond.classLink RX9 60 RX7 ∈ TB := tb_i 247 (by decide +kernel) (by decide +kernel)
theorem tw_248 : Cond.instantiable RX7 5 ∈ TB := tb_i 248 (by decide +kernel) (by decide +kernel)
theorem tw_249 : Cond.methodLink RX9 62 yX7_init ∈ TB := tb_i 249 (by decide +kernel) (by decide +kernel)
theorem tw_250 : Cond.instanceMethod yX7_init ∈ TB := tb_i 250 (by decide +kernel) (by decide +kernel)
theorem tw_251 : Cond.code yX7_init cX7_init 3 none ∈ TB := tb_i 251 (by decide +kernel) (by decide +kernel)
theorem tw_252 : Cond.methodLink RX7 3 Lib.objectInit ∈ TB := tb_i 252 (by decide +kernel) (by decide +kernel)
theorem tw_253 : Cond.fieldLink RX7 18 "DotThresholds$Sights" "ground" "LDotThresholds$Ground;" ∈ TB := tb_i 253 (by decide +kernel) (by decide +kernel)
theorem tw_254 : Cond.fieldLink RX7 22 "DotThresholds$Sights" "ranks" "LDotThresholds$Ranks;" ∈ TB := tb_i 254 (by decide +kernel) (by decide +kernel)
theorem tw_255 : Cond.fieldLink RX7 11 "DotThresholds$Sights" "lines" "[I" ∈ TB := tb_i 255 (by decide +kernel) (by decide +kernel)
theorem tw_256 : Cond.fieldLink RX7 15 "DotThresholds$Sights" "counts" "[I" ∈ TB := tb_i 256 (by decide +kernel) (by decide +kernel)
theorem tw_257 : Cond.fieldLink RX7 26 "DotThresholds$Sights" "size" "I" ∈ TB := tb_i 257 (by decide +kernel) (by decide +kernel)
theorem tw_258 : Cond.fieldLink RX9 112 "DotThresholds$Sights" "size" "I" ∈ TB := tb_i 258 (by decide +kernel) (by decide +kernel)
theorem tw_270 : Cond.classLink RX9 67 RX3 ∈ TB := tb_i 270 (by decide +kernel) (by decide +kernel)
theorem tw_271 : Cond.instantiable RX3 2 ∈ TB := tb_i 271 (by decide +kernel) (by decide +kernel)
theorem tw_273 : Cond.instanceMethod yX3_init ∈ TB := tb_i 273 (by decide +kernel) (by decide +kernel)
theorem tw_274 : Cond.code yX3_init cX3_init 1 none ∈ TB := tb_i 274 (by decide +kernel) (by decide +kernel)
theorem tw_275 : Cond.methodLink RX3 1 Lib.objectInit ∈ TB := tb_i 275 (by decide +kernel) (by decide +kernel)
theorem tw_276 : Cond.fieldLink RX3 9 "DotThresholds$Past" "known" "[J" ∈ TB := tb_i 276 (by decide +kernel) (by decide +kernel)
theorem tw_277 : Cond.fieldLink RX3 13 "DotThresholds$Past" "size" "I" ∈ TB := tb_i 277 (by decide +kernel) (by decide +kernel)
theorem tw_278 : Cond.fieldLink RX9 115 "DotThresholds$Past" "size" "I" ∈ TB := tb_i 278 (by decide +kernel) (by decide +kernel)
theorem tw_284 : Cond.arrayClass .long ∈ TB := tb_i 284 (by decide +kernel) (by decide +kernel)
theorem tw_285 : Cond.classLink RX9 74 RX2 ∈ TB := tb_i 285 (by decide +kernel) (by decide +kernel)
theorem tw_286 : Cond.instantiable RX2 2 ∈ TB := tb_i 286 (by decide +kernel) (by decide +kernel)
theorem tw_288 : Cond.instanceMethod yX2_init ∈ TB := tb_i 288 (by decide +kernel) (by decide +kernel)
theorem tw_289 : Cond.code yX2_init cX2_init 1 none ∈ TB := tb_i 289 (by decide +kernel) (by decide +kernel)
theorem tw_290 : Cond.methodLink RX2 1 Lib.objectInit ∈ TB := tb_i 290 (by decide +kernel) (by decide +kernel)
theorem tw_291 : Cond.fieldLink RX2 9 "DotThresholds$Images" "dots" "[J" ∈ TB := tb_i 291 (by decide +kernel) (by decide +kernel)
theorem tw_292 : Cond.fieldLink RX2 13 "DotThresholds$Images" "kept" "[Z" ∈ TB := tb_i 292 (by decide +kernel) (by decide +kernel)
theorem tw_298 : Cond.arrayClass .boolean ∈ TB := tb_i 298 (by decide +kernel) (by decide +kernel)
theorem tw_299 : Cond.fieldLink RX9 12 "DotThresholds" "text" "LDotThresholds$Text;" ∈ TB := tb_i 299 (by decide +kernel) (by decide +kernel)
theorem tw_300 : Cond.fieldLink RX9 19 "DotThresholds" "plan" "LDotThresholds$Plan;" ∈ TB := tb_i 300 (by decide +kernel) (by decide +kernel)
theorem tw_301 : Cond.fieldLink RX9 23 "DotThresholds" "draft" "LDotThresholds$Plan;" ∈ TB := tb_i 301 (by decide +kernel) (by decide +kernel)
theorem tw_302 : Cond.fieldLink RX9 31 "DotThresholds" "ground" "LDotThresholds$Ground;" ∈ TB := tb_i 302 (by decide +kernel) (by decide +kernel)
theorem tw_303 : Cond.fieldLink RX9 40 "DotThresholds" "dots" "LDotThresholds$Hold;" ∈ TB := tb_i 303 (by decide +kernel) (by decide +kernel)
theorem tw_304 : Cond.fieldLink RX9 47 "DotThresholds" "ranks" "LDotThresholds$Ranks;" ∈ TB := tb_i 304 (by decide +kernel) (by decide +kernel)
theorem tw_305 : Cond.fieldLink RX9 56 "DotThresholds" "picture" "LDotThresholds$Picture;" ∈ TB := tb_i 305 (by decide +kernel) (by decide +kernel)
theorem tw_306 : Cond.fieldLink RX9 63 "DotThresholds" "sights" "LDotThresholds$Sights;" ∈ TB := tb_i 306 (by decide +kernel) (by decide +kernel)
theorem tw_307 : Cond.fieldLink RX9 70 "DotThresholds" "past" "LDotThresholds$Past;" ∈ TB := tb_i 307 (by decide +kernel) (by decide +kernel)
theorem tw_308 : Cond.fieldLink RX9 77 "DotThresholds" "images" "LDotThresholds$Images;" ∈ TB := tb_i 308 (by decide +kernel) (by decide +kernel)
theorem tw_330 : Cond.methodLink RL 13 yX9_type ∈ TB := tb_i 330 (by decide +kernel) (by decide +kernel)
theorem tw_331 : Cond.instanceMethod yX9_type ∈ TB := tb_i 331 (by decide +kernel) (by decide +kernel)
theorem tw_332 : Cond.selects RX9 yX9_type yX9_type ∈ TB := tb_i 332 (by decide +kernel) (by decide +kernel)
theorem tw_333 : Cond.code yX9_type cX9_type 2 (some Jvm.ClassFile.FieldType.int) ∈ TB := tb_i 333 (by decide +kernel) (by decide +kernel)
theorem tw_334 : Cond.methodLink RX9 81 yX8_append ∈ TB := tb_i 334 (by decide +kernel) (by decide +kernel)
theorem tw_335 : Cond.instanceMethod yX8_append ∈ TB := tb_i 335 (by decide +kernel) (by decide +kernel)
theorem tw_336 : Cond.selects RX8 yX8_append yX8_append ∈ TB := tb_i 336 (by decide +kernel) (by decide +kernel)
theorem tw_337 : Cond.code yX8_append cX8_append 2 (some Jvm.ClassFile.FieldType.boolean) ∈ TB := tb_i 337 (by decide +kernel) (by decide +kernel)
theorem tw_338 : Cond.methodLink RL 18 yX9_clear ∈ TB := tb_i 338 (by decide +kernel) (by decide +kernel)
theorem tw_339 : Cond.instanceMethod yX9_clear ∈ TB := tb_i 339 (by decide +kernel) (by decide +kernel)
theorem tw_340 : Cond.selects RX9 yX9_clear yX9_clear ∈ TB := tb_i 340 (by decide +kernel) (by decide +kernel)
theorem tw_341 : Cond.code yX9_clear cX9_clear 2 (some Jvm.ClassFile.FieldType.int) ∈ TB := tb_i 341 (by decide +kernel) (by decide +kernel)
theorem tw_342 : Cond.methodLink RL 23 yX9_grid ∈ TB := tb_i 342 (by decide +kernel) (by decide +kernel)
theorem tw_343 : Cond.instanceMethod yX9_grid ∈ TB := tb_i 343 (by decide +kernel) (by decide +kernel)
theorem tw_344 : Cond.selects RX9 yX9_grid yX9_grid ∈ TB := tb_i 344 (by decide +kernel) (by decide +kernel)
theorem tw_345 : Cond.code yX9_grid cX9_grid 2 (some Jvm.ClassFile.FieldType.int) ∈ TB := tb_i 345 (by decide +kernel) (by decide +kernel)
theorem tw_346 : Cond.methodLink RX9 89 yX8_readInto ∈ TB := tb_i 346 (by decide +kernel) (by decide +kernel)
theorem tw_347 : Cond.instanceMethod yX8_readInto ∈ TB := tb_i 347 (by decide +kernel) (by decide +kernel)
theorem tw_348 : Cond.selects RX8 yX8_readInto yX8_readInto ∈ TB := tb_i 348 (by decide +kernel) (by decide +kernel)
theorem tw_349 : Cond.code yX8_readInto cX8_readInto 3 (some Jvm.ClassFile.FieldType.int) ∈ TB := tb_i 349 (by decide +kernel) (by decide +kernel)
theorem tw_350 : Cond.methodLink RX8 19 yX5_reset ∈ TB := tb_i 350 (by decide +kernel) (by decide +kernel)
theorem tw_351 : Cond.methodLink RX8 27 yX8_step ∈ TB := tb_i 351 (by decide +kernel) (by decide +kernel)
theorem tw_353 : Cond.instanceMethod yX8_step ∈ TB := tb_i 353 (by decide +kernel) (by decide +kernel)
theorem tw_354 : Cond.code yX8_step cX8_step 1 none ∈ TB := tb_i 354 (by decide +kernel) (by decide +kernel)
theorem tw_355 : Cond.methodLink RX8 96 yX8_isDigit ∈ TB := tb_i 355 (by decide +kernel) (by decide +kernel)
theorem tw_356 : Cond.static yX8_isDigit ∈ TB := tb_i 356 (by decide +kernel) (by decide +kernel)
theorem tw_357 : Cond.code yX8_isDigit cX8_isDigit 1 (some Jvm.ClassFile.FieldType.boolean) ∈ TB := tb_i 357 (by decide +kernel) (by decide +kernel)
theorem tw_358 : Cond.methodLink RX8 100 yX8_readDigits ∈ TB := tb_i 358 (by decide +kernel) (by decide +kernel)
theorem tw_360 : Cond.instanceMethod yX8_readDigits ∈ TB := tb_i 360 (by decide +kernel) (by decide +kernel)
theorem tw_361 : Cond.code yX8_readDigits cX8_readDigits 3 none ∈ TB := tb_i 361 (by decide +kernel) (by decide +kernel)
theorem tw_362 : Cond.methodLink RX8 104 Lib.Math.min.name ∈ TB := tb_i 362 (by decide +kernel) (by decide +kernel)
theorem tw_363 : Cond.methodLink RX8 33 yX8_readItem ∈ TB := tb_i 363 (by decide +kernel) (by decide +kernel)
theorem tw_365 : Cond.instanceMethod yX8_readItem ∈ TB := tb_i 365 (by decide +kernel) (by decide +kernel)
theorem tw_366 : Cond.code yX8_readItem cX8_readItem 4 (some Jvm.ClassFile.FieldType.boolean) ∈ TB := tb_i 366 (by decide +kernel) (by decide +kernel)
theorem tw_367 : Cond.methodLink RX8 40 yX8_readMeasures ∈ TB := tb_i 367 (by decide +kernel) (by decide +kernel)
theorem tw_369 : Cond.instanceMethod yX8_readMeasures ∈ TB := tb_i 369 (by decide +kernel) (by decide +kernel)
theorem tw_370 : Cond.code yX8_readMeasures cX8_readMeasures 2 (some Jvm.ClassFile.FieldType.boolean) ∈ TB := tb_i 370 (by decide +kernel) (by decide +kernel)
theorem tw_371 : Cond.methodLink RX8 53 yX8_stepToNumber ∈ TB := tb_i 371 (by decide +kernel) (by decide +kernel)
theorem tw_373 : Cond.instanceMethod yX8_stepToNumber ∈ TB := tb_i 373 (by decide +kernel) (by decide +kernel)
theorem tw_374 : Cond.code yX8_stepToNumber cX8_stepToNumber 3 (some Jvm.ClassFile.FieldType.boolean) ∈ TB := tb_i 374 (by decide +kernel) (by decide +kernel)
theorem tw_375 : Cond.methodLink RX8 44 yX8_readKernel ∈ TB := tb_i 375 (by decide +kernel) (by decide +kernel)
theorem tw_377 : Cond.instanceMethod yX8_readKernel ∈ TB := tb_i 377 (by decide +kernel) (by decide +kernel)
theorem tw_378 : Cond.code yX8_readKernel cX8_readKernel 2 (some Jvm.ClassFile.FieldType.boolean) ∈ TB := tb_i 378 (by decide +kernel) (by decide +kernel)
theorem tw_379 : Cond.methodLink RX8 47 yX8_readStretch ∈ TB := tb_i 379 (by decide +kernel) (by decide +kernel)
theorem tw_381 : Cond.instanceMethod yX8_readStretch ∈ TB := tb_i 381 (by decide +kernel) (by decide +kernel)
theorem tw_382 : Cond.code yX8_readStretch cX8_readStretch 2 (some Jvm.ClassFile.FieldType.boolean) ∈ TB := tb_i 382 (by decide +kernel) (by decide +kernel)
theorem tw_383 : Cond.methodLink RX8 50 yX8_readCell ∈ TB := tb_i 383 (by decide +kernel) (by decide +kernel)
theorem tw_385 : Cond.instanceMethod yX8_readCell ∈ TB := tb_i 385 (by decide +kernel) (by decide +kernel)
theorem tw_386 : Cond.code yX8_readCell cX8_readCell 5 (some Jvm.ClassFile.FieldType.boolean) ∈ TB := tb_i 386 (by decide +kernel) (by decide +kernel)
theorem tw_387 : Cond.methodLink RX8 81 yX5_numberOf ∈ TB := tb_i 387 (by decide +kernel) (by decide +kernel)
theorem tw_388 : Cond.instanceMethod yX5_numberOf ∈ TB := tb_i 388 (by decide +kernel) (by decide +kernel)
theorem tw_389 : Cond.selects RX5 yX5_numberOf yX5_numberOf ∈ TB := tb_i 389 (by decide +kernel) (by decide +kernel)
theorem tw_390 : Cond.code yX5_numberOf cX5_numberOf 3 (some Jvm.ClassFile.FieldType.int) ∈ TB := tb_i 390 (by decide +kernel) (by decide +kernel)
theorem tw_392 : Cond.static yX9_has ∈ TB := tb_i 392 (by decide +kernel) (by decide +kernel)
theorem tw_393 : Cond.code yX9_has cX9_has 3 (some Jvm.ClassFile.FieldType.boolean) ∈ TB := tb_i 393 (by decide +kernel) (by decide +kernel)
theorem tw_394 : Cond.methodLink RX9 93 yX5_become ∈ TB := tb_i 394 (by decide +kernel) (by decide +kernel)
theorem tw_395 : Cond.instanceMethod yX5_become ∈ TB := tb_i 395 (by decide +kernel) (by decide +kernel)
theorem tw_396 : Cond.selects RX5 yX5_become yX5_become ∈ TB := tb_i 396 (by decide +kernel) (by decide +kernel)
theorem tw_397 : Cond.code yX5_become cX5_become 2 none ∈ TB := tb_i 397 (by decide +kernel) (by decide +kernel)
theorem tw_398 : Cond.methodLink RX9 96 yX0_lay ∈ TB := tb_i 398 (by decide +kernel) (by decide +kernel)
theorem tw_399 : Cond.methodLink RX9 102 yX1_begin ∈ TB := tb_i 399 (by decide +kernel) (by decide +kernel)
theorem tw_400 : Cond.instanceMethod yX1_begin ∈ TB := tb_i 400 (by decide +kernel) (by decide +kernel)
theorem tw_401 : Cond.selects RX1 yX1_begin yX1_begin ∈ TB := tb_i 401 (by decide +kernel) (by decide +kernel)
theorem tw_402 : Cond.code yX1_begin cX1_begin 3 none ∈ TB := tb_i 402 (by decide +kernel) (by decide +kernel)
theorem tw_403 : Cond.methodLink RX1 19 yJ7_fill_53178 ∈ TB := tb_i 403 (by decide +kernel) (by decide +kernel)
theorem tw_404 : Cond.static yJ7_fill_53178 ∈ TB := tb_i 404 (by decide +kernel) (by decide +kernel)
theorem tw_405 : Cond.code yJ7_fill_53178 cJ7_fill_53178 4 none ∈ TB := tb_i 405 (by decide +kernel) (by decide +kernel)
theorem tw_406 : Cond.methodLink RX1 29 yX1_become ∈ TB := tb_i 406 (by decide +kernel) (by decide +kernel)
theorem tw_407 : Cond.instanceMethod yX1_become ∈ TB := tb_i 407 (by decide +kernel) (by decide +kernel)
theorem tw_408 : Cond.selects RX1 yX1_become yX1_become ∈ TB := tb_i 408 (by decide +kernel) (by decide +kernel)
theorem tw_409 : Cond.code yX1_become cX1_become 6 none ∈ TB := tb_i 409 (by decide +kernel) (by decide +kernel)
theorem tw_411 : Cond.methodLink RX1 43 yX1_flip ∈ TB := tb_i 411 (by decide +kernel) (by decide +kernel)
theorem tw_412 : Cond.instanceMethod yX1_flip ∈ TB := tb_i 412 (by decide +kernel) (by decide +kernel)
theorem tw_413 : Cond.selects RX1 yX1_flip yX1_flip ∈ TB := tb_i 413 (by decide +kernel) (by decide +kernel)
theorem tw_414 : Cond.code yX1_flip cX1_flip 4 none ∈ TB := tb_i 414 (by decide +kernel) (by decide +kernel)
theorem tw_415 : Cond.methodLink RX1 47 yX0_isCell ∈ TB := tb_i 415 (by decide +kernel) (by decide +kernel)
theorem tw_416 : Cond.instanceMethod yX0_isCell ∈ TB := tb_i 416 (by decide +kernel) (by decide +kernel)
theorem tw_417 : Cond.selects RX0 yX0_isCell yX0_isCell ∈ TB := tb_i 417 (by decide +kernel) (by decide +kernel)
theorem tw_418 : Cond.code yX0_isCell cX0_isCell 2 (some Jvm.ClassFile.FieldType.boolean) ∈ TB := tb_i 418 (by decide +kernel) (by decide +kernel)
theorem tw_419 : Cond.methodLink RX1 51 yX0_weight ∈ TB := tb_i 419 (by decide +kernel) (by decide +kernel)
theorem tw_420 : Cond.instanceMethod yX0_weight ∈ TB := tb_i 420 (by decide +kernel) (by decide +kernel)
theorem tw_421 : Cond.selects RX0 yX0_weight yX0_weight ∈ TB := tb_i 421 (by decide +kernel) (by decide +kernel)
theorem tw_422 : Cond.code yX0_weight cX0_weight 3 (some Jvm.ClassFile.FieldType.int) ∈ TB := tb_i 422 (by decide +kernel) (by decide +kernel)
theorem tw_423 : Cond.methodLink RX0 69 yX0_isCell ∈ TB := tb_i 423 (by decide +kernel) (by decide +kernel)
theorem tw_424 : Cond.methodLink RX0 73 Lib.Math.abs.name ∈ TB := tb_i 424 (by decide +kernel) (by decide +kernel)
theorem tw_425 : Cond.static Lib.Math.abs.name ∈ TB := tb_i 425 (by decide +kernel) (by decide +kernel)
theorem tw_426 : Cond.code Lib.Math.abs.name Lib.Math.abs.code 1 (some Jvm.ClassFile.FieldType.int) ∈ TB := tb_i 426 (by decide +kernel) (by decide +kernel)
theorem tw_427 : Cond.methodLink RX9 106 yX6_drop ∈ TB := tb_i 427 (by decide +kernel) (by decide +kernel)
theorem tw_428 : Cond.instanceMethod yX6_drop ∈ TB := tb_i 428 (by decide +kernel) (by decide +kernel)
theorem tw_429 : Cond.selects RX6 yX6_drop yX6_drop ∈ TB := tb_i 429 (by decide +kernel) (by decide +kernel)
theorem tw_430 : Cond.code yX6_drop cX6_drop 1 none ∈ TB := tb_i 430 (by decide +kernel) (by decide +kernel)
theorem tw_431 : Cond.methodLink RX9 109 yX4_become ∈ TB := tb_i 431 (by decide +kernel) (by decide +kernel)
theorem tw_432 : Cond.instanceMethod yX4_become ∈ TB := tb_i 432 (by decide +kernel) (by decide +kernel)
theorem tw_433 : Cond.selects RX4 yX4_become yX4_become ∈ TB := tb_i 433 (by decide +kernel) (by decide +kernel)
theorem tw_434 : Cond.code yX4_become cX4_become 4 none ∈ TB := tb_i 434 (by decide +kernel) (by decide +kernel)
theorem tw_435 : Cond.methodLink RX9 116 yX2_drop ∈ TB := tb_i 435 (by decide +kernel) (by decide +kernel)
theorem tw_436 : Cond.instanceMethod yX2_drop ∈ TB := tb_i 436 (by decide +kernel) (by decide +kernel)
theorem tw_437 : Cond.selects RX2 yX2_drop yX2_drop ∈ TB := tb_i 437 (by decide +kernel) (by decide +kernel)
theorem tw_438 : Cond.code yX2_drop cX2_drop 2 none ∈ TB := tb_i 438 (by decide +kernel) (by decide +kernel)
theorem tw_439 : Cond.methodLink RL 27 yX9_cell ∈ TB := tb_i 439 (by decide +kernel) (by decide +kernel)
theorem tw_440 : Cond.instanceMethod yX9_cell ∈ TB := tb_i 440 (by decide +kernel) (by decide +kernel)
theorem tw_441 : Cond.selects RX9 yX9_cell yX9_cell ∈ TB := tb_i 441 (by decide +kernel) (by decide +kernel)
theorem tw_442 : Cond.code yX9_cell cX9_cell 4 (some Jvm.ClassFile.FieldType.int) ∈ TB := tb_i 442 (by decide +kernel) (by decide +kernel)
theorem tw_443 : Cond.methodLink RX9 117 yX5_numberOf ∈ TB := tb_i 443 (by decide +kernel) (by decide +kernel)
theorem tw_444 : Cond.methodLink RX9 124 yX9_has ∈ TB := tb_i 444 (by decide +kernel) (by decide +kernel)
theorem tw_445 : Cond.methodLink RL 32 yX9_near ∈ TB := tb_i 445 (by decide +kernel) (by decide +kernel)
theorem tw_446 : Cond.instanceMethod yX9_near ∈ TB := tb_i 446 (by decide +kernel) (by decide +kernel)
theorem tw_447 : Cond.selects RX9 yX9_near yX9_near ∈ TB := tb_i 447 (by decide +kernel) (by decide +kernel)
theorem tw_448 : Cond.code yX9_near cX9_near 4 (some Jvm.ClassFile.FieldType.int) ∈ TB := tb_i 448 (by decide +kernel) (by decide +kernel)
theorem tw_449 : Cond.methodLink RX9 131 yX0_isCell ∈ TB := tb_i 449 (by decide +kernel) (by decide +kernel)
theorem tw_450 : Cond.methodLink RX9 134 yX0_distance ∈ TB := tb_i 450 (by decide +kernel) (by decide +kernel)
theorem tw_451 : Cond.instanceMethod yX0_distance ∈ TB := tb_i 451 (by decide +kernel) (by decide +kernel)
theorem tw_452 : Cond.selects RX0 yX0_distance yX0_distance ∈ TB := tb_i 452 (by decide +kernel) (by decide +kernel)
theorem tw_453 : Cond.code yX0_distance cX0_distance 3 (some Jvm.ClassFile.FieldType.int) ∈ TB := tb_i 453 (by decide +kernel) (by decide +kernel)
theorem tw_454 : Cond.methodLink RX9 137 yX0_weight ∈ TB := tb_i 454 (by decide +kernel) (by decide +kernel)
theorem tw_455 : Cond.methodLink RL 37 yX9_flips ∈ TB := tb_i 455 (by decide +kernel) (by decide +kernel)
theorem tw_456 : Cond.instanceMethod yX9_flips ∈ TB := tb_i 456 (by decide +kernel) (by decide +kernel)
theorem tw_457 : Cond.selects RX9 yX9_flips yX9_flips ∈ TB := tb_i 457 (by decide +kernel) (by decide +kernel)
theorem tw_458 : Cond.code yX9_flips cX9_flips 4 (some Jvm.ClassFile.FieldType.int) ∈ TB := tb_i 458 (by decide +kernel) (by decide +kernel)
theorem tw_459 : Cond.methodLink RX9 140 yX3_remember ∈ TB := tb_i 459 (by decide +kernel) (by decide +kernel)
theorem tw_460 : Cond.instanceMethod yX3_remember ∈ TB := tb_i 460 (by decide +kernel) (by decide +kernel)
theorem tw_461 : Cond.selects RX3 yX3_remember yX3_remember ∈ TB := tb_i 461 (by decide +kernel) (by decide +kernel)
theorem tw_462 : Cond.code yX3_remember cX3_remember 3 none ∈ TB := tb_i 462 (by decide +kernel) (by decide +kernel)
theorem tw_463 : Cond.methodLink RX3 17 arraycopyName ∈ TB := tb_i 463 (by decide +kernel) (by decide +kernel)
theorem tw_464 : Cond.static arraycopyName ∈ TB := tb_i 464 (by decide +kernel) (by decide +kernel)
theorem tw_465 : Cond.native arraycopyName ∈ TB := tb_i 465 (by decide +kernel) (by decide +kernel)
theorem tw_466 : Cond.methodLink RX9 143 yX1_flip ∈ TB := tb_i 466 (by decide +kernel) (by decide +kernel)
theorem tw_467 : Cond.methodLink RL 41 yX9_rests ∈ TB := tb_i 467 (by decide +kernel) (by decide +kernel)
theorem tw_468 : Cond.instanceMethod yX9_rests ∈ TB := tb_i 468 (by decide +kernel) (by decide +kernel)
theorem tw_469 : Cond.selects RX9 yX9_rests yX9_rests ∈ TB := tb_i 469 (by decide +kernel) (by decide +kernel)
theorem tw_470 : Cond.code yX9_rests cX9_rests 3 (some Jvm.ClassFile.FieldType.int) ∈ TB := tb_i 470 (by decide +kernel) (by decide +kernel)
theorem tw_471 : Cond.methodLink RX9 147 yX9_noDots ∈ TB := tb_i 471 (by decide +kernel) (by decide +kernel)
theorem tw_473 : Cond.instanceMethod yX9_noDots ∈ TB := tb_i 473 (by decide +kernel) (by decide +kernel)
theorem tw_474 : Cond.code yX9_noDots cX9_noDots 1 (some Jvm.ClassFile.FieldType.boolean) ∈ TB := tb_i 474 (by decide +kernel) (by decide +kernel)
theorem tw_475 : Cond.methodLink RX9 151 yX9_restStep ∈ TB := tb_i 475 (by decide +kernel) (by decide +kernel)
theorem tw_477 : Cond.instanceMethod yX9_restStep ∈ TB := tb_i 477 (by decide +kernel) (by decide +kernel)
theorem tw_478 : Cond.code yX9_restStep cX9_restStep 3 (some Jvm.ClassFile.FieldType.boolean) ∈ TB := tb_i 478 (by decide +kernel) (by decide +kernel)
theorem tw_479 : Cond.methodLink RX9 171 yX1_most ∈ TB := tb_i 479 (by decide +kernel) (by decide +kernel)
theorem tw_480 : Cond.instanceMethod yX1_most ∈ TB := tb_i 480 (by decide +kernel) (by decide +kernel)
theorem tw_481 : Cond.selects RX1 yX1_most yX1_most ∈ TB := tb_i 481 (by decide +kernel) (by decide +kernel)
theorem tw_482 : Cond.code yX1_most cX1_most 3 (some Jvm.ClassFile.FieldType.int) ∈ TB := tb_i 482 (by decide +kernel) (by decide +kernel)
theorem tw_483 : Cond.methodLink RX1 61 yX1_farthest ∈ TB := tb_i 483 (by decide +kernel) (by decide +kernel)
theorem tw_485 : Cond.instanceMethod yX1_farthest ∈ TB := tb_i 485 (by decide +kernel) (by decide +kernel)
theorem tw_486 : Cond.code yX1_farthest cX1_farthest 8 (some Jvm.ClassFile.FieldType.int) ∈ TB := tb_i 486 (by decide +kernel) (by decide +kernel)
theorem tw_487 : Cond.methodLink RX9 154 yX9_emptyCells ∈ TB := tb_i 487 (by decide +kernel) (by decide +kernel)
theorem tw_489 : Cond.instanceMethod yX9_emptyCells ∈ TB := tb_i 489 (by decide +kernel) (by decide +kernel)
theorem tw_490 : Cond.code yX9_emptyCells cX9_emptyCells 1 (some Jvm.ClassFile.FieldType.long) ∈ TB := tb_i 490 (by decide +kernel) (by decide +kernel)
theorem tw_491 : Cond.constantLong RX9 287 (-1) ∈ TB := tb_i 491 (by decide +kernel) (by decide +kernel)
theorem tw_492 : Cond.methodLink RX9 175 yX1_least ∈ TB := tb_i 492 (by decide +kernel) (by decide +kernel)
theorem tw_493 : Cond.instanceMethod yX1_least ∈ TB := tb_i 493 (by decide +kernel) (by decide +kernel)
theorem tw_494 : Cond.selects RX1 yX1_least yX1_least ∈ TB := tb_i 494 (by decide +kernel) (by decide +kernel)
theorem tw_495 : Cond.code yX1_least cX1_least 3 (some Jvm.ClassFile.FieldType.int) ∈ TB := tb_i 495 (by decide +kernel) (by decide +kernel)
theorem tw_496 : Cond.methodLink RL 45 yX9_moves ∈ TB := tb_i 496 (by decide +kernel) (by decide +kernel)
theorem tw_497 : Cond.instanceMethod yX9_moves ∈ TB := tb_i 497 (by decide +kernel) (by decide +kernel)
theorem tw_498 : Cond.selects RX9 yX9_moves yX9_moves ∈ TB := tb_i 498 (by decide +kernel) (by decide +kernel)
theorem tw_499 : Cond.code yX9_moves cX9_moves 4 (some Jvm.ClassFile.FieldType.int) ∈ TB := tb_i 499 (by decide +kernel) (by decide +kernel)
theorem tw_500 : Cond.methodLink RX9 158 yX1_pairs ∈ TB := tb_i 500 (by decide +kernel) (by decide +kernel)
theorem tw_501 : Cond.instanceMethod yX1_pairs ∈ TB := tb_i 501 (by decide +kernel) (by decide +kernel)
theorem tw_502 : Cond.selects RX1 yX1_pairs yX1_pairs ∈ TB := tb_i 502 (by decide +kernel) (by decide +kernel)
theorem tw_503 : Cond.code yX1_pairs cX1_pairs 3 (some Jvm.ClassFile.FieldType.int) ∈ TB := tb_i 503 (by decide +kernel) (by decide +kernel)
theorem tw_504 : Cond.methodLink RL 49 yX9_undo ∈ TB := tb_i 504 (by decide +kernel) (by decide +kernel)
theorem tw_505 : Cond.instanceMethod yX9_undo ∈ TB := tb_i 505 (by decide +kernel) (by decide +kernel)
theorem tw_506 : Cond.selects RX9 yX9_undo yX9_undo ∈ TB := tb_i 506 (by decide +kernel) (by decide +kernel)
theorem tw_507 : Cond.code yX9_undo cX9_undo 1 (some Jvm.ClassFile.FieldType.int) ∈ TB := tb_i 507 (by decide +kernel) (by decide +kernel)
theorem tw_508 : Cond.methodLink RX9 162 yX3_latest ∈ TB := tb_i 508 (by decide +kernel) (by decide +kernel)
theorem tw_509 : Cond.instanceMethod yX3_latest ∈ TB := tb_i 509 (by decide +kernel) (by decide +kernel)
theorem tw_510 : Cond.selects RX3 yX3_latest yX3_latest ∈ TB := tb_i 510 (by decide +kernel) (by decide +kernel)
theorem tw_511 : Cond.code yX3_latest cX3_latest 1 (some Jvm.ClassFile.FieldType.long) ∈ TB := tb_i 511 (by decide +kernel) (by decide +kernel)
theorem tw_512 : Cond.methodLink RX9 165 yX1_become ∈ TB := tb_i 512 (by decide +kernel) (by decide +kernel)
theorem tw_513 : Cond.methodLink RL 53 yX9_held ∈ TB := tb_i 513 (by decide +kernel) (by decide +kernel)
theorem tw_514 : Cond.instanceMethod yX9_held ∈ TB := tb_i 514 (by decide +kernel) (by decide +kernel)
theorem tw_515 : Cond.selects RX9 yX9_held yX9_held ∈ TB := tb_i 515 (by decide +kernel) (by decide +kernel)
theorem tw_516 : Cond.code yX9_held cX9_held 4 (some Jvm.ClassFile.FieldType.int) ∈ TB := tb_i 516 (by decide +kernel) (by decide +kernel)
theorem tw_517 : Cond.methodLink RX9 167 yX1_sumAt ∈ TB := tb_i 517 (by decide +kernel) (by decide +kernel)
theorem tw_518 : Cond.instanceMethod yX1_sumAt ∈ TB := tb_i 518 (by decide +kernel) (by decide +kernel)
theorem tw_519 : Cond.selects RX1 yX1_sumAt yX1_sumAt ∈ TB := tb_i 519 (by decide +kernel) (by decide +kernel)
theorem tw_520 : Cond.code yX1_sumAt cX1_sumAt 2 (some Jvm.ClassFile.FieldType.int) ∈ TB := tb_i 520 (by decide +kernel) (by decide +kernel)
theorem tw_521 : Cond.methodLink RL 57 yX9_extreme ∈ TB := tb_i 521 (by decide +kernel) (by decide +kernel)
theorem tw_522 : Cond.instanceMethod yX9_extreme ∈ TB := tb_i 522 (by decide +kernel) (by decide +kernel)
theorem tw_523 : Cond.selects RX9 yX9_extreme yX9_extreme ∈ TB := tb_i 523 (by decide +kernel) (by decide +kernel)
theorem tw_524 : Cond.code yX9_extreme cX9_extreme 3 (some Jvm.ClassFile.FieldType.int) ∈ TB := tb_i 524 (by decide +kernel) (by decide +kernel)
theorem tw_525 : Cond.methodLink RL 61 yX9_energy ∈ TB := tb_i 525 (by decide +kernel) (by decide +kernel)
theorem tw_526 : Cond.instanceMethod yX9_energy ∈ TB := tb_i 526 (by decide +kernel) (by decide +kernel)
theorem tw_527 : Cond.selects RX9 yX9_energy yX9_energy ∈ TB := tb_i 527 (by decide +kernel) (by decide +kernel)
theorem tw_528 : Cond.code yX9_energy cX9_energy 1 (some Jvm.ClassFile.FieldType.int) ∈ TB := tb_i 528 (by decide +kernel) (by decide +kernel)
theorem tw_529 : Cond.methodLink RL 65 yX9_better ∈ TB := tb_i 529 (by decide +kernel) (by decide +kernel)
theorem tw_530 : Cond.instanceMethod yX9_better ∈ TB := tb_i 530 (by decide +kernel) (by decide +kernel)
theorem tw_531 : Cond.selects RX9 yX9_better yX9_better ∈ TB := tb_i 531 (by decide +kernel) (by decide +kernel)
theorem tw_532 : Cond.code yX9_better cX9_better 5 (some Jvm.ClassFile.FieldType.int) ∈ TB := tb_i 532 (by decide +kernel) (by decide +kernel)
theorem tw_533 : Cond.methodLink RX9 178 yX9_bestMove ∈ TB := tb_i 533 (by decide +kernel) (by decide +kernel)
theorem tw_535 : Cond.instanceMethod yX9_bestMove ∈ TB := tb_i 535 (by decide +kernel) (by decide +kernel)
theorem tw_536 : Cond.code yX9_bestMove cX9_bestMove 8 (some Jvm.ClassFile.FieldType.int) ∈ TB := tb_i 536 (by decide +kernel) (by decide +kernel)
theorem tw_537 : Cond.methodLink RX9 181 yX9_gain ∈ TB := tb_i 537 (by decide +kernel) (by decide +kernel)
theorem tw_539 : Cond.instanceMethod yX9_gain ∈ TB := tb_i 539 (by decide +kernel) (by decide +kernel)
theorem tw_540 : Cond.code yX9_gain cX9_gain 5 (some Jvm.ClassFile.FieldType.int) ∈ TB := tb_i 540 (by decide +kernel) (by decide +kernel)
theorem tw_541 : Cond.methodLink RL 69 yX9_shifts ∈ TB := tb_i 541 (by decide +kernel) (by decide +kernel)
theorem tw_542 : Cond.instanceMethod yX9_shifts ∈ TB := tb_i 542 (by decide +kernel) (by decide +kernel)
theorem tw_543 : Cond.selects RX9 yX9_shifts yX9_shifts ∈ TB := tb_i 543 (by decide +kernel) (by decide +kernel)
theorem tw_544 : Cond.code yX9_shifts cX9_shifts 4 (some Jvm.ClassFile.FieldType.int) ∈ TB := tb_i 544 (by decide +kernel) (by decide +kernel)
theorem tw_545 : Cond.methodLink RX9 190 yX0_lieOnThemselves ∈ TB := tb_i 545 (by decide +kernel) (by decide +kernel)
theorem tw_546 : Cond.instanceMethod yX0_lieOnThemselves ∈ TB := tb_i 546 (by decide +kernel) (by decide +kernel)
theorem tw_547 : Cond.selects RX0 yX0_lieOnThemselves yX0_lieOnThemselves ∈ TB := tb_i 547 (by decide +kernel) (by decide +kernel)
theorem tw_548 : Cond.code yX0_lieOnThemselves cX0_lieOnThemselves 8 (some Jvm.ClassFile.FieldType.boolean) ∈ TB := tb_i 548 (by decide +kernel) (by decide +kernel)
theorem tw_549 : Cond.methodLink RX0 78 yX0_wrapped ∈ TB := tb_i 549 (by decide +kernel) (by decide +kernel)
theorem tw_550 : Cond.static yX0_wrapped ∈ TB := tb_i 550 (by decide +kernel) (by decide +kernel)
theorem tw_551 : Cond.code yX0_wrapped cX0_wrapped 2 (some Jvm.ClassFile.FieldType.int) ∈ TB := tb_i 551 (by decide +kernel) (by decide +kernel)
theorem tw_553 : Cond.methodLink RX0 85 yX5_numberOf ∈ TB := tb_i 553 (by decide +kernel) (by decide +kernel)
theorem tw_554 : Cond.methodLink RL 73 yX9_rank ∈ TB := tb_i 554 (by decide +kernel) (by decide +kernel)
theorem tw_555 : Cond.instanceMethod yX9_rank ∈ TB := tb_i 555 (by decide +kernel) (by decide +kernel)
theorem tw_556 : Cond.selects RX9 yX9_rank yX9_rank ∈ TB := tb_i 556 (by decide +kernel) (by decide +kernel)
theorem tw_557 : Cond.code yX9_rank cX9_rank 4 (some Jvm.ClassFile.FieldType.int) ∈ TB := tb_i 557 (by decide +kernel) (by decide +kernel)
theorem tw_558 : Cond.methodLink RX9 194 yX9_numberWithRanks ∈ TB := tb_i 558 (by decide +kernel) (by decide +kernel)
theorem tw_560 : Cond.instanceMethod yX9_numberWithRanks ∈ TB := tb_i 560 (by decide +kernel) (by decide +kernel)
theorem tw_561 : Cond.code yX9_numberWithRanks cX9_numberWithRanks 4 (some Jvm.ClassFile.FieldType.int) ∈ TB := tb_i 561 (by decide +kernel) (by decide +kernel)
theorem tw_562 : Cond.methodLink RX9 197 yX9_ranksNow ∈ TB := tb_i 562 (by decide +kernel) (by decide +kernel)
theorem tw_564 : Cond.instanceMethod yX9_ranksNow ∈ TB := tb_i 564 (by decide +kernel) (by decide +kernel)
theorem tw_565 : Cond.code yX9_ranksNow cX9_ranksNow 1 (some (Jvm.ClassFile.FieldType.object "DotThresholds$Ranks")) ∈ TB := tb_i 565 (by decide +kernel) (by decide +kernel)
theorem tw_566 : Cond.methodLink RX9 289 yX6_standFor ∈ TB := tb_i 566 (by decide +kernel) (by decide +kernel)
theorem tw_567 : Cond.instanceMethod yX6_standFor ∈ TB := tb_i 567 (by decide +kernel) (by decide +kernel)
theorem tw_568 : Cond.selects RX6 yX6_standFor yX6_standFor ∈ TB := tb_i 568 (by decide +kernel) (by decide +kernel)
theorem tw_569 : Cond.code yX6_standFor cX6_standFor 3 none ∈ TB := tb_i 569 (by decide +kernel) (by decide +kernel)
theorem tw_570 : Cond.methodLink RX6 35 yX1_begin ∈ TB := tb_i 570 (by decide +kernel) (by decide +kernel)
theorem tw_571 : Cond.methodLink RX6 39 yX6_thin ∈ TB := tb_i 571 (by decide +kernel) (by decide +kernel)
theorem tw_573 : Cond.instanceMethod yX6_thin ∈ TB := tb_i 573 (by decide +kernel) (by decide +kernel)
theorem tw_574 : Cond.code yX6_thin cX6_thin 2 none ∈ TB := tb_i 574 (by decide +kernel) (by decide +kernel)
theorem tw_575 : Cond.methodLink RX6 58 yX1_size ∈ TB := tb_i 575 (by decide +kernel) (by decide +kernel)
theorem tw_576 : Cond.instanceMethod yX1_size ∈ TB := tb_i 576 (by decide +kernel) (by decide +kernel)
theorem tw_577 : Cond.selects RX1 yX1_size yX1_size ∈ TB := tb_i 577 (by decide +kernel) (by decide +kernel)
theorem tw_578 : Cond.code yX1_size cX1_size 1 (some Jvm.ClassFile.FieldType.int) ∈ TB := tb_i 578 (by decide +kernel) (by decide +kernel)
theorem tw_579 : Cond.methodLink RX1 55 yJ13_bitCount_95d88 ∈ TB := tb_i 579 (by decide +kernel) (by decide +kernel)
theorem tw_580 : Cond.methodLink RX6 66 yX1_most ∈ TB := tb_i 580 (by decide +kernel) (by decide +kernel)
theorem tw_581 : Cond.methodLink RX6 70 yX6_give ∈ TB := tb_i 581 (by decide +kernel) (by decide +kernel)
theorem tw_583 : Cond.instanceMethod yX6_give ∈ TB := tb_i 583 (by decide +kernel) (by decide +kernel)
theorem tw_584 : Cond.code yX6_give cX6_give 3 none ∈ TB := tb_i 584 (by decide +kernel) (by decide +kernel)
theorem tw_585 : Cond.methodLink RX6 89 yX0_isCell ∈ TB := tb_i 585 (by decide +kernel) (by decide +kernel)
theorem tw_586 : Cond.methodLink RX6 93 yX1_flip ∈ TB := tb_i 586 (by decide +kernel) (by decide +kernel)
theorem tw_587 : Cond.methodLink RX6 42 yX6_fill ∈ TB := tb_i 587 (by decide +kernel) (by decide +kernel)
theorem tw_589 : Cond.instanceMethod yX6_fill ∈ TB := tb_i 589 (by decide +kernel) (by decide +kernel)
theorem tw_590 : Cond.code yX6_fill cX6_fill 2 none ∈ TB := tb_i 590 (by decide +kernel) (by decide +kernel)
theorem tw_591 : Cond.methodLink RX6 77 Lib.Math.max.name ∈ TB := tb_i 591 (by decide +kernel) (by decide +kernel)
theorem tw_592 : Cond.constantLong RX6 53 (-1) ∈ TB := tb_i 592 (by decide +kernel) (by decide +kernel)
theorem tw_593 : Cond.methodLink RX6 86 yX1_least ∈ TB := tb_i 593 (by decide +kernel) (by decide +kernel)
theorem tw_594 : Cond.methodLink RX6 55 yX6_turn ∈ TB := tb_i 594 (by decide +kernel) (by decide +kernel)
theorem tw_596 : Cond.instanceMethod yX6_turn ∈ TB := tb_i 596 (by decide +kernel) (by decide +kernel)
theorem tw_597 : Cond.code yX6_turn cX6_turn 2 none ∈ TB := tb_i 597 (by decide +kernel) (by decide +kernel)
theorem tw_598 : Cond.methodLink RX9 201 yX6_rankOf ∈ TB := tb_i 598 (by decide +kernel) (by decide +kernel)
theorem tw_599 : Cond.instanceMethod yX6_rankOf ∈ TB := tb_i 599 (by decide +kernel) (by decide +kernel)
theorem tw_600 : Cond.selects RX6 yX6_rankOf yX6_rankOf ∈ TB := tb_i 600 (by decide +kernel) (by decide +kernel)
theorem tw_601 : Cond.code yX6_rankOf cX6_rankOf 2 (some Jvm.ClassFile.FieldType.int) ∈ TB := tb_i 601 (by decide +kernel) (by decide +kernel)
theorem tw_602 : Cond.methodLink RL 77 yX9_ranked ∈ TB := tb_i 602 (by decide +kernel) (by decide +kernel)
theorem tw_603 : Cond.instanceMethod yX9_ranked ∈ TB := tb_i 603 (by decide +kernel) (by decide +kernel)
theorem tw_604 : Cond.selects RX9 yX9_ranked yX9_ranked ∈ TB := tb_i 604 (by decide +kernel) (by decide +kernel)
theorem tw_605 : Cond.code yX9_ranked cX9_ranked 2 (some Jvm.ClassFile.FieldType.int) ∈ TB := tb_i 605 (by decide +kernel) (by decide +kernel)
theorem tw_606 : Cond.methodLink RX9 207 yX6_cellOf ∈ TB := tb_i 606 (by decide +kernel) (by decide +kernel)
theorem tw_607 : Cond.instanceMethod yX6_cellOf ∈ TB := tb_i 607 (by decide +kernel) (by decide +kernel)
theorem tw_608 : Cond.selects RX6 yX6_cellOf yX6_cellOf ∈ TB := tb_i 608 (by decide +kernel) (by decide +kernel)
theorem tw_609 : Cond.code yX6_cellOf cX6_cellOf 2 (some Jvm.ClassFile.FieldType.int) ∈ TB := tb_i 609 (by decide +kernel) (by decide +kernel)
theorem tw_610 : Cond.methodLink RL 81 yX9_stage ∈ TB := tb_i 610 (by decide +kernel) (by decide +kernel)
theorem tw_611 : Cond.instanceMethod yX9_stage ∈ TB := tb_i 611 (by decide +kernel) (by decide +kernel)
theorem tw_612 : Cond.selects RX9 yX9_stage yX9_stage ∈ TB := tb_i 612 (by decide +kernel) (by decide +kernel)
theorem tw_613 : Cond.code yX9_stage cX9_stage 4 (some Jvm.ClassFile.FieldType.int) ∈ TB := tb_i 613 (by decide +kernel) (by decide +kernel)
theorem tw_614 : Cond.methodLink RX9 210 yX6_stageOf ∈ TB := tb_i 614 (by decide +kernel) (by decide +kernel)
theorem tw_615 : Cond.instanceMethod yX6_stageOf ∈ TB := tb_i 615 (by decide +kernel) (by decide +kernel)
theorem tw_616 : Cond.selects RX6 yX6_stageOf yX6_stageOf ∈ TB := tb_i 616 (by decide +kernel) (by decide +kernel)
theorem tw_617 : Cond.code yX6_stageOf cX6_stageOf 3 (some Jvm.ClassFile.FieldType.int) ∈ TB := tb_i 617 (by decide +kernel) (by decide +kernel)
theorem tw_618 : Cond.methodLink RX6 97 yX6_rankOf ∈ TB := tb_i 618 (by decide +kernel) (by decide +kernel)
theorem tw_619 : Cond.methodLink RL 85 yX9_shade ∈ TB := tb_i 619 (by decide +kernel) (by decide +kernel)
theorem tw_620 : Cond.instanceMethod yX9_shade ∈ TB := tb_i 620 (by decide +kernel) (by decide +kernel)
theorem tw_621 : Cond.selects RX9 yX9_shade yX9_shade ∈ TB := tb_i 621 (by decide +kernel) (by decide +kernel)
theorem tw_622 : Cond.code yX9_shade cX9_shade 3 (some Jvm.ClassFile.FieldType.int) ∈ TB := tb_i 622 (by decide +kernel) (by decide +kernel)
theorem tw_623 : Cond.methodLink RX9 213 yX6_gapOf ∈ TB := tb_i 623 (by decide +kernel) (by decide +kernel)
theorem tw_624 : Cond.instanceMethod yX6_gapOf ∈ TB := tb_i 624 (by decide +kernel) (by decide +kernel)
theorem tw_625 : Cond.selects RX6 yX6_gapOf yX6_gapOf ∈ TB := tb_i 625 (by decide +kernel) (by decide +kernel)
theorem tw_626 : Cond.code yX6_gapOf cX6_gapOf 5 (some Jvm.ClassFile.FieldType.int) ∈ TB := tb_i 626 (by decide +kernel) (by decide +kernel)
theorem tw_627 : Cond.methodLink RX6 101 yX6_cellOf ∈ TB := tb_i 627 (by decide +kernel) (by decide +kernel)
theorem tw_628 : Cond.methodLink RX6 104 yX6_nearestOf ∈ TB := tb_i 628 (by decide +kernel) (by decide +kernel)
theorem tw_630 : Cond.instanceMethod yX6_nearestOf ∈ TB := tb_i 630 (by decide +kernel) (by decide +kernel)
theorem tw_631 : Cond.code yX6_nearestOf cX6_nearestOf 5 (some Jvm.ClassFile.FieldType.int) ∈ TB := tb_i 631 (by decide +kernel) (by decide +kernel)
theorem tw_632 : Cond.methodLink RX6 114 yX0_distance ∈ TB := tb_i 632 (by decide +kernel) (by decide +kernel)
theorem tw_633 : Cond.methodLink RX6 117 Lib.Math.min.name ∈ TB := tb_i 633 (by decide +kernel) (by decide +kernel)
theorem tw_634 : Cond.methodLink RX9 216 yX6_holeOf ∈ TB := tb_i 634 (by decide +kernel) (by decide +kernel)
theorem tw_635 : Cond.instanceMethod yX6_holeOf ∈ TB := tb_i 635 (by decide +kernel) (by decide +kernel)
theorem tw_636 : Cond.selects RX6 yX6_holeOf yX6_holeOf ∈ TB := tb_i 636 (by decide +kernel) (by decide +kernel)
theorem tw_637 : Cond.code yX6_holeOf cX6_holeOf 4 (some Jvm.ClassFile.FieldType.int) ∈ TB := tb_i 637 (by decide +kernel) (by decide +kernel)
theorem tw_639 : Cond.methodLink RL 89 yX9_finest ∈ TB := tb_i 639 (by decide +kernel) (by decide +kernel)
theorem tw_640 : Cond.instanceMethod yX9_finest ∈ TB := tb_i 640 (by decide +kernel) (by decide +kernel)
theorem tw_641 : Cond.selects RX9 yX9_finest yX9_finest ∈ TB := tb_i 641 (by decide +kernel) (by decide +kernel)
theorem tw_642 : Cond.code yX9_finest cX9_finest 2 (some Jvm.ClassFile.FieldType.int) ∈ TB := tb_i 642 (by decide +kernel) (by decide +kernel)
theorem tw_643 : Cond.methodLink RX9 219 yX6_finestOf ∈ TB := tb_i 643 (by decide +kernel) (by decide +kernel)
theorem tw_644 : Cond.instanceMethod yX6_finestOf ∈ TB := tb_i 644 (by decide +kernel) (by decide +kernel)
theorem tw_645 : Cond.selects RX6 yX6_finestOf yX6_finestOf ∈ TB := tb_i 645 (by decide +kernel) (by decide +kernel)
theorem tw_646 : Cond.code yX6_finestOf cX6_finestOf 3 (some Jvm.ClassFile.FieldType.int) ∈ TB := tb_i 646 (by decide +kernel) (by decide +kernel)
theorem tw_647 : Cond.methodLink RL 93 yX9_paints ∈ TB := tb_i 647 (by decide +kernel) (by decide +kernel)
theorem tw_648 : Cond.instanceMethod yX9_paints ∈ TB := tb_i 648 (by decide +kernel) (by decide +kernel)
theorem tw_649 : Cond.selects RX9 yX9_paints yX9_paints ∈ TB := tb_i 649 (by decide +kernel) (by decide +kernel)
theorem tw_650 : Cond.code yX9_paints cX9_paints 4 (some Jvm.ClassFile.FieldType.int) ∈ TB := tb_i 650 (by decide +kernel) (by decide +kernel)
theorem tw_651 : Cond.methodLink RX9 222 yX9_isSlope ∈ TB := tb_i 651 (by decide +kernel) (by decide +kernel)
theorem tw_652 : Cond.static yX9_isSlope ∈ TB := tb_i 652 (by decide +kernel) (by decide +kernel)
theorem tw_653 : Cond.code yX9_isSlope cX9_isSlope 1 (some Jvm.ClassFile.FieldType.boolean) ∈ TB := tb_i 653 (by decide +kernel) (by decide +kernel)
theorem tw_654 : Cond.methodLink RX9 225 yX9_pictureNow ∈ TB := tb_i 654 (by decide +kernel) (by decide +kernel)
theorem tw_656 : Cond.instanceMethod yX9_pictureNow ∈ TB := tb_i 656 (by decide +kernel) (by decide +kernel)
theorem tw_657 : Cond.code yX9_pictureNow cX9_pictureNow 1 (some (Jvm.ClassFile.FieldType.object "DotThresholds$Picture")) ∈ TB := tb_i 657 (by decide +kernel) (by decide +kernel)
theorem tw_658 : Cond.methodLink RX9 229 yX4_printed ∈ TB := tb_i 658 (by decide +kernel) (by decide +kernel)
theorem tw_659 : Cond.instanceMethod yX4_printed ∈ TB := tb_i 659 (by decide +kernel) (by decide +kernel)
theorem tw_660 : Cond.selects RX4 yX4_printed yX4_printed ∈ TB := tb_i 660 (by decide +kernel) (by decide +kernel)
theorem tw_661 : Cond.code yX4_printed cX4_printed 3 (some Jvm.ClassFile.FieldType.int) ∈ TB := tb_i 661 (by decide +kernel) (by decide +kernel)
theorem tw_662 : Cond.methodLink RX4 69 yX4_prints ∈ TB := tb_i 662 (by decide +kernel) (by decide +kernel)
theorem tw_663 : Cond.instanceMethod yX4_prints ∈ TB := tb_i 663 (by decide +kernel) (by decide +kernel)
theorem tw_664 : Cond.selects RX4 yX4_prints yX4_prints ∈ TB := tb_i 664 (by decide +kernel) (by decide +kernel)
theorem tw_665 : Cond.code yX4_prints cX4_prints 2 (some Jvm.ClassFile.FieldType.boolean) ∈ TB := tb_i 665 (by decide +kernel) (by decide +kernel)
theorem tw_667 : Cond.methodLink RX4 58 yX6_rankOf ∈ TB := tb_i 667 (by decide +kernel) (by decide +kernel)
theorem tw_668 : Cond.methodLink RX4 63 yX4_levelOf ∈ TB := tb_i 668 (by decide +kernel) (by decide +kernel)
theorem tw_670 : Cond.instanceMethod yX4_levelOf ∈ TB := tb_i 670 (by decide +kernel) (by decide +kernel)
theorem tw_671 : Cond.code yX4_levelOf cX4_levelOf 3 (some Jvm.ClassFile.FieldType.int) ∈ TB := tb_i 671 (by decide +kernel) (by decide +kernel)
theorem tw_672 : Cond.methodLink RX4 27 yX0_columnOf ∈ TB := tb_i 672 (by decide +kernel) (by decide +kernel)
theorem tw_673 : Cond.instanceMethod yX0_columnOf ∈ TB := tb_i 673 (by decide +kernel) (by decide +kernel)
theorem tw_674 : Cond.selects RX0 yX0_columnOf yX0_columnOf ∈ TB := tb_i 674 (by decide +kernel) (by decide +kernel)
theorem tw_675 : Cond.code yX0_columnOf cX0_columnOf 2 (some Jvm.ClassFile.FieldType.int) ∈ TB := tb_i 675 (by decide +kernel) (by decide +kernel)
theorem tw_676 : Cond.methodLink RX4 33 yX0_lineOf ∈ TB := tb_i 676 (by decide +kernel) (by decide +kernel)
theorem tw_677 : Cond.instanceMethod yX0_lineOf ∈ TB := tb_i 677 (by decide +kernel) (by decide +kernel)
theorem tw_678 : Cond.selects RX0 yX0_lineOf yX0_lineOf ∈ TB := tb_i 678 (by decide +kernel) (by decide +kernel)
theorem tw_679 : Cond.code yX0_lineOf cX0_lineOf 2 (some Jvm.ClassFile.FieldType.int) ∈ TB := tb_i 679 (by decide +kernel) (by decide +kernel)
theorem tw_680 : Cond.methodLink RX4 39 Lib.Math.min.name ∈ TB := tb_i 680 (by decide +kernel) (by decide +kernel)
theorem tw_681 : Cond.methodLink RX4 45 Lib.Math.max.name ∈ TB := tb_i 681 (by decide +kernel) (by decide +kernel)
theorem tw_682 : Cond.methodLink RL 97 yX9_ink ∈ TB := tb_i 682 (by decide +kernel) (by decide +kernel)
theorem tw_683 : Cond.instanceMethod yX9_ink ∈ TB := tb_i 683 (by decide +kernel) (by decide +kernel)
theorem tw_684 : Cond.selects RX9 yX9_ink yX9_ink ∈ TB := tb_i 684 (by decide +kernel) (by decide +kernel)
theorem tw_685 : Cond.code yX9_ink cX9_ink 4 (some Jvm.ClassFile.FieldType.int) ∈ TB := tb_i 685 (by decide +kernel) (by decide +kernel)
theorem tw_686 : Cond.methodLink RX9 232 yX4_prints ∈ TB := tb_i 686 (by decide +kernel) (by decide +kernel)
theorem tw_687 : Cond.methodLink RL 101 yX9_off ∈ TB := tb_i 687 (by decide +kernel) (by decide +kernel)
theorem tw_688 : Cond.instanceMethod yX9_off ∈ TB := tb_i 688 (by decide +kernel) (by decide +kernel)
theorem tw_689 : Cond.selects RX9 yX9_off yX9_off ∈ TB := tb_i 689 (by decide +kernel) (by decide +kernel)
theorem tw_690 : Cond.code yX9_off cX9_off 1 (some Jvm.ClassFile.FieldType.int) ∈ TB := tb_i 690 (by decide +kernel) (by decide +kernel)
theorem tw_691 : Cond.methodLink RX9 235 yX4_farOff ∈ TB := tb_i 691 (by decide +kernel) (by decide +kernel)
theorem tw_692 : Cond.instanceMethod yX4_farOff ∈ TB := tb_i 692 (by decide +kernel) (by decide +kernel)
theorem tw_693 : Cond.selects RX4 yX4_farOff yX4_farOff ∈ TB := tb_i 693 (by decide +kernel) (by decide +kernel)
theorem tw_694 : Cond.code yX4_farOff cX4_farOff 3 (some Jvm.ClassFile.FieldType.int) ∈ TB := tb_i 694 (by decide +kernel) (by decide +kernel)
theorem tw_695 : Cond.methodLink RX4 73 yX4_printed ∈ TB := tb_i 695 (by decide +kernel) (by decide +kernel)
theorem tw_696 : Cond.methodLink RL 105 yX9_sees ∈ TB := tb_i 696 (by decide +kernel) (by decide +kernel)
theorem tw_697 : Cond.instanceMethod yX9_sees ∈ TB := tb_i 697 (by decide +kernel) (by decide +kernel)
theorem tw_698 : Cond.selects RX9 yX9_sees yX9_sees ∈ TB := tb_i 698 (by decide +kernel) (by decide +kernel)
theorem tw_699 : Cond.code yX9_sees cX9_sees 3 (some Jvm.ClassFile.FieldType.int) ∈ TB := tb_i 699 (by decide +kernel) (by decide +kernel)
theorem tw_700 : Cond.methodLink RX9 238 yX9_isLine ∈ TB := tb_i 700 (by decide +kernel) (by decide +kernel)
theorem tw_702 : Cond.instanceMethod yX9_isLine ∈ TB := tb_i 702 (by decide +kernel) (by decide +kernel)
theorem tw_703 : Cond.code yX9_isLine cX9_isLine 2 (some Jvm.ClassFile.FieldType.boolean) ∈ TB := tb_i 703 (by decide +kernel) (by decide +kernel)
theorem tw_704 : Cond.methodLink RX9 241 yX7_append ∈ TB := tb_i 704 (by decide +kernel) (by decide +kernel)
theorem tw_705 : Cond.instanceMethod yX7_append ∈ TB := tb_i 705 (by decide +kernel) (by decide +kernel)
theorem tw_706 : Cond.selects RX7 yX7_append yX7_append ∈ TB := tb_i 706 (by decide +kernel) (by decide +kernel)
theorem tw_707 : Cond.code yX7_append cX7_append 3 (some Jvm.ClassFile.FieldType.boolean) ∈ TB := tb_i 707 (by decide +kernel) (by decide +kernel)
theorem tw_708 : Cond.methodLink RL 109 yX9_forget ∈ TB := tb_i 708 (by decide +kernel) (by decide +kernel)
theorem tw_709 : Cond.instanceMethod yX9_forget ∈ TB := tb_i 709 (by decide +kernel) (by decide +kernel)
theorem tw_710 : Cond.selects RX9 yX9_forget yX9_forget ∈ TB := tb_i 710 (by decide +kernel) (by decide +kernel)
theorem tw_711 : Cond.code yX9_forget cX9_forget 2 (some Jvm.ClassFile.FieldType.int) ∈ TB := tb_i 711 (by decide +kernel) (by decide +kernel)
theorem tw_712 : Cond.methodLink RL 113 yX9_unseen ∈ TB := tb_i 712 (by decide +kernel) (by decide +kernel)
theorem tw_713 : Cond.instanceMethod yX9_unseen ∈ TB := tb_i 713 (by decide +kernel) (by decide +kernel)
theorem tw_714 : Cond.selects RX9 yX9_unseen yX9_unseen ∈ TB := tb_i 714 (by decide +kernel) (by decide +kernel)
theorem tw_715 : Cond.code yX9_unseen cX9_unseen 2 (some Jvm.ClassFile.FieldType.int) ∈ TB := tb_i 715 (by decide +kernel) (by decide +kernel)
theorem tw_716 : Cond.methodLink RX9 244 yX7_shadesThatFit ∈ TB := tb_i 716 (by decide +kernel) (by decide +kernel)
theorem tw_717 : Cond.instanceMethod yX7_shadesThatFit ∈ TB := tb_i 717 (by decide +kernel) (by decide +kernel)
theorem tw_718 : Cond.selects RX7 yX7_shadesThatFit yX7_shadesThatFit ∈ TB := tb_i 718 (by decide +kernel) (by decide +kernel)
theorem tw_719 : Cond.code yX7_shadesThatFit cX7_shadesThatFit 3 (some Jvm.ClassFile.FieldType.int) ∈ TB := tb_i 719 (by decide +kernel) (by decide +kernel)
theorem tw_720 : Cond.methodLink RX7 35 yX7_fits ∈ TB := tb_i 720 (by decide +kernel) (by decide +kernel)
theorem tw_722 : Cond.instanceMethod yX7_fits ∈ TB := tb_i 722 (by decide +kernel) (by decide +kernel)
theorem tw_723 : Cond.code yX7_fits cX7_fits 3 (some Jvm.ClassFile.FieldType.boolean) ∈ TB := tb_i 723 (by decide +kernel) (by decide +kernel)
theorem tw_724 : Cond.methodLink RX7 39 yX7_cellsOn ∈ TB := tb_i 724 (by decide +kernel) (by decide +kernel)
theorem tw_726 : Cond.instanceMethod yX7_cellsOn ∈ TB := tb_i 726 (by decide +kernel) (by decide +kernel)
theorem tw_727 : Cond.code yX7_cellsOn cX7_cellsOn 7 (some Jvm.ClassFile.FieldType.int) ∈ TB := tb_i 727 (by decide +kernel) (by decide +kernel)
theorem tw_728 : Cond.methodLink RX7 43 yX6_cellOf ∈ TB := tb_i 728 (by decide +kernel) (by decide +kernel)
theorem tw_729 : Cond.methodLink RX7 49 yX0_lineOf ∈ TB := tb_i 729 (by decide +kernel) (by decide +kernel)
theorem tw_730 : Cond.methodLink RX7 52 yX0_columnOf ∈ TB := tb_i 730 (by decide +kernel) (by decide +kernel)
theorem tw_731 : Cond.methodLink RX9 247 yX7_leastThatFits ∈ TB := tb_i 731 (by decide +kernel) (by decide +kernel)
theorem tw_732 : Cond.instanceMethod yX7_leastThatFits ∈ TB := tb_i 732 (by decide +kernel) (by decide +kernel)
theorem tw_733 : Cond.selects RX7 yX7_leastThatFits yX7_leastThatFits ∈ TB := tb_i 733 (by decide +kernel) (by decide +kernel)
theorem tw_734 : Cond.code yX7_leastThatFits cX7_leastThatFits 2 (some Jvm.ClassFile.FieldType.int) ∈ TB := tb_i 734 (by decide +kernel) (by decide +kernel)
theorem tw_735 : Cond.methodLink RX9 250 yX7_greatestThatFits ∈ TB := tb_i 735 (by decide +kernel) (by decide +kernel)
theorem tw_736 : Cond.instanceMethod yX7_greatestThatFits ∈ TB := tb_i 736 (by decide +kernel) (by decide +kernel)
theorem tw_737 : Cond.selects RX7 yX7_greatestThatFits yX7_greatestThatFits ∈ TB := tb_i 737 (by decide +kernel) (by decide +kernel)
theorem tw_738 : Cond.code yX7_greatestThatFits cX7_greatestThatFits 2 (some Jvm.ClassFile.FieldType.int) ∈ TB := tb_i 738 (by decide +kernel) (by decide +kernel)
theorem tw_739 : Cond.methodLink RL 117 yX9_keep ∈ TB := tb_i 739 (by decide +kernel) (by decide +kernel)
theorem tw_740 : Cond.instanceMethod yX9_keep ∈ TB := tb_i 740 (by decide +kernel) (by decide +kernel)
theorem tw_741 : Cond.selects RX9 yX9_keep yX9_keep ∈ TB := tb_i 741 (by decide +kernel) (by decide +kernel)
theorem tw_742 : Cond.code yX9_keep cX9_keep 2 (some Jvm.ClassFile.FieldType.int) ∈ TB := tb_i 742 (by decide +kernel) (by decide +kernel)
theorem tw_743 : Cond.methodLink RX9 253 yX2_isImage ∈ TB := tb_i 743 (by decide +kernel) (by decide +kernel)
theorem tw_744 : Cond.instanceMethod yX2_isImage ∈ TB := tb_i 744 (by decide +kernel) (by decide +kernel)
theorem tw_745 : Cond.selects RX2 yX2_isImage yX2_isImage ∈ TB := tb_i 745 (by decide +kernel) (by decide +kernel)
theorem tw_746 : Cond.code yX2_isImage cX2_isImage 2 (some Jvm.ClassFile.FieldType.boolean) ∈ TB := tb_i 746 (by decide +kernel) (by decide +kernel)
theorem tw_747 : Cond.methodLink RX9 256 yX2_put ∈ TB := tb_i 747 (by decide +kernel) (by decide +kernel)
theorem tw_748 : Cond.instanceMethod yX2_put ∈ TB := tb_i 748 (by decide +kernel) (by decide +kernel)
theorem tw_749 : Cond.selects RX2 yX2_put yX2_put ∈ TB := tb_i 749 (by decide +kernel) (by decide +kernel)
theorem tw_750 : Cond.code yX2_put cX2_put 4 none ∈ TB := tb_i 750 (by decide +kernel) (by decide +kernel)
theorem tw_751 : Cond.methodLink RX2 17 yX2_isImage ∈ TB := tb_i 751 (by decide +kernel) (by decide +kernel)
theorem tw_752 : Cond.methodLink RX9 260 yX1_size ∈ TB := tb_i 752 (by decide +kernel) (by decide +kernel)
theorem tw_753 : Cond.methodLink RL 121 yX9_back ∈ TB := tb_i 753 (by decide +kernel) (by decide +kernel)
theorem tw_754 : Cond.instanceMethod yX9_back ∈ TB := tb_i 754 (by decide +kernel) (by decide +kernel)
theorem tw_755 : Cond.selects RX9 yX9_back yX9_back ∈ TB := tb_i 755 (by decide +kernel) (by decide +kernel)
theorem tw_756 : Cond.code yX9_back cX9_back 2 (some Jvm.ClassFile.FieldType.int) ∈ TB := tb_i 756 (by decide +kernel) (by decide +kernel)
theorem tw_757 : Cond.methodLink RX9 262 yX2_isKept ∈ TB := tb_i 757 (by decide +kernel) (by decide +kernel)
theorem tw_758 : Cond.instanceMethod yX2_isKept ∈ TB := tb_i 758 (by decide +kernel) (by decide +kernel)
theorem tw_759 : Cond.selects RX2 yX2_isKept yX2_isKept ∈ TB := tb_i 759 (by decide +kernel) (by decide +kernel)
theorem tw_760 : Cond.code yX2_isKept cX2_isKept 2 (some Jvm.ClassFile.FieldType.boolean) ∈ TB := tb_i 760 (by decide +kernel) (by decide +kernel)
theorem tw_761 : Cond.methodLink RX9 265 yX2_dotsOf ∈ TB := tb_i 761 (by decide +kernel) (by decide +kernel)
theorem tw_762 : Cond.instanceMethod yX2_dotsOf ∈ TB := tb_i 762 (by decide +kernel) (by decide +kernel)
theorem tw_763 : Cond.selects RX2 yX2_dotsOf yX2_dotsOf ∈ TB := tb_i 763 (by decide +kernel) (by decide +kernel)
theorem tw_764 : Cond.code yX2_dotsOf cX2_dotsOf 2 (some Jvm.ClassFile.FieldType.long) ∈ TB := tb_i 764 (by decide +kernel) (by decide +kernel)
theorem tw_765 : Cond.methodLink RL 125 yX9_count ∈ TB := tb_i 765 (by decide +kernel) (by decide +kernel)
theorem tw_766 : Cond.instanceMethod yX9_count ∈ TB := tb_i 766 (by decide +kernel) (by decide +kernel)
theorem tw_767 : Cond.selects RX9 yX9_count yX9_count ∈ TB := tb_i 767 (by decide +kernel) (by decide +kernel)
theorem tw_768 : Cond.code yX9_count cX9_count 2 (some Jvm.ClassFile.FieldType.int) ∈ TB := tb_i 768 (by decide +kernel) (by decide +kernel)
theorem tw_769 : Cond.classLink RL 10 RX10 ∈ TB := tb_i 769 (by decide +kernel) (by decide +kernel)
theorem tw_770 : Cond.instantiable RX10 27 ∈ TB := tb_i 770 (by decide +kernel) (by decide +kernel)
theorem tw_771 : Cond.methodLink RL 12 yX10_init ∈ TB := tb_i 771 (by decide +kernel) (by decide +kernel)
theorem tw_772 : Cond.instanceMethod yX10_init ∈ TB := tb_i 772 (by decide +kernel) (by decide +kernel)
theorem tw_773 : Cond.code yX10_init cX10_init 1 none ∈ TB := tb_i 773 (by decide +kernel) (by decide +kernel)
theorem tw_774 : Cond.methodLink RX10 1 Lib.objectInit ∈ TB := tb_i 774 (by decide +kernel) (by decide +kernel)
theorem tw_775 : Cond.methodLink RX10 42 yX10_begins ∈ TB := tb_i 775 (by decide +kernel) (by decide +kernel)
theorem tw_777 : Cond.instanceMethod yX10_begins ∈ TB := tb_i 777 (by decide +kernel) (by decide +kernel)
theorem tw_778 : Cond.code yX10_begins cX10_begins 1 none ∈ TB := tb_i 778 (by decide +kernel) (by decide +kernel)
theorem tw_779 : Cond.methodLink RX10 45 yX10_becomes ∈ TB := tb_i 779 (by decide +kernel) (by decide +kernel)
theorem tw_781 : Cond.instanceMethod yX10_becomes ∈ TB := tb_i 781 (by decide +kernel) (by decide +kernel)
theorem tw_782 : Cond.code yX10_becomes cX10_becomes 2 none ∈ TB := tb_i 782 (by decide +kernel) (by decide +kernel)
theorem tw_783 : Cond.fieldLink RX10 48 "DotThresholdsModel" "thrown" "I" ∈ TB := tb_i 783 (by decide +kernel) (by decide +kernel)
theorem tw_784 : Cond.fieldLink RX10 7 "DotThresholdsModel" "told" "[I" ∈ TB := tb_i 784 (by decide +kernel) (by decide +kernel)
theorem tw_785 : Cond.fieldLink RX10 13 "DotThresholdsModel" "draft" "[I" ∈ TB := tb_i 785 (by decide +kernel) (by decide +kernel)
theorem tw_786 : Cond.fieldLink RX10 101 "DotThresholdsModel" "shut" "J" ∈ TB := tb_i 786 (by decide +kernel) (by decide +kernel)
theorem tw_787 : Cond.fieldLink RX10 104 "DotThresholdsModel" "dots" "J" ∈ TB := tb_i 787 (by decide +kernel) (by decide +kernel)
theorem tw_788 : Cond.fieldLink RX10 87 "DotThresholdsModel" "draftShut" "J" ∈ TB := tb_i 788 (by decide +kernel) (by decide +kernel)
theorem tw_789 : Cond.fieldLink RX10 91 "DotThresholdsModel" "draftDots" "J" ∈ TB := tb_i 789 (by decide +kernel) (by decide +kernel)
theorem tw_790 : Cond.fieldLink RX10 107 "DotThresholdsModel" "undos" "I" ∈ TB := tb_i 790 (by decide +kernel) (by decide +kernel)
theorem tw_791 : Cond.fieldLink RX10 16 "DotThresholdsModel" "past" "[J" ∈ TB := tb_i 791 (by decide +kernel) (by decide +kernel)
theorem tw_792 : Cond.fieldLink RX10 20 "DotThresholdsModel" "kept" "[J" ∈ TB := tb_i 792 (by decide +kernel) (by decide +kernel)
theorem tw_793 : Cond.fieldLink RX10 23 "DotThresholdsModel" "isKept" "[Z" ∈ TB := tb_i 793 (by decide +kernel) (by decide +kernel)
theorem tw_794 : Cond.fieldLink RX10 113 "DotThresholdsModel" "base" "I" ∈ TB := tb_i 794 (by decide +kernel) (by decide +kernel)
theorem tw_795 : Cond.fieldLink RX10 116 "DotThresholdsModel" "slopeX" "I" ∈ TB := tb_i 795 (by decide +kernel) (by decide +kernel)
theorem tw_796 : Cond.fieldLink RX10 119 "DotThresholdsModel" "slopeY" "I" ∈ TB := tb_i 796 (by decide +kernel) (by decide +kernel)
theorem tw_797 : Cond.fieldLink RX10 110 "DotThresholdsModel" "seen" "I" ∈ TB := tb_i 797 (by decide +kernel) (by decide +kernel)
theorem tw_798 : Cond.fieldLink RX10 27 "DotThresholdsModel" "seenLine" "[I" ∈ TB := tb_i 798 (by decide +kernel) (by decide +kernel)
theorem tw_799 : Cond.fieldLink RX10 30 "DotThresholdsModel" "seenIs" "[I" ∈ TB := tb_i 799 (by decide +kernel) (by decide +kernel)
theorem tw_800 : Cond.fieldLink RX10 33 "DotThresholdsModel" "rank" "[I" ∈ TB := tb_i 800 (by decide +kernel) (by decide +kernel)
theorem tw_801 : Cond.fieldLink RX10 36 "DotThresholdsModel" "stage" "[I" ∈ TB := tb_i 801 (by decide +kernel) (by decide +kernel)
theorem tw_802 : Cond.fieldLink RX10 60 "DotThresholdsModel" "letters" "I" ∈ TB := tb_i 802 (by decide +kernel) (by decide +kernel)
theorem tw_803 : Cond.fieldLink RX10 39 "DotThresholdsModel" "text" "[I" ∈ TB := tb_i 803 (by decide +kernel) (by decide +kernel)
theorem tw_804 : Cond.fieldLink RX10 63 "DotThresholdsModel" "next" "I" ∈ TB := tb_i 804 (by decide +kernel) (by decide +kernel)
theorem tw_805 : Cond.fieldLink RX10 66 "DotThresholdsModel" "begin" "I" ∈ TB := tb_i 805 (by decide +kernel) (by decide +kernel)
theorem tw_806 : Cond.fieldLink RX10 69 "DotThresholdsModel" "token" "I" ∈ TB := tb_i 806 (by decide +kernel) (by decide +kernel)
theorem tw_807 : Cond.fieldLink RX10 186 "DotThresholdsModel" "gain" "I" ∈ TB := tb_i 807 (by decide +kernel) (by decide +kernel)
theorem tw_808 : Cond.fieldLink RX10 189 "DotThresholdsModel" "bestDot" "I" ∈ TB := tb_i 808 (by decide +kernel) (by decide +kernel)
theorem tw_809 : Cond.fieldLink RX10 192 "DotThresholdsModel" "bestCell" "I" ∈ TB := tb_i 809 (by decide +kernel) (by decide +kernel)
theorem tw_865 : Cond.methodLink RL 17 yX10_type ∈ TB := tb_i 865 (by decide +kernel) (by decide +kernel)
theorem tw_866 : Cond.instanceMethod yX10_type ∈ TB := tb_i 866 (by decide +kernel) (by decide +kernel)
theorem tw_867 : Cond.selects RX10 yX10_type yX10_type ∈ TB := tb_i 867 (by decide +kernel) (by decide +kernel)
theorem tw_868 : Cond.code yX10_type cX10_type 2 (some Jvm.ClassFile.FieldType.int) ∈ TB := tb_i 868 (by decide +kernel) (by decide +kernel)
theorem tw_869 : Cond.methodLink RX10 56 yX10_in ∈ TB := tb_i 869 (by decide +kernel) (by decide +kernel)
theorem tw_870 : Cond.static yX10_in ∈ TB := tb_i 870 (by decide +kernel) (by decide +kernel)
theorem tw_871 : Cond.code yX10_in cX10_in 3 (some Jvm.ClassFile.FieldType.boolean) ∈ TB := tb_i 871 (by decide +kernel) (by decide +kernel)
theorem tw_872 : Cond.methodLink RL 22 yX10_clear ∈ TB := tb_i 872 (by decide +kernel) (by decide +kernel)
theorem tw_873 : Cond.instanceMethod yX10_clear ∈ TB := tb_i 873 (by decide +kernel) (by decide +kernel)
theorem tw_874 : Cond.selects RX10 yX10_clear yX10_clear ∈ TB := tb_i 874 (by decide +kernel) (by decide +kernel)
theorem tw_875 : Cond.code yX10_clear cX10_clear 2 (some Jvm.ClassFile.FieldType.int) ∈ TB := tb_i 875 (by decide +kernel) (by decide +kernel)
theorem tw_876 : Cond.methodLink RL 26 yX10_grid ∈ TB := tb_i 876 (by decide +kernel) (by decide +kernel)
theorem tw_877 : Cond.instanceMethod yX10_grid ∈ TB := tb_i 877 (by decide +kernel) (by decide +kernel)
theorem tw_878 : Cond.selects RX10 yX10_grid yX10_grid ∈ TB := tb_i 878 (by decide +kernel) (by decide +kernel)
theorem tw_879 : Cond.code yX10_grid cX10_grid 3 (some Jvm.ClassFile.FieldType.int) ∈ TB := tb_i 879 (by decide +kernel) (by decide +kernel)
theorem tw_880 : Cond.methodLink RX10 76 yX10_takes ∈ TB := tb_i 880 (by decide +kernel) (by decide +kernel)
theorem tw_882 : Cond.instanceMethod yX10_takes ∈ TB := tb_i 882 (by decide +kernel) (by decide +kernel)
theorem tw_883 : Cond.code yX10_takes cX10_takes 2 none ∈ TB := tb_i 883 (by decide +kernel) (by decide +kernel)
theorem tw_884 : Cond.methodLink RX10 72 yX10_isFigure ∈ TB := tb_i 884 (by decide +kernel) (by decide +kernel)
theorem tw_886 : Cond.instanceMethod yX10_isFigure ∈ TB := tb_i 886 (by decide +kernel) (by decide +kernel)
theorem tw_887 : Cond.code yX10_isFigure cX10_isFigure 2 (some Jvm.ClassFile.FieldType.boolean) ∈ TB := tb_i 887 (by decide +kernel) (by decide +kernel)
theorem tw_888 : Cond.methodLink RX10 122 yX10_item ∈ TB := tb_i 888 (by decide +kernel) (by decide +kernel)
theorem tw_890 : Cond.instanceMethod yX10_item ∈ TB := tb_i 890 (by decide +kernel) (by decide +kernel)
theorem tw_891 : Cond.code yX10_item cX10_item 2 (some Jvm.ClassFile.FieldType.boolean) ∈ TB := tb_i 891 (by decide +kernel) (by decide +kernel)
theorem tw_892 : Cond.methodLink RX10 94 yX10_readsTo ∈ TB := tb_i 892 (by decide +kernel) (by decide +kernel)
theorem tw_894 : Cond.instanceMethod yX10_readsTo ∈ TB := tb_i 894 (by decide +kernel) (by decide +kernel)
theorem tw_895 : Cond.code yX10_readsTo cX10_readsTo 5 (some Jvm.ClassFile.FieldType.boolean) ∈ TB := tb_i 895 (by decide +kernel) (by decide +kernel)
theorem tw_896 : Cond.methodLink RX10 79 yX10_reads ∈ TB := tb_i 896 (by decide +kernel) (by decide +kernel)
theorem tw_898 : Cond.instanceMethod yX10_reads ∈ TB := tb_i 898 (by decide +kernel) (by decide +kernel)
theorem tw_899 : Cond.code yX10_reads cX10_reads 3 (some Jvm.ClassFile.FieldType.boolean) ∈ TB := tb_i 899 (by decide +kernel) (by decide +kernel)
theorem tw_900 : Cond.methodLink RX10 83 yX10_number ∈ TB := tb_i 900 (by decide +kernel) (by decide +kernel)
theorem tw_902 : Cond.instanceMethod yX10_number ∈ TB := tb_i 902 (by decide +kernel) (by decide +kernel)
theorem tw_903 : Cond.code yX10_number cX10_number 1 (some Jvm.ClassFile.FieldType.int) ∈ TB := tb_i 903 (by decide +kernel) (by decide +kernel)
theorem tw_904 : Cond.methodLink RX10 97 yX10_readsCell ∈ TB := tb_i 904 (by decide +kernel) (by decide +kernel)
theorem tw_906 : Cond.instanceMethod yX10_readsCell ∈ TB := tb_i 906 (by decide +kernel) (by decide +kernel)
theorem tw_907 : Cond.code yX10_readsCell cX10_readsCell 4 (some Jvm.ClassFile.FieldType.boolean) ∈ TB := tb_i 907 (by decide +kernel) (by decide +kernel)
theorem tw_908 : Cond.methodLink RX10 52 yX10_has ∈ TB := tb_i 908 (by decide +kernel) (by decide +kernel)
theorem tw_909 : Cond.static yX10_has ∈ TB := tb_i 909 (by decide +kernel) (by decide +kernel)
theorem tw_910 : Cond.code yX10_has cX10_has 3 (some Jvm.ClassFile.FieldType.boolean) ∈ TB := tb_i 910 (by decide +kernel) (by decide +kernel)
theorem tw_911 : Cond.methodLink RL 31 yX10_cell ∈ TB := tb_i 911 (by decide +kernel) (by decide +kernel)
theorem tw_912 : Cond.instanceMethod yX10_cell ∈ TB := tb_i 912 (by decide +kernel) (by decide +kernel)
theorem tw_913 : Cond.selects RX10 yX10_cell yX10_cell ∈ TB := tb_i 913 (by decide +kernel) (by decide +kernel)
theorem tw_914 : Cond.code yX10_cell cX10_cell 3 (some Jvm.ClassFile.FieldType.int) ∈ TB := tb_i 914 (by decide +kernel) (by decide +kernel)
theorem tw_915 : Cond.methodLink RX10 161 yX10_isPlace ∈ TB := tb_i 915 (by decide +kernel) (by decide +kernel)
theorem tw_917 : Cond.instanceMethod yX10_isPlace ∈ TB := tb_i 917 (by decide +kernel) (by decide +kernel)
theorem tw_918 : Cond.code yX10_isPlace cX10_isPlace 3 (some Jvm.ClassFile.FieldType.boolean) ∈ TB := tb_i 918 (by decide +kernel) (by decide +kernel)
theorem tw_919 : Cond.methodLink RX10 164 yX10_at ∈ TB := tb_i 919 (by decide +kernel) (by decide +kernel)
theorem tw_921 : Cond.instanceMethod yX10_at ∈ TB := tb_i 921 (by decide +kernel) (by decide +kernel)
theorem tw_922 : Cond.code yX10_at cX10_at 3 (some Jvm.ClassFile.FieldType.int) ∈ TB := tb_i 922 (by decide +kernel) (by decide +kernel)
theorem tw_923 : Cond.methodLink RL 36 yX10_near ∈ TB := tb_i 923 (by decide +kernel) (by decide +kernel)
theorem tw_924 : Cond.instanceMethod yX10_near ∈ TB := tb_i 924 (by decide +kernel) (by decide +kernel)
theorem tw_925 : Cond.selects RX10 yX10_near yX10_near ∈ TB := tb_i 925 (by decide +kernel) (by decide +kernel)
theorem tw_926 : Cond.code yX10_near cX10_near 4 (some Jvm.ClassFile.FieldType.int) ∈ TB := tb_i 926 (by decide +kernel) (by decide +kernel)
theorem tw_927 : Cond.methodLink RX10 167 yX10_isCell ∈ TB := tb_i 927 (by decide +kernel) (by decide +kernel)
theorem tw_929 : Cond.instanceMethod yX10_isCell ∈ TB := tb_i 929 (by decide +kernel) (by decide +kernel)
theorem tw_930 : Cond.code yX10_isCell cX10_isCell 2 (some Jvm.ClassFile.FieldType.boolean) ∈ TB := tb_i 930 (by decide +kernel) (by decide +kernel)
theorem tw_931 : Cond.methodLink RX10 125 yX10_cells ∈ TB := tb_i 931 (by decide +kernel) (by decide +kernel)
theorem tw_933 : Cond.instanceMethod yX10_cells ∈ TB := tb_i 933 (by decide +kernel) (by decide +kernel)
theorem tw_934 : Cond.code yX10_cells cX10_cells 1 (some Jvm.ClassFile.FieldType.int) ∈ TB := tb_i 934 (by decide +kernel) (by decide +kernel)
theorem tw_935 : Cond.methodLink RX10 136 yX10_distance ∈ TB := tb_i 935 (by decide +kernel) (by decide +kernel)
theorem tw_937 : Cond.instanceMethod yX10_distance ∈ TB := tb_i 937 (by decide +kernel) (by decide +kernel)
theorem tw_938 : Cond.code yX10_distance cX10_distance 6 (some Jvm.ClassFile.FieldType.int) ∈ TB := tb_i 938 (by decide +kernel) (by decide +kernel)
theorem tw_939 : Cond.methodLink RX10 132 yX10_round ∈ TB := tb_i 939 (by decide +kernel) (by decide +kernel)
theorem tw_940 : Cond.static yX10_round ∈ TB := tb_i 940 (by decide +kernel) (by decide +kernel)
theorem tw_941 : Cond.code yX10_round cX10_round 4 (some Jvm.ClassFile.FieldType.int) ∈ TB := tb_i 941 (by decide +kernel) (by decide +kernel)
theorem tw_942 : Cond.methodLink RX10 140 yX10_weight ∈ TB := tb_i 942 (by decide +kernel) (by decide +kernel)
theorem tw_944 : Cond.instanceMethod yX10_weight ∈ TB := tb_i 944 (by decide +kernel) (by decide +kernel)
theorem tw_945 : Cond.code yX10_weight cX10_weight 4 (some Jvm.ClassFile.FieldType.int) ∈ TB := tb_i 945 (by decide +kernel) (by decide +kernel)
theorem tw_946 : Cond.methodLink RL 40 yX10_flips ∈ TB := tb_i 946 (by decide +kernel) (by decide +kernel)
theorem tw_947 : Cond.instanceMethod yX10_flips ∈ TB := tb_i 947 (by decide +kernel) (by decide +kernel)
theorem tw_948 : Cond.selects RX10 yX10_flips yX10_flips ∈ TB := tb_i 948 (by decide +kernel) (by decide +kernel)
theorem tw_949 : Cond.code yX10_flips cX10_flips 3 (some Jvm.ClassFile.FieldType.int) ∈ TB := tb_i 949 (by decide +kernel) (by decide +kernel)
theorem tw_950 : Cond.methodLink RX10 170 yX10_notes ∈ TB := tb_i 950 (by decide +kernel) (by decide +kernel)
theorem tw_952 : Cond.instanceMethod yX10_notes ∈ TB := tb_i 952 (by decide +kernel) (by decide +kernel)
theorem tw_953 : Cond.code yX10_notes cX10_notes 2 none ∈ TB := tb_i 953 (by decide +kernel) (by decide +kernel)
theorem tw_954 : Cond.methodLink RL 44 yX10_rests ∈ TB := tb_i 954 (by decide +kernel) (by decide +kernel)
theorem tw_955 : Cond.instanceMethod yX10_rests ∈ TB := tb_i 955 (by decide +kernel) (by decide +kernel)
theorem tw_956 : Cond.selects RX10 yX10_rests yX10_rests ∈ TB := tb_i 956 (by decide +kernel) (by decide +kernel)
theorem tw_957 : Cond.code yX10_rests cX10_rests 7 (some Jvm.ClassFile.FieldType.int) ∈ TB := tb_i 957 (by decide +kernel) (by decide +kernel)
theorem tw_958 : Cond.methodLink RX10 173 yX10_tightest ∈ TB := tb_i 958 (by decide +kernel) (by decide +kernel)
theorem tw_960 : Cond.instanceMethod yX10_tightest ∈ TB := tb_i 960 (by decide +kernel) (by decide +kernel)
theorem tw_961 : Cond.code yX10_tightest cX10_tightest 3 (some Jvm.ClassFile.FieldType.int) ∈ TB := tb_i 961 (by decide +kernel) (by decide +kernel)
theorem tw_962 : Cond.methodLink RX10 151 yX10_extremeOf ∈ TB := tb_i 962 (by decide +kernel) (by decide +kernel)
theorem tw_964 : Cond.instanceMethod yX10_extremeOf ∈ TB := tb_i 964 (by decide +kernel) (by decide +kernel)
theorem tw_965 : Cond.code yX10_extremeOf cX10_extremeOf 11 (some Jvm.ClassFile.FieldType.int) ∈ TB := tb_i 965 (by decide +kernel) (by decide +kernel)
theorem tw_966 : Cond.methodLink RX10 147 yX10_heldBy ∈ TB := tb_i 966 (by decide +kernel) (by decide +kernel)
theorem tw_968 : Cond.instanceMethod yX10_heldBy ∈ TB := tb_i 968 (by decide +kernel) (by decide +kernel)
theorem tw_969 : Cond.code yX10_heldBy cX10_heldBy 6 (some Jvm.ClassFile.FieldType.int) ∈ TB := tb_i 969 (by decide +kernel) (by decide +kernel)
theorem tw_970 : Cond.constantLong RX10 159 (-1) ∈ TB := tb_i 970 (by decide +kernel) (by decide +kernel)
theorem tw_971 : Cond.methodLink RX10 176 yX10_emptiest ∈ TB := tb_i 971 (by decide +kernel) (by decide +kernel)
theorem tw_973 : Cond.instanceMethod yX10_emptiest ∈ TB := tb_i 973 (by decide +kernel) (by decide +kernel)
theorem tw_974 : Cond.code yX10_emptiest cX10_emptiest 3 (some Jvm.ClassFile.FieldType.int) ∈ TB := tb_i 974 (by decide +kernel) (by decide +kernel)
theorem tw_975 : Cond.methodLink RX10 155 yX10_freeCells ∈ TB := tb_i 975 (by decide +kernel) (by decide +kernel)
theorem tw_977 : Cond.instanceMethod yX10_freeCells ∈ TB := tb_i 977 (by decide +kernel) (by decide +kernel)
theorem tw_978 : Cond.code yX10_freeCells cX10_freeCells 4 (some Jvm.ClassFile.FieldType.long) ∈ TB := tb_i 978 (by decide +kernel) (by decide +kernel)
theorem tw_979 : Cond.methodLink RX10 144 yX10_isFree ∈ TB := tb_i 979 (by decide +kernel) (by decide +kernel)
theorem tw_981 : Cond.instanceMethod yX10_isFree ∈ TB := tb_i 981 (by decide +kernel) (by decide +kernel)
theorem tw_982 : Cond.code yX10_isFree cX10_isFree 2 (some Jvm.ClassFile.FieldType.boolean) ∈ TB := tb_i 982 (by decide +kernel) (by decide +kernel)
theorem tw_983 : Cond.methodLink RL 48 yX10_moves ∈ TB := tb_i 983 (by decide +kernel) (by decide +kernel)
theorem tw_984 : Cond.instanceMethod yX10_moves ∈ TB := tb_i 984 (by decide +kernel) (by decide +kernel)
theorem tw_985 : Cond.selects RX10 yX10_moves yX10_moves ∈ TB := tb_i 985 (by decide +kernel) (by decide +kernel)
theorem tw_986 : Cond.code yX10_moves cX10_moves 4 (some Jvm.ClassFile.FieldType.int) ∈ TB := tb_i 986 (by decide +kernel) (by decide +kernel)
theorem tw_987 : Cond.methodLink RX10 179 yX10_energyOf ∈ TB := tb_i 987 (by decide +kernel) (by decide +kernel)
theorem tw_989 : Cond.instanceMethod yX10_energyOf ∈ TB := tb_i 989 (by decide +kernel) (by decide +kernel)
theorem tw_990 : Cond.code yX10_energyOf cX10_energyOf 6 (some Jvm.ClassFile.FieldType.int) ∈ TB := tb_i 990 (by decide +kernel) (by decide +kernel)
theorem tw_991 : Cond.methodLink RX10 182 yX10_moved ∈ TB := tb_i 991 (by decide +kernel) (by decide +kernel)
theorem tw_992 : Cond.static yX10_moved ∈ TB := tb_i 992 (by decide +kernel) (by decide +kernel)
theorem tw_993 : Cond.code yX10_moved cX10_moved 4 (some Jvm.ClassFile.FieldType.long) ∈ TB := tb_i 993 (by decide +kernel) (by decide +kernel)
theorem tw_994 : Cond.methodLink RL 52 yX10_undo ∈ TB := tb_i 994 (by decide +kernel) (by decide +kernel)
theorem tw_995 : Cond.instanceMethod yX10_undo ∈ TB := tb_i 995 (by decide +kernel) (by decide +kernel)
theorem tw_996 : Cond.selects RX10 yX10_undo yX10_undo ∈ TB := tb_i 996 (by decide +kernel) (by decide +kernel)
theorem tw_997 : Cond.code yX10_undo cX10_undo 1 (some Jvm.ClassFile.FieldType.int) ∈ TB := tb_i 997 (by decide +kernel) (by decide +kernel)
theorem tw_998 : Cond.methodLink RL 56 yX10_held ∈ TB := tb_i 998 (by decide +kernel) (by decide +kernel)
theorem tw_999 : Cond.instanceMethod yX10_held ∈ TB := tb_i 999 (by decide +kernel) (by decide +kernel)
theorem tw_1000 : Cond.selects RX10 yX10_held yX10_held ∈ TB := tb_i 1000 (by decide +kernel) (by decide +kernel)
theorem tw_1001 : Cond.code yX10_held cX10_held 3 (some Jvm.ClassFile.FieldType.int) ∈ TB := tb_i 1001 (by decide +kernel) (by decide +kernel)
theorem tw_1002 : Cond.methodLink RL 60 yX10_extreme ∈ TB := tb_i 1002 (by decide +kernel) (by decide +kernel)
theorem tw_1003 : Cond.instanceMethod yX10_extreme ∈ TB := tb_i 1003 (by decide +kernel) (by decide +kernel)
theorem tw_1004 : Cond.selects RX10 yX10_extreme yX10_extreme ∈ TB := tb_i 1004 (by decide +kernel) (by decide +kernel)
theorem tw_1005 : Cond.code yX10_extreme cX10_extreme 2 (some Jvm.ClassFile.FieldType.int) ∈ TB := tb_i 1005 (by decide +kernel) (by decide +kernel)
theorem tw_1006 : Cond.methodLink RL 64 yX10_energy ∈ TB := tb_i 1006 (by decide +kernel) (by decide +kernel)
theorem tw_1007 : Cond.instanceMethod yX10_energy ∈ TB := tb_i 1007 (by decide +kernel) (by decide +kernel)
theorem tw_1008 : Cond.selects RX10 yX10_energy yX10_energy ∈ TB := tb_i 1008 (by decide +kernel) (by decide +kernel)
theorem tw_1009 : Cond.code yX10_energy cX10_energy 1 (some Jvm.ClassFile.FieldType.int) ∈ TB := tb_i 1009 (by decide +kernel) (by decide +kernel)
theorem tw_1010 : Cond.methodLink RL 68 yX10_better ∈ TB := tb_i 1010 (by decide +kernel) (by decide +kernel)
theorem tw_1011 : Cond.instanceMethod yX10_better ∈ TB := tb_i 1011 (by decide +kernel) (by decide +kernel)
theorem tw_1012 : Cond.selects RX10 yX10_better yX10_better ∈ TB := tb_i 1012 (by decide +kernel) (by decide +kernel)
theorem tw_1013 : Cond.code yX10_better cX10_better 2 (some Jvm.ClassFile.FieldType.int) ∈ TB := tb_i 1013 (by decide +kernel) (by decide +kernel)
theorem tw_1014 : Cond.methodLink RX10 195 yX10_tries ∈ TB := tb_i 1014 (by decide +kernel) (by decide +kernel)
theorem tw_1016 : Cond.instanceMethod yX10_tries ∈ TB := tb_i 1016 (by decide +kernel) (by decide +kernel)
theorem tw_1017 : Cond.code yX10_tries cX10_tries 7 none ∈ TB := tb_i 1017 (by decide +kernel) (by decide +kernel)
theorem tw_1018 : Cond.methodLink RL 72 yX10_shifts ∈ TB := tb_i 1018 (by decide +kernel) (by decide +kernel)
theorem tw_1019 : Cond.instanceMethod yX10_shifts ∈ TB := tb_i 1019 (by decide +kernel) (by decide +kernel)
theorem tw_1020 : Cond.selects RX10 yX10_shifts yX10_shifts ∈ TB := tb_i 1020 (by decide +kernel) (by decide +kernel)
theorem tw_1021 : Cond.code yX10_shifts cX10_shifts 4 (some Jvm.ClassFile.FieldType.int) ∈ TB := tb_i 1021 (by decide +kernel) (by decide +kernel)
theorem tw_1022 : Cond.methodLink RX10 198 yX10_shifted ∈ TB := tb_i 1022 (by decide +kernel) (by decide +kernel)
theorem tw_1024 : Cond.instanceMethod yX10_shifted ∈ TB := tb_i 1024 (by decide +kernel) (by decide +kernel)
theorem tw_1025 : Cond.code yX10_shifted cX10_shifted 10 (some Jvm.ClassFile.FieldType.long) ∈ TB := tb_i 1025 (by decide +kernel) (by decide +kernel)
theorem tw_1026 : Cond.methodLink RL 76 yX10_rank ∈ TB := tb_i 1026 (by decide +kernel) (by decide +kernel)
theorem tw_1027 : Cond.instanceMethod yX10_rank ∈ TB := tb_i 1027 (by decide +kernel) (by decide +kernel)
theorem tw_1028 : Cond.selects RX10 yX10_rank yX10_rank ∈ TB := tb_i 1028 (by decide +kernel) (by decide +kernel)
theorem tw_1029 : Cond.code yX10_rank cX10_rank 3 (some Jvm.ClassFile.FieldType.int) ∈ TB := tb_i 1029 (by decide +kernel) (by decide +kernel)
theorem tw_1030 : Cond.methodLink RX10 204 yX10_ranks ∈ TB := tb_i 1030 (by decide +kernel) (by decide +kernel)
theorem tw_1032 : Cond.instanceMethod yX10_ranks ∈ TB := tb_i 1032 (by decide +kernel) (by decide +kernel)
theorem tw_1033 : Cond.code yX10_ranks cX10_ranks 10 none ∈ TB := tb_i 1033 (by decide +kernel) (by decide +kernel)
theorem tw_1034 : Cond.methodLink RX10 128 yX10_ones ∈ TB := tb_i 1034 (by decide +kernel) (by decide +kernel)
theorem tw_1035 : Cond.static yX10_ones ∈ TB := tb_i 1035 (by decide +kernel) (by decide +kernel)
theorem tw_1036 : Cond.code yX10_ones cX10_ones 4 (some Jvm.ClassFile.FieldType.int) ∈ TB := tb_i 1036 (by decide +kernel) (by decide +kernel)
theorem tw_1037 : Cond.methodLink RX10 201 yX10_free ∈ TB := tb_i 1037 (by decide +kernel) (by decide +kernel)
theorem tw_1039 : Cond.instanceMethod yX10_free ∈ TB := tb_i 1039 (by decide +kernel) (by decide +kernel)
theorem tw_1040 : Cond.code yX10_free cX10_free 1 (some Jvm.ClassFile.FieldType.int) ∈ TB := tb_i 1040 (by decide +kernel) (by decide +kernel)
theorem tw_1041 : Cond.methodLink RL 80 yX10_ranked ∈ TB := tb_i 1041 (by decide +kernel) (by decide +kernel)
theorem tw_1042 : Cond.instanceMethod yX10_ranked ∈ TB := tb_i 1042 (by decide +kernel) (by decide +kernel)
theorem tw_1043 : Cond.selects RX10 yX10_ranked yX10_ranked ∈ TB := tb_i 1043 (by decide +kernel) (by decide +kernel)
theorem tw_1044 : Cond.code yX10_ranked cX10_ranked 3 (some Jvm.ClassFile.FieldType.int) ∈ TB := tb_i 1044 (by decide +kernel) (by decide +kernel)
theorem tw_1045 : Cond.methodLink RL 84 yX10_stage ∈ TB := tb_i 1045 (by decide +kernel) (by decide +kernel)
theorem tw_1046 : Cond.instanceMethod yX10_stage ∈ TB := tb_i 1046 (by decide +kernel) (by decide +kernel)
theorem tw_1047 : Cond.selects RX10 yX10_stage yX10_stage ∈ TB := tb_i 1047 (by decide +kernel) (by decide +kernel)
theorem tw_1048 : Cond.code yX10_stage cX10_stage 3 (some Jvm.ClassFile.FieldType.int) ∈ TB := tb_i 1048 (by decide +kernel) (by decide +kernel)
theorem tw_1049 : Cond.methodLink RL 88 yX10_shade ∈ TB := tb_i 1049 (by decide +kernel) (by decide +kernel)
theorem tw_1050 : Cond.instanceMethod yX10_shade ∈ TB := tb_i 1050 (by decide +kernel) (by decide +kernel)
theorem tw_1051 : Cond.selects RX10 yX10_shade yX10_shade ∈ TB := tb_i 1051 (by decide +kernel) (by decide +kernel)
theorem tw_1052 : Cond.code yX10_shade cX10_shade 3 (some Jvm.ClassFile.FieldType.int) ∈ TB := tb_i 1052 (by decide +kernel) (by decide +kernel)
theorem tw_1053 : Cond.methodLink RX10 210 yX10_gapOf ∈ TB := tb_i 1053 (by decide +kernel) (by decide +kernel)
theorem tw_1055 : Cond.instanceMethod yX10_gapOf ∈ TB := tb_i 1055 (by decide +kernel) (by decide +kernel)
theorem tw_1056 : Cond.code yX10_gapOf cX10_gapOf 6 (some Jvm.ClassFile.FieldType.int) ∈ TB := tb_i 1056 (by decide +kernel) (by decide +kernel)
theorem tw_1057 : Cond.methodLink RX10 207 yX10_isIn ∈ TB := tb_i 1057 (by decide +kernel) (by decide +kernel)
theorem tw_1059 : Cond.instanceMethod yX10_isIn ∈ TB := tb_i 1059 (by decide +kernel) (by decide +kernel)
theorem tw_1060 : Cond.code yX10_isIn cX10_isIn 3 (some Jvm.ClassFile.FieldType.boolean) ∈ TB := tb_i 1060 (by decide +kernel) (by decide +kernel)
theorem tw_1061 : Cond.methodLink RX10 213 yX10_holeOf ∈ TB := tb_i 1061 (by decide +kernel) (by decide +kernel)
theorem tw_1063 : Cond.instanceMethod yX10_holeOf ∈ TB := tb_i 1063 (by decide +kernel) (by decide +kernel)
theorem tw_1064 : Cond.code yX10_holeOf cX10_holeOf 6 (some Jvm.ClassFile.FieldType.int) ∈ TB := tb_i 1064 (by decide +kernel) (by decide +kernel)
theorem tw_1065 : Cond.methodLink RL 92 yX10_finest ∈ TB := tb_i 1065 (by decide +kernel) (by decide +kernel)
theorem tw_1066 : Cond.instanceMethod yX10_finest ∈ TB := tb_i 1066 (by decide +kernel) (by decide +kernel)
theorem tw_1067 : Cond.selects RX10 yX10_finest yX10_finest ∈ TB := tb_i 1067 (by decide +kernel) (by decide +kernel)
theorem tw_1068 : Cond.code yX10_finest cX10_finest 3 (some Jvm.ClassFile.FieldType.int) ∈ TB := tb_i 1068 (by decide +kernel) (by decide +kernel)
theorem tw_1069 : Cond.methodLink RL 96 yX10_paints ∈ TB := tb_i 1069 (by decide +kernel) (by decide +kernel)
theorem tw_1070 : Cond.instanceMethod yX10_paints ∈ TB := tb_i 1070 (by decide +kernel) (by decide +kernel)
theorem tw_1071 : Cond.selects RX10 yX10_paints yX10_paints ∈ TB := tb_i 1071 (by decide +kernel) (by decide +kernel)
theorem tw_1072 : Cond.code yX10_paints cX10_paints 4 (some Jvm.ClassFile.FieldType.int) ∈ TB := tb_i 1072 (by decide +kernel) (by decide +kernel)
theorem tw_1073 : Cond.methodLink RX10 222 yX10_printed ∈ TB := tb_i 1073 (by decide +kernel) (by decide +kernel)
theorem tw_1075 : Cond.instanceMethod yX10_printed ∈ TB := tb_i 1075 (by decide +kernel) (by decide +kernel)
theorem tw_1076 : Cond.code yX10_printed cX10_printed 3 (some Jvm.ClassFile.FieldType.int) ∈ TB := tb_i 1076 (by decide +kernel) (by decide +kernel)
theorem tw_1077 : Cond.methodLink RX10 219 yX10_isInk ∈ TB := tb_i 1077 (by decide +kernel) (by decide +kernel)
theorem tw_1079 : Cond.instanceMethod yX10_isInk ∈ TB := tb_i 1079 (by decide +kernel) (by decide +kernel)
theorem tw_1080 : Cond.code yX10_isInk cX10_isInk 2 (some Jvm.ClassFile.FieldType.boolean) ∈ TB := tb_i 1080 (by decide +kernel) (by decide +kernel)
theorem tw_1081 : Cond.methodLink RX10 216 yX10_level ∈ TB := tb_i 1081 (by decide +kernel) (by decide +kernel)
theorem tw_1083 : Cond.instanceMethod yX10_level ∈ TB := tb_i 1083 (by decide +kernel) (by decide +kernel)
theorem tw_1084 : Cond.code yX10_level cX10_level 3 (some Jvm.ClassFile.FieldType.int) ∈ TB := tb_i 1084 (by decide +kernel) (by decide +kernel)
theorem tw_1085 : Cond.methodLink RL 100 yX10_ink ∈ TB := tb_i 1085 (by decide +kernel) (by decide +kernel)
theorem tw_1086 : Cond.instanceMethod yX10_ink ∈ TB := tb_i 1086 (by decide +kernel) (by decide +kernel)
theorem tw_1087 : Cond.selects RX10 yX10_ink yX10_ink ∈ TB := tb_i 1087 (by decide +kernel) (by decide +kernel)
theorem tw_1088 : Cond.code yX10_ink cX10_ink 3 (some Jvm.ClassFile.FieldType.int) ∈ TB := tb_i 1088 (by decide +kernel) (by decide +kernel)
theorem tw_1089 : Cond.methodLink RL 104 yX10_off ∈ TB := tb_i 1089 (by decide +kernel) (by decide +kernel)
theorem tw_1090 : Cond.instanceMethod yX10_off ∈ TB := tb_i 1090 (by decide +kernel) (by decide +kernel)
theorem tw_1091 : Cond.selects RX10 yX10_off yX10_off ∈ TB := tb_i 1091 (by decide +kernel) (by decide +kernel)
theorem tw_1092 : Cond.code yX10_off cX10_off 3 (some Jvm.ClassFile.FieldType.int) ∈ TB := tb_i 1092 (by decide +kernel) (by decide +kernel)
theorem tw_1093 : Cond.methodLink RL 108 yX10_sees ∈ TB := tb_i 1093 (by decide +kernel) (by decide +kernel)
theorem tw_1094 : Cond.instanceMethod yX10_sees ∈ TB := tb_i 1094 (by decide +kernel) (by decide +kernel)
theorem tw_1095 : Cond.selects RX10 yX10_sees yX10_sees ∈ TB := tb_i 1095 (by decide +kernel) (by decide +kernel)
theorem tw_1096 : Cond.code yX10_sees cX10_sees 3 (some Jvm.ClassFile.FieldType.int) ∈ TB := tb_i 1096 (by decide +kernel) (by decide +kernel)
theorem tw_1097 : Cond.methodLink RL 112 yX10_forget ∈ TB := tb_i 1097 (by decide +kernel) (by decide +kernel)
theorem tw_1098 : Cond.instanceMethod yX10_forget ∈ TB := tb_i 1098 (by decide +kernel) (by decide +kernel)
theorem tw_1099 : Cond.selects RX10 yX10_forget yX10_forget ∈ TB := tb_i 1099 (by decide +kernel) (by decide +kernel)
theorem tw_1100 : Cond.code yX10_forget cX10_forget 2 (some Jvm.ClassFile.FieldType.int) ∈ TB := tb_i 1100 (by decide +kernel) (by decide +kernel)
theorem tw_1101 : Cond.methodLink RL 116 yX10_unseen ∈ TB := tb_i 1101 (by decide +kernel) (by decide +kernel)
theorem tw_1102 : Cond.instanceMethod yX10_unseen ∈ TB := tb_i 1102 (by decide +kernel) (by decide +kernel)
theorem tw_1103 : Cond.selects RX10 yX10_unseen yX10_unseen ∈ TB := tb_i 1103 (by decide +kernel) (by decide +kernel)
theorem tw_1104 : Cond.code yX10_unseen cX10_unseen 6 (some Jvm.ClassFile.FieldType.int) ∈ TB := tb_i 1104 (by decide +kernel) (by decide +kernel)
theorem tw_1105 : Cond.methodLink RX10 228 yX10_fits ∈ TB := tb_i 1105 (by decide +kernel) (by decide +kernel)
theorem tw_1107 : Cond.instanceMethod yX10_fits ∈ TB := tb_i 1107 (by decide +kernel) (by decide +kernel)
theorem tw_1108 : Cond.code yX10_fits cX10_fits 4 (some Jvm.ClassFile.FieldType.boolean) ∈ TB := tb_i 1108 (by decide +kernel) (by decide +kernel)
theorem tw_1109 : Cond.methodLink RX10 225 yX10_inLine ∈ TB := tb_i 1109 (by decide +kernel) (by decide +kernel)
theorem tw_1111 : Cond.instanceMethod yX10_inLine ∈ TB := tb_i 1111 (by decide +kernel) (by decide +kernel)
theorem tw_1112 : Cond.code yX10_inLine cX10_inLine 6 (some Jvm.ClassFile.FieldType.int) ∈ TB := tb_i 1112 (by decide +kernel) (by decide +kernel)
theorem tw_1113 : Cond.methodLink RL 120 yX10_keep ∈ TB := tb_i 1113 (by decide +kernel) (by decide +kernel)
theorem tw_1114 : Cond.instanceMethod yX10_keep ∈ TB := tb_i 1114 (by decide +kernel) (by decide +kernel)
theorem tw_1115 : Cond.selects RX10 yX10_keep yX10_keep ∈ TB := tb_i 1115 (by decide +kernel) (by decide +kernel)
theorem tw_1116 : Cond.code yX10_keep cX10_keep 2 (some Jvm.ClassFile.FieldType.int) ∈ TB := tb_i 1116 (by decide +kernel) (by decide +kernel)
theorem tw_1117 : Cond.methodLink RL 124 yX10_back ∈ TB := tb_i 1117 (by decide +kernel) (by decide +kernel)
theorem tw_1118 : Cond.instanceMethod yX10_back ∈ TB := tb_i 1118 (by decide +kernel) (by decide +kernel)
theorem tw_1119 : Cond.selects RX10 yX10_back yX10_back ∈ TB := tb_i 1119 (by decide +kernel) (by decide +kernel)
theorem tw_1120 : Cond.code yX10_back cX10_back 2 (some Jvm.ClassFile.FieldType.int) ∈ TB := tb_i 1120 (by decide +kernel) (by decide +kernel)
theorem tw_1121 : Cond.methodLink RL 128 yX10_count ∈ TB := tb_i 1121 (by decide +kernel) (by decide +kernel)
theorem tw_1122 : Cond.instanceMethod yX10_count ∈ TB := tb_i 1122 (by decide +kernel) (by decide +kernel)
theorem tw_1123 : Cond.selects RX10 yX10_count yX10_count ∈ TB := tb_i 1123 (by decide +kernel) (by decide +kernel)
theorem tw_1124 : Cond.code yX10_count cX10_count 2 (some Jvm.ClassFile.FieldType.int) ∈ TB := tb_i 1124 (by decide +kernel) (by decide +kernel)
theorem tp_0 : Cond.selects yX8_step.cls yX8_step yX8_step ∈ TB := tb_p 0 (by decide +kernel) (by decide +kernel)
theorem tp_1 : Cond.selects yX8_readDigits.cls yX8_readDigits yX8_readDigits ∈ TB := tb_p 1 (by decide +kernel) (by decide +kernel)
theorem tp_2 : Cond.selects yX8_readItem.cls yX8_readItem yX8_readItem ∈ TB := tb_p 2 (by decide +kernel) (by decide +kernel)
theorem tp_3 : Cond.selects yX8_readMeasures.cls yX8_readMeasures yX8_readMeasures ∈ TB := tb_p 3 (by decide +kernel) (by decide +kernel)
theorem tp_4 : Cond.selects yX8_stepToNumber.cls yX8_stepToNumber yX8_stepToNumber ∈ TB := tb_p 4 (by decide +kernel) (by decide +kernel)
theorem tp_5 : Cond.selects yX8_readKernel.cls yX8_readKernel yX8_readKernel ∈ TB := tb_p 5 (by decide +kernel) (by decide +kernel)
theorem tp_6 : Cond.selects yX8_readStretch.cls yX8_readStretch yX8_readStretch ∈ TB := tb_p 6 (by decide +kernel) (by decide +kernel)
theorem tp_7 : Cond.selects yX8_readCell.cls yX8_readCell yX8_readCell ∈ TB := tb_p 7 (by decide +kernel) (by decide +kernel)
theorem tp_8 : Cond.selects yX9_noDots.cls yX9_noDots yX9_noDots ∈ TB := tb_p 8 (by decide +kernel) (by decide +kernel)
theorem tp_9 : Cond.selects yX9_restStep.cls yX9_restStep yX9_restStep ∈ TB := tb_p 9 (by decide +kernel) (by decide +kernel)
theorem tp_10 : Cond.selects yX1_farthest.cls yX1_farthest yX1_farthest ∈ TB := tb_p 10 (by decide +kernel) (by decide +kernel)
theorem tp_11 : Cond.selects yX9_emptyCells.cls yX9_emptyCells yX9_emptyCells ∈ TB := tb_p 11 (by decide +kernel) (by decide +kernel)
theorem tp_12 : Cond.selects yX9_bestMove.cls yX9_bestMove yX9_bestMove ∈ TB := tb_p 12 (by decide +kernel) (by decide +kernel)
theorem tp_13 : Cond.selects yX9_gain.cls yX9_gain yX9_gain ∈ TB := tb_p 13 (by decide +kernel) (by decide +kernel)
theorem tp_14 : Cond.selects yX9_numberWithRanks.cls yX9_numberWithRanks yX9_numberWithRanks ∈ TB := tb_p 14 (by decide +kernel) (by decide +kernel)
theorem tp_15 : Cond.selects yX9_ranksNow.cls yX9_ranksNow yX9_ranksNow ∈ TB := tb_p 15 (by decide +kernel) (by decide +kernel)
theorem tp_16 : Cond.selects yX6_thin.cls yX6_thin yX6_thin ∈ TB := tb_p 16 (by decide +kernel) (by decide +kernel)
theorem tp_17 : Cond.selects yX6_give.cls yX6_give yX6_give ∈ TB := tb_p 17 (by decide +kernel) (by decide +kernel)
theorem tp_18 : Cond.selects yX6_fill.cls yX6_fill yX6_fill ∈ TB := tb_p 18 (by decide +kernel) (by decide +kernel)
theorem tp_19 : Cond.selects yX6_turn.cls yX6_turn yX6_turn ∈ TB := tb_p 19 (by decide +kernel) (by decide +kernel)
theorem tp_20 : Cond.selects yX6_nearestOf.cls yX6_nearestOf yX6_nearestOf ∈ TB := tb_p 20 (by decide +kernel) (by decide +kernel)
theorem tp_21 : Cond.selects yX9_pictureNow.cls yX9_pictureNow yX9_pictureNow ∈ TB := tb_p 21 (by decide +kernel) (by decide +kernel)
theorem tp_22 : Cond.selects yX4_levelOf.cls yX4_levelOf yX4_levelOf ∈ TB := tb_p 22 (by decide +kernel) (by decide +kernel)
theorem tp_23 : Cond.selects yX9_isLine.cls yX9_isLine yX9_isLine ∈ TB := tb_p 23 (by decide +kernel) (by decide +kernel)
theorem tp_24 : Cond.selects yX7_fits.cls yX7_fits yX7_fits ∈ TB := tb_p 24 (by decide +kernel) (by decide +kernel)
theorem tp_25 : Cond.selects yX7_cellsOn.cls yX7_cellsOn yX7_cellsOn ∈ TB := tb_p 25 (by decide +kernel) (by decide +kernel)
theorem tp_26 : Cond.selects yX10_begins.cls yX10_begins yX10_begins ∈ TB := tb_p 26 (by decide +kernel) (by decide +kernel)
theorem tp_27 : Cond.selects yX10_becomes.cls yX10_becomes yX10_becomes ∈ TB := tb_p 27 (by decide +kernel) (by decide +kernel)
theorem tp_28 : Cond.selects yX10_takes.cls yX10_takes yX10_takes ∈ TB := tb_p 28 (by decide +kernel) (by decide +kernel)
theorem tp_29 : Cond.selects yX10_isFigure.cls yX10_isFigure yX10_isFigure ∈ TB := tb_p 29 (by decide +kernel) (by decide +kernel)
theorem tp_30 : Cond.selects yX10_item.cls yX10_item yX10_item ∈ TB := tb_p 30 (by decide +kernel) (by decide +kernel)
theorem tp_31 : Cond.selects yX10_readsTo.cls yX10_readsTo yX10_readsTo ∈ TB := tb_p 31 (by decide +kernel) (by decide +kernel)
theorem tp_32 : Cond.selects yX10_reads.cls yX10_reads yX10_reads ∈ TB := tb_p 32 (by decide +kernel) (by decide +kernel)
theorem tp_33 : Cond.selects yX10_number.cls yX10_number yX10_number ∈ TB := tb_p 33 (by decide +kernel) (by decide +kernel)
theorem tp_34 : Cond.selects yX10_readsCell.cls yX10_readsCell yX10_readsCell ∈ TB := tb_p 34 (by decide +kernel) (by decide +kernel)
theorem tp_35 : Cond.selects yX10_isPlace.cls yX10_isPlace yX10_isPlace ∈ TB := tb_p 35 (by decide +kernel) (by decide +kernel)
theorem tp_36 : Cond.selects yX10_at.cls yX10_at yX10_at ∈ TB := tb_p 36 (by decide +kernel) (by decide +kernel)
theorem tp_37 : Cond.selects yX10_isCell.cls yX10_isCell yX10_isCell ∈ TB := tb_p 37 (by decide +kernel) (by decide +kernel)
theorem tp_38 : Cond.selects yX10_cells.cls yX10_cells yX10_cells ∈ TB := tb_p 38 (by decide +kernel) (by decide +kernel)
theorem tp_39 : Cond.selects yX10_distance.cls yX10_distance yX10_distance ∈ TB := tb_p 39 (by decide +kernel) (by decide +kernel)
theorem tp_40 : Cond.selects yX10_weight.cls yX10_weight yX10_weight ∈ TB := tb_p 40 (by decide +kernel) (by decide +kernel)
theorem tp_41 : Cond.selects yX10_notes.cls yX10_notes yX10_notes ∈ TB := tb_p 41 (by decide +kernel) (by decide +kernel)
theorem tp_42 : Cond.selects yX10_tightest.cls yX10_tightest yX10_tightest ∈ TB := tb_p 42 (by decide +kernel) (by decide +kernel)
theorem tp_43 : Cond.selects yX10_extremeOf.cls yX10_extremeOf yX10_extremeOf ∈ TB := tb_p 43 (by decide +kernel) (by decide +kernel)
theorem tp_44 : Cond.selects yX10_heldBy.cls yX10_heldBy yX10_heldBy ∈ TB := tb_p 44 (by decide +kernel) (by decide +kernel)
theorem tp_45 : Cond.selects yX10_emptiest.cls yX10_emptiest yX10_emptiest ∈ TB := tb_p 45 (by decide +kernel) (by decide +kernel)
theorem tp_46 : Cond.selects yX10_freeCells.cls yX10_freeCells yX10_freeCells ∈ TB := tb_p 46 (by decide +kernel) (by decide +kernel)
theorem tp_47 : Cond.selects yX10_isFree.cls yX10_isFree yX10_isFree ∈ TB := tb_p 47 (by decide +kernel) (by decide +kernel)
theorem tp_48 : Cond.selects yX10_energyOf.cls yX10_energyOf yX10_energyOf ∈ TB := tb_p 48 (by decide +kernel) (by decide +kernel)
theorem tp_49 : Cond.selects yX10_tries.cls yX10_tries yX10_tries ∈ TB := tb_p 49 (by decide +kernel) (by decide +kernel)
theorem tp_50 : Cond.selects yX10_shifted.cls yX10_shifted yX10_shifted ∈ TB := tb_p 50 (by decide +kernel) (by decide +kernel)
theorem tp_51 : Cond.selects yX10_ranks.cls yX10_ranks yX10_ranks ∈ TB := tb_p 51 (by decide +kernel) (by decide +kernel)
theorem tp_52 : Cond.selects yX10_free.cls yX10_free yX10_free ∈ TB := tb_p 52 (by decide +kernel) (by decide +kernel)
theorem tp_53 : Cond.selects yX10_gapOf.cls yX10_gapOf yX10_gapOf ∈ TB := tb_p 53 (by decide +kernel) (by decide +kernel)
theorem tp_54 : Cond.selects yX10_isIn.cls yX10_isIn yX10_isIn ∈ TB := tb_p 54 (by decide +kernel) (by decide +kernel)
theorem tp_55 : Cond.selects yX10_holeOf.cls yX10_holeOf yX10_holeOf ∈ TB := tb_p 55 (by decide +kernel) (by decide +kernel)
theorem tp_56 : Cond.selects yX10_printed.cls yX10_printed yX10_printed ∈ TB := tb_p 56 (by decide +kernel) (by decide +kernel)
theorem tp_57 : Cond.selects yX10_isInk.cls yX10_isInk yX10_isInk ∈ TB := tb_p 57 (by decide +kernel) (by decide +kernel)
theorem tp_58 : Cond.selects yX10_level.cls yX10_level yX10_level ∈ TB := tb_p 58 (by decide +kernel) (by decide +kernel)
theorem tp_59 : Cond.selects yX10_fits.cls yX10_fits yX10_fits ∈ TB := tb_p 59 (by decide +kernel) (by decide +kernel)
theorem tp_60 : Cond.selects yX10_inLine.cls yX10_inLine yX10_inLine ∈ TB := tb_p 60 (by decide +kernel) (by decide +kernel)
end
section
theorem dX0_init_0 : decode cX0_init 0 = .ok (.aload_n 0, 1) := by decide +kernel
theorem dX0_init_1 : decode cX0_init 1 = .ok (.invokespecial 3, 3) := by decide +kernel
theorem dX0_init_4 : decode cX0_init 4 = .ok (.aload_n 0, 1) := by decide +kernel
theorem dX0_init_5 : decode cX0_init 5 = .ok (.bipush 64, 2) := by decide +kernel
theorem dX0_init_7 : decode cX0_init 7 = .ok (.newarray .int, 2) := by decide +kernel
theorem dX0_init_9 : decode cX0_init 9 = .ok (.putfield 9, 3) := by decide +kernel
theorem dX0_init_12 : decode cX0_init 12 = .ok (.aload_n 0, 1) := by decide +kernel
theorem dX0_init_13 : decode cX0_init 13 = .ok (.bipush 64, 2) := by decide +kernel
theorem dX0_init_15 : decode cX0_init 15 = .ok (.newarray .int, 2) := by decide +kernel
theorem dX0_init_17 : decode cX0_init 17 = .ok (.putfield 15, 3) := by decide +kernel
theorem dX0_init_20 : decode cX0_init 20 = .ok (.aload_n 0, 1) := by decide +kernel
theorem dX0_init_21 : decode cX0_init 21 = .ok (.bipush 64, 2) := by decide +kernel
theorem dX0_init_23 : decode cX0_init 23 = .ok (.newarray .int, 2) := by decide +kernel
theorem dX0_init_25 : decode cX0_init 25 = .ok (.putfield 18, 3) := by decide +kernel
theorem dX0_init_28 : decode cX0_init 28 = .ok (.aload_n 0, 1) := by decide +kernel
theorem dX0_init_29 : decode cX0_init 29 = .ok (.bipush 64, 2) := by decide +kernel
theorem dX0_init_31 : decode cX0_init 31 = .ok (.newarray .int, 2) := by decide +kernel
theorem dX0_init_33 : decode cX0_init 33 = .ok (.putfield 21, 3) := by decide +kernel
theorem dX0_init_36 : decode cX0_init 36 = .ok (.aload_n 0, 1) := by decide +kernel
theorem dX0_init_37 : decode cX0_init 37 = .ok (.aload_n 1, 1) := by decide +kernel
theorem dX0_init_38 : decode cX0_init 38 = .ok (.putfield 24, 3) := by decide +kernel
theorem dX0_init_41 : decode cX0_init 41 = .ok (.aload_n 0, 1) := by decide +kernel
theorem dX0_init_42 : decode cX0_init 42 = .ok (.invokevirtual 28, 3) := by decide +kernel
theorem dX0_init_45 : decode cX0_init 45 = .ok (.return_, 1) := by decide +kernel
theorem dX0_lay_0 : decode cX0_lay 0 = .ok (.aload_n 0, 1) := by decide +kernel
theorem dX0_lay_1 : decode cX0_lay 1 = .ok (.iconst 0, 1) := by decide +kernel
theorem dX0_lay_2 : decode cX0_lay 2 = .ok (.putfield 31, 3) := by decide +kernel
theorem dX0_lay_5 : decode cX0_lay 5 = .ok (.iconst 0, 1) := by decide +kernel
theorem dX0_lay_6 : decode cX0_lay 6 = .ok (.istore_n 1, 1) := by decide +kernel
theorem dX0_lay_7 : decode cX0_lay 7 = .ok (.iload_n 1, 1) := by decide +kernel
theorem dX0_lay_8 : decode cX0_lay 8 = .ok (.aload_n 0, 1) := by decide +kernel
theorem dX0_lay_9 : decode cX0_lay 9 = .ok (.getfield 24, 3) := by decide +kernel
theorem dX0_lay_12 : decode cX0_lay 12 = .ok (.getfield 35, 3) := by decide +kernel
theorem dX0_lay_15 : decode cX0_lay 15 = .ok (.if_icmp .ge 111, 3) := by decide +kernel
theorem dX0_lay_18 : decode cX0_lay 18 = .ok (.iload_n 1, 1) := by decide +kernel
theorem dX0_lay_19 : decode cX0_lay 19 = .ok (.bipush 8, 2) := by decide +kernel
theorem dX0_lay_21 : decode cX0_lay 21 = .ok (.if_icmp .ge 105, 3) := by decide +kernel
theorem dX0_lay_24 : decode cX0_lay 24 = .ok (.iconst 0, 1) := by decide +kernel
theorem dX0_lay_25 : decode cX0_lay 25 = .ok (.istore_n 2, 1) := by decide +kernel
theorem dX0_lay_26 : decode cX0_lay 26 = .ok (.iload_n 2, 1) := by decide +kernel
theorem dX0_lay_27 : decode cX0_lay 27 = .ok (.aload_n 0, 1) := by decide +kernel
theorem dX0_lay_28 : decode cX0_lay 28 = .ok (.getfield 24, 3) := by decide +kernel
theorem dX0_lay_31 : decode cX0_lay 31 = .ok (.getfield 40, 3) := by decide +kernel
theorem dX0_lay_34 : decode cX0_lay 34 = .ok (.if_icmp .ge 86, 3) := by decide +kernel
theorem dX0_lay_37 : decode cX0_lay 37 = .ok (.iload_n 2, 1) := by decide +kernel
theorem dX0_lay_38 : decode cX0_lay 38 = .ok (.bipush 8, 2) := by decide +kernel
theorem dX0_lay_40 : decode cX0_lay 40 = .ok (.if_icmp .ge 80, 3) := by decide +kernel
theorem dX0_lay_43 : decode cX0_lay 43 = .ok (.aload_n 0, 1) := by decide +kernel
theorem dX0_lay_44 : decode cX0_lay 44 = .ok (.getfield 9, 3) := by decide +kernel
theorem dX0_lay_47 : decode cX0_lay 47 = .ok (.aload_n 0, 1) := by decide +kernel
theorem dX0_lay_48 : decode cX0_lay 48 = .ok (.getfield 31, 3) := by decide +kernel
theorem dX0_lay_51 : decode cX0_lay 51 = .ok (.iload_n 2, 1) := by decide +kernel
theorem dX0_lay_52 : decode cX0_lay 52 = .ok (.iastore, 1) := by decide +kernel
theorem dX0_lay_53 : decode cX0_lay 53 = .ok (.aload_n 0, 1) := by decide +kernel
theorem dX0_lay_54 : decode cX0_lay 54 = .ok (.getfield 15, 3) := by decide +kernel
theorem dX0_lay_57 : decode cX0_lay 57 = .ok (.aload_n 0, 1) := by decide +kernel
theorem dX0_lay_58 : decode cX0_lay 58 = .ok (.getfield 31, 3) := by decide +kernel
theorem dX0_lay_61 : decode cX0_lay 61 = .ok (.iload_n 1, 1) := by decide +kernel
theorem dX0_lay_62 : decode cX0_lay 62 = .ok (.iastore, 1) := by decide +kernel
theorem dX0_lay_63 : decode cX0_lay 63 = .ok (.aload_n 0, 1) := by decide +kernel
theorem dX0_lay_64 : decode cX0_lay 64 = .ok (.dup, 1) := by decide +kernel
theorem dX0_lay_65 : decode cX0_lay 65 = .ok (.getfield 31, 3) := by decide +kernel
theorem dX0_lay_68 : decode cX0_lay 68 = .ok (.iconst 1, 1) := by decide +kernel
theorem dX0_lay_69 : decode cX0_lay 69 = .ok (.iadd, 1) := by decide +kernel
theorem dX0_lay_70 : decode cX0_lay 70 = .ok (.putfield 31, 3) := by decide +kernel
theorem dX0_lay_73 : decode cX0_lay 73 = .ok (.aload_n 0, 1) := by decide +kernel
theorem dX0_lay_74 : decode cX0_lay 74 = .ok (.getfield 24, 3) := by decide +kernel
theorem dX0_lay_77 : decode cX0_lay 77 = .ok (.iload_n 2, 1) := by decide +kernel
theorem dX0_lay_78 : decode cX0_lay 78 = .ok (.iload_n 1, 1) := by decide +kernel
theorem dX0_lay_79 : decode cX0_lay 79 = .ok (.invokevirtual 43, 3) := by decide +kernel
theorem dX0_lay_82 : decode cX0_lay 82 = .ok (.istore_n 3, 1) := by decide +kernel
theorem dX0_lay_83 : decode cX0_lay 83 = .ok (.aload_n 0, 1) := by decide +kernel
theorem dX0_lay_84 : decode cX0_lay 84 = .ok (.getfield 18, 3) := by decide +kernel
theorem dX0_lay_87 : decode cX0_lay 87 = .ok (.bipush 8, 2) := by decide +kernel
theorem dX0_lay_89 : decode cX0_lay 89 = .ok (.iload_n 1, 1) := by decide +kernel
theorem dX0_lay_90 : decode cX0_lay 90 = .ok (.imul, 1) := by decide +kernel
theorem dX0_lay_91 : decode cX0_lay 91 = .ok (.iload_n 2, 1) := by decide +kernel
theorem dX0_lay_92 : decode cX0_lay 92 = .ok (.iadd, 1) := by decide +kernel
theorem dX0_lay_93 : decode cX0_lay 93 = .ok (.iload_n 3, 1) := by decide +kernel
theorem dX0_lay_94 : decode cX0_lay 94 = .ok (.iastore, 1) := by decide +kernel
theorem dX0_lay_95 : decode cX0_lay 95 = .ok (.aload_n 0, 1) := by decide +kernel
theorem dX0_lay_96 : decode cX0_lay 96 = .ok (.getfield 21, 3) := by decide +kernel
theorem dX0_lay_99 : decode cX0_lay 99 = .ok (.bipush 8, 2) := by decide +kernel
theorem dX0_lay_101 : decode cX0_lay 101 = .ok (.iload_n 1, 1) := by decide +kernel
theorem dX0_lay_102 : decode cX0_lay 102 = .ok (.imul, 1) := by decide +kernel
theorem dX0_lay_103 : decode cX0_lay 103 = .ok (.iload_n 2, 1) := by decide +kernel
theorem dX0_lay_104 : decode cX0_lay 104 = .ok (.iadd, 1) := by decide +kernel
theorem dX0_lay_105 : decode cX0_lay 105 = .ok (.aload_n 0, 1) := by decide +kernel
theorem dX0_lay_106 : decode cX0_lay 106 = .ok (.getfield 24, 3) := by decide +kernel
theorem dX0_lay_109 : decode cX0_lay 109 = .ok (.iload_n 3, 1) := by decide +kernel
theorem dX0_lay_110 : decode cX0_lay 110 = .ok (.invokevirtual 47, 3) := by decide +kernel
theorem dX0_lay_113 : decode cX0_lay 113 = .ok (.iastore, 1) := by decide +kernel
theorem dX0_lay_114 : decode cX0_lay 114 = .ok (.iinc 2 1, 3) := by decide +kernel
theorem dX0_lay_117 : decode cX0_lay 117 = .ok (.goto (-91), 3) := by decide +kernel
theorem dX0_lay_120 : decode cX0_lay 120 = .ok (.iinc 1 1, 3) := by decide +kernel
theorem dX0_lay_123 : decode cX0_lay 123 = .ok (.goto (-116), 3) := by decide +kernel
theorem dX0_lay_126 : decode cX0_lay 126 = .ok (.aload_n 0, 1) := by decide +kernel
theorem dX0_lay_127 : decode cX0_lay 127 = .ok (.ldc2_w 51, 3) := by decide +kernel
theorem dX0_lay_130 : decode cX0_lay 130 = .ok (.bipush 64, 2) := by decide +kernel
theorem dX0_lay_132 : decode cX0_lay 132 = .ok (.aload_n 0, 1) := by decide +kernel
theorem dX0_lay_133 : decode cX0_lay 133 = .ok (.getfield 31, 3) := by decide +kernel
theorem dX0_lay_136 : decode cX0_lay 136 = .ok (.isub, 1) := by decide +kernel
theorem dX0_lay_137 : decode cX0_lay 137 = .ok (.lushr, 1) := by decide +kernel
theorem dX0_lay_138 : decode cX0_lay 138 = .ok (.aload_n 0, 1) := by decide +kernel
theorem dX0_lay_139 : decode cX0_lay 139 = .ok (.getfield 24, 3) := by decide +kernel
theorem dX0_lay_142 : decode cX0_lay 142 = .ok (.getfield 53, 3) := by decide +kernel
theorem dX0_lay_145 : decode cX0_lay 145 = .ok (.ldc2_w 51, 3) := by decide +kernel
theorem dX0_lay_148 : decode cX0_lay 148 = .ok (.lxor, 1) := by decide +kernel
theorem dX0_lay_149 : decode cX0_lay 149 = .ok (.land, 1) := by decide +kernel
theorem dX0_lay_150 : decode cX0_lay 150 = .ok (.putfield 57, 3) := by decide +kernel
theorem dX0_lay_153 : decode cX0_lay 153 = .ok (.aload_n 0, 1) := by decide +kernel
theorem dX0_lay_154 : decode cX0_lay 154 = .ok (.aload_n 0, 1) := by decide +kernel
theorem dX0_lay_155 : decode cX0_lay 155 = .ok (.getfield 57, 3) := by decide +kernel
theorem dX0_lay_158 : decode cX0_lay 158 = .ok (.invokestatic 60, 3) := by decide +kernel
theorem dX0_lay_161 : decode cX0_lay 161 = .ok (.putfield 66, 3) := by decide +kernel
theorem dX0_lay_164 : decode cX0_lay 164 = .ok (.return_, 1) := by decide +kernel
theorem dX0_isCell_0 : decode cX0_isCell 0 = .ok (.iload_n 1, 1) := by decide +kernel
theorem dX0_isCell_1 : decode cX0_isCell 1 = .ok (.ifCond .lt 15, 3) := by decide +kernel
theorem dX0_isCell_4 : decode cX0_isCell 4 = .ok (.iload_n 1, 1) := by decide +kernel
theorem dX0_isCell_5 : decode cX0_isCell 5 = .ok (.aload_n 0, 1) := by decide +kernel
theorem dX0_isCell_6 : decode cX0_isCell 6 = .ok (.getfield 31, 3) := by decide +kernel
theorem dX0_isCell_9 : decode cX0_isCell 9 = .ok (.if_icmp .ge 7, 3) := by decide +kernel
theorem dX0_isCell_12 : decode cX0_isCell 12 = .ok (.iconst 1, 1) := by decide +kernel
theorem dX0_isCell_13 : decode cX0_isCell 13 = .ok (.goto 4, 3) := by decide +kernel
theorem dX0_isCell_16 : decode cX0_isCell 16 = .ok (.iconst 0, 1) := by decide +kernel
theorem dX0_isCell_17 : decode cX0_isCell 17 = .ok (.ireturn, 1) := by decide +kernel
theorem dX0_columnOf_0 : decode cX0_columnOf 0 = .ok (.aload_n 0, 1) := by decide +kernel
theorem dX0_columnOf_1 : decode cX0_columnOf 1 = .ok (.iload_n 1, 1) := by decide +kernel
theorem dX0_columnOf_2 : decode cX0_columnOf 2 = .ok (.invokevirtual 69, 3) := by decide +kernel
theorem dX0_columnOf_5 : decode cX0_columnOf 5 = .ok (.ifCond .eq 12, 3) := by decide +kernel
theorem dX0_columnOf_8 : decode cX0_columnOf 8 = .ok (.aload_n 0, 1) := by decide +kernel
theorem dX0_columnOf_9 : decode cX0_columnOf 9 = .ok (.getfield 9, 3) := by decide +kernel
theorem dX0_columnOf_12 : decode cX0_columnOf 12 = .ok (.iload_n 1, 1) := by decide +kernel
theorem dX0_columnOf_13 : decode cX0_columnOf 13 = .ok (.iaload, 1) := by decide +kernel
theorem dX0_columnOf_14 : decode cX0_columnOf 14 = .ok (.goto 4, 3) := by decide +kernel
theorem dX0_columnOf_17 : decode cX0_columnOf 17 = .ok (.iconst 0, 1) := by decide +kernel
theorem dX0_columnOf_18 : decode cX0_columnOf 18 = .ok (.ireturn, 1) := by decide +kernel
theorem dX0_lineOf_0 : decode cX0_lineOf 0 = .ok (.aload_n 0, 1) := by decide +kernel
theorem dX0_lineOf_1 : decode cX0_lineOf 1 = .ok (.iload_n 1, 1) := by decide +kernel
theorem dX0_lineOf_2 : decode cX0_lineOf 2 = .ok (.invokevirtual 69, 3) := by decide +kernel
theorem dX0_lineOf_5 : decode cX0_lineOf 5 = .ok (.ifCond .eq 12, 3) := by decide +kernel
theorem dX0_lineOf_8 : decode cX0_lineOf 8 = .ok (.aload_n 0, 1) := by decide +kernel
theorem dX0_lineOf_9 : decode cX0_lineOf 9 = .ok (.getfield 15, 3) := by decide +kernel
theorem dX0_lineOf_12 : decode cX0_lineOf 12 = .ok (.iload_n 1, 1) := by decide +kernel
theorem dX0_lineOf_13 : decode cX0_lineOf 13 = .ok (.iaload, 1) := by decide +kernel
theorem dX0_lineOf_14 : decode cX0_lineOf 14 = .ok (.goto 4, 3) := by decide +kernel
theorem dX0_lineOf_17 : decode cX0_lineOf 17 = .ok (.iconst 0, 1) := by decide +kernel
theorem dX0_lineOf_18 : decode cX0_lineOf 18 = .ok (.ireturn, 1) := by decide +kernel
theorem dX0_distance_0 : decode cX0_distance 0 = .ok (.aload_n 0, 1) := by decide +kernel
theorem dX0_distance_1 : decode cX0_distance 1 = .ok (.iload_n 1, 1) := by decide +kernel
theorem dX0_distance_2 : decode cX0_distance 2 = .ok (.invokevirtual 69, 3) := by decide +kernel
theorem dX0_distance_5 : decode cX0_distance 5 = .ok (.ifCond .eq 11, 3) := by decide +kernel
theorem dX0_distance_8 : decode cX0_distance 8 = .ok (.aload_n 0, 1) := by decide +kernel
theorem dX0_distance_9 : decode cX0_distance 9 = .ok (.iload_n 2, 1) := by decide +kernel
theorem dX0_distance_10 : decode cX0_distance 10 = .ok (.invokevirtual 69, 3) := by decide +kernel
theorem dX0_distance_13 : decode cX0_distance 13 = .ok (.ifCond .ne 5, 3) := by decide +kernel
theorem dX0_distance_16 : decode cX0_distance 16 = .ok (.iconst 0, 1) := by decide +kernel
theorem dX0_distance_17 : decode cX0_distance 17 = .ok (.ireturn, 1) := by decide +kernel
theorem dX0_distance_18 : decode cX0_distance 18 = .ok (.aload_n 0, 1) := by decide +kernel
theorem dX0_distance_19 : decode cX0_distance 19 = .ok (.getfield 18, 3) := by decide +kernel
theorem dX0_distance_22 : decode cX0_distance 22 = .ok (.bipush 8, 2) := by decide +kernel
theorem dX0_distance_24 : decode cX0_distance 24 = .ok (.aload_n 0, 1) := by decide +kernel
theorem dX0_distance_25 : decode cX0_distance 25 = .ok (.getfield 15, 3) := by decide +kernel
theorem dX0_distance_28 : decode cX0_distance 28 = .ok (.iload_n 1, 1) := by decide +kernel
theorem dX0_distance_29 : decode cX0_distance 29 = .ok (.iaload, 1) := by decide +kernel
theorem dX0_distance_30 : decode cX0_distance 30 = .ok (.aload_n 0, 1) := by decide +kernel
theorem dX0_distance_31 : decode cX0_distance 31 = .ok (.getfield 15, 3) := by decide +kernel
theorem dX0_distance_34 : decode cX0_distance 34 = .ok (.iload_n 2, 1) := by decide +kernel
theorem dX0_distance_35 : decode cX0_distance 35 = .ok (.iaload, 1) := by decide +kernel
theorem dX0_distance_36 : decode cX0_distance 36 = .ok (.isub, 1) := by decide +kernel
theorem dX0_distance_37 : decode cX0_distance 37 = .ok (.invokestatic 73, 3) := by decide +kernel
theorem dX0_distance_40 : decode cX0_distance 40 = .ok (.imul, 1) := by decide +kernel
theorem dX0_distance_41 : decode cX0_distance 41 = .ok (.aload_n 0, 1) := by decide +kernel
theorem dX0_distance_42 : decode cX0_distance 42 = .ok (.getfield 9, 3) := by decide +kernel
theorem dX0_distance_45 : decode cX0_distance 45 = .ok (.iload_n 1, 1) := by decide +kernel
theorem dX0_distance_46 : decode cX0_distance 46 = .ok (.iaload, 1) := by decide +kernel
theorem dX0_distance_47 : decode cX0_distance 47 = .ok (.aload_n 0, 1) := by decide +kernel
theorem dX0_distance_48 : decode cX0_distance 48 = .ok (.getfield 9, 3) := by decide +kernel
theorem dX0_distance_51 : decode cX0_distance 51 = .ok (.iload_n 2, 1) := by decide +kernel
theorem dX0_distance_52 : decode cX0_distance 52 = .ok (.iaload, 1) := by decide +kernel
theorem dX0_distance_53 : decode cX0_distance 53 = .ok (.isub, 1) := by decide +kernel
theorem dX0_distance_54 : decode cX0_distance 54 = .ok (.invokestatic 73, 3) := by decide +kernel
theorem dX0_distance_57 : decode cX0_distance 57 = .ok (.iadd, 1) := by decide +kernel
theorem dX0_distance_58 : decode cX0_distance 58 = .ok (.iaload, 1) := by decide +kernel
theorem dX0_distance_59 : decode cX0_distance 59 = .ok (.ireturn, 1) := by decide +kernel
theorem dX0_weight_0 : decode cX0_weight 0 = .ok (.aload_n 0, 1) := by decide +kernel
theorem dX0_weight_1 : decode cX0_weight 1 = .ok (.iload_n 1, 1) := by decide +kernel
theorem dX0_weight_2 : decode cX0_weight 2 = .ok (.invokevirtual 69, 3) := by decide +kernel
theorem dX0_weight_5 : decode cX0_weight 5 = .ok (.ifCond .eq 11, 3) := by decide +kernel
theorem dX0_weight_8 : decode cX0_weight 8 = .ok (.aload_n 0, 1) := by decide +kernel
theorem dX0_weight_9 : decode cX0_weight 9 = .ok (.iload_n 2, 1) := by decide +kernel
theorem dX0_weight_10 : decode cX0_weight 10 = .ok (.invokevirtual 69, 3) := by decide +kernel
theorem dX0_weight_13 : decode cX0_weight 13 = .ok (.ifCond .ne 5, 3) := by decide +kernel
theorem dX0_weight_16 : decode cX0_weight 16 = .ok (.iconst 0, 1) := by decide +kernel
theorem dX0_weight_17 : decode cX0_weight 17 = .ok (.ireturn, 1) := by decide +kernel
theorem dX0_weight_18 : decode cX0_weight 18 = .ok (.aload_n 0, 1) := by decide +kernel
theorem dX0_weight_19 : decode cX0_weight 19 = .ok (.getfield 21, 3) := by decide +kernel
theorem dX0_weight_22 : decode cX0_weight 22 = .ok (.bipush 8, 2) := by decide +kernel
theorem dX0_weight_24 : decode cX0_weight 24 = .ok (.aload_n 0, 1) := by decide +kernel
theorem dX0_weight_25 : decode cX0_weight 25 = .ok (.getfield 15, 3) := by decide +kernel
theorem dX0_weight_28 : decode cX0_weight 28 = .ok (.iload_n 1, 1) := by decide +kernel
theorem dX0_weight_29 : decode cX0_weight 29 = .ok (.iaload, 1) := by decide +kernel
theorem dX0_weight_30 : decode cX0_weight 30 = .ok (.aload_n 0, 1) := by decide +kernel
theorem dX0_weight_31 : decode cX0_weight 31 = .ok (.getfield 15, 3) := by decide +kernel
theorem dX0_weight_34 : decode cX0_weight 34 = .ok (.iload_n 2, 1) := by decide +kernel
theorem dX0_weight_35 : decode cX0_weight 35 = .ok (.iaload, 1) := by decide +kernel
theorem dX0_weight_36 : decode cX0_weight 36 = .ok (.isub, 1) := by decide +kernel
theorem dX0_weight_37 : decode cX0_weight 37 = .ok (.invokestatic 73, 3) := by decide +kernel
theorem dX0_weight_40 : decode cX0_weight 40 = .ok (.imul, 1) := by decide +kernel
theorem dX0_weight_41 : decode cX0_weight 41 = .ok (.aload_n 0, 1) := by decide +kernel
theorem dX0_weight_42 : decode cX0_weight 42 = .ok (.getfield 9, 3) := by decide +kernel
theorem dX0_weight_45 : decode cX0_weight 45 = .ok (.iload_n 1, 1) := by decide +kernel
theorem dX0_weight_46 : decode cX0_weight 46 = .ok (.iaload, 1) := by decide +kernel
theorem dX0_weight_47 : decode cX0_weight 47 = .ok (.aload_n 0, 1) := by decide +kernel
theorem dX0_weight_48 : decode cX0_weight 48 = .ok (.getfield 9, 3) := by decide +kernel
theorem dX0_weight_51 : decode cX0_weight 51 = .ok (.iload_n 2, 1) := by decide +kernel
theorem dX0_weight_52 : decode cX0_weight 52 = .ok (.iaload, 1) := by decide +kernel
theorem dX0_weight_53 : decode cX0_weight 53 = .ok (.isub, 1) := by decide +kernel
theorem dX0_weight_54 : decode cX0_weight 54 = .ok (.invokestatic 73, 3) := by decide +kernel
theorem dX0_weight_57 : decode cX0_weight 57 = .ok (.iadd, 1) := by decide +kernel
theorem dX0_weight_58 : decode cX0_weight 58 = .ok (.iaload, 1) := by decide +kernel
theorem dX0_weight_59 : decode cX0_weight 59 = .ok (.ireturn, 1) := by decide +kernel
theorem dX0_lieOnThemselves_0 : decode cX0_lieOnThemselves 0 = .ok (.iconst 0, 1) := by decide +kernel
theorem dX0_lieOnThemselves_1 : decode cX0_lieOnThemselves 1 = .ok (.istore 5, 2) := by decide +kernel
theorem dX0_lieOnThemselves_3 : decode cX0_lieOnThemselves 3 = .ok (.iload 5, 2) := by decide +kernel
theorem dX0_lieOnThemselves_5 : decode cX0_lieOnThemselves 5 = .ok (.aload_n 0, 1) := by decide +kernel
theorem dX0_lieOnThemselves_6 : decode cX0_lieOnThemselves 6 = .ok (.getfield 31, 3) := by decide +kernel
theorem dX0_lieOnThemselves_9 : decode cX0_lieOnThemselves 9 = .ok (.if_icmp .ge 78, 3) := by decide +kernel
theorem dX0_lieOnThemselves_12 : decode cX0_lieOnThemselves 12 = .ok (.aload_n 0, 1) := by decide +kernel
theorem dX0_lieOnThemselves_13 : decode cX0_lieOnThemselves 13 = .ok (.getfield 9, 3) := by decide +kernel
theorem dX0_lieOnThemselves_16 : decode cX0_lieOnThemselves 16 = .ok (.iload 5, 2) := by decide +kernel
theorem dX0_lieOnThemselves_18 : decode cX0_lieOnThemselves 18 = .ok (.iaload, 1) := by decide +kernel
theorem dX0_lieOnThemselves_19 : decode cX0_lieOnThemselves 19 = .ok (.iload_n 3, 1) := by decide +kernel
theorem dX0_lieOnThemselves_20 : decode cX0_lieOnThemselves 20 = .ok (.iadd, 1) := by decide +kernel
theorem dX0_lieOnThemselves_21 : decode cX0_lieOnThemselves 21 = .ok (.aload_n 0, 1) := by decide +kernel
theorem dX0_lieOnThemselves_22 : decode cX0_lieOnThemselves 22 = .ok (.getfield 24, 3) := by decide +kernel
theorem dX0_lieOnThemselves_25 : decode cX0_lieOnThemselves 25 = .ok (.getfield 40, 3) := by decide +kernel
theorem dX0_lieOnThemselves_28 : decode cX0_lieOnThemselves 28 = .ok (.invokestatic 78, 3) := by decide +kernel
theorem dX0_lieOnThemselves_31 : decode cX0_lieOnThemselves 31 = .ok (.istore 6, 2) := by decide +kernel
theorem dX0_lieOnThemselves_33 : decode cX0_lieOnThemselves 33 = .ok (.aload_n 0, 1) := by decide +kernel
theorem dX0_lieOnThemselves_34 : decode cX0_lieOnThemselves 34 = .ok (.getfield 15, 3) := by decide +kernel
theorem dX0_lieOnThemselves_37 : decode cX0_lieOnThemselves 37 = .ok (.iload 5, 2) := by decide +kernel
theorem dX0_lieOnThemselves_39 : decode cX0_lieOnThemselves 39 = .ok (.iaload, 1) := by decide +kernel
theorem dX0_lieOnThemselves_40 : decode cX0_lieOnThemselves 40 = .ok (.iload 4, 2) := by decide +kernel
theorem dX0_lieOnThemselves_42 : decode cX0_lieOnThemselves 42 = .ok (.iadd, 1) := by decide +kernel
theorem dX0_lieOnThemselves_43 : decode cX0_lieOnThemselves 43 = .ok (.aload_n 0, 1) := by decide +kernel
theorem dX0_lieOnThemselves_44 : decode cX0_lieOnThemselves 44 = .ok (.getfield 24, 3) := by decide +kernel
theorem dX0_lieOnThemselves_47 : decode cX0_lieOnThemselves 47 = .ok (.getfield 35, 3) := by decide +kernel
theorem dX0_lieOnThemselves_50 : decode cX0_lieOnThemselves 50 = .ok (.invokestatic 78, 3) := by decide +kernel
theorem dX0_lieOnThemselves_53 : decode cX0_lieOnThemselves 53 = .ok (.istore 7, 2) := by decide +kernel
theorem dX0_lieOnThemselves_55 : decode cX0_lieOnThemselves 55 = .ok (.lload_n 1, 1) := by decide +kernel
theorem dX0_lieOnThemselves_56 : decode cX0_lieOnThemselves 56 = .ok (.iload 5, 2) := by decide +kernel
theorem dX0_lieOnThemselves_58 : decode cX0_lieOnThemselves 58 = .ok (.invokestatic 81, 3) := by decide +kernel
theorem dX0_lieOnThemselves_61 : decode cX0_lieOnThemselves 61 = .ok (.lload_n 1, 1) := by decide +kernel
theorem dX0_lieOnThemselves_62 : decode cX0_lieOnThemselves 62 = .ok (.aload_n 0, 1) := by decide +kernel
theorem dX0_lieOnThemselves_63 : decode cX0_lieOnThemselves 63 = .ok (.getfield 24, 3) := by decide +kernel
theorem dX0_lieOnThemselves_66 : decode cX0_lieOnThemselves 66 = .ok (.iload 6, 2) := by decide +kernel
theorem dX0_lieOnThemselves_68 : decode cX0_lieOnThemselves 68 = .ok (.iload 7, 2) := by decide +kernel
theorem dX0_lieOnThemselves_70 : decode cX0_lieOnThemselves 70 = .ok (.invokevirtual 85, 3) := by decide +kernel
theorem dX0_lieOnThemselves_73 : decode cX0_lieOnThemselves 73 = .ok (.invokestatic 81, 3) := by decide +kernel
theorem dX0_lieOnThemselves_76 : decode cX0_lieOnThemselves 76 = .ok (.if_icmp .eq 5, 3) := by decide +kernel
theorem dX0_lieOnThemselves_79 : decode cX0_lieOnThemselves 79 = .ok (.iconst 0, 1) := by decide +kernel
theorem dX0_lieOnThemselves_80 : decode cX0_lieOnThemselves 80 = .ok (.ireturn, 1) := by decide +kernel
theorem dX0_lieOnThemselves_81 : decode cX0_lieOnThemselves 81 = .ok (.iinc 5 1, 3) := by decide +kernel
theorem dX0_lieOnThemselves_84 : decode cX0_lieOnThemselves 84 = .ok (.goto (-81), 3) := by decide +kernel
theorem dX0_lieOnThemselves_87 : decode cX0_lieOnThemselves 87 = .ok (.iconst 1, 1) := by decide +kernel
theorem dX0_lieOnThemselves_88 : decode cX0_lieOnThemselves 88 = .ok (.ireturn, 1) := by decide +kernel
theorem dX0_wrapped_0 : decode cX0_wrapped 0 = .ok (.iload_n 0, 1) := by decide +kernel
theorem dX0_wrapped_1 : decode cX0_wrapped 1 = .ok (.iload_n 1, 1) := by decide +kernel
theorem dX0_wrapped_2 : decode cX0_wrapped 2 = .ok (.if_icmp .ge 7, 3) := by decide +kernel
theorem dX0_wrapped_5 : decode cX0_wrapped 5 = .ok (.iload_n 0, 1) := by decide +kernel
theorem dX0_wrapped_6 : decode cX0_wrapped 6 = .ok (.goto 6, 3) := by decide +kernel
theorem dX0_wrapped_9 : decode cX0_wrapped 9 = .ok (.iload_n 0, 1) := by decide +kernel
theorem dX0_wrapped_10 : decode cX0_wrapped 10 = .ok (.iload_n 1, 1) := by decide +kernel
theorem dX0_wrapped_11 : decode cX0_wrapped 11 = .ok (.isub, 1) := by decide +kernel
theorem dX0_wrapped_12 : decode cX0_wrapped 12 = .ok (.ireturn, 1) := by decide +kernel
theorem dX1_init_0 : decode cX1_init 0 = .ok (.aload_n 0, 1) := by decide +kernel
theorem dX1_init_1 : decode cX1_init 1 = .ok (.invokespecial 3, 3) := by decide +kernel
theorem dX1_init_4 : decode cX1_init 4 = .ok (.aload_n 0, 1) := by decide +kernel
theorem dX1_init_5 : decode cX1_init 5 = .ok (.bipush 64, 2) := by decide +kernel
theorem dX1_init_7 : decode cX1_init 7 = .ok (.newarray .int, 2) := by decide +kernel
theorem dX1_init_9 : decode cX1_init 9 = .ok (.putfield 9, 3) := by decide +kernel
theorem dX1_init_12 : decode cX1_init 12 = .ok (.aload_n 0, 1) := by decide +kernel
theorem dX1_init_13 : decode cX1_init 13 = .ok (.aload_n 1, 1) := by decide +kernel
theorem dX1_init_14 : decode cX1_init 14 = .ok (.putfield 15, 3) := by decide +kernel
theorem dX1_init_17 : decode cX1_init 17 = .ok (.return_, 1) := by decide +kernel
theorem dX1_begin_0 : decode cX1_begin 0 = .ok (.aload_n 0, 1) := by decide +kernel
theorem dX1_begin_1 : decode cX1_begin 1 = .ok (.getfield 9, 3) := by decide +kernel
theorem dX1_begin_4 : decode cX1_begin 4 = .ok (.iconst 0, 1) := by decide +kernel
theorem dX1_begin_5 : decode cX1_begin 5 = .ok (.invokestatic 19, 3) := by decide +kernel
theorem dX1_begin_8 : decode cX1_begin 8 = .ok (.aload_n 0, 1) := by decide +kernel
theorem dX1_begin_9 : decode cX1_begin 9 = .ok (.lconst 0, 1) := by decide +kernel
theorem dX1_begin_10 : decode cX1_begin 10 = .ok (.putfield 25, 3) := by decide +kernel
theorem dX1_begin_13 : decode cX1_begin 13 = .ok (.aload_n 0, 1) := by decide +kernel
theorem dX1_begin_14 : decode cX1_begin 14 = .ok (.lload_n 1, 1) := by decide +kernel
theorem dX1_begin_15 : decode cX1_begin 15 = .ok (.invokevirtual 29, 3) := by decide +kernel
theorem dX1_begin_18 : decode cX1_begin 18 = .ok (.return_, 1) := by decide +kernel
theorem dX1_become_0 : decode cX1_become 0 = .ok (.aload_n 0, 1) := by decide +kernel
theorem dX1_become_1 : decode cX1_become 1 = .ok (.getfield 25, 3) := by decide +kernel
theorem dX1_become_4 : decode cX1_become 4 = .ok (.lload_n 1, 1) := by decide +kernel
theorem dX1_become_5 : decode cX1_become 5 = .ok (.lxor, 1) := by decide +kernel
theorem dX1_become_6 : decode cX1_become 6 = .ok (.lstore_n 3, 1) := by decide +kernel
theorem dX1_become_7 : decode cX1_become 7 = .ok (.iconst 0, 1) := by decide +kernel
theorem dX1_become_8 : decode cX1_become 8 = .ok (.istore 5, 2) := by decide +kernel
theorem dX1_become_10 : decode cX1_become 10 = .ok (.iload 5, 2) := by decide +kernel
theorem dX1_become_12 : decode cX1_become 12 = .ok (.aload_n 0, 1) := by decide +kernel
theorem dX1_become_13 : decode cX1_become 13 = .ok (.getfield 15, 3) := by decide +kernel
theorem dX1_become_16 : decode cX1_become 16 = .ok (.getfield 33, 3) := by decide +kernel
theorem dX1_become_19 : decode cX1_become 19 = .ok (.if_icmp .ge 24, 3) := by decide +kernel
theorem dX1_become_22 : decode cX1_become 22 = .ok (.lload_n 3, 1) := by decide +kernel
theorem dX1_become_23 : decode cX1_become 23 = .ok (.iload 5, 2) := by decide +kernel
theorem dX1_become_25 : decode cX1_become 25 = .ok (.invokestatic 39, 3) := by decide +kernel
theorem dX1_become_28 : decode cX1_become 28 = .ok (.ifCond .eq 9, 3) := by decide +kernel
theorem dX1_become_31 : decode cX1_become 31 = .ok (.aload_n 0, 1) := by decide +kernel
theorem dX1_become_32 : decode cX1_become 32 = .ok (.iload 5, 2) := by decide +kernel
theorem dX1_become_34 : decode cX1_become 34 = .ok (.invokevirtual 43, 3) := by decide +kernel
theorem dX1_become_37 : decode cX1_become 37 = .ok (.iinc 5 1, 3) := by decide +kernel
theorem dX1_become_40 : decode cX1_become 40 = .ok (.goto (-30), 3) := by decide +kernel
theorem dX1_become_43 : decode cX1_become 43 = .ok (.return_, 1) := by decide +kernel
theorem dX1_flip_0 : decode cX1_flip 0 = .ok (.aload_n 0, 1) := by decide +kernel
theorem dX1_flip_1 : decode cX1_flip 1 = .ok (.getfield 15, 3) := by decide +kernel
theorem dX1_flip_4 : decode cX1_flip 4 = .ok (.iload_n 1, 1) := by decide +kernel
theorem dX1_flip_5 : decode cX1_flip 5 = .ok (.invokevirtual 47, 3) := by decide +kernel
theorem dX1_flip_8 : decode cX1_flip 8 = .ok (.ifCond .ne 4, 3) := by decide +kernel
theorem dX1_flip_11 : decode cX1_flip 11 = .ok (.return_, 1) := by decide +kernel
theorem dX1_flip_12 : decode cX1_flip 12 = .ok (.aload_n 0, 1) := by decide +kernel
theorem dX1_flip_13 : decode cX1_flip 13 = .ok (.getfield 25, 3) := by decide +kernel
theorem dX1_flip_16 : decode cX1_flip 16 = .ok (.iload_n 1, 1) := by decide +kernel
theorem dX1_flip_17 : decode cX1_flip 17 = .ok (.invokestatic 39, 3) := by decide +kernel
theorem dX1_flip_20 : decode cX1_flip 20 = .ok (.ifCond .eq 7, 3) := by decide +kernel
theorem dX1_flip_23 : decode cX1_flip 23 = .ok (.iconst (-1), 1) := by decide +kernel
theorem dX1_flip_24 : decode cX1_flip 24 = .ok (.goto 4, 3) := by decide +kernel
theorem dX1_flip_27 : decode cX1_flip 27 = .ok (.iconst 1, 1) := by decide +kernel
theorem dX1_flip_28 : decode cX1_flip 28 = .ok (.istore_n 2, 1) := by decide +kernel
theorem dX1_flip_29 : decode cX1_flip 29 = .ok (.aload_n 0, 1) := by decide +kernel
theorem dX1_flip_30 : decode cX1_flip 30 = .ok (.dup, 1) := by decide +kernel
theorem dX1_flip_31 : decode cX1_flip 31 = .ok (.getfield 25, 3) := by decide +kernel
theorem dX1_flip_34 : decode cX1_flip 34 = .ok (.lconst 1, 1) := by decide +kernel
theorem dX1_flip_35 : decode cX1_flip 35 = .ok (.iload_n 1, 1) := by decide +kernel
theorem dX1_flip_36 : decode cX1_flip 36 = .ok (.lshl, 1) := by decide +kernel
theorem dX1_flip_37 : decode cX1_flip 37 = .ok (.lxor, 1) := by decide +kernel
theorem dX1_flip_38 : decode cX1_flip 38 = .ok (.putfield 25, 3) := by decide +kernel
theorem dX1_flip_41 : decode cX1_flip 41 = .ok (.iconst 0, 1) := by decide +kernel
theorem dX1_flip_42 : decode cX1_flip 42 = .ok (.istore_n 3, 1) := by decide +kernel
theorem dX1_flip_43 : decode cX1_flip 43 = .ok (.iload_n 3, 1) := by decide +kernel
theorem dX1_flip_44 : decode cX1_flip 44 = .ok (.aload_n 0, 1) := by decide +kernel
theorem dX1_flip_45 : decode cX1_flip 45 = .ok (.getfield 15, 3) := by decide +kernel
theorem dX1_flip_48 : decode cX1_flip 48 = .ok (.getfield 33, 3) := by decide +kernel
theorem dX1_flip_51 : decode cX1_flip 51 = .ok (.if_icmp .ge 29, 3) := by decide +kernel
theorem dX1_flip_54 : decode cX1_flip 54 = .ok (.aload_n 0, 1) := by decide +kernel
theorem dX1_flip_55 : decode cX1_flip 55 = .ok (.getfield 9, 3) := by decide +kernel
theorem dX1_flip_58 : decode cX1_flip 58 = .ok (.iload_n 3, 1) := by decide +kernel
theorem dX1_flip_59 : decode cX1_flip 59 = .ok (.dup2, 1) := by decide +kernel
theorem dX1_flip_60 : decode cX1_flip 60 = .ok (.iaload, 1) := by decide +kernel
theorem dX1_flip_61 : decode cX1_flip 61 = .ok (.iload_n 2, 1) := by decide +kernel
theorem dX1_flip_62 : decode cX1_flip 62 = .ok (.aload_n 0, 1) := by decide +kernel
theorem dX1_flip_63 : decode cX1_flip 63 = .ok (.getfield 15, 3) := by decide +kernel
theorem dX1_flip_66 : decode cX1_flip 66 = .ok (.iload_n 1, 1) := by decide +kernel
theorem dX1_flip_67 : decode cX1_flip 67 = .ok (.iload_n 3, 1) := by decide +kernel
theorem dX1_flip_68 : decode cX1_flip 68 = .ok (.invokevirtual 51, 3) := by decide +kernel
theorem dX1_flip_71 : decode cX1_flip 71 = .ok (.imul, 1) := by decide +kernel
theorem dX1_flip_72 : decode cX1_flip 72 = .ok (.iadd, 1) := by decide +kernel
theorem dX1_flip_73 : decode cX1_flip 73 = .ok (.iastore, 1) := by decide +kernel
theorem dX1_flip_74 : decode cX1_flip 74 = .ok (.iinc 3 1, 3) := by decide +kernel
theorem dX1_flip_77 : decode cX1_flip 77 = .ok (.goto (-34), 3) := by decide +kernel
theorem dX1_flip_80 : decode cX1_flip 80 = .ok (.return_, 1) := by decide +kernel
theorem dX1_size_0 : decode cX1_size 0 = .ok (.aload_n 0, 1) := by decide +kernel
theorem dX1_size_1 : decode cX1_size 1 = .ok (.getfield 25, 3) := by decide +kernel
theorem dX1_size_4 : decode cX1_size 4 = .ok (.invokestatic 55, 3) := by decide +kernel
theorem dX1_size_7 : decode cX1_size 7 = .ok (.ireturn, 1) := by decide +kernel
theorem dX1_sumAt_0 : decode cX1_sumAt 0 = .ok (.aload_n 0, 1) := by decide +kernel
theorem dX1_sumAt_1 : decode cX1_sumAt 1 = .ok (.getfield 15, 3) := by decide +kernel
theorem dX1_sumAt_4 : decode cX1_sumAt 4 = .ok (.iload_n 1, 1) := by decide +kernel
theorem dX1_sumAt_5 : decode cX1_sumAt 5 = .ok (.invokevirtual 47, 3) := by decide +kernel
theorem dX1_sumAt_8 : decode cX1_sumAt 8 = .ok (.ifCond .eq 12, 3) := by decide +kernel
theorem dX1_sumAt_11 : decode cX1_sumAt 11 = .ok (.aload_n 0, 1) := by decide +kernel
theorem dX1_sumAt_12 : decode cX1_sumAt 12 = .ok (.getfield 9, 3) := by decide +kernel
theorem dX1_sumAt_15 : decode cX1_sumAt 15 = .ok (.iload_n 1, 1) := by decide +kernel
theorem dX1_sumAt_16 : decode cX1_sumAt 16 = .ok (.iaload, 1) := by decide +kernel
theorem dX1_sumAt_17 : decode cX1_sumAt 17 = .ok (.goto 4, 3) := by decide +kernel
theorem dX1_sumAt_20 : decode cX1_sumAt 20 = .ok (.iconst 0, 1) := by decide +kernel
theorem dX1_sumAt_21 : decode cX1_sumAt 21 = .ok (.ireturn, 1) := by decide +kernel
theorem dX1_most_0 : decode cX1_most 0 = .ok (.aload_n 0, 1) := by decide +kernel
theorem dX1_most_1 : decode cX1_most 1 = .ok (.lload_n 1, 1) := by decide +kernel
theorem dX1_most_2 : decode cX1_most 2 = .ok (.iconst 1, 1) := by decide +kernel
theorem dX1_most_3 : decode cX1_most 3 = .ok (.invokevirtual 61, 3) := by decide +kernel
theorem dX1_most_6 : decode cX1_most 6 = .ok (.ireturn, 1) := by decide +kernel
theorem dX1_least_0 : decode cX1_least 0 = .ok (.aload_n 0, 1) := by decide +kernel
theorem dX1_least_1 : decode cX1_least 1 = .ok (.lload_n 1, 1) := by decide +kernel
theorem dX1_least_2 : decode cX1_least 2 = .ok (.iconst (-1), 1) := by decide +kernel
theorem dX1_least_3 : decode cX1_least 3 = .ok (.invokevirtual 61, 3) := by decide +kernel
theorem dX1_least_6 : decode cX1_least 6 = .ok (.ireturn, 1) := by decide +kernel
theorem dX1_farthest_0 : decode cX1_farthest 0 = .ok (.iconst (-1), 1) := by decide +kernel
theorem dX1_farthest_1 : decode cX1_farthest 1 = .ok (.istore 4, 2) := by decide +kernel
theorem dX1_farthest_3 : decode cX1_farthest 3 = .ok (.iconst 0, 1) := by decide +kernel
theorem dX1_farthest_4 : decode cX1_farthest 4 = .ok (.istore 5, 2) := by decide +kernel
theorem dX1_farthest_6 : decode cX1_farthest 6 = .ok (.iconst 0, 1) := by decide +kernel
theorem dX1_farthest_7 : decode cX1_farthest 7 = .ok (.istore 6, 2) := by decide +kernel
theorem dX1_farthest_9 : decode cX1_farthest 9 = .ok (.iload 6, 2) := by decide +kernel
theorem dX1_farthest_11 : decode cX1_farthest 11 = .ok (.aload_n 0, 1) := by decide +kernel
theorem dX1_farthest_12 : decode cX1_farthest 12 = .ok (.getfield 15, 3) := by decide +kernel
theorem dX1_farthest_15 : decode cX1_farthest 15 = .ok (.getfield 33, 3) := by decide +kernel
theorem dX1_farthest_18 : decode cX1_farthest 18 = .ok (.if_icmp .ge 50, 3) := by decide +kernel
theorem dX1_farthest_21 : decode cX1_farthest 21 = .ok (.iload_n 3, 1) := by decide +kernel
theorem dX1_farthest_22 : decode cX1_farthest 22 = .ok (.aload_n 0, 1) := by decide +kernel
theorem dX1_farthest_23 : decode cX1_farthest 23 = .ok (.getfield 9, 3) := by decide +kernel
theorem dX1_farthest_26 : decode cX1_farthest 26 = .ok (.iload 6, 2) := by decide +kernel
theorem dX1_farthest_28 : decode cX1_farthest 28 = .ok (.iaload, 1) := by decide +kernel
theorem dX1_farthest_29 : decode cX1_farthest 29 = .ok (.imul, 1) := by decide +kernel
theorem dX1_farthest_30 : decode cX1_farthest 30 = .ok (.istore 7, 2) := by decide +kernel
theorem dX1_farthest_32 : decode cX1_farthest 32 = .ok (.lload_n 1, 1) := by decide +kernel
theorem dX1_farthest_33 : decode cX1_farthest 33 = .ok (.iload 6, 2) := by decide +kernel
theorem dX1_farthest_35 : decode cX1_farthest 35 = .ok (.invokestatic 39, 3) := by decide +kernel
theorem dX1_farthest_38 : decode cX1_farthest 38 = .ok (.ifCond .eq 24, 3) := by decide +kernel
theorem dX1_farthest_41 : decode cX1_farthest 41 = .ok (.iload 4, 2) := by decide +kernel
theorem dX1_farthest_43 : decode cX1_farthest 43 = .ok (.iconst (-1), 1) := by decide +kernel
theorem dX1_farthest_44 : decode cX1_farthest 44 = .ok (.if_icmp .eq 10, 3) := by decide +kernel
theorem dX1_farthest_47 : decode cX1_farthest 47 = .ok (.iload 7, 2) := by decide +kernel
theorem dX1_farthest_49 : decode cX1_farthest 49 = .ok (.iload 5, 2) := by decide +kernel
theorem dX1_farthest_51 : decode cX1_farthest 51 = .ok (.if_icmp .le 11, 3) := by decide +kernel
theorem dX1_farthest_54 : decode cX1_farthest 54 = .ok (.iload 6, 2) := by decide +kernel
theorem dX1_farthest_56 : decode cX1_farthest 56 = .ok (.istore 4, 2) := by decide +kernel
theorem dX1_farthest_58 : decode cX1_farthest 58 = .ok (.iload 7, 2) := by decide +kernel
theorem dX1_farthest_60 : decode cX1_farthest 60 = .ok (.istore 5, 2) := by decide +kernel
theorem dX1_farthest_62 : decode cX1_farthest 62 = .ok (.iinc 6 1, 3) := by decide +kernel
theorem dX1_farthest_65 : decode cX1_farthest 65 = .ok (.goto (-56), 3) := by decide +kernel
theorem dX1_farthest_68 : decode cX1_farthest 68 = .ok (.iload 4, 2) := by decide +kernel
theorem dX1_farthest_70 : decode cX1_farthest 70 = .ok (.ireturn, 1) := by decide +kernel
theorem dX1_pairs_0 : decode cX1_pairs 0 = .ok (.iconst 0, 1) := by decide +kernel
theorem dX1_pairs_1 : decode cX1_pairs 1 = .ok (.istore_n 1, 1) := by decide +kernel
theorem dX1_pairs_2 : decode cX1_pairs 2 = .ok (.iconst 0, 1) := by decide +kernel
theorem dX1_pairs_3 : decode cX1_pairs 3 = .ok (.istore_n 2, 1) := by decide +kernel
theorem dX1_pairs_4 : decode cX1_pairs 4 = .ok (.iload_n 2, 1) := by decide +kernel
theorem dX1_pairs_5 : decode cX1_pairs 5 = .ok (.aload_n 0, 1) := by decide +kernel
theorem dX1_pairs_6 : decode cX1_pairs 6 = .ok (.getfield 15, 3) := by decide +kernel
theorem dX1_pairs_9 : decode cX1_pairs 9 = .ok (.getfield 33, 3) := by decide +kernel
theorem dX1_pairs_12 : decode cX1_pairs 12 = .ok (.if_icmp .ge 39, 3) := by decide +kernel
theorem dX1_pairs_15 : decode cX1_pairs 15 = .ok (.aload_n 0, 1) := by decide +kernel
theorem dX1_pairs_16 : decode cX1_pairs 16 = .ok (.getfield 25, 3) := by decide +kernel
theorem dX1_pairs_19 : decode cX1_pairs 19 = .ok (.iload_n 2, 1) := by decide +kernel
theorem dX1_pairs_20 : decode cX1_pairs 20 = .ok (.invokestatic 39, 3) := by decide +kernel
theorem dX1_pairs_23 : decode cX1_pairs 23 = .ok (.ifCond .eq 22, 3) := by decide +kernel
theorem dX1_pairs_26 : decode cX1_pairs 26 = .ok (.iload_n 1, 1) := by decide +kernel
theorem dX1_pairs_27 : decode cX1_pairs 27 = .ok (.aload_n 0, 1) := by decide +kernel
theorem dX1_pairs_28 : decode cX1_pairs 28 = .ok (.getfield 9, 3) := by decide +kernel
theorem dX1_pairs_31 : decode cX1_pairs 31 = .ok (.iload_n 2, 1) := by decide +kernel
theorem dX1_pairs_32 : decode cX1_pairs 32 = .ok (.iaload, 1) := by decide +kernel
theorem dX1_pairs_33 : decode cX1_pairs 33 = .ok (.aload_n 0, 1) := by decide +kernel
theorem dX1_pairs_34 : decode cX1_pairs 34 = .ok (.getfield 15, 3) := by decide +kernel
theorem dX1_pairs_37 : decode cX1_pairs 37 = .ok (.iload_n 2, 1) := by decide +kernel
theorem dX1_pairs_38 : decode cX1_pairs 38 = .ok (.iload_n 2, 1) := by decide +kernel
theorem dX1_pairs_39 : decode cX1_pairs 39 = .ok (.invokevirtual 51, 3) := by decide +kernel
theorem dX1_pairs_42 : decode cX1_pairs 42 = .ok (.isub, 1) := by decide +kernel
theorem dX1_pairs_43 : decode cX1_pairs 43 = .ok (.iadd, 1) := by decide +kernel
theorem dX1_pairs_44 : decode cX1_pairs 44 = .ok (.istore_n 1, 1) := by decide +kernel
theorem dX1_pairs_45 : decode cX1_pairs 45 = .ok (.iinc 2 1, 3) := by decide +kernel
theorem dX1_pairs_48 : decode cX1_pairs 48 = .ok (.goto (-44), 3) := by decide +kernel
theorem dX1_pairs_51 : decode cX1_pairs 51 = .ok (.iload_n 1, 1) := by decide +kernel
theorem dX1_pairs_52 : decode cX1_pairs 52 = .ok (.iconst 2, 1) := by decide +kernel
theorem dX1_pairs_53 : decode cX1_pairs 53 = .ok (.idiv, 1) := by decide +kernel
theorem dX1_pairs_54 : decode cX1_pairs 54 = .ok (.ireturn, 1) := by decide +kernel
theorem dX2_init_0 : decode cX2_init 0 = .ok (.aload_n 0, 1) := by decide +kernel
theorem dX2_init_1 : decode cX2_init 1 = .ok (.invokespecial 1, 3) := by decide +kernel
theorem dX2_init_4 : decode cX2_init 4 = .ok (.aload_n 0, 1) := by decide +kernel
theorem dX2_init_5 : decode cX2_init 5 = .ok (.iconst 2, 1) := by decide +kernel
theorem dX2_init_6 : decode cX2_init 6 = .ok (.newarray .long, 2) := by decide +kernel
theorem dX2_init_8 : decode cX2_init 8 = .ok (.putfield 9, 3) := by decide +kernel
theorem dX2_init_11 : decode cX2_init 11 = .ok (.aload_n 0, 1) := by decide +kernel
theorem dX2_init_12 : decode cX2_init 12 = .ok (.iconst 2, 1) := by decide +kernel
theorem dX2_init_13 : decode cX2_init 13 = .ok (.newarray .boolean, 2) := by decide +kernel
theorem dX2_init_15 : decode cX2_init 15 = .ok (.putfield 13, 3) := by decide +kernel
theorem dX2_init_18 : decode cX2_init 18 = .ok (.return_, 1) := by decide +kernel
theorem dX2_isImage_0 : decode cX2_isImage 0 = .ok (.iload_n 1, 1) := by decide +kernel
theorem dX2_isImage_1 : decode cX2_isImage 1 = .ok (.ifCond .lt 12, 3) := by decide +kernel
theorem dX2_isImage_4 : decode cX2_isImage 4 = .ok (.iload_n 1, 1) := by decide +kernel
theorem dX2_isImage_5 : decode cX2_isImage 5 = .ok (.iconst 2, 1) := by decide +kernel
theorem dX2_isImage_6 : decode cX2_isImage 6 = .ok (.if_icmp .ge 7, 3) := by decide +kernel
theorem dX2_isImage_9 : decode cX2_isImage 9 = .ok (.iconst 1, 1) := by decide +kernel
theorem dX2_isImage_10 : decode cX2_isImage 10 = .ok (.goto 4, 3) := by decide +kernel
theorem dX2_isImage_13 : decode cX2_isImage 13 = .ok (.iconst 0, 1) := by decide +kernel
theorem dX2_isImage_14 : decode cX2_isImage 14 = .ok (.ireturn, 1) := by decide +kernel
theorem dX2_isKept_0 : decode cX2_isKept 0 = .ok (.aload_n 0, 1) := by decide +kernel
theorem dX2_isKept_1 : decode cX2_isKept 1 = .ok (.iload_n 1, 1) := by decide +kernel
theorem dX2_isKept_2 : decode cX2_isKept 2 = .ok (.invokevirtual 17, 3) := by decide +kernel
theorem dX2_isKept_5 : decode cX2_isKept 5 = .ok (.ifCond .eq 16, 3) := by decide +kernel
theorem dX2_isKept_8 : decode cX2_isKept 8 = .ok (.aload_n 0, 1) := by decide +kernel
theorem dX2_isKept_9 : decode cX2_isKept 9 = .ok (.getfield 13, 3) := by decide +kernel
theorem dX2_isKept_12 : decode cX2_isKept 12 = .ok (.iload_n 1, 1) := by decide +kernel
theorem dX2_isKept_13 : decode cX2_isKept 13 = .ok (.baload, 1) := by decide +kernel
theorem dX2_isKept_14 : decode cX2_isKept 14 = .ok (.ifCond .eq 7, 3) := by decide +kernel
theorem dX2_isKept_17 : decode cX2_isKept 17 = .ok (.iconst 1, 1) := by decide +kernel
theorem dX2_isKept_18 : decode cX2_isKept 18 = .ok (.goto 4, 3) := by decide +kernel
theorem dX2_isKept_21 : decode cX2_isKept 21 = .ok (.iconst 0, 1) := by decide +kernel
theorem dX2_isKept_22 : decode cX2_isKept 22 = .ok (.ireturn, 1) := by decide +kernel
theorem dX2_put_0 : decode cX2_put 0 = .ok (.aload_n 0, 1) := by decide +kernel
theorem dX2_put_1 : decode cX2_put 1 = .ok (.iload_n 1, 1) := by decide +kernel
theorem dX2_put_2 : decode cX2_put 2 = .ok (.invokevirtual 17, 3) := by decide +kernel
theorem dX2_put_5 : decode cX2_put 5 = .ok (.ifCond .eq 17, 3) := by decide +kernel
theorem dX2_put_8 : decode cX2_put 8 = .ok (.aload_n 0, 1) := by decide +kernel
theorem dX2_put_9 : decode cX2_put 9 = .ok (.getfield 9, 3) := by decide +kernel
theorem dX2_put_12 : decode cX2_put 12 = .ok (.iload_n 1, 1) := by decide +kernel
theorem dX2_put_13 : decode cX2_put 13 = .ok (.lload_n 2, 1) := by decide +kernel
theorem dX2_put_14 : decode cX2_put 14 = .ok (.lastore, 1) := by decide +kernel
theorem dX2_put_15 : decode cX2_put 15 = .ok (.aload_n 0, 1) := by decide +kernel
theorem dX2_put_16 : decode cX2_put 16 = .ok (.getfield 13, 3) := by decide +kernel
theorem dX2_put_19 : decode cX2_put 19 = .ok (.iload_n 1, 1) := by decide +kernel
theorem dX2_put_20 : decode cX2_put 20 = .ok (.iconst 1, 1) := by decide +kernel
theorem dX2_put_21 : decode cX2_put 21 = .ok (.bastore, 1) := by decide +kernel
theorem dX2_put_22 : decode cX2_put 22 = .ok (.return_, 1) := by decide +kernel
theorem dX2_dotsOf_0 : decode cX2_dotsOf 0 = .ok (.aload_n 0, 1) := by decide +kernel
theorem dX2_dotsOf_1 : decode cX2_dotsOf 1 = .ok (.iload_n 1, 1) := by decide +kernel
theorem dX2_dotsOf_2 : decode cX2_dotsOf 2 = .ok (.invokevirtual 17, 3) := by decide +kernel
theorem dX2_dotsOf_5 : decode cX2_dotsOf 5 = .ok (.ifCond .eq 12, 3) := by decide +kernel
theorem dX2_dotsOf_8 : decode cX2_dotsOf 8 = .ok (.aload_n 0, 1) := by decide +kernel
theorem dX2_dotsOf_9 : decode cX2_dotsOf 9 = .ok (.getfield 9, 3) := by decide +kernel
theorem dX2_dotsOf_12 : decode cX2_dotsOf 12 = .ok (.iload_n 1, 1) := by decide +kernel
theorem dX2_dotsOf_13 : decode cX2_dotsOf 13 = .ok (.laload, 1) := by decide +kernel
theorem dX2_dotsOf_14 : decode cX2_dotsOf 14 = .ok (.goto 4, 3) := by decide +kernel
theorem dX2_dotsOf_17 : decode cX2_dotsOf 17 = .ok (.lconst 0, 1) := by decide +kernel
theorem dX2_dotsOf_18 : decode cX2_dotsOf 18 = .ok (.lreturn, 1) := by decide +kernel
theorem dX2_drop_0 : decode cX2_drop 0 = .ok (.iconst 0, 1) := by decide +kernel
theorem dX2_drop_1 : decode cX2_drop 1 = .ok (.istore_n 1, 1) := by decide +kernel
theorem dX2_drop_2 : decode cX2_drop 2 = .ok (.iload_n 1, 1) := by decide +kernel
theorem dX2_drop_3 : decode cX2_drop 3 = .ok (.iconst 2, 1) := by decide +kernel
theorem dX2_drop_4 : decode cX2_drop 4 = .ok (.if_icmp .ge 16, 3) := by decide +kernel
theorem dX2_drop_7 : decode cX2_drop 7 = .ok (.aload_n 0, 1) := by decide +kernel
theorem dX2_drop_8 : decode cX2_drop 8 = .ok (.getfield 13, 3) := by decide +kernel
theorem dX2_drop_11 : decode cX2_drop 11 = .ok (.iload_n 1, 1) := by decide +kernel
theorem dX2_drop_12 : decode cX2_drop 12 = .ok (.iconst 0, 1) := by decide +kernel
theorem dX2_drop_13 : decode cX2_drop 13 = .ok (.bastore, 1) := by decide +kernel
theorem dX2_drop_14 : decode cX2_drop 14 = .ok (.iinc 1 1, 3) := by decide +kernel
theorem dX2_drop_17 : decode cX2_drop 17 = .ok (.goto (-15), 3) := by decide +kernel
theorem dX2_drop_20 : decode cX2_drop 20 = .ok (.return_, 1) := by decide +kernel
theorem dX3_init_0 : decode cX3_init 0 = .ok (.aload_n 0, 1) := by decide +kernel
theorem dX3_init_1 : decode cX3_init 1 = .ok (.invokespecial 1, 3) := by decide +kernel
theorem dX3_init_4 : decode cX3_init 4 = .ok (.aload_n 0, 1) := by decide +kernel
theorem dX3_init_5 : decode cX3_init 5 = .ok (.bipush 10, 2) := by decide +kernel
theorem dX3_init_7 : decode cX3_init 7 = .ok (.newarray .long, 2) := by decide +kernel
theorem dX3_init_9 : decode cX3_init 9 = .ok (.putfield 9, 3) := by decide +kernel
theorem dX3_init_12 : decode cX3_init 12 = .ok (.return_, 1) := by decide +kernel
theorem dX3_remember_0 : decode cX3_remember 0 = .ok (.aload_n 0, 1) := by decide +kernel
theorem dX3_remember_1 : decode cX3_remember 1 = .ok (.getfield 13, 3) := by decide +kernel
theorem dX3_remember_4 : decode cX3_remember 4 = .ok (.bipush 10, 2) := by decide +kernel
theorem dX3_remember_6 : decode cX3_remember 6 = .ok (.if_icmp .lt 24, 3) := by decide +kernel
theorem dX3_remember_9 : decode cX3_remember 9 = .ok (.aload_n 0, 1) := by decide +kernel
theorem dX3_remember_10 : decode cX3_remember 10 = .ok (.getfield 9, 3) := by decide +kernel
theorem dX3_remember_13 : decode cX3_remember 13 = .ok (.iconst 1, 1) := by decide +kernel
theorem dX3_remember_14 : decode cX3_remember 14 = .ok (.aload_n 0, 1) := by decide +kernel
theorem dX3_remember_15 : decode cX3_remember 15 = .ok (.getfield 9, 3) := by decide +kernel
theorem dX3_remember_18 : decode cX3_remember 18 = .ok (.iconst 0, 1) := by decide +kernel
theorem dX3_remember_19 : decode cX3_remember 19 = .ok (.bipush 9, 2) := by decide +kernel
theorem dX3_remember_21 : decode cX3_remember 21 = .ok (.invokestatic 17, 3) := by decide +kernel
theorem dX3_remember_24 : decode cX3_remember 24 = .ok (.aload_n 0, 1) := by decide +kernel
theorem dX3_remember_25 : decode cX3_remember 25 = .ok (.bipush 9, 2) := by decide +kernel
theorem dX3_remember_27 : decode cX3_remember 27 = .ok (.putfield 13, 3) := by decide +kernel
theorem dX3_remember_30 : decode cX3_remember 30 = .ok (.aload_n 0, 1) := by decide +kernel
theorem dX3_remember_31 : decode cX3_remember 31 = .ok (.getfield 9, 3) := by decide +kernel
theorem dX3_remember_34 : decode cX3_remember 34 = .ok (.aload_n 0, 1) := by decide +kernel
theorem dX3_remember_35 : decode cX3_remember 35 = .ok (.getfield 13, 3) := by decide +kernel
theorem dX3_remember_38 : decode cX3_remember 38 = .ok (.lload_n 1, 1) := by decide +kernel
theorem dX3_remember_39 : decode cX3_remember 39 = .ok (.lastore, 1) := by decide +kernel
theorem dX3_remember_40 : decode cX3_remember 40 = .ok (.aload_n 0, 1) := by decide +kernel
theorem dX3_remember_41 : decode cX3_remember 41 = .ok (.dup, 1) := by decide +kernel
theorem dX3_remember_42 : decode cX3_remember 42 = .ok (.getfield 13, 3) := by decide +kernel
theorem dX3_remember_45 : decode cX3_remember 45 = .ok (.iconst 1, 1) := by decide +kernel
theorem dX3_remember_46 : decode cX3_remember 46 = .ok (.iadd, 1) := by decide +kernel
theorem dX3_remember_47 : decode cX3_remember 47 = .ok (.putfield 13, 3) := by decide +kernel
theorem dX3_remember_50 : decode cX3_remember 50 = .ok (.return_, 1) := by decide +kernel
theorem dX3_latest_0 : decode cX3_latest 0 = .ok (.aload_n 0, 1) := by decide +kernel
theorem dX3_latest_1 : decode cX3_latest 1 = .ok (.getfield 13, 3) := by decide +kernel
theorem dX3_latest_4 : decode cX3_latest 4 = .ok (.iconst 1, 1) := by decide +kernel
theorem dX3_latest_5 : decode cX3_latest 5 = .ok (.if_icmp .ge 5, 3) := by decide +kernel
theorem dX3_latest_8 : decode cX3_latest 8 = .ok (.lconst 0, 1) := by decide +kernel
theorem dX3_latest_9 : decode cX3_latest 9 = .ok (.lreturn, 1) := by decide +kernel
theorem dX3_latest_10 : decode cX3_latest 10 = .ok (.aload_n 0, 1) := by decide +kernel
theorem dX3_latest_11 : decode cX3_latest 11 = .ok (.dup, 1) := by decide +kernel
theorem dX3_latest_12 : decode cX3_latest 12 = .ok (.getfield 13, 3) := by decide +kernel
theorem dX3_latest_15 : decode cX3_latest 15 = .ok (.iconst 1, 1) := by decide +kernel
theorem dX3_latest_16 : decode cX3_latest 16 = .ok (.isub, 1) := by decide +kernel
theorem dX3_latest_17 : decode cX3_latest 17 = .ok (.putfield 13, 3) := by decide +kernel
theorem dX3_latest_20 : decode cX3_latest 20 = .ok (.aload_n 0, 1) := by decide +kernel
theorem dX3_latest_21 : decode cX3_latest 21 = .ok (.getfield 9, 3) := by decide +kernel
theorem dX3_latest_24 : decode cX3_latest 24 = .ok (.aload_n 0, 1) := by decide +kernel
theorem dX3_latest_25 : decode cX3_latest 25 = .ok (.getfield 13, 3) := by decide +kernel
theorem dX3_latest_28 : decode cX3_latest 28 = .ok (.laload, 1) := by decide +kernel
theorem dX3_latest_29 : decode cX3_latest 29 = .ok (.lreturn, 1) := by decide +kernel
theorem dX4_init_0 : decode cX4_init 0 = .ok (.aload_n 0, 1) := by decide +kernel
theorem dX4_init_1 : decode cX4_init 1 = .ok (.invokespecial 1, 3) := by decide +kernel
theorem dX4_init_4 : decode cX4_init 4 = .ok (.aload_n 0, 1) := by decide +kernel
theorem dX4_init_5 : decode cX4_init 5 = .ok (.aload_n 1, 1) := by decide +kernel
theorem dX4_init_6 : decode cX4_init 6 = .ok (.putfield 7, 3) := by decide +kernel
theorem dX4_init_9 : decode cX4_init 9 = .ok (.aload_n 0, 1) := by decide +kernel
theorem dX4_init_10 : decode cX4_init 10 = .ok (.aload_n 2, 1) := by decide +kernel
theorem dX4_init_11 : decode cX4_init 11 = .ok (.putfield 13, 3) := by decide +kernel
theorem dX4_init_14 : decode cX4_init 14 = .ok (.return_, 1) := by decide +kernel
theorem dX4_become_0 : decode cX4_become 0 = .ok (.aload_n 0, 1) := by decide +kernel
theorem dX4_become_1 : decode cX4_become 1 = .ok (.iload_n 1, 1) := by decide +kernel
theorem dX4_become_2 : decode cX4_become 2 = .ok (.putfield 17, 3) := by decide +kernel
theorem dX4_become_5 : decode cX4_become 5 = .ok (.aload_n 0, 1) := by decide +kernel
theorem dX4_become_6 : decode cX4_become 6 = .ok (.iload_n 2, 1) := by decide +kernel
theorem dX4_become_7 : decode cX4_become 7 = .ok (.putfield 21, 3) := by decide +kernel
theorem dX4_become_10 : decode cX4_become 10 = .ok (.aload_n 0, 1) := by decide +kernel
theorem dX4_become_11 : decode cX4_become 11 = .ok (.iload_n 3, 1) := by decide +kernel
theorem dX4_become_12 : decode cX4_become 12 = .ok (.putfield 24, 3) := by decide +kernel
theorem dX4_become_15 : decode cX4_become 15 = .ok (.return_, 1) := by decide +kernel
theorem dX4_levelOf_0 : decode cX4_levelOf 0 = .ok (.aload_n 0, 1) := by decide +kernel
theorem dX4_levelOf_1 : decode cX4_levelOf 1 = .ok (.getfield 17, 3) := by decide +kernel
theorem dX4_levelOf_4 : decode cX4_levelOf 4 = .ok (.aload_n 0, 1) := by decide +kernel
theorem dX4_levelOf_5 : decode cX4_levelOf 5 = .ok (.getfield 7, 3) := by decide +kernel
theorem dX4_levelOf_8 : decode cX4_levelOf 8 = .ok (.iload_n 1, 1) := by decide +kernel
theorem dX4_levelOf_9 : decode cX4_levelOf 9 = .ok (.invokevirtual 27, 3) := by decide +kernel
theorem dX4_levelOf_12 : decode cX4_levelOf 12 = .ok (.aload_n 0, 1) := by decide +kernel
theorem dX4_levelOf_13 : decode cX4_levelOf 13 = .ok (.getfield 21, 3) := by decide +kernel
theorem dX4_levelOf_16 : decode cX4_levelOf 16 = .ok (.imul, 1) := by decide +kernel
theorem dX4_levelOf_17 : decode cX4_levelOf 17 = .ok (.iadd, 1) := by decide +kernel
theorem dX4_levelOf_18 : decode cX4_levelOf 18 = .ok (.aload_n 0, 1) := by decide +kernel
theorem dX4_levelOf_19 : decode cX4_levelOf 19 = .ok (.getfield 7, 3) := by decide +kernel
theorem dX4_levelOf_22 : decode cX4_levelOf 22 = .ok (.iload_n 1, 1) := by decide +kernel
theorem dX4_levelOf_23 : decode cX4_levelOf 23 = .ok (.invokevirtual 33, 3) := by decide +kernel
theorem dX4_levelOf_26 : decode cX4_levelOf 26 = .ok (.aload_n 0, 1) := by decide +kernel
theorem dX4_levelOf_27 : decode cX4_levelOf 27 = .ok (.getfield 24, 3) := by decide +kernel
theorem dX4_levelOf_30 : decode cX4_levelOf 30 = .ok (.imul, 1) := by decide +kernel
theorem dX4_levelOf_31 : decode cX4_levelOf 31 = .ok (.iadd, 1) := by decide +kernel
theorem dX4_levelOf_32 : decode cX4_levelOf 32 = .ok (.istore_n 2, 1) := by decide +kernel
theorem dX4_levelOf_33 : decode cX4_levelOf 33 = .ok (.iconst 0, 1) := by decide +kernel
theorem dX4_levelOf_34 : decode cX4_levelOf 34 = .ok (.iload_n 2, 1) := by decide +kernel
theorem dX4_levelOf_35 : decode cX4_levelOf 35 = .ok (.aload_n 0, 1) := by decide +kernel
theorem dX4_levelOf_36 : decode cX4_levelOf 36 = .ok (.getfield 7, 3) := by decide +kernel
theorem dX4_levelOf_39 : decode cX4_levelOf 39 = .ok (.getfield 36, 3) := by decide +kernel
theorem dX4_levelOf_42 : decode cX4_levelOf 42 = .ok (.invokestatic 39, 3) := by decide +kernel
theorem dX4_levelOf_45 : decode cX4_levelOf 45 = .ok (.invokestatic 45, 3) := by decide +kernel
theorem dX4_levelOf_48 : decode cX4_levelOf 48 = .ok (.ireturn, 1) := by decide +kernel
theorem dX4_prints_0 : decode cX4_prints 0 = .ok (.aload_n 0, 1) := by decide +kernel
theorem dX4_prints_1 : decode cX4_prints 1 = .ok (.getfield 7, 3) := by decide +kernel
theorem dX4_prints_4 : decode cX4_prints 4 = .ok (.getfield 48, 3) := by decide +kernel
theorem dX4_prints_7 : decode cX4_prints 7 = .ok (.iload_n 1, 1) := by decide +kernel
theorem dX4_prints_8 : decode cX4_prints 8 = .ok (.invokestatic 52, 3) := by decide +kernel
theorem dX4_prints_11 : decode cX4_prints 11 = .ok (.ifCond .eq 23, 3) := by decide +kernel
theorem dX4_prints_14 : decode cX4_prints 14 = .ok (.aload_n 0, 1) := by decide +kernel
theorem dX4_prints_15 : decode cX4_prints 15 = .ok (.getfield 13, 3) := by decide +kernel
theorem dX4_prints_18 : decode cX4_prints 18 = .ok (.iload_n 1, 1) := by decide +kernel
theorem dX4_prints_19 : decode cX4_prints 19 = .ok (.invokevirtual 58, 3) := by decide +kernel
theorem dX4_prints_22 : decode cX4_prints 22 = .ok (.aload_n 0, 1) := by decide +kernel
theorem dX4_prints_23 : decode cX4_prints 23 = .ok (.iload_n 1, 1) := by decide +kernel
theorem dX4_prints_24 : decode cX4_prints 24 = .ok (.invokevirtual 63, 3) := by decide +kernel
theorem dX4_prints_27 : decode cX4_prints 27 = .ok (.if_icmp .ge 7, 3) := by decide +kernel
theorem dX4_prints_30 : decode cX4_prints 30 = .ok (.iconst 1, 1) := by decide +kernel
theorem dX4_prints_31 : decode cX4_prints 31 = .ok (.goto 4, 3) := by decide +kernel
theorem dX4_prints_34 : decode cX4_prints 34 = .ok (.iconst 0, 1) := by decide +kernel
theorem dX4_prints_35 : decode cX4_prints 35 = .ok (.ireturn, 1) := by decide +kernel
theorem dX4_printed_0 : decode cX4_printed 0 = .ok (.iconst 0, 1) := by decide +kernel
theorem dX4_printed_1 : decode cX4_printed 1 = .ok (.istore_n 1, 1) := by decide +kernel
theorem dX4_printed_2 : decode cX4_printed 2 = .ok (.iconst 0, 1) := by decide +kernel
theorem dX4_printed_3 : decode cX4_printed 3 = .ok (.istore_n 2, 1) := by decide +kernel
theorem dX4_printed_4 : decode cX4_printed 4 = .ok (.iload_n 2, 1) := by decide +kernel
theorem dX4_printed_5 : decode cX4_printed 5 = .ok (.aload_n 0, 1) := by decide +kernel
theorem dX4_printed_6 : decode cX4_printed 6 = .ok (.getfield 7, 3) := by decide +kernel
theorem dX4_printed_9 : decode cX4_printed 9 = .ok (.getfield 66, 3) := by decide +kernel
theorem dX4_printed_12 : decode cX4_printed 12 = .ok (.if_icmp .ge 20, 3) := by decide +kernel
theorem dX4_printed_15 : decode cX4_printed 15 = .ok (.aload_n 0, 1) := by decide +kernel
theorem dX4_printed_16 : decode cX4_printed 16 = .ok (.iload_n 2, 1) := by decide +kernel
theorem dX4_printed_17 : decode cX4_printed 17 = .ok (.invokevirtual 69, 3) := by decide +kernel
theorem dX4_printed_20 : decode cX4_printed 20 = .ok (.ifCond .eq 6, 3) := by decide +kernel
theorem dX4_printed_23 : decode cX4_printed 23 = .ok (.iinc 1 1, 3) := by decide +kernel
theorem dX4_printed_26 : decode cX4_printed 26 = .ok (.iinc 2 1, 3) := by decide +kernel
theorem dX4_printed_29 : decode cX4_printed 29 = .ok (.goto (-25), 3) := by decide +kernel
theorem dX4_printed_32 : decode cX4_printed 32 = .ok (.iload_n 1, 1) := by decide +kernel
theorem dX4_printed_33 : decode cX4_printed 33 = .ok (.ireturn, 1) := by decide +kernel
theorem dX4_farOff_0 : decode cX4_farOff 0 = .ok (.iconst 0, 1) := by decide +kernel
theorem dX4_farOff_1 : decode cX4_farOff 1 = .ok (.istore_n 1, 1) := by decide +kernel
theorem dX4_farOff_2 : decode cX4_farOff 2 = .ok (.iconst 0, 1) := by decide +kernel
theorem dX4_farOff_3 : decode cX4_farOff 3 = .ok (.istore_n 2, 1) := by decide +kernel
theorem dX4_farOff_4 : decode cX4_farOff 4 = .ok (.iload_n 2, 1) := by decide +kernel
theorem dX4_farOff_5 : decode cX4_farOff 5 = .ok (.aload_n 0, 1) := by decide +kernel
theorem dX4_farOff_6 : decode cX4_farOff 6 = .ok (.getfield 7, 3) := by decide +kernel
theorem dX4_farOff_9 : decode cX4_farOff 9 = .ok (.getfield 66, 3) := by decide +kernel
theorem dX4_farOff_12 : decode cX4_farOff 12 = .ok (.if_icmp .ge 31, 3) := by decide +kernel
theorem dX4_farOff_15 : decode cX4_farOff 15 = .ok (.aload_n 0, 1) := by decide +kernel
theorem dX4_farOff_16 : decode cX4_farOff 16 = .ok (.getfield 7, 3) := by decide +kernel
theorem dX4_farOff_19 : decode cX4_farOff 19 = .ok (.getfield 48, 3) := by decide +kernel
theorem dX4_farOff_22 : decode cX4_farOff 22 = .ok (.iload_n 2, 1) := by decide +kernel
theorem dX4_farOff_23 : decode cX4_farOff 23 = .ok (.invokestatic 52, 3) := by decide +kernel
theorem dX4_farOff_26 : decode cX4_farOff 26 = .ok (.ifCond .eq 11, 3) := by decide +kernel
theorem dX4_farOff_29 : decode cX4_farOff 29 = .ok (.iload_n 1, 1) := by decide +kernel
theorem dX4_farOff_30 : decode cX4_farOff 30 = .ok (.aload_n 0, 1) := by decide +kernel
theorem dX4_farOff_31 : decode cX4_farOff 31 = .ok (.iload_n 2, 1) := by decide +kernel
theorem dX4_farOff_32 : decode cX4_farOff 32 = .ok (.invokevirtual 63, 3) := by decide +kernel
theorem dX4_farOff_35 : decode cX4_farOff 35 = .ok (.iadd, 1) := by decide +kernel
theorem dX4_farOff_36 : decode cX4_farOff 36 = .ok (.istore_n 1, 1) := by decide +kernel
theorem dX4_farOff_37 : decode cX4_farOff 37 = .ok (.iinc 2 1, 3) := by decide +kernel
theorem dX4_farOff_40 : decode cX4_farOff 40 = .ok (.goto (-36), 3) := by decide +kernel
theorem dX4_farOff_43 : decode cX4_farOff 43 = .ok (.aload_n 0, 1) := by decide +kernel
theorem dX4_farOff_44 : decode cX4_farOff 44 = .ok (.getfield 7, 3) := by decide +kernel
theorem dX4_farOff_47 : decode cX4_farOff 47 = .ok (.getfield 36, 3) := by decide +kernel
theorem dX4_farOff_50 : decode cX4_farOff 50 = .ok (.aload_n 0, 1) := by decide +kernel
theorem dX4_farOff_51 : decode cX4_farOff 51 = .ok (.invokevirtual 73, 3) := by decide +kernel
theorem dX4_farOff_54 : decode cX4_farOff 54 = .ok (.imul, 1) := by decide +kernel
theorem dX4_farOff_55 : decode cX4_farOff 55 = .ok (.iload_n 1, 1) := by decide +kernel
theorem dX4_farOff_56 : decode cX4_farOff 56 = .ok (.isub, 1) := by decide +kernel
theorem dX4_farOff_57 : decode cX4_farOff 57 = .ok (.ireturn, 1) := by decide +kernel
theorem dX5_init_0 : decode cX5_init 0 = .ok (.aload_n 0, 1) := by decide +kernel
theorem dX5_init_1 : decode cX5_init 1 = .ok (.invokespecial 3, 3) := by decide +kernel
theorem dX5_init_4 : decode cX5_init 4 = .ok (.aload_n 0, 1) := by decide +kernel
theorem dX5_init_5 : decode cX5_init 5 = .ok (.invokevirtual 9, 3) := by decide +kernel
theorem dX5_init_8 : decode cX5_init 8 = .ok (.return_, 1) := by decide +kernel
theorem dX5_reset_0 : decode cX5_reset 0 = .ok (.aload_n 0, 1) := by decide +kernel
theorem dX5_reset_1 : decode cX5_reset 1 = .ok (.iconst 4, 1) := by decide +kernel
theorem dX5_reset_2 : decode cX5_reset 2 = .ok (.putfield 14, 3) := by decide +kernel
theorem dX5_reset_5 : decode cX5_reset 5 = .ok (.aload_n 0, 1) := by decide +kernel
theorem dX5_reset_6 : decode cX5_reset 6 = .ok (.iconst 4, 1) := by decide +kernel
theorem dX5_reset_7 : decode cX5_reset 7 = .ok (.putfield 18, 3) := by decide +kernel
theorem dX5_reset_10 : decode cX5_reset 10 = .ok (.aload_n 0, 1) := by decide +kernel
theorem dX5_reset_11 : decode cX5_reset 11 = .ok (.iconst 0, 1) := by decide +kernel
theorem dX5_reset_12 : decode cX5_reset 12 = .ok (.putfield 21, 3) := by decide +kernel
theorem dX5_reset_15 : decode cX5_reset 15 = .ok (.aload_n 0, 1) := by decide +kernel
theorem dX5_reset_16 : decode cX5_reset 16 = .ok (.bipush 100, 2) := by decide +kernel
theorem dX5_reset_18 : decode cX5_reset 18 = .ok (.putfield 24, 3) := by decide +kernel
theorem dX5_reset_21 : decode cX5_reset 21 = .ok (.aload_n 0, 1) := by decide +kernel
theorem dX5_reset_22 : decode cX5_reset 22 = .ok (.iconst 1, 1) := by decide +kernel
theorem dX5_reset_23 : decode cX5_reset 23 = .ok (.putfield 27, 3) := by decide +kernel
theorem dX5_reset_26 : decode cX5_reset 26 = .ok (.aload_n 0, 1) := by decide +kernel
theorem dX5_reset_27 : decode cX5_reset 27 = .ok (.iconst 1, 1) := by decide +kernel
theorem dX5_reset_28 : decode cX5_reset 28 = .ok (.putfield 30, 3) := by decide +kernel
theorem dX5_reset_31 : decode cX5_reset 31 = .ok (.aload_n 0, 1) := by decide +kernel
theorem dX5_reset_32 : decode cX5_reset 32 = .ok (.iconst 1, 1) := by decide +kernel
theorem dX5_reset_33 : decode cX5_reset 33 = .ok (.putfield 33, 3) := by decide +kernel
theorem dX5_reset_36 : decode cX5_reset 36 = .ok (.aload_n 0, 1) := by decide +kernel
theorem dX5_reset_37 : decode cX5_reset 37 = .ok (.lconst 0, 1) := by decide +kernel
theorem dX5_reset_38 : decode cX5_reset 38 = .ok (.putfield 36, 3) := by decide +kernel
theorem dX5_reset_41 : decode cX5_reset 41 = .ok (.aload_n 0, 1) := by decide +kernel
theorem dX5_reset_42 : decode cX5_reset 42 = .ok (.lconst 0, 1) := by decide +kernel
theorem dX5_reset_43 : decode cX5_reset 43 = .ok (.putfield 40, 3) := by decide +kernel
theorem dX5_reset_46 : decode cX5_reset 46 = .ok (.return_, 1) := by decide +kernel
theorem dX5_become_0 : decode cX5_become 0 = .ok (.aload_n 0, 1) := by decide +kernel
theorem dX5_become_1 : decode cX5_become 1 = .ok (.aload_n 1, 1) := by decide +kernel
theorem dX5_become_2 : decode cX5_become 2 = .ok (.getfield 14, 3) := by decide +kernel
theorem dX5_become_5 : decode cX5_become 5 = .ok (.putfield 14, 3) := by decide +kernel
theorem dX5_become_8 : decode cX5_become 8 = .ok (.aload_n 0, 1) := by decide +kernel
theorem dX5_become_9 : decode cX5_become 9 = .ok (.aload_n 1, 1) := by decide +kernel
theorem dX5_become_10 : decode cX5_become 10 = .ok (.getfield 18, 3) := by decide +kernel
theorem dX5_become_13 : decode cX5_become 13 = .ok (.putfield 18, 3) := by decide +kernel
theorem dX5_become_16 : decode cX5_become 16 = .ok (.aload_n 0, 1) := by decide +kernel
theorem dX5_become_17 : decode cX5_become 17 = .ok (.aload_n 1, 1) := by decide +kernel
theorem dX5_become_18 : decode cX5_become 18 = .ok (.getfield 21, 3) := by decide +kernel
theorem dX5_become_21 : decode cX5_become 21 = .ok (.putfield 21, 3) := by decide +kernel
theorem dX5_become_24 : decode cX5_become 24 = .ok (.aload_n 0, 1) := by decide +kernel
theorem dX5_become_25 : decode cX5_become 25 = .ok (.aload_n 1, 1) := by decide +kernel
theorem dX5_become_26 : decode cX5_become 26 = .ok (.getfield 24, 3) := by decide +kernel
theorem dX5_become_29 : decode cX5_become 29 = .ok (.putfield 24, 3) := by decide +kernel
theorem dX5_become_32 : decode cX5_become 32 = .ok (.aload_n 0, 1) := by decide +kernel
theorem dX5_become_33 : decode cX5_become 33 = .ok (.aload_n 1, 1) := by decide +kernel
theorem dX5_become_34 : decode cX5_become 34 = .ok (.getfield 27, 3) := by decide +kernel
theorem dX5_become_37 : decode cX5_become 37 = .ok (.putfield 27, 3) := by decide +kernel
theorem dX5_become_40 : decode cX5_become 40 = .ok (.aload_n 0, 1) := by decide +kernel
theorem dX5_become_41 : decode cX5_become 41 = .ok (.aload_n 1, 1) := by decide +kernel
theorem dX5_become_42 : decode cX5_become 42 = .ok (.getfield 30, 3) := by decide +kernel
theorem dX5_become_45 : decode cX5_become 45 = .ok (.putfield 30, 3) := by decide +kernel
theorem dX5_become_48 : decode cX5_become 48 = .ok (.aload_n 0, 1) := by decide +kernel
theorem dX5_become_49 : decode cX5_become 49 = .ok (.aload_n 1, 1) := by decide +kernel
theorem dX5_become_50 : decode cX5_become 50 = .ok (.getfield 33, 3) := by decide +kernel
theorem dX5_become_53 : decode cX5_become 53 = .ok (.putfield 33, 3) := by decide +kernel
theorem dX5_become_56 : decode cX5_become 56 = .ok (.aload_n 0, 1) := by decide +kernel
theorem dX5_become_57 : decode cX5_become 57 = .ok (.aload_n 1, 1) := by decide +kernel
theorem dX5_become_58 : decode cX5_become 58 = .ok (.getfield 36, 3) := by decide +kernel
theorem dX5_become_61 : decode cX5_become 61 = .ok (.putfield 36, 3) := by decide +kernel
theorem dX5_become_64 : decode cX5_become 64 = .ok (.aload_n 0, 1) := by decide +kernel
theorem dX5_become_65 : decode cX5_become 65 = .ok (.aload_n 1, 1) := by decide +kernel
theorem dX5_become_66 : decode cX5_become 66 = .ok (.getfield 40, 3) := by decide +kernel
theorem dX5_become_69 : decode cX5_become 69 = .ok (.putfield 40, 3) := by decide +kernel
theorem dX5_become_72 : decode cX5_become 72 = .ok (.return_, 1) := by decide +kernel
theorem dX5_numberOf_0 : decode cX5_numberOf 0 = .ok (.iload_n 1, 1) := by decide +kernel
theorem dX5_numberOf_1 : decode cX5_numberOf 1 = .ok (.ifCond .lt 23, 3) := by decide +kernel
theorem dX5_numberOf_4 : decode cX5_numberOf 4 = .ok (.iload_n 1, 1) := by decide +kernel
theorem dX5_numberOf_5 : decode cX5_numberOf 5 = .ok (.aload_n 0, 1) := by decide +kernel
theorem dX5_numberOf_6 : decode cX5_numberOf 6 = .ok (.getfield 14, 3) := by decide +kernel
theorem dX5_numberOf_9 : decode cX5_numberOf 9 = .ok (.if_icmp .ge 15, 3) := by decide +kernel
theorem dX5_numberOf_12 : decode cX5_numberOf 12 = .ok (.iload_n 2, 1) := by decide +kernel
theorem dX5_numberOf_13 : decode cX5_numberOf 13 = .ok (.ifCond .lt 11, 3) := by decide +kernel
theorem dX5_numberOf_16 : decode cX5_numberOf 16 = .ok (.iload_n 2, 1) := by decide +kernel
theorem dX5_numberOf_17 : decode cX5_numberOf 17 = .ok (.aload_n 0, 1) := by decide +kernel
theorem dX5_numberOf_18 : decode cX5_numberOf 18 = .ok (.getfield 18, 3) := by decide +kernel
theorem dX5_numberOf_21 : decode cX5_numberOf 21 = .ok (.if_icmp .lt 5, 3) := by decide +kernel
theorem dX5_numberOf_24 : decode cX5_numberOf 24 = .ok (.iconst (-1), 1) := by decide +kernel
theorem dX5_numberOf_25 : decode cX5_numberOf 25 = .ok (.ireturn, 1) := by decide +kernel
theorem dX5_numberOf_26 : decode cX5_numberOf 26 = .ok (.iload_n 2, 1) := by decide +kernel
theorem dX5_numberOf_27 : decode cX5_numberOf 27 = .ok (.aload_n 0, 1) := by decide +kernel
theorem dX5_numberOf_28 : decode cX5_numberOf 28 = .ok (.getfield 14, 3) := by decide +kernel
theorem dX5_numberOf_31 : decode cX5_numberOf 31 = .ok (.imul, 1) := by decide +kernel
theorem dX5_numberOf_32 : decode cX5_numberOf 32 = .ok (.iload_n 1, 1) := by decide +kernel
theorem dX5_numberOf_33 : decode cX5_numberOf 33 = .ok (.iadd, 1) := by decide +kernel
theorem dX5_numberOf_34 : decode cX5_numberOf 34 = .ok (.ireturn, 1) := by decide +kernel
theorem dX5_distanceOf_0 : decode cX5_distanceOf 0 = .ok (.iload_n 1, 1) := by decide +kernel
theorem dX5_distanceOf_1 : decode cX5_distanceOf 1 = .ok (.aload_n 0, 1) := by decide +kernel
theorem dX5_distanceOf_2 : decode cX5_distanceOf 2 = .ok (.getfield 14, 3) := by decide +kernel
theorem dX5_distanceOf_5 : decode cX5_distanceOf 5 = .ok (.iload_n 1, 1) := by decide +kernel
theorem dX5_distanceOf_6 : decode cX5_distanceOf 6 = .ok (.isub, 1) := by decide +kernel
theorem dX5_distanceOf_7 : decode cX5_distanceOf 7 = .ok (.invokestatic 43, 3) := by decide +kernel
theorem dX5_distanceOf_10 : decode cX5_distanceOf 10 = .ok (.istore_n 3, 1) := by decide +kernel
theorem dX5_distanceOf_11 : decode cX5_distanceOf 11 = .ok (.iload_n 2, 1) := by decide +kernel
theorem dX5_distanceOf_12 : decode cX5_distanceOf 12 = .ok (.aload_n 0, 1) := by decide +kernel
theorem dX5_distanceOf_13 : decode cX5_distanceOf 13 = .ok (.getfield 18, 3) := by decide +kernel
theorem dX5_distanceOf_16 : decode cX5_distanceOf 16 = .ok (.iload_n 2, 1) := by decide +kernel
theorem dX5_distanceOf_17 : decode cX5_distanceOf 17 = .ok (.isub, 1) := by decide +kernel
theorem dX5_distanceOf_18 : decode cX5_distanceOf 18 = .ok (.invokestatic 43, 3) := by decide +kernel
theorem dX5_distanceOf_21 : decode cX5_distanceOf 21 = .ok (.istore 4, 2) := by decide +kernel
theorem dX5_distanceOf_23 : decode cX5_distanceOf 23 = .ok (.aload_n 0, 1) := by decide +kernel
theorem dX5_distanceOf_24 : decode cX5_distanceOf 24 = .ok (.getfield 30, 3) := by decide +kernel
theorem dX5_distanceOf_27 : decode cX5_distanceOf 27 = .ok (.iload_n 3, 1) := by decide +kernel
theorem dX5_distanceOf_28 : decode cX5_distanceOf 28 = .ok (.imul, 1) := by decide +kernel
theorem dX5_distanceOf_29 : decode cX5_distanceOf 29 = .ok (.iload_n 3, 1) := by decide +kernel
theorem dX5_distanceOf_30 : decode cX5_distanceOf 30 = .ok (.imul, 1) := by decide +kernel
theorem dX5_distanceOf_31 : decode cX5_distanceOf 31 = .ok (.aload_n 0, 1) := by decide +kernel
theorem dX5_distanceOf_32 : decode cX5_distanceOf 32 = .ok (.getfield 33, 3) := by decide +kernel
theorem dX5_distanceOf_35 : decode cX5_distanceOf 35 = .ok (.iload 4, 2) := by decide +kernel
theorem dX5_distanceOf_37 : decode cX5_distanceOf 37 = .ok (.imul, 1) := by decide +kernel
theorem dX5_distanceOf_38 : decode cX5_distanceOf 38 = .ok (.iload 4, 2) := by decide +kernel
theorem dX5_distanceOf_40 : decode cX5_distanceOf 40 = .ok (.imul, 1) := by decide +kernel
theorem dX5_distanceOf_41 : decode cX5_distanceOf 41 = .ok (.iadd, 1) := by decide +kernel
theorem dX5_distanceOf_42 : decode cX5_distanceOf 42 = .ok (.ireturn, 1) := by decide +kernel
theorem dX5_weightOf_0 : decode cX5_weightOf 0 = .ok (.iconst 1, 1) := by decide +kernel
theorem dX5_weightOf_1 : decode cX5_weightOf 1 = .ok (.iload_n 1, 1) := by decide +kernel
theorem dX5_weightOf_2 : decode cX5_weightOf 2 = .ok (.iadd, 1) := by decide +kernel
theorem dX5_weightOf_3 : decode cX5_weightOf 3 = .ok (.istore_n 2, 1) := by decide +kernel
theorem dX5_weightOf_4 : decode cX5_weightOf 4 = .ok (.iload_n 2, 1) := by decide +kernel
theorem dX5_weightOf_5 : decode cX5_weightOf 5 = .ok (.iconst 1, 1) := by decide +kernel
theorem dX5_weightOf_6 : decode cX5_weightOf 6 = .ok (.if_icmp .ge 5, 3) := by decide +kernel
theorem dX5_weightOf_9 : decode cX5_weightOf 9 = .ok (.iconst 0, 1) := by decide +kernel
theorem dX5_weightOf_10 : decode cX5_weightOf 10 = .ok (.ireturn, 1) := by decide +kernel
theorem dX5_weightOf_11 : decode cX5_weightOf 11 = .ok (.aload_n 0, 1) := by decide +kernel
theorem dX5_weightOf_12 : decode cX5_weightOf 12 = .ok (.getfield 21, 3) := by decide +kernel
theorem dX5_weightOf_15 : decode cX5_weightOf 15 = .ok (.lookupswitch 48 #[(0, 25), (1, 32)], 25) := by decide +kernel
theorem dX5_weightOf_40 : decode cX5_weightOf 40 = .ok (.aload_n 0, 1) := by decide +kernel
theorem dX5_weightOf_41 : decode cX5_weightOf 41 = .ok (.getfield 24, 3) := by decide +kernel
theorem dX5_weightOf_44 : decode cX5_weightOf 44 = .ok (.iload_n 2, 1) := by decide +kernel
theorem dX5_weightOf_45 : decode cX5_weightOf 45 = .ok (.idiv, 1) := by decide +kernel
theorem dX5_weightOf_46 : decode cX5_weightOf 46 = .ok (.ireturn, 1) := by decide +kernel
theorem dX5_weightOf_47 : decode cX5_weightOf 47 = .ok (.iconst 0, 1) := by decide +kernel
theorem dX5_weightOf_48 : decode cX5_weightOf 48 = .ok (.aload_n 0, 1) := by decide +kernel
theorem dX5_weightOf_49 : decode cX5_weightOf 49 = .ok (.getfield 24, 3) := by decide +kernel
theorem dX5_weightOf_52 : decode cX5_weightOf 52 = .ok (.aload_n 0, 1) := by decide +kernel
theorem dX5_weightOf_53 : decode cX5_weightOf 53 = .ok (.getfield 27, 3) := by decide +kernel
theorem dX5_weightOf_56 : decode cX5_weightOf 56 = .ok (.iload_n 1, 1) := by decide +kernel
theorem dX5_weightOf_57 : decode cX5_weightOf 57 = .ok (.imul, 1) := by decide +kernel
theorem dX5_weightOf_58 : decode cX5_weightOf 58 = .ok (.isub, 1) := by decide +kernel
theorem dX5_weightOf_59 : decode cX5_weightOf 59 = .ok (.invokestatic 49, 3) := by decide +kernel
theorem dX5_weightOf_62 : decode cX5_weightOf 62 = .ok (.ireturn, 1) := by decide +kernel
theorem dX5_weightOf_63 : decode cX5_weightOf 63 = .ok (.aload_n 0, 1) := by decide +kernel
theorem dX5_weightOf_64 : decode cX5_weightOf 64 = .ok (.getfield 24, 3) := by decide +kernel
theorem dX5_weightOf_67 : decode cX5_weightOf 67 = .ok (.iload_n 1, 1) := by decide +kernel
theorem dX5_weightOf_68 : decode cX5_weightOf 68 = .ok (.bipush 31, 2) := by decide +kernel
theorem dX5_weightOf_70 : decode cX5_weightOf 70 = .ok (.invokestatic 43, 3) := by decide +kernel
theorem dX5_weightOf_73 : decode cX5_weightOf 73 = .ok (.ishr, 1) := by decide +kernel
theorem dX5_weightOf_74 : decode cX5_weightOf 74 = .ok (.ireturn, 1) := by decide +kernel
theorem dX6_init_0 : decode cX6_init 0 = .ok (.aload_n 0, 1) := by decide +kernel
theorem dX6_init_1 : decode cX6_init 1 = .ok (.invokespecial 3, 3) := by decide +kernel
theorem dX6_init_4 : decode cX6_init 4 = .ok (.aload_n 0, 1) := by decide +kernel
theorem dX6_init_5 : decode cX6_init 5 = .ok (.bipush 64, 2) := by decide +kernel
theorem dX6_init_7 : decode cX6_init 7 = .ok (.newarray .int, 2) := by decide +kernel
theorem dX6_init_9 : decode cX6_init 9 = .ok (.putfield 9, 3) := by decide +kernel
theorem dX6_init_12 : decode cX6_init 12 = .ok (.aload_n 0, 1) := by decide +kernel
theorem dX6_init_13 : decode cX6_init 13 = .ok (.bipush 64, 2) := by decide +kernel
theorem dX6_init_15 : decode cX6_init 15 = .ok (.newarray .int, 2) := by decide +kernel
theorem dX6_init_17 : decode cX6_init 17 = .ok (.putfield 15, 3) := by decide +kernel
theorem dX6_init_20 : decode cX6_init 20 = .ok (.aload_n 0, 1) := by decide +kernel
theorem dX6_init_21 : decode cX6_init 21 = .ok (.aload_n 1, 1) := by decide +kernel
theorem dX6_init_22 : decode cX6_init 22 = .ok (.putfield 18, 3) := by decide +kernel
theorem dX6_init_25 : decode cX6_init 25 = .ok (.aload_n 0, 1) := by decide +kernel
theorem dX6_init_26 : decode cX6_init 26 = .ok (.new 22, 3) := by decide +kernel
theorem dX6_init_29 : decode cX6_init 29 = .ok (.dup, 1) := by decide +kernel
theorem dX6_init_30 : decode cX6_init 30 = .ok (.aload_n 1, 1) := by decide +kernel
theorem dX6_init_31 : decode cX6_init 31 = .ok (.invokespecial 24, 3) := by decide +kernel
theorem dX6_init_34 : decode cX6_init 34 = .ok (.putfield 27, 3) := by decide +kernel
theorem dX6_init_37 : decode cX6_init 37 = .ok (.return_, 1) := by decide +kernel
theorem dX6_drop_0 : decode cX6_drop 0 = .ok (.aload_n 0, 1) := by decide +kernel
theorem dX6_drop_1 : decode cX6_drop 1 = .ok (.lconst 0, 1) := by decide +kernel
theorem dX6_drop_2 : decode cX6_drop 2 = .ok (.putfield 31, 3) := by decide +kernel
theorem dX6_drop_5 : decode cX6_drop 5 = .ok (.return_, 1) := by decide +kernel
theorem dX6_standFor_0 : decode cX6_standFor 0 = .ok (.aload_n 0, 1) := by decide +kernel
theorem dX6_standFor_1 : decode cX6_standFor 1 = .ok (.getfield 31, 3) := by decide +kernel
theorem dX6_standFor_4 : decode cX6_standFor 4 = .ok (.lload_n 1, 1) := by decide +kernel
theorem dX6_standFor_5 : decode cX6_standFor 5 = .ok (.lcmp, 1) := by decide +kernel
theorem dX6_standFor_6 : decode cX6_standFor 6 = .ok (.ifCond .ne 4, 3) := by decide +kernel
theorem dX6_standFor_9 : decode cX6_standFor 9 = .ok (.return_, 1) := by decide +kernel
theorem dX6_standFor_10 : decode cX6_standFor 10 = .ok (.aload_n 0, 1) := by decide +kernel
theorem dX6_standFor_11 : decode cX6_standFor 11 = .ok (.lload_n 1, 1) := by decide +kernel
theorem dX6_standFor_12 : decode cX6_standFor 12 = .ok (.putfield 31, 3) := by decide +kernel
theorem dX6_standFor_15 : decode cX6_standFor 15 = .ok (.aload_n 0, 1) := by decide +kernel
theorem dX6_standFor_16 : decode cX6_standFor 16 = .ok (.getfield 27, 3) := by decide +kernel
theorem dX6_standFor_19 : decode cX6_standFor 19 = .ok (.lload_n 1, 1) := by decide +kernel
theorem dX6_standFor_20 : decode cX6_standFor 20 = .ok (.invokevirtual 35, 3) := by decide +kernel
theorem dX6_standFor_23 : decode cX6_standFor 23 = .ok (.aload_n 0, 1) := by decide +kernel
theorem dX6_standFor_24 : decode cX6_standFor 24 = .ok (.invokevirtual 39, 3) := by decide +kernel
theorem dX6_standFor_27 : decode cX6_standFor 27 = .ok (.aload_n 0, 1) := by decide +kernel
theorem dX6_standFor_28 : decode cX6_standFor 28 = .ok (.getfield 27, 3) := by decide +kernel
theorem dX6_standFor_31 : decode cX6_standFor 31 = .ok (.lload_n 1, 1) := by decide +kernel
theorem dX6_standFor_32 : decode cX6_standFor 32 = .ok (.invokevirtual 35, 3) := by decide +kernel
theorem dX6_standFor_35 : decode cX6_standFor 35 = .ok (.aload_n 0, 1) := by decide +kernel
theorem dX6_standFor_36 : decode cX6_standFor 36 = .ok (.invokevirtual 42, 3) := by decide +kernel
theorem dX6_standFor_39 : decode cX6_standFor 39 = .ok (.aload_n 0, 1) := by decide +kernel
theorem dX6_standFor_40 : decode cX6_standFor 40 = .ok (.getfield 27, 3) := by decide +kernel
theorem dX6_standFor_43 : decode cX6_standFor 43 = .ok (.aload_n 0, 1) := by decide +kernel
theorem dX6_standFor_44 : decode cX6_standFor 44 = .ok (.getfield 18, 3) := by decide +kernel
theorem dX6_standFor_47 : decode cX6_standFor 47 = .ok (.getfield 45, 3) := by decide +kernel
theorem dX6_standFor_50 : decode cX6_standFor 50 = .ok (.aload_n 0, 1) := by decide +kernel
theorem dX6_standFor_51 : decode cX6_standFor 51 = .ok (.getfield 27, 3) := by decide +kernel
theorem dX6_standFor_54 : decode cX6_standFor 54 = .ok (.getfield 50, 3) := by decide +kernel
theorem dX6_standFor_57 : decode cX6_standFor 57 = .ok (.ldc2_w 53, 3) := by decide +kernel
theorem dX6_standFor_60 : decode cX6_standFor 60 = .ok (.lxor, 1) := by decide +kernel
theorem dX6_standFor_61 : decode cX6_standFor 61 = .ok (.land, 1) := by decide +kernel
theorem dX6_standFor_62 : decode cX6_standFor 62 = .ok (.invokevirtual 35, 3) := by decide +kernel
theorem dX6_standFor_65 : decode cX6_standFor 65 = .ok (.aload_n 0, 1) := by decide +kernel
theorem dX6_standFor_66 : decode cX6_standFor 66 = .ok (.invokevirtual 55, 3) := by decide +kernel
theorem dX6_standFor_69 : decode cX6_standFor 69 = .ok (.return_, 1) := by decide +kernel
theorem dX6_thin_0 : decode cX6_thin 0 = .ok (.aload_n 0, 1) := by decide +kernel
theorem dX6_thin_1 : decode cX6_thin 1 = .ok (.aload_n 0, 1) := by decide +kernel
theorem dX6_thin_2 : decode cX6_thin 2 = .ok (.getfield 27, 3) := by decide +kernel
theorem dX6_thin_5 : decode cX6_thin 5 = .ok (.invokevirtual 58, 3) := by decide +kernel
theorem dX6_thin_8 : decode cX6_thin 8 = .ok (.putfield 62, 3) := by decide +kernel
theorem dX6_thin_11 : decode cX6_thin 11 = .ok (.aload_n 0, 1) := by decide +kernel
theorem dX6_thin_12 : decode cX6_thin 12 = .ok (.getfield 62, 3) := by decide +kernel
theorem dX6_thin_15 : decode cX6_thin 15 = .ok (.iconst 1, 1) := by decide +kernel
theorem dX6_thin_16 : decode cX6_thin 16 = .ok (.isub, 1) := by decide +kernel
theorem dX6_thin_17 : decode cX6_thin 17 = .ok (.istore_n 1, 1) := by decide +kernel
theorem dX6_thin_18 : decode cX6_thin 18 = .ok (.iload_n 1, 1) := by decide +kernel
theorem dX6_thin_19 : decode cX6_thin 19 = .ok (.ifCond .lt 28, 3) := by decide +kernel
theorem dX6_thin_22 : decode cX6_thin 22 = .ok (.aload_n 0, 1) := by decide +kernel
theorem dX6_thin_23 : decode cX6_thin 23 = .ok (.aload_n 0, 1) := by decide +kernel
theorem dX6_thin_24 : decode cX6_thin 24 = .ok (.getfield 27, 3) := by decide +kernel
theorem dX6_thin_27 : decode cX6_thin 27 = .ok (.aload_n 0, 1) := by decide +kernel
theorem dX6_thin_28 : decode cX6_thin 28 = .ok (.getfield 27, 3) := by decide +kernel
theorem dX6_thin_31 : decode cX6_thin 31 = .ok (.getfield 50, 3) := by decide +kernel
theorem dX6_thin_34 : decode cX6_thin 34 = .ok (.invokevirtual 66, 3) := by decide +kernel
theorem dX6_thin_37 : decode cX6_thin 37 = .ok (.iload_n 1, 1) := by decide +kernel
theorem dX6_thin_38 : decode cX6_thin 38 = .ok (.invokevirtual 70, 3) := by decide +kernel
theorem dX6_thin_41 : decode cX6_thin 41 = .ok (.iinc 1 (-1), 3) := by decide +kernel
theorem dX6_thin_44 : decode cX6_thin 44 = .ok (.goto (-26), 3) := by decide +kernel
theorem dX6_thin_47 : decode cX6_thin 47 = .ok (.return_, 1) := by decide +kernel
theorem dX6_fill_0 : decode cX6_fill 0 = .ok (.aload_n 0, 1) := by decide +kernel
theorem dX6_fill_1 : decode cX6_fill 1 = .ok (.aload_n 0, 1) := by decide +kernel
theorem dX6_fill_2 : decode cX6_fill 2 = .ok (.getfield 62, 3) := by decide +kernel
theorem dX6_fill_5 : decode cX6_fill 5 = .ok (.aload_n 0, 1) := by decide +kernel
theorem dX6_fill_6 : decode cX6_fill 6 = .ok (.getfield 18, 3) := by decide +kernel
theorem dX6_fill_9 : decode cX6_fill 9 = .ok (.getfield 74, 3) := by decide +kernel
theorem dX6_fill_12 : decode cX6_fill 12 = .ok (.iconst 1, 1) := by decide +kernel
theorem dX6_fill_13 : decode cX6_fill 13 = .ok (.iadd, 1) := by decide +kernel
theorem dX6_fill_14 : decode cX6_fill 14 = .ok (.iconst 2, 1) := by decide +kernel
theorem dX6_fill_15 : decode cX6_fill 15 = .ok (.idiv, 1) := by decide +kernel
theorem dX6_fill_16 : decode cX6_fill 16 = .ok (.invokestatic 77, 3) := by decide +kernel
theorem dX6_fill_19 : decode cX6_fill 19 = .ok (.putfield 83, 3) := by decide +kernel
theorem dX6_fill_22 : decode cX6_fill 22 = .ok (.aload_n 0, 1) := by decide +kernel
theorem dX6_fill_23 : decode cX6_fill 23 = .ok (.getfield 62, 3) := by decide +kernel
theorem dX6_fill_26 : decode cX6_fill 26 = .ok (.istore_n 1, 1) := by decide +kernel
theorem dX6_fill_27 : decode cX6_fill 27 = .ok (.iload_n 1, 1) := by decide +kernel
theorem dX6_fill_28 : decode cX6_fill 28 = .ok (.aload_n 0, 1) := by decide +kernel
theorem dX6_fill_29 : decode cX6_fill 29 = .ok (.getfield 83, 3) := by decide +kernel
theorem dX6_fill_32 : decode cX6_fill 32 = .ok (.if_icmp .ge 40, 3) := by decide +kernel
theorem dX6_fill_35 : decode cX6_fill 35 = .ok (.aload_n 0, 1) := by decide +kernel
theorem dX6_fill_36 : decode cX6_fill 36 = .ok (.aload_n 0, 1) := by decide +kernel
theorem dX6_fill_37 : decode cX6_fill 37 = .ok (.getfield 27, 3) := by decide +kernel
theorem dX6_fill_40 : decode cX6_fill 40 = .ok (.aload_n 0, 1) := by decide +kernel
theorem dX6_fill_41 : decode cX6_fill 41 = .ok (.getfield 18, 3) := by decide +kernel
theorem dX6_fill_44 : decode cX6_fill 44 = .ok (.getfield 45, 3) := by decide +kernel
theorem dX6_fill_47 : decode cX6_fill 47 = .ok (.aload_n 0, 1) := by decide +kernel
theorem dX6_fill_48 : decode cX6_fill 48 = .ok (.getfield 27, 3) := by decide +kernel
theorem dX6_fill_51 : decode cX6_fill 51 = .ok (.getfield 50, 3) := by decide +kernel
theorem dX6_fill_54 : decode cX6_fill 54 = .ok (.ldc2_w 53, 3) := by decide +kernel
theorem dX6_fill_57 : decode cX6_fill 57 = .ok (.lxor, 1) := by decide +kernel
theorem dX6_fill_58 : decode cX6_fill 58 = .ok (.land, 1) := by decide +kernel
theorem dX6_fill_59 : decode cX6_fill 59 = .ok (.invokevirtual 86, 3) := by decide +kernel
theorem dX6_fill_62 : decode cX6_fill 62 = .ok (.iload_n 1, 1) := by decide +kernel
theorem dX6_fill_63 : decode cX6_fill 63 = .ok (.invokevirtual 70, 3) := by decide +kernel
theorem dX6_fill_66 : decode cX6_fill 66 = .ok (.iinc 1 1, 3) := by decide +kernel
theorem dX6_fill_69 : decode cX6_fill 69 = .ok (.goto (-42), 3) := by decide +kernel
theorem dX6_fill_72 : decode cX6_fill 72 = .ok (.return_, 1) := by decide +kernel
theorem dX6_turn_0 : decode cX6_turn 0 = .ok (.aload_n 0, 1) := by decide +kernel
theorem dX6_turn_1 : decode cX6_turn 1 = .ok (.getfield 83, 3) := by decide +kernel
theorem dX6_turn_4 : decode cX6_turn 4 = .ok (.istore_n 1, 1) := by decide +kernel
theorem dX6_turn_5 : decode cX6_turn 5 = .ok (.iload_n 1, 1) := by decide +kernel
theorem dX6_turn_6 : decode cX6_turn 6 = .ok (.aload_n 0, 1) := by decide +kernel
theorem dX6_turn_7 : decode cX6_turn 7 = .ok (.getfield 18, 3) := by decide +kernel
theorem dX6_turn_10 : decode cX6_turn 10 = .ok (.getfield 74, 3) := by decide +kernel
theorem dX6_turn_13 : decode cX6_turn 13 = .ok (.if_icmp .ge 28, 3) := by decide +kernel
theorem dX6_turn_16 : decode cX6_turn 16 = .ok (.aload_n 0, 1) := by decide +kernel
theorem dX6_turn_17 : decode cX6_turn 17 = .ok (.aload_n 0, 1) := by decide +kernel
theorem dX6_turn_18 : decode cX6_turn 18 = .ok (.getfield 27, 3) := by decide +kernel
theorem dX6_turn_21 : decode cX6_turn 21 = .ok (.aload_n 0, 1) := by decide +kernel
theorem dX6_turn_22 : decode cX6_turn 22 = .ok (.getfield 27, 3) := by decide +kernel
theorem dX6_turn_25 : decode cX6_turn 25 = .ok (.getfield 50, 3) := by decide +kernel
theorem dX6_turn_28 : decode cX6_turn 28 = .ok (.invokevirtual 66, 3) := by decide +kernel
theorem dX6_turn_31 : decode cX6_turn 31 = .ok (.iload_n 1, 1) := by decide +kernel
theorem dX6_turn_32 : decode cX6_turn 32 = .ok (.invokevirtual 70, 3) := by decide +kernel
theorem dX6_turn_35 : decode cX6_turn 35 = .ok (.iinc 1 1, 3) := by decide +kernel
theorem dX6_turn_38 : decode cX6_turn 38 = .ok (.goto (-33), 3) := by decide +kernel
theorem dX6_turn_41 : decode cX6_turn 41 = .ok (.return_, 1) := by decide +kernel
theorem dX6_give_0 : decode cX6_give 0 = .ok (.aload_n 0, 1) := by decide +kernel
theorem dX6_give_1 : decode cX6_give 1 = .ok (.getfield 18, 3) := by decide +kernel
theorem dX6_give_4 : decode cX6_give 4 = .ok (.iload_n 1, 1) := by decide +kernel
theorem dX6_give_5 : decode cX6_give 5 = .ok (.invokevirtual 89, 3) := by decide +kernel
theorem dX6_give_8 : decode cX6_give 8 = .ok (.ifCond .eq 16, 3) := by decide +kernel
theorem dX6_give_11 : decode cX6_give 11 = .ok (.iload_n 2, 1) := by decide +kernel
theorem dX6_give_12 : decode cX6_give 12 = .ok (.ifCond .lt 12, 3) := by decide +kernel
theorem dX6_give_15 : decode cX6_give 15 = .ok (.iload_n 2, 1) := by decide +kernel
theorem dX6_give_16 : decode cX6_give 16 = .ok (.aload_n 0, 1) := by decide +kernel
theorem dX6_give_17 : decode cX6_give 17 = .ok (.getfield 9, 3) := by decide +kernel
theorem dX6_give_20 : decode cX6_give 20 = .ok (.arraylength, 1) := by decide +kernel
theorem dX6_give_21 : decode cX6_give 21 = .ok (.if_icmp .lt 4, 3) := by decide +kernel
theorem dX6_give_24 : decode cX6_give 24 = .ok (.return_, 1) := by decide +kernel
theorem dX6_give_25 : decode cX6_give 25 = .ok (.aload_n 0, 1) := by decide +kernel
theorem dX6_give_26 : decode cX6_give 26 = .ok (.getfield 9, 3) := by decide +kernel
theorem dX6_give_29 : decode cX6_give 29 = .ok (.iload_n 2, 1) := by decide +kernel
theorem dX6_give_30 : decode cX6_give 30 = .ok (.iload_n 1, 1) := by decide +kernel
theorem dX6_give_31 : decode cX6_give 31 = .ok (.iastore, 1) := by decide +kernel
theorem dX6_give_32 : decode cX6_give 32 = .ok (.aload_n 0, 1) := by decide +kernel
theorem dX6_give_33 : decode cX6_give 33 = .ok (.getfield 15, 3) := by decide +kernel
theorem dX6_give_36 : decode cX6_give 36 = .ok (.iload_n 1, 1) := by decide +kernel
theorem dX6_give_37 : decode cX6_give 37 = .ok (.iload_n 2, 1) := by decide +kernel
theorem dX6_give_38 : decode cX6_give 38 = .ok (.iastore, 1) := by decide +kernel
theorem dX6_give_39 : decode cX6_give 39 = .ok (.aload_n 0, 1) := by decide +kernel
theorem dX6_give_40 : decode cX6_give 40 = .ok (.getfield 27, 3) := by decide +kernel
theorem dX6_give_43 : decode cX6_give 43 = .ok (.iload_n 1, 1) := by decide +kernel
theorem dX6_give_44 : decode cX6_give 44 = .ok (.invokevirtual 93, 3) := by decide +kernel
theorem dX6_give_47 : decode cX6_give 47 = .ok (.return_, 1) := by decide +kernel
theorem dX6_rankOf_0 : decode cX6_rankOf 0 = .ok (.aload_n 0, 1) := by decide +kernel
theorem dX6_rankOf_1 : decode cX6_rankOf 1 = .ok (.getfield 18, 3) := by decide +kernel
theorem dX6_rankOf_4 : decode cX6_rankOf 4 = .ok (.iload_n 1, 1) := by decide +kernel
theorem dX6_rankOf_5 : decode cX6_rankOf 5 = .ok (.invokevirtual 89, 3) := by decide +kernel
theorem dX6_rankOf_8 : decode cX6_rankOf 8 = .ok (.ifCond .eq 12, 3) := by decide +kernel
theorem dX6_rankOf_11 : decode cX6_rankOf 11 = .ok (.aload_n 0, 1) := by decide +kernel
theorem dX6_rankOf_12 : decode cX6_rankOf 12 = .ok (.getfield 15, 3) := by decide +kernel
theorem dX6_rankOf_15 : decode cX6_rankOf 15 = .ok (.iload_n 1, 1) := by decide +kernel
theorem dX6_rankOf_16 : decode cX6_rankOf 16 = .ok (.iaload, 1) := by decide +kernel
theorem dX6_rankOf_17 : decode cX6_rankOf 17 = .ok (.goto 5, 3) := by decide +kernel
theorem dX6_rankOf_20 : decode cX6_rankOf 20 = .ok (.bipush (-9), 2) := by decide +kernel
theorem dX6_rankOf_22 : decode cX6_rankOf 22 = .ok (.ireturn, 1) := by decide +kernel
theorem dX6_cellOf_0 : decode cX6_cellOf 0 = .ok (.iload_n 1, 1) := by decide +kernel
theorem dX6_cellOf_1 : decode cX6_cellOf 1 = .ok (.ifCond .lt 23, 3) := by decide +kernel
theorem dX6_cellOf_4 : decode cX6_cellOf 4 = .ok (.iload_n 1, 1) := by decide +kernel
theorem dX6_cellOf_5 : decode cX6_cellOf 5 = .ok (.aload_n 0, 1) := by decide +kernel
theorem dX6_cellOf_6 : decode cX6_cellOf 6 = .ok (.getfield 18, 3) := by decide +kernel
theorem dX6_cellOf_9 : decode cX6_cellOf 9 = .ok (.getfield 74, 3) := by decide +kernel
theorem dX6_cellOf_12 : decode cX6_cellOf 12 = .ok (.if_icmp .ge 12, 3) := by decide +kernel
theorem dX6_cellOf_15 : decode cX6_cellOf 15 = .ok (.aload_n 0, 1) := by decide +kernel
theorem dX6_cellOf_16 : decode cX6_cellOf 16 = .ok (.getfield 9, 3) := by decide +kernel
theorem dX6_cellOf_19 : decode cX6_cellOf 19 = .ok (.iload_n 1, 1) := by decide +kernel
theorem dX6_cellOf_20 : decode cX6_cellOf 20 = .ok (.iaload, 1) := by decide +kernel
theorem dX6_cellOf_21 : decode cX6_cellOf 21 = .ok (.goto 5, 3) := by decide +kernel
theorem dX6_cellOf_24 : decode cX6_cellOf 24 = .ok (.bipush (-9), 2) := by decide +kernel
theorem dX6_cellOf_26 : decode cX6_cellOf 26 = .ok (.ireturn, 1) := by decide +kernel
theorem dX6_stageOf_0 : decode cX6_stageOf 0 = .ok (.aload_n 0, 1) := by decide +kernel
theorem dX6_stageOf_1 : decode cX6_stageOf 1 = .ok (.iload_n 1, 1) := by decide +kernel
theorem dX6_stageOf_2 : decode cX6_stageOf 2 = .ok (.invokevirtual 97, 3) := by decide +kernel
theorem dX6_stageOf_5 : decode cX6_stageOf 5 = .ok (.istore_n 2, 1) := by decide +kernel
theorem dX6_stageOf_6 : decode cX6_stageOf 6 = .ok (.iload_n 2, 1) := by decide +kernel
theorem dX6_stageOf_7 : decode cX6_stageOf 7 = .ok (.aload_n 0, 1) := by decide +kernel
theorem dX6_stageOf_8 : decode cX6_stageOf 8 = .ok (.getfield 62, 3) := by decide +kernel
theorem dX6_stageOf_11 : decode cX6_stageOf 11 = .ok (.if_icmp .ge 5, 3) := by decide +kernel
theorem dX6_stageOf_14 : decode cX6_stageOf 14 = .ok (.iconst 0, 1) := by decide +kernel
theorem dX6_stageOf_15 : decode cX6_stageOf 15 = .ok (.ireturn, 1) := by decide +kernel
theorem dX6_stageOf_16 : decode cX6_stageOf 16 = .ok (.iload_n 2, 1) := by decide +kernel
theorem dX6_stageOf_17 : decode cX6_stageOf 17 = .ok (.aload_n 0, 1) := by decide +kernel
theorem dX6_stageOf_18 : decode cX6_stageOf 18 = .ok (.getfield 83, 3) := by decide +kernel
theorem dX6_stageOf_21 : decode cX6_stageOf 21 = .ok (.if_icmp .ge 7, 3) := by decide +kernel
theorem dX6_stageOf_24 : decode cX6_stageOf 24 = .ok (.iconst 1, 1) := by decide +kernel
theorem dX6_stageOf_25 : decode cX6_stageOf 25 = .ok (.goto 4, 3) := by decide +kernel
theorem dX6_stageOf_28 : decode cX6_stageOf 28 = .ok (.iconst 2, 1) := by decide +kernel
theorem dX6_stageOf_29 : decode cX6_stageOf 29 = .ok (.ireturn, 1) := by decide +kernel
theorem dX6_gapOf_0 : decode cX6_gapOf 0 = .ok (.bipush (-9), 2) := by decide +kernel
theorem dX6_gapOf_2 : decode cX6_gapOf 2 = .ok (.istore_n 2, 1) := by decide +kernel
theorem dX6_gapOf_3 : decode cX6_gapOf 3 = .ok (.iconst 1, 1) := by decide +kernel
theorem dX6_gapOf_4 : decode cX6_gapOf 4 = .ok (.istore_n 3, 1) := by decide +kernel
theorem dX6_gapOf_5 : decode cX6_gapOf 5 = .ok (.iload_n 3, 1) := by decide +kernel
theorem dX6_gapOf_6 : decode cX6_gapOf 6 = .ok (.iload_n 1, 1) := by decide +kernel
theorem dX6_gapOf_7 : decode cX6_gapOf 7 = .ok (.if_icmp .ge 36, 3) := by decide +kernel
theorem dX6_gapOf_10 : decode cX6_gapOf 10 = .ok (.aload_n 0, 1) := by decide +kernel
theorem dX6_gapOf_11 : decode cX6_gapOf 11 = .ok (.aload_n 0, 1) := by decide +kernel
theorem dX6_gapOf_12 : decode cX6_gapOf 12 = .ok (.iload_n 3, 1) := by decide +kernel
theorem dX6_gapOf_13 : decode cX6_gapOf 13 = .ok (.invokevirtual 101, 3) := by decide +kernel
theorem dX6_gapOf_16 : decode cX6_gapOf 16 = .ok (.iload_n 3, 1) := by decide +kernel
theorem dX6_gapOf_17 : decode cX6_gapOf 17 = .ok (.invokevirtual 104, 3) := by decide +kernel
theorem dX6_gapOf_20 : decode cX6_gapOf 20 = .ok (.istore 4, 2) := by decide +kernel
theorem dX6_gapOf_22 : decode cX6_gapOf 22 = .ok (.iload_n 2, 1) := by decide +kernel
theorem dX6_gapOf_23 : decode cX6_gapOf 23 = .ok (.bipush (-9), 2) := by decide +kernel
theorem dX6_gapOf_25 : decode cX6_gapOf 25 = .ok (.if_icmp .eq 9, 3) := by decide +kernel
theorem dX6_gapOf_28 : decode cX6_gapOf 28 = .ok (.iload 4, 2) := by decide +kernel
theorem dX6_gapOf_30 : decode cX6_gapOf 30 = .ok (.iload_n 2, 1) := by decide +kernel
theorem dX6_gapOf_31 : decode cX6_gapOf 31 = .ok (.if_icmp .ge 6, 3) := by decide +kernel
theorem dX6_gapOf_34 : decode cX6_gapOf 34 = .ok (.iload 4, 2) := by decide +kernel
theorem dX6_gapOf_36 : decode cX6_gapOf 36 = .ok (.istore_n 2, 1) := by decide +kernel
theorem dX6_gapOf_37 : decode cX6_gapOf 37 = .ok (.iinc 3 1, 3) := by decide +kernel
theorem dX6_gapOf_40 : decode cX6_gapOf 40 = .ok (.goto (-35), 3) := by decide +kernel
theorem dX6_gapOf_43 : decode cX6_gapOf 43 = .ok (.iload_n 2, 1) := by decide +kernel
theorem dX6_gapOf_44 : decode cX6_gapOf 44 = .ok (.ireturn, 1) := by decide +kernel
theorem dX6_holeOf_0 : decode cX6_holeOf 0 = .ok (.iload_n 1, 1) := by decide +kernel
theorem dX6_holeOf_1 : decode cX6_holeOf 1 = .ok (.iconst 1, 1) := by decide +kernel
theorem dX6_holeOf_2 : decode cX6_holeOf 2 = .ok (.if_icmp .ge 6, 3) := by decide +kernel
theorem dX6_holeOf_5 : decode cX6_holeOf 5 = .ok (.bipush (-9), 2) := by decide +kernel
theorem dX6_holeOf_7 : decode cX6_holeOf 7 = .ok (.ireturn, 1) := by decide +kernel
theorem dX6_holeOf_8 : decode cX6_holeOf 8 = .ok (.iconst 0, 1) := by decide +kernel
theorem dX6_holeOf_9 : decode cX6_holeOf 9 = .ok (.istore_n 2, 1) := by decide +kernel
theorem dX6_holeOf_10 : decode cX6_holeOf 10 = .ok (.iconst 0, 1) := by decide +kernel
theorem dX6_holeOf_11 : decode cX6_holeOf 11 = .ok (.istore_n 3, 1) := by decide +kernel
theorem dX6_holeOf_12 : decode cX6_holeOf 12 = .ok (.iload_n 3, 1) := by decide +kernel
theorem dX6_holeOf_13 : decode cX6_holeOf 13 = .ok (.aload_n 0, 1) := by decide +kernel
theorem dX6_holeOf_14 : decode cX6_holeOf 14 = .ok (.getfield 18, 3) := by decide +kernel
theorem dX6_holeOf_17 : decode cX6_holeOf 17 = .ok (.getfield 107, 3) := by decide +kernel
theorem dX6_holeOf_20 : decode cX6_holeOf 20 = .ok (.if_icmp .ge 34, 3) := by decide +kernel
theorem dX6_holeOf_23 : decode cX6_holeOf 23 = .ok (.aload_n 0, 1) := by decide +kernel
theorem dX6_holeOf_24 : decode cX6_holeOf 24 = .ok (.getfield 18, 3) := by decide +kernel
theorem dX6_holeOf_27 : decode cX6_holeOf 27 = .ok (.getfield 45, 3) := by decide +kernel
theorem dX6_holeOf_30 : decode cX6_holeOf 30 = .ok (.iload_n 3, 1) := by decide +kernel
theorem dX6_holeOf_31 : decode cX6_holeOf 31 = .ok (.invokestatic 110, 3) := by decide +kernel
theorem dX6_holeOf_34 : decode cX6_holeOf 34 = .ok (.ifCond .eq 14, 3) := by decide +kernel
theorem dX6_holeOf_37 : decode cX6_holeOf 37 = .ok (.iload_n 2, 1) := by decide +kernel
theorem dX6_holeOf_38 : decode cX6_holeOf 38 = .ok (.aload_n 0, 1) := by decide +kernel
theorem dX6_holeOf_39 : decode cX6_holeOf 39 = .ok (.iload_n 3, 1) := by decide +kernel
theorem dX6_holeOf_40 : decode cX6_holeOf 40 = .ok (.iload_n 1, 1) := by decide +kernel
theorem dX6_holeOf_41 : decode cX6_holeOf 41 = .ok (.invokevirtual 104, 3) := by decide +kernel
theorem dX6_holeOf_44 : decode cX6_holeOf 44 = .ok (.invokestatic 77, 3) := by decide +kernel
theorem dX6_holeOf_47 : decode cX6_holeOf 47 = .ok (.istore_n 2, 1) := by decide +kernel
theorem dX6_holeOf_48 : decode cX6_holeOf 48 = .ok (.iinc 3 1, 3) := by decide +kernel
theorem dX6_holeOf_51 : decode cX6_holeOf 51 = .ok (.goto (-39), 3) := by decide +kernel
theorem dX6_holeOf_54 : decode cX6_holeOf 54 = .ok (.iload_n 2, 1) := by decide +kernel
theorem dX6_holeOf_55 : decode cX6_holeOf 55 = .ok (.ireturn, 1) := by decide +kernel
theorem dX6_finestOf_0 : decode cX6_finestOf 0 = .ok (.iconst 1, 1) := by decide +kernel
theorem dX6_finestOf_1 : decode cX6_finestOf 1 = .ok (.istore_n 2, 1) := by decide +kernel
theorem dX6_finestOf_2 : decode cX6_finestOf 2 = .ok (.iload_n 2, 1) := by decide +kernel
theorem dX6_finestOf_3 : decode cX6_finestOf 3 = .ok (.aload_n 0, 1) := by decide +kernel
theorem dX6_finestOf_4 : decode cX6_finestOf 4 = .ok (.getfield 18, 3) := by decide +kernel
theorem dX6_finestOf_7 : decode cX6_finestOf 7 = .ok (.getfield 74, 3) := by decide +kernel
theorem dX6_finestOf_10 : decode cX6_finestOf 10 = .ok (.if_icmp .ge 25, 3) := by decide +kernel
theorem dX6_finestOf_13 : decode cX6_finestOf 13 = .ok (.aload_n 0, 1) := by decide +kernel
theorem dX6_finestOf_14 : decode cX6_finestOf 14 = .ok (.aload_n 0, 1) := by decide +kernel
theorem dX6_finestOf_15 : decode cX6_finestOf 15 = .ok (.iload_n 2, 1) := by decide +kernel
theorem dX6_finestOf_16 : decode cX6_finestOf 16 = .ok (.invokevirtual 101, 3) := by decide +kernel
theorem dX6_finestOf_19 : decode cX6_finestOf 19 = .ok (.iload_n 2, 1) := by decide +kernel
theorem dX6_finestOf_20 : decode cX6_finestOf 20 = .ok (.invokevirtual 104, 3) := by decide +kernel
theorem dX6_finestOf_23 : decode cX6_finestOf 23 = .ok (.iload_n 1, 1) := by decide +kernel
theorem dX6_finestOf_24 : decode cX6_finestOf 24 = .ok (.if_icmp .ge 5, 3) := by decide +kernel
theorem dX6_finestOf_27 : decode cX6_finestOf 27 = .ok (.iload_n 2, 1) := by decide +kernel
theorem dX6_finestOf_28 : decode cX6_finestOf 28 = .ok (.ireturn, 1) := by decide +kernel
theorem dX6_finestOf_29 : decode cX6_finestOf 29 = .ok (.iinc 2 1, 3) := by decide +kernel
theorem dX6_finestOf_32 : decode cX6_finestOf 32 = .ok (.goto (-30), 3) := by decide +kernel
theorem dX6_finestOf_35 : decode cX6_finestOf 35 = .ok (.aload_n 0, 1) := by decide +kernel
theorem dX6_finestOf_36 : decode cX6_finestOf 36 = .ok (.getfield 18, 3) := by decide +kernel
theorem dX6_finestOf_39 : decode cX6_finestOf 39 = .ok (.getfield 74, 3) := by decide +kernel
theorem dX6_finestOf_42 : decode cX6_finestOf 42 = .ok (.ireturn, 1) := by decide +kernel
theorem dX6_nearestOf_0 : decode cX6_nearestOf 0 = .ok (.aload_n 0, 1) := by decide +kernel
theorem dX6_nearestOf_1 : decode cX6_nearestOf 1 = .ok (.getfield 18, 3) := by decide +kernel
theorem dX6_nearestOf_4 : decode cX6_nearestOf 4 = .ok (.iload_n 1, 1) := by decide +kernel
theorem dX6_nearestOf_5 : decode cX6_nearestOf 5 = .ok (.aload_n 0, 1) := by decide +kernel
theorem dX6_nearestOf_6 : decode cX6_nearestOf 6 = .ok (.iconst 0, 1) := by decide +kernel
theorem dX6_nearestOf_7 : decode cX6_nearestOf 7 = .ok (.invokevirtual 101, 3) := by decide +kernel
theorem dX6_nearestOf_10 : decode cX6_nearestOf 10 = .ok (.invokevirtual 114, 3) := by decide +kernel
theorem dX6_nearestOf_13 : decode cX6_nearestOf 13 = .ok (.istore_n 3, 1) := by decide +kernel
theorem dX6_nearestOf_14 : decode cX6_nearestOf 14 = .ok (.iconst 1, 1) := by decide +kernel
theorem dX6_nearestOf_15 : decode cX6_nearestOf 15 = .ok (.istore 4, 2) := by decide +kernel
theorem dX6_nearestOf_17 : decode cX6_nearestOf 17 = .ok (.iload 4, 2) := by decide +kernel
theorem dX6_nearestOf_19 : decode cX6_nearestOf 19 = .ok (.iload_n 2, 1) := by decide +kernel
theorem dX6_nearestOf_20 : decode cX6_nearestOf 20 = .ok (.if_icmp .ge 28, 3) := by decide +kernel
theorem dX6_nearestOf_23 : decode cX6_nearestOf 23 = .ok (.iload_n 3, 1) := by decide +kernel
theorem dX6_nearestOf_24 : decode cX6_nearestOf 24 = .ok (.aload_n 0, 1) := by decide +kernel
theorem dX6_nearestOf_25 : decode cX6_nearestOf 25 = .ok (.getfield 18, 3) := by decide +kernel
theorem dX6_nearestOf_28 : decode cX6_nearestOf 28 = .ok (.iload_n 1, 1) := by decide +kernel
theorem dX6_nearestOf_29 : decode cX6_nearestOf 29 = .ok (.aload_n 0, 1) := by decide +kernel
theorem dX6_nearestOf_30 : decode cX6_nearestOf 30 = .ok (.iload 4, 2) := by decide +kernel
theorem dX6_nearestOf_32 : decode cX6_nearestOf 32 = .ok (.invokevirtual 101, 3) := by decide +kernel
theorem dX6_nearestOf_35 : decode cX6_nearestOf 35 = .ok (.invokevirtual 114, 3) := by decide +kernel
theorem dX6_nearestOf_38 : decode cX6_nearestOf 38 = .ok (.invokestatic 117, 3) := by decide +kernel
theorem dX6_nearestOf_41 : decode cX6_nearestOf 41 = .ok (.istore_n 3, 1) := by decide +kernel
theorem dX6_nearestOf_42 : decode cX6_nearestOf 42 = .ok (.iinc 4 1, 3) := by decide +kernel
theorem dX6_nearestOf_45 : decode cX6_nearestOf 45 = .ok (.goto (-28), 3) := by decide +kernel
theorem dX6_nearestOf_48 : decode cX6_nearestOf 48 = .ok (.iload_n 3, 1) := by decide +kernel
theorem dX6_nearestOf_49 : decode cX6_nearestOf 49 = .ok (.ireturn, 1) := by decide +kernel
theorem dX7_init_0 : decode cX7_init 0 = .ok (.aload_n 0, 1) := by decide +kernel
theorem dX7_init_1 : decode cX7_init 1 = .ok (.invokespecial 3, 3) := by decide +kernel
theorem dX7_init_4 : decode cX7_init 4 = .ok (.aload_n 0, 1) := by decide +kernel
theorem dX7_init_5 : decode cX7_init 5 = .ok (.bipush 6, 2) := by decide +kernel
theorem dX7_init_7 : decode cX7_init 7 = .ok (.newarray .int, 2) := by decide +kernel
theorem dX7_init_9 : decode cX7_init 9 = .ok (.putfield 11, 3) := by decide +kernel
theorem dX7_init_12 : decode cX7_init 12 = .ok (.aload_n 0, 1) := by decide +kernel
theorem dX7_init_13 : decode cX7_init 13 = .ok (.bipush 6, 2) := by decide +kernel
theorem dX7_init_15 : decode cX7_init 15 = .ok (.newarray .int, 2) := by decide +kernel
theorem dX7_init_17 : decode cX7_init 17 = .ok (.putfield 15, 3) := by decide +kernel
theorem dX7_init_20 : decode cX7_init 20 = .ok (.aload_n 0, 1) := by decide +kernel
theorem dX7_init_21 : decode cX7_init 21 = .ok (.aload_n 1, 1) := by decide +kernel
theorem dX7_init_22 : decode cX7_init 22 = .ok (.putfield 18, 3) := by decide +kernel
theorem dX7_init_25 : decode cX7_init 25 = .ok (.aload_n 0, 1) := by decide +kernel
theorem dX7_init_26 : decode cX7_init 26 = .ok (.aload_n 2, 1) := by decide +kernel
theorem dX7_init_27 : decode cX7_init 27 = .ok (.putfield 22, 3) := by decide +kernel
theorem dX7_init_30 : decode cX7_init 30 = .ok (.return_, 1) := by decide +kernel
theorem dX7_append_0 : decode cX7_append 0 = .ok (.aload_n 0, 1) := by decide +kernel
theorem dX7_append_1 : decode cX7_append 1 = .ok (.getfield 26, 3) := by decide +kernel
theorem dX7_append_4 : decode cX7_append 4 = .ok (.ifCond .lt 12, 3) := by decide +kernel
theorem dX7_append_7 : decode cX7_append 7 = .ok (.aload_n 0, 1) := by decide +kernel
theorem dX7_append_8 : decode cX7_append 8 = .ok (.getfield 26, 3) := by decide +kernel
theorem dX7_append_11 : decode cX7_append 11 = .ok (.bipush 6, 2) := by decide +kernel
theorem dX7_append_13 : decode cX7_append 13 = .ok (.if_icmp .lt 5, 3) := by decide +kernel
theorem dX7_append_16 : decode cX7_append 16 = .ok (.iconst 0, 1) := by decide +kernel
theorem dX7_append_17 : decode cX7_append 17 = .ok (.ireturn, 1) := by decide +kernel
theorem dX7_append_18 : decode cX7_append 18 = .ok (.aload_n 0, 1) := by decide +kernel
theorem dX7_append_19 : decode cX7_append 19 = .ok (.getfield 11, 3) := by decide +kernel
theorem dX7_append_22 : decode cX7_append 22 = .ok (.aload_n 0, 1) := by decide +kernel
theorem dX7_append_23 : decode cX7_append 23 = .ok (.getfield 26, 3) := by decide +kernel
theorem dX7_append_26 : decode cX7_append 26 = .ok (.iload_n 1, 1) := by decide +kernel
theorem dX7_append_27 : decode cX7_append 27 = .ok (.iastore, 1) := by decide +kernel
theorem dX7_append_28 : decode cX7_append 28 = .ok (.aload_n 0, 1) := by decide +kernel
theorem dX7_append_29 : decode cX7_append 29 = .ok (.getfield 15, 3) := by decide +kernel
theorem dX7_append_32 : decode cX7_append 32 = .ok (.aload_n 0, 1) := by decide +kernel
theorem dX7_append_33 : decode cX7_append 33 = .ok (.getfield 26, 3) := by decide +kernel
theorem dX7_append_36 : decode cX7_append 36 = .ok (.iload_n 2, 1) := by decide +kernel
theorem dX7_append_37 : decode cX7_append 37 = .ok (.iastore, 1) := by decide +kernel
theorem dX7_append_38 : decode cX7_append 38 = .ok (.aload_n 0, 1) := by decide +kernel
theorem dX7_append_39 : decode cX7_append 39 = .ok (.dup, 1) := by decide +kernel
theorem dX7_append_40 : decode cX7_append 40 = .ok (.getfield 26, 3) := by decide +kernel
theorem dX7_append_43 : decode cX7_append 43 = .ok (.iconst 1, 1) := by decide +kernel
theorem dX7_append_44 : decode cX7_append 44 = .ok (.iadd, 1) := by decide +kernel
theorem dX7_append_45 : decode cX7_append 45 = .ok (.putfield 26, 3) := by decide +kernel
theorem dX7_append_48 : decode cX7_append 48 = .ok (.iconst 1, 1) := by decide +kernel
theorem dX7_append_49 : decode cX7_append 49 = .ok (.ireturn, 1) := by decide +kernel
theorem dX7_shadesThatFit_0 : decode cX7_shadesThatFit 0 = .ok (.iconst 0, 1) := by decide +kernel
theorem dX7_shadesThatFit_1 : decode cX7_shadesThatFit 1 = .ok (.istore_n 1, 1) := by decide +kernel
theorem dX7_shadesThatFit_2 : decode cX7_shadesThatFit 2 = .ok (.iconst 0, 1) := by decide +kernel
theorem dX7_shadesThatFit_3 : decode cX7_shadesThatFit 3 = .ok (.istore_n 2, 1) := by decide +kernel
theorem dX7_shadesThatFit_4 : decode cX7_shadesThatFit 4 = .ok (.iload_n 2, 1) := by decide +kernel
theorem dX7_shadesThatFit_5 : decode cX7_shadesThatFit 5 = .ok (.aload_n 0, 1) := by decide +kernel
theorem dX7_shadesThatFit_6 : decode cX7_shadesThatFit 6 = .ok (.getfield 18, 3) := by decide +kernel
theorem dX7_shadesThatFit_9 : decode cX7_shadesThatFit 9 = .ok (.getfield 30, 3) := by decide +kernel
theorem dX7_shadesThatFit_12 : decode cX7_shadesThatFit 12 = .ok (.if_icmp .gt 20, 3) := by decide +kernel
theorem dX7_shadesThatFit_15 : decode cX7_shadesThatFit 15 = .ok (.aload_n 0, 1) := by decide +kernel
theorem dX7_shadesThatFit_16 : decode cX7_shadesThatFit 16 = .ok (.iload_n 2, 1) := by decide +kernel
theorem dX7_shadesThatFit_17 : decode cX7_shadesThatFit 17 = .ok (.invokevirtual 35, 3) := by decide +kernel
theorem dX7_shadesThatFit_20 : decode cX7_shadesThatFit 20 = .ok (.ifCond .eq 6, 3) := by decide +kernel
theorem dX7_shadesThatFit_23 : decode cX7_shadesThatFit 23 = .ok (.iinc 1 1, 3) := by decide +kernel
theorem dX7_shadesThatFit_26 : decode cX7_shadesThatFit 26 = .ok (.iinc 2 1, 3) := by decide +kernel
theorem dX7_shadesThatFit_29 : decode cX7_shadesThatFit 29 = .ok (.goto (-25), 3) := by decide +kernel
theorem dX7_shadesThatFit_32 : decode cX7_shadesThatFit 32 = .ok (.iload_n 1, 1) := by decide +kernel
theorem dX7_shadesThatFit_33 : decode cX7_shadesThatFit 33 = .ok (.ireturn, 1) := by decide +kernel
theorem dX7_leastThatFits_0 : decode cX7_leastThatFits 0 = .ok (.iconst 0, 1) := by decide +kernel
theorem dX7_leastThatFits_1 : decode cX7_leastThatFits 1 = .ok (.istore_n 1, 1) := by decide +kernel
theorem dX7_leastThatFits_2 : decode cX7_leastThatFits 2 = .ok (.iload_n 1, 1) := by decide +kernel
theorem dX7_leastThatFits_3 : decode cX7_leastThatFits 3 = .ok (.aload_n 0, 1) := by decide +kernel
theorem dX7_leastThatFits_4 : decode cX7_leastThatFits 4 = .ok (.getfield 18, 3) := by decide +kernel
theorem dX7_leastThatFits_7 : decode cX7_leastThatFits 7 = .ok (.getfield 30, 3) := by decide +kernel
theorem dX7_leastThatFits_10 : decode cX7_leastThatFits 10 = .ok (.if_icmp .gt 19, 3) := by decide +kernel
theorem dX7_leastThatFits_13 : decode cX7_leastThatFits 13 = .ok (.aload_n 0, 1) := by decide +kernel
theorem dX7_leastThatFits_14 : decode cX7_leastThatFits 14 = .ok (.iload_n 1, 1) := by decide +kernel
theorem dX7_leastThatFits_15 : decode cX7_leastThatFits 15 = .ok (.invokevirtual 35, 3) := by decide +kernel
theorem dX7_leastThatFits_18 : decode cX7_leastThatFits 18 = .ok (.ifCond .eq 5, 3) := by decide +kernel
theorem dX7_leastThatFits_21 : decode cX7_leastThatFits 21 = .ok (.iload_n 1, 1) := by decide +kernel
theorem dX7_leastThatFits_22 : decode cX7_leastThatFits 22 = .ok (.ireturn, 1) := by decide +kernel
theorem dX7_leastThatFits_23 : decode cX7_leastThatFits 23 = .ok (.iinc 1 1, 3) := by decide +kernel
theorem dX7_leastThatFits_26 : decode cX7_leastThatFits 26 = .ok (.goto (-24), 3) := by decide +kernel
theorem dX7_leastThatFits_29 : decode cX7_leastThatFits 29 = .ok (.bipush (-9), 2) := by decide +kernel
theorem dX7_leastThatFits_31 : decode cX7_leastThatFits 31 = .ok (.ireturn, 1) := by decide +kernel
theorem dX7_greatestThatFits_0 : decode cX7_greatestThatFits 0 = .ok (.aload_n 0, 1) := by decide +kernel
theorem dX7_greatestThatFits_1 : decode cX7_greatestThatFits 1 = .ok (.getfield 18, 3) := by decide +kernel
theorem dX7_greatestThatFits_4 : decode cX7_greatestThatFits 4 = .ok (.getfield 30, 3) := by decide +kernel
theorem dX7_greatestThatFits_7 : decode cX7_greatestThatFits 7 = .ok (.istore_n 1, 1) := by decide +kernel
theorem dX7_greatestThatFits_8 : decode cX7_greatestThatFits 8 = .ok (.iload_n 1, 1) := by decide +kernel
theorem dX7_greatestThatFits_9 : decode cX7_greatestThatFits 9 = .ok (.ifCond .lt 19, 3) := by decide +kernel
theorem dX7_greatestThatFits_12 : decode cX7_greatestThatFits 12 = .ok (.aload_n 0, 1) := by decide +kernel
theorem dX7_greatestThatFits_13 : decode cX7_greatestThatFits 13 = .ok (.iload_n 1, 1) := by decide +kernel
theorem dX7_greatestThatFits_14 : decode cX7_greatestThatFits 14 = .ok (.invokevirtual 35, 3) := by decide +kernel
theorem dX7_greatestThatFits_17 : decode cX7_greatestThatFits 17 = .ok (.ifCond .eq 5, 3) := by decide +kernel
theorem dX7_greatestThatFits_20 : decode cX7_greatestThatFits 20 = .ok (.iload_n 1, 1) := by decide +kernel
theorem dX7_greatestThatFits_21 : decode cX7_greatestThatFits 21 = .ok (.ireturn, 1) := by decide +kernel
theorem dX7_greatestThatFits_22 : decode cX7_greatestThatFits 22 = .ok (.iinc 1 (-1), 3) := by decide +kernel
theorem dX7_greatestThatFits_25 : decode cX7_greatestThatFits 25 = .ok (.goto (-17), 3) := by decide +kernel
theorem dX7_greatestThatFits_28 : decode cX7_greatestThatFits 28 = .ok (.bipush (-9), 2) := by decide +kernel
theorem dX7_greatestThatFits_30 : decode cX7_greatestThatFits 30 = .ok (.ireturn, 1) := by decide +kernel
theorem dX7_fits_0 : decode cX7_fits 0 = .ok (.iconst 0, 1) := by decide +kernel
theorem dX7_fits_1 : decode cX7_fits 1 = .ok (.istore_n 2, 1) := by decide +kernel
theorem dX7_fits_2 : decode cX7_fits 2 = .ok (.iload_n 2, 1) := by decide +kernel
theorem dX7_fits_3 : decode cX7_fits 3 = .ok (.aload_n 0, 1) := by decide +kernel
theorem dX7_fits_4 : decode cX7_fits 4 = .ok (.getfield 26, 3) := by decide +kernel
theorem dX7_fits_7 : decode cX7_fits 7 = .ok (.if_icmp .ge 31, 3) := by decide +kernel
theorem dX7_fits_10 : decode cX7_fits 10 = .ok (.aload_n 0, 1) := by decide +kernel
theorem dX7_fits_11 : decode cX7_fits 11 = .ok (.aload_n 0, 1) := by decide +kernel
theorem dX7_fits_12 : decode cX7_fits 12 = .ok (.getfield 11, 3) := by decide +kernel
theorem dX7_fits_15 : decode cX7_fits 15 = .ok (.iload_n 2, 1) := by decide +kernel
theorem dX7_fits_16 : decode cX7_fits 16 = .ok (.iaload, 1) := by decide +kernel
theorem dX7_fits_17 : decode cX7_fits 17 = .ok (.iload_n 1, 1) := by decide +kernel
theorem dX7_fits_18 : decode cX7_fits 18 = .ok (.invokevirtual 39, 3) := by decide +kernel
theorem dX7_fits_21 : decode cX7_fits 21 = .ok (.aload_n 0, 1) := by decide +kernel
theorem dX7_fits_22 : decode cX7_fits 22 = .ok (.getfield 15, 3) := by decide +kernel
theorem dX7_fits_25 : decode cX7_fits 25 = .ok (.iload_n 2, 1) := by decide +kernel
theorem dX7_fits_26 : decode cX7_fits 26 = .ok (.iaload, 1) := by decide +kernel
theorem dX7_fits_27 : decode cX7_fits 27 = .ok (.if_icmp .eq 5, 3) := by decide +kernel
theorem dX7_fits_30 : decode cX7_fits 30 = .ok (.iconst 0, 1) := by decide +kernel
theorem dX7_fits_31 : decode cX7_fits 31 = .ok (.ireturn, 1) := by decide +kernel
theorem dX7_fits_32 : decode cX7_fits 32 = .ok (.iinc 2 1, 3) := by decide +kernel
theorem dX7_fits_35 : decode cX7_fits 35 = .ok (.goto (-33), 3) := by decide +kernel
theorem dX7_fits_38 : decode cX7_fits 38 = .ok (.iconst 1, 1) := by decide +kernel
theorem dX7_fits_39 : decode cX7_fits 39 = .ok (.ireturn, 1) := by decide +kernel
theorem dX7_cellsOn_0 : decode cX7_cellsOn 0 = .ok (.iconst 0, 1) := by decide +kernel
theorem dX7_cellsOn_1 : decode cX7_cellsOn 1 = .ok (.istore_n 3, 1) := by decide +kernel
theorem dX7_cellsOn_2 : decode cX7_cellsOn 2 = .ok (.iconst 0, 1) := by decide +kernel
theorem dX7_cellsOn_3 : decode cX7_cellsOn 3 = .ok (.istore 4, 2) := by decide +kernel
theorem dX7_cellsOn_5 : decode cX7_cellsOn 5 = .ok (.iload 4, 2) := by decide +kernel
theorem dX7_cellsOn_7 : decode cX7_cellsOn 7 = .ok (.iload_n 2, 1) := by decide +kernel
theorem dX7_cellsOn_8 : decode cX7_cellsOn 8 = .ok (.if_icmp .ge 61, 3) := by decide +kernel
theorem dX7_cellsOn_11 : decode cX7_cellsOn 11 = .ok (.aload_n 0, 1) := by decide +kernel
theorem dX7_cellsOn_12 : decode cX7_cellsOn 12 = .ok (.getfield 22, 3) := by decide +kernel
theorem dX7_cellsOn_15 : decode cX7_cellsOn 15 = .ok (.iload 4, 2) := by decide +kernel
theorem dX7_cellsOn_17 : decode cX7_cellsOn 17 = .ok (.invokevirtual 43, 3) := by decide +kernel
theorem dX7_cellsOn_20 : decode cX7_cellsOn 20 = .ok (.istore 5, 2) := by decide +kernel
theorem dX7_cellsOn_22 : decode cX7_cellsOn 22 = .ok (.iload_n 1, 1) := by decide +kernel
theorem dX7_cellsOn_23 : decode cX7_cellsOn 23 = .ok (.bipush 8, 2) := by decide +kernel
theorem dX7_cellsOn_25 : decode cX7_cellsOn 25 = .ok (.if_icmp .ge 15, 3) := by decide +kernel
theorem dX7_cellsOn_28 : decode cX7_cellsOn 28 = .ok (.aload_n 0, 1) := by decide +kernel
theorem dX7_cellsOn_29 : decode cX7_cellsOn 29 = .ok (.getfield 18, 3) := by decide +kernel
theorem dX7_cellsOn_32 : decode cX7_cellsOn 32 = .ok (.iload 5, 2) := by decide +kernel
theorem dX7_cellsOn_34 : decode cX7_cellsOn 34 = .ok (.invokevirtual 49, 3) := by decide +kernel
theorem dX7_cellsOn_37 : decode cX7_cellsOn 37 = .ok (.goto 15, 3) := by decide +kernel
theorem dX7_cellsOn_40 : decode cX7_cellsOn 40 = .ok (.bipush 8, 2) := by decide +kernel
theorem dX7_cellsOn_42 : decode cX7_cellsOn 42 = .ok (.aload_n 0, 1) := by decide +kernel
theorem dX7_cellsOn_43 : decode cX7_cellsOn 43 = .ok (.getfield 18, 3) := by decide +kernel
theorem dX7_cellsOn_46 : decode cX7_cellsOn 46 = .ok (.iload 5, 2) := by decide +kernel
theorem dX7_cellsOn_48 : decode cX7_cellsOn 48 = .ok (.invokevirtual 52, 3) := by decide +kernel
theorem dX7_cellsOn_51 : decode cX7_cellsOn 51 = .ok (.iadd, 1) := by decide +kernel
theorem dX7_cellsOn_52 : decode cX7_cellsOn 52 = .ok (.istore 6, 2) := by decide +kernel
theorem dX7_cellsOn_54 : decode cX7_cellsOn 54 = .ok (.iload 6, 2) := by decide +kernel
theorem dX7_cellsOn_56 : decode cX7_cellsOn 56 = .ok (.iload_n 1, 1) := by decide +kernel
theorem dX7_cellsOn_57 : decode cX7_cellsOn 57 = .ok (.if_icmp .ne 6, 3) := by decide +kernel
theorem dX7_cellsOn_60 : decode cX7_cellsOn 60 = .ok (.iinc 3 1, 3) := by decide +kernel
theorem dX7_cellsOn_63 : decode cX7_cellsOn 63 = .ok (.iinc 4 1, 3) := by decide +kernel
theorem dX7_cellsOn_66 : decode cX7_cellsOn 66 = .ok (.goto (-61), 3) := by decide +kernel
theorem dX7_cellsOn_69 : decode cX7_cellsOn 69 = .ok (.iload_n 3, 1) := by decide +kernel
theorem dX7_cellsOn_70 : decode cX7_cellsOn 70 = .ok (.ireturn, 1) := by decide +kernel
theorem dX8_init_0 : decode cX8_init 0 = .ok (.aload_n 0, 1) := by decide +kernel
theorem dX8_init_1 : decode cX8_init 1 = .ok (.invokespecial 3, 3) := by decide +kernel
theorem dX8_init_4 : decode cX8_init 4 = .ok (.aload_n 0, 1) := by decide +kernel
theorem dX8_init_5 : decode cX8_init 5 = .ok (.sipush 150, 3) := by decide +kernel
theorem dX8_init_8 : decode cX8_init 8 = .ok (.newarray .int, 2) := by decide +kernel
theorem dX8_init_10 : decode cX8_init 10 = .ok (.putfield 11, 3) := by decide +kernel
theorem dX8_init_13 : decode cX8_init 13 = .ok (.return_, 1) := by decide +kernel
theorem dX8_append_0 : decode cX8_append 0 = .ok (.aload_n 0, 1) := by decide +kernel
theorem dX8_append_1 : decode cX8_append 1 = .ok (.getfield 15, 3) := by decide +kernel
theorem dX8_append_4 : decode cX8_append 4 = .ok (.ifCond .lt 15, 3) := by decide +kernel
theorem dX8_append_7 : decode cX8_append 7 = .ok (.aload_n 0, 1) := by decide +kernel
theorem dX8_append_8 : decode cX8_append 8 = .ok (.getfield 15, 3) := by decide +kernel
theorem dX8_append_11 : decode cX8_append 11 = .ok (.aload_n 0, 1) := by decide +kernel
theorem dX8_append_12 : decode cX8_append 12 = .ok (.getfield 11, 3) := by decide +kernel
theorem dX8_append_15 : decode cX8_append 15 = .ok (.arraylength, 1) := by decide +kernel
theorem dX8_append_16 : decode cX8_append 16 = .ok (.if_icmp .lt 5, 3) := by decide +kernel
theorem dX8_append_19 : decode cX8_append 19 = .ok (.iconst 0, 1) := by decide +kernel
theorem dX8_append_20 : decode cX8_append 20 = .ok (.ireturn, 1) := by decide +kernel
theorem dX8_append_21 : decode cX8_append 21 = .ok (.aload_n 0, 1) := by decide +kernel
theorem dX8_append_22 : decode cX8_append 22 = .ok (.getfield 11, 3) := by decide +kernel
theorem dX8_append_25 : decode cX8_append 25 = .ok (.aload_n 0, 1) := by decide +kernel
theorem dX8_append_26 : decode cX8_append 26 = .ok (.getfield 15, 3) := by decide +kernel
theorem dX8_append_29 : decode cX8_append 29 = .ok (.iload_n 1, 1) := by decide +kernel
theorem dX8_append_30 : decode cX8_append 30 = .ok (.iastore, 1) := by decide +kernel
theorem dX8_append_31 : decode cX8_append 31 = .ok (.aload_n 0, 1) := by decide +kernel
theorem dX8_append_32 : decode cX8_append 32 = .ok (.dup, 1) := by decide +kernel
theorem dX8_append_33 : decode cX8_append 33 = .ok (.getfield 15, 3) := by decide +kernel
theorem dX8_append_36 : decode cX8_append 36 = .ok (.iconst 1, 1) := by decide +kernel
theorem dX8_append_37 : decode cX8_append 37 = .ok (.iadd, 1) := by decide +kernel
theorem dX8_append_38 : decode cX8_append 38 = .ok (.putfield 15, 3) := by decide +kernel
theorem dX8_append_41 : decode cX8_append 41 = .ok (.iconst 1, 1) := by decide +kernel
theorem dX8_append_42 : decode cX8_append 42 = .ok (.ireturn, 1) := by decide +kernel
theorem dX8_readInto_0 : decode cX8_readInto 0 = .ok (.aload_n 1, 1) := by decide +kernel
theorem dX8_readInto_1 : decode cX8_readInto 1 = .ok (.invokevirtual 19, 3) := by decide +kernel
theorem dX8_readInto_4 : decode cX8_readInto 4 = .ok (.aload_n 0, 1) := by decide +kernel
theorem dX8_readInto_5 : decode cX8_readInto 5 = .ok (.iconst 0, 1) := by decide +kernel
theorem dX8_readInto_6 : decode cX8_readInto 6 = .ok (.putfield 24, 3) := by decide +kernel
theorem dX8_readInto_9 : decode cX8_readInto 9 = .ok (.aload_n 0, 1) := by decide +kernel
theorem dX8_readInto_10 : decode cX8_readInto 10 = .ok (.invokevirtual 27, 3) := by decide +kernel
theorem dX8_readInto_13 : decode cX8_readInto 13 = .ok (.iconst 0, 1) := by decide +kernel
theorem dX8_readInto_14 : decode cX8_readInto 14 = .ok (.istore_n 2, 1) := by decide +kernel
theorem dX8_readInto_15 : decode cX8_readInto 15 = .ok (.aload_n 0, 1) := by decide +kernel
theorem dX8_readInto_16 : decode cX8_readInto 16 = .ok (.getfield 30, 3) := by decide +kernel
theorem dX8_readInto_19 : decode cX8_readInto 19 = .ok (.sipush 258, 3) := by decide +kernel
theorem dX8_readInto_22 : decode cX8_readInto 22 = .ok (.if_icmp .eq 45, 3) := by decide +kernel
theorem dX8_readInto_25 : decode cX8_readInto 25 = .ok (.iload_n 2, 1) := by decide +kernel
theorem dX8_readInto_26 : decode cX8_readInto 26 = .ok (.sipush 150, 3) := by decide +kernel
theorem dX8_readInto_29 : decode cX8_readInto 29 = .ok (.if_icmp .ge 38, 3) := by decide +kernel
theorem dX8_readInto_32 : decode cX8_readInto 32 = .ok (.aload_n 0, 1) := by decide +kernel
theorem dX8_readInto_33 : decode cX8_readInto 33 = .ok (.aload_n 1, 1) := by decide +kernel
theorem dX8_readInto_34 : decode cX8_readInto 34 = .ok (.iload_n 2, 1) := by decide +kernel
theorem dX8_readInto_35 : decode cX8_readInto 35 = .ok (.ifCond .ne 7, 3) := by decide +kernel
theorem dX8_readInto_38 : decode cX8_readInto 38 = .ok (.iconst 1, 1) := by decide +kernel
theorem dX8_readInto_39 : decode cX8_readInto 39 = .ok (.goto 4, 3) := by decide +kernel
theorem dX8_readInto_42 : decode cX8_readInto 42 = .ok (.iconst 0, 1) := by decide +kernel
theorem dX8_readInto_43 : decode cX8_readInto 43 = .ok (.invokevirtual 33, 3) := by decide +kernel
theorem dX8_readInto_46 : decode cX8_readInto 46 = .ok (.ifCond .ne 11, 3) := by decide +kernel
theorem dX8_readInto_49 : decode cX8_readInto 49 = .ok (.bipush (-10), 2) := by decide +kernel
theorem dX8_readInto_51 : decode cX8_readInto 51 = .ok (.aload_n 0, 1) := by decide +kernel
theorem dX8_readInto_52 : decode cX8_readInto 52 = .ok (.getfield 37, 3) := by decide +kernel
theorem dX8_readInto_55 : decode cX8_readInto 55 = .ok (.isub, 1) := by decide +kernel
theorem dX8_readInto_56 : decode cX8_readInto 56 = .ok (.ireturn, 1) := by decide +kernel
theorem dX8_readInto_57 : decode cX8_readInto 57 = .ok (.iinc 2 1, 3) := by decide +kernel
theorem dX8_readInto_60 : decode cX8_readInto 60 = .ok (.aload_n 0, 1) := by decide +kernel
theorem dX8_readInto_61 : decode cX8_readInto 61 = .ok (.invokevirtual 27, 3) := by decide +kernel
theorem dX8_readInto_64 : decode cX8_readInto 64 = .ok (.goto (-49), 3) := by decide +kernel
theorem dX8_readInto_67 : decode cX8_readInto 67 = .ok (.iload_n 2, 1) := by decide +kernel
theorem dX8_readInto_68 : decode cX8_readInto 68 = .ok (.ireturn, 1) := by decide +kernel
theorem dX8_readItem_0 : decode cX8_readItem 0 = .ok (.aload_n 0, 1) := by decide +kernel
theorem dX8_readItem_1 : decode cX8_readItem 1 = .ok (.getfield 30, 3) := by decide +kernel
theorem dX8_readItem_4 : decode cX8_readItem 4 = .ok (.lookupswitch 111 #[(97, 82), (100, 101), (103, 52), (107, 73), (115, 91)], 52) := by decide +kernel
theorem dX8_readItem_56 : decode cX8_readItem 56 = .ok (.iload_n 2, 1) := by decide +kernel
theorem dX8_readItem_57 : decode cX8_readItem 57 = .ok (.ifCond .eq 15, 3) := by decide +kernel
theorem dX8_readItem_60 : decode cX8_readItem 60 = .ok (.aload_n 0, 1) := by decide +kernel
theorem dX8_readItem_61 : decode cX8_readItem 61 = .ok (.aload_n 1, 1) := by decide +kernel
theorem dX8_readItem_62 : decode cX8_readItem 62 = .ok (.invokevirtual 40, 3) := by decide +kernel
theorem dX8_readItem_65 : decode cX8_readItem 65 = .ok (.ifCond .eq 7, 3) := by decide +kernel
theorem dX8_readItem_68 : decode cX8_readItem 68 = .ok (.iconst 1, 1) := by decide +kernel
theorem dX8_readItem_69 : decode cX8_readItem 69 = .ok (.goto 4, 3) := by decide +kernel
theorem dX8_readItem_72 : decode cX8_readItem 72 = .ok (.iconst 0, 1) := by decide +kernel
theorem dX8_readItem_73 : decode cX8_readItem 73 = .ok (.istore_n 3, 1) := by decide +kernel
theorem dX8_readItem_74 : decode cX8_readItem 74 = .ok (.goto 43, 3) := by decide +kernel
theorem dX8_readItem_77 : decode cX8_readItem 77 = .ok (.aload_n 0, 1) := by decide +kernel
theorem dX8_readItem_78 : decode cX8_readItem 78 = .ok (.aload_n 1, 1) := by decide +kernel
theorem dX8_readItem_79 : decode cX8_readItem 79 = .ok (.invokevirtual 44, 3) := by decide +kernel
theorem dX8_readItem_82 : decode cX8_readItem 82 = .ok (.istore_n 3, 1) := by decide +kernel
theorem dX8_readItem_83 : decode cX8_readItem 83 = .ok (.goto 34, 3) := by decide +kernel
theorem dX8_readItem_86 : decode cX8_readItem 86 = .ok (.aload_n 0, 1) := by decide +kernel
theorem dX8_readItem_87 : decode cX8_readItem 87 = .ok (.aload_n 1, 1) := by decide +kernel
theorem dX8_readItem_88 : decode cX8_readItem 88 = .ok (.invokevirtual 47, 3) := by decide +kernel
theorem dX8_readItem_91 : decode cX8_readItem 91 = .ok (.istore_n 3, 1) := by decide +kernel
theorem dX8_readItem_92 : decode cX8_readItem 92 = .ok (.goto 25, 3) := by decide +kernel
theorem dX8_readItem_95 : decode cX8_readItem 95 = .ok (.aload_n 0, 1) := by decide +kernel
theorem dX8_readItem_96 : decode cX8_readItem 96 = .ok (.aload_n 1, 1) := by decide +kernel
theorem dX8_readItem_97 : decode cX8_readItem 97 = .ok (.iconst 1, 1) := by decide +kernel
theorem dX8_readItem_98 : decode cX8_readItem 98 = .ok (.invokevirtual 50, 3) := by decide +kernel
theorem dX8_readItem_101 : decode cX8_readItem 101 = .ok (.istore_n 3, 1) := by decide +kernel
theorem dX8_readItem_102 : decode cX8_readItem 102 = .ok (.goto 15, 3) := by decide +kernel
theorem dX8_readItem_105 : decode cX8_readItem 105 = .ok (.aload_n 0, 1) := by decide +kernel
theorem dX8_readItem_106 : decode cX8_readItem 106 = .ok (.aload_n 1, 1) := by decide +kernel
theorem dX8_readItem_107 : decode cX8_readItem 107 = .ok (.iconst 0, 1) := by decide +kernel
theorem dX8_readItem_108 : decode cX8_readItem 108 = .ok (.invokevirtual 50, 3) := by decide +kernel
theorem dX8_readItem_111 : decode cX8_readItem 111 = .ok (.istore_n 3, 1) := by decide +kernel
theorem dX8_readItem_112 : decode cX8_readItem 112 = .ok (.goto 5, 3) := by decide +kernel
theorem dX8_readItem_115 : decode cX8_readItem 115 = .ok (.iconst 0, 1) := by decide +kernel
theorem dX8_readItem_116 : decode cX8_readItem 116 = .ok (.istore_n 3, 1) := by decide +kernel
theorem dX8_readItem_117 : decode cX8_readItem 117 = .ok (.iload_n 3, 1) := by decide +kernel
theorem dX8_readItem_118 : decode cX8_readItem 118 = .ok (.ifCond .ne 5, 3) := by decide +kernel
theorem dX8_readItem_121 : decode cX8_readItem 121 = .ok (.iconst 0, 1) := by decide +kernel
theorem dX8_readItem_122 : decode cX8_readItem 122 = .ok (.ireturn, 1) := by decide +kernel
theorem dX8_readItem_123 : decode cX8_readItem 123 = .ok (.aload_n 0, 1) := by decide +kernel
theorem dX8_readItem_124 : decode cX8_readItem 124 = .ok (.invokevirtual 27, 3) := by decide +kernel
theorem dX8_readItem_127 : decode cX8_readItem 127 = .ok (.aload_n 0, 1) := by decide +kernel
theorem dX8_readItem_128 : decode cX8_readItem 128 = .ok (.getfield 30, 3) := by decide +kernel
theorem dX8_readItem_131 : decode cX8_readItem 131 = .ok (.bipush 59, 2) := by decide +kernel
theorem dX8_readItem_133 : decode cX8_readItem 133 = .ok (.if_icmp .ne 7, 3) := by decide +kernel
theorem dX8_readItem_136 : decode cX8_readItem 136 = .ok (.iconst 1, 1) := by decide +kernel
theorem dX8_readItem_137 : decode cX8_readItem 137 = .ok (.goto 4, 3) := by decide +kernel
theorem dX8_readItem_140 : decode cX8_readItem 140 = .ok (.iconst 0, 1) := by decide +kernel
theorem dX8_readItem_141 : decode cX8_readItem 141 = .ok (.ireturn, 1) := by decide +kernel
theorem dX8_readMeasures_0 : decode cX8_readMeasures 0 = .ok (.aload_n 0, 1) := by decide +kernel
theorem dX8_readMeasures_1 : decode cX8_readMeasures 1 = .ok (.iconst 1, 1) := by decide +kernel
theorem dX8_readMeasures_2 : decode cX8_readMeasures 2 = .ok (.bipush 8, 2) := by decide +kernel
theorem dX8_readMeasures_4 : decode cX8_readMeasures 4 = .ok (.invokevirtual 53, 3) := by decide +kernel
theorem dX8_readMeasures_7 : decode cX8_readMeasures 7 = .ok (.ifCond .ne 5, 3) := by decide +kernel
theorem dX8_readMeasures_10 : decode cX8_readMeasures 10 = .ok (.iconst 0, 1) := by decide +kernel
theorem dX8_readMeasures_11 : decode cX8_readMeasures 11 = .ok (.ireturn, 1) := by decide +kernel
theorem dX8_readMeasures_12 : decode cX8_readMeasures 12 = .ok (.aload_n 1, 1) := by decide +kernel
theorem dX8_readMeasures_13 : decode cX8_readMeasures 13 = .ok (.aload_n 0, 1) := by decide +kernel
theorem dX8_readMeasures_14 : decode cX8_readMeasures 14 = .ok (.getfield 57, 3) := by decide +kernel
theorem dX8_readMeasures_17 : decode cX8_readMeasures 17 = .ok (.putfield 60, 3) := by decide +kernel
theorem dX8_readMeasures_20 : decode cX8_readMeasures 20 = .ok (.aload_n 0, 1) := by decide +kernel
theorem dX8_readMeasures_21 : decode cX8_readMeasures 21 = .ok (.iconst 1, 1) := by decide +kernel
theorem dX8_readMeasures_22 : decode cX8_readMeasures 22 = .ok (.bipush 8, 2) := by decide +kernel
theorem dX8_readMeasures_24 : decode cX8_readMeasures 24 = .ok (.invokevirtual 53, 3) := by decide +kernel
theorem dX8_readMeasures_27 : decode cX8_readMeasures 27 = .ok (.ifCond .ne 5, 3) := by decide +kernel
theorem dX8_readMeasures_30 : decode cX8_readMeasures 30 = .ok (.iconst 0, 1) := by decide +kernel
theorem dX8_readMeasures_31 : decode cX8_readMeasures 31 = .ok (.ireturn, 1) := by decide +kernel
theorem dX8_readMeasures_32 : decode cX8_readMeasures 32 = .ok (.aload_n 1, 1) := by decide +kernel
theorem dX8_readMeasures_33 : decode cX8_readMeasures 33 = .ok (.aload_n 0, 1) := by decide +kernel
theorem dX8_readMeasures_34 : decode cX8_readMeasures 34 = .ok (.getfield 57, 3) := by decide +kernel
theorem dX8_readMeasures_37 : decode cX8_readMeasures 37 = .ok (.putfield 63, 3) := by decide +kernel
theorem dX8_readMeasures_40 : decode cX8_readMeasures 40 = .ok (.iconst 1, 1) := by decide +kernel
theorem dX8_readMeasures_41 : decode cX8_readMeasures 41 = .ok (.ireturn, 1) := by decide +kernel
theorem dX8_readKernel_0 : decode cX8_readKernel 0 = .ok (.aload_n 0, 1) := by decide +kernel
theorem dX8_readKernel_1 : decode cX8_readKernel 1 = .ok (.iconst 0, 1) := by decide +kernel
theorem dX8_readKernel_2 : decode cX8_readKernel 2 = .ok (.iconst 2, 1) := by decide +kernel
theorem dX8_readKernel_3 : decode cX8_readKernel 3 = .ok (.invokevirtual 53, 3) := by decide +kernel
theorem dX8_readKernel_6 : decode cX8_readKernel 6 = .ok (.ifCond .ne 5, 3) := by decide +kernel
theorem dX8_readKernel_9 : decode cX8_readKernel 9 = .ok (.iconst 0, 1) := by decide +kernel
theorem dX8_readKernel_10 : decode cX8_readKernel 10 = .ok (.ireturn, 1) := by decide +kernel
theorem dX8_readKernel_11 : decode cX8_readKernel 11 = .ok (.aload_n 1, 1) := by decide +kernel
theorem dX8_readKernel_12 : decode cX8_readKernel 12 = .ok (.aload_n 0, 1) := by decide +kernel
theorem dX8_readKernel_13 : decode cX8_readKernel 13 = .ok (.getfield 57, 3) := by decide +kernel
theorem dX8_readKernel_16 : decode cX8_readKernel 16 = .ok (.putfield 66, 3) := by decide +kernel
theorem dX8_readKernel_19 : decode cX8_readKernel 19 = .ok (.aload_n 0, 1) := by decide +kernel
theorem dX8_readKernel_20 : decode cX8_readKernel 20 = .ok (.iconst 1, 1) := by decide +kernel
theorem dX8_readKernel_21 : decode cX8_readKernel 21 = .ok (.sipush 999, 3) := by decide +kernel
theorem dX8_readKernel_24 : decode cX8_readKernel 24 = .ok (.invokevirtual 53, 3) := by decide +kernel
theorem dX8_readKernel_27 : decode cX8_readKernel 27 = .ok (.ifCond .ne 5, 3) := by decide +kernel
theorem dX8_readKernel_30 : decode cX8_readKernel 30 = .ok (.iconst 0, 1) := by decide +kernel
theorem dX8_readKernel_31 : decode cX8_readKernel 31 = .ok (.ireturn, 1) := by decide +kernel
theorem dX8_readKernel_32 : decode cX8_readKernel 32 = .ok (.aload_n 1, 1) := by decide +kernel
theorem dX8_readKernel_33 : decode cX8_readKernel 33 = .ok (.aload_n 0, 1) := by decide +kernel
theorem dX8_readKernel_34 : decode cX8_readKernel 34 = .ok (.getfield 57, 3) := by decide +kernel
theorem dX8_readKernel_37 : decode cX8_readKernel 37 = .ok (.putfield 69, 3) := by decide +kernel
theorem dX8_readKernel_40 : decode cX8_readKernel 40 = .ok (.aload_n 0, 1) := by decide +kernel
theorem dX8_readKernel_41 : decode cX8_readKernel 41 = .ok (.iconst 1, 1) := by decide +kernel
theorem dX8_readKernel_42 : decode cX8_readKernel 42 = .ok (.bipush 99, 2) := by decide +kernel
theorem dX8_readKernel_44 : decode cX8_readKernel 44 = .ok (.invokevirtual 53, 3) := by decide +kernel
theorem dX8_readKernel_47 : decode cX8_readKernel 47 = .ok (.ifCond .ne 5, 3) := by decide +kernel
theorem dX8_readKernel_50 : decode cX8_readKernel 50 = .ok (.iconst 0, 1) := by decide +kernel
theorem dX8_readKernel_51 : decode cX8_readKernel 51 = .ok (.ireturn, 1) := by decide +kernel
theorem dX8_readKernel_52 : decode cX8_readKernel 52 = .ok (.aload_n 1, 1) := by decide +kernel
theorem dX8_readKernel_53 : decode cX8_readKernel 53 = .ok (.aload_n 0, 1) := by decide +kernel
theorem dX8_readKernel_54 : decode cX8_readKernel 54 = .ok (.getfield 57, 3) := by decide +kernel
theorem dX8_readKernel_57 : decode cX8_readKernel 57 = .ok (.putfield 72, 3) := by decide +kernel
theorem dX8_readKernel_60 : decode cX8_readKernel 60 = .ok (.iconst 1, 1) := by decide +kernel
theorem dX8_readKernel_61 : decode cX8_readKernel 61 = .ok (.ireturn, 1) := by decide +kernel
theorem dX8_readStretch_0 : decode cX8_readStretch 0 = .ok (.aload_n 0, 1) := by decide +kernel
theorem dX8_readStretch_1 : decode cX8_readStretch 1 = .ok (.iconst 1, 1) := by decide +kernel
theorem dX8_readStretch_2 : decode cX8_readStretch 2 = .ok (.iconst 4, 1) := by decide +kernel
theorem dX8_readStretch_3 : decode cX8_readStretch 3 = .ok (.invokevirtual 53, 3) := by decide +kernel
theorem dX8_readStretch_6 : decode cX8_readStretch 6 = .ok (.ifCond .ne 5, 3) := by decide +kernel
theorem dX8_readStretch_9 : decode cX8_readStretch 9 = .ok (.iconst 0, 1) := by decide +kernel
theorem dX8_readStretch_10 : decode cX8_readStretch 10 = .ok (.ireturn, 1) := by decide +kernel
theorem dX8_readStretch_11 : decode cX8_readStretch 11 = .ok (.aload_n 1, 1) := by decide +kernel
theorem dX8_readStretch_12 : decode cX8_readStretch 12 = .ok (.aload_n 0, 1) := by decide +kernel
theorem dX8_readStretch_13 : decode cX8_readStretch 13 = .ok (.getfield 57, 3) := by decide +kernel
theorem dX8_readStretch_16 : decode cX8_readStretch 16 = .ok (.putfield 75, 3) := by decide +kernel
theorem dX8_readStretch_19 : decode cX8_readStretch 19 = .ok (.aload_n 0, 1) := by decide +kernel
theorem dX8_readStretch_20 : decode cX8_readStretch 20 = .ok (.iconst 1, 1) := by decide +kernel
theorem dX8_readStretch_21 : decode cX8_readStretch 21 = .ok (.iconst 4, 1) := by decide +kernel
theorem dX8_readStretch_22 : decode cX8_readStretch 22 = .ok (.invokevirtual 53, 3) := by decide +kernel
theorem dX8_readStretch_25 : decode cX8_readStretch 25 = .ok (.ifCond .ne 5, 3) := by decide +kernel
theorem dX8_readStretch_28 : decode cX8_readStretch 28 = .ok (.iconst 0, 1) := by decide +kernel
theorem dX8_readStretch_29 : decode cX8_readStretch 29 = .ok (.ireturn, 1) := by decide +kernel
theorem dX8_readStretch_30 : decode cX8_readStretch 30 = .ok (.aload_n 1, 1) := by decide +kernel
theorem dX8_readStretch_31 : decode cX8_readStretch 31 = .ok (.aload_n 0, 1) := by decide +kernel
theorem dX8_readStretch_32 : decode cX8_readStretch 32 = .ok (.getfield 57, 3) := by decide +kernel
theorem dX8_readStretch_35 : decode cX8_readStretch 35 = .ok (.putfield 78, 3) := by decide +kernel
theorem dX8_readStretch_38 : decode cX8_readStretch 38 = .ok (.iconst 1, 1) := by decide +kernel
theorem dX8_readStretch_39 : decode cX8_readStretch 39 = .ok (.ireturn, 1) := by decide +kernel
theorem dX8_readCell_0 : decode cX8_readCell 0 = .ok (.aload_n 0, 1) := by decide +kernel
theorem dX8_readCell_1 : decode cX8_readCell 1 = .ok (.iconst 0, 1) := by decide +kernel
theorem dX8_readCell_2 : decode cX8_readCell 2 = .ok (.aload_n 1, 1) := by decide +kernel
theorem dX8_readCell_3 : decode cX8_readCell 3 = .ok (.getfield 60, 3) := by decide +kernel
theorem dX8_readCell_6 : decode cX8_readCell 6 = .ok (.iconst 1, 1) := by decide +kernel
theorem dX8_readCell_7 : decode cX8_readCell 7 = .ok (.isub, 1) := by decide +kernel
theorem dX8_readCell_8 : decode cX8_readCell 8 = .ok (.invokevirtual 53, 3) := by decide +kernel
theorem dX8_readCell_11 : decode cX8_readCell 11 = .ok (.ifCond .ne 5, 3) := by decide +kernel
theorem dX8_readCell_14 : decode cX8_readCell 14 = .ok (.iconst 0, 1) := by decide +kernel
theorem dX8_readCell_15 : decode cX8_readCell 15 = .ok (.ireturn, 1) := by decide +kernel
theorem dX8_readCell_16 : decode cX8_readCell 16 = .ok (.aload_n 0, 1) := by decide +kernel
theorem dX8_readCell_17 : decode cX8_readCell 17 = .ok (.getfield 57, 3) := by decide +kernel
theorem dX8_readCell_20 : decode cX8_readCell 20 = .ok (.istore_n 3, 1) := by decide +kernel
theorem dX8_readCell_21 : decode cX8_readCell 21 = .ok (.aload_n 0, 1) := by decide +kernel
theorem dX8_readCell_22 : decode cX8_readCell 22 = .ok (.iconst 0, 1) := by decide +kernel
theorem dX8_readCell_23 : decode cX8_readCell 23 = .ok (.aload_n 1, 1) := by decide +kernel
theorem dX8_readCell_24 : decode cX8_readCell 24 = .ok (.getfield 63, 3) := by decide +kernel
theorem dX8_readCell_27 : decode cX8_readCell 27 = .ok (.iconst 1, 1) := by decide +kernel
theorem dX8_readCell_28 : decode cX8_readCell 28 = .ok (.isub, 1) := by decide +kernel
theorem dX8_readCell_29 : decode cX8_readCell 29 = .ok (.invokevirtual 53, 3) := by decide +kernel
theorem dX8_readCell_32 : decode cX8_readCell 32 = .ok (.ifCond .ne 5, 3) := by decide +kernel
theorem dX8_readCell_35 : decode cX8_readCell 35 = .ok (.iconst 0, 1) := by decide +kernel
theorem dX8_readCell_36 : decode cX8_readCell 36 = .ok (.ireturn, 1) := by decide +kernel
theorem dX8_readCell_37 : decode cX8_readCell 37 = .ok (.aload_n 1, 1) := by decide +kernel
theorem dX8_readCell_38 : decode cX8_readCell 38 = .ok (.iload_n 3, 1) := by decide +kernel
theorem dX8_readCell_39 : decode cX8_readCell 39 = .ok (.aload_n 0, 1) := by decide +kernel
theorem dX8_readCell_40 : decode cX8_readCell 40 = .ok (.getfield 57, 3) := by decide +kernel
theorem dX8_readCell_43 : decode cX8_readCell 43 = .ok (.invokevirtual 81, 3) := by decide +kernel
theorem dX8_readCell_46 : decode cX8_readCell 46 = .ok (.istore 4, 2) := by decide +kernel
theorem dX8_readCell_48 : decode cX8_readCell 48 = .ok (.iload 4, 2) := by decide +kernel
theorem dX8_readCell_50 : decode cX8_readCell 50 = .ok (.iconst (-1), 1) := by decide +kernel
theorem dX8_readCell_51 : decode cX8_readCell 51 = .ok (.if_icmp .eq 20, 3) := by decide +kernel
theorem dX8_readCell_54 : decode cX8_readCell 54 = .ok (.aload_n 1, 1) := by decide +kernel
theorem dX8_readCell_55 : decode cX8_readCell 55 = .ok (.getfield 85, 3) := by decide +kernel
theorem dX8_readCell_58 : decode cX8_readCell 58 = .ok (.aload_n 1, 1) := by decide +kernel
theorem dX8_readCell_59 : decode cX8_readCell 59 = .ok (.getfield 89, 3) := by decide +kernel
theorem dX8_readCell_62 : decode cX8_readCell 62 = .ok (.lor, 1) := by decide +kernel
theorem dX8_readCell_63 : decode cX8_readCell 63 = .ok (.iload 4, 2) := by decide +kernel
theorem dX8_readCell_65 : decode cX8_readCell 65 = .ok (.invokestatic 92, 3) := by decide +kernel
theorem dX8_readCell_68 : decode cX8_readCell 68 = .ok (.ifCond .eq 5, 3) := by decide +kernel
theorem dX8_readCell_71 : decode cX8_readCell 71 = .ok (.iconst 0, 1) := by decide +kernel
theorem dX8_readCell_72 : decode cX8_readCell 72 = .ok (.ireturn, 1) := by decide +kernel
theorem dX8_readCell_73 : decode cX8_readCell 73 = .ok (.iload_n 2, 1) := by decide +kernel
theorem dX8_readCell_74 : decode cX8_readCell 74 = .ok (.ifCond .eq 19, 3) := by decide +kernel
theorem dX8_readCell_77 : decode cX8_readCell 77 = .ok (.aload_n 1, 1) := by decide +kernel
theorem dX8_readCell_78 : decode cX8_readCell 78 = .ok (.dup, 1) := by decide +kernel
theorem dX8_readCell_79 : decode cX8_readCell 79 = .ok (.getfield 85, 3) := by decide +kernel
theorem dX8_readCell_82 : decode cX8_readCell 82 = .ok (.lconst 1, 1) := by decide +kernel
theorem dX8_readCell_83 : decode cX8_readCell 83 = .ok (.iload 4, 2) := by decide +kernel
theorem dX8_readCell_85 : decode cX8_readCell 85 = .ok (.lshl, 1) := by decide +kernel
theorem dX8_readCell_86 : decode cX8_readCell 86 = .ok (.lor, 1) := by decide +kernel
theorem dX8_readCell_87 : decode cX8_readCell 87 = .ok (.putfield 85, 3) := by decide +kernel
theorem dX8_readCell_90 : decode cX8_readCell 90 = .ok (.goto 16, 3) := by decide +kernel
theorem dX8_readCell_93 : decode cX8_readCell 93 = .ok (.aload_n 1, 1) := by decide +kernel
theorem dX8_readCell_94 : decode cX8_readCell 94 = .ok (.dup, 1) := by decide +kernel
theorem dX8_readCell_95 : decode cX8_readCell 95 = .ok (.getfield 89, 3) := by decide +kernel
theorem dX8_readCell_98 : decode cX8_readCell 98 = .ok (.lconst 1, 1) := by decide +kernel
theorem dX8_readCell_99 : decode cX8_readCell 99 = .ok (.iload 4, 2) := by decide +kernel
theorem dX8_readCell_101 : decode cX8_readCell 101 = .ok (.lshl, 1) := by decide +kernel
theorem dX8_readCell_102 : decode cX8_readCell 102 = .ok (.lor, 1) := by decide +kernel
theorem dX8_readCell_103 : decode cX8_readCell 103 = .ok (.putfield 89, 3) := by decide +kernel
theorem dX8_readCell_106 : decode cX8_readCell 106 = .ok (.iconst 1, 1) := by decide +kernel
theorem dX8_readCell_107 : decode cX8_readCell 107 = .ok (.ireturn, 1) := by decide +kernel
theorem dX8_stepToNumber_0 : decode cX8_stepToNumber 0 = .ok (.aload_n 0, 1) := by decide +kernel
theorem dX8_stepToNumber_1 : decode cX8_stepToNumber 1 = .ok (.invokevirtual 27, 3) := by decide +kernel
theorem dX8_stepToNumber_4 : decode cX8_stepToNumber 4 = .ok (.aload_n 0, 1) := by decide +kernel
theorem dX8_stepToNumber_5 : decode cX8_stepToNumber 5 = .ok (.getfield 30, 3) := by decide +kernel
theorem dX8_stepToNumber_8 : decode cX8_stepToNumber 8 = .ok (.sipush 256, 3) := by decide +kernel
theorem dX8_stepToNumber_11 : decode cX8_stepToNumber 11 = .ok (.if_icmp .ne 23, 3) := by decide +kernel
theorem dX8_stepToNumber_14 : decode cX8_stepToNumber 14 = .ok (.aload_n 0, 1) := by decide +kernel
theorem dX8_stepToNumber_15 : decode cX8_stepToNumber 15 = .ok (.getfield 57, 3) := by decide +kernel
theorem dX8_stepToNumber_18 : decode cX8_stepToNumber 18 = .ok (.iload_n 1, 1) := by decide +kernel
theorem dX8_stepToNumber_19 : decode cX8_stepToNumber 19 = .ok (.if_icmp .lt 15, 3) := by decide +kernel
theorem dX8_stepToNumber_22 : decode cX8_stepToNumber 22 = .ok (.aload_n 0, 1) := by decide +kernel
theorem dX8_stepToNumber_23 : decode cX8_stepToNumber 23 = .ok (.getfield 57, 3) := by decide +kernel
theorem dX8_stepToNumber_26 : decode cX8_stepToNumber 26 = .ok (.iload_n 2, 1) := by decide +kernel
theorem dX8_stepToNumber_27 : decode cX8_stepToNumber 27 = .ok (.if_icmp .gt 7, 3) := by decide +kernel
theorem dX8_stepToNumber_30 : decode cX8_stepToNumber 30 = .ok (.iconst 1, 1) := by decide +kernel
theorem dX8_stepToNumber_31 : decode cX8_stepToNumber 31 = .ok (.goto 4, 3) := by decide +kernel
theorem dX8_stepToNumber_34 : decode cX8_stepToNumber 34 = .ok (.iconst 0, 1) := by decide +kernel
theorem dX8_stepToNumber_35 : decode cX8_stepToNumber 35 = .ok (.ireturn, 1) := by decide +kernel
theorem dX8_step_0 : decode cX8_step 0 = .ok (.aload_n 0, 1) := by decide +kernel
theorem dX8_step_1 : decode cX8_step 1 = .ok (.getfield 24, 3) := by decide +kernel
theorem dX8_step_4 : decode cX8_step 4 = .ok (.aload_n 0, 1) := by decide +kernel
theorem dX8_step_5 : decode cX8_step 5 = .ok (.getfield 15, 3) := by decide +kernel
theorem dX8_step_8 : decode cX8_step 8 = .ok (.if_icmp .ge 30, 3) := by decide +kernel
theorem dX8_step_11 : decode cX8_step 11 = .ok (.aload_n 0, 1) := by decide +kernel
theorem dX8_step_12 : decode cX8_step 12 = .ok (.getfield 11, 3) := by decide +kernel
theorem dX8_step_15 : decode cX8_step 15 = .ok (.aload_n 0, 1) := by decide +kernel
theorem dX8_step_16 : decode cX8_step 16 = .ok (.getfield 24, 3) := by decide +kernel
theorem dX8_step_19 : decode cX8_step 19 = .ok (.iaload, 1) := by decide +kernel
theorem dX8_step_20 : decode cX8_step 20 = .ok (.bipush 32, 2) := by decide +kernel
theorem dX8_step_22 : decode cX8_step 22 = .ok (.if_icmp .ne 16, 3) := by decide +kernel
theorem dX8_step_25 : decode cX8_step 25 = .ok (.aload_n 0, 1) := by decide +kernel
theorem dX8_step_26 : decode cX8_step 26 = .ok (.dup, 1) := by decide +kernel
theorem dX8_step_27 : decode cX8_step 27 = .ok (.getfield 24, 3) := by decide +kernel
theorem dX8_step_30 : decode cX8_step 30 = .ok (.iconst 1, 1) := by decide +kernel
theorem dX8_step_31 : decode cX8_step 31 = .ok (.iadd, 1) := by decide +kernel
theorem dX8_step_32 : decode cX8_step 32 = .ok (.putfield 24, 3) := by decide +kernel
theorem dX8_step_35 : decode cX8_step 35 = .ok (.goto (-35), 3) := by decide +kernel
theorem dX8_step_38 : decode cX8_step 38 = .ok (.aload_n 0, 1) := by decide +kernel
theorem dX8_step_39 : decode cX8_step 39 = .ok (.aload_n 0, 1) := by decide +kernel
theorem dX8_step_40 : decode cX8_step 40 = .ok (.getfield 24, 3) := by decide +kernel
theorem dX8_step_43 : decode cX8_step 43 = .ok (.putfield 37, 3) := by decide +kernel
theorem dX8_step_46 : decode cX8_step 46 = .ok (.aload_n 0, 1) := by decide +kernel
theorem dX8_step_47 : decode cX8_step 47 = .ok (.getfield 24, 3) := by decide +kernel
theorem dX8_step_50 : decode cX8_step 50 = .ok (.aload_n 0, 1) := by decide +kernel
theorem dX8_step_51 : decode cX8_step 51 = .ok (.getfield 15, 3) := by decide +kernel
theorem dX8_step_54 : decode cX8_step 54 = .ok (.if_icmp .lt 11, 3) := by decide +kernel
theorem dX8_step_57 : decode cX8_step 57 = .ok (.aload_n 0, 1) := by decide +kernel
theorem dX8_step_58 : decode cX8_step 58 = .ok (.sipush 258, 3) := by decide +kernel
theorem dX8_step_61 : decode cX8_step 61 = .ok (.putfield 30, 3) := by decide +kernel
theorem dX8_step_64 : decode cX8_step 64 = .ok (.return_, 1) := by decide +kernel
theorem dX8_step_65 : decode cX8_step 65 = .ok (.aload_n 0, 1) := by decide +kernel
theorem dX8_step_66 : decode cX8_step 66 = .ok (.aload_n 0, 1) := by decide +kernel
theorem dX8_step_67 : decode cX8_step 67 = .ok (.getfield 11, 3) := by decide +kernel
theorem dX8_step_70 : decode cX8_step 70 = .ok (.aload_n 0, 1) := by decide +kernel
theorem dX8_step_71 : decode cX8_step 71 = .ok (.getfield 24, 3) := by decide +kernel
theorem dX8_step_74 : decode cX8_step 74 = .ok (.iaload, 1) := by decide +kernel
theorem dX8_step_75 : decode cX8_step 75 = .ok (.putfield 30, 3) := by decide +kernel
theorem dX8_step_78 : decode cX8_step 78 = .ok (.aload_n 0, 1) := by decide +kernel
theorem dX8_step_79 : decode cX8_step 79 = .ok (.dup, 1) := by decide +kernel
theorem dX8_step_80 : decode cX8_step 80 = .ok (.getfield 24, 3) := by decide +kernel
theorem dX8_step_83 : decode cX8_step 83 = .ok (.iconst 1, 1) := by decide +kernel
theorem dX8_step_84 : decode cX8_step 84 = .ok (.iadd, 1) := by decide +kernel
theorem dX8_step_85 : decode cX8_step 85 = .ok (.putfield 24, 3) := by decide +kernel
theorem dX8_step_88 : decode cX8_step 88 = .ok (.aload_n 0, 1) := by decide +kernel
theorem dX8_step_89 : decode cX8_step 89 = .ok (.getfield 30, 3) := by decide +kernel
theorem dX8_step_92 : decode cX8_step 92 = .ok (.invokestatic 96, 3) := by decide +kernel
theorem dX8_step_95 : decode cX8_step 95 = .ok (.ifCond .eq 14, 3) := by decide +kernel
theorem dX8_step_98 : decode cX8_step 98 = .ok (.aload_n 0, 1) := by decide +kernel
theorem dX8_step_99 : decode cX8_step 99 = .ok (.aload_n 0, 1) := by decide +kernel
theorem dX8_step_100 : decode cX8_step 100 = .ok (.getfield 30, 3) := by decide +kernel
theorem dX8_step_103 : decode cX8_step 103 = .ok (.bipush 48, 2) := by decide +kernel
theorem dX8_step_105 : decode cX8_step 105 = .ok (.isub, 1) := by decide +kernel
theorem dX8_step_106 : decode cX8_step 106 = .ok (.invokevirtual 100, 3) := by decide +kernel
theorem dX8_step_109 : decode cX8_step 109 = .ok (.return_, 1) := by decide +kernel
theorem dX8_readDigits_0 : decode cX8_readDigits 0 = .ok (.aload_n 0, 1) := by decide +kernel
theorem dX8_readDigits_1 : decode cX8_readDigits 1 = .ok (.iload_n 1, 1) := by decide +kernel
theorem dX8_readDigits_2 : decode cX8_readDigits 2 = .ok (.putfield 57, 3) := by decide +kernel
theorem dX8_readDigits_5 : decode cX8_readDigits 5 = .ok (.aload_n 0, 1) := by decide +kernel
theorem dX8_readDigits_6 : decode cX8_readDigits 6 = .ok (.getfield 24, 3) := by decide +kernel
theorem dX8_readDigits_9 : decode cX8_readDigits 9 = .ok (.aload_n 0, 1) := by decide +kernel
theorem dX8_readDigits_10 : decode cX8_readDigits 10 = .ok (.getfield 15, 3) := by decide +kernel
theorem dX8_readDigits_13 : decode cX8_readDigits 13 = .ok (.if_icmp .ge 61, 3) := by decide +kernel
theorem dX8_readDigits_16 : decode cX8_readDigits 16 = .ok (.aload_n 0, 1) := by decide +kernel
theorem dX8_readDigits_17 : decode cX8_readDigits 17 = .ok (.getfield 11, 3) := by decide +kernel
theorem dX8_readDigits_20 : decode cX8_readDigits 20 = .ok (.aload_n 0, 1) := by decide +kernel
theorem dX8_readDigits_21 : decode cX8_readDigits 21 = .ok (.getfield 24, 3) := by decide +kernel
theorem dX8_readDigits_24 : decode cX8_readDigits 24 = .ok (.iaload, 1) := by decide +kernel
theorem dX8_readDigits_25 : decode cX8_readDigits 25 = .ok (.invokestatic 96, 3) := by decide +kernel
theorem dX8_readDigits_28 : decode cX8_readDigits 28 = .ok (.ifCond .eq 46, 3) := by decide +kernel
theorem dX8_readDigits_31 : decode cX8_readDigits 31 = .ok (.aload_n 0, 1) := by decide +kernel
theorem dX8_readDigits_32 : decode cX8_readDigits 32 = .ok (.bipush 10, 2) := by decide +kernel
theorem dX8_readDigits_34 : decode cX8_readDigits 34 = .ok (.aload_n 0, 1) := by decide +kernel
theorem dX8_readDigits_35 : decode cX8_readDigits 35 = .ok (.getfield 57, 3) := by decide +kernel
theorem dX8_readDigits_38 : decode cX8_readDigits 38 = .ok (.imul, 1) := by decide +kernel
theorem dX8_readDigits_39 : decode cX8_readDigits 39 = .ok (.aload_n 0, 1) := by decide +kernel
theorem dX8_readDigits_40 : decode cX8_readDigits 40 = .ok (.getfield 11, 3) := by decide +kernel
theorem dX8_readDigits_43 : decode cX8_readDigits 43 = .ok (.aload_n 0, 1) := by decide +kernel
theorem dX8_readDigits_44 : decode cX8_readDigits 44 = .ok (.getfield 24, 3) := by decide +kernel
theorem dX8_readDigits_47 : decode cX8_readDigits 47 = .ok (.iaload, 1) := by decide +kernel
theorem dX8_readDigits_48 : decode cX8_readDigits 48 = .ok (.iadd, 1) := by decide +kernel
theorem dX8_readDigits_49 : decode cX8_readDigits 49 = .ok (.bipush 48, 2) := by decide +kernel
theorem dX8_readDigits_51 : decode cX8_readDigits 51 = .ok (.isub, 1) := by decide +kernel
theorem dX8_readDigits_52 : decode cX8_readDigits 52 = .ok (.sipush 1000, 3) := by decide +kernel
theorem dX8_readDigits_55 : decode cX8_readDigits 55 = .ok (.invokestatic 104, 3) := by decide +kernel
theorem dX8_readDigits_58 : decode cX8_readDigits 58 = .ok (.putfield 57, 3) := by decide +kernel
theorem dX8_readDigits_61 : decode cX8_readDigits 61 = .ok (.aload_n 0, 1) := by decide +kernel
theorem dX8_readDigits_62 : decode cX8_readDigits 62 = .ok (.dup, 1) := by decide +kernel
theorem dX8_readDigits_63 : decode cX8_readDigits 63 = .ok (.getfield 24, 3) := by decide +kernel
theorem dX8_readDigits_66 : decode cX8_readDigits 66 = .ok (.iconst 1, 1) := by decide +kernel
theorem dX8_readDigits_67 : decode cX8_readDigits 67 = .ok (.iadd, 1) := by decide +kernel
theorem dX8_readDigits_68 : decode cX8_readDigits 68 = .ok (.putfield 24, 3) := by decide +kernel
theorem dX8_readDigits_71 : decode cX8_readDigits 71 = .ok (.goto (-66), 3) := by decide +kernel
theorem dX8_readDigits_74 : decode cX8_readDigits 74 = .ok (.iload_n 1, 1) := by decide +kernel
theorem dX8_readDigits_75 : decode cX8_readDigits 75 = .ok (.ifCond .ne 20, 3) := by decide +kernel
theorem dX8_readDigits_78 : decode cX8_readDigits 78 = .ok (.aload_n 0, 1) := by decide +kernel
theorem dX8_readDigits_79 : decode cX8_readDigits 79 = .ok (.getfield 24, 3) := by decide +kernel
theorem dX8_readDigits_82 : decode cX8_readDigits 82 = .ok (.aload_n 0, 1) := by decide +kernel
theorem dX8_readDigits_83 : decode cX8_readDigits 83 = .ok (.getfield 37, 3) := by decide +kernel
theorem dX8_readDigits_86 : decode cX8_readDigits 86 = .ok (.iconst 1, 1) := by decide +kernel
theorem dX8_readDigits_87 : decode cX8_readDigits 87 = .ok (.iadd, 1) := by decide +kernel
theorem dX8_readDigits_88 : decode cX8_readDigits 88 = .ok (.if_icmp .le 7, 3) := by decide +kernel
theorem dX8_readDigits_91 : decode cX8_readDigits 91 = .ok (.iconst 1, 1) := by decide +kernel
theorem dX8_readDigits_92 : decode cX8_readDigits 92 = .ok (.goto 4, 3) := by decide +kernel
theorem dX8_readDigits_95 : decode cX8_readDigits 95 = .ok (.iconst 0, 1) := by decide +kernel
theorem dX8_readDigits_96 : decode cX8_readDigits 96 = .ok (.istore_n 2, 1) := by decide +kernel
theorem dX8_readDigits_97 : decode cX8_readDigits 97 = .ok (.aload_n 0, 1) := by decide +kernel
theorem dX8_readDigits_98 : decode cX8_readDigits 98 = .ok (.iload_n 2, 1) := by decide +kernel
theorem dX8_readDigits_99 : decode cX8_readDigits 99 = .ok (.ifCond .ne 13, 3) := by decide +kernel
theorem dX8_readDigits_102 : decode cX8_readDigits 102 = .ok (.aload_n 0, 1) := by decide +kernel
theorem dX8_readDigits_103 : decode cX8_readDigits 103 = .ok (.getfield 57, 3) := by decide +kernel
theorem dX8_readDigits_106 : decode cX8_readDigits 106 = .ok (.sipush 999, 3) := by decide +kernel
theorem dX8_readDigits_109 : decode cX8_readDigits 109 = .ok (.if_icmp .le 9, 3) := by decide +kernel
theorem dX8_readDigits_112 : decode cX8_readDigits 112 = .ok (.sipush 257, 3) := by decide +kernel
theorem dX8_readDigits_115 : decode cX8_readDigits 115 = .ok (.goto 6, 3) := by decide +kernel
theorem dX8_readDigits_118 : decode cX8_readDigits 118 = .ok (.sipush 256, 3) := by decide +kernel
theorem dX8_readDigits_121 : decode cX8_readDigits 121 = .ok (.putfield 30, 3) := by decide +kernel
theorem dX8_readDigits_124 : decode cX8_readDigits 124 = .ok (.return_, 1) := by decide +kernel
theorem dX8_isDigit_0 : decode cX8_isDigit 0 = .ok (.iload_n 0, 1) := by decide +kernel
theorem dX8_isDigit_1 : decode cX8_isDigit 1 = .ok (.bipush 48, 2) := by decide +kernel
theorem dX8_isDigit_3 : decode cX8_isDigit 3 = .ok (.if_icmp .lt 13, 3) := by decide +kernel
theorem dX8_isDigit_6 : decode cX8_isDigit 6 = .ok (.iload_n 0, 1) := by decide +kernel
theorem dX8_isDigit_7 : decode cX8_isDigit 7 = .ok (.bipush 57, 2) := by decide +kernel
theorem dX8_isDigit_9 : decode cX8_isDigit 9 = .ok (.if_icmp .gt 7, 3) := by decide +kernel
theorem dX8_isDigit_12 : decode cX8_isDigit 12 = .ok (.iconst 1, 1) := by decide +kernel
theorem dX8_isDigit_13 : decode cX8_isDigit 13 = .ok (.goto 4, 3) := by decide +kernel
theorem dX8_isDigit_16 : decode cX8_isDigit 16 = .ok (.iconst 0, 1) := by decide +kernel
theorem dX8_isDigit_17 : decode cX8_isDigit 17 = .ok (.ireturn, 1) := by decide +kernel
theorem dJ13_bitCount_95d88_0 : decode cJ13_bitCount_95d88 0 = .ok (.lload_n 0, 1) := by decide +kernel
theorem dJ13_bitCount_95d88_1 : decode cJ13_bitCount_95d88 1 = .ok (.lload_n 0, 1) := by decide +kernel
theorem dJ13_bitCount_95d88_2 : decode cJ13_bitCount_95d88 2 = .ok (.iconst 1, 1) := by decide +kernel
theorem dJ13_bitCount_95d88_3 : decode cJ13_bitCount_95d88 3 = .ok (.lushr, 1) := by decide +kernel
theorem dJ13_bitCount_95d88_4 : decode cJ13_bitCount_95d88 4 = .ok (.ldc2_w 314, 3) := by decide +kernel
theorem dJ13_bitCount_95d88_7 : decode cJ13_bitCount_95d88 7 = .ok (.land, 1) := by decide +kernel
theorem dJ13_bitCount_95d88_8 : decode cJ13_bitCount_95d88 8 = .ok (.lsub, 1) := by decide +kernel
theorem dJ13_bitCount_95d88_9 : decode cJ13_bitCount_95d88 9 = .ok (.lstore_n 0, 1) := by decide +kernel
theorem dJ13_bitCount_95d88_10 : decode cJ13_bitCount_95d88 10 = .ok (.lload_n 0, 1) := by decide +kernel
theorem dJ13_bitCount_95d88_11 : decode cJ13_bitCount_95d88 11 = .ok (.ldc2_w 316, 3) := by decide +kernel
theorem dJ13_bitCount_95d88_14 : decode cJ13_bitCount_95d88 14 = .ok (.land, 1) := by decide +kernel
theorem dJ13_bitCount_95d88_15 : decode cJ13_bitCount_95d88 15 = .ok (.lload_n 0, 1) := by decide +kernel
theorem dJ13_bitCount_95d88_16 : decode cJ13_bitCount_95d88 16 = .ok (.iconst 2, 1) := by decide +kernel
theorem dJ13_bitCount_95d88_17 : decode cJ13_bitCount_95d88 17 = .ok (.lushr, 1) := by decide +kernel
theorem dJ13_bitCount_95d88_18 : decode cJ13_bitCount_95d88 18 = .ok (.ldc2_w 316, 3) := by decide +kernel
theorem dJ13_bitCount_95d88_21 : decode cJ13_bitCount_95d88 21 = .ok (.land, 1) := by decide +kernel
theorem dJ13_bitCount_95d88_22 : decode cJ13_bitCount_95d88 22 = .ok (.ladd, 1) := by decide +kernel
theorem dJ13_bitCount_95d88_23 : decode cJ13_bitCount_95d88 23 = .ok (.lstore_n 0, 1) := by decide +kernel
theorem dJ13_bitCount_95d88_24 : decode cJ13_bitCount_95d88 24 = .ok (.lload_n 0, 1) := by decide +kernel
theorem dJ13_bitCount_95d88_25 : decode cJ13_bitCount_95d88 25 = .ok (.lload_n 0, 1) := by decide +kernel
theorem dJ13_bitCount_95d88_26 : decode cJ13_bitCount_95d88 26 = .ok (.iconst 4, 1) := by decide +kernel
theorem dJ13_bitCount_95d88_27 : decode cJ13_bitCount_95d88 27 = .ok (.lushr, 1) := by decide +kernel
theorem dJ13_bitCount_95d88_28 : decode cJ13_bitCount_95d88 28 = .ok (.ladd, 1) := by decide +kernel
theorem dJ13_bitCount_95d88_29 : decode cJ13_bitCount_95d88 29 = .ok (.ldc2_w 318, 3) := by decide +kernel
theorem dJ13_bitCount_95d88_32 : decode cJ13_bitCount_95d88 32 = .ok (.land, 1) := by decide +kernel
theorem dJ13_bitCount_95d88_33 : decode cJ13_bitCount_95d88 33 = .ok (.lstore_n 0, 1) := by decide +kernel
theorem dJ13_bitCount_95d88_34 : decode cJ13_bitCount_95d88 34 = .ok (.lload_n 0, 1) := by decide +kernel
theorem dJ13_bitCount_95d88_35 : decode cJ13_bitCount_95d88 35 = .ok (.lload_n 0, 1) := by decide +kernel
theorem dJ13_bitCount_95d88_36 : decode cJ13_bitCount_95d88 36 = .ok (.bipush 8, 2) := by decide +kernel
theorem dJ13_bitCount_95d88_38 : decode cJ13_bitCount_95d88 38 = .ok (.lushr, 1) := by decide +kernel
theorem dJ13_bitCount_95d88_39 : decode cJ13_bitCount_95d88 39 = .ok (.ladd, 1) := by decide +kernel
theorem dJ13_bitCount_95d88_40 : decode cJ13_bitCount_95d88 40 = .ok (.lstore_n 0, 1) := by decide +kernel
theorem dJ13_bitCount_95d88_41 : decode cJ13_bitCount_95d88 41 = .ok (.lload_n 0, 1) := by decide +kernel
theorem dJ13_bitCount_95d88_42 : decode cJ13_bitCount_95d88 42 = .ok (.lload_n 0, 1) := by decide +kernel
theorem dJ13_bitCount_95d88_43 : decode cJ13_bitCount_95d88 43 = .ok (.bipush 16, 2) := by decide +kernel
theorem dJ13_bitCount_95d88_45 : decode cJ13_bitCount_95d88 45 = .ok (.lushr, 1) := by decide +kernel
theorem dJ13_bitCount_95d88_46 : decode cJ13_bitCount_95d88 46 = .ok (.ladd, 1) := by decide +kernel
theorem dJ13_bitCount_95d88_47 : decode cJ13_bitCount_95d88 47 = .ok (.lstore_n 0, 1) := by decide +kernel
theorem dJ13_bitCount_95d88_48 : decode cJ13_bitCount_95d88 48 = .ok (.lload_n 0, 1) := by decide +kernel
theorem dJ13_bitCount_95d88_49 : decode cJ13_bitCount_95d88 49 = .ok (.lload_n 0, 1) := by decide +kernel
theorem dJ13_bitCount_95d88_50 : decode cJ13_bitCount_95d88 50 = .ok (.bipush 32, 2) := by decide +kernel
theorem dJ13_bitCount_95d88_52 : decode cJ13_bitCount_95d88 52 = .ok (.lushr, 1) := by decide +kernel
theorem dJ13_bitCount_95d88_53 : decode cJ13_bitCount_95d88 53 = .ok (.ladd, 1) := by decide +kernel
theorem dJ13_bitCount_95d88_54 : decode cJ13_bitCount_95d88 54 = .ok (.lstore_n 0, 1) := by decide +kernel
theorem dJ13_bitCount_95d88_55 : decode cJ13_bitCount_95d88 55 = .ok (.lload_n 0, 1) := by decide +kernel
theorem dJ13_bitCount_95d88_56 : decode cJ13_bitCount_95d88 56 = .ok (.l2i, 1) := by decide +kernel
theorem dJ13_bitCount_95d88_57 : decode cJ13_bitCount_95d88 57 = .ok (.bipush 127, 2) := by decide +kernel
theorem dJ13_bitCount_95d88_59 : decode cJ13_bitCount_95d88 59 = .ok (.iand, 1) := by decide +kernel
theorem dJ13_bitCount_95d88_60 : decode cJ13_bitCount_95d88 60 = .ok (.ireturn, 1) := by decide +kernel
theorem dJ7_fill_53178_0 : decode cJ7_fill_53178 0 = .ok (.iconst 0, 1) := by decide +kernel
theorem dJ7_fill_53178_1 : decode cJ7_fill_53178 1 = .ok (.istore_n 2, 1) := by decide +kernel
theorem dJ7_fill_53178_2 : decode cJ7_fill_53178 2 = .ok (.aload_n 0, 1) := by decide +kernel
theorem dJ7_fill_53178_3 : decode cJ7_fill_53178 3 = .ok (.arraylength, 1) := by decide +kernel
theorem dJ7_fill_53178_4 : decode cJ7_fill_53178 4 = .ok (.istore_n 3, 1) := by decide +kernel
theorem dJ7_fill_53178_5 : decode cJ7_fill_53178 5 = .ok (.iload_n 2, 1) := by decide +kernel
theorem dJ7_fill_53178_6 : decode cJ7_fill_53178 6 = .ok (.iload_n 3, 1) := by decide +kernel
theorem dJ7_fill_53178_7 : decode cJ7_fill_53178 7 = .ok (.if_icmp .ge 13, 3) := by decide +kernel
theorem dJ7_fill_53178_10 : decode cJ7_fill_53178 10 = .ok (.aload_n 0, 1) := by decide +kernel
theorem dJ7_fill_53178_11 : decode cJ7_fill_53178 11 = .ok (.iload_n 2, 1) := by decide +kernel
theorem dJ7_fill_53178_12 : decode cJ7_fill_53178 12 = .ok (.iload_n 1, 1) := by decide +kernel
theorem dJ7_fill_53178_13 : decode cJ7_fill_53178 13 = .ok (.iastore, 1) := by decide +kernel
theorem dJ7_fill_53178_14 : decode cJ7_fill_53178 14 = .ok (.iinc 2 1, 3) := by decide +kernel
theorem dJ7_fill_53178_17 : decode cJ7_fill_53178 17 = .ok (.goto (-12), 3) := by decide +kernel
theorem dJ7_fill_53178_20 : decode cJ7_fill_53178 20 = .ok (.return_, 1) := by decide +kernel
end
section
theorem dX9_init_0 : decode cX9_init 0 = .ok (.aload_n 0, 1) := by decide +kernel
theorem dX9_init_1 : decode cX9_init 1 = .ok (.invokespecial 3, 3) := by decide +kernel
theorem dX9_init_4 : decode cX9_init 4 = .ok (.aload_n 0, 1) := by decide +kernel
theorem dX9_init_5 : decode cX9_init 5 = .ok (.new 9, 3) := by decide +kernel
theorem dX9_init_8 : decode cX9_init 8 = .ok (.dup, 1) := by decide +kernel
theorem dX9_init_9 : decode cX9_init 9 = .ok (.invokespecial 11, 3) := by decide +kernel
theorem dX9_init_12 : decode cX9_init 12 = .ok (.putfield 12, 3) := by decide +kernel
theorem dX9_init_15 : decode cX9_init 15 = .ok (.aload_n 0, 1) := by decide +kernel
theorem dX9_init_16 : decode cX9_init 16 = .ok (.new 16, 3) := by decide +kernel
theorem dX9_init_19 : decode cX9_init 19 = .ok (.dup, 1) := by decide +kernel
theorem dX9_init_20 : decode cX9_init 20 = .ok (.invokespecial 18, 3) := by decide +kernel
theorem dX9_init_23 : decode cX9_init 23 = .ok (.putfield 19, 3) := by decide +kernel
theorem dX9_init_26 : decode cX9_init 26 = .ok (.aload_n 0, 1) := by decide +kernel
theorem dX9_init_27 : decode cX9_init 27 = .ok (.new 16, 3) := by decide +kernel
theorem dX9_init_30 : decode cX9_init 30 = .ok (.dup, 1) := by decide +kernel
theorem dX9_init_31 : decode cX9_init 31 = .ok (.invokespecial 18, 3) := by decide +kernel
theorem dX9_init_34 : decode cX9_init 34 = .ok (.putfield 23, 3) := by decide +kernel
theorem dX9_init_37 : decode cX9_init 37 = .ok (.aload_n 0, 1) := by decide +kernel
theorem dX9_init_38 : decode cX9_init 38 = .ok (.new 26, 3) := by decide +kernel
theorem dX9_init_41 : decode cX9_init 41 = .ok (.dup, 1) := by decide +kernel
theorem dX9_init_42 : decode cX9_init 42 = .ok (.aload_n 0, 1) := by decide +kernel
theorem dX9_init_43 : decode cX9_init 43 = .ok (.getfield 19, 3) := by decide +kernel
theorem dX9_init_46 : decode cX9_init 46 = .ok (.invokespecial 28, 3) := by decide +kernel
theorem dX9_init_49 : decode cX9_init 49 = .ok (.putfield 31, 3) := by decide +kernel
theorem dX9_init_52 : decode cX9_init 52 = .ok (.aload_n 0, 1) := by decide +kernel
theorem dX9_init_53 : decode cX9_init 53 = .ok (.new 35, 3) := by decide +kernel
theorem dX9_init_56 : decode cX9_init 56 = .ok (.dup, 1) := by decide +kernel
theorem dX9_init_57 : decode cX9_init 57 = .ok (.aload_n 0, 1) := by decide +kernel
theorem dX9_init_58 : decode cX9_init 58 = .ok (.getfield 31, 3) := by decide +kernel
theorem dX9_init_61 : decode cX9_init 61 = .ok (.invokespecial 37, 3) := by decide +kernel
theorem dX9_init_64 : decode cX9_init 64 = .ok (.putfield 40, 3) := by decide +kernel
theorem dX9_init_67 : decode cX9_init 67 = .ok (.aload_n 0, 1) := by decide +kernel
theorem dX9_init_68 : decode cX9_init 68 = .ok (.new 44, 3) := by decide +kernel
theorem dX9_init_71 : decode cX9_init 71 = .ok (.dup, 1) := by decide +kernel
theorem dX9_init_72 : decode cX9_init 72 = .ok (.aload_n 0, 1) := by decide +kernel
theorem dX9_init_73 : decode cX9_init 73 = .ok (.getfield 31, 3) := by decide +kernel
theorem dX9_init_76 : decode cX9_init 76 = .ok (.invokespecial 46, 3) := by decide +kernel
theorem dX9_init_79 : decode cX9_init 79 = .ok (.putfield 47, 3) := by decide +kernel
theorem dX9_init_82 : decode cX9_init 82 = .ok (.aload_n 0, 1) := by decide +kernel
theorem dX9_init_83 : decode cX9_init 83 = .ok (.new 51, 3) := by decide +kernel
theorem dX9_init_86 : decode cX9_init 86 = .ok (.dup, 1) := by decide +kernel
theorem dX9_init_87 : decode cX9_init 87 = .ok (.aload_n 0, 1) := by decide +kernel
theorem dX9_init_88 : decode cX9_init 88 = .ok (.getfield 31, 3) := by decide +kernel
theorem dX9_init_91 : decode cX9_init 91 = .ok (.aload_n 0, 1) := by decide +kernel
theorem dX9_init_92 : decode cX9_init 92 = .ok (.getfield 47, 3) := by decide +kernel
theorem dX9_init_95 : decode cX9_init 95 = .ok (.invokespecial 53, 3) := by decide +kernel
theorem dX9_init_98 : decode cX9_init 98 = .ok (.putfield 56, 3) := by decide +kernel
theorem dX9_init_101 : decode cX9_init 101 = .ok (.aload_n 0, 1) := by decide +kernel
theorem dX9_init_102 : decode cX9_init 102 = .ok (.new 60, 3) := by decide +kernel
theorem dX9_init_105 : decode cX9_init 105 = .ok (.dup, 1) := by decide +kernel
theorem dX9_init_106 : decode cX9_init 106 = .ok (.aload_n 0, 1) := by decide +kernel
theorem dX9_init_107 : decode cX9_init 107 = .ok (.getfield 31, 3) := by decide +kernel
theorem dX9_init_110 : decode cX9_init 110 = .ok (.aload_n 0, 1) := by decide +kernel
theorem dX9_init_111 : decode cX9_init 111 = .ok (.getfield 47, 3) := by decide +kernel
theorem dX9_init_114 : decode cX9_init 114 = .ok (.invokespecial 62, 3) := by decide +kernel
theorem dX9_init_117 : decode cX9_init 117 = .ok (.putfield 63, 3) := by decide +kernel
theorem dX9_init_120 : decode cX9_init 120 = .ok (.aload_n 0, 1) := by decide +kernel
theorem dX9_init_121 : decode cX9_init 121 = .ok (.new 67, 3) := by decide +kernel
theorem dX9_init_124 : decode cX9_init 124 = .ok (.dup, 1) := by decide +kernel
theorem dX9_init_125 : decode cX9_init 125 = .ok (.invokespecial 69, 3) := by decide +kernel
theorem dX9_init_128 : decode cX9_init 128 = .ok (.putfield 70, 3) := by decide +kernel
theorem dX9_init_131 : decode cX9_init 131 = .ok (.aload_n 0, 1) := by decide +kernel
theorem dX9_init_132 : decode cX9_init 132 = .ok (.new 74, 3) := by decide +kernel
theorem dX9_init_135 : decode cX9_init 135 = .ok (.dup, 1) := by decide +kernel
theorem dX9_init_136 : decode cX9_init 136 = .ok (.invokespecial 76, 3) := by decide +kernel
theorem dX9_init_139 : decode cX9_init 139 = .ok (.putfield 77, 3) := by decide +kernel
theorem dX9_init_142 : decode cX9_init 142 = .ok (.return_, 1) := by decide +kernel
theorem dX9_type_0 : decode cX9_type 0 = .ok (.iload_n 1, 1) := by decide +kernel
theorem dX9_type_1 : decode cX9_type 1 = .ok (.ifCond .lt 10, 3) := by decide +kernel
theorem dX9_type_4 : decode cX9_type 4 = .ok (.iload_n 1, 1) := by decide +kernel
theorem dX9_type_5 : decode cX9_type 5 = .ok (.sipush 255, 3) := by decide +kernel
theorem dX9_type_8 : decode cX9_type 8 = .ok (.if_icmp .le 5, 3) := by decide +kernel
theorem dX9_type_11 : decode cX9_type 11 = .ok (.iconst (-1), 1) := by decide +kernel
theorem dX9_type_12 : decode cX9_type 12 = .ok (.ireturn, 1) := by decide +kernel
theorem dX9_type_13 : decode cX9_type 13 = .ok (.aload_n 0, 1) := by decide +kernel
theorem dX9_type_14 : decode cX9_type 14 = .ok (.getfield 12, 3) := by decide +kernel
theorem dX9_type_17 : decode cX9_type 17 = .ok (.iload_n 1, 1) := by decide +kernel
theorem dX9_type_18 : decode cX9_type 18 = .ok (.invokevirtual 81, 3) := by decide +kernel
theorem dX9_type_21 : decode cX9_type 21 = .ok (.ifCond .eq 13, 3) := by decide +kernel
theorem dX9_type_24 : decode cX9_type 24 = .ok (.aload_n 0, 1) := by decide +kernel
theorem dX9_type_25 : decode cX9_type 25 = .ok (.getfield 12, 3) := by decide +kernel
theorem dX9_type_28 : decode cX9_type 28 = .ok (.getfield 85, 3) := by decide +kernel
theorem dX9_type_31 : decode cX9_type 31 = .ok (.goto 5, 3) := by decide +kernel
theorem dX9_type_34 : decode cX9_type 34 = .ok (.bipush (-3), 2) := by decide +kernel
theorem dX9_type_36 : decode cX9_type 36 = .ok (.ireturn, 1) := by decide +kernel
theorem dX9_clear_0 : decode cX9_clear 0 = .ok (.aload_n 0, 1) := by decide +kernel
theorem dX9_clear_1 : decode cX9_clear 1 = .ok (.getfield 12, 3) := by decide +kernel
theorem dX9_clear_4 : decode cX9_clear 4 = .ok (.getfield 85, 3) := by decide +kernel
theorem dX9_clear_7 : decode cX9_clear 7 = .ok (.istore_n 1, 1) := by decide +kernel
theorem dX9_clear_8 : decode cX9_clear 8 = .ok (.aload_n 0, 1) := by decide +kernel
theorem dX9_clear_9 : decode cX9_clear 9 = .ok (.getfield 12, 3) := by decide +kernel
theorem dX9_clear_12 : decode cX9_clear 12 = .ok (.iconst 0, 1) := by decide +kernel
theorem dX9_clear_13 : decode cX9_clear 13 = .ok (.putfield 85, 3) := by decide +kernel
theorem dX9_clear_16 : decode cX9_clear 16 = .ok (.iload_n 1, 1) := by decide +kernel
theorem dX9_clear_17 : decode cX9_clear 17 = .ok (.ireturn, 1) := by decide +kernel
theorem dX9_grid_0 : decode cX9_grid 0 = .ok (.aload_n 0, 1) := by decide +kernel
theorem dX9_grid_1 : decode cX9_grid 1 = .ok (.getfield 12, 3) := by decide +kernel
theorem dX9_grid_4 : decode cX9_grid 4 = .ok (.aload_n 0, 1) := by decide +kernel
theorem dX9_grid_5 : decode cX9_grid 5 = .ok (.getfield 23, 3) := by decide +kernel
theorem dX9_grid_8 : decode cX9_grid 8 = .ok (.invokevirtual 89, 3) := by decide +kernel
theorem dX9_grid_11 : decode cX9_grid 11 = .ok (.istore_n 1, 1) := by decide +kernel
theorem dX9_grid_12 : decode cX9_grid 12 = .ok (.iload_n 1, 1) := by decide +kernel
theorem dX9_grid_13 : decode cX9_grid 13 = .ok (.ifCond .ge 5, 3) := by decide +kernel
theorem dX9_grid_16 : decode cX9_grid 16 = .ok (.iload_n 1, 1) := by decide +kernel
theorem dX9_grid_17 : decode cX9_grid 17 = .ok (.ireturn, 1) := by decide +kernel
theorem dX9_grid_18 : decode cX9_grid 18 = .ok (.aload_n 0, 1) := by decide +kernel
theorem dX9_grid_19 : decode cX9_grid 19 = .ok (.getfield 12, 3) := by decide +kernel
theorem dX9_grid_22 : decode cX9_grid 22 = .ok (.iconst 0, 1) := by decide +kernel
theorem dX9_grid_23 : decode cX9_grid 23 = .ok (.putfield 85, 3) := by decide +kernel
theorem dX9_grid_26 : decode cX9_grid 26 = .ok (.aload_n 0, 1) := by decide +kernel
theorem dX9_grid_27 : decode cX9_grid 27 = .ok (.getfield 19, 3) := by decide +kernel
theorem dX9_grid_30 : decode cX9_grid 30 = .ok (.aload_n 0, 1) := by decide +kernel
theorem dX9_grid_31 : decode cX9_grid 31 = .ok (.getfield 23, 3) := by decide +kernel
theorem dX9_grid_34 : decode cX9_grid 34 = .ok (.invokevirtual 93, 3) := by decide +kernel
theorem dX9_grid_37 : decode cX9_grid 37 = .ok (.aload_n 0, 1) := by decide +kernel
theorem dX9_grid_38 : decode cX9_grid 38 = .ok (.getfield 31, 3) := by decide +kernel
theorem dX9_grid_41 : decode cX9_grid 41 = .ok (.invokevirtual 96, 3) := by decide +kernel
theorem dX9_grid_44 : decode cX9_grid 44 = .ok (.aload_n 0, 1) := by decide +kernel
theorem dX9_grid_45 : decode cX9_grid 45 = .ok (.getfield 40, 3) := by decide +kernel
theorem dX9_grid_48 : decode cX9_grid 48 = .ok (.aload_n 0, 1) := by decide +kernel
theorem dX9_grid_49 : decode cX9_grid 49 = .ok (.getfield 19, 3) := by decide +kernel
theorem dX9_grid_52 : decode cX9_grid 52 = .ok (.getfield 99, 3) := by decide +kernel
theorem dX9_grid_55 : decode cX9_grid 55 = .ok (.invokevirtual 102, 3) := by decide +kernel
theorem dX9_grid_58 : decode cX9_grid 58 = .ok (.aload_n 0, 1) := by decide +kernel
theorem dX9_grid_59 : decode cX9_grid 59 = .ok (.getfield 47, 3) := by decide +kernel
theorem dX9_grid_62 : decode cX9_grid 62 = .ok (.invokevirtual 106, 3) := by decide +kernel
theorem dX9_grid_65 : decode cX9_grid 65 = .ok (.aload_n 0, 1) := by decide +kernel
theorem dX9_grid_66 : decode cX9_grid 66 = .ok (.getfield 56, 3) := by decide +kernel
theorem dX9_grid_69 : decode cX9_grid 69 = .ok (.iconst 0, 1) := by decide +kernel
theorem dX9_grid_70 : decode cX9_grid 70 = .ok (.iconst 0, 1) := by decide +kernel
theorem dX9_grid_71 : decode cX9_grid 71 = .ok (.iconst 0, 1) := by decide +kernel
theorem dX9_grid_72 : decode cX9_grid 72 = .ok (.invokevirtual 109, 3) := by decide +kernel
theorem dX9_grid_75 : decode cX9_grid 75 = .ok (.aload_n 0, 1) := by decide +kernel
theorem dX9_grid_76 : decode cX9_grid 76 = .ok (.getfield 63, 3) := by decide +kernel
theorem dX9_grid_79 : decode cX9_grid 79 = .ok (.iconst 0, 1) := by decide +kernel
theorem dX9_grid_80 : decode cX9_grid 80 = .ok (.putfield 112, 3) := by decide +kernel
theorem dX9_grid_83 : decode cX9_grid 83 = .ok (.aload_n 0, 1) := by decide +kernel
theorem dX9_grid_84 : decode cX9_grid 84 = .ok (.getfield 70, 3) := by decide +kernel
theorem dX9_grid_87 : decode cX9_grid 87 = .ok (.iconst 0, 1) := by decide +kernel
theorem dX9_grid_88 : decode cX9_grid 88 = .ok (.putfield 115, 3) := by decide +kernel
theorem dX9_grid_91 : decode cX9_grid 91 = .ok (.aload_n 0, 1) := by decide +kernel
theorem dX9_grid_92 : decode cX9_grid 92 = .ok (.getfield 77, 3) := by decide +kernel
theorem dX9_grid_95 : decode cX9_grid 95 = .ok (.invokevirtual 116, 3) := by decide +kernel
theorem dX9_grid_98 : decode cX9_grid 98 = .ok (.iload_n 1, 1) := by decide +kernel
theorem dX9_grid_99 : decode cX9_grid 99 = .ok (.ireturn, 1) := by decide +kernel
theorem dX9_cell_0 : decode cX9_cell 0 = .ok (.aload_n 0, 1) := by decide +kernel
theorem dX9_cell_1 : decode cX9_cell 1 = .ok (.getfield 19, 3) := by decide +kernel
theorem dX9_cell_4 : decode cX9_cell 4 = .ok (.iload_n 1, 1) := by decide +kernel
theorem dX9_cell_5 : decode cX9_cell 5 = .ok (.iload_n 2, 1) := by decide +kernel
theorem dX9_cell_6 : decode cX9_cell 6 = .ok (.invokevirtual 117, 3) := by decide +kernel
theorem dX9_cell_9 : decode cX9_cell 9 = .ok (.istore_n 3, 1) := by decide +kernel
theorem dX9_cell_10 : decode cX9_cell 10 = .ok (.iload_n 3, 1) := by decide +kernel
theorem dX9_cell_11 : decode cX9_cell 11 = .ok (.iconst (-1), 1) := by decide +kernel
theorem dX9_cell_12 : decode cX9_cell 12 = .ok (.if_icmp .ne 5, 3) := by decide +kernel
theorem dX9_cell_15 : decode cX9_cell 15 = .ok (.iconst (-1), 1) := by decide +kernel
theorem dX9_cell_16 : decode cX9_cell 16 = .ok (.ireturn, 1) := by decide +kernel
theorem dX9_cell_17 : decode cX9_cell 17 = .ok (.aload_n 0, 1) := by decide +kernel
theorem dX9_cell_18 : decode cX9_cell 18 = .ok (.getfield 19, 3) := by decide +kernel
theorem dX9_cell_21 : decode cX9_cell 21 = .ok (.getfield 121, 3) := by decide +kernel
theorem dX9_cell_24 : decode cX9_cell 24 = .ok (.iload_n 3, 1) := by decide +kernel
theorem dX9_cell_25 : decode cX9_cell 25 = .ok (.invokestatic 124, 3) := by decide +kernel
theorem dX9_cell_28 : decode cX9_cell 28 = .ok (.ifCond .eq 5, 3) := by decide +kernel
theorem dX9_cell_31 : decode cX9_cell 31 = .ok (.iconst 2, 1) := by decide +kernel
theorem dX9_cell_32 : decode cX9_cell 32 = .ok (.ireturn, 1) := by decide +kernel
theorem dX9_cell_33 : decode cX9_cell 33 = .ok (.aload_n 0, 1) := by decide +kernel
theorem dX9_cell_34 : decode cX9_cell 34 = .ok (.getfield 40, 3) := by decide +kernel
theorem dX9_cell_37 : decode cX9_cell 37 = .ok (.getfield 128, 3) := by decide +kernel
theorem dX9_cell_40 : decode cX9_cell 40 = .ok (.iload_n 3, 1) := by decide +kernel
theorem dX9_cell_41 : decode cX9_cell 41 = .ok (.invokestatic 124, 3) := by decide +kernel
theorem dX9_cell_44 : decode cX9_cell 44 = .ok (.ifCond .eq 7, 3) := by decide +kernel
theorem dX9_cell_47 : decode cX9_cell 47 = .ok (.iconst 1, 1) := by decide +kernel
theorem dX9_cell_48 : decode cX9_cell 48 = .ok (.goto 4, 3) := by decide +kernel
theorem dX9_cell_51 : decode cX9_cell 51 = .ok (.iconst 0, 1) := by decide +kernel
theorem dX9_cell_52 : decode cX9_cell 52 = .ok (.ireturn, 1) := by decide +kernel
theorem dX9_near_0 : decode cX9_near 0 = .ok (.aload_n 0, 1) := by decide +kernel
theorem dX9_near_1 : decode cX9_near 1 = .ok (.getfield 31, 3) := by decide +kernel
theorem dX9_near_4 : decode cX9_near 4 = .ok (.iload_n 1, 1) := by decide +kernel
theorem dX9_near_5 : decode cX9_near 5 = .ok (.invokevirtual 131, 3) := by decide +kernel
theorem dX9_near_8 : decode cX9_near 8 = .ok (.ifCond .eq 23, 3) := by decide +kernel
theorem dX9_near_11 : decode cX9_near 11 = .ok (.aload_n 0, 1) := by decide +kernel
theorem dX9_near_12 : decode cX9_near 12 = .ok (.getfield 31, 3) := by decide +kernel
theorem dX9_near_15 : decode cX9_near 15 = .ok (.iload_n 2, 1) := by decide +kernel
theorem dX9_near_16 : decode cX9_near 16 = .ok (.invokevirtual 131, 3) := by decide +kernel
theorem dX9_near_19 : decode cX9_near 19 = .ok (.ifCond .eq 12, 3) := by decide +kernel
theorem dX9_near_22 : decode cX9_near 22 = .ok (.iload_n 3, 1) := by decide +kernel
theorem dX9_near_23 : decode cX9_near 23 = .ok (.ifCond .lt 8, 3) := by decide +kernel
theorem dX9_near_26 : decode cX9_near 26 = .ok (.iload_n 3, 1) := by decide +kernel
theorem dX9_near_27 : decode cX9_near 27 = .ok (.iconst 1, 1) := by decide +kernel
theorem dX9_near_28 : decode cX9_near 28 = .ok (.if_icmp .le 5, 3) := by decide +kernel
theorem dX9_near_31 : decode cX9_near 31 = .ok (.iconst (-1), 1) := by decide +kernel
theorem dX9_near_32 : decode cX9_near 32 = .ok (.ireturn, 1) := by decide +kernel
theorem dX9_near_33 : decode cX9_near 33 = .ok (.iload_n 3, 1) := by decide +kernel
theorem dX9_near_34 : decode cX9_near 34 = .ok (.ifCond .ne 15, 3) := by decide +kernel
theorem dX9_near_37 : decode cX9_near 37 = .ok (.aload_n 0, 1) := by decide +kernel
theorem dX9_near_38 : decode cX9_near 38 = .ok (.getfield 31, 3) := by decide +kernel
theorem dX9_near_41 : decode cX9_near 41 = .ok (.iload_n 1, 1) := by decide +kernel
theorem dX9_near_42 : decode cX9_near 42 = .ok (.iload_n 2, 1) := by decide +kernel
theorem dX9_near_43 : decode cX9_near 43 = .ok (.invokevirtual 134, 3) := by decide +kernel
theorem dX9_near_46 : decode cX9_near 46 = .ok (.goto 12, 3) := by decide +kernel
theorem dX9_near_49 : decode cX9_near 49 = .ok (.aload_n 0, 1) := by decide +kernel
theorem dX9_near_50 : decode cX9_near 50 = .ok (.getfield 31, 3) := by decide +kernel
theorem dX9_near_53 : decode cX9_near 53 = .ok (.iload_n 1, 1) := by decide +kernel
theorem dX9_near_54 : decode cX9_near 54 = .ok (.iload_n 2, 1) := by decide +kernel
theorem dX9_near_55 : decode cX9_near 55 = .ok (.invokevirtual 137, 3) := by decide +kernel
theorem dX9_near_58 : decode cX9_near 58 = .ok (.ireturn, 1) := by decide +kernel
theorem dX9_flips_0 : decode cX9_flips 0 = .ok (.aload_n 0, 1) := by decide +kernel
theorem dX9_flips_1 : decode cX9_flips 1 = .ok (.getfield 19, 3) := by decide +kernel
theorem dX9_flips_4 : decode cX9_flips 4 = .ok (.iload_n 1, 1) := by decide +kernel
theorem dX9_flips_5 : decode cX9_flips 5 = .ok (.iload_n 2, 1) := by decide +kernel
theorem dX9_flips_6 : decode cX9_flips 6 = .ok (.invokevirtual 117, 3) := by decide +kernel
theorem dX9_flips_9 : decode cX9_flips 9 = .ok (.istore_n 3, 1) := by decide +kernel
theorem dX9_flips_10 : decode cX9_flips 10 = .ok (.iload_n 3, 1) := by decide +kernel
theorem dX9_flips_11 : decode cX9_flips 11 = .ok (.iconst (-1), 1) := by decide +kernel
theorem dX9_flips_12 : decode cX9_flips 12 = .ok (.if_icmp .ne 5, 3) := by decide +kernel
theorem dX9_flips_15 : decode cX9_flips 15 = .ok (.iconst (-1), 1) := by decide +kernel
theorem dX9_flips_16 : decode cX9_flips 16 = .ok (.ireturn, 1) := by decide +kernel
theorem dX9_flips_17 : decode cX9_flips 17 = .ok (.aload_n 0, 1) := by decide +kernel
theorem dX9_flips_18 : decode cX9_flips 18 = .ok (.getfield 19, 3) := by decide +kernel
theorem dX9_flips_21 : decode cX9_flips 21 = .ok (.getfield 121, 3) := by decide +kernel
theorem dX9_flips_24 : decode cX9_flips 24 = .ok (.iload_n 3, 1) := by decide +kernel
theorem dX9_flips_25 : decode cX9_flips 25 = .ok (.invokestatic 124, 3) := by decide +kernel
theorem dX9_flips_28 : decode cX9_flips 28 = .ok (.ifCond .eq 6, 3) := by decide +kernel
theorem dX9_flips_31 : decode cX9_flips 31 = .ok (.bipush (-2), 2) := by decide +kernel
theorem dX9_flips_33 : decode cX9_flips 33 = .ok (.ireturn, 1) := by decide +kernel
theorem dX9_flips_34 : decode cX9_flips 34 = .ok (.aload_n 0, 1) := by decide +kernel
theorem dX9_flips_35 : decode cX9_flips 35 = .ok (.getfield 70, 3) := by decide +kernel
theorem dX9_flips_38 : decode cX9_flips 38 = .ok (.aload_n 0, 1) := by decide +kernel
theorem dX9_flips_39 : decode cX9_flips 39 = .ok (.getfield 40, 3) := by decide +kernel
theorem dX9_flips_42 : decode cX9_flips 42 = .ok (.getfield 128, 3) := by decide +kernel
theorem dX9_flips_45 : decode cX9_flips 45 = .ok (.invokevirtual 140, 3) := by decide +kernel
theorem dX9_flips_48 : decode cX9_flips 48 = .ok (.aload_n 0, 1) := by decide +kernel
theorem dX9_flips_49 : decode cX9_flips 49 = .ok (.getfield 40, 3) := by decide +kernel
theorem dX9_flips_52 : decode cX9_flips 52 = .ok (.iload_n 3, 1) := by decide +kernel
theorem dX9_flips_53 : decode cX9_flips 53 = .ok (.invokevirtual 143, 3) := by decide +kernel
theorem dX9_flips_56 : decode cX9_flips 56 = .ok (.aload_n 0, 1) := by decide +kernel
theorem dX9_flips_57 : decode cX9_flips 57 = .ok (.getfield 40, 3) := by decide +kernel
theorem dX9_flips_60 : decode cX9_flips 60 = .ok (.getfield 128, 3) := by decide +kernel
theorem dX9_flips_63 : decode cX9_flips 63 = .ok (.iload_n 3, 1) := by decide +kernel
theorem dX9_flips_64 : decode cX9_flips 64 = .ok (.invokestatic 124, 3) := by decide +kernel
theorem dX9_flips_67 : decode cX9_flips 67 = .ok (.ifCond .eq 7, 3) := by decide +kernel
theorem dX9_flips_70 : decode cX9_flips 70 = .ok (.iconst 1, 1) := by decide +kernel
theorem dX9_flips_71 : decode cX9_flips 71 = .ok (.goto 4, 3) := by decide +kernel
theorem dX9_flips_74 : decode cX9_flips 74 = .ok (.iconst 0, 1) := by decide +kernel
theorem dX9_flips_75 : decode cX9_flips 75 = .ok (.ireturn, 1) := by decide +kernel
theorem dX9_rests_0 : decode cX9_rests 0 = .ok (.iload_n 1, 1) := by decide +kernel
theorem dX9_rests_1 : decode cX9_rests 1 = .ok (.iconst 1, 1) := by decide +kernel
theorem dX9_rests_2 : decode cX9_rests 2 = .ok (.if_icmp .lt 9, 3) := by decide +kernel
theorem dX9_rests_5 : decode cX9_rests 5 = .ok (.iload_n 1, 1) := by decide +kernel
theorem dX9_rests_6 : decode cX9_rests 6 = .ok (.bipush 64, 2) := by decide +kernel
theorem dX9_rests_8 : decode cX9_rests 8 = .ok (.if_icmp .le 5, 3) := by decide +kernel
theorem dX9_rests_11 : decode cX9_rests 11 = .ok (.iconst (-1), 1) := by decide +kernel
theorem dX9_rests_12 : decode cX9_rests 12 = .ok (.ireturn, 1) := by decide +kernel
theorem dX9_rests_13 : decode cX9_rests 13 = .ok (.aload_n 0, 1) := by decide +kernel
theorem dX9_rests_14 : decode cX9_rests 14 = .ok (.invokevirtual 147, 3) := by decide +kernel
theorem dX9_rests_17 : decode cX9_rests 17 = .ok (.ifCond .eq 6, 3) := by decide +kernel
theorem dX9_rests_20 : decode cX9_rests 20 = .ok (.bipush (-2), 2) := by decide +kernel
theorem dX9_rests_22 : decode cX9_rests 22 = .ok (.ireturn, 1) := by decide +kernel
theorem dX9_rests_23 : decode cX9_rests 23 = .ok (.aload_n 0, 1) := by decide +kernel
theorem dX9_rests_24 : decode cX9_rests 24 = .ok (.getfield 70, 3) := by decide +kernel
theorem dX9_rests_27 : decode cX9_rests 27 = .ok (.aload_n 0, 1) := by decide +kernel
theorem dX9_rests_28 : decode cX9_rests 28 = .ok (.getfield 40, 3) := by decide +kernel
theorem dX9_rests_31 : decode cX9_rests 31 = .ok (.getfield 128, 3) := by decide +kernel
theorem dX9_rests_34 : decode cX9_rests 34 = .ok (.invokevirtual 140, 3) := by decide +kernel
theorem dX9_rests_37 : decode cX9_rests 37 = .ok (.iconst 0, 1) := by decide +kernel
theorem dX9_rests_38 : decode cX9_rests 38 = .ok (.istore_n 2, 1) := by decide +kernel
theorem dX9_rests_39 : decode cX9_rests 39 = .ok (.iload_n 2, 1) := by decide +kernel
theorem dX9_rests_40 : decode cX9_rests 40 = .ok (.iload_n 1, 1) := by decide +kernel
theorem dX9_rests_41 : decode cX9_rests 41 = .ok (.if_icmp .ge 16, 3) := by decide +kernel
theorem dX9_rests_44 : decode cX9_rests 44 = .ok (.aload_n 0, 1) := by decide +kernel
theorem dX9_rests_45 : decode cX9_rests 45 = .ok (.invokevirtual 151, 3) := by decide +kernel
theorem dX9_rests_48 : decode cX9_rests 48 = .ok (.ifCond .eq 9, 3) := by decide +kernel
theorem dX9_rests_51 : decode cX9_rests 51 = .ok (.iinc 2 1, 3) := by decide +kernel
theorem dX9_rests_54 : decode cX9_rests 54 = .ok (.goto (-15), 3) := by decide +kernel
theorem dX9_rests_57 : decode cX9_rests 57 = .ok (.iload_n 2, 1) := by decide +kernel
theorem dX9_rests_58 : decode cX9_rests 58 = .ok (.ireturn, 1) := by decide +kernel
theorem dX9_moves_0 : decode cX9_moves 0 = .ok (.aload_n 0, 1) := by decide +kernel
theorem dX9_moves_1 : decode cX9_moves 1 = .ok (.getfield 31, 3) := by decide +kernel
theorem dX9_moves_4 : decode cX9_moves 4 = .ok (.iload_n 1, 1) := by decide +kernel
theorem dX9_moves_5 : decode cX9_moves 5 = .ok (.invokevirtual 131, 3) := by decide +kernel
theorem dX9_moves_8 : decode cX9_moves 8 = .ok (.ifCond .eq 14, 3) := by decide +kernel
theorem dX9_moves_11 : decode cX9_moves 11 = .ok (.aload_n 0, 1) := by decide +kernel
theorem dX9_moves_12 : decode cX9_moves 12 = .ok (.getfield 31, 3) := by decide +kernel
theorem dX9_moves_15 : decode cX9_moves 15 = .ok (.iload_n 2, 1) := by decide +kernel
theorem dX9_moves_16 : decode cX9_moves 16 = .ok (.invokevirtual 131, 3) := by decide +kernel
theorem dX9_moves_19 : decode cX9_moves 19 = .ok (.ifCond .ne 5, 3) := by decide +kernel
theorem dX9_moves_22 : decode cX9_moves 22 = .ok (.iconst (-1), 1) := by decide +kernel
theorem dX9_moves_23 : decode cX9_moves 23 = .ok (.ireturn, 1) := by decide +kernel
theorem dX9_moves_24 : decode cX9_moves 24 = .ok (.aload_n 0, 1) := by decide +kernel
theorem dX9_moves_25 : decode cX9_moves 25 = .ok (.getfield 40, 3) := by decide +kernel
theorem dX9_moves_28 : decode cX9_moves 28 = .ok (.getfield 128, 3) := by decide +kernel
theorem dX9_moves_31 : decode cX9_moves 31 = .ok (.iload_n 1, 1) := by decide +kernel
theorem dX9_moves_32 : decode cX9_moves 32 = .ok (.invokestatic 124, 3) := by decide +kernel
theorem dX9_moves_35 : decode cX9_moves 35 = .ok (.ifCond .eq 14, 3) := by decide +kernel
theorem dX9_moves_38 : decode cX9_moves 38 = .ok (.aload_n 0, 1) := by decide +kernel
theorem dX9_moves_39 : decode cX9_moves 39 = .ok (.invokevirtual 154, 3) := by decide +kernel
theorem dX9_moves_42 : decode cX9_moves 42 = .ok (.iload_n 2, 1) := by decide +kernel
theorem dX9_moves_43 : decode cX9_moves 43 = .ok (.invokestatic 124, 3) := by decide +kernel
theorem dX9_moves_46 : decode cX9_moves 46 = .ok (.ifCond .ne 6, 3) := by decide +kernel
theorem dX9_moves_49 : decode cX9_moves 49 = .ok (.bipush (-2), 2) := by decide +kernel
theorem dX9_moves_51 : decode cX9_moves 51 = .ok (.ireturn, 1) := by decide +kernel
theorem dX9_moves_52 : decode cX9_moves 52 = .ok (.aload_n 0, 1) := by decide +kernel
theorem dX9_moves_53 : decode cX9_moves 53 = .ok (.getfield 70, 3) := by decide +kernel
theorem dX9_moves_56 : decode cX9_moves 56 = .ok (.aload_n 0, 1) := by decide +kernel
theorem dX9_moves_57 : decode cX9_moves 57 = .ok (.getfield 40, 3) := by decide +kernel
theorem dX9_moves_60 : decode cX9_moves 60 = .ok (.getfield 128, 3) := by decide +kernel
theorem dX9_moves_63 : decode cX9_moves 63 = .ok (.invokevirtual 140, 3) := by decide +kernel
theorem dX9_moves_66 : decode cX9_moves 66 = .ok (.aload_n 0, 1) := by decide +kernel
theorem dX9_moves_67 : decode cX9_moves 67 = .ok (.getfield 40, 3) := by decide +kernel
theorem dX9_moves_70 : decode cX9_moves 70 = .ok (.invokevirtual 158, 3) := by decide +kernel
theorem dX9_moves_73 : decode cX9_moves 73 = .ok (.istore_n 3, 1) := by decide +kernel
theorem dX9_moves_74 : decode cX9_moves 74 = .ok (.aload_n 0, 1) := by decide +kernel
theorem dX9_moves_75 : decode cX9_moves 75 = .ok (.getfield 40, 3) := by decide +kernel
theorem dX9_moves_78 : decode cX9_moves 78 = .ok (.iload_n 1, 1) := by decide +kernel
theorem dX9_moves_79 : decode cX9_moves 79 = .ok (.invokevirtual 143, 3) := by decide +kernel
theorem dX9_moves_82 : decode cX9_moves 82 = .ok (.aload_n 0, 1) := by decide +kernel
theorem dX9_moves_83 : decode cX9_moves 83 = .ok (.getfield 40, 3) := by decide +kernel
theorem dX9_moves_86 : decode cX9_moves 86 = .ok (.iload_n 2, 1) := by decide +kernel
theorem dX9_moves_87 : decode cX9_moves 87 = .ok (.invokevirtual 143, 3) := by decide +kernel
theorem dX9_moves_90 : decode cX9_moves 90 = .ok (.aload_n 0, 1) := by decide +kernel
theorem dX9_moves_91 : decode cX9_moves 91 = .ok (.getfield 40, 3) := by decide +kernel
theorem dX9_moves_94 : decode cX9_moves 94 = .ok (.invokevirtual 158, 3) := by decide +kernel
theorem dX9_moves_97 : decode cX9_moves 97 = .ok (.iload_n 3, 1) := by decide +kernel
theorem dX9_moves_98 : decode cX9_moves 98 = .ok (.isub, 1) := by decide +kernel
theorem dX9_moves_99 : decode cX9_moves 99 = .ok (.ireturn, 1) := by decide +kernel
theorem dX9_undo_0 : decode cX9_undo 0 = .ok (.aload_n 0, 1) := by decide +kernel
theorem dX9_undo_1 : decode cX9_undo 1 = .ok (.getfield 70, 3) := by decide +kernel
theorem dX9_undo_4 : decode cX9_undo 4 = .ok (.getfield 115, 3) := by decide +kernel
theorem dX9_undo_7 : decode cX9_undo 7 = .ok (.ifCond .ne 6, 3) := by decide +kernel
theorem dX9_undo_10 : decode cX9_undo 10 = .ok (.bipush (-2), 2) := by decide +kernel
theorem dX9_undo_12 : decode cX9_undo 12 = .ok (.ireturn, 1) := by decide +kernel
theorem dX9_undo_13 : decode cX9_undo 13 = .ok (.aload_n 0, 1) := by decide +kernel
theorem dX9_undo_14 : decode cX9_undo 14 = .ok (.getfield 40, 3) := by decide +kernel
theorem dX9_undo_17 : decode cX9_undo 17 = .ok (.aload_n 0, 1) := by decide +kernel
theorem dX9_undo_18 : decode cX9_undo 18 = .ok (.getfield 70, 3) := by decide +kernel
theorem dX9_undo_21 : decode cX9_undo 21 = .ok (.invokevirtual 162, 3) := by decide +kernel
theorem dX9_undo_24 : decode cX9_undo 24 = .ok (.invokevirtual 165, 3) := by decide +kernel
theorem dX9_undo_27 : decode cX9_undo 27 = .ok (.aload_n 0, 1) := by decide +kernel
theorem dX9_undo_28 : decode cX9_undo 28 = .ok (.getfield 70, 3) := by decide +kernel
theorem dX9_undo_31 : decode cX9_undo 31 = .ok (.getfield 115, 3) := by decide +kernel
theorem dX9_undo_34 : decode cX9_undo 34 = .ok (.ireturn, 1) := by decide +kernel
theorem dX9_held_0 : decode cX9_held 0 = .ok (.aload_n 0, 1) := by decide +kernel
theorem dX9_held_1 : decode cX9_held 1 = .ok (.getfield 19, 3) := by decide +kernel
theorem dX9_held_4 : decode cX9_held 4 = .ok (.iload_n 1, 1) := by decide +kernel
theorem dX9_held_5 : decode cX9_held 5 = .ok (.iload_n 2, 1) := by decide +kernel
theorem dX9_held_6 : decode cX9_held 6 = .ok (.invokevirtual 117, 3) := by decide +kernel
theorem dX9_held_9 : decode cX9_held 9 = .ok (.istore_n 3, 1) := by decide +kernel
theorem dX9_held_10 : decode cX9_held 10 = .ok (.iload_n 3, 1) := by decide +kernel
theorem dX9_held_11 : decode cX9_held 11 = .ok (.iconst (-1), 1) := by decide +kernel
theorem dX9_held_12 : decode cX9_held 12 = .ok (.if_icmp .ne 7, 3) := by decide +kernel
theorem dX9_held_15 : decode cX9_held 15 = .ok (.iconst (-1), 1) := by decide +kernel
theorem dX9_held_16 : decode cX9_held 16 = .ok (.goto 11, 3) := by decide +kernel
theorem dX9_held_19 : decode cX9_held 19 = .ok (.aload_n 0, 1) := by decide +kernel
theorem dX9_held_20 : decode cX9_held 20 = .ok (.getfield 40, 3) := by decide +kernel
theorem dX9_held_23 : decode cX9_held 23 = .ok (.iload_n 3, 1) := by decide +kernel
theorem dX9_held_24 : decode cX9_held 24 = .ok (.invokevirtual 167, 3) := by decide +kernel
theorem dX9_held_27 : decode cX9_held 27 = .ok (.ireturn, 1) := by decide +kernel
theorem dX9_extreme_0 : decode cX9_extreme 0 = .ok (.iload_n 1, 1) := by decide +kernel
theorem dX9_extreme_1 : decode cX9_extreme 1 = .ok (.ifCond .lt 8, 3) := by decide +kernel
theorem dX9_extreme_4 : decode cX9_extreme 4 = .ok (.iload_n 1, 1) := by decide +kernel
theorem dX9_extreme_5 : decode cX9_extreme 5 = .ok (.iconst 1, 1) := by decide +kernel
theorem dX9_extreme_6 : decode cX9_extreme 6 = .ok (.if_icmp .le 5, 3) := by decide +kernel
theorem dX9_extreme_9 : decode cX9_extreme 9 = .ok (.iconst (-1), 1) := by decide +kernel
theorem dX9_extreme_10 : decode cX9_extreme 10 = .ok (.ireturn, 1) := by decide +kernel
theorem dX9_extreme_11 : decode cX9_extreme 11 = .ok (.iload_n 1, 1) := by decide +kernel
theorem dX9_extreme_12 : decode cX9_extreme 12 = .ok (.ifCond .ne 20, 3) := by decide +kernel
theorem dX9_extreme_15 : decode cX9_extreme 15 = .ok (.aload_n 0, 1) := by decide +kernel
theorem dX9_extreme_16 : decode cX9_extreme 16 = .ok (.getfield 40, 3) := by decide +kernel
theorem dX9_extreme_19 : decode cX9_extreme 19 = .ok (.aload_n 0, 1) := by decide +kernel
theorem dX9_extreme_20 : decode cX9_extreme 20 = .ok (.getfield 40, 3) := by decide +kernel
theorem dX9_extreme_23 : decode cX9_extreme 23 = .ok (.getfield 128, 3) := by decide +kernel
theorem dX9_extreme_26 : decode cX9_extreme 26 = .ok (.invokevirtual 171, 3) := by decide +kernel
theorem dX9_extreme_29 : decode cX9_extreme 29 = .ok (.goto 14, 3) := by decide +kernel
theorem dX9_extreme_32 : decode cX9_extreme 32 = .ok (.aload_n 0, 1) := by decide +kernel
theorem dX9_extreme_33 : decode cX9_extreme 33 = .ok (.getfield 40, 3) := by decide +kernel
theorem dX9_extreme_36 : decode cX9_extreme 36 = .ok (.aload_n 0, 1) := by decide +kernel
theorem dX9_extreme_37 : decode cX9_extreme 37 = .ok (.invokevirtual 154, 3) := by decide +kernel
theorem dX9_extreme_40 : decode cX9_extreme 40 = .ok (.invokevirtual 175, 3) := by decide +kernel
theorem dX9_extreme_43 : decode cX9_extreme 43 = .ok (.istore_n 2, 1) := by decide +kernel
theorem dX9_extreme_44 : decode cX9_extreme 44 = .ok (.iload_n 2, 1) := by decide +kernel
theorem dX9_extreme_45 : decode cX9_extreme 45 = .ok (.iconst (-1), 1) := by decide +kernel
theorem dX9_extreme_46 : decode cX9_extreme 46 = .ok (.if_icmp .ne 8, 3) := by decide +kernel
theorem dX9_extreme_49 : decode cX9_extreme 49 = .ok (.bipush (-9), 2) := by decide +kernel
theorem dX9_extreme_51 : decode cX9_extreme 51 = .ok (.goto 4, 3) := by decide +kernel
theorem dX9_extreme_54 : decode cX9_extreme 54 = .ok (.iload_n 2, 1) := by decide +kernel
theorem dX9_extreme_55 : decode cX9_extreme 55 = .ok (.ireturn, 1) := by decide +kernel
theorem dX9_energy_0 : decode cX9_energy 0 = .ok (.aload_n 0, 1) := by decide +kernel
theorem dX9_energy_1 : decode cX9_energy 1 = .ok (.getfield 40, 3) := by decide +kernel
theorem dX9_energy_4 : decode cX9_energy 4 = .ok (.invokevirtual 158, 3) := by decide +kernel
theorem dX9_energy_7 : decode cX9_energy 7 = .ok (.ireturn, 1) := by decide +kernel
theorem dX9_better_0 : decode cX9_better 0 = .ok (.iload_n 1, 1) := by decide +kernel
theorem dX9_better_1 : decode cX9_better 1 = .ok (.ifCond .lt 8, 3) := by decide +kernel
theorem dX9_better_4 : decode cX9_better 4 = .ok (.iload_n 1, 1) := by decide +kernel
theorem dX9_better_5 : decode cX9_better 5 = .ok (.iconst 2, 1) := by decide +kernel
theorem dX9_better_6 : decode cX9_better 6 = .ok (.if_icmp .le 5, 3) := by decide +kernel
theorem dX9_better_9 : decode cX9_better 9 = .ok (.iconst (-1), 1) := by decide +kernel
theorem dX9_better_10 : decode cX9_better 10 = .ok (.ireturn, 1) := by decide +kernel
theorem dX9_better_11 : decode cX9_better 11 = .ok (.aload_n 0, 1) := by decide +kernel
theorem dX9_better_12 : decode cX9_better 12 = .ok (.invokevirtual 178, 3) := by decide +kernel
theorem dX9_better_15 : decode cX9_better 15 = .ok (.istore_n 2, 1) := by decide +kernel
theorem dX9_better_16 : decode cX9_better 16 = .ok (.iload_n 2, 1) := by decide +kernel
theorem dX9_better_17 : decode cX9_better 17 = .ok (.iconst (-1), 1) := by decide +kernel
theorem dX9_better_18 : decode cX9_better 18 = .ok (.if_icmp .ne 14, 3) := by decide +kernel
theorem dX9_better_21 : decode cX9_better 21 = .ok (.iload_n 1, 1) := by decide +kernel
theorem dX9_better_22 : decode cX9_better 22 = .ok (.ifCond .ne 7, 3) := by decide +kernel
theorem dX9_better_25 : decode cX9_better 25 = .ok (.iconst 0, 1) := by decide +kernel
theorem dX9_better_26 : decode cX9_better 26 = .ok (.goto 5, 3) := by decide +kernel
theorem dX9_better_29 : decode cX9_better 29 = .ok (.bipush (-9), 2) := by decide +kernel
theorem dX9_better_31 : decode cX9_better 31 = .ok (.ireturn, 1) := by decide +kernel
theorem dX9_better_32 : decode cX9_better 32 = .ok (.iload_n 2, 1) := by decide +kernel
theorem dX9_better_33 : decode cX9_better 33 = .ok (.bipush 64, 2) := by decide +kernel
theorem dX9_better_35 : decode cX9_better 35 = .ok (.idiv, 1) := by decide +kernel
theorem dX9_better_36 : decode cX9_better 36 = .ok (.istore_n 3, 1) := by decide +kernel
theorem dX9_better_37 : decode cX9_better 37 = .ok (.iload_n 2, 1) := by decide +kernel
theorem dX9_better_38 : decode cX9_better 38 = .ok (.bipush 64, 2) := by decide +kernel
theorem dX9_better_40 : decode cX9_better 40 = .ok (.irem, 1) := by decide +kernel
theorem dX9_better_41 : decode cX9_better 41 = .ok (.istore 4, 2) := by decide +kernel
theorem dX9_better_43 : decode cX9_better 43 = .ok (.iload_n 1, 1) := by decide +kernel
theorem dX9_better_44 : decode cX9_better 44 = .ok (.ifCond .ne 11, 3) := by decide +kernel
theorem dX9_better_47 : decode cX9_better 47 = .ok (.aload_n 0, 1) := by decide +kernel
theorem dX9_better_48 : decode cX9_better 48 = .ok (.iload_n 3, 1) := by decide +kernel
theorem dX9_better_49 : decode cX9_better 49 = .ok (.iload 4, 2) := by decide +kernel
theorem dX9_better_51 : decode cX9_better 51 = .ok (.invokevirtual 181, 3) := by decide +kernel
theorem dX9_better_54 : decode cX9_better 54 = .ok (.ireturn, 1) := by decide +kernel
theorem dX9_better_55 : decode cX9_better 55 = .ok (.iload_n 1, 1) := by decide +kernel
theorem dX9_better_56 : decode cX9_better 56 = .ok (.iconst 1, 1) := by decide +kernel
theorem dX9_better_57 : decode cX9_better 57 = .ok (.if_icmp .ne 7, 3) := by decide +kernel
theorem dX9_better_60 : decode cX9_better 60 = .ok (.iload_n 3, 1) := by decide +kernel
theorem dX9_better_61 : decode cX9_better 61 = .ok (.goto 5, 3) := by decide +kernel
theorem dX9_better_64 : decode cX9_better 64 = .ok (.iload 4, 2) := by decide +kernel
theorem dX9_better_66 : decode cX9_better 66 = .ok (.ireturn, 1) := by decide +kernel
theorem dX9_shifts_0 : decode cX9_shifts 0 = .ok (.iconst 0, 1) := by decide +kernel
theorem dX9_shifts_1 : decode cX9_shifts 1 = .ok (.istore_n 1, 1) := by decide +kernel
theorem dX9_shifts_2 : decode cX9_shifts 2 = .ok (.iconst 0, 1) := by decide +kernel
theorem dX9_shifts_3 : decode cX9_shifts 3 = .ok (.istore_n 2, 1) := by decide +kernel
theorem dX9_shifts_4 : decode cX9_shifts 4 = .ok (.iload_n 2, 1) := by decide +kernel
theorem dX9_shifts_5 : decode cX9_shifts 5 = .ok (.aload_n 0, 1) := by decide +kernel
theorem dX9_shifts_6 : decode cX9_shifts 6 = .ok (.getfield 19, 3) := by decide +kernel
theorem dX9_shifts_9 : decode cX9_shifts 9 = .ok (.getfield 184, 3) := by decide +kernel
theorem dX9_shifts_12 : decode cX9_shifts 12 = .ok (.if_icmp .ge 69, 3) := by decide +kernel
theorem dX9_shifts_15 : decode cX9_shifts 15 = .ok (.iconst 0, 1) := by decide +kernel
theorem dX9_shifts_16 : decode cX9_shifts 16 = .ok (.istore_n 3, 1) := by decide +kernel
theorem dX9_shifts_17 : decode cX9_shifts 17 = .ok (.iload_n 3, 1) := by decide +kernel
theorem dX9_shifts_18 : decode cX9_shifts 18 = .ok (.aload_n 0, 1) := by decide +kernel
theorem dX9_shifts_19 : decode cX9_shifts 19 = .ok (.getfield 19, 3) := by decide +kernel
theorem dX9_shifts_22 : decode cX9_shifts 22 = .ok (.getfield 187, 3) := by decide +kernel
theorem dX9_shifts_25 : decode cX9_shifts 25 = .ok (.if_icmp .ge 50, 3) := by decide +kernel
theorem dX9_shifts_28 : decode cX9_shifts 28 = .ok (.aload_n 0, 1) := by decide +kernel
theorem dX9_shifts_29 : decode cX9_shifts 29 = .ok (.getfield 31, 3) := by decide +kernel
theorem dX9_shifts_32 : decode cX9_shifts 32 = .ok (.aload_n 0, 1) := by decide +kernel
theorem dX9_shifts_33 : decode cX9_shifts 33 = .ok (.getfield 40, 3) := by decide +kernel
theorem dX9_shifts_36 : decode cX9_shifts 36 = .ok (.getfield 128, 3) := by decide +kernel
theorem dX9_shifts_39 : decode cX9_shifts 39 = .ok (.iload_n 3, 1) := by decide +kernel
theorem dX9_shifts_40 : decode cX9_shifts 40 = .ok (.iload_n 2, 1) := by decide +kernel
theorem dX9_shifts_41 : decode cX9_shifts 41 = .ok (.invokevirtual 190, 3) := by decide +kernel
theorem dX9_shifts_44 : decode cX9_shifts 44 = .ok (.ifCond .eq 25, 3) := by decide +kernel
theorem dX9_shifts_47 : decode cX9_shifts 47 = .ok (.aload_n 0, 1) := by decide +kernel
theorem dX9_shifts_48 : decode cX9_shifts 48 = .ok (.getfield 31, 3) := by decide +kernel
theorem dX9_shifts_51 : decode cX9_shifts 51 = .ok (.aload_n 0, 1) := by decide +kernel
theorem dX9_shifts_52 : decode cX9_shifts 52 = .ok (.getfield 19, 3) := by decide +kernel
theorem dX9_shifts_55 : decode cX9_shifts 55 = .ok (.getfield 121, 3) := by decide +kernel
theorem dX9_shifts_58 : decode cX9_shifts 58 = .ok (.iload_n 3, 1) := by decide +kernel
theorem dX9_shifts_59 : decode cX9_shifts 59 = .ok (.iload_n 2, 1) := by decide +kernel
theorem dX9_shifts_60 : decode cX9_shifts 60 = .ok (.invokevirtual 190, 3) := by decide +kernel
theorem dX9_shifts_63 : decode cX9_shifts 63 = .ok (.ifCond .eq 6, 3) := by decide +kernel
theorem dX9_shifts_66 : decode cX9_shifts 66 = .ok (.iinc 1 1, 3) := by decide +kernel
theorem dX9_shifts_69 : decode cX9_shifts 69 = .ok (.iinc 3 1, 3) := by decide +kernel
theorem dX9_shifts_72 : decode cX9_shifts 72 = .ok (.goto (-55), 3) := by decide +kernel
theorem dX9_shifts_75 : decode cX9_shifts 75 = .ok (.iinc 2 1, 3) := by decide +kernel
theorem dX9_shifts_78 : decode cX9_shifts 78 = .ok (.goto (-74), 3) := by decide +kernel
theorem dX9_shifts_81 : decode cX9_shifts 81 = .ok (.iload_n 1, 1) := by decide +kernel
theorem dX9_shifts_82 : decode cX9_shifts 82 = .ok (.ireturn, 1) := by decide +kernel
theorem dX9_rank_0 : decode cX9_rank 0 = .ok (.aload_n 0, 1) := by decide +kernel
theorem dX9_rank_1 : decode cX9_rank 1 = .ok (.iload_n 1, 1) := by decide +kernel
theorem dX9_rank_2 : decode cX9_rank 2 = .ok (.iload_n 2, 1) := by decide +kernel
theorem dX9_rank_3 : decode cX9_rank 3 = .ok (.invokevirtual 194, 3) := by decide +kernel
theorem dX9_rank_6 : decode cX9_rank 6 = .ok (.istore_n 3, 1) := by decide +kernel
theorem dX9_rank_7 : decode cX9_rank 7 = .ok (.iload_n 3, 1) := by decide +kernel
theorem dX9_rank_8 : decode cX9_rank 8 = .ok (.ifCond .ge 5, 3) := by decide +kernel
theorem dX9_rank_11 : decode cX9_rank 11 = .ok (.iload_n 3, 1) := by decide +kernel
theorem dX9_rank_12 : decode cX9_rank 12 = .ok (.ireturn, 1) := by decide +kernel
theorem dX9_rank_13 : decode cX9_rank 13 = .ok (.aload_n 0, 1) := by decide +kernel
theorem dX9_rank_14 : decode cX9_rank 14 = .ok (.getfield 19, 3) := by decide +kernel
theorem dX9_rank_17 : decode cX9_rank 17 = .ok (.getfield 121, 3) := by decide +kernel
theorem dX9_rank_20 : decode cX9_rank 20 = .ok (.iload_n 3, 1) := by decide +kernel
theorem dX9_rank_21 : decode cX9_rank 21 = .ok (.invokestatic 124, 3) := by decide +kernel
theorem dX9_rank_24 : decode cX9_rank 24 = .ok (.ifCond .eq 8, 3) := by decide +kernel
theorem dX9_rank_27 : decode cX9_rank 27 = .ok (.bipush (-9), 2) := by decide +kernel
theorem dX9_rank_29 : decode cX9_rank 29 = .ok (.goto 11, 3) := by decide +kernel
theorem dX9_rank_32 : decode cX9_rank 32 = .ok (.aload_n 0, 1) := by decide +kernel
theorem dX9_rank_33 : decode cX9_rank 33 = .ok (.invokevirtual 197, 3) := by decide +kernel
theorem dX9_rank_36 : decode cX9_rank 36 = .ok (.iload_n 3, 1) := by decide +kernel
theorem dX9_rank_37 : decode cX9_rank 37 = .ok (.invokevirtual 201, 3) := by decide +kernel
theorem dX9_rank_40 : decode cX9_rank 40 = .ok (.ireturn, 1) := by decide +kernel
theorem dX9_ranked_0 : decode cX9_ranked 0 = .ok (.iload_n 1, 1) := by decide +kernel
theorem dX9_ranked_1 : decode cX9_ranked 1 = .ok (.ifCond .lt 14, 3) := by decide +kernel
theorem dX9_ranked_4 : decode cX9_ranked 4 = .ok (.iload_n 1, 1) := by decide +kernel
theorem dX9_ranked_5 : decode cX9_ranked 5 = .ok (.aload_n 0, 1) := by decide +kernel
theorem dX9_ranked_6 : decode cX9_ranked 6 = .ok (.getfield 31, 3) := by decide +kernel
theorem dX9_ranked_9 : decode cX9_ranked 9 = .ok (.getfield 204, 3) := by decide +kernel
theorem dX9_ranked_12 : decode cX9_ranked 12 = .ok (.if_icmp .lt 5, 3) := by decide +kernel
theorem dX9_ranked_15 : decode cX9_ranked 15 = .ok (.iconst (-1), 1) := by decide +kernel
theorem dX9_ranked_16 : decode cX9_ranked 16 = .ok (.ireturn, 1) := by decide +kernel
theorem dX9_ranked_17 : decode cX9_ranked 17 = .ok (.aload_n 0, 1) := by decide +kernel
theorem dX9_ranked_18 : decode cX9_ranked 18 = .ok (.invokevirtual 147, 3) := by decide +kernel
theorem dX9_ranked_21 : decode cX9_ranked 21 = .ok (.ifCond .eq 8, 3) := by decide +kernel
theorem dX9_ranked_24 : decode cX9_ranked 24 = .ok (.bipush (-2), 2) := by decide +kernel
theorem dX9_ranked_26 : decode cX9_ranked 26 = .ok (.goto 11, 3) := by decide +kernel
theorem dX9_ranked_29 : decode cX9_ranked 29 = .ok (.aload_n 0, 1) := by decide +kernel
theorem dX9_ranked_30 : decode cX9_ranked 30 = .ok (.invokevirtual 197, 3) := by decide +kernel
theorem dX9_ranked_33 : decode cX9_ranked 33 = .ok (.iload_n 1, 1) := by decide +kernel
theorem dX9_ranked_34 : decode cX9_ranked 34 = .ok (.invokevirtual 207, 3) := by decide +kernel
theorem dX9_ranked_37 : decode cX9_ranked 37 = .ok (.ireturn, 1) := by decide +kernel
theorem dX9_stage_0 : decode cX9_stage 0 = .ok (.aload_n 0, 1) := by decide +kernel
theorem dX9_stage_1 : decode cX9_stage 1 = .ok (.iload_n 1, 1) := by decide +kernel
theorem dX9_stage_2 : decode cX9_stage 2 = .ok (.iload_n 2, 1) := by decide +kernel
theorem dX9_stage_3 : decode cX9_stage 3 = .ok (.invokevirtual 194, 3) := by decide +kernel
theorem dX9_stage_6 : decode cX9_stage 6 = .ok (.istore_n 3, 1) := by decide +kernel
theorem dX9_stage_7 : decode cX9_stage 7 = .ok (.iload_n 3, 1) := by decide +kernel
theorem dX9_stage_8 : decode cX9_stage 8 = .ok (.ifCond .ge 5, 3) := by decide +kernel
theorem dX9_stage_11 : decode cX9_stage 11 = .ok (.iload_n 3, 1) := by decide +kernel
theorem dX9_stage_12 : decode cX9_stage 12 = .ok (.ireturn, 1) := by decide +kernel
theorem dX9_stage_13 : decode cX9_stage 13 = .ok (.aload_n 0, 1) := by decide +kernel
theorem dX9_stage_14 : decode cX9_stage 14 = .ok (.getfield 19, 3) := by decide +kernel
theorem dX9_stage_17 : decode cX9_stage 17 = .ok (.getfield 121, 3) := by decide +kernel
theorem dX9_stage_20 : decode cX9_stage 20 = .ok (.iload_n 3, 1) := by decide +kernel
theorem dX9_stage_21 : decode cX9_stage 21 = .ok (.invokestatic 124, 3) := by decide +kernel
theorem dX9_stage_24 : decode cX9_stage 24 = .ok (.ifCond .eq 8, 3) := by decide +kernel
theorem dX9_stage_27 : decode cX9_stage 27 = .ok (.bipush (-9), 2) := by decide +kernel
theorem dX9_stage_29 : decode cX9_stage 29 = .ok (.goto 11, 3) := by decide +kernel
theorem dX9_stage_32 : decode cX9_stage 32 = .ok (.aload_n 0, 1) := by decide +kernel
theorem dX9_stage_33 : decode cX9_stage 33 = .ok (.invokevirtual 197, 3) := by decide +kernel
theorem dX9_stage_36 : decode cX9_stage 36 = .ok (.iload_n 3, 1) := by decide +kernel
theorem dX9_stage_37 : decode cX9_stage 37 = .ok (.invokevirtual 210, 3) := by decide +kernel
theorem dX9_stage_40 : decode cX9_stage 40 = .ok (.ireturn, 1) := by decide +kernel
theorem dX9_shade_0 : decode cX9_shade 0 = .ok (.iload_n 1, 1) := by decide +kernel
theorem dX9_shade_1 : decode cX9_shade 1 = .ok (.ifCond .lt 23, 3) := by decide +kernel
theorem dX9_shade_4 : decode cX9_shade 4 = .ok (.iload_n 1, 1) := by decide +kernel
theorem dX9_shade_5 : decode cX9_shade 5 = .ok (.aload_n 0, 1) := by decide +kernel
theorem dX9_shade_6 : decode cX9_shade 6 = .ok (.getfield 31, 3) := by decide +kernel
theorem dX9_shade_9 : decode cX9_shade 9 = .ok (.getfield 204, 3) := by decide +kernel
theorem dX9_shade_12 : decode cX9_shade 12 = .ok (.if_icmp .gt 12, 3) := by decide +kernel
theorem dX9_shade_15 : decode cX9_shade 15 = .ok (.iload_n 2, 1) := by decide +kernel
theorem dX9_shade_16 : decode cX9_shade 16 = .ok (.ifCond .lt 8, 3) := by decide +kernel
theorem dX9_shade_19 : decode cX9_shade 19 = .ok (.iload_n 2, 1) := by decide +kernel
theorem dX9_shade_20 : decode cX9_shade 20 = .ok (.iconst 1, 1) := by decide +kernel
theorem dX9_shade_21 : decode cX9_shade 21 = .ok (.if_icmp .le 5, 3) := by decide +kernel
theorem dX9_shade_24 : decode cX9_shade 24 = .ok (.iconst (-1), 1) := by decide +kernel
theorem dX9_shade_25 : decode cX9_shade 25 = .ok (.ireturn, 1) := by decide +kernel
theorem dX9_shade_26 : decode cX9_shade 26 = .ok (.aload_n 0, 1) := by decide +kernel
theorem dX9_shade_27 : decode cX9_shade 27 = .ok (.invokevirtual 147, 3) := by decide +kernel
theorem dX9_shade_30 : decode cX9_shade 30 = .ok (.ifCond .eq 6, 3) := by decide +kernel
theorem dX9_shade_33 : decode cX9_shade 33 = .ok (.bipush (-2), 2) := by decide +kernel
theorem dX9_shade_35 : decode cX9_shade 35 = .ok (.ireturn, 1) := by decide +kernel
theorem dX9_shade_36 : decode cX9_shade 36 = .ok (.iload_n 2, 1) := by decide +kernel
theorem dX9_shade_37 : decode cX9_shade 37 = .ok (.ifCond .ne 14, 3) := by decide +kernel
theorem dX9_shade_40 : decode cX9_shade 40 = .ok (.aload_n 0, 1) := by decide +kernel
theorem dX9_shade_41 : decode cX9_shade 41 = .ok (.invokevirtual 197, 3) := by decide +kernel
theorem dX9_shade_44 : decode cX9_shade 44 = .ok (.iload_n 1, 1) := by decide +kernel
theorem dX9_shade_45 : decode cX9_shade 45 = .ok (.invokevirtual 213, 3) := by decide +kernel
theorem dX9_shade_48 : decode cX9_shade 48 = .ok (.goto 11, 3) := by decide +kernel
theorem dX9_shade_51 : decode cX9_shade 51 = .ok (.aload_n 0, 1) := by decide +kernel
theorem dX9_shade_52 : decode cX9_shade 52 = .ok (.invokevirtual 197, 3) := by decide +kernel
theorem dX9_shade_55 : decode cX9_shade 55 = .ok (.iload_n 1, 1) := by decide +kernel
theorem dX9_shade_56 : decode cX9_shade 56 = .ok (.invokevirtual 216, 3) := by decide +kernel
theorem dX9_shade_59 : decode cX9_shade 59 = .ok (.ireturn, 1) := by decide +kernel
theorem dX9_finest_0 : decode cX9_finest 0 = .ok (.iload_n 1, 1) := by decide +kernel
theorem dX9_finest_1 : decode cX9_finest 1 = .ok (.ifCond .lt 10, 3) := by decide +kernel
theorem dX9_finest_4 : decode cX9_finest 4 = .ok (.iload_n 1, 1) := by decide +kernel
theorem dX9_finest_5 : decode cX9_finest 5 = .ok (.sipush 999, 3) := by decide +kernel
theorem dX9_finest_8 : decode cX9_finest 8 = .ok (.if_icmp .le 5, 3) := by decide +kernel
theorem dX9_finest_11 : decode cX9_finest 11 = .ok (.iconst (-1), 1) := by decide +kernel
theorem dX9_finest_12 : decode cX9_finest 12 = .ok (.ireturn, 1) := by decide +kernel
theorem dX9_finest_13 : decode cX9_finest 13 = .ok (.aload_n 0, 1) := by decide +kernel
theorem dX9_finest_14 : decode cX9_finest 14 = .ok (.invokevirtual 147, 3) := by decide +kernel
theorem dX9_finest_17 : decode cX9_finest 17 = .ok (.ifCond .eq 8, 3) := by decide +kernel
theorem dX9_finest_20 : decode cX9_finest 20 = .ok (.bipush (-2), 2) := by decide +kernel
theorem dX9_finest_22 : decode cX9_finest 22 = .ok (.goto 11, 3) := by decide +kernel
theorem dX9_finest_25 : decode cX9_finest 25 = .ok (.aload_n 0, 1) := by decide +kernel
theorem dX9_finest_26 : decode cX9_finest 26 = .ok (.invokevirtual 197, 3) := by decide +kernel
theorem dX9_finest_29 : decode cX9_finest 29 = .ok (.iload_n 1, 1) := by decide +kernel
theorem dX9_finest_30 : decode cX9_finest 30 = .ok (.invokevirtual 219, 3) := by decide +kernel
theorem dX9_finest_33 : decode cX9_finest 33 = .ok (.ireturn, 1) := by decide +kernel
theorem dX9_paints_0 : decode cX9_paints 0 = .ok (.iload_n 1, 1) := by decide +kernel
theorem dX9_paints_1 : decode cX9_paints 1 = .ok (.ifCond .lt 23, 3) := by decide +kernel
theorem dX9_paints_4 : decode cX9_paints 4 = .ok (.iload_n 1, 1) := by decide +kernel
theorem dX9_paints_5 : decode cX9_paints 5 = .ok (.bipush 64, 2) := by decide +kernel
theorem dX9_paints_7 : decode cX9_paints 7 = .ok (.if_icmp .gt 17, 3) := by decide +kernel
theorem dX9_paints_10 : decode cX9_paints 10 = .ok (.iload_n 2, 1) := by decide +kernel
theorem dX9_paints_11 : decode cX9_paints 11 = .ok (.invokestatic 222, 3) := by decide +kernel
theorem dX9_paints_14 : decode cX9_paints 14 = .ok (.ifCond .eq 10, 3) := by decide +kernel
theorem dX9_paints_17 : decode cX9_paints 17 = .ok (.iload_n 3, 1) := by decide +kernel
theorem dX9_paints_18 : decode cX9_paints 18 = .ok (.invokestatic 222, 3) := by decide +kernel
theorem dX9_paints_21 : decode cX9_paints 21 = .ok (.ifCond .ne 5, 3) := by decide +kernel
theorem dX9_paints_24 : decode cX9_paints 24 = .ok (.iconst (-1), 1) := by decide +kernel
theorem dX9_paints_25 : decode cX9_paints 25 = .ok (.ireturn, 1) := by decide +kernel
theorem dX9_paints_26 : decode cX9_paints 26 = .ok (.aload_n 0, 1) := by decide +kernel
theorem dX9_paints_27 : decode cX9_paints 27 = .ok (.invokevirtual 147, 3) := by decide +kernel
theorem dX9_paints_30 : decode cX9_paints 30 = .ok (.ifCond .eq 6, 3) := by decide +kernel
theorem dX9_paints_33 : decode cX9_paints 33 = .ok (.bipush (-2), 2) := by decide +kernel
theorem dX9_paints_35 : decode cX9_paints 35 = .ok (.ireturn, 1) := by decide +kernel
theorem dX9_paints_36 : decode cX9_paints 36 = .ok (.aload_n 0, 1) := by decide +kernel
theorem dX9_paints_37 : decode cX9_paints 37 = .ok (.getfield 56, 3) := by decide +kernel
theorem dX9_paints_40 : decode cX9_paints 40 = .ok (.iload_n 1, 1) := by decide +kernel
theorem dX9_paints_41 : decode cX9_paints 41 = .ok (.iload_n 2, 1) := by decide +kernel
theorem dX9_paints_42 : decode cX9_paints 42 = .ok (.iload_n 3, 1) := by decide +kernel
theorem dX9_paints_43 : decode cX9_paints 43 = .ok (.invokevirtual 109, 3) := by decide +kernel
theorem dX9_paints_46 : decode cX9_paints 46 = .ok (.aload_n 0, 1) := by decide +kernel
theorem dX9_paints_47 : decode cX9_paints 47 = .ok (.invokevirtual 225, 3) := by decide +kernel
theorem dX9_paints_50 : decode cX9_paints 50 = .ok (.invokevirtual 229, 3) := by decide +kernel
theorem dX9_paints_53 : decode cX9_paints 53 = .ok (.ireturn, 1) := by decide +kernel
theorem dX9_ink_0 : decode cX9_ink 0 = .ok (.aload_n 0, 1) := by decide +kernel
theorem dX9_ink_1 : decode cX9_ink 1 = .ok (.iload_n 1, 1) := by decide +kernel
theorem dX9_ink_2 : decode cX9_ink 2 = .ok (.iload_n 2, 1) := by decide +kernel
theorem dX9_ink_3 : decode cX9_ink 3 = .ok (.invokevirtual 194, 3) := by decide +kernel
theorem dX9_ink_6 : decode cX9_ink 6 = .ok (.istore_n 3, 1) := by decide +kernel
theorem dX9_ink_7 : decode cX9_ink 7 = .ok (.iload_n 3, 1) := by decide +kernel
theorem dX9_ink_8 : decode cX9_ink 8 = .ok (.ifCond .ge 5, 3) := by decide +kernel
theorem dX9_ink_11 : decode cX9_ink 11 = .ok (.iload_n 3, 1) := by decide +kernel
theorem dX9_ink_12 : decode cX9_ink 12 = .ok (.ireturn, 1) := by decide +kernel
theorem dX9_ink_13 : decode cX9_ink 13 = .ok (.aload_n 0, 1) := by decide +kernel
theorem dX9_ink_14 : decode cX9_ink 14 = .ok (.invokevirtual 225, 3) := by decide +kernel
theorem dX9_ink_17 : decode cX9_ink 17 = .ok (.iload_n 3, 1) := by decide +kernel
theorem dX9_ink_18 : decode cX9_ink 18 = .ok (.invokevirtual 232, 3) := by decide +kernel
theorem dX9_ink_21 : decode cX9_ink 21 = .ok (.ifCond .eq 7, 3) := by decide +kernel
theorem dX9_ink_24 : decode cX9_ink 24 = .ok (.iconst 1, 1) := by decide +kernel
theorem dX9_ink_25 : decode cX9_ink 25 = .ok (.goto 4, 3) := by decide +kernel
theorem dX9_ink_28 : decode cX9_ink 28 = .ok (.iconst 0, 1) := by decide +kernel
theorem dX9_ink_29 : decode cX9_ink 29 = .ok (.ireturn, 1) := by decide +kernel
theorem dX9_off_0 : decode cX9_off 0 = .ok (.aload_n 0, 1) := by decide +kernel
theorem dX9_off_1 : decode cX9_off 1 = .ok (.invokevirtual 147, 3) := by decide +kernel
theorem dX9_off_4 : decode cX9_off 4 = .ok (.ifCond .eq 8, 3) := by decide +kernel
theorem dX9_off_7 : decode cX9_off 7 = .ok (.bipush (-2), 2) := by decide +kernel
theorem dX9_off_9 : decode cX9_off 9 = .ok (.goto 10, 3) := by decide +kernel
theorem dX9_off_12 : decode cX9_off 12 = .ok (.aload_n 0, 1) := by decide +kernel
theorem dX9_off_13 : decode cX9_off 13 = .ok (.invokevirtual 225, 3) := by decide +kernel
theorem dX9_off_16 : decode cX9_off 16 = .ok (.invokevirtual 235, 3) := by decide +kernel
theorem dX9_off_19 : decode cX9_off 19 = .ok (.ireturn, 1) := by decide +kernel
theorem dX9_sees_0 : decode cX9_sees 0 = .ok (.aload_n 0, 1) := by decide +kernel
theorem dX9_sees_1 : decode cX9_sees 1 = .ok (.iload_n 1, 1) := by decide +kernel
theorem dX9_sees_2 : decode cX9_sees 2 = .ok (.invokevirtual 238, 3) := by decide +kernel
theorem dX9_sees_5 : decode cX9_sees 5 = .ok (.ifCond .eq 13, 3) := by decide +kernel
theorem dX9_sees_8 : decode cX9_sees 8 = .ok (.iload_n 2, 1) := by decide +kernel
theorem dX9_sees_9 : decode cX9_sees 9 = .ok (.ifCond .lt 9, 3) := by decide +kernel
theorem dX9_sees_12 : decode cX9_sees 12 = .ok (.iload_n 2, 1) := by decide +kernel
theorem dX9_sees_13 : decode cX9_sees 13 = .ok (.bipush 8, 2) := by decide +kernel
theorem dX9_sees_15 : decode cX9_sees 15 = .ok (.if_icmp .le 5, 3) := by decide +kernel
theorem dX9_sees_18 : decode cX9_sees 18 = .ok (.iconst (-1), 1) := by decide +kernel
theorem dX9_sees_19 : decode cX9_sees 19 = .ok (.ireturn, 1) := by decide +kernel
theorem dX9_sees_20 : decode cX9_sees 20 = .ok (.aload_n 0, 1) := by decide +kernel
theorem dX9_sees_21 : decode cX9_sees 21 = .ok (.getfield 63, 3) := by decide +kernel
theorem dX9_sees_24 : decode cX9_sees 24 = .ok (.iload_n 1, 1) := by decide +kernel
theorem dX9_sees_25 : decode cX9_sees 25 = .ok (.iload_n 2, 1) := by decide +kernel
theorem dX9_sees_26 : decode cX9_sees 26 = .ok (.invokevirtual 241, 3) := by decide +kernel
theorem dX9_sees_29 : decode cX9_sees 29 = .ok (.ifCond .eq 13, 3) := by decide +kernel
theorem dX9_sees_32 : decode cX9_sees 32 = .ok (.aload_n 0, 1) := by decide +kernel
theorem dX9_sees_33 : decode cX9_sees 33 = .ok (.getfield 63, 3) := by decide +kernel
theorem dX9_sees_36 : decode cX9_sees 36 = .ok (.getfield 112, 3) := by decide +kernel
theorem dX9_sees_39 : decode cX9_sees 39 = .ok (.goto 5, 3) := by decide +kernel
theorem dX9_sees_42 : decode cX9_sees 42 = .ok (.bipush (-3), 2) := by decide +kernel
theorem dX9_sees_44 : decode cX9_sees 44 = .ok (.ireturn, 1) := by decide +kernel
theorem dX9_forget_0 : decode cX9_forget 0 = .ok (.aload_n 0, 1) := by decide +kernel
theorem dX9_forget_1 : decode cX9_forget 1 = .ok (.getfield 63, 3) := by decide +kernel
theorem dX9_forget_4 : decode cX9_forget 4 = .ok (.getfield 112, 3) := by decide +kernel
theorem dX9_forget_7 : decode cX9_forget 7 = .ok (.istore_n 1, 1) := by decide +kernel
theorem dX9_forget_8 : decode cX9_forget 8 = .ok (.aload_n 0, 1) := by decide +kernel
theorem dX9_forget_9 : decode cX9_forget 9 = .ok (.getfield 63, 3) := by decide +kernel
theorem dX9_forget_12 : decode cX9_forget 12 = .ok (.iconst 0, 1) := by decide +kernel
theorem dX9_forget_13 : decode cX9_forget 13 = .ok (.putfield 112, 3) := by decide +kernel
theorem dX9_forget_16 : decode cX9_forget 16 = .ok (.iload_n 1, 1) := by decide +kernel
theorem dX9_forget_17 : decode cX9_forget 17 = .ok (.ireturn, 1) := by decide +kernel
theorem dX9_unseen_0 : decode cX9_unseen 0 = .ok (.iload_n 1, 1) := by decide +kernel
theorem dX9_unseen_1 : decode cX9_unseen 1 = .ok (.ifCond .lt 8, 3) := by decide +kernel
theorem dX9_unseen_4 : decode cX9_unseen 4 = .ok (.iload_n 1, 1) := by decide +kernel
theorem dX9_unseen_5 : decode cX9_unseen 5 = .ok (.iconst 2, 1) := by decide +kernel
theorem dX9_unseen_6 : decode cX9_unseen 6 = .ok (.if_icmp .le 5, 3) := by decide +kernel
theorem dX9_unseen_9 : decode cX9_unseen 9 = .ok (.iconst (-1), 1) := by decide +kernel
theorem dX9_unseen_10 : decode cX9_unseen 10 = .ok (.ireturn, 1) := by decide +kernel
theorem dX9_unseen_11 : decode cX9_unseen 11 = .ok (.aload_n 0, 1) := by decide +kernel
theorem dX9_unseen_12 : decode cX9_unseen 12 = .ok (.invokevirtual 147, 3) := by decide +kernel
theorem dX9_unseen_15 : decode cX9_unseen 15 = .ok (.ifCond .eq 6, 3) := by decide +kernel
theorem dX9_unseen_18 : decode cX9_unseen 18 = .ok (.bipush (-2), 2) := by decide +kernel
theorem dX9_unseen_20 : decode cX9_unseen 20 = .ok (.ireturn, 1) := by decide +kernel
theorem dX9_unseen_21 : decode cX9_unseen 21 = .ok (.aload_n 0, 1) := by decide +kernel
theorem dX9_unseen_22 : decode cX9_unseen 22 = .ok (.invokevirtual 197, 3) := by decide +kernel
theorem dX9_unseen_25 : decode cX9_unseen 25 = .ok (.pop, 1) := by decide +kernel
theorem dX9_unseen_26 : decode cX9_unseen 26 = .ok (.iload_n 1, 1) := by decide +kernel
theorem dX9_unseen_27 : decode cX9_unseen 27 = .ok (.ifCond .ne 11, 3) := by decide +kernel
theorem dX9_unseen_30 : decode cX9_unseen 30 = .ok (.aload_n 0, 1) := by decide +kernel
theorem dX9_unseen_31 : decode cX9_unseen 31 = .ok (.getfield 63, 3) := by decide +kernel
theorem dX9_unseen_34 : decode cX9_unseen 34 = .ok (.invokevirtual 244, 3) := by decide +kernel
theorem dX9_unseen_37 : decode cX9_unseen 37 = .ok (.ireturn, 1) := by decide +kernel
theorem dX9_unseen_38 : decode cX9_unseen 38 = .ok (.iload_n 1, 1) := by decide +kernel
theorem dX9_unseen_39 : decode cX9_unseen 39 = .ok (.iconst 1, 1) := by decide +kernel
theorem dX9_unseen_40 : decode cX9_unseen 40 = .ok (.if_icmp .ne 13, 3) := by decide +kernel
theorem dX9_unseen_43 : decode cX9_unseen 43 = .ok (.aload_n 0, 1) := by decide +kernel
theorem dX9_unseen_44 : decode cX9_unseen 44 = .ok (.getfield 63, 3) := by decide +kernel
theorem dX9_unseen_47 : decode cX9_unseen 47 = .ok (.invokevirtual 247, 3) := by decide +kernel
theorem dX9_unseen_50 : decode cX9_unseen 50 = .ok (.goto 10, 3) := by decide +kernel
theorem dX9_unseen_53 : decode cX9_unseen 53 = .ok (.aload_n 0, 1) := by decide +kernel
theorem dX9_unseen_54 : decode cX9_unseen 54 = .ok (.getfield 63, 3) := by decide +kernel
theorem dX9_unseen_57 : decode cX9_unseen 57 = .ok (.invokevirtual 250, 3) := by decide +kernel
theorem dX9_unseen_60 : decode cX9_unseen 60 = .ok (.ireturn, 1) := by decide +kernel
theorem dX9_keep_0 : decode cX9_keep 0 = .ok (.aload_n 0, 1) := by decide +kernel
theorem dX9_keep_1 : decode cX9_keep 1 = .ok (.getfield 77, 3) := by decide +kernel
theorem dX9_keep_4 : decode cX9_keep 4 = .ok (.iload_n 1, 1) := by decide +kernel
theorem dX9_keep_5 : decode cX9_keep 5 = .ok (.invokevirtual 253, 3) := by decide +kernel
theorem dX9_keep_8 : decode cX9_keep 8 = .ok (.ifCond .ne 5, 3) := by decide +kernel
theorem dX9_keep_11 : decode cX9_keep 11 = .ok (.iconst (-1), 1) := by decide +kernel
theorem dX9_keep_12 : decode cX9_keep 12 = .ok (.ireturn, 1) := by decide +kernel
theorem dX9_keep_13 : decode cX9_keep 13 = .ok (.aload_n 0, 1) := by decide +kernel
theorem dX9_keep_14 : decode cX9_keep 14 = .ok (.getfield 77, 3) := by decide +kernel
theorem dX9_keep_17 : decode cX9_keep 17 = .ok (.iload_n 1, 1) := by decide +kernel
theorem dX9_keep_18 : decode cX9_keep 18 = .ok (.aload_n 0, 1) := by decide +kernel
theorem dX9_keep_19 : decode cX9_keep 19 = .ok (.getfield 40, 3) := by decide +kernel
theorem dX9_keep_22 : decode cX9_keep 22 = .ok (.getfield 128, 3) := by decide +kernel
theorem dX9_keep_25 : decode cX9_keep 25 = .ok (.invokevirtual 256, 3) := by decide +kernel
theorem dX9_keep_28 : decode cX9_keep 28 = .ok (.aload_n 0, 1) := by decide +kernel
theorem dX9_keep_29 : decode cX9_keep 29 = .ok (.getfield 40, 3) := by decide +kernel
theorem dX9_keep_32 : decode cX9_keep 32 = .ok (.invokevirtual 260, 3) := by decide +kernel
theorem dX9_keep_35 : decode cX9_keep 35 = .ok (.ireturn, 1) := by decide +kernel
theorem dX9_back_0 : decode cX9_back 0 = .ok (.aload_n 0, 1) := by decide +kernel
theorem dX9_back_1 : decode cX9_back 1 = .ok (.getfield 77, 3) := by decide +kernel
theorem dX9_back_4 : decode cX9_back 4 = .ok (.iload_n 1, 1) := by decide +kernel
theorem dX9_back_5 : decode cX9_back 5 = .ok (.invokevirtual 253, 3) := by decide +kernel
theorem dX9_back_8 : decode cX9_back 8 = .ok (.ifCond .ne 5, 3) := by decide +kernel
theorem dX9_back_11 : decode cX9_back 11 = .ok (.iconst (-1), 1) := by decide +kernel
theorem dX9_back_12 : decode cX9_back 12 = .ok (.ireturn, 1) := by decide +kernel
theorem dX9_back_13 : decode cX9_back 13 = .ok (.aload_n 0, 1) := by decide +kernel
theorem dX9_back_14 : decode cX9_back 14 = .ok (.getfield 77, 3) := by decide +kernel
theorem dX9_back_17 : decode cX9_back 17 = .ok (.iload_n 1, 1) := by decide +kernel
theorem dX9_back_18 : decode cX9_back 18 = .ok (.invokevirtual 262, 3) := by decide +kernel
theorem dX9_back_21 : decode cX9_back 21 = .ok (.ifCond .ne 6, 3) := by decide +kernel
theorem dX9_back_24 : decode cX9_back 24 = .ok (.bipush (-2), 2) := by decide +kernel
theorem dX9_back_26 : decode cX9_back 26 = .ok (.ireturn, 1) := by decide +kernel
theorem dX9_back_27 : decode cX9_back 27 = .ok (.aload_n 0, 1) := by decide +kernel
theorem dX9_back_28 : decode cX9_back 28 = .ok (.getfield 40, 3) := by decide +kernel
theorem dX9_back_31 : decode cX9_back 31 = .ok (.aload_n 0, 1) := by decide +kernel
theorem dX9_back_32 : decode cX9_back 32 = .ok (.getfield 77, 3) := by decide +kernel
theorem dX9_back_35 : decode cX9_back 35 = .ok (.iload_n 1, 1) := by decide +kernel
theorem dX9_back_36 : decode cX9_back 36 = .ok (.invokevirtual 265, 3) := by decide +kernel
theorem dX9_back_39 : decode cX9_back 39 = .ok (.invokevirtual 165, 3) := by decide +kernel
theorem dX9_back_42 : decode cX9_back 42 = .ok (.aload_n 0, 1) := by decide +kernel
theorem dX9_back_43 : decode cX9_back 43 = .ok (.getfield 70, 3) := by decide +kernel
theorem dX9_back_46 : decode cX9_back 46 = .ok (.iconst 0, 1) := by decide +kernel
theorem dX9_back_47 : decode cX9_back 47 = .ok (.putfield 115, 3) := by decide +kernel
theorem dX9_back_50 : decode cX9_back 50 = .ok (.aload_n 0, 1) := by decide +kernel
theorem dX9_back_51 : decode cX9_back 51 = .ok (.getfield 40, 3) := by decide +kernel
theorem dX9_back_54 : decode cX9_back 54 = .ok (.invokevirtual 260, 3) := by decide +kernel
theorem dX9_back_57 : decode cX9_back 57 = .ok (.ireturn, 1) := by decide +kernel
theorem dX9_count_0 : decode cX9_count 0 = .ok (.iload_n 1, 1) := by decide +kernel
theorem dX9_count_1 : decode cX9_count 1 = .ok (.tableswitch 159 0 11 #[63, 71, 79, 87, 95, 103, 111, 119, 127, 135, 143, 151], 63) := by decide +kernel
theorem dX9_count_64 : decode cX9_count 64 = .ok (.aload_n 0, 1) := by decide +kernel
theorem dX9_count_65 : decode cX9_count 65 = .ok (.getfield 19, 3) := by decide +kernel
theorem dX9_count_68 : decode cX9_count 68 = .ok (.getfield 187, 3) := by decide +kernel
theorem dX9_count_71 : decode cX9_count 71 = .ok (.ireturn, 1) := by decide +kernel
theorem dX9_count_72 : decode cX9_count 72 = .ok (.aload_n 0, 1) := by decide +kernel
theorem dX9_count_73 : decode cX9_count 73 = .ok (.getfield 19, 3) := by decide +kernel
theorem dX9_count_76 : decode cX9_count 76 = .ok (.getfield 184, 3) := by decide +kernel
theorem dX9_count_79 : decode cX9_count 79 = .ok (.ireturn, 1) := by decide +kernel
theorem dX9_count_80 : decode cX9_count 80 = .ok (.aload_n 0, 1) := by decide +kernel
theorem dX9_count_81 : decode cX9_count 81 = .ok (.getfield 31, 3) := by decide +kernel
theorem dX9_count_84 : decode cX9_count 84 = .ok (.getfield 204, 3) := by decide +kernel
theorem dX9_count_87 : decode cX9_count 87 = .ok (.ireturn, 1) := by decide +kernel
theorem dX9_count_88 : decode cX9_count 88 = .ok (.aload_n 0, 1) := by decide +kernel
theorem dX9_count_89 : decode cX9_count 89 = .ok (.getfield 40, 3) := by decide +kernel
theorem dX9_count_92 : decode cX9_count 92 = .ok (.invokevirtual 260, 3) := by decide +kernel
theorem dX9_count_95 : decode cX9_count 95 = .ok (.ireturn, 1) := by decide +kernel
theorem dX9_count_96 : decode cX9_count 96 = .ok (.aload_n 0, 1) := by decide +kernel
theorem dX9_count_97 : decode cX9_count 97 = .ok (.getfield 19, 3) := by decide +kernel
theorem dX9_count_100 : decode cX9_count 100 = .ok (.getfield 269, 3) := by decide +kernel
theorem dX9_count_103 : decode cX9_count 103 = .ok (.ireturn, 1) := by decide +kernel
theorem dX9_count_104 : decode cX9_count 104 = .ok (.aload_n 0, 1) := by decide +kernel
theorem dX9_count_105 : decode cX9_count 105 = .ok (.getfield 19, 3) := by decide +kernel
theorem dX9_count_108 : decode cX9_count 108 = .ok (.getfield 272, 3) := by decide +kernel
theorem dX9_count_111 : decode cX9_count 111 = .ok (.ireturn, 1) := by decide +kernel
theorem dX9_count_112 : decode cX9_count 112 = .ok (.aload_n 0, 1) := by decide +kernel
theorem dX9_count_113 : decode cX9_count 113 = .ok (.getfield 19, 3) := by decide +kernel
theorem dX9_count_116 : decode cX9_count 116 = .ok (.getfield 275, 3) := by decide +kernel
theorem dX9_count_119 : decode cX9_count 119 = .ok (.ireturn, 1) := by decide +kernel
theorem dX9_count_120 : decode cX9_count 120 = .ok (.aload_n 0, 1) := by decide +kernel
theorem dX9_count_121 : decode cX9_count 121 = .ok (.getfield 19, 3) := by decide +kernel
theorem dX9_count_124 : decode cX9_count 124 = .ok (.getfield 278, 3) := by decide +kernel
theorem dX9_count_127 : decode cX9_count 127 = .ok (.ireturn, 1) := by decide +kernel
theorem dX9_count_128 : decode cX9_count 128 = .ok (.aload_n 0, 1) := by decide +kernel
theorem dX9_count_129 : decode cX9_count 129 = .ok (.getfield 19, 3) := by decide +kernel
theorem dX9_count_132 : decode cX9_count 132 = .ok (.getfield 281, 3) := by decide +kernel
theorem dX9_count_135 : decode cX9_count 135 = .ok (.ireturn, 1) := by decide +kernel
theorem dX9_count_136 : decode cX9_count 136 = .ok (.aload_n 0, 1) := by decide +kernel
theorem dX9_count_137 : decode cX9_count 137 = .ok (.getfield 63, 3) := by decide +kernel
theorem dX9_count_140 : decode cX9_count 140 = .ok (.getfield 112, 3) := by decide +kernel
theorem dX9_count_143 : decode cX9_count 143 = .ok (.ireturn, 1) := by decide +kernel
theorem dX9_count_144 : decode cX9_count 144 = .ok (.aload_n 0, 1) := by decide +kernel
theorem dX9_count_145 : decode cX9_count 145 = .ok (.getfield 12, 3) := by decide +kernel
theorem dX9_count_148 : decode cX9_count 148 = .ok (.getfield 85, 3) := by decide +kernel
theorem dX9_count_151 : decode cX9_count 151 = .ok (.ireturn, 1) := by decide +kernel
theorem dX9_count_152 : decode cX9_count 152 = .ok (.aload_n 0, 1) := by decide +kernel
theorem dX9_count_153 : decode cX9_count 153 = .ok (.getfield 70, 3) := by decide +kernel
theorem dX9_count_156 : decode cX9_count 156 = .ok (.getfield 115, 3) := by decide +kernel
theorem dX9_count_159 : decode cX9_count 159 = .ok (.ireturn, 1) := by decide +kernel
theorem dX9_count_160 : decode cX9_count 160 = .ok (.iconst (-1), 1) := by decide +kernel
theorem dX9_count_161 : decode cX9_count 161 = .ok (.ireturn, 1) := by decide +kernel
theorem dX9_has_0 : decode cX9_has 0 = .ok (.lload_n 0, 1) := by decide +kernel
theorem dX9_has_1 : decode cX9_has 1 = .ok (.iload_n 2, 1) := by decide +kernel
theorem dX9_has_2 : decode cX9_has 2 = .ok (.lushr, 1) := by decide +kernel
theorem dX9_has_3 : decode cX9_has 3 = .ok (.lconst 1, 1) := by decide +kernel
theorem dX9_has_4 : decode cX9_has 4 = .ok (.land, 1) := by decide +kernel
theorem dX9_has_5 : decode cX9_has 5 = .ok (.lconst 0, 1) := by decide +kernel
theorem dX9_has_6 : decode cX9_has 6 = .ok (.lcmp, 1) := by decide +kernel
theorem dX9_has_7 : decode cX9_has 7 = .ok (.ifCond .eq 7, 3) := by decide +kernel
theorem dX9_has_10 : decode cX9_has 10 = .ok (.iconst 1, 1) := by decide +kernel
theorem dX9_has_11 : decode cX9_has 11 = .ok (.goto 4, 3) := by decide +kernel
theorem dX9_has_14 : decode cX9_has 14 = .ok (.iconst 0, 1) := by decide +kernel
theorem dX9_has_15 : decode cX9_has 15 = .ok (.ireturn, 1) := by decide +kernel
theorem dX9_isSlope_0 : decode cX9_isSlope 0 = .ok (.iload_n 0, 1) := by decide +kernel
theorem dX9_isSlope_1 : decode cX9_isSlope 1 = .ok (.bipush (-9), 2) := by decide +kernel
theorem dX9_isSlope_3 : decode cX9_isSlope 3 = .ok (.if_icmp .lt 13, 3) := by decide +kernel
theorem dX9_isSlope_6 : decode cX9_isSlope 6 = .ok (.iload_n 0, 1) := by decide +kernel
theorem dX9_isSlope_7 : decode cX9_isSlope 7 = .ok (.bipush 9, 2) := by decide +kernel
theorem dX9_isSlope_9 : decode cX9_isSlope 9 = .ok (.if_icmp .gt 7, 3) := by decide +kernel
theorem dX9_isSlope_12 : decode cX9_isSlope 12 = .ok (.iconst 1, 1) := by decide +kernel
theorem dX9_isSlope_13 : decode cX9_isSlope 13 = .ok (.goto 4, 3) := by decide +kernel
theorem dX9_isSlope_16 : decode cX9_isSlope 16 = .ok (.iconst 0, 1) := by decide +kernel
theorem dX9_isSlope_17 : decode cX9_isSlope 17 = .ok (.ireturn, 1) := by decide +kernel
theorem dX9_isLine_0 : decode cX9_isLine 0 = .ok (.iload_n 1, 1) := by decide +kernel
theorem dX9_isLine_1 : decode cX9_isLine 1 = .ok (.bipush 8, 2) := by decide +kernel
theorem dX9_isLine_3 : decode cX9_isLine 3 = .ok (.if_icmp .ge 24, 3) := by decide +kernel
theorem dX9_isLine_6 : decode cX9_isLine 6 = .ok (.iload_n 1, 1) := by decide +kernel
theorem dX9_isLine_7 : decode cX9_isLine 7 = .ok (.ifCond .lt 18, 3) := by decide +kernel
theorem dX9_isLine_10 : decode cX9_isLine 10 = .ok (.iload_n 1, 1) := by decide +kernel
theorem dX9_isLine_11 : decode cX9_isLine 11 = .ok (.aload_n 0, 1) := by decide +kernel
theorem dX9_isLine_12 : decode cX9_isLine 12 = .ok (.getfield 19, 3) := by decide +kernel
theorem dX9_isLine_15 : decode cX9_isLine 15 = .ok (.getfield 184, 3) := by decide +kernel
theorem dX9_isLine_18 : decode cX9_isLine 18 = .ok (.if_icmp .ge 7, 3) := by decide +kernel
theorem dX9_isLine_21 : decode cX9_isLine 21 = .ok (.iconst 1, 1) := by decide +kernel
theorem dX9_isLine_22 : decode cX9_isLine 22 = .ok (.goto 4, 3) := by decide +kernel
theorem dX9_isLine_25 : decode cX9_isLine 25 = .ok (.iconst 0, 1) := by decide +kernel
theorem dX9_isLine_26 : decode cX9_isLine 26 = .ok (.ireturn, 1) := by decide +kernel
theorem dX9_isLine_27 : decode cX9_isLine 27 = .ok (.iload_n 1, 1) := by decide +kernel
theorem dX9_isLine_28 : decode cX9_isLine 28 = .ok (.bipush 8, 2) := by decide +kernel
theorem dX9_isLine_30 : decode cX9_isLine 30 = .ok (.isub, 1) := by decide +kernel
theorem dX9_isLine_31 : decode cX9_isLine 31 = .ok (.aload_n 0, 1) := by decide +kernel
theorem dX9_isLine_32 : decode cX9_isLine 32 = .ok (.getfield 19, 3) := by decide +kernel
theorem dX9_isLine_35 : decode cX9_isLine 35 = .ok (.getfield 187, 3) := by decide +kernel
theorem dX9_isLine_38 : decode cX9_isLine 38 = .ok (.if_icmp .ge 7, 3) := by decide +kernel
theorem dX9_isLine_41 : decode cX9_isLine 41 = .ok (.iconst 1, 1) := by decide +kernel
theorem dX9_isLine_42 : decode cX9_isLine 42 = .ok (.goto 4, 3) := by decide +kernel
theorem dX9_isLine_45 : decode cX9_isLine 45 = .ok (.iconst 0, 1) := by decide +kernel
theorem dX9_isLine_46 : decode cX9_isLine 46 = .ok (.ireturn, 1) := by decide +kernel
theorem dX9_noDots_0 : decode cX9_noDots 0 = .ok (.aload_n 0, 1) := by decide +kernel
theorem dX9_noDots_1 : decode cX9_noDots 1 = .ok (.getfield 40, 3) := by decide +kernel
theorem dX9_noDots_4 : decode cX9_noDots 4 = .ok (.getfield 128, 3) := by decide +kernel
theorem dX9_noDots_7 : decode cX9_noDots 7 = .ok (.lconst 0, 1) := by decide +kernel
theorem dX9_noDots_8 : decode cX9_noDots 8 = .ok (.lcmp, 1) := by decide +kernel
theorem dX9_noDots_9 : decode cX9_noDots 9 = .ok (.ifCond .ne 7, 3) := by decide +kernel
theorem dX9_noDots_12 : decode cX9_noDots 12 = .ok (.iconst 1, 1) := by decide +kernel
theorem dX9_noDots_13 : decode cX9_noDots 13 = .ok (.goto 4, 3) := by decide +kernel
theorem dX9_noDots_16 : decode cX9_noDots 16 = .ok (.iconst 0, 1) := by decide +kernel
theorem dX9_noDots_17 : decode cX9_noDots 17 = .ok (.ireturn, 1) := by decide +kernel
theorem dX9_numberWithRanks_0 : decode cX9_numberWithRanks 0 = .ok (.aload_n 0, 1) := by decide +kernel
theorem dX9_numberWithRanks_1 : decode cX9_numberWithRanks 1 = .ok (.getfield 19, 3) := by decide +kernel
theorem dX9_numberWithRanks_4 : decode cX9_numberWithRanks 4 = .ok (.iload_n 1, 1) := by decide +kernel
theorem dX9_numberWithRanks_5 : decode cX9_numberWithRanks 5 = .ok (.iload_n 2, 1) := by decide +kernel
theorem dX9_numberWithRanks_6 : decode cX9_numberWithRanks 6 = .ok (.invokevirtual 117, 3) := by decide +kernel
theorem dX9_numberWithRanks_9 : decode cX9_numberWithRanks 9 = .ok (.istore_n 3, 1) := by decide +kernel
theorem dX9_numberWithRanks_10 : decode cX9_numberWithRanks 10 = .ok (.iload_n 3, 1) := by decide +kernel
theorem dX9_numberWithRanks_11 : decode cX9_numberWithRanks 11 = .ok (.iconst (-1), 1) := by decide +kernel
theorem dX9_numberWithRanks_12 : decode cX9_numberWithRanks 12 = .ok (.if_icmp .ne 5, 3) := by decide +kernel
theorem dX9_numberWithRanks_15 : decode cX9_numberWithRanks 15 = .ok (.iconst (-1), 1) := by decide +kernel
theorem dX9_numberWithRanks_16 : decode cX9_numberWithRanks 16 = .ok (.ireturn, 1) := by decide +kernel
theorem dX9_numberWithRanks_17 : decode cX9_numberWithRanks 17 = .ok (.aload_n 0, 1) := by decide +kernel
theorem dX9_numberWithRanks_18 : decode cX9_numberWithRanks 18 = .ok (.invokevirtual 147, 3) := by decide +kernel
theorem dX9_numberWithRanks_21 : decode cX9_numberWithRanks 21 = .ok (.ifCond .eq 8, 3) := by decide +kernel
theorem dX9_numberWithRanks_24 : decode cX9_numberWithRanks 24 = .ok (.bipush (-2), 2) := by decide +kernel
theorem dX9_numberWithRanks_26 : decode cX9_numberWithRanks 26 = .ok (.goto 4, 3) := by decide +kernel
theorem dX9_numberWithRanks_29 : decode cX9_numberWithRanks 29 = .ok (.iload_n 3, 1) := by decide +kernel
theorem dX9_numberWithRanks_30 : decode cX9_numberWithRanks 30 = .ok (.ireturn, 1) := by decide +kernel
theorem dX9_emptyCells_0 : decode cX9_emptyCells 0 = .ok (.aload_n 0, 1) := by decide +kernel
theorem dX9_emptyCells_1 : decode cX9_emptyCells 1 = .ok (.getfield 31, 3) := by decide +kernel
theorem dX9_emptyCells_4 : decode cX9_emptyCells 4 = .ok (.getfield 284, 3) := by decide +kernel
theorem dX9_emptyCells_7 : decode cX9_emptyCells 7 = .ok (.aload_n 0, 1) := by decide +kernel
theorem dX9_emptyCells_8 : decode cX9_emptyCells 8 = .ok (.getfield 40, 3) := by decide +kernel
theorem dX9_emptyCells_11 : decode cX9_emptyCells 11 = .ok (.getfield 128, 3) := by decide +kernel
theorem dX9_emptyCells_14 : decode cX9_emptyCells 14 = .ok (.ldc2_w 287, 3) := by decide +kernel
theorem dX9_emptyCells_17 : decode cX9_emptyCells 17 = .ok (.lxor, 1) := by decide +kernel
theorem dX9_emptyCells_18 : decode cX9_emptyCells 18 = .ok (.land, 1) := by decide +kernel
theorem dX9_emptyCells_19 : decode cX9_emptyCells 19 = .ok (.lreturn, 1) := by decide +kernel
theorem dX9_ranksNow_0 : decode cX9_ranksNow 0 = .ok (.aload_n 0, 1) := by decide +kernel
theorem dX9_ranksNow_1 : decode cX9_ranksNow 1 = .ok (.getfield 47, 3) := by decide +kernel
theorem dX9_ranksNow_4 : decode cX9_ranksNow 4 = .ok (.aload_n 0, 1) := by decide +kernel
theorem dX9_ranksNow_5 : decode cX9_ranksNow 5 = .ok (.getfield 40, 3) := by decide +kernel
theorem dX9_ranksNow_8 : decode cX9_ranksNow 8 = .ok (.getfield 128, 3) := by decide +kernel
theorem dX9_ranksNow_11 : decode cX9_ranksNow 11 = .ok (.invokevirtual 289, 3) := by decide +kernel
theorem dX9_ranksNow_14 : decode cX9_ranksNow 14 = .ok (.aload_n 0, 1) := by decide +kernel
theorem dX9_ranksNow_15 : decode cX9_ranksNow 15 = .ok (.getfield 47, 3) := by decide +kernel
theorem dX9_ranksNow_18 : decode cX9_ranksNow 18 = .ok (.areturn, 1) := by decide +kernel
theorem dX9_pictureNow_0 : decode cX9_pictureNow 0 = .ok (.aload_n 0, 1) := by decide +kernel
theorem dX9_pictureNow_1 : decode cX9_pictureNow 1 = .ok (.getfield 47, 3) := by decide +kernel
theorem dX9_pictureNow_4 : decode cX9_pictureNow 4 = .ok (.aload_n 0, 1) := by decide +kernel
theorem dX9_pictureNow_5 : decode cX9_pictureNow 5 = .ok (.getfield 40, 3) := by decide +kernel
theorem dX9_pictureNow_8 : decode cX9_pictureNow 8 = .ok (.getfield 128, 3) := by decide +kernel
theorem dX9_pictureNow_11 : decode cX9_pictureNow 11 = .ok (.invokevirtual 289, 3) := by decide +kernel
theorem dX9_pictureNow_14 : decode cX9_pictureNow 14 = .ok (.aload_n 0, 1) := by decide +kernel
theorem dX9_pictureNow_15 : decode cX9_pictureNow 15 = .ok (.getfield 56, 3) := by decide +kernel
theorem dX9_pictureNow_18 : decode cX9_pictureNow 18 = .ok (.areturn, 1) := by decide +kernel
theorem dX9_restStep_0 : decode cX9_restStep 0 = .ok (.aload_n 0, 1) := by decide +kernel
theorem dX9_restStep_1 : decode cX9_restStep 1 = .ok (.getfield 40, 3) := by decide +kernel
theorem dX9_restStep_4 : decode cX9_restStep 4 = .ok (.aload_n 0, 1) := by decide +kernel
theorem dX9_restStep_5 : decode cX9_restStep 5 = .ok (.getfield 40, 3) := by decide +kernel
theorem dX9_restStep_8 : decode cX9_restStep 8 = .ok (.getfield 128, 3) := by decide +kernel
theorem dX9_restStep_11 : decode cX9_restStep 11 = .ok (.invokevirtual 171, 3) := by decide +kernel
theorem dX9_restStep_14 : decode cX9_restStep 14 = .ok (.istore_n 1, 1) := by decide +kernel
theorem dX9_restStep_15 : decode cX9_restStep 15 = .ok (.aload_n 0, 1) := by decide +kernel
theorem dX9_restStep_16 : decode cX9_restStep 16 = .ok (.getfield 40, 3) := by decide +kernel
theorem dX9_restStep_19 : decode cX9_restStep 19 = .ok (.iload_n 1, 1) := by decide +kernel
theorem dX9_restStep_20 : decode cX9_restStep 20 = .ok (.invokevirtual 143, 3) := by decide +kernel
theorem dX9_restStep_23 : decode cX9_restStep 23 = .ok (.aload_n 0, 1) := by decide +kernel
theorem dX9_restStep_24 : decode cX9_restStep 24 = .ok (.getfield 40, 3) := by decide +kernel
theorem dX9_restStep_27 : decode cX9_restStep 27 = .ok (.aload_n 0, 1) := by decide +kernel
theorem dX9_restStep_28 : decode cX9_restStep 28 = .ok (.invokevirtual 154, 3) := by decide +kernel
theorem dX9_restStep_31 : decode cX9_restStep 31 = .ok (.invokevirtual 175, 3) := by decide +kernel
theorem dX9_restStep_34 : decode cX9_restStep 34 = .ok (.istore_n 2, 1) := by decide +kernel
theorem dX9_restStep_35 : decode cX9_restStep 35 = .ok (.aload_n 0, 1) := by decide +kernel
theorem dX9_restStep_36 : decode cX9_restStep 36 = .ok (.getfield 40, 3) := by decide +kernel
theorem dX9_restStep_39 : decode cX9_restStep 39 = .ok (.iload_n 2, 1) := by decide +kernel
theorem dX9_restStep_40 : decode cX9_restStep 40 = .ok (.invokevirtual 143, 3) := by decide +kernel
theorem dX9_restStep_43 : decode cX9_restStep 43 = .ok (.iload_n 1, 1) := by decide +kernel
theorem dX9_restStep_44 : decode cX9_restStep 44 = .ok (.iload_n 2, 1) := by decide +kernel
theorem dX9_restStep_45 : decode cX9_restStep 45 = .ok (.if_icmp .eq 7, 3) := by decide +kernel
theorem dX9_restStep_48 : decode cX9_restStep 48 = .ok (.iconst 1, 1) := by decide +kernel
theorem dX9_restStep_49 : decode cX9_restStep 49 = .ok (.goto 4, 3) := by decide +kernel
theorem dX9_restStep_52 : decode cX9_restStep 52 = .ok (.iconst 0, 1) := by decide +kernel
theorem dX9_restStep_53 : decode cX9_restStep 53 = .ok (.ireturn, 1) := by decide +kernel
theorem dX9_gain_0 : decode cX9_gain 0 = .ok (.aload_n 0, 1) := by decide +kernel
theorem dX9_gain_1 : decode cX9_gain 1 = .ok (.getfield 40, 3) := by decide +kernel
theorem dX9_gain_4 : decode cX9_gain 4 = .ok (.iload_n 1, 1) := by decide +kernel
theorem dX9_gain_5 : decode cX9_gain 5 = .ok (.invokevirtual 167, 3) := by decide +kernel
theorem dX9_gain_8 : decode cX9_gain 8 = .ok (.aload_n 0, 1) := by decide +kernel
theorem dX9_gain_9 : decode cX9_gain 9 = .ok (.getfield 31, 3) := by decide +kernel
theorem dX9_gain_12 : decode cX9_gain 12 = .ok (.iload_n 1, 1) := by decide +kernel
theorem dX9_gain_13 : decode cX9_gain 13 = .ok (.iload_n 1, 1) := by decide +kernel
theorem dX9_gain_14 : decode cX9_gain 14 = .ok (.invokevirtual 137, 3) := by decide +kernel
theorem dX9_gain_17 : decode cX9_gain 17 = .ok (.isub, 1) := by decide +kernel
theorem dX9_gain_18 : decode cX9_gain 18 = .ok (.istore_n 3, 1) := by decide +kernel
theorem dX9_gain_19 : decode cX9_gain 19 = .ok (.aload_n 0, 1) := by decide +kernel
theorem dX9_gain_20 : decode cX9_gain 20 = .ok (.getfield 40, 3) := by decide +kernel
theorem dX9_gain_23 : decode cX9_gain 23 = .ok (.iload_n 2, 1) := by decide +kernel
theorem dX9_gain_24 : decode cX9_gain 24 = .ok (.invokevirtual 167, 3) := by decide +kernel
theorem dX9_gain_27 : decode cX9_gain 27 = .ok (.aload_n 0, 1) := by decide +kernel
theorem dX9_gain_28 : decode cX9_gain 28 = .ok (.getfield 31, 3) := by decide +kernel
theorem dX9_gain_31 : decode cX9_gain 31 = .ok (.iload_n 1, 1) := by decide +kernel
theorem dX9_gain_32 : decode cX9_gain 32 = .ok (.iload_n 2, 1) := by decide +kernel
theorem dX9_gain_33 : decode cX9_gain 33 = .ok (.invokevirtual 137, 3) := by decide +kernel
theorem dX9_gain_36 : decode cX9_gain 36 = .ok (.isub, 1) := by decide +kernel
theorem dX9_gain_37 : decode cX9_gain 37 = .ok (.istore 4, 2) := by decide +kernel
theorem dX9_gain_39 : decode cX9_gain 39 = .ok (.iload_n 3, 1) := by decide +kernel
theorem dX9_gain_40 : decode cX9_gain 40 = .ok (.iload 4, 2) := by decide +kernel
theorem dX9_gain_42 : decode cX9_gain 42 = .ok (.isub, 1) := by decide +kernel
theorem dX9_gain_43 : decode cX9_gain 43 = .ok (.ireturn, 1) := by decide +kernel
theorem dX9_bestMove_0 : decode cX9_bestMove 0 = .ok (.aload_n 0, 1) := by decide +kernel
theorem dX9_bestMove_1 : decode cX9_bestMove 1 = .ok (.invokevirtual 154, 3) := by decide +kernel
theorem dX9_bestMove_4 : decode cX9_bestMove 4 = .ok (.lstore_n 1, 1) := by decide +kernel
theorem dX9_bestMove_5 : decode cX9_bestMove 5 = .ok (.iconst (-1), 1) := by decide +kernel
theorem dX9_bestMove_6 : decode cX9_bestMove 6 = .ok (.istore_n 3, 1) := by decide +kernel
theorem dX9_bestMove_7 : decode cX9_bestMove 7 = .ok (.iconst 0, 1) := by decide +kernel
theorem dX9_bestMove_8 : decode cX9_bestMove 8 = .ok (.istore 4, 2) := by decide +kernel
theorem dX9_bestMove_10 : decode cX9_bestMove 10 = .ok (.iconst 0, 1) := by decide +kernel
theorem dX9_bestMove_11 : decode cX9_bestMove 11 = .ok (.istore 5, 2) := by decide +kernel
theorem dX9_bestMove_13 : decode cX9_bestMove 13 = .ok (.iload 5, 2) := by decide +kernel
theorem dX9_bestMove_15 : decode cX9_bestMove 15 = .ok (.aload_n 0, 1) := by decide +kernel
theorem dX9_bestMove_16 : decode cX9_bestMove 16 = .ok (.getfield 31, 3) := by decide +kernel
theorem dX9_bestMove_19 : decode cX9_bestMove 19 = .ok (.getfield 292, 3) := by decide +kernel
theorem dX9_bestMove_22 : decode cX9_bestMove 22 = .ok (.if_icmp .ge 95, 3) := by decide +kernel
theorem dX9_bestMove_25 : decode cX9_bestMove 25 = .ok (.aload_n 0, 1) := by decide +kernel
theorem dX9_bestMove_26 : decode cX9_bestMove 26 = .ok (.getfield 40, 3) := by decide +kernel
theorem dX9_bestMove_29 : decode cX9_bestMove 29 = .ok (.getfield 128, 3) := by decide +kernel
theorem dX9_bestMove_32 : decode cX9_bestMove 32 = .ok (.iload 5, 2) := by decide +kernel
theorem dX9_bestMove_34 : decode cX9_bestMove 34 = .ok (.invokestatic 124, 3) := by decide +kernel
theorem dX9_bestMove_37 : decode cX9_bestMove 37 = .ok (.ifCond .ne 6, 3) := by decide +kernel
theorem dX9_bestMove_40 : decode cX9_bestMove 40 = .ok (.goto 71, 3) := by decide +kernel
theorem dX9_bestMove_43 : decode cX9_bestMove 43 = .ok (.iconst 0, 1) := by decide +kernel
theorem dX9_bestMove_44 : decode cX9_bestMove 44 = .ok (.istore 6, 2) := by decide +kernel
theorem dX9_bestMove_46 : decode cX9_bestMove 46 = .ok (.iload 6, 2) := by decide +kernel
theorem dX9_bestMove_48 : decode cX9_bestMove 48 = .ok (.aload_n 0, 1) := by decide +kernel
theorem dX9_bestMove_49 : decode cX9_bestMove 49 = .ok (.getfield 31, 3) := by decide +kernel
theorem dX9_bestMove_52 : decode cX9_bestMove 52 = .ok (.getfield 292, 3) := by decide +kernel
theorem dX9_bestMove_55 : decode cX9_bestMove 55 = .ok (.if_icmp .ge 56, 3) := by decide +kernel
theorem dX9_bestMove_58 : decode cX9_bestMove 58 = .ok (.lload_n 1, 1) := by decide +kernel
theorem dX9_bestMove_59 : decode cX9_bestMove 59 = .ok (.iload 6, 2) := by decide +kernel
theorem dX9_bestMove_61 : decode cX9_bestMove 61 = .ok (.invokestatic 124, 3) := by decide +kernel
theorem dX9_bestMove_64 : decode cX9_bestMove 64 = .ok (.ifCond .ne 6, 3) := by decide +kernel
theorem dX9_bestMove_67 : decode cX9_bestMove 67 = .ok (.goto 38, 3) := by decide +kernel
theorem dX9_bestMove_70 : decode cX9_bestMove 70 = .ok (.aload_n 0, 1) := by decide +kernel
theorem dX9_bestMove_71 : decode cX9_bestMove 71 = .ok (.iload 5, 2) := by decide +kernel
theorem dX9_bestMove_73 : decode cX9_bestMove 73 = .ok (.iload 6, 2) := by decide +kernel
theorem dX9_bestMove_75 : decode cX9_bestMove 75 = .ok (.invokevirtual 181, 3) := by decide +kernel
theorem dX9_bestMove_78 : decode cX9_bestMove 78 = .ok (.istore 7, 2) := by decide +kernel
theorem dX9_bestMove_80 : decode cX9_bestMove 80 = .ok (.iload_n 3, 1) := by decide +kernel
theorem dX9_bestMove_81 : decode cX9_bestMove 81 = .ok (.iconst (-1), 1) := by decide +kernel
theorem dX9_bestMove_82 : decode cX9_bestMove 82 = .ok (.if_icmp .eq 10, 3) := by decide +kernel
theorem dX9_bestMove_85 : decode cX9_bestMove 85 = .ok (.iload 7, 2) := by decide +kernel
theorem dX9_bestMove_87 : decode cX9_bestMove 87 = .ok (.iload 4, 2) := by decide +kernel
theorem dX9_bestMove_89 : decode cX9_bestMove 89 = .ok (.if_icmp .le 16, 3) := by decide +kernel
theorem dX9_bestMove_92 : decode cX9_bestMove 92 = .ok (.iload 5, 2) := by decide +kernel
theorem dX9_bestMove_94 : decode cX9_bestMove 94 = .ok (.bipush 64, 2) := by decide +kernel
theorem dX9_bestMove_96 : decode cX9_bestMove 96 = .ok (.imul, 1) := by decide +kernel
theorem dX9_bestMove_97 : decode cX9_bestMove 97 = .ok (.iload 6, 2) := by decide +kernel
theorem dX9_bestMove_99 : decode cX9_bestMove 99 = .ok (.iadd, 1) := by decide +kernel
theorem dX9_bestMove_100 : decode cX9_bestMove 100 = .ok (.istore_n 3, 1) := by decide +kernel
theorem dX9_bestMove_101 : decode cX9_bestMove 101 = .ok (.iload 7, 2) := by decide +kernel
theorem dX9_bestMove_103 : decode cX9_bestMove 103 = .ok (.istore 4, 2) := by decide +kernel
theorem dX9_bestMove_105 : decode cX9_bestMove 105 = .ok (.iinc 6 1, 3) := by decide +kernel
theorem dX9_bestMove_108 : decode cX9_bestMove 108 = .ok (.goto (-62), 3) := by decide +kernel
theorem dX9_bestMove_111 : decode cX9_bestMove 111 = .ok (.iinc 5 1, 3) := by decide +kernel
theorem dX9_bestMove_114 : decode cX9_bestMove 114 = .ok (.goto (-101), 3) := by decide +kernel
theorem dX9_bestMove_117 : decode cX9_bestMove 117 = .ok (.iload_n 3, 1) := by decide +kernel
theorem dX9_bestMove_118 : decode cX9_bestMove 118 = .ok (.ireturn, 1) := by decide +kernel
end
section
theorem dX10_init_0 : decode cX10_init 0 = .ok (.aload_n 0, 1) := by decide +kernel
theorem dX10_init_1 : decode cX10_init 1 = .ok (.invokespecial 1, 3) := by decide +kernel
theorem dX10_init_4 : decode cX10_init 4 = .ok (.aload_n 0, 1) := by decide +kernel
theorem dX10_init_5 : decode cX10_init 5 = .ok (.bipush 7, 2) := by decide +kernel
theorem dX10_init_7 : decode cX10_init 7 = .ok (.newarray .int, 2) := by decide +kernel
theorem dX10_init_9 : decode cX10_init 9 = .ok (.putfield 7, 3) := by decide +kernel
theorem dX10_init_12 : decode cX10_init 12 = .ok (.aload_n 0, 1) := by decide +kernel
theorem dX10_init_13 : decode cX10_init 13 = .ok (.bipush 7, 2) := by decide +kernel
theorem dX10_init_15 : decode cX10_init 15 = .ok (.newarray .int, 2) := by decide +kernel
theorem dX10_init_17 : decode cX10_init 17 = .ok (.putfield 13, 3) := by decide +kernel
theorem dX10_init_20 : decode cX10_init 20 = .ok (.aload_n 0, 1) := by decide +kernel
theorem dX10_init_21 : decode cX10_init 21 = .ok (.bipush 10, 2) := by decide +kernel
theorem dX10_init_23 : decode cX10_init 23 = .ok (.newarray .long, 2) := by decide +kernel
theorem dX10_init_25 : decode cX10_init 25 = .ok (.putfield 16, 3) := by decide +kernel
theorem dX10_init_28 : decode cX10_init 28 = .ok (.aload_n 0, 1) := by decide +kernel
theorem dX10_init_29 : decode cX10_init 29 = .ok (.iconst 2, 1) := by decide +kernel
theorem dX10_init_30 : decode cX10_init 30 = .ok (.newarray .long, 2) := by decide +kernel
theorem dX10_init_32 : decode cX10_init 32 = .ok (.putfield 20, 3) := by decide +kernel
theorem dX10_init_35 : decode cX10_init 35 = .ok (.aload_n 0, 1) := by decide +kernel
theorem dX10_init_36 : decode cX10_init 36 = .ok (.iconst 2, 1) := by decide +kernel
theorem dX10_init_37 : decode cX10_init 37 = .ok (.newarray .boolean, 2) := by decide +kernel
theorem dX10_init_39 : decode cX10_init 39 = .ok (.putfield 23, 3) := by decide +kernel
theorem dX10_init_42 : decode cX10_init 42 = .ok (.aload_n 0, 1) := by decide +kernel
theorem dX10_init_43 : decode cX10_init 43 = .ok (.bipush 6, 2) := by decide +kernel
theorem dX10_init_45 : decode cX10_init 45 = .ok (.newarray .int, 2) := by decide +kernel
theorem dX10_init_47 : decode cX10_init 47 = .ok (.putfield 27, 3) := by decide +kernel
theorem dX10_init_50 : decode cX10_init 50 = .ok (.aload_n 0, 1) := by decide +kernel
theorem dX10_init_51 : decode cX10_init 51 = .ok (.bipush 6, 2) := by decide +kernel
theorem dX10_init_53 : decode cX10_init 53 = .ok (.newarray .int, 2) := by decide +kernel
theorem dX10_init_55 : decode cX10_init 55 = .ok (.putfield 30, 3) := by decide +kernel
theorem dX10_init_58 : decode cX10_init 58 = .ok (.aload_n 0, 1) := by decide +kernel
theorem dX10_init_59 : decode cX10_init 59 = .ok (.bipush 64, 2) := by decide +kernel
theorem dX10_init_61 : decode cX10_init 61 = .ok (.newarray .int, 2) := by decide +kernel
theorem dX10_init_63 : decode cX10_init 63 = .ok (.putfield 33, 3) := by decide +kernel
theorem dX10_init_66 : decode cX10_init 66 = .ok (.aload_n 0, 1) := by decide +kernel
theorem dX10_init_67 : decode cX10_init 67 = .ok (.bipush 64, 2) := by decide +kernel
theorem dX10_init_69 : decode cX10_init 69 = .ok (.newarray .int, 2) := by decide +kernel
theorem dX10_init_71 : decode cX10_init 71 = .ok (.putfield 36, 3) := by decide +kernel
theorem dX10_init_74 : decode cX10_init 74 = .ok (.aload_n 0, 1) := by decide +kernel
theorem dX10_init_75 : decode cX10_init 75 = .ok (.sipush 150, 3) := by decide +kernel
theorem dX10_init_78 : decode cX10_init 78 = .ok (.newarray .int, 2) := by decide +kernel
theorem dX10_init_80 : decode cX10_init 80 = .ok (.putfield 39, 3) := by decide +kernel
theorem dX10_init_83 : decode cX10_init 83 = .ok (.aload_n 0, 1) := by decide +kernel
theorem dX10_init_84 : decode cX10_init 84 = .ok (.invokevirtual 42, 3) := by decide +kernel
theorem dX10_init_87 : decode cX10_init 87 = .ok (.aload_n 0, 1) := by decide +kernel
theorem dX10_init_88 : decode cX10_init 88 = .ok (.invokevirtual 45, 3) := by decide +kernel
theorem dX10_init_91 : decode cX10_init 91 = .ok (.return_, 1) := by decide +kernel
theorem dX10_in_0 : decode cX10_in 0 = .ok (.iload_n 0, 1) := by decide +kernel
theorem dX10_in_1 : decode cX10_in 1 = .ok (.iload_n 1, 1) := by decide +kernel
theorem dX10_in_2 : decode cX10_in 2 = .ok (.if_icmp .lt 12, 3) := by decide +kernel
theorem dX10_in_5 : decode cX10_in 5 = .ok (.iload_n 0, 1) := by decide +kernel
theorem dX10_in_6 : decode cX10_in 6 = .ok (.iload_n 2, 1) := by decide +kernel
theorem dX10_in_7 : decode cX10_in 7 = .ok (.if_icmp .gt 7, 3) := by decide +kernel
theorem dX10_in_10 : decode cX10_in 10 = .ok (.iconst 1, 1) := by decide +kernel
theorem dX10_in_11 : decode cX10_in 11 = .ok (.goto 4, 3) := by decide +kernel
theorem dX10_in_14 : decode cX10_in 14 = .ok (.iconst 0, 1) := by decide +kernel
theorem dX10_in_15 : decode cX10_in 15 = .ok (.ireturn, 1) := by decide +kernel
theorem dX10_has_0 : decode cX10_has 0 = .ok (.lload_n 0, 1) := by decide +kernel
theorem dX10_has_1 : decode cX10_has 1 = .ok (.iload_n 2, 1) := by decide +kernel
theorem dX10_has_2 : decode cX10_has 2 = .ok (.lshr, 1) := by decide +kernel
theorem dX10_has_3 : decode cX10_has 3 = .ok (.lconst 1, 1) := by decide +kernel
theorem dX10_has_4 : decode cX10_has 4 = .ok (.land, 1) := by decide +kernel
theorem dX10_has_5 : decode cX10_has 5 = .ok (.lconst 1, 1) := by decide +kernel
theorem dX10_has_6 : decode cX10_has 6 = .ok (.lcmp, 1) := by decide +kernel
theorem dX10_has_7 : decode cX10_has 7 = .ok (.ifCond .ne 7, 3) := by decide +kernel
theorem dX10_has_10 : decode cX10_has 10 = .ok (.iconst 1, 1) := by decide +kernel
theorem dX10_has_11 : decode cX10_has 11 = .ok (.goto 4, 3) := by decide +kernel
theorem dX10_has_14 : decode cX10_has 14 = .ok (.iconst 0, 1) := by decide +kernel
theorem dX10_has_15 : decode cX10_has 15 = .ok (.ireturn, 1) := by decide +kernel
theorem dX10_ones_0 : decode cX10_ones 0 = .ok (.iconst 0, 1) := by decide +kernel
theorem dX10_ones_1 : decode cX10_ones 1 = .ok (.istore_n 2, 1) := by decide +kernel
theorem dX10_ones_2 : decode cX10_ones 2 = .ok (.iconst 0, 1) := by decide +kernel
theorem dX10_ones_3 : decode cX10_ones 3 = .ok (.istore_n 3, 1) := by decide +kernel
theorem dX10_ones_4 : decode cX10_ones 4 = .ok (.iload_n 3, 1) := by decide +kernel
theorem dX10_ones_5 : decode cX10_ones 5 = .ok (.bipush 64, 2) := by decide +kernel
theorem dX10_ones_7 : decode cX10_ones 7 = .ok (.if_icmp .ge 25, 3) := by decide +kernel
theorem dX10_ones_10 : decode cX10_ones 10 = .ok (.iload_n 2, 1) := by decide +kernel
theorem dX10_ones_11 : decode cX10_ones 11 = .ok (.lload_n 0, 1) := by decide +kernel
theorem dX10_ones_12 : decode cX10_ones 12 = .ok (.iload_n 3, 1) := by decide +kernel
theorem dX10_ones_13 : decode cX10_ones 13 = .ok (.invokestatic 52, 3) := by decide +kernel
theorem dX10_ones_16 : decode cX10_ones 16 = .ok (.ifCond .eq 7, 3) := by decide +kernel
theorem dX10_ones_19 : decode cX10_ones 19 = .ok (.iconst 1, 1) := by decide +kernel
theorem dX10_ones_20 : decode cX10_ones 20 = .ok (.goto 4, 3) := by decide +kernel
theorem dX10_ones_23 : decode cX10_ones 23 = .ok (.iconst 0, 1) := by decide +kernel
theorem dX10_ones_24 : decode cX10_ones 24 = .ok (.iadd, 1) := by decide +kernel
theorem dX10_ones_25 : decode cX10_ones 25 = .ok (.istore_n 2, 1) := by decide +kernel
theorem dX10_ones_26 : decode cX10_ones 26 = .ok (.iinc 3 1, 3) := by decide +kernel
theorem dX10_ones_29 : decode cX10_ones 29 = .ok (.goto (-25), 3) := by decide +kernel
theorem dX10_ones_32 : decode cX10_ones 32 = .ok (.iload_n 2, 1) := by decide +kernel
theorem dX10_ones_33 : decode cX10_ones 33 = .ok (.ireturn, 1) := by decide +kernel
theorem dX10_type_0 : decode cX10_type 0 = .ok (.aload_n 0, 1) := by decide +kernel
theorem dX10_type_1 : decode cX10_type 1 = .ok (.iconst 0, 1) := by decide +kernel
theorem dX10_type_2 : decode cX10_type 2 = .ok (.putfield 48, 3) := by decide +kernel
theorem dX10_type_5 : decode cX10_type 5 = .ok (.iload_n 1, 1) := by decide +kernel
theorem dX10_type_6 : decode cX10_type 6 = .ok (.iconst 0, 1) := by decide +kernel
theorem dX10_type_7 : decode cX10_type 7 = .ok (.sipush 255, 3) := by decide +kernel
theorem dX10_type_10 : decode cX10_type 10 = .ok (.invokestatic 56, 3) := by decide +kernel
theorem dX10_type_13 : decode cX10_type 13 = .ok (.ifCond .ne 5, 3) := by decide +kernel
theorem dX10_type_16 : decode cX10_type 16 = .ok (.iconst (-1), 1) := by decide +kernel
theorem dX10_type_17 : decode cX10_type 17 = .ok (.ireturn, 1) := by decide +kernel
theorem dX10_type_18 : decode cX10_type 18 = .ok (.aload_n 0, 1) := by decide +kernel
theorem dX10_type_19 : decode cX10_type 19 = .ok (.getfield 60, 3) := by decide +kernel
theorem dX10_type_22 : decode cX10_type 22 = .ok (.sipush 150, 3) := by decide +kernel
theorem dX10_type_25 : decode cX10_type 25 = .ok (.if_icmp .ne 6, 3) := by decide +kernel
theorem dX10_type_28 : decode cX10_type 28 = .ok (.bipush (-3), 2) := by decide +kernel
theorem dX10_type_30 : decode cX10_type 30 = .ok (.ireturn, 1) := by decide +kernel
theorem dX10_type_31 : decode cX10_type 31 = .ok (.aload_n 0, 1) := by decide +kernel
theorem dX10_type_32 : decode cX10_type 32 = .ok (.getfield 39, 3) := by decide +kernel
theorem dX10_type_35 : decode cX10_type 35 = .ok (.aload_n 0, 1) := by decide +kernel
theorem dX10_type_36 : decode cX10_type 36 = .ok (.getfield 60, 3) := by decide +kernel
theorem dX10_type_39 : decode cX10_type 39 = .ok (.iload_n 1, 1) := by decide +kernel
theorem dX10_type_40 : decode cX10_type 40 = .ok (.iastore, 1) := by decide +kernel
theorem dX10_type_41 : decode cX10_type 41 = .ok (.aload_n 0, 1) := by decide +kernel
theorem dX10_type_42 : decode cX10_type 42 = .ok (.dup, 1) := by decide +kernel
theorem dX10_type_43 : decode cX10_type 43 = .ok (.getfield 60, 3) := by decide +kernel
theorem dX10_type_46 : decode cX10_type 46 = .ok (.iconst 1, 1) := by decide +kernel
theorem dX10_type_47 : decode cX10_type 47 = .ok (.iadd, 1) := by decide +kernel
theorem dX10_type_48 : decode cX10_type 48 = .ok (.putfield 60, 3) := by decide +kernel
theorem dX10_type_51 : decode cX10_type 51 = .ok (.aload_n 0, 1) := by decide +kernel
theorem dX10_type_52 : decode cX10_type 52 = .ok (.getfield 60, 3) := by decide +kernel
theorem dX10_type_55 : decode cX10_type 55 = .ok (.ireturn, 1) := by decide +kernel
theorem dX10_clear_0 : decode cX10_clear 0 = .ok (.aload_n 0, 1) := by decide +kernel
theorem dX10_clear_1 : decode cX10_clear 1 = .ok (.iconst 0, 1) := by decide +kernel
theorem dX10_clear_2 : decode cX10_clear 2 = .ok (.putfield 48, 3) := by decide +kernel
theorem dX10_clear_5 : decode cX10_clear 5 = .ok (.aload_n 0, 1) := by decide +kernel
theorem dX10_clear_6 : decode cX10_clear 6 = .ok (.getfield 60, 3) := by decide +kernel
theorem dX10_clear_9 : decode cX10_clear 9 = .ok (.istore_n 1, 1) := by decide +kernel
theorem dX10_clear_10 : decode cX10_clear 10 = .ok (.aload_n 0, 1) := by decide +kernel
theorem dX10_clear_11 : decode cX10_clear 11 = .ok (.iconst 0, 1) := by decide +kernel
theorem dX10_clear_12 : decode cX10_clear 12 = .ok (.putfield 60, 3) := by decide +kernel
theorem dX10_clear_15 : decode cX10_clear 15 = .ok (.iload_n 1, 1) := by decide +kernel
theorem dX10_clear_16 : decode cX10_clear 16 = .ok (.ireturn, 1) := by decide +kernel
theorem dX10_isFigure_0 : decode cX10_isFigure 0 = .ok (.iload_n 1, 1) := by decide +kernel
theorem dX10_isFigure_1 : decode cX10_isFigure 1 = .ok (.aload_n 0, 1) := by decide +kernel
theorem dX10_isFigure_2 : decode cX10_isFigure 2 = .ok (.getfield 60, 3) := by decide +kernel
theorem dX10_isFigure_5 : decode cX10_isFigure 5 = .ok (.if_icmp .ge 23, 3) := by decide +kernel
theorem dX10_isFigure_8 : decode cX10_isFigure 8 = .ok (.aload_n 0, 1) := by decide +kernel
theorem dX10_isFigure_9 : decode cX10_isFigure 9 = .ok (.getfield 39, 3) := by decide +kernel
theorem dX10_isFigure_12 : decode cX10_isFigure 12 = .ok (.iload_n 1, 1) := by decide +kernel
theorem dX10_isFigure_13 : decode cX10_isFigure 13 = .ok (.iaload, 1) := by decide +kernel
theorem dX10_isFigure_14 : decode cX10_isFigure 14 = .ok (.bipush 48, 2) := by decide +kernel
theorem dX10_isFigure_16 : decode cX10_isFigure 16 = .ok (.bipush 57, 2) := by decide +kernel
theorem dX10_isFigure_18 : decode cX10_isFigure 18 = .ok (.invokestatic 56, 3) := by decide +kernel
theorem dX10_isFigure_21 : decode cX10_isFigure 21 = .ok (.ifCond .eq 7, 3) := by decide +kernel
theorem dX10_isFigure_24 : decode cX10_isFigure 24 = .ok (.iconst 1, 1) := by decide +kernel
theorem dX10_isFigure_25 : decode cX10_isFigure 25 = .ok (.goto 4, 3) := by decide +kernel
theorem dX10_isFigure_28 : decode cX10_isFigure 28 = .ok (.iconst 0, 1) := by decide +kernel
theorem dX10_isFigure_29 : decode cX10_isFigure 29 = .ok (.ireturn, 1) := by decide +kernel
theorem dX10_takes_0 : decode cX10_takes 0 = .ok (.aload_n 0, 1) := by decide +kernel
theorem dX10_takes_1 : decode cX10_takes 1 = .ok (.getfield 63, 3) := by decide +kernel
theorem dX10_takes_4 : decode cX10_takes 4 = .ok (.aload_n 0, 1) := by decide +kernel
theorem dX10_takes_5 : decode cX10_takes 5 = .ok (.getfield 60, 3) := by decide +kernel
theorem dX10_takes_8 : decode cX10_takes 8 = .ok (.if_icmp .ge 30, 3) := by decide +kernel
theorem dX10_takes_11 : decode cX10_takes 11 = .ok (.aload_n 0, 1) := by decide +kernel
theorem dX10_takes_12 : decode cX10_takes 12 = .ok (.getfield 39, 3) := by decide +kernel
theorem dX10_takes_15 : decode cX10_takes 15 = .ok (.aload_n 0, 1) := by decide +kernel
theorem dX10_takes_16 : decode cX10_takes 16 = .ok (.getfield 63, 3) := by decide +kernel
theorem dX10_takes_19 : decode cX10_takes 19 = .ok (.iaload, 1) := by decide +kernel
theorem dX10_takes_20 : decode cX10_takes 20 = .ok (.bipush 32, 2) := by decide +kernel
theorem dX10_takes_22 : decode cX10_takes 22 = .ok (.if_icmp .ne 16, 3) := by decide +kernel
theorem dX10_takes_25 : decode cX10_takes 25 = .ok (.aload_n 0, 1) := by decide +kernel
theorem dX10_takes_26 : decode cX10_takes 26 = .ok (.dup, 1) := by decide +kernel
theorem dX10_takes_27 : decode cX10_takes 27 = .ok (.getfield 63, 3) := by decide +kernel
theorem dX10_takes_30 : decode cX10_takes 30 = .ok (.iconst 1, 1) := by decide +kernel
theorem dX10_takes_31 : decode cX10_takes 31 = .ok (.iadd, 1) := by decide +kernel
theorem dX10_takes_32 : decode cX10_takes 32 = .ok (.putfield 63, 3) := by decide +kernel
theorem dX10_takes_35 : decode cX10_takes 35 = .ok (.goto (-35), 3) := by decide +kernel
theorem dX10_takes_38 : decode cX10_takes 38 = .ok (.aload_n 0, 1) := by decide +kernel
theorem dX10_takes_39 : decode cX10_takes 39 = .ok (.aload_n 0, 1) := by decide +kernel
theorem dX10_takes_40 : decode cX10_takes 40 = .ok (.getfield 63, 3) := by decide +kernel
theorem dX10_takes_43 : decode cX10_takes 43 = .ok (.putfield 66, 3) := by decide +kernel
theorem dX10_takes_46 : decode cX10_takes 46 = .ok (.aload_n 0, 1) := by decide +kernel
theorem dX10_takes_47 : decode cX10_takes 47 = .ok (.aload_n 0, 1) := by decide +kernel
theorem dX10_takes_48 : decode cX10_takes 48 = .ok (.getfield 63, 3) := by decide +kernel
theorem dX10_takes_51 : decode cX10_takes 51 = .ok (.aload_n 0, 1) := by decide +kernel
theorem dX10_takes_52 : decode cX10_takes 52 = .ok (.getfield 60, 3) := by decide +kernel
theorem dX10_takes_55 : decode cX10_takes 55 = .ok (.if_icmp .ge 15, 3) := by decide +kernel
theorem dX10_takes_58 : decode cX10_takes 58 = .ok (.aload_n 0, 1) := by decide +kernel
theorem dX10_takes_59 : decode cX10_takes 59 = .ok (.getfield 39, 3) := by decide +kernel
theorem dX10_takes_62 : decode cX10_takes 62 = .ok (.aload_n 0, 1) := by decide +kernel
theorem dX10_takes_63 : decode cX10_takes 63 = .ok (.getfield 63, 3) := by decide +kernel
theorem dX10_takes_66 : decode cX10_takes 66 = .ok (.iaload, 1) := by decide +kernel
theorem dX10_takes_67 : decode cX10_takes 67 = .ok (.goto 4, 3) := by decide +kernel
theorem dX10_takes_70 : decode cX10_takes 70 = .ok (.iconst (-1), 1) := by decide +kernel
theorem dX10_takes_71 : decode cX10_takes 71 = .ok (.putfield 69, 3) := by decide +kernel
theorem dX10_takes_74 : decode cX10_takes 74 = .ok (.aload_n 0, 1) := by decide +kernel
theorem dX10_takes_75 : decode cX10_takes 75 = .ok (.aload_n 0, 1) := by decide +kernel
theorem dX10_takes_76 : decode cX10_takes 76 = .ok (.getfield 63, 3) := by decide +kernel
theorem dX10_takes_79 : decode cX10_takes 79 = .ok (.invokevirtual 72, 3) := by decide +kernel
theorem dX10_takes_82 : decode cX10_takes 82 = .ok (.ifCond .ne 29, 3) := by decide +kernel
theorem dX10_takes_85 : decode cX10_takes 85 = .ok (.aload_n 0, 1) := by decide +kernel
theorem dX10_takes_86 : decode cX10_takes 86 = .ok (.dup, 1) := by decide +kernel
theorem dX10_takes_87 : decode cX10_takes 87 = .ok (.getfield 63, 3) := by decide +kernel
theorem dX10_takes_90 : decode cX10_takes 90 = .ok (.aload_n 0, 1) := by decide +kernel
theorem dX10_takes_91 : decode cX10_takes 91 = .ok (.getfield 63, 3) := by decide +kernel
theorem dX10_takes_94 : decode cX10_takes 94 = .ok (.aload_n 0, 1) := by decide +kernel
theorem dX10_takes_95 : decode cX10_takes 95 = .ok (.getfield 60, 3) := by decide +kernel
theorem dX10_takes_98 : decode cX10_takes 98 = .ok (.if_icmp .ge 7, 3) := by decide +kernel
theorem dX10_takes_101 : decode cX10_takes 101 = .ok (.iconst 1, 1) := by decide +kernel
theorem dX10_takes_102 : decode cX10_takes 102 = .ok (.goto 4, 3) := by decide +kernel
theorem dX10_takes_105 : decode cX10_takes 105 = .ok (.iconst 0, 1) := by decide +kernel
theorem dX10_takes_106 : decode cX10_takes 106 = .ok (.iadd, 1) := by decide +kernel
theorem dX10_takes_107 : decode cX10_takes 107 = .ok (.putfield 63, 3) := by decide +kernel
theorem dX10_takes_110 : decode cX10_takes 110 = .ok (.return_, 1) := by decide +kernel
theorem dX10_takes_111 : decode cX10_takes 111 = .ok (.iconst 0, 1) := by decide +kernel
theorem dX10_takes_112 : decode cX10_takes 112 = .ok (.istore_n 1, 1) := by decide +kernel
theorem dX10_takes_113 : decode cX10_takes 113 = .ok (.aload_n 0, 1) := by decide +kernel
theorem dX10_takes_114 : decode cX10_takes 114 = .ok (.aload_n 0, 1) := by decide +kernel
theorem dX10_takes_115 : decode cX10_takes 115 = .ok (.getfield 63, 3) := by decide +kernel
theorem dX10_takes_118 : decode cX10_takes 118 = .ok (.invokevirtual 72, 3) := by decide +kernel
theorem dX10_takes_121 : decode cX10_takes 121 = .ok (.ifCond .eq 45, 3) := by decide +kernel
theorem dX10_takes_124 : decode cX10_takes 124 = .ok (.iload_n 1, 1) := by decide +kernel
theorem dX10_takes_125 : decode cX10_takes 125 = .ok (.sipush 999, 3) := by decide +kernel
theorem dX10_takes_128 : decode cX10_takes 128 = .ok (.if_icmp .le 7, 3) := by decide +kernel
theorem dX10_takes_131 : decode cX10_takes 131 = .ok (.iload_n 1, 1) := by decide +kernel
theorem dX10_takes_132 : decode cX10_takes 132 = .ok (.goto 20, 3) := by decide +kernel
theorem dX10_takes_135 : decode cX10_takes 135 = .ok (.bipush 10, 2) := by decide +kernel
theorem dX10_takes_137 : decode cX10_takes 137 = .ok (.iload_n 1, 1) := by decide +kernel
theorem dX10_takes_138 : decode cX10_takes 138 = .ok (.imul, 1) := by decide +kernel
theorem dX10_takes_139 : decode cX10_takes 139 = .ok (.aload_n 0, 1) := by decide +kernel
theorem dX10_takes_140 : decode cX10_takes 140 = .ok (.getfield 39, 3) := by decide +kernel
theorem dX10_takes_143 : decode cX10_takes 143 = .ok (.aload_n 0, 1) := by decide +kernel
theorem dX10_takes_144 : decode cX10_takes 144 = .ok (.getfield 63, 3) := by decide +kernel
theorem dX10_takes_147 : decode cX10_takes 147 = .ok (.iaload, 1) := by decide +kernel
theorem dX10_takes_148 : decode cX10_takes 148 = .ok (.iadd, 1) := by decide +kernel
theorem dX10_takes_149 : decode cX10_takes 149 = .ok (.bipush 48, 2) := by decide +kernel
theorem dX10_takes_151 : decode cX10_takes 151 = .ok (.isub, 1) := by decide +kernel
theorem dX10_takes_152 : decode cX10_takes 152 = .ok (.istore_n 1, 1) := by decide +kernel
theorem dX10_takes_153 : decode cX10_takes 153 = .ok (.aload_n 0, 1) := by decide +kernel
theorem dX10_takes_154 : decode cX10_takes 154 = .ok (.dup, 1) := by decide +kernel
theorem dX10_takes_155 : decode cX10_takes 155 = .ok (.getfield 63, 3) := by decide +kernel
theorem dX10_takes_158 : decode cX10_takes 158 = .ok (.iconst 1, 1) := by decide +kernel
theorem dX10_takes_159 : decode cX10_takes 159 = .ok (.iadd, 1) := by decide +kernel
theorem dX10_takes_160 : decode cX10_takes 160 = .ok (.putfield 63, 3) := by decide +kernel
theorem dX10_takes_163 : decode cX10_takes 163 = .ok (.goto (-50), 3) := by decide +kernel
theorem dX10_takes_166 : decode cX10_takes 166 = .ok (.aload_n 0, 1) := by decide +kernel
theorem dX10_takes_167 : decode cX10_takes 167 = .ok (.iload_n 1, 1) := by decide +kernel
theorem dX10_takes_168 : decode cX10_takes 168 = .ok (.sipush 999, 3) := by decide +kernel
theorem dX10_takes_171 : decode cX10_takes 171 = .ok (.if_icmp .gt 30, 3) := by decide +kernel
theorem dX10_takes_174 : decode cX10_takes 174 = .ok (.aload_n 0, 1) := by decide +kernel
theorem dX10_takes_175 : decode cX10_takes 175 = .ok (.getfield 39, 3) := by decide +kernel
theorem dX10_takes_178 : decode cX10_takes 178 = .ok (.aload_n 0, 1) := by decide +kernel
theorem dX10_takes_179 : decode cX10_takes 179 = .ok (.getfield 66, 3) := by decide +kernel
theorem dX10_takes_182 : decode cX10_takes 182 = .ok (.iaload, 1) := by decide +kernel
theorem dX10_takes_183 : decode cX10_takes 183 = .ok (.bipush 48, 2) := by decide +kernel
theorem dX10_takes_185 : decode cX10_takes 185 = .ok (.if_icmp .ne 22, 3) := by decide +kernel
theorem dX10_takes_188 : decode cX10_takes 188 = .ok (.aload_n 0, 1) := by decide +kernel
theorem dX10_takes_189 : decode cX10_takes 189 = .ok (.getfield 63, 3) := by decide +kernel
theorem dX10_takes_192 : decode cX10_takes 192 = .ok (.aload_n 0, 1) := by decide +kernel
theorem dX10_takes_193 : decode cX10_takes 193 = .ok (.getfield 66, 3) := by decide +kernel
theorem dX10_takes_196 : decode cX10_takes 196 = .ok (.iconst 1, 1) := by decide +kernel
theorem dX10_takes_197 : decode cX10_takes 197 = .ok (.iadd, 1) := by decide +kernel
theorem dX10_takes_198 : decode cX10_takes 198 = .ok (.if_icmp .le 9, 3) := by decide +kernel
theorem dX10_takes_201 : decode cX10_takes 201 = .ok (.sipush 3000, 3) := by decide +kernel
theorem dX10_takes_204 : decode cX10_takes 204 = .ok (.goto 8, 3) := by decide +kernel
theorem dX10_takes_207 : decode cX10_takes 207 = .ok (.sipush 1000, 3) := by decide +kernel
theorem dX10_takes_210 : decode cX10_takes 210 = .ok (.iload_n 1, 1) := by decide +kernel
theorem dX10_takes_211 : decode cX10_takes 211 = .ok (.iadd, 1) := by decide +kernel
theorem dX10_takes_212 : decode cX10_takes 212 = .ok (.putfield 69, 3) := by decide +kernel
theorem dX10_takes_215 : decode cX10_takes 215 = .ok (.return_, 1) := by decide +kernel
theorem dX10_number_0 : decode cX10_number 0 = .ok (.aload_n 0, 1) := by decide +kernel
theorem dX10_number_1 : decode cX10_number 1 = .ok (.getfield 69, 3) := by decide +kernel
theorem dX10_number_4 : decode cX10_number 4 = .ok (.sipush 1000, 3) := by decide +kernel
theorem dX10_number_7 : decode cX10_number 7 = .ok (.isub, 1) := by decide +kernel
theorem dX10_number_8 : decode cX10_number 8 = .ok (.ireturn, 1) := by decide +kernel
theorem dX10_reads_0 : decode cX10_reads 0 = .ok (.aload_n 0, 1) := by decide +kernel
theorem dX10_reads_1 : decode cX10_reads 1 = .ok (.invokevirtual 76, 3) := by decide +kernel
theorem dX10_reads_4 : decode cX10_reads 4 = .ok (.aload_n 0, 1) := by decide +kernel
theorem dX10_reads_5 : decode cX10_reads 5 = .ok (.getfield 69, 3) := by decide +kernel
theorem dX10_reads_8 : decode cX10_reads 8 = .ok (.sipush 1000, 3) := by decide +kernel
theorem dX10_reads_11 : decode cX10_reads 11 = .ok (.iload_n 1, 1) := by decide +kernel
theorem dX10_reads_12 : decode cX10_reads 12 = .ok (.iadd, 1) := by decide +kernel
theorem dX10_reads_13 : decode cX10_reads 13 = .ok (.sipush 1000, 3) := by decide +kernel
theorem dX10_reads_16 : decode cX10_reads 16 = .ok (.iload_n 2, 1) := by decide +kernel
theorem dX10_reads_17 : decode cX10_reads 17 = .ok (.iadd, 1) := by decide +kernel
theorem dX10_reads_18 : decode cX10_reads 18 = .ok (.invokestatic 56, 3) := by decide +kernel
theorem dX10_reads_21 : decode cX10_reads 21 = .ok (.ireturn, 1) := by decide +kernel
theorem dX10_readsTo_0 : decode cX10_readsTo 0 = .ok (.aload_n 0, 1) := by decide +kernel
theorem dX10_readsTo_1 : decode cX10_readsTo 1 = .ok (.iload_n 2, 1) := by decide +kernel
theorem dX10_readsTo_2 : decode cX10_readsTo 2 = .ok (.iload_n 3, 1) := by decide +kernel
theorem dX10_readsTo_3 : decode cX10_readsTo 3 = .ok (.invokevirtual 79, 3) := by decide +kernel
theorem dX10_readsTo_6 : decode cX10_readsTo 6 = .ok (.istore 4, 2) := by decide +kernel
theorem dX10_readsTo_8 : decode cX10_readsTo 8 = .ok (.aload_n 0, 1) := by decide +kernel
theorem dX10_readsTo_9 : decode cX10_readsTo 9 = .ok (.getfield 13, 3) := by decide +kernel
theorem dX10_readsTo_12 : decode cX10_readsTo 12 = .ok (.iload_n 1, 1) := by decide +kernel
theorem dX10_readsTo_13 : decode cX10_readsTo 13 = .ok (.iload 4, 2) := by decide +kernel
theorem dX10_readsTo_15 : decode cX10_readsTo 15 = .ok (.ifCond .eq 10, 3) := by decide +kernel
theorem dX10_readsTo_18 : decode cX10_readsTo 18 = .ok (.aload_n 0, 1) := by decide +kernel
theorem dX10_readsTo_19 : decode cX10_readsTo 19 = .ok (.invokevirtual 83, 3) := by decide +kernel
theorem dX10_readsTo_22 : decode cX10_readsTo 22 = .ok (.goto 9, 3) := by decide +kernel
theorem dX10_readsTo_25 : decode cX10_readsTo 25 = .ok (.aload_n 0, 1) := by decide +kernel
theorem dX10_readsTo_26 : decode cX10_readsTo 26 = .ok (.getfield 13, 3) := by decide +kernel
theorem dX10_readsTo_29 : decode cX10_readsTo 29 = .ok (.iload_n 1, 1) := by decide +kernel
theorem dX10_readsTo_30 : decode cX10_readsTo 30 = .ok (.iaload, 1) := by decide +kernel
theorem dX10_readsTo_31 : decode cX10_readsTo 31 = .ok (.iastore, 1) := by decide +kernel
theorem dX10_readsTo_32 : decode cX10_readsTo 32 = .ok (.iload 4, 2) := by decide +kernel
theorem dX10_readsTo_34 : decode cX10_readsTo 34 = .ok (.ireturn, 1) := by decide +kernel
theorem dX10_readsCell_0 : decode cX10_readsCell 0 = .ok (.aload_n 0, 1) := by decide +kernel
theorem dX10_readsCell_1 : decode cX10_readsCell 1 = .ok (.iconst 0, 1) := by decide +kernel
theorem dX10_readsCell_2 : decode cX10_readsCell 2 = .ok (.aload_n 0, 1) := by decide +kernel
theorem dX10_readsCell_3 : decode cX10_readsCell 3 = .ok (.getfield 13, 3) := by decide +kernel
theorem dX10_readsCell_6 : decode cX10_readsCell 6 = .ok (.iconst 0, 1) := by decide +kernel
theorem dX10_readsCell_7 : decode cX10_readsCell 7 = .ok (.iaload, 1) := by decide +kernel
theorem dX10_readsCell_8 : decode cX10_readsCell 8 = .ok (.iconst 1, 1) := by decide +kernel
theorem dX10_readsCell_9 : decode cX10_readsCell 9 = .ok (.isub, 1) := by decide +kernel
theorem dX10_readsCell_10 : decode cX10_readsCell 10 = .ok (.invokevirtual 79, 3) := by decide +kernel
theorem dX10_readsCell_13 : decode cX10_readsCell 13 = .ok (.ifCond .ne 5, 3) := by decide +kernel
theorem dX10_readsCell_16 : decode cX10_readsCell 16 = .ok (.iconst 0, 1) := by decide +kernel
theorem dX10_readsCell_17 : decode cX10_readsCell 17 = .ok (.ireturn, 1) := by decide +kernel
theorem dX10_readsCell_18 : decode cX10_readsCell 18 = .ok (.aload_n 0, 1) := by decide +kernel
theorem dX10_readsCell_19 : decode cX10_readsCell 19 = .ok (.invokevirtual 83, 3) := by decide +kernel
theorem dX10_readsCell_22 : decode cX10_readsCell 22 = .ok (.istore_n 2, 1) := by decide +kernel
theorem dX10_readsCell_23 : decode cX10_readsCell 23 = .ok (.aload_n 0, 1) := by decide +kernel
theorem dX10_readsCell_24 : decode cX10_readsCell 24 = .ok (.iconst 0, 1) := by decide +kernel
theorem dX10_readsCell_25 : decode cX10_readsCell 25 = .ok (.aload_n 0, 1) := by decide +kernel
theorem dX10_readsCell_26 : decode cX10_readsCell 26 = .ok (.getfield 13, 3) := by decide +kernel
theorem dX10_readsCell_29 : decode cX10_readsCell 29 = .ok (.iconst 1, 1) := by decide +kernel
theorem dX10_readsCell_30 : decode cX10_readsCell 30 = .ok (.iaload, 1) := by decide +kernel
theorem dX10_readsCell_31 : decode cX10_readsCell 31 = .ok (.iconst 1, 1) := by decide +kernel
theorem dX10_readsCell_32 : decode cX10_readsCell 32 = .ok (.isub, 1) := by decide +kernel
theorem dX10_readsCell_33 : decode cX10_readsCell 33 = .ok (.invokevirtual 79, 3) := by decide +kernel
theorem dX10_readsCell_36 : decode cX10_readsCell 36 = .ok (.ifCond .ne 5, 3) := by decide +kernel
theorem dX10_readsCell_39 : decode cX10_readsCell 39 = .ok (.iconst 0, 1) := by decide +kernel
theorem dX10_readsCell_40 : decode cX10_readsCell 40 = .ok (.ireturn, 1) := by decide +kernel
theorem dX10_readsCell_41 : decode cX10_readsCell 41 = .ok (.aload_n 0, 1) := by decide +kernel
theorem dX10_readsCell_42 : decode cX10_readsCell 42 = .ok (.invokevirtual 83, 3) := by decide +kernel
theorem dX10_readsCell_45 : decode cX10_readsCell 45 = .ok (.aload_n 0, 1) := by decide +kernel
theorem dX10_readsCell_46 : decode cX10_readsCell 46 = .ok (.getfield 13, 3) := by decide +kernel
theorem dX10_readsCell_49 : decode cX10_readsCell 49 = .ok (.iconst 0, 1) := by decide +kernel
theorem dX10_readsCell_50 : decode cX10_readsCell 50 = .ok (.iaload, 1) := by decide +kernel
theorem dX10_readsCell_51 : decode cX10_readsCell 51 = .ok (.imul, 1) := by decide +kernel
theorem dX10_readsCell_52 : decode cX10_readsCell 52 = .ok (.iload_n 2, 1) := by decide +kernel
theorem dX10_readsCell_53 : decode cX10_readsCell 53 = .ok (.iadd, 1) := by decide +kernel
theorem dX10_readsCell_54 : decode cX10_readsCell 54 = .ok (.istore_n 3, 1) := by decide +kernel
theorem dX10_readsCell_55 : decode cX10_readsCell 55 = .ok (.aload_n 0, 1) := by decide +kernel
theorem dX10_readsCell_56 : decode cX10_readsCell 56 = .ok (.getfield 87, 3) := by decide +kernel
theorem dX10_readsCell_59 : decode cX10_readsCell 59 = .ok (.aload_n 0, 1) := by decide +kernel
theorem dX10_readsCell_60 : decode cX10_readsCell 60 = .ok (.getfield 91, 3) := by decide +kernel
theorem dX10_readsCell_63 : decode cX10_readsCell 63 = .ok (.lor, 1) := by decide +kernel
theorem dX10_readsCell_64 : decode cX10_readsCell 64 = .ok (.iload_n 3, 1) := by decide +kernel
theorem dX10_readsCell_65 : decode cX10_readsCell 65 = .ok (.invokestatic 52, 3) := by decide +kernel
theorem dX10_readsCell_68 : decode cX10_readsCell 68 = .ok (.ifCond .eq 5, 3) := by decide +kernel
theorem dX10_readsCell_71 : decode cX10_readsCell 71 = .ok (.iconst 0, 1) := by decide +kernel
theorem dX10_readsCell_72 : decode cX10_readsCell 72 = .ok (.ireturn, 1) := by decide +kernel
theorem dX10_readsCell_73 : decode cX10_readsCell 73 = .ok (.aload_n 0, 1) := by decide +kernel
theorem dX10_readsCell_74 : decode cX10_readsCell 74 = .ok (.dup, 1) := by decide +kernel
theorem dX10_readsCell_75 : decode cX10_readsCell 75 = .ok (.getfield 87, 3) := by decide +kernel
theorem dX10_readsCell_78 : decode cX10_readsCell 78 = .ok (.iload_n 1, 1) := by decide +kernel
theorem dX10_readsCell_79 : decode cX10_readsCell 79 = .ok (.ifCond .eq 9, 3) := by decide +kernel
theorem dX10_readsCell_82 : decode cX10_readsCell 82 = .ok (.lconst 1, 1) := by decide +kernel
theorem dX10_readsCell_83 : decode cX10_readsCell 83 = .ok (.iload_n 3, 1) := by decide +kernel
theorem dX10_readsCell_84 : decode cX10_readsCell 84 = .ok (.lshl, 1) := by decide +kernel
theorem dX10_readsCell_85 : decode cX10_readsCell 85 = .ok (.goto 4, 3) := by decide +kernel
theorem dX10_readsCell_88 : decode cX10_readsCell 88 = .ok (.lconst 0, 1) := by decide +kernel
theorem dX10_readsCell_89 : decode cX10_readsCell 89 = .ok (.lor, 1) := by decide +kernel
theorem dX10_readsCell_90 : decode cX10_readsCell 90 = .ok (.putfield 87, 3) := by decide +kernel
theorem dX10_readsCell_93 : decode cX10_readsCell 93 = .ok (.aload_n 0, 1) := by decide +kernel
theorem dX10_readsCell_94 : decode cX10_readsCell 94 = .ok (.dup, 1) := by decide +kernel
theorem dX10_readsCell_95 : decode cX10_readsCell 95 = .ok (.getfield 91, 3) := by decide +kernel
theorem dX10_readsCell_98 : decode cX10_readsCell 98 = .ok (.iload_n 1, 1) := by decide +kernel
theorem dX10_readsCell_99 : decode cX10_readsCell 99 = .ok (.ifCond .eq 7, 3) := by decide +kernel
theorem dX10_readsCell_102 : decode cX10_readsCell 102 = .ok (.lconst 0, 1) := by decide +kernel
theorem dX10_readsCell_103 : decode cX10_readsCell 103 = .ok (.goto 6, 3) := by decide +kernel
theorem dX10_readsCell_106 : decode cX10_readsCell 106 = .ok (.lconst 1, 1) := by decide +kernel
theorem dX10_readsCell_107 : decode cX10_readsCell 107 = .ok (.iload_n 3, 1) := by decide +kernel
theorem dX10_readsCell_108 : decode cX10_readsCell 108 = .ok (.lshl, 1) := by decide +kernel
theorem dX10_readsCell_109 : decode cX10_readsCell 109 = .ok (.lor, 1) := by decide +kernel
theorem dX10_readsCell_110 : decode cX10_readsCell 110 = .ok (.putfield 91, 3) := by decide +kernel
theorem dX10_readsCell_113 : decode cX10_readsCell 113 = .ok (.iconst 1, 1) := by decide +kernel
theorem dX10_readsCell_114 : decode cX10_readsCell 114 = .ok (.ireturn, 1) := by decide +kernel
theorem dX10_item_0 : decode cX10_item 0 = .ok (.aload_n 0, 1) := by decide +kernel
theorem dX10_item_1 : decode cX10_item 1 = .ok (.getfield 69, 3) := by decide +kernel
theorem dX10_item_4 : decode cX10_item 4 = .ok (.lookupswitch 162 #[(97, 123), (100, 156), (103, 52), (107, 84), (115, 150)], 52) := by decide +kernel
theorem dX10_item_56 : decode cX10_item 56 = .ok (.iload_n 1, 1) := by decide +kernel
theorem dX10_item_57 : decode cX10_item 57 = .ok (.ifCond .ne 29, 3) := by decide +kernel
theorem dX10_item_60 : decode cX10_item 60 = .ok (.aload_n 0, 1) := by decide +kernel
theorem dX10_item_61 : decode cX10_item 61 = .ok (.iconst 0, 1) := by decide +kernel
theorem dX10_item_62 : decode cX10_item 62 = .ok (.iconst 1, 1) := by decide +kernel
theorem dX10_item_63 : decode cX10_item 63 = .ok (.bipush 8, 2) := by decide +kernel
theorem dX10_item_65 : decode cX10_item 65 = .ok (.invokevirtual 94, 3) := by decide +kernel
theorem dX10_item_68 : decode cX10_item 68 = .ok (.ifCond .eq 18, 3) := by decide +kernel
theorem dX10_item_71 : decode cX10_item 71 = .ok (.aload_n 0, 1) := by decide +kernel
theorem dX10_item_72 : decode cX10_item 72 = .ok (.iconst 1, 1) := by decide +kernel
theorem dX10_item_73 : decode cX10_item 73 = .ok (.iconst 1, 1) := by decide +kernel
theorem dX10_item_74 : decode cX10_item 74 = .ok (.bipush 8, 2) := by decide +kernel
theorem dX10_item_76 : decode cX10_item 76 = .ok (.invokevirtual 94, 3) := by decide +kernel
theorem dX10_item_79 : decode cX10_item 79 = .ok (.ifCond .eq 7, 3) := by decide +kernel
theorem dX10_item_82 : decode cX10_item 82 = .ok (.iconst 1, 1) := by decide +kernel
theorem dX10_item_83 : decode cX10_item 83 = .ok (.goto 4, 3) := by decide +kernel
theorem dX10_item_86 : decode cX10_item 86 = .ok (.iconst 0, 1) := by decide +kernel
theorem dX10_item_87 : decode cX10_item 87 = .ok (.ireturn, 1) := by decide +kernel
theorem dX10_item_88 : decode cX10_item 88 = .ok (.aload_n 0, 1) := by decide +kernel
theorem dX10_item_89 : decode cX10_item 89 = .ok (.iconst 2, 1) := by decide +kernel
theorem dX10_item_90 : decode cX10_item 90 = .ok (.iconst 0, 1) := by decide +kernel
theorem dX10_item_91 : decode cX10_item 91 = .ok (.iconst 2, 1) := by decide +kernel
theorem dX10_item_92 : decode cX10_item 92 = .ok (.invokevirtual 94, 3) := by decide +kernel
theorem dX10_item_95 : decode cX10_item 95 = .ok (.ifCond .eq 30, 3) := by decide +kernel
theorem dX10_item_98 : decode cX10_item 98 = .ok (.aload_n 0, 1) := by decide +kernel
theorem dX10_item_99 : decode cX10_item 99 = .ok (.iconst 3, 1) := by decide +kernel
theorem dX10_item_100 : decode cX10_item 100 = .ok (.iconst 1, 1) := by decide +kernel
theorem dX10_item_101 : decode cX10_item 101 = .ok (.sipush 999, 3) := by decide +kernel
theorem dX10_item_104 : decode cX10_item 104 = .ok (.invokevirtual 94, 3) := by decide +kernel
theorem dX10_item_107 : decode cX10_item 107 = .ok (.ifCond .eq 18, 3) := by decide +kernel
theorem dX10_item_110 : decode cX10_item 110 = .ok (.aload_n 0, 1) := by decide +kernel
theorem dX10_item_111 : decode cX10_item 111 = .ok (.iconst 4, 1) := by decide +kernel
theorem dX10_item_112 : decode cX10_item 112 = .ok (.iconst 1, 1) := by decide +kernel
theorem dX10_item_113 : decode cX10_item 113 = .ok (.bipush 99, 2) := by decide +kernel
theorem dX10_item_115 : decode cX10_item 115 = .ok (.invokevirtual 94, 3) := by decide +kernel
theorem dX10_item_118 : decode cX10_item 118 = .ok (.ifCond .eq 7, 3) := by decide +kernel
theorem dX10_item_121 : decode cX10_item 121 = .ok (.iconst 1, 1) := by decide +kernel
theorem dX10_item_122 : decode cX10_item 122 = .ok (.goto 4, 3) := by decide +kernel
theorem dX10_item_125 : decode cX10_item 125 = .ok (.iconst 0, 1) := by decide +kernel
theorem dX10_item_126 : decode cX10_item 126 = .ok (.ireturn, 1) := by decide +kernel
theorem dX10_item_127 : decode cX10_item 127 = .ok (.aload_n 0, 1) := by decide +kernel
theorem dX10_item_128 : decode cX10_item 128 = .ok (.iconst 5, 1) := by decide +kernel
theorem dX10_item_129 : decode cX10_item 129 = .ok (.iconst 1, 1) := by decide +kernel
theorem dX10_item_130 : decode cX10_item 130 = .ok (.iconst 4, 1) := by decide +kernel
theorem dX10_item_131 : decode cX10_item 131 = .ok (.invokevirtual 94, 3) := by decide +kernel
theorem dX10_item_134 : decode cX10_item 134 = .ok (.ifCond .eq 18, 3) := by decide +kernel
theorem dX10_item_137 : decode cX10_item 137 = .ok (.aload_n 0, 1) := by decide +kernel
theorem dX10_item_138 : decode cX10_item 138 = .ok (.bipush 6, 2) := by decide +kernel
theorem dX10_item_140 : decode cX10_item 140 = .ok (.iconst 1, 1) := by decide +kernel
theorem dX10_item_141 : decode cX10_item 141 = .ok (.iconst 4, 1) := by decide +kernel
theorem dX10_item_142 : decode cX10_item 142 = .ok (.invokevirtual 94, 3) := by decide +kernel
theorem dX10_item_145 : decode cX10_item 145 = .ok (.ifCond .eq 7, 3) := by decide +kernel
theorem dX10_item_148 : decode cX10_item 148 = .ok (.iconst 1, 1) := by decide +kernel
theorem dX10_item_149 : decode cX10_item 149 = .ok (.goto 4, 3) := by decide +kernel
theorem dX10_item_152 : decode cX10_item 152 = .ok (.iconst 0, 1) := by decide +kernel
theorem dX10_item_153 : decode cX10_item 153 = .ok (.ireturn, 1) := by decide +kernel
theorem dX10_item_154 : decode cX10_item 154 = .ok (.aload_n 0, 1) := by decide +kernel
theorem dX10_item_155 : decode cX10_item 155 = .ok (.iconst 1, 1) := by decide +kernel
theorem dX10_item_156 : decode cX10_item 156 = .ok (.invokevirtual 97, 3) := by decide +kernel
theorem dX10_item_159 : decode cX10_item 159 = .ok (.ireturn, 1) := by decide +kernel
theorem dX10_item_160 : decode cX10_item 160 = .ok (.aload_n 0, 1) := by decide +kernel
theorem dX10_item_161 : decode cX10_item 161 = .ok (.iconst 0, 1) := by decide +kernel
theorem dX10_item_162 : decode cX10_item 162 = .ok (.invokevirtual 97, 3) := by decide +kernel
theorem dX10_item_165 : decode cX10_item 165 = .ok (.ireturn, 1) := by decide +kernel
theorem dX10_item_166 : decode cX10_item 166 = .ok (.iconst 0, 1) := by decide +kernel
theorem dX10_item_167 : decode cX10_item 167 = .ok (.ireturn, 1) := by decide +kernel
theorem dX10_begins_0 : decode cX10_begins 0 = .ok (.aload_n 0, 1) := by decide +kernel
theorem dX10_begins_1 : decode cX10_begins 1 = .ok (.getfield 13, 3) := by decide +kernel
theorem dX10_begins_4 : decode cX10_begins 4 = .ok (.iconst 0, 1) := by decide +kernel
theorem dX10_begins_5 : decode cX10_begins 5 = .ok (.iconst 4, 1) := by decide +kernel
theorem dX10_begins_6 : decode cX10_begins 6 = .ok (.iastore, 1) := by decide +kernel
theorem dX10_begins_7 : decode cX10_begins 7 = .ok (.aload_n 0, 1) := by decide +kernel
theorem dX10_begins_8 : decode cX10_begins 8 = .ok (.getfield 13, 3) := by decide +kernel
theorem dX10_begins_11 : decode cX10_begins 11 = .ok (.iconst 1, 1) := by decide +kernel
theorem dX10_begins_12 : decode cX10_begins 12 = .ok (.iconst 4, 1) := by decide +kernel
theorem dX10_begins_13 : decode cX10_begins 13 = .ok (.iastore, 1) := by decide +kernel
theorem dX10_begins_14 : decode cX10_begins 14 = .ok (.aload_n 0, 1) := by decide +kernel
theorem dX10_begins_15 : decode cX10_begins 15 = .ok (.getfield 13, 3) := by decide +kernel
theorem dX10_begins_18 : decode cX10_begins 18 = .ok (.iconst 2, 1) := by decide +kernel
theorem dX10_begins_19 : decode cX10_begins 19 = .ok (.iconst 0, 1) := by decide +kernel
theorem dX10_begins_20 : decode cX10_begins 20 = .ok (.iastore, 1) := by decide +kernel
theorem dX10_begins_21 : decode cX10_begins 21 = .ok (.aload_n 0, 1) := by decide +kernel
theorem dX10_begins_22 : decode cX10_begins 22 = .ok (.getfield 13, 3) := by decide +kernel
theorem dX10_begins_25 : decode cX10_begins 25 = .ok (.iconst 3, 1) := by decide +kernel
theorem dX10_begins_26 : decode cX10_begins 26 = .ok (.bipush 100, 2) := by decide +kernel
theorem dX10_begins_28 : decode cX10_begins 28 = .ok (.iastore, 1) := by decide +kernel
theorem dX10_begins_29 : decode cX10_begins 29 = .ok (.aload_n 0, 1) := by decide +kernel
theorem dX10_begins_30 : decode cX10_begins 30 = .ok (.getfield 13, 3) := by decide +kernel
theorem dX10_begins_33 : decode cX10_begins 33 = .ok (.iconst 4, 1) := by decide +kernel
theorem dX10_begins_34 : decode cX10_begins 34 = .ok (.iconst 1, 1) := by decide +kernel
theorem dX10_begins_35 : decode cX10_begins 35 = .ok (.iastore, 1) := by decide +kernel
theorem dX10_begins_36 : decode cX10_begins 36 = .ok (.aload_n 0, 1) := by decide +kernel
theorem dX10_begins_37 : decode cX10_begins 37 = .ok (.getfield 13, 3) := by decide +kernel
theorem dX10_begins_40 : decode cX10_begins 40 = .ok (.iconst 5, 1) := by decide +kernel
theorem dX10_begins_41 : decode cX10_begins 41 = .ok (.iconst 1, 1) := by decide +kernel
theorem dX10_begins_42 : decode cX10_begins 42 = .ok (.iastore, 1) := by decide +kernel
theorem dX10_begins_43 : decode cX10_begins 43 = .ok (.aload_n 0, 1) := by decide +kernel
theorem dX10_begins_44 : decode cX10_begins 44 = .ok (.getfield 13, 3) := by decide +kernel
theorem dX10_begins_47 : decode cX10_begins 47 = .ok (.bipush 6, 2) := by decide +kernel
theorem dX10_begins_49 : decode cX10_begins 49 = .ok (.iconst 1, 1) := by decide +kernel
theorem dX10_begins_50 : decode cX10_begins 50 = .ok (.iastore, 1) := by decide +kernel
theorem dX10_begins_51 : decode cX10_begins 51 = .ok (.aload_n 0, 1) := by decide +kernel
theorem dX10_begins_52 : decode cX10_begins 52 = .ok (.lconst 0, 1) := by decide +kernel
theorem dX10_begins_53 : decode cX10_begins 53 = .ok (.putfield 87, 3) := by decide +kernel
theorem dX10_begins_56 : decode cX10_begins 56 = .ok (.aload_n 0, 1) := by decide +kernel
theorem dX10_begins_57 : decode cX10_begins 57 = .ok (.lconst 0, 1) := by decide +kernel
theorem dX10_begins_58 : decode cX10_begins 58 = .ok (.putfield 91, 3) := by decide +kernel
theorem dX10_begins_61 : decode cX10_begins 61 = .ok (.return_, 1) := by decide +kernel
theorem dX10_becomes_0 : decode cX10_becomes 0 = .ok (.iconst 0, 1) := by decide +kernel
theorem dX10_becomes_1 : decode cX10_becomes 1 = .ok (.istore_n 1, 1) := by decide +kernel
theorem dX10_becomes_2 : decode cX10_becomes 2 = .ok (.iload_n 1, 1) := by decide +kernel
theorem dX10_becomes_3 : decode cX10_becomes 3 = .ok (.bipush 7, 2) := by decide +kernel
theorem dX10_becomes_5 : decode cX10_becomes 5 = .ok (.if_icmp .ge 21, 3) := by decide +kernel
theorem dX10_becomes_8 : decode cX10_becomes 8 = .ok (.aload_n 0, 1) := by decide +kernel
theorem dX10_becomes_9 : decode cX10_becomes 9 = .ok (.getfield 7, 3) := by decide +kernel
theorem dX10_becomes_12 : decode cX10_becomes 12 = .ok (.iload_n 1, 1) := by decide +kernel
theorem dX10_becomes_13 : decode cX10_becomes 13 = .ok (.aload_n 0, 1) := by decide +kernel
theorem dX10_becomes_14 : decode cX10_becomes 14 = .ok (.getfield 13, 3) := by decide +kernel
theorem dX10_becomes_17 : decode cX10_becomes 17 = .ok (.iload_n 1, 1) := by decide +kernel
theorem dX10_becomes_18 : decode cX10_becomes 18 = .ok (.iaload, 1) := by decide +kernel
theorem dX10_becomes_19 : decode cX10_becomes 19 = .ok (.iastore, 1) := by decide +kernel
theorem dX10_becomes_20 : decode cX10_becomes 20 = .ok (.iinc 1 1, 3) := by decide +kernel
theorem dX10_becomes_23 : decode cX10_becomes 23 = .ok (.goto (-21), 3) := by decide +kernel
theorem dX10_becomes_26 : decode cX10_becomes 26 = .ok (.aload_n 0, 1) := by decide +kernel
theorem dX10_becomes_27 : decode cX10_becomes 27 = .ok (.aload_n 0, 1) := by decide +kernel
theorem dX10_becomes_28 : decode cX10_becomes 28 = .ok (.getfield 87, 3) := by decide +kernel
theorem dX10_becomes_31 : decode cX10_becomes 31 = .ok (.putfield 101, 3) := by decide +kernel
theorem dX10_becomes_34 : decode cX10_becomes 34 = .ok (.aload_n 0, 1) := by decide +kernel
theorem dX10_becomes_35 : decode cX10_becomes 35 = .ok (.aload_n 0, 1) := by decide +kernel
theorem dX10_becomes_36 : decode cX10_becomes 36 = .ok (.getfield 91, 3) := by decide +kernel
theorem dX10_becomes_39 : decode cX10_becomes 39 = .ok (.putfield 104, 3) := by decide +kernel
theorem dX10_becomes_42 : decode cX10_becomes 42 = .ok (.aload_n 0, 1) := by decide +kernel
theorem dX10_becomes_43 : decode cX10_becomes 43 = .ok (.iconst 0, 1) := by decide +kernel
theorem dX10_becomes_44 : decode cX10_becomes 44 = .ok (.putfield 107, 3) := by decide +kernel
theorem dX10_becomes_47 : decode cX10_becomes 47 = .ok (.aload_n 0, 1) := by decide +kernel
theorem dX10_becomes_48 : decode cX10_becomes 48 = .ok (.getfield 23, 3) := by decide +kernel
theorem dX10_becomes_51 : decode cX10_becomes 51 = .ok (.iconst 0, 1) := by decide +kernel
theorem dX10_becomes_52 : decode cX10_becomes 52 = .ok (.iconst 0, 1) := by decide +kernel
theorem dX10_becomes_53 : decode cX10_becomes 53 = .ok (.bastore, 1) := by decide +kernel
theorem dX10_becomes_54 : decode cX10_becomes 54 = .ok (.aload_n 0, 1) := by decide +kernel
theorem dX10_becomes_55 : decode cX10_becomes 55 = .ok (.getfield 23, 3) := by decide +kernel
theorem dX10_becomes_58 : decode cX10_becomes 58 = .ok (.iconst 1, 1) := by decide +kernel
theorem dX10_becomes_59 : decode cX10_becomes 59 = .ok (.iconst 0, 1) := by decide +kernel
theorem dX10_becomes_60 : decode cX10_becomes 60 = .ok (.bastore, 1) := by decide +kernel
theorem dX10_becomes_61 : decode cX10_becomes 61 = .ok (.aload_n 0, 1) := by decide +kernel
theorem dX10_becomes_62 : decode cX10_becomes 62 = .ok (.iconst 0, 1) := by decide +kernel
theorem dX10_becomes_63 : decode cX10_becomes 63 = .ok (.putfield 110, 3) := by decide +kernel
theorem dX10_becomes_66 : decode cX10_becomes 66 = .ok (.aload_n 0, 1) := by decide +kernel
theorem dX10_becomes_67 : decode cX10_becomes 67 = .ok (.iconst 0, 1) := by decide +kernel
theorem dX10_becomes_68 : decode cX10_becomes 68 = .ok (.putfield 113, 3) := by decide +kernel
theorem dX10_becomes_71 : decode cX10_becomes 71 = .ok (.aload_n 0, 1) := by decide +kernel
theorem dX10_becomes_72 : decode cX10_becomes 72 = .ok (.iconst 0, 1) := by decide +kernel
theorem dX10_becomes_73 : decode cX10_becomes 73 = .ok (.putfield 116, 3) := by decide +kernel
theorem dX10_becomes_76 : decode cX10_becomes 76 = .ok (.aload_n 0, 1) := by decide +kernel
theorem dX10_becomes_77 : decode cX10_becomes 77 = .ok (.iconst 0, 1) := by decide +kernel
theorem dX10_becomes_78 : decode cX10_becomes 78 = .ok (.putfield 119, 3) := by decide +kernel
theorem dX10_becomes_81 : decode cX10_becomes 81 = .ok (.return_, 1) := by decide +kernel
theorem dX10_grid_0 : decode cX10_grid 0 = .ok (.aload_n 0, 1) := by decide +kernel
theorem dX10_grid_1 : decode cX10_grid 1 = .ok (.iconst 0, 1) := by decide +kernel
theorem dX10_grid_2 : decode cX10_grid 2 = .ok (.putfield 48, 3) := by decide +kernel
theorem dX10_grid_5 : decode cX10_grid 5 = .ok (.aload_n 0, 1) := by decide +kernel
theorem dX10_grid_6 : decode cX10_grid 6 = .ok (.invokevirtual 42, 3) := by decide +kernel
theorem dX10_grid_9 : decode cX10_grid 9 = .ok (.aload_n 0, 1) := by decide +kernel
theorem dX10_grid_10 : decode cX10_grid 10 = .ok (.iconst 0, 1) := by decide +kernel
theorem dX10_grid_11 : decode cX10_grid 11 = .ok (.putfield 63, 3) := by decide +kernel
theorem dX10_grid_14 : decode cX10_grid 14 = .ok (.iconst 0, 1) := by decide +kernel
theorem dX10_grid_15 : decode cX10_grid 15 = .ok (.istore_n 1, 1) := by decide +kernel
theorem dX10_grid_16 : decode cX10_grid 16 = .ok (.aload_n 0, 1) := by decide +kernel
theorem dX10_grid_17 : decode cX10_grid 17 = .ok (.invokevirtual 76, 3) := by decide +kernel
theorem dX10_grid_20 : decode cX10_grid 20 = .ok (.aload_n 0, 1) := by decide +kernel
theorem dX10_grid_21 : decode cX10_grid 21 = .ok (.getfield 69, 3) := by decide +kernel
theorem dX10_grid_24 : decode cX10_grid 24 = .ok (.iconst (-1), 1) := by decide +kernel
theorem dX10_grid_25 : decode cX10_grid 25 = .ok (.if_icmp .eq 48, 3) := by decide +kernel
theorem dX10_grid_28 : decode cX10_grid 28 = .ok (.aload_n 0, 1) := by decide +kernel
theorem dX10_grid_29 : decode cX10_grid 29 = .ok (.iload_n 1, 1) := by decide +kernel
theorem dX10_grid_30 : decode cX10_grid 30 = .ok (.invokevirtual 122, 3) := by decide +kernel
theorem dX10_grid_33 : decode cX10_grid 33 = .ok (.istore_n 2, 1) := by decide +kernel
theorem dX10_grid_34 : decode cX10_grid 34 = .ok (.iload_n 2, 1) := by decide +kernel
theorem dX10_grid_35 : decode cX10_grid 35 = .ok (.ifCond .eq 7, 3) := by decide +kernel
theorem dX10_grid_38 : decode cX10_grid 38 = .ok (.aload_n 0, 1) := by decide +kernel
theorem dX10_grid_39 : decode cX10_grid 39 = .ok (.invokevirtual 76, 3) := by decide +kernel
theorem dX10_grid_42 : decode cX10_grid 42 = .ok (.iload_n 2, 1) := by decide +kernel
theorem dX10_grid_43 : decode cX10_grid 43 = .ok (.ifCond .eq 12, 3) := by decide +kernel
theorem dX10_grid_46 : decode cX10_grid 46 = .ok (.aload_n 0, 1) := by decide +kernel
theorem dX10_grid_47 : decode cX10_grid 47 = .ok (.getfield 69, 3) := by decide +kernel
theorem dX10_grid_50 : decode cX10_grid 50 = .ok (.bipush 59, 2) := by decide +kernel
theorem dX10_grid_52 : decode cX10_grid 52 = .ok (.if_icmp .eq 11, 3) := by decide +kernel
theorem dX10_grid_55 : decode cX10_grid 55 = .ok (.bipush (-10), 2) := by decide +kernel
theorem dX10_grid_57 : decode cX10_grid 57 = .ok (.aload_n 0, 1) := by decide +kernel
theorem dX10_grid_58 : decode cX10_grid 58 = .ok (.getfield 66, 3) := by decide +kernel
theorem dX10_grid_61 : decode cX10_grid 61 = .ok (.isub, 1) := by decide +kernel
theorem dX10_grid_62 : decode cX10_grid 62 = .ok (.ireturn, 1) := by decide +kernel
theorem dX10_grid_63 : decode cX10_grid 63 = .ok (.iinc 1 1, 3) := by decide +kernel
theorem dX10_grid_66 : decode cX10_grid 66 = .ok (.aload_n 0, 1) := by decide +kernel
theorem dX10_grid_67 : decode cX10_grid 67 = .ok (.invokevirtual 76, 3) := by decide +kernel
theorem dX10_grid_70 : decode cX10_grid 70 = .ok (.goto (-50), 3) := by decide +kernel
theorem dX10_grid_73 : decode cX10_grid 73 = .ok (.aload_n 0, 1) := by decide +kernel
theorem dX10_grid_74 : decode cX10_grid 74 = .ok (.invokevirtual 45, 3) := by decide +kernel
theorem dX10_grid_77 : decode cX10_grid 77 = .ok (.aload_n 0, 1) := by decide +kernel
theorem dX10_grid_78 : decode cX10_grid 78 = .ok (.iconst 0, 1) := by decide +kernel
theorem dX10_grid_79 : decode cX10_grid 79 = .ok (.putfield 60, 3) := by decide +kernel
theorem dX10_grid_82 : decode cX10_grid 82 = .ok (.iload_n 1, 1) := by decide +kernel
theorem dX10_grid_83 : decode cX10_grid 83 = .ok (.ireturn, 1) := by decide +kernel
theorem dX10_cells_0 : decode cX10_cells 0 = .ok (.aload_n 0, 1) := by decide +kernel
theorem dX10_cells_1 : decode cX10_cells 1 = .ok (.getfield 7, 3) := by decide +kernel
theorem dX10_cells_4 : decode cX10_cells 4 = .ok (.iconst 0, 1) := by decide +kernel
theorem dX10_cells_5 : decode cX10_cells 5 = .ok (.iaload, 1) := by decide +kernel
theorem dX10_cells_6 : decode cX10_cells 6 = .ok (.aload_n 0, 1) := by decide +kernel
theorem dX10_cells_7 : decode cX10_cells 7 = .ok (.getfield 7, 3) := by decide +kernel
theorem dX10_cells_10 : decode cX10_cells 10 = .ok (.iconst 1, 1) := by decide +kernel
theorem dX10_cells_11 : decode cX10_cells 11 = .ok (.iaload, 1) := by decide +kernel
theorem dX10_cells_12 : decode cX10_cells 12 = .ok (.imul, 1) := by decide +kernel
theorem dX10_cells_13 : decode cX10_cells 13 = .ok (.ireturn, 1) := by decide +kernel
theorem dX10_isCell_0 : decode cX10_isCell 0 = .ok (.iload_n 1, 1) := by decide +kernel
theorem dX10_isCell_1 : decode cX10_isCell 1 = .ok (.iconst 0, 1) := by decide +kernel
theorem dX10_isCell_2 : decode cX10_isCell 2 = .ok (.aload_n 0, 1) := by decide +kernel
theorem dX10_isCell_3 : decode cX10_isCell 3 = .ok (.invokevirtual 125, 3) := by decide +kernel
theorem dX10_isCell_6 : decode cX10_isCell 6 = .ok (.iconst 1, 1) := by decide +kernel
theorem dX10_isCell_7 : decode cX10_isCell 7 = .ok (.isub, 1) := by decide +kernel
theorem dX10_isCell_8 : decode cX10_isCell 8 = .ok (.invokestatic 56, 3) := by decide +kernel
theorem dX10_isCell_11 : decode cX10_isCell 11 = .ok (.ireturn, 1) := by decide +kernel
theorem dX10_isPlace_0 : decode cX10_isPlace 0 = .ok (.iload_n 1, 1) := by decide +kernel
theorem dX10_isPlace_1 : decode cX10_isPlace 1 = .ok (.iconst 0, 1) := by decide +kernel
theorem dX10_isPlace_2 : decode cX10_isPlace 2 = .ok (.aload_n 0, 1) := by decide +kernel
theorem dX10_isPlace_3 : decode cX10_isPlace 3 = .ok (.getfield 7, 3) := by decide +kernel
theorem dX10_isPlace_6 : decode cX10_isPlace 6 = .ok (.iconst 0, 1) := by decide +kernel
theorem dX10_isPlace_7 : decode cX10_isPlace 7 = .ok (.iaload, 1) := by decide +kernel
theorem dX10_isPlace_8 : decode cX10_isPlace 8 = .ok (.iconst 1, 1) := by decide +kernel
theorem dX10_isPlace_9 : decode cX10_isPlace 9 = .ok (.isub, 1) := by decide +kernel
theorem dX10_isPlace_10 : decode cX10_isPlace 10 = .ok (.invokestatic 56, 3) := by decide +kernel
theorem dX10_isPlace_13 : decode cX10_isPlace 13 = .ok (.ifCond .eq 23, 3) := by decide +kernel
theorem dX10_isPlace_16 : decode cX10_isPlace 16 = .ok (.iload_n 2, 1) := by decide +kernel
theorem dX10_isPlace_17 : decode cX10_isPlace 17 = .ok (.iconst 0, 1) := by decide +kernel
theorem dX10_isPlace_18 : decode cX10_isPlace 18 = .ok (.aload_n 0, 1) := by decide +kernel
theorem dX10_isPlace_19 : decode cX10_isPlace 19 = .ok (.getfield 7, 3) := by decide +kernel
theorem dX10_isPlace_22 : decode cX10_isPlace 22 = .ok (.iconst 1, 1) := by decide +kernel
theorem dX10_isPlace_23 : decode cX10_isPlace 23 = .ok (.iaload, 1) := by decide +kernel
theorem dX10_isPlace_24 : decode cX10_isPlace 24 = .ok (.iconst 1, 1) := by decide +kernel
theorem dX10_isPlace_25 : decode cX10_isPlace 25 = .ok (.isub, 1) := by decide +kernel
theorem dX10_isPlace_26 : decode cX10_isPlace 26 = .ok (.invokestatic 56, 3) := by decide +kernel
theorem dX10_isPlace_29 : decode cX10_isPlace 29 = .ok (.ifCond .eq 7, 3) := by decide +kernel
theorem dX10_isPlace_32 : decode cX10_isPlace 32 = .ok (.iconst 1, 1) := by decide +kernel
theorem dX10_isPlace_33 : decode cX10_isPlace 33 = .ok (.goto 4, 3) := by decide +kernel
theorem dX10_isPlace_36 : decode cX10_isPlace 36 = .ok (.iconst 0, 1) := by decide +kernel
theorem dX10_isPlace_37 : decode cX10_isPlace 37 = .ok (.ireturn, 1) := by decide +kernel
theorem dX10_at_0 : decode cX10_at 0 = .ok (.aload_n 0, 1) := by decide +kernel
theorem dX10_at_1 : decode cX10_at 1 = .ok (.getfield 7, 3) := by decide +kernel
theorem dX10_at_4 : decode cX10_at 4 = .ok (.iconst 0, 1) := by decide +kernel
theorem dX10_at_5 : decode cX10_at 5 = .ok (.iaload, 1) := by decide +kernel
theorem dX10_at_6 : decode cX10_at 6 = .ok (.iload_n 2, 1) := by decide +kernel
theorem dX10_at_7 : decode cX10_at 7 = .ok (.imul, 1) := by decide +kernel
theorem dX10_at_8 : decode cX10_at 8 = .ok (.iload_n 1, 1) := by decide +kernel
theorem dX10_at_9 : decode cX10_at 9 = .ok (.iadd, 1) := by decide +kernel
theorem dX10_at_10 : decode cX10_at 10 = .ok (.ireturn, 1) := by decide +kernel
theorem dX10_isFree_0 : decode cX10_isFree 0 = .ok (.aload_n 0, 1) := by decide +kernel
theorem dX10_isFree_1 : decode cX10_isFree 1 = .ok (.getfield 101, 3) := by decide +kernel
theorem dX10_isFree_4 : decode cX10_isFree 4 = .ok (.iload_n 1, 1) := by decide +kernel
theorem dX10_isFree_5 : decode cX10_isFree 5 = .ok (.invokestatic 52, 3) := by decide +kernel
theorem dX10_isFree_8 : decode cX10_isFree 8 = .ok (.ifCond .ne 7, 3) := by decide +kernel
theorem dX10_isFree_11 : decode cX10_isFree 11 = .ok (.iconst 1, 1) := by decide +kernel
theorem dX10_isFree_12 : decode cX10_isFree 12 = .ok (.goto 4, 3) := by decide +kernel
theorem dX10_isFree_15 : decode cX10_isFree 15 = .ok (.iconst 0, 1) := by decide +kernel
theorem dX10_isFree_16 : decode cX10_isFree 16 = .ok (.ireturn, 1) := by decide +kernel
theorem dX10_free_0 : decode cX10_free 0 = .ok (.aload_n 0, 1) := by decide +kernel
theorem dX10_free_1 : decode cX10_free 1 = .ok (.invokevirtual 125, 3) := by decide +kernel
theorem dX10_free_4 : decode cX10_free 4 = .ok (.aload_n 0, 1) := by decide +kernel
theorem dX10_free_5 : decode cX10_free 5 = .ok (.getfield 101, 3) := by decide +kernel
theorem dX10_free_8 : decode cX10_free 8 = .ok (.invokestatic 128, 3) := by decide +kernel
theorem dX10_free_11 : decode cX10_free 11 = .ok (.isub, 1) := by decide +kernel
theorem dX10_free_12 : decode cX10_free 12 = .ok (.ireturn, 1) := by decide +kernel
theorem dX10_round_0 : decode cX10_round 0 = .ok (.iload_n 0, 1) := by decide +kernel
theorem dX10_round_1 : decode cX10_round 1 = .ok (.iload_n 1, 1) := by decide +kernel
theorem dX10_round_2 : decode cX10_round 2 = .ok (.if_icmp .le 9, 3) := by decide +kernel
theorem dX10_round_5 : decode cX10_round 5 = .ok (.iload_n 0, 1) := by decide +kernel
theorem dX10_round_6 : decode cX10_round 6 = .ok (.iload_n 1, 1) := by decide +kernel
theorem dX10_round_7 : decode cX10_round 7 = .ok (.isub, 1) := by decide +kernel
theorem dX10_round_8 : decode cX10_round 8 = .ok (.goto 6, 3) := by decide +kernel
theorem dX10_round_11 : decode cX10_round 11 = .ok (.iload_n 1, 1) := by decide +kernel
theorem dX10_round_12 : decode cX10_round 12 = .ok (.iload_n 0, 1) := by decide +kernel
theorem dX10_round_13 : decode cX10_round 13 = .ok (.isub, 1) := by decide +kernel
theorem dX10_round_14 : decode cX10_round 14 = .ok (.istore_n 3, 1) := by decide +kernel
theorem dX10_round_15 : decode cX10_round 15 = .ok (.iload_n 3, 1) := by decide +kernel
theorem dX10_round_16 : decode cX10_round 16 = .ok (.iload_n 2, 1) := by decide +kernel
theorem dX10_round_17 : decode cX10_round 17 = .ok (.iload_n 3, 1) := by decide +kernel
theorem dX10_round_18 : decode cX10_round 18 = .ok (.isub, 1) := by decide +kernel
theorem dX10_round_19 : decode cX10_round 19 = .ok (.if_icmp .ge 7, 3) := by decide +kernel
theorem dX10_round_22 : decode cX10_round 22 = .ok (.iload_n 3, 1) := by decide +kernel
theorem dX10_round_23 : decode cX10_round 23 = .ok (.goto 6, 3) := by decide +kernel
theorem dX10_round_26 : decode cX10_round 26 = .ok (.iload_n 2, 1) := by decide +kernel
theorem dX10_round_27 : decode cX10_round 27 = .ok (.iload_n 3, 1) := by decide +kernel
theorem dX10_round_28 : decode cX10_round 28 = .ok (.isub, 1) := by decide +kernel
theorem dX10_round_29 : decode cX10_round 29 = .ok (.ireturn, 1) := by decide +kernel
theorem dX10_distance_0 : decode cX10_distance 0 = .ok (.aload_n 0, 1) := by decide +kernel
theorem dX10_distance_1 : decode cX10_distance 1 = .ok (.getfield 7, 3) := by decide +kernel
theorem dX10_distance_4 : decode cX10_distance 4 = .ok (.iconst 0, 1) := by decide +kernel
theorem dX10_distance_5 : decode cX10_distance 5 = .ok (.iaload, 1) := by decide +kernel
theorem dX10_distance_6 : decode cX10_distance 6 = .ok (.istore_n 3, 1) := by decide +kernel
theorem dX10_distance_7 : decode cX10_distance 7 = .ok (.iload_n 1, 1) := by decide +kernel
theorem dX10_distance_8 : decode cX10_distance 8 = .ok (.iload_n 3, 1) := by decide +kernel
theorem dX10_distance_9 : decode cX10_distance 9 = .ok (.irem, 1) := by decide +kernel
theorem dX10_distance_10 : decode cX10_distance 10 = .ok (.iload_n 2, 1) := by decide +kernel
theorem dX10_distance_11 : decode cX10_distance 11 = .ok (.iload_n 3, 1) := by decide +kernel
theorem dX10_distance_12 : decode cX10_distance 12 = .ok (.irem, 1) := by decide +kernel
theorem dX10_distance_13 : decode cX10_distance 13 = .ok (.iload_n 3, 1) := by decide +kernel
theorem dX10_distance_14 : decode cX10_distance 14 = .ok (.invokestatic 132, 3) := by decide +kernel
theorem dX10_distance_17 : decode cX10_distance 17 = .ok (.istore 4, 2) := by decide +kernel
theorem dX10_distance_19 : decode cX10_distance 19 = .ok (.iload_n 1, 1) := by decide +kernel
theorem dX10_distance_20 : decode cX10_distance 20 = .ok (.iload_n 3, 1) := by decide +kernel
theorem dX10_distance_21 : decode cX10_distance 21 = .ok (.idiv, 1) := by decide +kernel
theorem dX10_distance_22 : decode cX10_distance 22 = .ok (.iload_n 2, 1) := by decide +kernel
theorem dX10_distance_23 : decode cX10_distance 23 = .ok (.iload_n 3, 1) := by decide +kernel
theorem dX10_distance_24 : decode cX10_distance 24 = .ok (.idiv, 1) := by decide +kernel
theorem dX10_distance_25 : decode cX10_distance 25 = .ok (.aload_n 0, 1) := by decide +kernel
theorem dX10_distance_26 : decode cX10_distance 26 = .ok (.getfield 7, 3) := by decide +kernel
theorem dX10_distance_29 : decode cX10_distance 29 = .ok (.iconst 1, 1) := by decide +kernel
theorem dX10_distance_30 : decode cX10_distance 30 = .ok (.iaload, 1) := by decide +kernel
theorem dX10_distance_31 : decode cX10_distance 31 = .ok (.invokestatic 132, 3) := by decide +kernel
theorem dX10_distance_34 : decode cX10_distance 34 = .ok (.istore 5, 2) := by decide +kernel
theorem dX10_distance_36 : decode cX10_distance 36 = .ok (.aload_n 0, 1) := by decide +kernel
theorem dX10_distance_37 : decode cX10_distance 37 = .ok (.getfield 7, 3) := by decide +kernel
theorem dX10_distance_40 : decode cX10_distance 40 = .ok (.iconst 5, 1) := by decide +kernel
theorem dX10_distance_41 : decode cX10_distance 41 = .ok (.iaload, 1) := by decide +kernel
theorem dX10_distance_42 : decode cX10_distance 42 = .ok (.iload 4, 2) := by decide +kernel
theorem dX10_distance_44 : decode cX10_distance 44 = .ok (.imul, 1) := by decide +kernel
theorem dX10_distance_45 : decode cX10_distance 45 = .ok (.iload 4, 2) := by decide +kernel
theorem dX10_distance_47 : decode cX10_distance 47 = .ok (.imul, 1) := by decide +kernel
theorem dX10_distance_48 : decode cX10_distance 48 = .ok (.aload_n 0, 1) := by decide +kernel
theorem dX10_distance_49 : decode cX10_distance 49 = .ok (.getfield 7, 3) := by decide +kernel
theorem dX10_distance_52 : decode cX10_distance 52 = .ok (.bipush 6, 2) := by decide +kernel
theorem dX10_distance_54 : decode cX10_distance 54 = .ok (.iaload, 1) := by decide +kernel
theorem dX10_distance_55 : decode cX10_distance 55 = .ok (.iload 5, 2) := by decide +kernel
theorem dX10_distance_57 : decode cX10_distance 57 = .ok (.imul, 1) := by decide +kernel
theorem dX10_distance_58 : decode cX10_distance 58 = .ok (.iload 5, 2) := by decide +kernel
theorem dX10_distance_60 : decode cX10_distance 60 = .ok (.imul, 1) := by decide +kernel
theorem dX10_distance_61 : decode cX10_distance 61 = .ok (.iadd, 1) := by decide +kernel
theorem dX10_distance_62 : decode cX10_distance 62 = .ok (.ireturn, 1) := by decide +kernel
theorem dX10_weight_0 : decode cX10_weight 0 = .ok (.aload_n 0, 1) := by decide +kernel
theorem dX10_weight_1 : decode cX10_weight 1 = .ok (.getfield 7, 3) := by decide +kernel
theorem dX10_weight_4 : decode cX10_weight 4 = .ok (.iconst 2, 1) := by decide +kernel
theorem dX10_weight_5 : decode cX10_weight 5 = .ok (.iaload, 1) := by decide +kernel
theorem dX10_weight_6 : decode cX10_weight 6 = .ok (.ifCond .ne 14, 3) := by decide +kernel
theorem dX10_weight_9 : decode cX10_weight 9 = .ok (.aload_n 0, 1) := by decide +kernel
theorem dX10_weight_10 : decode cX10_weight 10 = .ok (.getfield 7, 3) := by decide +kernel
theorem dX10_weight_13 : decode cX10_weight 13 = .ok (.iconst 3, 1) := by decide +kernel
theorem dX10_weight_14 : decode cX10_weight 14 = .ok (.iaload, 1) := by decide +kernel
theorem dX10_weight_15 : decode cX10_weight 15 = .ok (.iconst 1, 1) := by decide +kernel
theorem dX10_weight_16 : decode cX10_weight 16 = .ok (.iload_n 1, 1) := by decide +kernel
theorem dX10_weight_17 : decode cX10_weight 17 = .ok (.iadd, 1) := by decide +kernel
theorem dX10_weight_18 : decode cX10_weight 18 = .ok (.idiv, 1) := by decide +kernel
theorem dX10_weight_19 : decode cX10_weight 19 = .ok (.ireturn, 1) := by decide +kernel
theorem dX10_weight_20 : decode cX10_weight 20 = .ok (.aload_n 0, 1) := by decide +kernel
theorem dX10_weight_21 : decode cX10_weight 21 = .ok (.getfield 7, 3) := by decide +kernel
theorem dX10_weight_24 : decode cX10_weight 24 = .ok (.iconst 2, 1) := by decide +kernel
theorem dX10_weight_25 : decode cX10_weight 25 = .ok (.iaload, 1) := by decide +kernel
theorem dX10_weight_26 : decode cX10_weight 26 = .ok (.iconst 1, 1) := by decide +kernel
theorem dX10_weight_27 : decode cX10_weight 27 = .ok (.if_icmp .ne 29, 3) := by decide +kernel
theorem dX10_weight_30 : decode cX10_weight 30 = .ok (.aload_n 0, 1) := by decide +kernel
theorem dX10_weight_31 : decode cX10_weight 31 = .ok (.getfield 7, 3) := by decide +kernel
theorem dX10_weight_34 : decode cX10_weight 34 = .ok (.iconst 3, 1) := by decide +kernel
theorem dX10_weight_35 : decode cX10_weight 35 = .ok (.iaload, 1) := by decide +kernel
theorem dX10_weight_36 : decode cX10_weight 36 = .ok (.aload_n 0, 1) := by decide +kernel
theorem dX10_weight_37 : decode cX10_weight 37 = .ok (.getfield 7, 3) := by decide +kernel
theorem dX10_weight_40 : decode cX10_weight 40 = .ok (.iconst 4, 1) := by decide +kernel
theorem dX10_weight_41 : decode cX10_weight 41 = .ok (.iaload, 1) := by decide +kernel
theorem dX10_weight_42 : decode cX10_weight 42 = .ok (.iload_n 1, 1) := by decide +kernel
theorem dX10_weight_43 : decode cX10_weight 43 = .ok (.imul, 1) := by decide +kernel
theorem dX10_weight_44 : decode cX10_weight 44 = .ok (.isub, 1) := by decide +kernel
theorem dX10_weight_45 : decode cX10_weight 45 = .ok (.istore_n 2, 1) := by decide +kernel
theorem dX10_weight_46 : decode cX10_weight 46 = .ok (.iload_n 2, 1) := by decide +kernel
theorem dX10_weight_47 : decode cX10_weight 47 = .ok (.ifCond .le 7, 3) := by decide +kernel
theorem dX10_weight_50 : decode cX10_weight 50 = .ok (.iload_n 2, 1) := by decide +kernel
theorem dX10_weight_51 : decode cX10_weight 51 = .ok (.goto 4, 3) := by decide +kernel
theorem dX10_weight_54 : decode cX10_weight 54 = .ok (.iconst 0, 1) := by decide +kernel
theorem dX10_weight_55 : decode cX10_weight 55 = .ok (.ireturn, 1) := by decide +kernel
theorem dX10_weight_56 : decode cX10_weight 56 = .ok (.aload_n 0, 1) := by decide +kernel
theorem dX10_weight_57 : decode cX10_weight 57 = .ok (.getfield 7, 3) := by decide +kernel
theorem dX10_weight_60 : decode cX10_weight 60 = .ok (.iconst 3, 1) := by decide +kernel
theorem dX10_weight_61 : decode cX10_weight 61 = .ok (.iaload, 1) := by decide +kernel
theorem dX10_weight_62 : decode cX10_weight 62 = .ok (.istore_n 2, 1) := by decide +kernel
theorem dX10_weight_63 : decode cX10_weight 63 = .ok (.iconst 0, 1) := by decide +kernel
theorem dX10_weight_64 : decode cX10_weight 64 = .ok (.istore_n 3, 1) := by decide +kernel
theorem dX10_weight_65 : decode cX10_weight 65 = .ok (.iload_n 3, 1) := by decide +kernel
theorem dX10_weight_66 : decode cX10_weight 66 = .ok (.iload_n 1, 1) := by decide +kernel
theorem dX10_weight_67 : decode cX10_weight 67 = .ok (.if_icmp .ge 17, 3) := by decide +kernel
theorem dX10_weight_70 : decode cX10_weight 70 = .ok (.iload_n 2, 1) := by decide +kernel
theorem dX10_weight_71 : decode cX10_weight 71 = .ok (.ifCond .le 13, 3) := by decide +kernel
theorem dX10_weight_74 : decode cX10_weight 74 = .ok (.iload_n 2, 1) := by decide +kernel
theorem dX10_weight_75 : decode cX10_weight 75 = .ok (.iconst 2, 1) := by decide +kernel
theorem dX10_weight_76 : decode cX10_weight 76 = .ok (.idiv, 1) := by decide +kernel
theorem dX10_weight_77 : decode cX10_weight 77 = .ok (.istore_n 2, 1) := by decide +kernel
theorem dX10_weight_78 : decode cX10_weight 78 = .ok (.iinc 3 1, 3) := by decide +kernel
theorem dX10_weight_81 : decode cX10_weight 81 = .ok (.goto (-16), 3) := by decide +kernel
theorem dX10_weight_84 : decode cX10_weight 84 = .ok (.iload_n 2, 1) := by decide +kernel
theorem dX10_weight_85 : decode cX10_weight 85 = .ok (.ireturn, 1) := by decide +kernel
theorem dX10_heldBy_0 : decode cX10_heldBy 0 = .ok (.iconst 0, 1) := by decide +kernel
theorem dX10_heldBy_1 : decode cX10_heldBy 1 = .ok (.istore 4, 2) := by decide +kernel
theorem dX10_heldBy_3 : decode cX10_heldBy 3 = .ok (.iconst 0, 1) := by decide +kernel
theorem dX10_heldBy_4 : decode cX10_heldBy 4 = .ok (.istore 5, 2) := by decide +kernel
theorem dX10_heldBy_6 : decode cX10_heldBy 6 = .ok (.iload 5, 2) := by decide +kernel
theorem dX10_heldBy_8 : decode cX10_heldBy 8 = .ok (.aload_n 0, 1) := by decide +kernel
theorem dX10_heldBy_9 : decode cX10_heldBy 9 = .ok (.invokevirtual 125, 3) := by decide +kernel
theorem dX10_heldBy_12 : decode cX10_heldBy 12 = .ok (.if_icmp .ge 38, 3) := by decide +kernel
theorem dX10_heldBy_15 : decode cX10_heldBy 15 = .ok (.iload 4, 2) := by decide +kernel
theorem dX10_heldBy_17 : decode cX10_heldBy 17 = .ok (.lload_n 1, 1) := by decide +kernel
theorem dX10_heldBy_18 : decode cX10_heldBy 18 = .ok (.iload 5, 2) := by decide +kernel
theorem dX10_heldBy_20 : decode cX10_heldBy 20 = .ok (.invokestatic 52, 3) := by decide +kernel
theorem dX10_heldBy_23 : decode cX10_heldBy 23 = .ok (.ifCond .eq 17, 3) := by decide +kernel
theorem dX10_heldBy_26 : decode cX10_heldBy 26 = .ok (.aload_n 0, 1) := by decide +kernel
theorem dX10_heldBy_27 : decode cX10_heldBy 27 = .ok (.aload_n 0, 1) := by decide +kernel
theorem dX10_heldBy_28 : decode cX10_heldBy 28 = .ok (.iload 5, 2) := by decide +kernel
theorem dX10_heldBy_30 : decode cX10_heldBy 30 = .ok (.iload_n 3, 1) := by decide +kernel
theorem dX10_heldBy_31 : decode cX10_heldBy 31 = .ok (.invokevirtual 136, 3) := by decide +kernel
theorem dX10_heldBy_34 : decode cX10_heldBy 34 = .ok (.invokevirtual 140, 3) := by decide +kernel
theorem dX10_heldBy_37 : decode cX10_heldBy 37 = .ok (.goto 4, 3) := by decide +kernel
theorem dX10_heldBy_40 : decode cX10_heldBy 40 = .ok (.iconst 0, 1) := by decide +kernel
theorem dX10_heldBy_41 : decode cX10_heldBy 41 = .ok (.iadd, 1) := by decide +kernel
theorem dX10_heldBy_42 : decode cX10_heldBy 42 = .ok (.istore 4, 2) := by decide +kernel
theorem dX10_heldBy_44 : decode cX10_heldBy 44 = .ok (.iinc 5 1, 3) := by decide +kernel
theorem dX10_heldBy_47 : decode cX10_heldBy 47 = .ok (.goto (-41), 3) := by decide +kernel
theorem dX10_heldBy_50 : decode cX10_heldBy 50 = .ok (.iload 4, 2) := by decide +kernel
theorem dX10_heldBy_52 : decode cX10_heldBy 52 = .ok (.ireturn, 1) := by decide +kernel
theorem dX10_freeCells_0 : decode cX10_freeCells 0 = .ok (.lconst 0, 1) := by decide +kernel
theorem dX10_freeCells_1 : decode cX10_freeCells 1 = .ok (.lstore_n 1, 1) := by decide +kernel
theorem dX10_freeCells_2 : decode cX10_freeCells 2 = .ok (.iconst 0, 1) := by decide +kernel
theorem dX10_freeCells_3 : decode cX10_freeCells 3 = .ok (.istore_n 3, 1) := by decide +kernel
theorem dX10_freeCells_4 : decode cX10_freeCells 4 = .ok (.iload_n 3, 1) := by decide +kernel
theorem dX10_freeCells_5 : decode cX10_freeCells 5 = .ok (.aload_n 0, 1) := by decide +kernel
theorem dX10_freeCells_6 : decode cX10_freeCells 6 = .ok (.invokevirtual 125, 3) := by decide +kernel
theorem dX10_freeCells_9 : decode cX10_freeCells 9 = .ok (.if_icmp .ge 27, 3) := by decide +kernel
theorem dX10_freeCells_12 : decode cX10_freeCells 12 = .ok (.lload_n 1, 1) := by decide +kernel
theorem dX10_freeCells_13 : decode cX10_freeCells 13 = .ok (.aload_n 0, 1) := by decide +kernel
theorem dX10_freeCells_14 : decode cX10_freeCells 14 = .ok (.iload_n 3, 1) := by decide +kernel
theorem dX10_freeCells_15 : decode cX10_freeCells 15 = .ok (.invokevirtual 144, 3) := by decide +kernel
theorem dX10_freeCells_18 : decode cX10_freeCells 18 = .ok (.ifCond .eq 9, 3) := by decide +kernel
theorem dX10_freeCells_21 : decode cX10_freeCells 21 = .ok (.lconst 1, 1) := by decide +kernel
theorem dX10_freeCells_22 : decode cX10_freeCells 22 = .ok (.iload_n 3, 1) := by decide +kernel
theorem dX10_freeCells_23 : decode cX10_freeCells 23 = .ok (.lshl, 1) := by decide +kernel
theorem dX10_freeCells_24 : decode cX10_freeCells 24 = .ok (.goto 4, 3) := by decide +kernel
theorem dX10_freeCells_27 : decode cX10_freeCells 27 = .ok (.lconst 0, 1) := by decide +kernel
theorem dX10_freeCells_28 : decode cX10_freeCells 28 = .ok (.lor, 1) := by decide +kernel
theorem dX10_freeCells_29 : decode cX10_freeCells 29 = .ok (.lstore_n 1, 1) := by decide +kernel
theorem dX10_freeCells_30 : decode cX10_freeCells 30 = .ok (.iinc 3 1, 3) := by decide +kernel
theorem dX10_freeCells_33 : decode cX10_freeCells 33 = .ok (.goto (-29), 3) := by decide +kernel
theorem dX10_freeCells_36 : decode cX10_freeCells 36 = .ok (.lload_n 1, 1) := by decide +kernel
theorem dX10_freeCells_37 : decode cX10_freeCells 37 = .ok (.lreturn, 1) := by decide +kernel
theorem dX10_extremeOf_0 : decode cX10_extremeOf 0 = .ok (.bipush (-9), 2) := by decide +kernel
theorem dX10_extremeOf_2 : decode cX10_extremeOf 2 = .ok (.istore 6, 2) := by decide +kernel
theorem dX10_extremeOf_4 : decode cX10_extremeOf 4 = .ok (.iconst 0, 1) := by decide +kernel
theorem dX10_extremeOf_5 : decode cX10_extremeOf 5 = .ok (.istore 7, 2) := by decide +kernel
theorem dX10_extremeOf_7 : decode cX10_extremeOf 7 = .ok (.iconst 0, 1) := by decide +kernel
theorem dX10_extremeOf_8 : decode cX10_extremeOf 8 = .ok (.istore 8, 2) := by decide +kernel
theorem dX10_extremeOf_10 : decode cX10_extremeOf 10 = .ok (.iload 8, 2) := by decide +kernel
theorem dX10_extremeOf_12 : decode cX10_extremeOf 12 = .ok (.aload_n 0, 1) := by decide +kernel
theorem dX10_extremeOf_13 : decode cX10_extremeOf 13 = .ok (.invokevirtual 125, 3) := by decide +kernel
theorem dX10_extremeOf_16 : decode cX10_extremeOf 16 = .ok (.if_icmp .ge 91, 3) := by decide +kernel
theorem dX10_extremeOf_19 : decode cX10_extremeOf 19 = .ok (.lload_n 1, 1) := by decide +kernel
theorem dX10_extremeOf_20 : decode cX10_extremeOf 20 = .ok (.iload 8, 2) := by decide +kernel
theorem dX10_extremeOf_22 : decode cX10_extremeOf 22 = .ok (.invokestatic 52, 3) := by decide +kernel
theorem dX10_extremeOf_25 : decode cX10_extremeOf 25 = .ok (.ifCond .eq 76, 3) := by decide +kernel
theorem dX10_extremeOf_28 : decode cX10_extremeOf 28 = .ok (.aload_n 0, 1) := by decide +kernel
theorem dX10_extremeOf_29 : decode cX10_extremeOf 29 = .ok (.lload_n 3, 1) := by decide +kernel
theorem dX10_extremeOf_30 : decode cX10_extremeOf 30 = .ok (.iload 8, 2) := by decide +kernel
theorem dX10_extremeOf_32 : decode cX10_extremeOf 32 = .ok (.invokevirtual 147, 3) := by decide +kernel
theorem dX10_extremeOf_35 : decode cX10_extremeOf 35 = .ok (.istore 9, 2) := by decide +kernel
theorem dX10_extremeOf_37 : decode cX10_extremeOf 37 = .ok (.iload 6, 2) := by decide +kernel
theorem dX10_extremeOf_39 : decode cX10_extremeOf 39 = .ok (.bipush (-9), 2) := by decide +kernel
theorem dX10_extremeOf_41 : decode cX10_extremeOf 41 = .ok (.if_icmp .eq 25, 3) := by decide +kernel
theorem dX10_extremeOf_44 : decode cX10_extremeOf 44 = .ok (.iload 5, 2) := by decide +kernel
theorem dX10_extremeOf_46 : decode cX10_extremeOf 46 = .ok (.ifCond .eq 13, 3) := by decide +kernel
theorem dX10_extremeOf_49 : decode cX10_extremeOf 49 = .ok (.iload 9, 2) := by decide +kernel
theorem dX10_extremeOf_51 : decode cX10_extremeOf 51 = .ok (.iload 7, 2) := by decide +kernel
theorem dX10_extremeOf_53 : decode cX10_extremeOf 53 = .ok (.if_icmp .le 17, 3) := by decide +kernel
theorem dX10_extremeOf_56 : decode cX10_extremeOf 56 = .ok (.goto 10, 3) := by decide +kernel
theorem dX10_extremeOf_59 : decode cX10_extremeOf 59 = .ok (.iload 9, 2) := by decide +kernel
theorem dX10_extremeOf_61 : decode cX10_extremeOf 61 = .ok (.iload 7, 2) := by decide +kernel
theorem dX10_extremeOf_63 : decode cX10_extremeOf 63 = .ok (.if_icmp .ge 7, 3) := by decide +kernel
theorem dX10_extremeOf_66 : decode cX10_extremeOf 66 = .ok (.iconst 1, 1) := by decide +kernel
theorem dX10_extremeOf_67 : decode cX10_extremeOf 67 = .ok (.goto 4, 3) := by decide +kernel
theorem dX10_extremeOf_70 : decode cX10_extremeOf 70 = .ok (.iconst 0, 1) := by decide +kernel
theorem dX10_extremeOf_71 : decode cX10_extremeOf 71 = .ok (.istore 10, 2) := by decide +kernel
theorem dX10_extremeOf_73 : decode cX10_extremeOf 73 = .ok (.iload 10, 2) := by decide +kernel
theorem dX10_extremeOf_75 : decode cX10_extremeOf 75 = .ok (.ifCond .eq 8, 3) := by decide +kernel
theorem dX10_extremeOf_78 : decode cX10_extremeOf 78 = .ok (.iload 8, 2) := by decide +kernel
theorem dX10_extremeOf_80 : decode cX10_extremeOf 80 = .ok (.goto 5, 3) := by decide +kernel
theorem dX10_extremeOf_83 : decode cX10_extremeOf 83 = .ok (.iload 6, 2) := by decide +kernel
theorem dX10_extremeOf_85 : decode cX10_extremeOf 85 = .ok (.istore 6, 2) := by decide +kernel
theorem dX10_extremeOf_87 : decode cX10_extremeOf 87 = .ok (.iload 10, 2) := by decide +kernel
theorem dX10_extremeOf_89 : decode cX10_extremeOf 89 = .ok (.ifCond .eq 8, 3) := by decide +kernel
theorem dX10_extremeOf_92 : decode cX10_extremeOf 92 = .ok (.iload 9, 2) := by decide +kernel
theorem dX10_extremeOf_94 : decode cX10_extremeOf 94 = .ok (.goto 5, 3) := by decide +kernel
theorem dX10_extremeOf_97 : decode cX10_extremeOf 97 = .ok (.iload 7, 2) := by decide +kernel
theorem dX10_extremeOf_99 : decode cX10_extremeOf 99 = .ok (.istore 7, 2) := by decide +kernel
theorem dX10_extremeOf_101 : decode cX10_extremeOf 101 = .ok (.iinc 8 1, 3) := by decide +kernel
theorem dX10_extremeOf_104 : decode cX10_extremeOf 104 = .ok (.goto (-94), 3) := by decide +kernel
theorem dX10_extremeOf_107 : decode cX10_extremeOf 107 = .ok (.iload 6, 2) := by decide +kernel
theorem dX10_extremeOf_109 : decode cX10_extremeOf 109 = .ok (.ireturn, 1) := by decide +kernel
theorem dX10_tightest_0 : decode cX10_tightest 0 = .ok (.aload_n 0, 1) := by decide +kernel
theorem dX10_tightest_1 : decode cX10_tightest 1 = .ok (.lload_n 1, 1) := by decide +kernel
theorem dX10_tightest_2 : decode cX10_tightest 2 = .ok (.lload_n 1, 1) := by decide +kernel
theorem dX10_tightest_3 : decode cX10_tightest 3 = .ok (.iconst 1, 1) := by decide +kernel
theorem dX10_tightest_4 : decode cX10_tightest 4 = .ok (.invokevirtual 151, 3) := by decide +kernel
theorem dX10_tightest_7 : decode cX10_tightest 7 = .ok (.ireturn, 1) := by decide +kernel
theorem dX10_emptiest_0 : decode cX10_emptiest 0 = .ok (.aload_n 0, 1) := by decide +kernel
theorem dX10_emptiest_1 : decode cX10_emptiest 1 = .ok (.aload_n 0, 1) := by decide +kernel
theorem dX10_emptiest_2 : decode cX10_emptiest 2 = .ok (.invokevirtual 155, 3) := by decide +kernel
theorem dX10_emptiest_5 : decode cX10_emptiest 5 = .ok (.lload_n 1, 1) := by decide +kernel
theorem dX10_emptiest_6 : decode cX10_emptiest 6 = .ok (.ldc2_w 159, 3) := by decide +kernel
theorem dX10_emptiest_9 : decode cX10_emptiest 9 = .ok (.lxor, 1) := by decide +kernel
theorem dX10_emptiest_10 : decode cX10_emptiest 10 = .ok (.land, 1) := by decide +kernel
theorem dX10_emptiest_11 : decode cX10_emptiest 11 = .ok (.lload_n 1, 1) := by decide +kernel
theorem dX10_emptiest_12 : decode cX10_emptiest 12 = .ok (.iconst 0, 1) := by decide +kernel
theorem dX10_emptiest_13 : decode cX10_emptiest 13 = .ok (.invokevirtual 151, 3) := by decide +kernel
theorem dX10_emptiest_16 : decode cX10_emptiest 16 = .ok (.ireturn, 1) := by decide +kernel
theorem dX10_cell_0 : decode cX10_cell 0 = .ok (.aload_n 0, 1) := by decide +kernel
theorem dX10_cell_1 : decode cX10_cell 1 = .ok (.iconst 0, 1) := by decide +kernel
theorem dX10_cell_2 : decode cX10_cell 2 = .ok (.putfield 48, 3) := by decide +kernel
theorem dX10_cell_5 : decode cX10_cell 5 = .ok (.aload_n 0, 1) := by decide +kernel
theorem dX10_cell_6 : decode cX10_cell 6 = .ok (.iload_n 1, 1) := by decide +kernel
theorem dX10_cell_7 : decode cX10_cell 7 = .ok (.iload_n 2, 1) := by decide +kernel
theorem dX10_cell_8 : decode cX10_cell 8 = .ok (.invokevirtual 161, 3) := by decide +kernel
theorem dX10_cell_11 : decode cX10_cell 11 = .ok (.ifCond .ne 7, 3) := by decide +kernel
theorem dX10_cell_14 : decode cX10_cell 14 = .ok (.iconst (-1), 1) := by decide +kernel
theorem dX10_cell_15 : decode cX10_cell 15 = .ok (.goto 44, 3) := by decide +kernel
theorem dX10_cell_18 : decode cX10_cell 18 = .ok (.aload_n 0, 1) := by decide +kernel
theorem dX10_cell_19 : decode cX10_cell 19 = .ok (.getfield 101, 3) := by decide +kernel
theorem dX10_cell_22 : decode cX10_cell 22 = .ok (.aload_n 0, 1) := by decide +kernel
theorem dX10_cell_23 : decode cX10_cell 23 = .ok (.iload_n 1, 1) := by decide +kernel
theorem dX10_cell_24 : decode cX10_cell 24 = .ok (.iload_n 2, 1) := by decide +kernel
theorem dX10_cell_25 : decode cX10_cell 25 = .ok (.invokevirtual 164, 3) := by decide +kernel
theorem dX10_cell_28 : decode cX10_cell 28 = .ok (.invokestatic 52, 3) := by decide +kernel
theorem dX10_cell_31 : decode cX10_cell 31 = .ok (.ifCond .eq 7, 3) := by decide +kernel
theorem dX10_cell_34 : decode cX10_cell 34 = .ok (.iconst 2, 1) := by decide +kernel
theorem dX10_cell_35 : decode cX10_cell 35 = .ok (.goto 24, 3) := by decide +kernel
theorem dX10_cell_38 : decode cX10_cell 38 = .ok (.aload_n 0, 1) := by decide +kernel
theorem dX10_cell_39 : decode cX10_cell 39 = .ok (.getfield 104, 3) := by decide +kernel
theorem dX10_cell_42 : decode cX10_cell 42 = .ok (.aload_n 0, 1) := by decide +kernel
theorem dX10_cell_43 : decode cX10_cell 43 = .ok (.iload_n 1, 1) := by decide +kernel
theorem dX10_cell_44 : decode cX10_cell 44 = .ok (.iload_n 2, 1) := by decide +kernel
theorem dX10_cell_45 : decode cX10_cell 45 = .ok (.invokevirtual 164, 3) := by decide +kernel
theorem dX10_cell_48 : decode cX10_cell 48 = .ok (.invokestatic 52, 3) := by decide +kernel
theorem dX10_cell_51 : decode cX10_cell 51 = .ok (.ifCond .eq 7, 3) := by decide +kernel
theorem dX10_cell_54 : decode cX10_cell 54 = .ok (.iconst 1, 1) := by decide +kernel
theorem dX10_cell_55 : decode cX10_cell 55 = .ok (.goto 4, 3) := by decide +kernel
theorem dX10_cell_58 : decode cX10_cell 58 = .ok (.iconst 0, 1) := by decide +kernel
theorem dX10_cell_59 : decode cX10_cell 59 = .ok (.ireturn, 1) := by decide +kernel
theorem dX10_near_0 : decode cX10_near 0 = .ok (.aload_n 0, 1) := by decide +kernel
theorem dX10_near_1 : decode cX10_near 1 = .ok (.iconst 0, 1) := by decide +kernel
theorem dX10_near_2 : decode cX10_near 2 = .ok (.putfield 48, 3) := by decide +kernel
theorem dX10_near_5 : decode cX10_near 5 = .ok (.aload_n 0, 1) := by decide +kernel
theorem dX10_near_6 : decode cX10_near 6 = .ok (.iload_n 1, 1) := by decide +kernel
theorem dX10_near_7 : decode cX10_near 7 = .ok (.invokevirtual 167, 3) := by decide +kernel
theorem dX10_near_10 : decode cX10_near 10 = .ok (.ifCond .eq 20, 3) := by decide +kernel
theorem dX10_near_13 : decode cX10_near 13 = .ok (.aload_n 0, 1) := by decide +kernel
theorem dX10_near_14 : decode cX10_near 14 = .ok (.iload_n 2, 1) := by decide +kernel
theorem dX10_near_15 : decode cX10_near 15 = .ok (.invokevirtual 167, 3) := by decide +kernel
theorem dX10_near_18 : decode cX10_near 18 = .ok (.ifCond .eq 12, 3) := by decide +kernel
theorem dX10_near_21 : decode cX10_near 21 = .ok (.iload_n 3, 1) := by decide +kernel
theorem dX10_near_22 : decode cX10_near 22 = .ok (.iconst 0, 1) := by decide +kernel
theorem dX10_near_23 : decode cX10_near 23 = .ok (.iconst 1, 1) := by decide +kernel
theorem dX10_near_24 : decode cX10_near 24 = .ok (.invokestatic 56, 3) := by decide +kernel
theorem dX10_near_27 : decode cX10_near 27 = .ok (.ifCond .ne 5, 3) := by decide +kernel
theorem dX10_near_30 : decode cX10_near 30 = .ok (.iconst (-1), 1) := by decide +kernel
theorem dX10_near_31 : decode cX10_near 31 = .ok (.ireturn, 1) := by decide +kernel
theorem dX10_near_32 : decode cX10_near 32 = .ok (.iload_n 3, 1) := by decide +kernel
theorem dX10_near_33 : decode cX10_near 33 = .ok (.ifCond .ne 12, 3) := by decide +kernel
theorem dX10_near_36 : decode cX10_near 36 = .ok (.aload_n 0, 1) := by decide +kernel
theorem dX10_near_37 : decode cX10_near 37 = .ok (.iload_n 1, 1) := by decide +kernel
theorem dX10_near_38 : decode cX10_near 38 = .ok (.iload_n 2, 1) := by decide +kernel
theorem dX10_near_39 : decode cX10_near 39 = .ok (.invokevirtual 136, 3) := by decide +kernel
theorem dX10_near_42 : decode cX10_near 42 = .ok (.goto 13, 3) := by decide +kernel
theorem dX10_near_45 : decode cX10_near 45 = .ok (.aload_n 0, 1) := by decide +kernel
theorem dX10_near_46 : decode cX10_near 46 = .ok (.aload_n 0, 1) := by decide +kernel
theorem dX10_near_47 : decode cX10_near 47 = .ok (.iload_n 1, 1) := by decide +kernel
theorem dX10_near_48 : decode cX10_near 48 = .ok (.iload_n 2, 1) := by decide +kernel
theorem dX10_near_49 : decode cX10_near 49 = .ok (.invokevirtual 136, 3) := by decide +kernel
theorem dX10_near_52 : decode cX10_near 52 = .ok (.invokevirtual 140, 3) := by decide +kernel
theorem dX10_near_55 : decode cX10_near 55 = .ok (.ireturn, 1) := by decide +kernel
theorem dX10_notes_0 : decode cX10_notes 0 = .ok (.aload_n 0, 1) := by decide +kernel
theorem dX10_notes_1 : decode cX10_notes 1 = .ok (.getfield 107, 3) := by decide +kernel
theorem dX10_notes_4 : decode cX10_notes 4 = .ok (.bipush 10, 2) := by decide +kernel
theorem dX10_notes_6 : decode cX10_notes 6 = .ok (.if_icmp .ne 37, 3) := by decide +kernel
theorem dX10_notes_9 : decode cX10_notes 9 = .ok (.iconst 0, 1) := by decide +kernel
theorem dX10_notes_10 : decode cX10_notes 10 = .ok (.istore_n 1, 1) := by decide +kernel
theorem dX10_notes_11 : decode cX10_notes 11 = .ok (.iload_n 1, 1) := by decide +kernel
theorem dX10_notes_12 : decode cX10_notes 12 = .ok (.bipush 9, 2) := by decide +kernel
theorem dX10_notes_14 : decode cX10_notes 14 = .ok (.if_icmp .ge 23, 3) := by decide +kernel
theorem dX10_notes_17 : decode cX10_notes 17 = .ok (.aload_n 0, 1) := by decide +kernel
theorem dX10_notes_18 : decode cX10_notes 18 = .ok (.getfield 16, 3) := by decide +kernel
theorem dX10_notes_21 : decode cX10_notes 21 = .ok (.iload_n 1, 1) := by decide +kernel
theorem dX10_notes_22 : decode cX10_notes 22 = .ok (.aload_n 0, 1) := by decide +kernel
theorem dX10_notes_23 : decode cX10_notes 23 = .ok (.getfield 16, 3) := by decide +kernel
theorem dX10_notes_26 : decode cX10_notes 26 = .ok (.iload_n 1, 1) := by decide +kernel
theorem dX10_notes_27 : decode cX10_notes 27 = .ok (.iconst 1, 1) := by decide +kernel
theorem dX10_notes_28 : decode cX10_notes 28 = .ok (.iadd, 1) := by decide +kernel
theorem dX10_notes_29 : decode cX10_notes 29 = .ok (.laload, 1) := by decide +kernel
theorem dX10_notes_30 : decode cX10_notes 30 = .ok (.lastore, 1) := by decide +kernel
theorem dX10_notes_31 : decode cX10_notes 31 = .ok (.iinc 1 1, 3) := by decide +kernel
theorem dX10_notes_34 : decode cX10_notes 34 = .ok (.goto (-23), 3) := by decide +kernel
theorem dX10_notes_37 : decode cX10_notes 37 = .ok (.aload_n 0, 1) := by decide +kernel
theorem dX10_notes_38 : decode cX10_notes 38 = .ok (.bipush 9, 2) := by decide +kernel
theorem dX10_notes_40 : decode cX10_notes 40 = .ok (.putfield 107, 3) := by decide +kernel
theorem dX10_notes_43 : decode cX10_notes 43 = .ok (.aload_n 0, 1) := by decide +kernel
theorem dX10_notes_44 : decode cX10_notes 44 = .ok (.getfield 16, 3) := by decide +kernel
theorem dX10_notes_47 : decode cX10_notes 47 = .ok (.aload_n 0, 1) := by decide +kernel
theorem dX10_notes_48 : decode cX10_notes 48 = .ok (.getfield 107, 3) := by decide +kernel
theorem dX10_notes_51 : decode cX10_notes 51 = .ok (.aload_n 0, 1) := by decide +kernel
theorem dX10_notes_52 : decode cX10_notes 52 = .ok (.getfield 104, 3) := by decide +kernel
theorem dX10_notes_55 : decode cX10_notes 55 = .ok (.lastore, 1) := by decide +kernel
theorem dX10_notes_56 : decode cX10_notes 56 = .ok (.aload_n 0, 1) := by decide +kernel
theorem dX10_notes_57 : decode cX10_notes 57 = .ok (.dup, 1) := by decide +kernel
theorem dX10_notes_58 : decode cX10_notes 58 = .ok (.getfield 107, 3) := by decide +kernel
theorem dX10_notes_61 : decode cX10_notes 61 = .ok (.iconst 1, 1) := by decide +kernel
theorem dX10_notes_62 : decode cX10_notes 62 = .ok (.iadd, 1) := by decide +kernel
theorem dX10_notes_63 : decode cX10_notes 63 = .ok (.putfield 107, 3) := by decide +kernel
theorem dX10_notes_66 : decode cX10_notes 66 = .ok (.return_, 1) := by decide +kernel
theorem dX10_flips_0 : decode cX10_flips 0 = .ok (.aload_n 0, 1) := by decide +kernel
theorem dX10_flips_1 : decode cX10_flips 1 = .ok (.iconst 0, 1) := by decide +kernel
theorem dX10_flips_2 : decode cX10_flips 2 = .ok (.putfield 48, 3) := by decide +kernel
theorem dX10_flips_5 : decode cX10_flips 5 = .ok (.aload_n 0, 1) := by decide +kernel
theorem dX10_flips_6 : decode cX10_flips 6 = .ok (.iload_n 1, 1) := by decide +kernel
theorem dX10_flips_7 : decode cX10_flips 7 = .ok (.iload_n 2, 1) := by decide +kernel
theorem dX10_flips_8 : decode cX10_flips 8 = .ok (.invokevirtual 161, 3) := by decide +kernel
theorem dX10_flips_11 : decode cX10_flips 11 = .ok (.ifCond .ne 5, 3) := by decide +kernel
theorem dX10_flips_14 : decode cX10_flips 14 = .ok (.iconst (-1), 1) := by decide +kernel
theorem dX10_flips_15 : decode cX10_flips 15 = .ok (.ireturn, 1) := by decide +kernel
theorem dX10_flips_16 : decode cX10_flips 16 = .ok (.aload_n 0, 1) := by decide +kernel
theorem dX10_flips_17 : decode cX10_flips 17 = .ok (.getfield 101, 3) := by decide +kernel
theorem dX10_flips_20 : decode cX10_flips 20 = .ok (.aload_n 0, 1) := by decide +kernel
theorem dX10_flips_21 : decode cX10_flips 21 = .ok (.iload_n 1, 1) := by decide +kernel
theorem dX10_flips_22 : decode cX10_flips 22 = .ok (.iload_n 2, 1) := by decide +kernel
theorem dX10_flips_23 : decode cX10_flips 23 = .ok (.invokevirtual 164, 3) := by decide +kernel
theorem dX10_flips_26 : decode cX10_flips 26 = .ok (.invokestatic 52, 3) := by decide +kernel
theorem dX10_flips_29 : decode cX10_flips 29 = .ok (.ifCond .eq 6, 3) := by decide +kernel
theorem dX10_flips_32 : decode cX10_flips 32 = .ok (.bipush (-2), 2) := by decide +kernel
theorem dX10_flips_34 : decode cX10_flips 34 = .ok (.ireturn, 1) := by decide +kernel
theorem dX10_flips_35 : decode cX10_flips 35 = .ok (.aload_n 0, 1) := by decide +kernel
theorem dX10_flips_36 : decode cX10_flips 36 = .ok (.invokevirtual 170, 3) := by decide +kernel
theorem dX10_flips_39 : decode cX10_flips 39 = .ok (.aload_n 0, 1) := by decide +kernel
theorem dX10_flips_40 : decode cX10_flips 40 = .ok (.dup, 1) := by decide +kernel
theorem dX10_flips_41 : decode cX10_flips 41 = .ok (.getfield 104, 3) := by decide +kernel
theorem dX10_flips_44 : decode cX10_flips 44 = .ok (.lconst 1, 1) := by decide +kernel
theorem dX10_flips_45 : decode cX10_flips 45 = .ok (.aload_n 0, 1) := by decide +kernel
theorem dX10_flips_46 : decode cX10_flips 46 = .ok (.iload_n 1, 1) := by decide +kernel
theorem dX10_flips_47 : decode cX10_flips 47 = .ok (.iload_n 2, 1) := by decide +kernel
theorem dX10_flips_48 : decode cX10_flips 48 = .ok (.invokevirtual 164, 3) := by decide +kernel
theorem dX10_flips_51 : decode cX10_flips 51 = .ok (.lshl, 1) := by decide +kernel
theorem dX10_flips_52 : decode cX10_flips 52 = .ok (.lxor, 1) := by decide +kernel
theorem dX10_flips_53 : decode cX10_flips 53 = .ok (.putfield 104, 3) := by decide +kernel
theorem dX10_flips_56 : decode cX10_flips 56 = .ok (.aload_n 0, 1) := by decide +kernel
theorem dX10_flips_57 : decode cX10_flips 57 = .ok (.getfield 104, 3) := by decide +kernel
theorem dX10_flips_60 : decode cX10_flips 60 = .ok (.aload_n 0, 1) := by decide +kernel
theorem dX10_flips_61 : decode cX10_flips 61 = .ok (.iload_n 1, 1) := by decide +kernel
theorem dX10_flips_62 : decode cX10_flips 62 = .ok (.iload_n 2, 1) := by decide +kernel
theorem dX10_flips_63 : decode cX10_flips 63 = .ok (.invokevirtual 164, 3) := by decide +kernel
theorem dX10_flips_66 : decode cX10_flips 66 = .ok (.invokestatic 52, 3) := by decide +kernel
theorem dX10_flips_69 : decode cX10_flips 69 = .ok (.ifCond .eq 7, 3) := by decide +kernel
theorem dX10_flips_72 : decode cX10_flips 72 = .ok (.iconst 1, 1) := by decide +kernel
theorem dX10_flips_73 : decode cX10_flips 73 = .ok (.goto 4, 3) := by decide +kernel
theorem dX10_flips_76 : decode cX10_flips 76 = .ok (.iconst 0, 1) := by decide +kernel
theorem dX10_flips_77 : decode cX10_flips 77 = .ok (.ireturn, 1) := by decide +kernel
theorem dX10_rests_0 : decode cX10_rests 0 = .ok (.aload_n 0, 1) := by decide +kernel
theorem dX10_rests_1 : decode cX10_rests 1 = .ok (.iconst 0, 1) := by decide +kernel
theorem dX10_rests_2 : decode cX10_rests 2 = .ok (.putfield 48, 3) := by decide +kernel
theorem dX10_rests_5 : decode cX10_rests 5 = .ok (.iload_n 1, 1) := by decide +kernel
theorem dX10_rests_6 : decode cX10_rests 6 = .ok (.iconst 1, 1) := by decide +kernel
theorem dX10_rests_7 : decode cX10_rests 7 = .ok (.bipush 64, 2) := by decide +kernel
theorem dX10_rests_9 : decode cX10_rests 9 = .ok (.invokestatic 56, 3) := by decide +kernel
theorem dX10_rests_12 : decode cX10_rests 12 = .ok (.ifCond .ne 5, 3) := by decide +kernel
theorem dX10_rests_15 : decode cX10_rests 15 = .ok (.iconst (-1), 1) := by decide +kernel
theorem dX10_rests_16 : decode cX10_rests 16 = .ok (.ireturn, 1) := by decide +kernel
theorem dX10_rests_17 : decode cX10_rests 17 = .ok (.aload_n 0, 1) := by decide +kernel
theorem dX10_rests_18 : decode cX10_rests 18 = .ok (.getfield 104, 3) := by decide +kernel
theorem dX10_rests_21 : decode cX10_rests 21 = .ok (.lconst 0, 1) := by decide +kernel
theorem dX10_rests_22 : decode cX10_rests 22 = .ok (.lcmp, 1) := by decide +kernel
theorem dX10_rests_23 : decode cX10_rests 23 = .ok (.ifCond .ne 6, 3) := by decide +kernel
theorem dX10_rests_26 : decode cX10_rests 26 = .ok (.bipush (-2), 2) := by decide +kernel
theorem dX10_rests_28 : decode cX10_rests 28 = .ok (.ireturn, 1) := by decide +kernel
theorem dX10_rests_29 : decode cX10_rests 29 = .ok (.aload_n 0, 1) := by decide +kernel
theorem dX10_rests_30 : decode cX10_rests 30 = .ok (.invokevirtual 170, 3) := by decide +kernel
theorem dX10_rests_33 : decode cX10_rests 33 = .ok (.iconst 0, 1) := by decide +kernel
theorem dX10_rests_34 : decode cX10_rests 34 = .ok (.istore_n 2, 1) := by decide +kernel
theorem dX10_rests_35 : decode cX10_rests 35 = .ok (.iconst 1, 1) := by decide +kernel
theorem dX10_rests_36 : decode cX10_rests 36 = .ok (.istore_n 3, 1) := by decide +kernel
theorem dX10_rests_37 : decode cX10_rests 37 = .ok (.iconst 0, 1) := by decide +kernel
theorem dX10_rests_38 : decode cX10_rests 38 = .ok (.istore 4, 2) := by decide +kernel
theorem dX10_rests_40 : decode cX10_rests 40 = .ok (.iload 4, 2) := by decide +kernel
theorem dX10_rests_42 : decode cX10_rests 42 = .ok (.iload_n 1, 1) := by decide +kernel
theorem dX10_rests_43 : decode cX10_rests 43 = .ok (.if_icmp .ge 88, 3) := by decide +kernel
theorem dX10_rests_46 : decode cX10_rests 46 = .ok (.iload_n 3, 1) := by decide +kernel
theorem dX10_rests_47 : decode cX10_rests 47 = .ok (.ifCond .eq 84, 3) := by decide +kernel
theorem dX10_rests_50 : decode cX10_rests 50 = .ok (.aload_n 0, 1) := by decide +kernel
theorem dX10_rests_51 : decode cX10_rests 51 = .ok (.aload_n 0, 1) := by decide +kernel
theorem dX10_rests_52 : decode cX10_rests 52 = .ok (.getfield 104, 3) := by decide +kernel
theorem dX10_rests_55 : decode cX10_rests 55 = .ok (.invokevirtual 173, 3) := by decide +kernel
theorem dX10_rests_58 : decode cX10_rests 58 = .ok (.istore 5, 2) := by decide +kernel
theorem dX10_rests_60 : decode cX10_rests 60 = .ok (.aload_n 0, 1) := by decide +kernel
theorem dX10_rests_61 : decode cX10_rests 61 = .ok (.dup, 1) := by decide +kernel
theorem dX10_rests_62 : decode cX10_rests 62 = .ok (.getfield 104, 3) := by decide +kernel
theorem dX10_rests_65 : decode cX10_rests 65 = .ok (.lconst 1, 1) := by decide +kernel
theorem dX10_rests_66 : decode cX10_rests 66 = .ok (.iload 5, 2) := by decide +kernel
theorem dX10_rests_68 : decode cX10_rests 68 = .ok (.lshl, 1) := by decide +kernel
theorem dX10_rests_69 : decode cX10_rests 69 = .ok (.ldc2_w 159, 3) := by decide +kernel
theorem dX10_rests_72 : decode cX10_rests 72 = .ok (.lxor, 1) := by decide +kernel
theorem dX10_rests_73 : decode cX10_rests 73 = .ok (.land, 1) := by decide +kernel
theorem dX10_rests_74 : decode cX10_rests 74 = .ok (.putfield 104, 3) := by decide +kernel
theorem dX10_rests_77 : decode cX10_rests 77 = .ok (.aload_n 0, 1) := by decide +kernel
theorem dX10_rests_78 : decode cX10_rests 78 = .ok (.aload_n 0, 1) := by decide +kernel
theorem dX10_rests_79 : decode cX10_rests 79 = .ok (.getfield 104, 3) := by decide +kernel
theorem dX10_rests_82 : decode cX10_rests 82 = .ok (.invokevirtual 176, 3) := by decide +kernel
theorem dX10_rests_85 : decode cX10_rests 85 = .ok (.istore 6, 2) := by decide +kernel
theorem dX10_rests_87 : decode cX10_rests 87 = .ok (.aload_n 0, 1) := by decide +kernel
theorem dX10_rests_88 : decode cX10_rests 88 = .ok (.dup, 1) := by decide +kernel
theorem dX10_rests_89 : decode cX10_rests 89 = .ok (.getfield 104, 3) := by decide +kernel
theorem dX10_rests_92 : decode cX10_rests 92 = .ok (.lconst 1, 1) := by decide +kernel
theorem dX10_rests_93 : decode cX10_rests 93 = .ok (.iload 6, 2) := by decide +kernel
theorem dX10_rests_95 : decode cX10_rests 95 = .ok (.lshl, 1) := by decide +kernel
theorem dX10_rests_96 : decode cX10_rests 96 = .ok (.lor, 1) := by decide +kernel
theorem dX10_rests_97 : decode cX10_rests 97 = .ok (.putfield 104, 3) := by decide +kernel
theorem dX10_rests_100 : decode cX10_rests 100 = .ok (.iload 6, 2) := by decide +kernel
theorem dX10_rests_102 : decode cX10_rests 102 = .ok (.iload 5, 2) := by decide +kernel
theorem dX10_rests_104 : decode cX10_rests 104 = .ok (.if_icmp .eq 7, 3) := by decide +kernel
theorem dX10_rests_107 : decode cX10_rests 107 = .ok (.iconst 1, 1) := by decide +kernel
theorem dX10_rests_108 : decode cX10_rests 108 = .ok (.goto 4, 3) := by decide +kernel
theorem dX10_rests_111 : decode cX10_rests 111 = .ok (.iconst 0, 1) := by decide +kernel
theorem dX10_rests_112 : decode cX10_rests 112 = .ok (.istore_n 3, 1) := by decide +kernel
theorem dX10_rests_113 : decode cX10_rests 113 = .ok (.iload_n 2, 1) := by decide +kernel
theorem dX10_rests_114 : decode cX10_rests 114 = .ok (.iload_n 3, 1) := by decide +kernel
theorem dX10_rests_115 : decode cX10_rests 115 = .ok (.ifCond .eq 7, 3) := by decide +kernel
theorem dX10_rests_118 : decode cX10_rests 118 = .ok (.iconst 1, 1) := by decide +kernel
theorem dX10_rests_119 : decode cX10_rests 119 = .ok (.goto 4, 3) := by decide +kernel
theorem dX10_rests_122 : decode cX10_rests 122 = .ok (.iconst 0, 1) := by decide +kernel
theorem dX10_rests_123 : decode cX10_rests 123 = .ok (.iadd, 1) := by decide +kernel
theorem dX10_rests_124 : decode cX10_rests 124 = .ok (.istore_n 2, 1) := by decide +kernel
theorem dX10_rests_125 : decode cX10_rests 125 = .ok (.iinc 4 1, 3) := by decide +kernel
theorem dX10_rests_128 : decode cX10_rests 128 = .ok (.goto (-88), 3) := by decide +kernel
theorem dX10_rests_131 : decode cX10_rests 131 = .ok (.iload_n 2, 1) := by decide +kernel
theorem dX10_rests_132 : decode cX10_rests 132 = .ok (.ireturn, 1) := by decide +kernel
theorem dX10_energyOf_0 : decode cX10_energyOf 0 = .ok (.iconst 0, 1) := by decide +kernel
theorem dX10_energyOf_1 : decode cX10_energyOf 1 = .ok (.istore_n 3, 1) := by decide +kernel
theorem dX10_energyOf_2 : decode cX10_energyOf 2 = .ok (.iconst 0, 1) := by decide +kernel
theorem dX10_energyOf_3 : decode cX10_energyOf 3 = .ok (.istore 4, 2) := by decide +kernel
theorem dX10_energyOf_5 : decode cX10_energyOf 5 = .ok (.iload 4, 2) := by decide +kernel
theorem dX10_energyOf_7 : decode cX10_energyOf 7 = .ok (.aload_n 0, 1) := by decide +kernel
theorem dX10_energyOf_8 : decode cX10_energyOf 8 = .ok (.invokevirtual 125, 3) := by decide +kernel
theorem dX10_energyOf_11 : decode cX10_energyOf 11 = .ok (.if_icmp .ge 62, 3) := by decide +kernel
theorem dX10_energyOf_14 : decode cX10_energyOf 14 = .ok (.iconst 0, 1) := by decide +kernel
theorem dX10_energyOf_15 : decode cX10_energyOf 15 = .ok (.istore 5, 2) := by decide +kernel
theorem dX10_energyOf_17 : decode cX10_energyOf 17 = .ok (.iload 5, 2) := by decide +kernel
theorem dX10_energyOf_19 : decode cX10_energyOf 19 = .ok (.iload 4, 2) := by decide +kernel
theorem dX10_energyOf_21 : decode cX10_energyOf 21 = .ok (.if_icmp .ge 46, 3) := by decide +kernel
theorem dX10_energyOf_24 : decode cX10_energyOf 24 = .ok (.iload_n 3, 1) := by decide +kernel
theorem dX10_energyOf_25 : decode cX10_energyOf 25 = .ok (.lload_n 1, 1) := by decide +kernel
theorem dX10_energyOf_26 : decode cX10_energyOf 26 = .ok (.iload 4, 2) := by decide +kernel
theorem dX10_energyOf_28 : decode cX10_energyOf 28 = .ok (.invokestatic 52, 3) := by decide +kernel
theorem dX10_energyOf_31 : decode cX10_energyOf 31 = .ok (.ifCond .eq 27, 3) := by decide +kernel
theorem dX10_energyOf_34 : decode cX10_energyOf 34 = .ok (.lload_n 1, 1) := by decide +kernel
theorem dX10_energyOf_35 : decode cX10_energyOf 35 = .ok (.iload 5, 2) := by decide +kernel
theorem dX10_energyOf_37 : decode cX10_energyOf 37 = .ok (.invokestatic 52, 3) := by decide +kernel
theorem dX10_energyOf_40 : decode cX10_energyOf 40 = .ok (.ifCond .eq 18, 3) := by decide +kernel
theorem dX10_energyOf_43 : decode cX10_energyOf 43 = .ok (.aload_n 0, 1) := by decide +kernel
theorem dX10_energyOf_44 : decode cX10_energyOf 44 = .ok (.aload_n 0, 1) := by decide +kernel
theorem dX10_energyOf_45 : decode cX10_energyOf 45 = .ok (.iload 4, 2) := by decide +kernel
theorem dX10_energyOf_47 : decode cX10_energyOf 47 = .ok (.iload 5, 2) := by decide +kernel
theorem dX10_energyOf_49 : decode cX10_energyOf 49 = .ok (.invokevirtual 136, 3) := by decide +kernel
theorem dX10_energyOf_52 : decode cX10_energyOf 52 = .ok (.invokevirtual 140, 3) := by decide +kernel
theorem dX10_energyOf_55 : decode cX10_energyOf 55 = .ok (.goto 4, 3) := by decide +kernel
theorem dX10_energyOf_58 : decode cX10_energyOf 58 = .ok (.iconst 0, 1) := by decide +kernel
theorem dX10_energyOf_59 : decode cX10_energyOf 59 = .ok (.iadd, 1) := by decide +kernel
theorem dX10_energyOf_60 : decode cX10_energyOf 60 = .ok (.istore_n 3, 1) := by decide +kernel
theorem dX10_energyOf_61 : decode cX10_energyOf 61 = .ok (.iinc 5 1, 3) := by decide +kernel
theorem dX10_energyOf_64 : decode cX10_energyOf 64 = .ok (.goto (-47), 3) := by decide +kernel
theorem dX10_energyOf_67 : decode cX10_energyOf 67 = .ok (.iinc 4 1, 3) := by decide +kernel
theorem dX10_energyOf_70 : decode cX10_energyOf 70 = .ok (.goto (-65), 3) := by decide +kernel
theorem dX10_energyOf_73 : decode cX10_energyOf 73 = .ok (.iload_n 3, 1) := by decide +kernel
theorem dX10_energyOf_74 : decode cX10_energyOf 74 = .ok (.ireturn, 1) := by decide +kernel
theorem dX10_moved_0 : decode cX10_moved 0 = .ok (.lload_n 0, 1) := by decide +kernel
theorem dX10_moved_1 : decode cX10_moved 1 = .ok (.lconst 1, 1) := by decide +kernel
theorem dX10_moved_2 : decode cX10_moved 2 = .ok (.iload_n 2, 1) := by decide +kernel
theorem dX10_moved_3 : decode cX10_moved 3 = .ok (.lshl, 1) := by decide +kernel
theorem dX10_moved_4 : decode cX10_moved 4 = .ok (.ldc2_w 159, 3) := by decide +kernel
theorem dX10_moved_7 : decode cX10_moved 7 = .ok (.lxor, 1) := by decide +kernel
theorem dX10_moved_8 : decode cX10_moved 8 = .ok (.land, 1) := by decide +kernel
theorem dX10_moved_9 : decode cX10_moved 9 = .ok (.lconst 1, 1) := by decide +kernel
theorem dX10_moved_10 : decode cX10_moved 10 = .ok (.iload_n 3, 1) := by decide +kernel
theorem dX10_moved_11 : decode cX10_moved 11 = .ok (.lshl, 1) := by decide +kernel
theorem dX10_moved_12 : decode cX10_moved 12 = .ok (.lor, 1) := by decide +kernel
theorem dX10_moved_13 : decode cX10_moved 13 = .ok (.lreturn, 1) := by decide +kernel
theorem dX10_moves_0 : decode cX10_moves 0 = .ok (.aload_n 0, 1) := by decide +kernel
theorem dX10_moves_1 : decode cX10_moves 1 = .ok (.iconst 0, 1) := by decide +kernel
theorem dX10_moves_2 : decode cX10_moves 2 = .ok (.putfield 48, 3) := by decide +kernel
theorem dX10_moves_5 : decode cX10_moves 5 = .ok (.aload_n 0, 1) := by decide +kernel
theorem dX10_moves_6 : decode cX10_moves 6 = .ok (.iload_n 1, 1) := by decide +kernel
theorem dX10_moves_7 : decode cX10_moves 7 = .ok (.invokevirtual 167, 3) := by decide +kernel
theorem dX10_moves_10 : decode cX10_moves 10 = .ok (.ifCond .eq 11, 3) := by decide +kernel
theorem dX10_moves_13 : decode cX10_moves 13 = .ok (.aload_n 0, 1) := by decide +kernel
theorem dX10_moves_14 : decode cX10_moves 14 = .ok (.iload_n 2, 1) := by decide +kernel
theorem dX10_moves_15 : decode cX10_moves 15 = .ok (.invokevirtual 167, 3) := by decide +kernel
theorem dX10_moves_18 : decode cX10_moves 18 = .ok (.ifCond .ne 5, 3) := by decide +kernel
theorem dX10_moves_21 : decode cX10_moves 21 = .ok (.iconst (-1), 1) := by decide +kernel
theorem dX10_moves_22 : decode cX10_moves 22 = .ok (.ireturn, 1) := by decide +kernel
theorem dX10_moves_23 : decode cX10_moves 23 = .ok (.aload_n 0, 1) := by decide +kernel
theorem dX10_moves_24 : decode cX10_moves 24 = .ok (.getfield 104, 3) := by decide +kernel
theorem dX10_moves_27 : decode cX10_moves 27 = .ok (.iload_n 1, 1) := by decide +kernel
theorem dX10_moves_28 : decode cX10_moves 28 = .ok (.invokestatic 52, 3) := by decide +kernel
theorem dX10_moves_31 : decode cX10_moves 31 = .ok (.ifCond .eq 19, 3) := by decide +kernel
theorem dX10_moves_34 : decode cX10_moves 34 = .ok (.aload_n 0, 1) := by decide +kernel
theorem dX10_moves_35 : decode cX10_moves 35 = .ok (.getfield 104, 3) := by decide +kernel
theorem dX10_moves_38 : decode cX10_moves 38 = .ok (.aload_n 0, 1) := by decide +kernel
theorem dX10_moves_39 : decode cX10_moves 39 = .ok (.getfield 101, 3) := by decide +kernel
theorem dX10_moves_42 : decode cX10_moves 42 = .ok (.lor, 1) := by decide +kernel
theorem dX10_moves_43 : decode cX10_moves 43 = .ok (.iload_n 2, 1) := by decide +kernel
theorem dX10_moves_44 : decode cX10_moves 44 = .ok (.invokestatic 52, 3) := by decide +kernel
theorem dX10_moves_47 : decode cX10_moves 47 = .ok (.ifCond .eq 6, 3) := by decide +kernel
theorem dX10_moves_50 : decode cX10_moves 50 = .ok (.bipush (-2), 2) := by decide +kernel
theorem dX10_moves_52 : decode cX10_moves 52 = .ok (.ireturn, 1) := by decide +kernel
theorem dX10_moves_53 : decode cX10_moves 53 = .ok (.aload_n 0, 1) := by decide +kernel
theorem dX10_moves_54 : decode cX10_moves 54 = .ok (.invokevirtual 170, 3) := by decide +kernel
theorem dX10_moves_57 : decode cX10_moves 57 = .ok (.aload_n 0, 1) := by decide +kernel
theorem dX10_moves_58 : decode cX10_moves 58 = .ok (.aload_n 0, 1) := by decide +kernel
theorem dX10_moves_59 : decode cX10_moves 59 = .ok (.getfield 104, 3) := by decide +kernel
theorem dX10_moves_62 : decode cX10_moves 62 = .ok (.invokevirtual 179, 3) := by decide +kernel
theorem dX10_moves_65 : decode cX10_moves 65 = .ok (.istore_n 3, 1) := by decide +kernel
theorem dX10_moves_66 : decode cX10_moves 66 = .ok (.aload_n 0, 1) := by decide +kernel
theorem dX10_moves_67 : decode cX10_moves 67 = .ok (.aload_n 0, 1) := by decide +kernel
theorem dX10_moves_68 : decode cX10_moves 68 = .ok (.getfield 104, 3) := by decide +kernel
theorem dX10_moves_71 : decode cX10_moves 71 = .ok (.iload_n 1, 1) := by decide +kernel
theorem dX10_moves_72 : decode cX10_moves 72 = .ok (.iload_n 2, 1) := by decide +kernel
theorem dX10_moves_73 : decode cX10_moves 73 = .ok (.invokestatic 182, 3) := by decide +kernel
theorem dX10_moves_76 : decode cX10_moves 76 = .ok (.putfield 104, 3) := by decide +kernel
theorem dX10_moves_79 : decode cX10_moves 79 = .ok (.aload_n 0, 1) := by decide +kernel
theorem dX10_moves_80 : decode cX10_moves 80 = .ok (.aload_n 0, 1) := by decide +kernel
theorem dX10_moves_81 : decode cX10_moves 81 = .ok (.getfield 104, 3) := by decide +kernel
theorem dX10_moves_84 : decode cX10_moves 84 = .ok (.invokevirtual 179, 3) := by decide +kernel
theorem dX10_moves_87 : decode cX10_moves 87 = .ok (.iload_n 3, 1) := by decide +kernel
theorem dX10_moves_88 : decode cX10_moves 88 = .ok (.isub, 1) := by decide +kernel
theorem dX10_moves_89 : decode cX10_moves 89 = .ok (.ireturn, 1) := by decide +kernel
theorem dX10_undo_0 : decode cX10_undo 0 = .ok (.aload_n 0, 1) := by decide +kernel
theorem dX10_undo_1 : decode cX10_undo 1 = .ok (.iconst 0, 1) := by decide +kernel
theorem dX10_undo_2 : decode cX10_undo 2 = .ok (.putfield 48, 3) := by decide +kernel
theorem dX10_undo_5 : decode cX10_undo 5 = .ok (.aload_n 0, 1) := by decide +kernel
theorem dX10_undo_6 : decode cX10_undo 6 = .ok (.getfield 107, 3) := by decide +kernel
theorem dX10_undo_9 : decode cX10_undo 9 = .ok (.ifCond .ne 6, 3) := by decide +kernel
theorem dX10_undo_12 : decode cX10_undo 12 = .ok (.bipush (-2), 2) := by decide +kernel
theorem dX10_undo_14 : decode cX10_undo 14 = .ok (.ireturn, 1) := by decide +kernel
theorem dX10_undo_15 : decode cX10_undo 15 = .ok (.aload_n 0, 1) := by decide +kernel
theorem dX10_undo_16 : decode cX10_undo 16 = .ok (.dup, 1) := by decide +kernel
theorem dX10_undo_17 : decode cX10_undo 17 = .ok (.getfield 107, 3) := by decide +kernel
theorem dX10_undo_20 : decode cX10_undo 20 = .ok (.iconst 1, 1) := by decide +kernel
theorem dX10_undo_21 : decode cX10_undo 21 = .ok (.isub, 1) := by decide +kernel
theorem dX10_undo_22 : decode cX10_undo 22 = .ok (.putfield 107, 3) := by decide +kernel
theorem dX10_undo_25 : decode cX10_undo 25 = .ok (.aload_n 0, 1) := by decide +kernel
theorem dX10_undo_26 : decode cX10_undo 26 = .ok (.aload_n 0, 1) := by decide +kernel
theorem dX10_undo_27 : decode cX10_undo 27 = .ok (.getfield 16, 3) := by decide +kernel
theorem dX10_undo_30 : decode cX10_undo 30 = .ok (.aload_n 0, 1) := by decide +kernel
theorem dX10_undo_31 : decode cX10_undo 31 = .ok (.getfield 107, 3) := by decide +kernel
theorem dX10_undo_34 : decode cX10_undo 34 = .ok (.laload, 1) := by decide +kernel
theorem dX10_undo_35 : decode cX10_undo 35 = .ok (.putfield 104, 3) := by decide +kernel
theorem dX10_undo_38 : decode cX10_undo 38 = .ok (.aload_n 0, 1) := by decide +kernel
theorem dX10_undo_39 : decode cX10_undo 39 = .ok (.getfield 107, 3) := by decide +kernel
theorem dX10_undo_42 : decode cX10_undo 42 = .ok (.ireturn, 1) := by decide +kernel
theorem dX10_held_0 : decode cX10_held 0 = .ok (.aload_n 0, 1) := by decide +kernel
theorem dX10_held_1 : decode cX10_held 1 = .ok (.iconst 0, 1) := by decide +kernel
theorem dX10_held_2 : decode cX10_held 2 = .ok (.putfield 48, 3) := by decide +kernel
theorem dX10_held_5 : decode cX10_held 5 = .ok (.aload_n 0, 1) := by decide +kernel
theorem dX10_held_6 : decode cX10_held 6 = .ok (.iload_n 1, 1) := by decide +kernel
theorem dX10_held_7 : decode cX10_held 7 = .ok (.iload_n 2, 1) := by decide +kernel
theorem dX10_held_8 : decode cX10_held 8 = .ok (.invokevirtual 161, 3) := by decide +kernel
theorem dX10_held_11 : decode cX10_held 11 = .ok (.ifCond .eq 20, 3) := by decide +kernel
theorem dX10_held_14 : decode cX10_held 14 = .ok (.aload_n 0, 1) := by decide +kernel
theorem dX10_held_15 : decode cX10_held 15 = .ok (.aload_n 0, 1) := by decide +kernel
theorem dX10_held_16 : decode cX10_held 16 = .ok (.getfield 104, 3) := by decide +kernel
theorem dX10_held_19 : decode cX10_held 19 = .ok (.aload_n 0, 1) := by decide +kernel
theorem dX10_held_20 : decode cX10_held 20 = .ok (.iload_n 1, 1) := by decide +kernel
theorem dX10_held_21 : decode cX10_held 21 = .ok (.iload_n 2, 1) := by decide +kernel
theorem dX10_held_22 : decode cX10_held 22 = .ok (.invokevirtual 164, 3) := by decide +kernel
theorem dX10_held_25 : decode cX10_held 25 = .ok (.invokevirtual 147, 3) := by decide +kernel
theorem dX10_held_28 : decode cX10_held 28 = .ok (.goto 4, 3) := by decide +kernel
theorem dX10_held_31 : decode cX10_held 31 = .ok (.iconst (-1), 1) := by decide +kernel
theorem dX10_held_32 : decode cX10_held 32 = .ok (.ireturn, 1) := by decide +kernel
theorem dX10_extreme_0 : decode cX10_extreme 0 = .ok (.aload_n 0, 1) := by decide +kernel
theorem dX10_extreme_1 : decode cX10_extreme 1 = .ok (.iconst 0, 1) := by decide +kernel
theorem dX10_extreme_2 : decode cX10_extreme 2 = .ok (.putfield 48, 3) := by decide +kernel
theorem dX10_extreme_5 : decode cX10_extreme 5 = .ok (.iload_n 1, 1) := by decide +kernel
theorem dX10_extreme_6 : decode cX10_extreme 6 = .ok (.iconst 0, 1) := by decide +kernel
theorem dX10_extreme_7 : decode cX10_extreme 7 = .ok (.iconst 1, 1) := by decide +kernel
theorem dX10_extreme_8 : decode cX10_extreme 8 = .ok (.invokestatic 56, 3) := by decide +kernel
theorem dX10_extreme_11 : decode cX10_extreme 11 = .ok (.ifCond .ne 7, 3) := by decide +kernel
theorem dX10_extreme_14 : decode cX10_extreme 14 = .ok (.iconst (-1), 1) := by decide +kernel
theorem dX10_extreme_15 : decode cX10_extreme 15 = .ok (.goto 26, 3) := by decide +kernel
theorem dX10_extreme_18 : decode cX10_extreme 18 = .ok (.iload_n 1, 1) := by decide +kernel
theorem dX10_extreme_19 : decode cX10_extreme 19 = .ok (.ifCond .ne 14, 3) := by decide +kernel
theorem dX10_extreme_22 : decode cX10_extreme 22 = .ok (.aload_n 0, 1) := by decide +kernel
theorem dX10_extreme_23 : decode cX10_extreme 23 = .ok (.aload_n 0, 1) := by decide +kernel
theorem dX10_extreme_24 : decode cX10_extreme 24 = .ok (.getfield 104, 3) := by decide +kernel
theorem dX10_extreme_27 : decode cX10_extreme 27 = .ok (.invokevirtual 173, 3) := by decide +kernel
theorem dX10_extreme_30 : decode cX10_extreme 30 = .ok (.goto 11, 3) := by decide +kernel
theorem dX10_extreme_33 : decode cX10_extreme 33 = .ok (.aload_n 0, 1) := by decide +kernel
theorem dX10_extreme_34 : decode cX10_extreme 34 = .ok (.aload_n 0, 1) := by decide +kernel
theorem dX10_extreme_35 : decode cX10_extreme 35 = .ok (.getfield 104, 3) := by decide +kernel
theorem dX10_extreme_38 : decode cX10_extreme 38 = .ok (.invokevirtual 176, 3) := by decide +kernel
theorem dX10_extreme_41 : decode cX10_extreme 41 = .ok (.ireturn, 1) := by decide +kernel
theorem dX10_energy_0 : decode cX10_energy 0 = .ok (.aload_n 0, 1) := by decide +kernel
theorem dX10_energy_1 : decode cX10_energy 1 = .ok (.iconst 0, 1) := by decide +kernel
theorem dX10_energy_2 : decode cX10_energy 2 = .ok (.putfield 48, 3) := by decide +kernel
theorem dX10_energy_5 : decode cX10_energy 5 = .ok (.aload_n 0, 1) := by decide +kernel
theorem dX10_energy_6 : decode cX10_energy 6 = .ok (.aload_n 0, 1) := by decide +kernel
theorem dX10_energy_7 : decode cX10_energy 7 = .ok (.getfield 104, 3) := by decide +kernel
theorem dX10_energy_10 : decode cX10_energy 10 = .ok (.invokevirtual 179, 3) := by decide +kernel
theorem dX10_energy_13 : decode cX10_energy 13 = .ok (.ireturn, 1) := by decide +kernel
theorem dX10_tries_0 : decode cX10_tries 0 = .ok (.aload_n 0, 1) := by decide +kernel
theorem dX10_tries_1 : decode cX10_tries 1 = .ok (.iconst 0, 1) := by decide +kernel
theorem dX10_tries_2 : decode cX10_tries 2 = .ok (.putfield 186, 3) := by decide +kernel
theorem dX10_tries_5 : decode cX10_tries 5 = .ok (.aload_n 0, 1) := by decide +kernel
theorem dX10_tries_6 : decode cX10_tries 6 = .ok (.bipush (-9), 2) := by decide +kernel
theorem dX10_tries_8 : decode cX10_tries 8 = .ok (.putfield 189, 3) := by decide +kernel
theorem dX10_tries_11 : decode cX10_tries 11 = .ok (.aload_n 0, 1) := by decide +kernel
theorem dX10_tries_12 : decode cX10_tries 12 = .ok (.bipush (-9), 2) := by decide +kernel
theorem dX10_tries_14 : decode cX10_tries 14 = .ok (.putfield 192, 3) := by decide +kernel
theorem dX10_tries_17 : decode cX10_tries 17 = .ok (.iconst 0, 1) := by decide +kernel
theorem dX10_tries_18 : decode cX10_tries 18 = .ok (.istore_n 1, 1) := by decide +kernel
theorem dX10_tries_19 : decode cX10_tries 19 = .ok (.iload_n 1, 1) := by decide +kernel
theorem dX10_tries_20 : decode cX10_tries 20 = .ok (.aload_n 0, 1) := by decide +kernel
theorem dX10_tries_21 : decode cX10_tries 21 = .ok (.invokevirtual 125, 3) := by decide +kernel
theorem dX10_tries_24 : decode cX10_tries 24 = .ok (.if_icmp .ge 162, 3) := by decide +kernel
theorem dX10_tries_27 : decode cX10_tries 27 = .ok (.aload_n 0, 1) := by decide +kernel
theorem dX10_tries_28 : decode cX10_tries 28 = .ok (.getfield 104, 3) := by decide +kernel
theorem dX10_tries_31 : decode cX10_tries 31 = .ok (.lconst 1, 1) := by decide +kernel
theorem dX10_tries_32 : decode cX10_tries 32 = .ok (.iload_n 1, 1) := by decide +kernel
theorem dX10_tries_33 : decode cX10_tries 33 = .ok (.lshl, 1) := by decide +kernel
theorem dX10_tries_34 : decode cX10_tries 34 = .ok (.ldc2_w 159, 3) := by decide +kernel
theorem dX10_tries_37 : decode cX10_tries 37 = .ok (.lxor, 1) := by decide +kernel
theorem dX10_tries_38 : decode cX10_tries 38 = .ok (.land, 1) := by decide +kernel
theorem dX10_tries_39 : decode cX10_tries 39 = .ok (.lstore_n 2, 1) := by decide +kernel
theorem dX10_tries_40 : decode cX10_tries 40 = .ok (.iconst 0, 1) := by decide +kernel
theorem dX10_tries_41 : decode cX10_tries 41 = .ok (.istore 4, 2) := by decide +kernel
theorem dX10_tries_43 : decode cX10_tries 43 = .ok (.iload 4, 2) := by decide +kernel
theorem dX10_tries_45 : decode cX10_tries 45 = .ok (.aload_n 0, 1) := by decide +kernel
theorem dX10_tries_46 : decode cX10_tries 46 = .ok (.invokevirtual 125, 3) := by decide +kernel
theorem dX10_tries_49 : decode cX10_tries 49 = .ok (.if_icmp .ge 131, 3) := by decide +kernel
theorem dX10_tries_52 : decode cX10_tries 52 = .ok (.aload_n 0, 1) := by decide +kernel
theorem dX10_tries_53 : decode cX10_tries 53 = .ok (.getfield 104, 3) := by decide +kernel
theorem dX10_tries_56 : decode cX10_tries 56 = .ok (.iload_n 1, 1) := by decide +kernel
theorem dX10_tries_57 : decode cX10_tries 57 = .ok (.invokestatic 52, 3) := by decide +kernel
theorem dX10_tries_60 : decode cX10_tries 60 = .ok (.ifCond .eq 114, 3) := by decide +kernel
theorem dX10_tries_63 : decode cX10_tries 63 = .ok (.aload_n 0, 1) := by decide +kernel
theorem dX10_tries_64 : decode cX10_tries 64 = .ok (.getfield 104, 3) := by decide +kernel
theorem dX10_tries_67 : decode cX10_tries 67 = .ok (.aload_n 0, 1) := by decide +kernel
theorem dX10_tries_68 : decode cX10_tries 68 = .ok (.getfield 101, 3) := by decide +kernel
theorem dX10_tries_71 : decode cX10_tries 71 = .ok (.lor, 1) := by decide +kernel
theorem dX10_tries_72 : decode cX10_tries 72 = .ok (.iload 4, 2) := by decide +kernel
theorem dX10_tries_74 : decode cX10_tries 74 = .ok (.invokestatic 52, 3) := by decide +kernel
theorem dX10_tries_77 : decode cX10_tries 77 = .ok (.ifCond .ne 97, 3) := by decide +kernel
theorem dX10_tries_80 : decode cX10_tries 80 = .ok (.aload_n 0, 1) := by decide +kernel
theorem dX10_tries_81 : decode cX10_tries 81 = .ok (.lload_n 2, 1) := by decide +kernel
theorem dX10_tries_82 : decode cX10_tries 82 = .ok (.iload_n 1, 1) := by decide +kernel
theorem dX10_tries_83 : decode cX10_tries 83 = .ok (.invokevirtual 147, 3) := by decide +kernel
theorem dX10_tries_86 : decode cX10_tries 86 = .ok (.aload_n 0, 1) := by decide +kernel
theorem dX10_tries_87 : decode cX10_tries 87 = .ok (.lload_n 2, 1) := by decide +kernel
theorem dX10_tries_88 : decode cX10_tries 88 = .ok (.iload 4, 2) := by decide +kernel
theorem dX10_tries_90 : decode cX10_tries 90 = .ok (.invokevirtual 147, 3) := by decide +kernel
theorem dX10_tries_93 : decode cX10_tries 93 = .ok (.isub, 1) := by decide +kernel
theorem dX10_tries_94 : decode cX10_tries 94 = .ok (.istore 5, 2) := by decide +kernel
theorem dX10_tries_96 : decode cX10_tries 96 = .ok (.aload_n 0, 1) := by decide +kernel
theorem dX10_tries_97 : decode cX10_tries 97 = .ok (.getfield 189, 3) := by decide +kernel
theorem dX10_tries_100 : decode cX10_tries 100 = .ok (.bipush (-9), 2) := by decide +kernel
theorem dX10_tries_102 : decode cX10_tries 102 = .ok (.if_icmp .eq 12, 3) := by decide +kernel
theorem dX10_tries_105 : decode cX10_tries 105 = .ok (.iload 5, 2) := by decide +kernel
theorem dX10_tries_107 : decode cX10_tries 107 = .ok (.aload_n 0, 1) := by decide +kernel
theorem dX10_tries_108 : decode cX10_tries 108 = .ok (.getfield 186, 3) := by decide +kernel
theorem dX10_tries_111 : decode cX10_tries 111 = .ok (.if_icmp .le 7, 3) := by decide +kernel
theorem dX10_tries_114 : decode cX10_tries 114 = .ok (.iconst 1, 1) := by decide +kernel
theorem dX10_tries_115 : decode cX10_tries 115 = .ok (.goto 4, 3) := by decide +kernel
theorem dX10_tries_118 : decode cX10_tries 118 = .ok (.iconst 0, 1) := by decide +kernel
theorem dX10_tries_119 : decode cX10_tries 119 = .ok (.istore 6, 2) := by decide +kernel
theorem dX10_tries_121 : decode cX10_tries 121 = .ok (.aload_n 0, 1) := by decide +kernel
theorem dX10_tries_122 : decode cX10_tries 122 = .ok (.iload 6, 2) := by decide +kernel
theorem dX10_tries_124 : decode cX10_tries 124 = .ok (.ifCond .eq 8, 3) := by decide +kernel
theorem dX10_tries_127 : decode cX10_tries 127 = .ok (.iload 5, 2) := by decide +kernel
theorem dX10_tries_129 : decode cX10_tries 129 = .ok (.goto 7, 3) := by decide +kernel
theorem dX10_tries_132 : decode cX10_tries 132 = .ok (.aload_n 0, 1) := by decide +kernel
theorem dX10_tries_133 : decode cX10_tries 133 = .ok (.getfield 186, 3) := by decide +kernel
theorem dX10_tries_136 : decode cX10_tries 136 = .ok (.putfield 186, 3) := by decide +kernel
theorem dX10_tries_139 : decode cX10_tries 139 = .ok (.aload_n 0, 1) := by decide +kernel
theorem dX10_tries_140 : decode cX10_tries 140 = .ok (.iload 6, 2) := by decide +kernel
theorem dX10_tries_142 : decode cX10_tries 142 = .ok (.ifCond .eq 7, 3) := by decide +kernel
theorem dX10_tries_145 : decode cX10_tries 145 = .ok (.iload_n 1, 1) := by decide +kernel
theorem dX10_tries_146 : decode cX10_tries 146 = .ok (.goto 7, 3) := by decide +kernel
theorem dX10_tries_149 : decode cX10_tries 149 = .ok (.aload_n 0, 1) := by decide +kernel
theorem dX10_tries_150 : decode cX10_tries 150 = .ok (.getfield 189, 3) := by decide +kernel
theorem dX10_tries_153 : decode cX10_tries 153 = .ok (.putfield 189, 3) := by decide +kernel
theorem dX10_tries_156 : decode cX10_tries 156 = .ok (.aload_n 0, 1) := by decide +kernel
theorem dX10_tries_157 : decode cX10_tries 157 = .ok (.iload 6, 2) := by decide +kernel
theorem dX10_tries_159 : decode cX10_tries 159 = .ok (.ifCond .eq 8, 3) := by decide +kernel
theorem dX10_tries_162 : decode cX10_tries 162 = .ok (.iload 4, 2) := by decide +kernel
theorem dX10_tries_164 : decode cX10_tries 164 = .ok (.goto 7, 3) := by decide +kernel
theorem dX10_tries_167 : decode cX10_tries 167 = .ok (.aload_n 0, 1) := by decide +kernel
theorem dX10_tries_168 : decode cX10_tries 168 = .ok (.getfield 192, 3) := by decide +kernel
theorem dX10_tries_171 : decode cX10_tries 171 = .ok (.putfield 192, 3) := by decide +kernel
theorem dX10_tries_174 : decode cX10_tries 174 = .ok (.iinc 4 1, 3) := by decide +kernel
theorem dX10_tries_177 : decode cX10_tries 177 = .ok (.goto (-134), 3) := by decide +kernel
theorem dX10_tries_180 : decode cX10_tries 180 = .ok (.iinc 1 1, 3) := by decide +kernel
theorem dX10_tries_183 : decode cX10_tries 183 = .ok (.goto (-164), 3) := by decide +kernel
theorem dX10_tries_186 : decode cX10_tries 186 = .ok (.return_, 1) := by decide +kernel
theorem dX10_better_0 : decode cX10_better 0 = .ok (.aload_n 0, 1) := by decide +kernel
theorem dX10_better_1 : decode cX10_better 1 = .ok (.iconst 0, 1) := by decide +kernel
theorem dX10_better_2 : decode cX10_better 2 = .ok (.putfield 48, 3) := by decide +kernel
theorem dX10_better_5 : decode cX10_better 5 = .ok (.iload_n 1, 1) := by decide +kernel
theorem dX10_better_6 : decode cX10_better 6 = .ok (.iconst 0, 1) := by decide +kernel
theorem dX10_better_7 : decode cX10_better 7 = .ok (.iconst 2, 1) := by decide +kernel
theorem dX10_better_8 : decode cX10_better 8 = .ok (.invokestatic 56, 3) := by decide +kernel
theorem dX10_better_11 : decode cX10_better 11 = .ok (.ifCond .ne 5, 3) := by decide +kernel
theorem dX10_better_14 : decode cX10_better 14 = .ok (.iconst (-1), 1) := by decide +kernel
theorem dX10_better_15 : decode cX10_better 15 = .ok (.ireturn, 1) := by decide +kernel
theorem dX10_better_16 : decode cX10_better 16 = .ok (.aload_n 0, 1) := by decide +kernel
theorem dX10_better_17 : decode cX10_better 17 = .ok (.invokevirtual 195, 3) := by decide +kernel
theorem dX10_better_20 : decode cX10_better 20 = .ok (.iload_n 1, 1) := by decide +kernel
theorem dX10_better_21 : decode cX10_better 21 = .ok (.ifCond .ne 10, 3) := by decide +kernel
theorem dX10_better_24 : decode cX10_better 24 = .ok (.aload_n 0, 1) := by decide +kernel
theorem dX10_better_25 : decode cX10_better 25 = .ok (.getfield 186, 3) := by decide +kernel
theorem dX10_better_28 : decode cX10_better 28 = .ok (.goto 19, 3) := by decide +kernel
theorem dX10_better_31 : decode cX10_better 31 = .ok (.iload_n 1, 1) := by decide +kernel
theorem dX10_better_32 : decode cX10_better 32 = .ok (.iconst 1, 1) := by decide +kernel
theorem dX10_better_33 : decode cX10_better 33 = .ok (.if_icmp .ne 10, 3) := by decide +kernel
theorem dX10_better_36 : decode cX10_better 36 = .ok (.aload_n 0, 1) := by decide +kernel
theorem dX10_better_37 : decode cX10_better 37 = .ok (.getfield 189, 3) := by decide +kernel
theorem dX10_better_40 : decode cX10_better 40 = .ok (.goto 7, 3) := by decide +kernel
theorem dX10_better_43 : decode cX10_better 43 = .ok (.aload_n 0, 1) := by decide +kernel
theorem dX10_better_44 : decode cX10_better 44 = .ok (.getfield 192, 3) := by decide +kernel
theorem dX10_better_47 : decode cX10_better 47 = .ok (.ireturn, 1) := by decide +kernel
theorem dX10_shifted_0 : decode cX10_shifted 0 = .ok (.lconst 0, 1) := by decide +kernel
theorem dX10_shifted_1 : decode cX10_shifted 1 = .ok (.lstore 5, 2) := by decide +kernel
theorem dX10_shifted_3 : decode cX10_shifted 3 = .ok (.iconst 0, 1) := by decide +kernel
theorem dX10_shifted_4 : decode cX10_shifted 4 = .ok (.istore 7, 2) := by decide +kernel
theorem dX10_shifted_6 : decode cX10_shifted 6 = .ok (.iload 7, 2) := by decide +kernel
theorem dX10_shifted_8 : decode cX10_shifted 8 = .ok (.aload_n 0, 1) := by decide +kernel
theorem dX10_shifted_9 : decode cX10_shifted 9 = .ok (.invokevirtual 125, 3) := by decide +kernel
theorem dX10_shifted_12 : decode cX10_shifted 12 = .ok (.if_icmp .ge 78, 3) := by decide +kernel
theorem dX10_shifted_15 : decode cX10_shifted 15 = .ok (.iload 7, 2) := by decide +kernel
theorem dX10_shifted_17 : decode cX10_shifted 17 = .ok (.aload_n 0, 1) := by decide +kernel
theorem dX10_shifted_18 : decode cX10_shifted 18 = .ok (.getfield 7, 3) := by decide +kernel
theorem dX10_shifted_21 : decode cX10_shifted 21 = .ok (.iconst 0, 1) := by decide +kernel
theorem dX10_shifted_22 : decode cX10_shifted 22 = .ok (.iaload, 1) := by decide +kernel
theorem dX10_shifted_23 : decode cX10_shifted 23 = .ok (.irem, 1) := by decide +kernel
theorem dX10_shifted_24 : decode cX10_shifted 24 = .ok (.iload_n 3, 1) := by decide +kernel
theorem dX10_shifted_25 : decode cX10_shifted 25 = .ok (.iadd, 1) := by decide +kernel
theorem dX10_shifted_26 : decode cX10_shifted 26 = .ok (.aload_n 0, 1) := by decide +kernel
theorem dX10_shifted_27 : decode cX10_shifted 27 = .ok (.getfield 7, 3) := by decide +kernel
theorem dX10_shifted_30 : decode cX10_shifted 30 = .ok (.iconst 0, 1) := by decide +kernel
theorem dX10_shifted_31 : decode cX10_shifted 31 = .ok (.iaload, 1) := by decide +kernel
theorem dX10_shifted_32 : decode cX10_shifted 32 = .ok (.irem, 1) := by decide +kernel
theorem dX10_shifted_33 : decode cX10_shifted 33 = .ok (.istore 8, 2) := by decide +kernel
theorem dX10_shifted_35 : decode cX10_shifted 35 = .ok (.iload 7, 2) := by decide +kernel
theorem dX10_shifted_37 : decode cX10_shifted 37 = .ok (.aload_n 0, 1) := by decide +kernel
theorem dX10_shifted_38 : decode cX10_shifted 38 = .ok (.getfield 7, 3) := by decide +kernel
theorem dX10_shifted_41 : decode cX10_shifted 41 = .ok (.iconst 0, 1) := by decide +kernel
theorem dX10_shifted_42 : decode cX10_shifted 42 = .ok (.iaload, 1) := by decide +kernel
theorem dX10_shifted_43 : decode cX10_shifted 43 = .ok (.idiv, 1) := by decide +kernel
theorem dX10_shifted_44 : decode cX10_shifted 44 = .ok (.iload 4, 2) := by decide +kernel
theorem dX10_shifted_46 : decode cX10_shifted 46 = .ok (.iadd, 1) := by decide +kernel
theorem dX10_shifted_47 : decode cX10_shifted 47 = .ok (.aload_n 0, 1) := by decide +kernel
theorem dX10_shifted_48 : decode cX10_shifted 48 = .ok (.getfield 7, 3) := by decide +kernel
theorem dX10_shifted_51 : decode cX10_shifted 51 = .ok (.iconst 1, 1) := by decide +kernel
theorem dX10_shifted_52 : decode cX10_shifted 52 = .ok (.iaload, 1) := by decide +kernel
theorem dX10_shifted_53 : decode cX10_shifted 53 = .ok (.irem, 1) := by decide +kernel
theorem dX10_shifted_54 : decode cX10_shifted 54 = .ok (.istore 9, 2) := by decide +kernel
theorem dX10_shifted_56 : decode cX10_shifted 56 = .ok (.lload 5, 2) := by decide +kernel
theorem dX10_shifted_58 : decode cX10_shifted 58 = .ok (.lload_n 1, 1) := by decide +kernel
theorem dX10_shifted_59 : decode cX10_shifted 59 = .ok (.iload 7, 2) := by decide +kernel
theorem dX10_shifted_61 : decode cX10_shifted 61 = .ok (.invokestatic 52, 3) := by decide +kernel
theorem dX10_shifted_64 : decode cX10_shifted 64 = .ok (.ifCond .eq 16, 3) := by decide +kernel
theorem dX10_shifted_67 : decode cX10_shifted 67 = .ok (.lconst 1, 1) := by decide +kernel
theorem dX10_shifted_68 : decode cX10_shifted 68 = .ok (.aload_n 0, 1) := by decide +kernel
theorem dX10_shifted_69 : decode cX10_shifted 69 = .ok (.iload 8, 2) := by decide +kernel
theorem dX10_shifted_71 : decode cX10_shifted 71 = .ok (.iload 9, 2) := by decide +kernel
theorem dX10_shifted_73 : decode cX10_shifted 73 = .ok (.invokevirtual 164, 3) := by decide +kernel
theorem dX10_shifted_76 : decode cX10_shifted 76 = .ok (.lshl, 1) := by decide +kernel
theorem dX10_shifted_77 : decode cX10_shifted 77 = .ok (.goto 4, 3) := by decide +kernel
theorem dX10_shifted_80 : decode cX10_shifted 80 = .ok (.lconst 0, 1) := by decide +kernel
theorem dX10_shifted_81 : decode cX10_shifted 81 = .ok (.lor, 1) := by decide +kernel
theorem dX10_shifted_82 : decode cX10_shifted 82 = .ok (.lstore 5, 2) := by decide +kernel
theorem dX10_shifted_84 : decode cX10_shifted 84 = .ok (.iinc 7 1, 3) := by decide +kernel
theorem dX10_shifted_87 : decode cX10_shifted 87 = .ok (.goto (-81), 3) := by decide +kernel
theorem dX10_shifted_90 : decode cX10_shifted 90 = .ok (.lload 5, 2) := by decide +kernel
theorem dX10_shifted_92 : decode cX10_shifted 92 = .ok (.lreturn, 1) := by decide +kernel
theorem dX10_shifts_0 : decode cX10_shifts 0 = .ok (.aload_n 0, 1) := by decide +kernel
theorem dX10_shifts_1 : decode cX10_shifts 1 = .ok (.iconst 0, 1) := by decide +kernel
theorem dX10_shifts_2 : decode cX10_shifts 2 = .ok (.putfield 48, 3) := by decide +kernel
theorem dX10_shifts_5 : decode cX10_shifts 5 = .ok (.iconst 0, 1) := by decide +kernel
theorem dX10_shifts_6 : decode cX10_shifts 6 = .ok (.istore_n 1, 1) := by decide +kernel
theorem dX10_shifts_7 : decode cX10_shifts 7 = .ok (.iconst 0, 1) := by decide +kernel
theorem dX10_shifts_8 : decode cX10_shifts 8 = .ok (.istore_n 2, 1) := by decide +kernel
theorem dX10_shifts_9 : decode cX10_shifts 9 = .ok (.iload_n 2, 1) := by decide +kernel
theorem dX10_shifts_10 : decode cX10_shifts 10 = .ok (.aload_n 0, 1) := by decide +kernel
theorem dX10_shifts_11 : decode cX10_shifts 11 = .ok (.getfield 7, 3) := by decide +kernel
theorem dX10_shifts_14 : decode cX10_shifts 14 = .ok (.iconst 1, 1) := by decide +kernel
theorem dX10_shifts_15 : decode cX10_shifts 15 = .ok (.iaload, 1) := by decide +kernel
theorem dX10_shifts_16 : decode cX10_shifts 16 = .ok (.if_icmp .ge 71, 3) := by decide +kernel
theorem dX10_shifts_19 : decode cX10_shifts 19 = .ok (.iconst 0, 1) := by decide +kernel
theorem dX10_shifts_20 : decode cX10_shifts 20 = .ok (.istore_n 3, 1) := by decide +kernel
theorem dX10_shifts_21 : decode cX10_shifts 21 = .ok (.iload_n 3, 1) := by decide +kernel
theorem dX10_shifts_22 : decode cX10_shifts 22 = .ok (.aload_n 0, 1) := by decide +kernel
theorem dX10_shifts_23 : decode cX10_shifts 23 = .ok (.getfield 7, 3) := by decide +kernel
theorem dX10_shifts_26 : decode cX10_shifts 26 = .ok (.iconst 0, 1) := by decide +kernel
theorem dX10_shifts_27 : decode cX10_shifts 27 = .ok (.iaload, 1) := by decide +kernel
theorem dX10_shifts_28 : decode cX10_shifts 28 = .ok (.if_icmp .ge 53, 3) := by decide +kernel
theorem dX10_shifts_31 : decode cX10_shifts 31 = .ok (.iload_n 1, 1) := by decide +kernel
theorem dX10_shifts_32 : decode cX10_shifts 32 = .ok (.aload_n 0, 1) := by decide +kernel
theorem dX10_shifts_33 : decode cX10_shifts 33 = .ok (.aload_n 0, 1) := by decide +kernel
theorem dX10_shifts_34 : decode cX10_shifts 34 = .ok (.getfield 104, 3) := by decide +kernel
theorem dX10_shifts_37 : decode cX10_shifts 37 = .ok (.iload_n 3, 1) := by decide +kernel
theorem dX10_shifts_38 : decode cX10_shifts 38 = .ok (.iload_n 2, 1) := by decide +kernel
theorem dX10_shifts_39 : decode cX10_shifts 39 = .ok (.invokevirtual 198, 3) := by decide +kernel
theorem dX10_shifts_42 : decode cX10_shifts 42 = .ok (.aload_n 0, 1) := by decide +kernel
theorem dX10_shifts_43 : decode cX10_shifts 43 = .ok (.getfield 104, 3) := by decide +kernel
theorem dX10_shifts_46 : decode cX10_shifts 46 = .ok (.lcmp, 1) := by decide +kernel
theorem dX10_shifts_47 : decode cX10_shifts 47 = .ok (.ifCond .ne 25, 3) := by decide +kernel
theorem dX10_shifts_50 : decode cX10_shifts 50 = .ok (.aload_n 0, 1) := by decide +kernel
theorem dX10_shifts_51 : decode cX10_shifts 51 = .ok (.aload_n 0, 1) := by decide +kernel
theorem dX10_shifts_52 : decode cX10_shifts 52 = .ok (.getfield 101, 3) := by decide +kernel
theorem dX10_shifts_55 : decode cX10_shifts 55 = .ok (.iload_n 3, 1) := by decide +kernel
theorem dX10_shifts_56 : decode cX10_shifts 56 = .ok (.iload_n 2, 1) := by decide +kernel
theorem dX10_shifts_57 : decode cX10_shifts 57 = .ok (.invokevirtual 198, 3) := by decide +kernel
theorem dX10_shifts_60 : decode cX10_shifts 60 = .ok (.aload_n 0, 1) := by decide +kernel
theorem dX10_shifts_61 : decode cX10_shifts 61 = .ok (.getfield 101, 3) := by decide +kernel
theorem dX10_shifts_64 : decode cX10_shifts 64 = .ok (.lcmp, 1) := by decide +kernel
theorem dX10_shifts_65 : decode cX10_shifts 65 = .ok (.ifCond .ne 7, 3) := by decide +kernel
theorem dX10_shifts_68 : decode cX10_shifts 68 = .ok (.iconst 1, 1) := by decide +kernel
theorem dX10_shifts_69 : decode cX10_shifts 69 = .ok (.goto 4, 3) := by decide +kernel
theorem dX10_shifts_72 : decode cX10_shifts 72 = .ok (.iconst 0, 1) := by decide +kernel
theorem dX10_shifts_73 : decode cX10_shifts 73 = .ok (.iadd, 1) := by decide +kernel
theorem dX10_shifts_74 : decode cX10_shifts 74 = .ok (.istore_n 1, 1) := by decide +kernel
theorem dX10_shifts_75 : decode cX10_shifts 75 = .ok (.iinc 3 1, 3) := by decide +kernel
theorem dX10_shifts_78 : decode cX10_shifts 78 = .ok (.goto (-57), 3) := by decide +kernel
theorem dX10_shifts_81 : decode cX10_shifts 81 = .ok (.iinc 2 1, 3) := by decide +kernel
theorem dX10_shifts_84 : decode cX10_shifts 84 = .ok (.goto (-75), 3) := by decide +kernel
theorem dX10_shifts_87 : decode cX10_shifts 87 = .ok (.iload_n 1, 1) := by decide +kernel
theorem dX10_shifts_88 : decode cX10_shifts 88 = .ok (.ireturn, 1) := by decide +kernel
theorem dX10_ranks_0 : decode cX10_ranks 0 = .ok (.aload_n 0, 1) := by decide +kernel
theorem dX10_ranks_1 : decode cX10_ranks 1 = .ok (.getfield 104, 3) := by decide +kernel
theorem dX10_ranks_4 : decode cX10_ranks 4 = .ok (.lstore_n 1, 1) := by decide +kernel
theorem dX10_ranks_5 : decode cX10_ranks 5 = .ok (.aload_n 0, 1) := by decide +kernel
theorem dX10_ranks_6 : decode cX10_ranks 6 = .ok (.getfield 104, 3) := by decide +kernel
theorem dX10_ranks_9 : decode cX10_ranks 9 = .ok (.invokestatic 128, 3) := by decide +kernel
theorem dX10_ranks_12 : decode cX10_ranks 12 = .ok (.istore_n 3, 1) := by decide +kernel
theorem dX10_ranks_13 : decode cX10_ranks 13 = .ok (.iconst 0, 1) := by decide +kernel
theorem dX10_ranks_14 : decode cX10_ranks 14 = .ok (.istore 4, 2) := by decide +kernel
theorem dX10_ranks_16 : decode cX10_ranks 16 = .ok (.iload 4, 2) := by decide +kernel
theorem dX10_ranks_18 : decode cX10_ranks 18 = .ok (.bipush 64, 2) := by decide +kernel
theorem dX10_ranks_20 : decode cX10_ranks 20 = .ok (.if_icmp .ge 27, 3) := by decide +kernel
theorem dX10_ranks_23 : decode cX10_ranks 23 = .ok (.aload_n 0, 1) := by decide +kernel
theorem dX10_ranks_24 : decode cX10_ranks 24 = .ok (.getfield 33, 3) := by decide +kernel
theorem dX10_ranks_27 : decode cX10_ranks 27 = .ok (.iload 4, 2) := by decide +kernel
theorem dX10_ranks_29 : decode cX10_ranks 29 = .ok (.bipush (-9), 2) := by decide +kernel
theorem dX10_ranks_31 : decode cX10_ranks 31 = .ok (.iastore, 1) := by decide +kernel
theorem dX10_ranks_32 : decode cX10_ranks 32 = .ok (.aload_n 0, 1) := by decide +kernel
theorem dX10_ranks_33 : decode cX10_ranks 33 = .ok (.getfield 36, 3) := by decide +kernel
theorem dX10_ranks_36 : decode cX10_ranks 36 = .ok (.iload 4, 2) := by decide +kernel
theorem dX10_ranks_38 : decode cX10_ranks 38 = .ok (.bipush (-9), 2) := by decide +kernel
theorem dX10_ranks_40 : decode cX10_ranks 40 = .ok (.iastore, 1) := by decide +kernel
theorem dX10_ranks_41 : decode cX10_ranks 41 = .ok (.iinc 4 1, 3) := by decide +kernel
theorem dX10_ranks_44 : decode cX10_ranks 44 = .ok (.goto (-28), 3) := by decide +kernel
theorem dX10_ranks_47 : decode cX10_ranks 47 = .ok (.iload_n 3, 1) := by decide +kernel
theorem dX10_ranks_48 : decode cX10_ranks 48 = .ok (.ifCond .le 43, 3) := by decide +kernel
theorem dX10_ranks_51 : decode cX10_ranks 51 = .ok (.aload_n 0, 1) := by decide +kernel
theorem dX10_ranks_52 : decode cX10_ranks 52 = .ok (.lload_n 1, 1) := by decide +kernel
theorem dX10_ranks_53 : decode cX10_ranks 53 = .ok (.invokevirtual 173, 3) := by decide +kernel
theorem dX10_ranks_56 : decode cX10_ranks 56 = .ok (.istore 4, 2) := by decide +kernel
theorem dX10_ranks_58 : decode cX10_ranks 58 = .ok (.lload_n 1, 1) := by decide +kernel
theorem dX10_ranks_59 : decode cX10_ranks 59 = .ok (.lconst 1, 1) := by decide +kernel
theorem dX10_ranks_60 : decode cX10_ranks 60 = .ok (.iload 4, 2) := by decide +kernel
theorem dX10_ranks_62 : decode cX10_ranks 62 = .ok (.lshl, 1) := by decide +kernel
theorem dX10_ranks_63 : decode cX10_ranks 63 = .ok (.ldc2_w 159, 3) := by decide +kernel
theorem dX10_ranks_66 : decode cX10_ranks 66 = .ok (.lxor, 1) := by decide +kernel
theorem dX10_ranks_67 : decode cX10_ranks 67 = .ok (.land, 1) := by decide +kernel
theorem dX10_ranks_68 : decode cX10_ranks 68 = .ok (.lstore_n 1, 1) := by decide +kernel
theorem dX10_ranks_69 : decode cX10_ranks 69 = .ok (.iinc 3 (-1), 3) := by decide +kernel
theorem dX10_ranks_72 : decode cX10_ranks 72 = .ok (.aload_n 0, 1) := by decide +kernel
theorem dX10_ranks_73 : decode cX10_ranks 73 = .ok (.getfield 33, 3) := by decide +kernel
theorem dX10_ranks_76 : decode cX10_ranks 76 = .ok (.iload 4, 2) := by decide +kernel
theorem dX10_ranks_78 : decode cX10_ranks 78 = .ok (.iload_n 3, 1) := by decide +kernel
theorem dX10_ranks_79 : decode cX10_ranks 79 = .ok (.iastore, 1) := by decide +kernel
theorem dX10_ranks_80 : decode cX10_ranks 80 = .ok (.aload_n 0, 1) := by decide +kernel
theorem dX10_ranks_81 : decode cX10_ranks 81 = .ok (.getfield 36, 3) := by decide +kernel
theorem dX10_ranks_84 : decode cX10_ranks 84 = .ok (.iload 4, 2) := by decide +kernel
theorem dX10_ranks_86 : decode cX10_ranks 86 = .ok (.iconst 0, 1) := by decide +kernel
theorem dX10_ranks_87 : decode cX10_ranks 87 = .ok (.iastore, 1) := by decide +kernel
theorem dX10_ranks_88 : decode cX10_ranks 88 = .ok (.goto (-41), 3) := by decide +kernel
theorem dX10_ranks_91 : decode cX10_ranks 91 = .ok (.aload_n 0, 1) := by decide +kernel
theorem dX10_ranks_92 : decode cX10_ranks 92 = .ok (.getfield 104, 3) := by decide +kernel
theorem dX10_ranks_95 : decode cX10_ranks 95 = .ok (.lstore_n 1, 1) := by decide +kernel
theorem dX10_ranks_96 : decode cX10_ranks 96 = .ok (.aload_n 0, 1) := by decide +kernel
theorem dX10_ranks_97 : decode cX10_ranks 97 = .ok (.getfield 104, 3) := by decide +kernel
theorem dX10_ranks_100 : decode cX10_ranks 100 = .ok (.invokestatic 128, 3) := by decide +kernel
theorem dX10_ranks_103 : decode cX10_ranks 103 = .ok (.istore 4, 2) := by decide +kernel
theorem dX10_ranks_105 : decode cX10_ranks 105 = .ok (.aload_n 0, 1) := by decide +kernel
theorem dX10_ranks_106 : decode cX10_ranks 106 = .ok (.invokevirtual 201, 3) := by decide +kernel
theorem dX10_ranks_109 : decode cX10_ranks 109 = .ok (.istore 5, 2) := by decide +kernel
theorem dX10_ranks_111 : decode cX10_ranks 111 = .ok (.iload 4, 2) := by decide +kernel
theorem dX10_ranks_113 : decode cX10_ranks 113 = .ok (.iload 5, 2) := by decide +kernel
theorem dX10_ranks_115 : decode cX10_ranks 115 = .ok (.if_icmp .ge 96, 3) := by decide +kernel
theorem dX10_ranks_118 : decode cX10_ranks 118 = .ok (.iload 4, 2) := by decide +kernel
theorem dX10_ranks_120 : decode cX10_ranks 120 = .ok (.iload 5, 2) := by decide +kernel
theorem dX10_ranks_122 : decode cX10_ranks 122 = .ok (.iconst 1, 1) := by decide +kernel
theorem dX10_ranks_123 : decode cX10_ranks 123 = .ok (.iadd, 1) := by decide +kernel
theorem dX10_ranks_124 : decode cX10_ranks 124 = .ok (.iconst 2, 1) := by decide +kernel
theorem dX10_ranks_125 : decode cX10_ranks 125 = .ok (.idiv, 1) := by decide +kernel
theorem dX10_ranks_126 : decode cX10_ranks 126 = .ok (.if_icmp .ge 7, 3) := by decide +kernel
theorem dX10_ranks_129 : decode cX10_ranks 129 = .ok (.iconst 1, 1) := by decide +kernel
theorem dX10_ranks_130 : decode cX10_ranks 130 = .ok (.goto 4, 3) := by decide +kernel
theorem dX10_ranks_133 : decode cX10_ranks 133 = .ok (.iconst 0, 1) := by decide +kernel
theorem dX10_ranks_134 : decode cX10_ranks 134 = .ok (.istore 6, 2) := by decide +kernel
theorem dX10_ranks_136 : decode cX10_ranks 136 = .ok (.aload_n 0, 1) := by decide +kernel
theorem dX10_ranks_137 : decode cX10_ranks 137 = .ok (.invokevirtual 155, 3) := by decide +kernel
theorem dX10_ranks_140 : decode cX10_ranks 140 = .ok (.lload_n 1, 1) := by decide +kernel
theorem dX10_ranks_141 : decode cX10_ranks 141 = .ok (.ldc2_w 159, 3) := by decide +kernel
theorem dX10_ranks_144 : decode cX10_ranks 144 = .ok (.lxor, 1) := by decide +kernel
theorem dX10_ranks_145 : decode cX10_ranks 145 = .ok (.land, 1) := by decide +kernel
theorem dX10_ranks_146 : decode cX10_ranks 146 = .ok (.lstore 7, 2) := by decide +kernel
theorem dX10_ranks_148 : decode cX10_ranks 148 = .ok (.iload 6, 2) := by decide +kernel
theorem dX10_ranks_150 : decode cX10_ranks 150 = .ok (.ifCond .eq 11, 3) := by decide +kernel
theorem dX10_ranks_153 : decode cX10_ranks 153 = .ok (.aload_n 0, 1) := by decide +kernel
theorem dX10_ranks_154 : decode cX10_ranks 154 = .ok (.lload_n 1, 1) := by decide +kernel
theorem dX10_ranks_155 : decode cX10_ranks 155 = .ok (.invokevirtual 176, 3) := by decide +kernel
theorem dX10_ranks_158 : decode cX10_ranks 158 = .ok (.goto 12, 3) := by decide +kernel
theorem dX10_ranks_161 : decode cX10_ranks 161 = .ok (.aload_n 0, 1) := by decide +kernel
theorem dX10_ranks_162 : decode cX10_ranks 162 = .ok (.lload 7, 2) := by decide +kernel
theorem dX10_ranks_164 : decode cX10_ranks 164 = .ok (.lload 7, 2) := by decide +kernel
theorem dX10_ranks_166 : decode cX10_ranks 166 = .ok (.iconst 1, 1) := by decide +kernel
theorem dX10_ranks_167 : decode cX10_ranks 167 = .ok (.invokevirtual 151, 3) := by decide +kernel
theorem dX10_ranks_170 : decode cX10_ranks 170 = .ok (.istore 9, 2) := by decide +kernel
theorem dX10_ranks_172 : decode cX10_ranks 172 = .ok (.aload_n 0, 1) := by decide +kernel
theorem dX10_ranks_173 : decode cX10_ranks 173 = .ok (.getfield 33, 3) := by decide +kernel
theorem dX10_ranks_176 : decode cX10_ranks 176 = .ok (.iload 9, 2) := by decide +kernel
theorem dX10_ranks_178 : decode cX10_ranks 178 = .ok (.iload 4, 2) := by decide +kernel
theorem dX10_ranks_180 : decode cX10_ranks 180 = .ok (.iastore, 1) := by decide +kernel
theorem dX10_ranks_181 : decode cX10_ranks 181 = .ok (.aload_n 0, 1) := by decide +kernel
theorem dX10_ranks_182 : decode cX10_ranks 182 = .ok (.getfield 36, 3) := by decide +kernel
theorem dX10_ranks_185 : decode cX10_ranks 185 = .ok (.iload 9, 2) := by decide +kernel
theorem dX10_ranks_187 : decode cX10_ranks 187 = .ok (.iload 6, 2) := by decide +kernel
theorem dX10_ranks_189 : decode cX10_ranks 189 = .ok (.ifCond .eq 7, 3) := by decide +kernel
theorem dX10_ranks_192 : decode cX10_ranks 192 = .ok (.iconst 1, 1) := by decide +kernel
theorem dX10_ranks_193 : decode cX10_ranks 193 = .ok (.goto 4, 3) := by decide +kernel
theorem dX10_ranks_196 : decode cX10_ranks 196 = .ok (.iconst 2, 1) := by decide +kernel
theorem dX10_ranks_197 : decode cX10_ranks 197 = .ok (.iastore, 1) := by decide +kernel
theorem dX10_ranks_198 : decode cX10_ranks 198 = .ok (.lload_n 1, 1) := by decide +kernel
theorem dX10_ranks_199 : decode cX10_ranks 199 = .ok (.lconst 1, 1) := by decide +kernel
theorem dX10_ranks_200 : decode cX10_ranks 200 = .ok (.iload 9, 2) := by decide +kernel
theorem dX10_ranks_202 : decode cX10_ranks 202 = .ok (.lshl, 1) := by decide +kernel
theorem dX10_ranks_203 : decode cX10_ranks 203 = .ok (.lor, 1) := by decide +kernel
theorem dX10_ranks_204 : decode cX10_ranks 204 = .ok (.lstore_n 1, 1) := by decide +kernel
theorem dX10_ranks_205 : decode cX10_ranks 205 = .ok (.iinc 4 1, 3) := by decide +kernel
theorem dX10_ranks_208 : decode cX10_ranks 208 = .ok (.goto (-97), 3) := by decide +kernel
theorem dX10_ranks_211 : decode cX10_ranks 211 = .ok (.return_, 1) := by decide +kernel
theorem dX10_rank_0 : decode cX10_rank 0 = .ok (.aload_n 0, 1) := by decide +kernel
theorem dX10_rank_1 : decode cX10_rank 1 = .ok (.iconst 0, 1) := by decide +kernel
theorem dX10_rank_2 : decode cX10_rank 2 = .ok (.putfield 48, 3) := by decide +kernel
theorem dX10_rank_5 : decode cX10_rank 5 = .ok (.aload_n 0, 1) := by decide +kernel
theorem dX10_rank_6 : decode cX10_rank 6 = .ok (.iload_n 1, 1) := by decide +kernel
theorem dX10_rank_7 : decode cX10_rank 7 = .ok (.iload_n 2, 1) := by decide +kernel
theorem dX10_rank_8 : decode cX10_rank 8 = .ok (.invokevirtual 161, 3) := by decide +kernel
theorem dX10_rank_11 : decode cX10_rank 11 = .ok (.ifCond .ne 5, 3) := by decide +kernel
theorem dX10_rank_14 : decode cX10_rank 14 = .ok (.iconst (-1), 1) := by decide +kernel
theorem dX10_rank_15 : decode cX10_rank 15 = .ok (.ireturn, 1) := by decide +kernel
theorem dX10_rank_16 : decode cX10_rank 16 = .ok (.aload_n 0, 1) := by decide +kernel
theorem dX10_rank_17 : decode cX10_rank 17 = .ok (.getfield 104, 3) := by decide +kernel
theorem dX10_rank_20 : decode cX10_rank 20 = .ok (.lconst 0, 1) := by decide +kernel
theorem dX10_rank_21 : decode cX10_rank 21 = .ok (.lcmp, 1) := by decide +kernel
theorem dX10_rank_22 : decode cX10_rank 22 = .ok (.ifCond .ne 6, 3) := by decide +kernel
theorem dX10_rank_25 : decode cX10_rank 25 = .ok (.bipush (-2), 2) := by decide +kernel
theorem dX10_rank_27 : decode cX10_rank 27 = .ok (.ireturn, 1) := by decide +kernel
theorem dX10_rank_28 : decode cX10_rank 28 = .ok (.aload_n 0, 1) := by decide +kernel
theorem dX10_rank_29 : decode cX10_rank 29 = .ok (.invokevirtual 204, 3) := by decide +kernel
theorem dX10_rank_32 : decode cX10_rank 32 = .ok (.aload_n 0, 1) := by decide +kernel
theorem dX10_rank_33 : decode cX10_rank 33 = .ok (.getfield 33, 3) := by decide +kernel
theorem dX10_rank_36 : decode cX10_rank 36 = .ok (.aload_n 0, 1) := by decide +kernel
theorem dX10_rank_37 : decode cX10_rank 37 = .ok (.iload_n 1, 1) := by decide +kernel
theorem dX10_rank_38 : decode cX10_rank 38 = .ok (.iload_n 2, 1) := by decide +kernel
theorem dX10_rank_39 : decode cX10_rank 39 = .ok (.invokevirtual 164, 3) := by decide +kernel
theorem dX10_rank_42 : decode cX10_rank 42 = .ok (.iaload, 1) := by decide +kernel
theorem dX10_rank_43 : decode cX10_rank 43 = .ok (.ireturn, 1) := by decide +kernel
theorem dX10_ranked_0 : decode cX10_ranked 0 = .ok (.aload_n 0, 1) := by decide +kernel
theorem dX10_ranked_1 : decode cX10_ranked 1 = .ok (.iconst 0, 1) := by decide +kernel
theorem dX10_ranked_2 : decode cX10_ranked 2 = .ok (.putfield 48, 3) := by decide +kernel
theorem dX10_ranked_5 : decode cX10_ranked 5 = .ok (.iload_n 1, 1) := by decide +kernel
theorem dX10_ranked_6 : decode cX10_ranked 6 = .ok (.iconst 0, 1) := by decide +kernel
theorem dX10_ranked_7 : decode cX10_ranked 7 = .ok (.aload_n 0, 1) := by decide +kernel
theorem dX10_ranked_8 : decode cX10_ranked 8 = .ok (.invokevirtual 201, 3) := by decide +kernel
theorem dX10_ranked_11 : decode cX10_ranked 11 = .ok (.iconst 1, 1) := by decide +kernel
theorem dX10_ranked_12 : decode cX10_ranked 12 = .ok (.isub, 1) := by decide +kernel
theorem dX10_ranked_13 : decode cX10_ranked 13 = .ok (.invokestatic 56, 3) := by decide +kernel
theorem dX10_ranked_16 : decode cX10_ranked 16 = .ok (.ifCond .ne 5, 3) := by decide +kernel
theorem dX10_ranked_19 : decode cX10_ranked 19 = .ok (.iconst (-1), 1) := by decide +kernel
theorem dX10_ranked_20 : decode cX10_ranked 20 = .ok (.ireturn, 1) := by decide +kernel
theorem dX10_ranked_21 : decode cX10_ranked 21 = .ok (.aload_n 0, 1) := by decide +kernel
theorem dX10_ranked_22 : decode cX10_ranked 22 = .ok (.getfield 104, 3) := by decide +kernel
theorem dX10_ranked_25 : decode cX10_ranked 25 = .ok (.lconst 0, 1) := by decide +kernel
theorem dX10_ranked_26 : decode cX10_ranked 26 = .ok (.lcmp, 1) := by decide +kernel
theorem dX10_ranked_27 : decode cX10_ranked 27 = .ok (.ifCond .ne 6, 3) := by decide +kernel
theorem dX10_ranked_30 : decode cX10_ranked 30 = .ok (.bipush (-2), 2) := by decide +kernel
theorem dX10_ranked_32 : decode cX10_ranked 32 = .ok (.ireturn, 1) := by decide +kernel
theorem dX10_ranked_33 : decode cX10_ranked 33 = .ok (.aload_n 0, 1) := by decide +kernel
theorem dX10_ranked_34 : decode cX10_ranked 34 = .ok (.invokevirtual 204, 3) := by decide +kernel
theorem dX10_ranked_37 : decode cX10_ranked 37 = .ok (.iconst 0, 1) := by decide +kernel
theorem dX10_ranked_38 : decode cX10_ranked 38 = .ok (.istore_n 2, 1) := by decide +kernel
theorem dX10_ranked_39 : decode cX10_ranked 39 = .ok (.aload_n 0, 1) := by decide +kernel
theorem dX10_ranked_40 : decode cX10_ranked 40 = .ok (.getfield 33, 3) := by decide +kernel
theorem dX10_ranked_43 : decode cX10_ranked 43 = .ok (.iload_n 2, 1) := by decide +kernel
theorem dX10_ranked_44 : decode cX10_ranked 44 = .ok (.iaload, 1) := by decide +kernel
theorem dX10_ranked_45 : decode cX10_ranked 45 = .ok (.iload_n 1, 1) := by decide +kernel
theorem dX10_ranked_46 : decode cX10_ranked 46 = .ok (.if_icmp .eq 9, 3) := by decide +kernel
theorem dX10_ranked_49 : decode cX10_ranked 49 = .ok (.iinc 2 1, 3) := by decide +kernel
theorem dX10_ranked_52 : decode cX10_ranked 52 = .ok (.goto (-13), 3) := by decide +kernel
theorem dX10_ranked_55 : decode cX10_ranked 55 = .ok (.iload_n 2, 1) := by decide +kernel
theorem dX10_ranked_56 : decode cX10_ranked 56 = .ok (.ireturn, 1) := by decide +kernel
theorem dX10_stage_0 : decode cX10_stage 0 = .ok (.aload_n 0, 1) := by decide +kernel
theorem dX10_stage_1 : decode cX10_stage 1 = .ok (.iconst 0, 1) := by decide +kernel
theorem dX10_stage_2 : decode cX10_stage 2 = .ok (.putfield 48, 3) := by decide +kernel
theorem dX10_stage_5 : decode cX10_stage 5 = .ok (.aload_n 0, 1) := by decide +kernel
theorem dX10_stage_6 : decode cX10_stage 6 = .ok (.iload_n 1, 1) := by decide +kernel
theorem dX10_stage_7 : decode cX10_stage 7 = .ok (.iload_n 2, 1) := by decide +kernel
theorem dX10_stage_8 : decode cX10_stage 8 = .ok (.invokevirtual 161, 3) := by decide +kernel
theorem dX10_stage_11 : decode cX10_stage 11 = .ok (.ifCond .ne 5, 3) := by decide +kernel
theorem dX10_stage_14 : decode cX10_stage 14 = .ok (.iconst (-1), 1) := by decide +kernel
theorem dX10_stage_15 : decode cX10_stage 15 = .ok (.ireturn, 1) := by decide +kernel
theorem dX10_stage_16 : decode cX10_stage 16 = .ok (.aload_n 0, 1) := by decide +kernel
theorem dX10_stage_17 : decode cX10_stage 17 = .ok (.getfield 104, 3) := by decide +kernel
theorem dX10_stage_20 : decode cX10_stage 20 = .ok (.lconst 0, 1) := by decide +kernel
theorem dX10_stage_21 : decode cX10_stage 21 = .ok (.lcmp, 1) := by decide +kernel
theorem dX10_stage_22 : decode cX10_stage 22 = .ok (.ifCond .ne 6, 3) := by decide +kernel
theorem dX10_stage_25 : decode cX10_stage 25 = .ok (.bipush (-2), 2) := by decide +kernel
theorem dX10_stage_27 : decode cX10_stage 27 = .ok (.ireturn, 1) := by decide +kernel
theorem dX10_stage_28 : decode cX10_stage 28 = .ok (.aload_n 0, 1) := by decide +kernel
theorem dX10_stage_29 : decode cX10_stage 29 = .ok (.invokevirtual 204, 3) := by decide +kernel
theorem dX10_stage_32 : decode cX10_stage 32 = .ok (.aload_n 0, 1) := by decide +kernel
theorem dX10_stage_33 : decode cX10_stage 33 = .ok (.getfield 36, 3) := by decide +kernel
theorem dX10_stage_36 : decode cX10_stage 36 = .ok (.aload_n 0, 1) := by decide +kernel
theorem dX10_stage_37 : decode cX10_stage 37 = .ok (.iload_n 1, 1) := by decide +kernel
theorem dX10_stage_38 : decode cX10_stage 38 = .ok (.iload_n 2, 1) := by decide +kernel
theorem dX10_stage_39 : decode cX10_stage 39 = .ok (.invokevirtual 164, 3) := by decide +kernel
theorem dX10_stage_42 : decode cX10_stage 42 = .ok (.iaload, 1) := by decide +kernel
theorem dX10_stage_43 : decode cX10_stage 43 = .ok (.ireturn, 1) := by decide +kernel
theorem dX10_isIn_0 : decode cX10_isIn 0 = .ok (.aload_n 0, 1) := by decide +kernel
theorem dX10_isIn_1 : decode cX10_isIn 1 = .ok (.getfield 33, 3) := by decide +kernel
theorem dX10_isIn_4 : decode cX10_isIn 4 = .ok (.iload_n 1, 1) := by decide +kernel
theorem dX10_isIn_5 : decode cX10_isIn 5 = .ok (.iaload, 1) := by decide +kernel
theorem dX10_isIn_6 : decode cX10_isIn 6 = .ok (.ifCond .lt 17, 3) := by decide +kernel
theorem dX10_isIn_9 : decode cX10_isIn 9 = .ok (.aload_n 0, 1) := by decide +kernel
theorem dX10_isIn_10 : decode cX10_isIn 10 = .ok (.getfield 33, 3) := by decide +kernel
theorem dX10_isIn_13 : decode cX10_isIn 13 = .ok (.iload_n 1, 1) := by decide +kernel
theorem dX10_isIn_14 : decode cX10_isIn 14 = .ok (.iaload, 1) := by decide +kernel
theorem dX10_isIn_15 : decode cX10_isIn 15 = .ok (.iload_n 2, 1) := by decide +kernel
theorem dX10_isIn_16 : decode cX10_isIn 16 = .ok (.if_icmp .ge 7, 3) := by decide +kernel
theorem dX10_isIn_19 : decode cX10_isIn 19 = .ok (.iconst 1, 1) := by decide +kernel
theorem dX10_isIn_20 : decode cX10_isIn 20 = .ok (.goto 4, 3) := by decide +kernel
theorem dX10_isIn_23 : decode cX10_isIn 23 = .ok (.iconst 0, 1) := by decide +kernel
theorem dX10_isIn_24 : decode cX10_isIn 24 = .ok (.ireturn, 1) := by decide +kernel
theorem dX10_gapOf_0 : decode cX10_gapOf 0 = .ok (.bipush (-9), 2) := by decide +kernel
theorem dX10_gapOf_2 : decode cX10_gapOf 2 = .ok (.istore_n 2, 1) := by decide +kernel
theorem dX10_gapOf_3 : decode cX10_gapOf 3 = .ok (.iconst 0, 1) := by decide +kernel
theorem dX10_gapOf_4 : decode cX10_gapOf 4 = .ok (.istore_n 3, 1) := by decide +kernel
theorem dX10_gapOf_5 : decode cX10_gapOf 5 = .ok (.iload_n 3, 1) := by decide +kernel
theorem dX10_gapOf_6 : decode cX10_gapOf 6 = .ok (.aload_n 0, 1) := by decide +kernel
theorem dX10_gapOf_7 : decode cX10_gapOf 7 = .ok (.invokevirtual 125, 3) := by decide +kernel
theorem dX10_gapOf_10 : decode cX10_gapOf 10 = .ok (.if_icmp .ge 84, 3) := by decide +kernel
theorem dX10_gapOf_13 : decode cX10_gapOf 13 = .ok (.iconst 0, 1) := by decide +kernel
theorem dX10_gapOf_14 : decode cX10_gapOf 14 = .ok (.istore 4, 2) := by decide +kernel
theorem dX10_gapOf_16 : decode cX10_gapOf 16 = .ok (.iload 4, 2) := by decide +kernel
theorem dX10_gapOf_18 : decode cX10_gapOf 18 = .ok (.iload_n 3, 1) := by decide +kernel
theorem dX10_gapOf_19 : decode cX10_gapOf 19 = .ok (.if_icmp .ge 69, 3) := by decide +kernel
theorem dX10_gapOf_22 : decode cX10_gapOf 22 = .ok (.aload_n 0, 1) := by decide +kernel
theorem dX10_gapOf_23 : decode cX10_gapOf 23 = .ok (.iload_n 3, 1) := by decide +kernel
theorem dX10_gapOf_24 : decode cX10_gapOf 24 = .ok (.iload_n 1, 1) := by decide +kernel
theorem dX10_gapOf_25 : decode cX10_gapOf 25 = .ok (.invokevirtual 207, 3) := by decide +kernel
theorem dX10_gapOf_28 : decode cX10_gapOf 28 = .ok (.ifCond .eq 60, 3) := by decide +kernel
theorem dX10_gapOf_31 : decode cX10_gapOf 31 = .ok (.aload_n 0, 1) := by decide +kernel
theorem dX10_gapOf_32 : decode cX10_gapOf 32 = .ok (.iload 4, 2) := by decide +kernel
theorem dX10_gapOf_34 : decode cX10_gapOf 34 = .ok (.iload_n 1, 1) := by decide +kernel
theorem dX10_gapOf_35 : decode cX10_gapOf 35 = .ok (.invokevirtual 207, 3) := by decide +kernel
theorem dX10_gapOf_38 : decode cX10_gapOf 38 = .ok (.ifCond .eq 24, 3) := by decide +kernel
theorem dX10_gapOf_41 : decode cX10_gapOf 41 = .ok (.iload_n 2, 1) := by decide +kernel
theorem dX10_gapOf_42 : decode cX10_gapOf 42 = .ok (.bipush (-9), 2) := by decide +kernel
theorem dX10_gapOf_44 : decode cX10_gapOf 44 = .ok (.if_icmp .eq 14, 3) := by decide +kernel
theorem dX10_gapOf_47 : decode cX10_gapOf 47 = .ok (.aload_n 0, 1) := by decide +kernel
theorem dX10_gapOf_48 : decode cX10_gapOf 48 = .ok (.iload_n 3, 1) := by decide +kernel
theorem dX10_gapOf_49 : decode cX10_gapOf 49 = .ok (.iload 4, 2) := by decide +kernel
theorem dX10_gapOf_51 : decode cX10_gapOf 51 = .ok (.invokevirtual 136, 3) := by decide +kernel
theorem dX10_gapOf_54 : decode cX10_gapOf 54 = .ok (.iload_n 2, 1) := by decide +kernel
theorem dX10_gapOf_55 : decode cX10_gapOf 55 = .ok (.if_icmp .ge 7, 3) := by decide +kernel
theorem dX10_gapOf_58 : decode cX10_gapOf 58 = .ok (.iconst 1, 1) := by decide +kernel
theorem dX10_gapOf_59 : decode cX10_gapOf 59 = .ok (.goto 4, 3) := by decide +kernel
theorem dX10_gapOf_62 : decode cX10_gapOf 62 = .ok (.iconst 0, 1) := by decide +kernel
theorem dX10_gapOf_63 : decode cX10_gapOf 63 = .ok (.istore 5, 2) := by decide +kernel
theorem dX10_gapOf_65 : decode cX10_gapOf 65 = .ok (.iload 5, 2) := by decide +kernel
theorem dX10_gapOf_67 : decode cX10_gapOf 67 = .ok (.ifCond .eq 13, 3) := by decide +kernel
theorem dX10_gapOf_70 : decode cX10_gapOf 70 = .ok (.aload_n 0, 1) := by decide +kernel
theorem dX10_gapOf_71 : decode cX10_gapOf 71 = .ok (.iload_n 3, 1) := by decide +kernel
theorem dX10_gapOf_72 : decode cX10_gapOf 72 = .ok (.iload 4, 2) := by decide +kernel
theorem dX10_gapOf_74 : decode cX10_gapOf 74 = .ok (.invokevirtual 136, 3) := by decide +kernel
theorem dX10_gapOf_77 : decode cX10_gapOf 77 = .ok (.goto 4, 3) := by decide +kernel
theorem dX10_gapOf_80 : decode cX10_gapOf 80 = .ok (.iload_n 2, 1) := by decide +kernel
theorem dX10_gapOf_81 : decode cX10_gapOf 81 = .ok (.istore_n 2, 1) := by decide +kernel
theorem dX10_gapOf_82 : decode cX10_gapOf 82 = .ok (.iinc 4 1, 3) := by decide +kernel
theorem dX10_gapOf_85 : decode cX10_gapOf 85 = .ok (.goto (-69), 3) := by decide +kernel
theorem dX10_gapOf_88 : decode cX10_gapOf 88 = .ok (.iinc 3 1, 3) := by decide +kernel
theorem dX10_gapOf_91 : decode cX10_gapOf 91 = .ok (.goto (-86), 3) := by decide +kernel
theorem dX10_gapOf_94 : decode cX10_gapOf 94 = .ok (.iload_n 2, 1) := by decide +kernel
theorem dX10_gapOf_95 : decode cX10_gapOf 95 = .ok (.ireturn, 1) := by decide +kernel
theorem dX10_holeOf_0 : decode cX10_holeOf 0 = .ok (.bipush (-9), 2) := by decide +kernel
theorem dX10_holeOf_2 : decode cX10_holeOf 2 = .ok (.istore_n 2, 1) := by decide +kernel
theorem dX10_holeOf_3 : decode cX10_holeOf 3 = .ok (.iconst 0, 1) := by decide +kernel
theorem dX10_holeOf_4 : decode cX10_holeOf 4 = .ok (.istore_n 3, 1) := by decide +kernel
theorem dX10_holeOf_5 : decode cX10_holeOf 5 = .ok (.iload_n 3, 1) := by decide +kernel
theorem dX10_holeOf_6 : decode cX10_holeOf 6 = .ok (.aload_n 0, 1) := by decide +kernel
theorem dX10_holeOf_7 : decode cX10_holeOf 7 = .ok (.invokevirtual 125, 3) := by decide +kernel
theorem dX10_holeOf_10 : decode cX10_holeOf 10 = .ok (.if_icmp .ge 93, 3) := by decide +kernel
theorem dX10_holeOf_13 : decode cX10_holeOf 13 = .ok (.iload_n 1, 1) := by decide +kernel
theorem dX10_holeOf_14 : decode cX10_holeOf 14 = .ok (.ifCond .le 89, 3) := by decide +kernel
theorem dX10_holeOf_17 : decode cX10_holeOf 17 = .ok (.sipush 1000, 3) := by decide +kernel
theorem dX10_holeOf_20 : decode cX10_holeOf 20 = .ok (.istore 4, 2) := by decide +kernel
theorem dX10_holeOf_22 : decode cX10_holeOf 22 = .ok (.iconst 0, 1) := by decide +kernel
theorem dX10_holeOf_23 : decode cX10_holeOf 23 = .ok (.istore 5, 2) := by decide +kernel
theorem dX10_holeOf_25 : decode cX10_holeOf 25 = .ok (.iload 5, 2) := by decide +kernel
theorem dX10_holeOf_27 : decode cX10_holeOf 27 = .ok (.aload_n 0, 1) := by decide +kernel
theorem dX10_holeOf_28 : decode cX10_holeOf 28 = .ok (.invokevirtual 125, 3) := by decide +kernel
theorem dX10_holeOf_31 : decode cX10_holeOf 31 = .ok (.if_icmp .ge 45, 3) := by decide +kernel
theorem dX10_holeOf_34 : decode cX10_holeOf 34 = .ok (.aload_n 0, 1) := by decide +kernel
theorem dX10_holeOf_35 : decode cX10_holeOf 35 = .ok (.iload 5, 2) := by decide +kernel
theorem dX10_holeOf_37 : decode cX10_holeOf 37 = .ok (.iload_n 1, 1) := by decide +kernel
theorem dX10_holeOf_38 : decode cX10_holeOf 38 = .ok (.invokevirtual 207, 3) := by decide +kernel
theorem dX10_holeOf_41 : decode cX10_holeOf 41 = .ok (.ifCond .eq 25, 3) := by decide +kernel
theorem dX10_holeOf_44 : decode cX10_holeOf 44 = .ok (.aload_n 0, 1) := by decide +kernel
theorem dX10_holeOf_45 : decode cX10_holeOf 45 = .ok (.iload_n 3, 1) := by decide +kernel
theorem dX10_holeOf_46 : decode cX10_holeOf 46 = .ok (.iload 5, 2) := by decide +kernel
theorem dX10_holeOf_48 : decode cX10_holeOf 48 = .ok (.invokevirtual 136, 3) := by decide +kernel
theorem dX10_holeOf_51 : decode cX10_holeOf 51 = .ok (.iload 4, 2) := by decide +kernel
theorem dX10_holeOf_53 : decode cX10_holeOf 53 = .ok (.if_icmp .ge 13, 3) := by decide +kernel
theorem dX10_holeOf_56 : decode cX10_holeOf 56 = .ok (.aload_n 0, 1) := by decide +kernel
theorem dX10_holeOf_57 : decode cX10_holeOf 57 = .ok (.iload_n 3, 1) := by decide +kernel
theorem dX10_holeOf_58 : decode cX10_holeOf 58 = .ok (.iload 5, 2) := by decide +kernel
theorem dX10_holeOf_60 : decode cX10_holeOf 60 = .ok (.invokevirtual 136, 3) := by decide +kernel
theorem dX10_holeOf_63 : decode cX10_holeOf 63 = .ok (.goto 5, 3) := by decide +kernel
theorem dX10_holeOf_66 : decode cX10_holeOf 66 = .ok (.iload 4, 2) := by decide +kernel
theorem dX10_holeOf_68 : decode cX10_holeOf 68 = .ok (.istore 4, 2) := by decide +kernel
theorem dX10_holeOf_70 : decode cX10_holeOf 70 = .ok (.iinc 5 1, 3) := by decide +kernel
theorem dX10_holeOf_73 : decode cX10_holeOf 73 = .ok (.goto (-48), 3) := by decide +kernel
theorem dX10_holeOf_76 : decode cX10_holeOf 76 = .ok (.aload_n 0, 1) := by decide +kernel
theorem dX10_holeOf_77 : decode cX10_holeOf 77 = .ok (.iload_n 3, 1) := by decide +kernel
theorem dX10_holeOf_78 : decode cX10_holeOf 78 = .ok (.invokevirtual 144, 3) := by decide +kernel
theorem dX10_holeOf_81 : decode cX10_holeOf 81 = .ok (.ifCond .eq 14, 3) := by decide +kernel
theorem dX10_holeOf_84 : decode cX10_holeOf 84 = .ok (.iload 4, 2) := by decide +kernel
theorem dX10_holeOf_86 : decode cX10_holeOf 86 = .ok (.iload_n 2, 1) := by decide +kernel
theorem dX10_holeOf_87 : decode cX10_holeOf 87 = .ok (.if_icmp .le 8, 3) := by decide +kernel
theorem dX10_holeOf_90 : decode cX10_holeOf 90 = .ok (.iload 4, 2) := by decide +kernel
theorem dX10_holeOf_92 : decode cX10_holeOf 92 = .ok (.goto 4, 3) := by decide +kernel
theorem dX10_holeOf_95 : decode cX10_holeOf 95 = .ok (.iload_n 2, 1) := by decide +kernel
theorem dX10_holeOf_96 : decode cX10_holeOf 96 = .ok (.istore_n 2, 1) := by decide +kernel
theorem dX10_holeOf_97 : decode cX10_holeOf 97 = .ok (.iinc 3 1, 3) := by decide +kernel
theorem dX10_holeOf_100 : decode cX10_holeOf 100 = .ok (.goto (-95), 3) := by decide +kernel
theorem dX10_holeOf_103 : decode cX10_holeOf 103 = .ok (.iload_n 2, 1) := by decide +kernel
theorem dX10_holeOf_104 : decode cX10_holeOf 104 = .ok (.ireturn, 1) := by decide +kernel
theorem dX10_shade_0 : decode cX10_shade 0 = .ok (.aload_n 0, 1) := by decide +kernel
theorem dX10_shade_1 : decode cX10_shade 1 = .ok (.iconst 0, 1) := by decide +kernel
theorem dX10_shade_2 : decode cX10_shade 2 = .ok (.putfield 48, 3) := by decide +kernel
theorem dX10_shade_5 : decode cX10_shade 5 = .ok (.iload_n 1, 1) := by decide +kernel
theorem dX10_shade_6 : decode cX10_shade 6 = .ok (.iconst 0, 1) := by decide +kernel
theorem dX10_shade_7 : decode cX10_shade 7 = .ok (.aload_n 0, 1) := by decide +kernel
theorem dX10_shade_8 : decode cX10_shade 8 = .ok (.invokevirtual 201, 3) := by decide +kernel
theorem dX10_shade_11 : decode cX10_shade 11 = .ok (.invokestatic 56, 3) := by decide +kernel
theorem dX10_shade_14 : decode cX10_shade 14 = .ok (.ifCond .eq 12, 3) := by decide +kernel
theorem dX10_shade_17 : decode cX10_shade 17 = .ok (.iload_n 2, 1) := by decide +kernel
theorem dX10_shade_18 : decode cX10_shade 18 = .ok (.iconst 0, 1) := by decide +kernel
theorem dX10_shade_19 : decode cX10_shade 19 = .ok (.iconst 1, 1) := by decide +kernel
theorem dX10_shade_20 : decode cX10_shade 20 = .ok (.invokestatic 56, 3) := by decide +kernel
theorem dX10_shade_23 : decode cX10_shade 23 = .ok (.ifCond .ne 5, 3) := by decide +kernel
theorem dX10_shade_26 : decode cX10_shade 26 = .ok (.iconst (-1), 1) := by decide +kernel
theorem dX10_shade_27 : decode cX10_shade 27 = .ok (.ireturn, 1) := by decide +kernel
theorem dX10_shade_28 : decode cX10_shade 28 = .ok (.aload_n 0, 1) := by decide +kernel
theorem dX10_shade_29 : decode cX10_shade 29 = .ok (.getfield 104, 3) := by decide +kernel
theorem dX10_shade_32 : decode cX10_shade 32 = .ok (.lconst 0, 1) := by decide +kernel
theorem dX10_shade_33 : decode cX10_shade 33 = .ok (.lcmp, 1) := by decide +kernel
theorem dX10_shade_34 : decode cX10_shade 34 = .ok (.ifCond .ne 6, 3) := by decide +kernel
theorem dX10_shade_37 : decode cX10_shade 37 = .ok (.bipush (-2), 2) := by decide +kernel
theorem dX10_shade_39 : decode cX10_shade 39 = .ok (.ireturn, 1) := by decide +kernel
theorem dX10_shade_40 : decode cX10_shade 40 = .ok (.aload_n 0, 1) := by decide +kernel
theorem dX10_shade_41 : decode cX10_shade 41 = .ok (.invokevirtual 204, 3) := by decide +kernel
theorem dX10_shade_44 : decode cX10_shade 44 = .ok (.iload_n 2, 1) := by decide +kernel
theorem dX10_shade_45 : decode cX10_shade 45 = .ok (.ifCond .ne 11, 3) := by decide +kernel
theorem dX10_shade_48 : decode cX10_shade 48 = .ok (.aload_n 0, 1) := by decide +kernel
theorem dX10_shade_49 : decode cX10_shade 49 = .ok (.iload_n 1, 1) := by decide +kernel
theorem dX10_shade_50 : decode cX10_shade 50 = .ok (.invokevirtual 210, 3) := by decide +kernel
theorem dX10_shade_53 : decode cX10_shade 53 = .ok (.goto 8, 3) := by decide +kernel
theorem dX10_shade_56 : decode cX10_shade 56 = .ok (.aload_n 0, 1) := by decide +kernel
theorem dX10_shade_57 : decode cX10_shade 57 = .ok (.iload_n 1, 1) := by decide +kernel
theorem dX10_shade_58 : decode cX10_shade 58 = .ok (.invokevirtual 213, 3) := by decide +kernel
theorem dX10_shade_61 : decode cX10_shade 61 = .ok (.ireturn, 1) := by decide +kernel
theorem dX10_finest_0 : decode cX10_finest 0 = .ok (.aload_n 0, 1) := by decide +kernel
theorem dX10_finest_1 : decode cX10_finest 1 = .ok (.iconst 0, 1) := by decide +kernel
theorem dX10_finest_2 : decode cX10_finest 2 = .ok (.putfield 48, 3) := by decide +kernel
theorem dX10_finest_5 : decode cX10_finest 5 = .ok (.iload_n 1, 1) := by decide +kernel
theorem dX10_finest_6 : decode cX10_finest 6 = .ok (.iconst 0, 1) := by decide +kernel
theorem dX10_finest_7 : decode cX10_finest 7 = .ok (.sipush 999, 3) := by decide +kernel
theorem dX10_finest_10 : decode cX10_finest 10 = .ok (.invokestatic 56, 3) := by decide +kernel
theorem dX10_finest_13 : decode cX10_finest 13 = .ok (.ifCond .ne 5, 3) := by decide +kernel
theorem dX10_finest_16 : decode cX10_finest 16 = .ok (.iconst (-1), 1) := by decide +kernel
theorem dX10_finest_17 : decode cX10_finest 17 = .ok (.ireturn, 1) := by decide +kernel
theorem dX10_finest_18 : decode cX10_finest 18 = .ok (.aload_n 0, 1) := by decide +kernel
theorem dX10_finest_19 : decode cX10_finest 19 = .ok (.getfield 104, 3) := by decide +kernel
theorem dX10_finest_22 : decode cX10_finest 22 = .ok (.lconst 0, 1) := by decide +kernel
theorem dX10_finest_23 : decode cX10_finest 23 = .ok (.lcmp, 1) := by decide +kernel
theorem dX10_finest_24 : decode cX10_finest 24 = .ok (.ifCond .ne 6, 3) := by decide +kernel
theorem dX10_finest_27 : decode cX10_finest 27 = .ok (.bipush (-2), 2) := by decide +kernel
theorem dX10_finest_29 : decode cX10_finest 29 = .ok (.ireturn, 1) := by decide +kernel
theorem dX10_finest_30 : decode cX10_finest 30 = .ok (.aload_n 0, 1) := by decide +kernel
theorem dX10_finest_31 : decode cX10_finest 31 = .ok (.invokevirtual 204, 3) := by decide +kernel
theorem dX10_finest_34 : decode cX10_finest 34 = .ok (.aload_n 0, 1) := by decide +kernel
theorem dX10_finest_35 : decode cX10_finest 35 = .ok (.invokevirtual 201, 3) := by decide +kernel
theorem dX10_finest_38 : decode cX10_finest 38 = .ok (.istore_n 2, 1) := by decide +kernel
theorem dX10_finest_39 : decode cX10_finest 39 = .ok (.iload_n 2, 1) := by decide +kernel
theorem dX10_finest_40 : decode cX10_finest 40 = .ok (.iconst 1, 1) := by decide +kernel
theorem dX10_finest_41 : decode cX10_finest 41 = .ok (.if_icmp .le 18, 3) := by decide +kernel
theorem dX10_finest_44 : decode cX10_finest 44 = .ok (.aload_n 0, 1) := by decide +kernel
theorem dX10_finest_45 : decode cX10_finest 45 = .ok (.iload_n 2, 1) := by decide +kernel
theorem dX10_finest_46 : decode cX10_finest 46 = .ok (.invokevirtual 210, 3) := by decide +kernel
theorem dX10_finest_49 : decode cX10_finest 49 = .ok (.iload_n 1, 1) := by decide +kernel
theorem dX10_finest_50 : decode cX10_finest 50 = .ok (.if_icmp .ge 9, 3) := by decide +kernel
theorem dX10_finest_53 : decode cX10_finest 53 = .ok (.iinc 2 (-1), 3) := by decide +kernel
theorem dX10_finest_56 : decode cX10_finest 56 = .ok (.goto (-17), 3) := by decide +kernel
theorem dX10_finest_59 : decode cX10_finest 59 = .ok (.iload_n 2, 1) := by decide +kernel
theorem dX10_finest_60 : decode cX10_finest 60 = .ok (.ireturn, 1) := by decide +kernel
theorem dX10_level_0 : decode cX10_level 0 = .ok (.aload_n 0, 1) := by decide +kernel
theorem dX10_level_1 : decode cX10_level 1 = .ok (.getfield 113, 3) := by decide +kernel
theorem dX10_level_4 : decode cX10_level 4 = .ok (.iload_n 1, 1) := by decide +kernel
theorem dX10_level_5 : decode cX10_level 5 = .ok (.aload_n 0, 1) := by decide +kernel
theorem dX10_level_6 : decode cX10_level 6 = .ok (.getfield 7, 3) := by decide +kernel
theorem dX10_level_9 : decode cX10_level 9 = .ok (.iconst 0, 1) := by decide +kernel
theorem dX10_level_10 : decode cX10_level 10 = .ok (.iaload, 1) := by decide +kernel
theorem dX10_level_11 : decode cX10_level 11 = .ok (.irem, 1) := by decide +kernel
theorem dX10_level_12 : decode cX10_level 12 = .ok (.aload_n 0, 1) := by decide +kernel
theorem dX10_level_13 : decode cX10_level 13 = .ok (.getfield 116, 3) := by decide +kernel
theorem dX10_level_16 : decode cX10_level 16 = .ok (.imul, 1) := by decide +kernel
theorem dX10_level_17 : decode cX10_level 17 = .ok (.iadd, 1) := by decide +kernel
theorem dX10_level_18 : decode cX10_level 18 = .ok (.iload_n 1, 1) := by decide +kernel
theorem dX10_level_19 : decode cX10_level 19 = .ok (.aload_n 0, 1) := by decide +kernel
theorem dX10_level_20 : decode cX10_level 20 = .ok (.getfield 7, 3) := by decide +kernel
theorem dX10_level_23 : decode cX10_level 23 = .ok (.iconst 0, 1) := by decide +kernel
theorem dX10_level_24 : decode cX10_level 24 = .ok (.iaload, 1) := by decide +kernel
theorem dX10_level_25 : decode cX10_level 25 = .ok (.idiv, 1) := by decide +kernel
theorem dX10_level_26 : decode cX10_level 26 = .ok (.aload_n 0, 1) := by decide +kernel
theorem dX10_level_27 : decode cX10_level 27 = .ok (.getfield 119, 3) := by decide +kernel
theorem dX10_level_30 : decode cX10_level 30 = .ok (.imul, 1) := by decide +kernel
theorem dX10_level_31 : decode cX10_level 31 = .ok (.iadd, 1) := by decide +kernel
theorem dX10_level_32 : decode cX10_level 32 = .ok (.istore_n 2, 1) := by decide +kernel
theorem dX10_level_33 : decode cX10_level 33 = .ok (.iload_n 2, 1) := by decide +kernel
theorem dX10_level_34 : decode cX10_level 34 = .ok (.ifCond .ge 7, 3) := by decide +kernel
theorem dX10_level_37 : decode cX10_level 37 = .ok (.iconst 0, 1) := by decide +kernel
theorem dX10_level_38 : decode cX10_level 38 = .ok (.goto 19, 3) := by decide +kernel
theorem dX10_level_41 : decode cX10_level 41 = .ok (.iload_n 2, 1) := by decide +kernel
theorem dX10_level_42 : decode cX10_level 42 = .ok (.aload_n 0, 1) := by decide +kernel
theorem dX10_level_43 : decode cX10_level 43 = .ok (.invokevirtual 201, 3) := by decide +kernel
theorem dX10_level_46 : decode cX10_level 46 = .ok (.if_icmp .le 10, 3) := by decide +kernel
theorem dX10_level_49 : decode cX10_level 49 = .ok (.aload_n 0, 1) := by decide +kernel
theorem dX10_level_50 : decode cX10_level 50 = .ok (.invokevirtual 201, 3) := by decide +kernel
theorem dX10_level_53 : decode cX10_level 53 = .ok (.goto 4, 3) := by decide +kernel
theorem dX10_level_56 : decode cX10_level 56 = .ok (.iload_n 2, 1) := by decide +kernel
theorem dX10_level_57 : decode cX10_level 57 = .ok (.ireturn, 1) := by decide +kernel
theorem dX10_isInk_0 : decode cX10_isInk 0 = .ok (.aload_n 0, 1) := by decide +kernel
theorem dX10_isInk_1 : decode cX10_isInk 1 = .ok (.getfield 33, 3) := by decide +kernel
theorem dX10_isInk_4 : decode cX10_isInk 4 = .ok (.iload_n 1, 1) := by decide +kernel
theorem dX10_isInk_5 : decode cX10_isInk 5 = .ok (.iaload, 1) := by decide +kernel
theorem dX10_isInk_6 : decode cX10_isInk 6 = .ok (.ifCond .lt 21, 3) := by decide +kernel
theorem dX10_isInk_9 : decode cX10_isInk 9 = .ok (.aload_n 0, 1) := by decide +kernel
theorem dX10_isInk_10 : decode cX10_isInk 10 = .ok (.getfield 33, 3) := by decide +kernel
theorem dX10_isInk_13 : decode cX10_isInk 13 = .ok (.iload_n 1, 1) := by decide +kernel
theorem dX10_isInk_14 : decode cX10_isInk 14 = .ok (.iaload, 1) := by decide +kernel
theorem dX10_isInk_15 : decode cX10_isInk 15 = .ok (.aload_n 0, 1) := by decide +kernel
theorem dX10_isInk_16 : decode cX10_isInk 16 = .ok (.iload_n 1, 1) := by decide +kernel
theorem dX10_isInk_17 : decode cX10_isInk 17 = .ok (.invokevirtual 216, 3) := by decide +kernel
theorem dX10_isInk_20 : decode cX10_isInk 20 = .ok (.if_icmp .ge 7, 3) := by decide +kernel
theorem dX10_isInk_23 : decode cX10_isInk 23 = .ok (.iconst 1, 1) := by decide +kernel
theorem dX10_isInk_24 : decode cX10_isInk 24 = .ok (.goto 4, 3) := by decide +kernel
theorem dX10_isInk_27 : decode cX10_isInk 27 = .ok (.iconst 0, 1) := by decide +kernel
theorem dX10_isInk_28 : decode cX10_isInk 28 = .ok (.ireturn, 1) := by decide +kernel
theorem dX10_printed_0 : decode cX10_printed 0 = .ok (.iconst 0, 1) := by decide +kernel
theorem dX10_printed_1 : decode cX10_printed 1 = .ok (.istore_n 1, 1) := by decide +kernel
theorem dX10_printed_2 : decode cX10_printed 2 = .ok (.iconst 0, 1) := by decide +kernel
theorem dX10_printed_3 : decode cX10_printed 3 = .ok (.istore_n 2, 1) := by decide +kernel
theorem dX10_printed_4 : decode cX10_printed 4 = .ok (.iload_n 2, 1) := by decide +kernel
theorem dX10_printed_5 : decode cX10_printed 5 = .ok (.aload_n 0, 1) := by decide +kernel
theorem dX10_printed_6 : decode cX10_printed 6 = .ok (.invokevirtual 125, 3) := by decide +kernel
theorem dX10_printed_9 : decode cX10_printed 9 = .ok (.if_icmp .ge 25, 3) := by decide +kernel
theorem dX10_printed_12 : decode cX10_printed 12 = .ok (.iload_n 1, 1) := by decide +kernel
theorem dX10_printed_13 : decode cX10_printed 13 = .ok (.aload_n 0, 1) := by decide +kernel
theorem dX10_printed_14 : decode cX10_printed 14 = .ok (.iload_n 2, 1) := by decide +kernel
theorem dX10_printed_15 : decode cX10_printed 15 = .ok (.invokevirtual 219, 3) := by decide +kernel
theorem dX10_printed_18 : decode cX10_printed 18 = .ok (.ifCond .eq 7, 3) := by decide +kernel
theorem dX10_printed_21 : decode cX10_printed 21 = .ok (.iconst 1, 1) := by decide +kernel
theorem dX10_printed_22 : decode cX10_printed 22 = .ok (.goto 4, 3) := by decide +kernel
theorem dX10_printed_25 : decode cX10_printed 25 = .ok (.iconst 0, 1) := by decide +kernel
theorem dX10_printed_26 : decode cX10_printed 26 = .ok (.iadd, 1) := by decide +kernel
theorem dX10_printed_27 : decode cX10_printed 27 = .ok (.istore_n 1, 1) := by decide +kernel
theorem dX10_printed_28 : decode cX10_printed 28 = .ok (.iinc 2 1, 3) := by decide +kernel
theorem dX10_printed_31 : decode cX10_printed 31 = .ok (.goto (-27), 3) := by decide +kernel
theorem dX10_printed_34 : decode cX10_printed 34 = .ok (.iload_n 1, 1) := by decide +kernel
theorem dX10_printed_35 : decode cX10_printed 35 = .ok (.ireturn, 1) := by decide +kernel
theorem dX10_paints_0 : decode cX10_paints 0 = .ok (.aload_n 0, 1) := by decide +kernel
theorem dX10_paints_1 : decode cX10_paints 1 = .ok (.iconst 0, 1) := by decide +kernel
theorem dX10_paints_2 : decode cX10_paints 2 = .ok (.putfield 48, 3) := by decide +kernel
theorem dX10_paints_5 : decode cX10_paints 5 = .ok (.iload_n 1, 1) := by decide +kernel
theorem dX10_paints_6 : decode cX10_paints 6 = .ok (.iconst 0, 1) := by decide +kernel
theorem dX10_paints_7 : decode cX10_paints 7 = .ok (.bipush 64, 2) := by decide +kernel
theorem dX10_paints_9 : decode cX10_paints 9 = .ok (.invokestatic 56, 3) := by decide +kernel
theorem dX10_paints_12 : decode cX10_paints 12 = .ok (.ifCond .eq 25, 3) := by decide +kernel
theorem dX10_paints_15 : decode cX10_paints 15 = .ok (.iload_n 2, 1) := by decide +kernel
theorem dX10_paints_16 : decode cX10_paints 16 = .ok (.bipush (-9), 2) := by decide +kernel
theorem dX10_paints_18 : decode cX10_paints 18 = .ok (.bipush 9, 2) := by decide +kernel
theorem dX10_paints_20 : decode cX10_paints 20 = .ok (.invokestatic 56, 3) := by decide +kernel
theorem dX10_paints_23 : decode cX10_paints 23 = .ok (.ifCond .eq 14, 3) := by decide +kernel
theorem dX10_paints_26 : decode cX10_paints 26 = .ok (.iload_n 3, 1) := by decide +kernel
theorem dX10_paints_27 : decode cX10_paints 27 = .ok (.bipush (-9), 2) := by decide +kernel
theorem dX10_paints_29 : decode cX10_paints 29 = .ok (.bipush 9, 2) := by decide +kernel
theorem dX10_paints_31 : decode cX10_paints 31 = .ok (.invokestatic 56, 3) := by decide +kernel
theorem dX10_paints_34 : decode cX10_paints 34 = .ok (.ifCond .ne 5, 3) := by decide +kernel
theorem dX10_paints_37 : decode cX10_paints 37 = .ok (.iconst (-1), 1) := by decide +kernel
theorem dX10_paints_38 : decode cX10_paints 38 = .ok (.ireturn, 1) := by decide +kernel
theorem dX10_paints_39 : decode cX10_paints 39 = .ok (.aload_n 0, 1) := by decide +kernel
theorem dX10_paints_40 : decode cX10_paints 40 = .ok (.getfield 104, 3) := by decide +kernel
theorem dX10_paints_43 : decode cX10_paints 43 = .ok (.lconst 0, 1) := by decide +kernel
theorem dX10_paints_44 : decode cX10_paints 44 = .ok (.lcmp, 1) := by decide +kernel
theorem dX10_paints_45 : decode cX10_paints 45 = .ok (.ifCond .ne 6, 3) := by decide +kernel
theorem dX10_paints_48 : decode cX10_paints 48 = .ok (.bipush (-2), 2) := by decide +kernel
theorem dX10_paints_50 : decode cX10_paints 50 = .ok (.ireturn, 1) := by decide +kernel
theorem dX10_paints_51 : decode cX10_paints 51 = .ok (.aload_n 0, 1) := by decide +kernel
theorem dX10_paints_52 : decode cX10_paints 52 = .ok (.iload_n 1, 1) := by decide +kernel
theorem dX10_paints_53 : decode cX10_paints 53 = .ok (.putfield 113, 3) := by decide +kernel
theorem dX10_paints_56 : decode cX10_paints 56 = .ok (.aload_n 0, 1) := by decide +kernel
theorem dX10_paints_57 : decode cX10_paints 57 = .ok (.iload_n 2, 1) := by decide +kernel
theorem dX10_paints_58 : decode cX10_paints 58 = .ok (.putfield 116, 3) := by decide +kernel
theorem dX10_paints_61 : decode cX10_paints 61 = .ok (.aload_n 0, 1) := by decide +kernel
theorem dX10_paints_62 : decode cX10_paints 62 = .ok (.iload_n 3, 1) := by decide +kernel
theorem dX10_paints_63 : decode cX10_paints 63 = .ok (.putfield 119, 3) := by decide +kernel
theorem dX10_paints_66 : decode cX10_paints 66 = .ok (.aload_n 0, 1) := by decide +kernel
theorem dX10_paints_67 : decode cX10_paints 67 = .ok (.invokevirtual 204, 3) := by decide +kernel
theorem dX10_paints_70 : decode cX10_paints 70 = .ok (.aload_n 0, 1) := by decide +kernel
theorem dX10_paints_71 : decode cX10_paints 71 = .ok (.invokevirtual 222, 3) := by decide +kernel
theorem dX10_paints_74 : decode cX10_paints 74 = .ok (.ireturn, 1) := by decide +kernel
theorem dX10_ink_0 : decode cX10_ink 0 = .ok (.aload_n 0, 1) := by decide +kernel
theorem dX10_ink_1 : decode cX10_ink 1 = .ok (.iconst 0, 1) := by decide +kernel
theorem dX10_ink_2 : decode cX10_ink 2 = .ok (.putfield 48, 3) := by decide +kernel
theorem dX10_ink_5 : decode cX10_ink 5 = .ok (.aload_n 0, 1) := by decide +kernel
theorem dX10_ink_6 : decode cX10_ink 6 = .ok (.iload_n 1, 1) := by decide +kernel
theorem dX10_ink_7 : decode cX10_ink 7 = .ok (.iload_n 2, 1) := by decide +kernel
theorem dX10_ink_8 : decode cX10_ink 8 = .ok (.invokevirtual 161, 3) := by decide +kernel
theorem dX10_ink_11 : decode cX10_ink 11 = .ok (.ifCond .ne 5, 3) := by decide +kernel
theorem dX10_ink_14 : decode cX10_ink 14 = .ok (.iconst (-1), 1) := by decide +kernel
theorem dX10_ink_15 : decode cX10_ink 15 = .ok (.ireturn, 1) := by decide +kernel
theorem dX10_ink_16 : decode cX10_ink 16 = .ok (.aload_n 0, 1) := by decide +kernel
theorem dX10_ink_17 : decode cX10_ink 17 = .ok (.getfield 104, 3) := by decide +kernel
theorem dX10_ink_20 : decode cX10_ink 20 = .ok (.lconst 0, 1) := by decide +kernel
theorem dX10_ink_21 : decode cX10_ink 21 = .ok (.lcmp, 1) := by decide +kernel
theorem dX10_ink_22 : decode cX10_ink 22 = .ok (.ifCond .ne 6, 3) := by decide +kernel
theorem dX10_ink_25 : decode cX10_ink 25 = .ok (.bipush (-2), 2) := by decide +kernel
theorem dX10_ink_27 : decode cX10_ink 27 = .ok (.ireturn, 1) := by decide +kernel
theorem dX10_ink_28 : decode cX10_ink 28 = .ok (.aload_n 0, 1) := by decide +kernel
theorem dX10_ink_29 : decode cX10_ink 29 = .ok (.invokevirtual 204, 3) := by decide +kernel
theorem dX10_ink_32 : decode cX10_ink 32 = .ok (.aload_n 0, 1) := by decide +kernel
theorem dX10_ink_33 : decode cX10_ink 33 = .ok (.aload_n 0, 1) := by decide +kernel
theorem dX10_ink_34 : decode cX10_ink 34 = .ok (.iload_n 1, 1) := by decide +kernel
theorem dX10_ink_35 : decode cX10_ink 35 = .ok (.iload_n 2, 1) := by decide +kernel
theorem dX10_ink_36 : decode cX10_ink 36 = .ok (.invokevirtual 164, 3) := by decide +kernel
theorem dX10_ink_39 : decode cX10_ink 39 = .ok (.invokevirtual 219, 3) := by decide +kernel
theorem dX10_ink_42 : decode cX10_ink 42 = .ok (.ifCond .eq 7, 3) := by decide +kernel
theorem dX10_ink_45 : decode cX10_ink 45 = .ok (.iconst 1, 1) := by decide +kernel
theorem dX10_ink_46 : decode cX10_ink 46 = .ok (.goto 4, 3) := by decide +kernel
theorem dX10_ink_49 : decode cX10_ink 49 = .ok (.iconst 0, 1) := by decide +kernel
theorem dX10_ink_50 : decode cX10_ink 50 = .ok (.ireturn, 1) := by decide +kernel
theorem dX10_off_0 : decode cX10_off 0 = .ok (.aload_n 0, 1) := by decide +kernel
theorem dX10_off_1 : decode cX10_off 1 = .ok (.iconst 0, 1) := by decide +kernel
theorem dX10_off_2 : decode cX10_off 2 = .ok (.putfield 48, 3) := by decide +kernel
theorem dX10_off_5 : decode cX10_off 5 = .ok (.aload_n 0, 1) := by decide +kernel
theorem dX10_off_6 : decode cX10_off 6 = .ok (.getfield 104, 3) := by decide +kernel
theorem dX10_off_9 : decode cX10_off 9 = .ok (.lconst 0, 1) := by decide +kernel
theorem dX10_off_10 : decode cX10_off 10 = .ok (.lcmp, 1) := by decide +kernel
theorem dX10_off_11 : decode cX10_off 11 = .ok (.ifCond .ne 6, 3) := by decide +kernel
theorem dX10_off_14 : decode cX10_off 14 = .ok (.bipush (-2), 2) := by decide +kernel
theorem dX10_off_16 : decode cX10_off 16 = .ok (.ireturn, 1) := by decide +kernel
theorem dX10_off_17 : decode cX10_off 17 = .ok (.aload_n 0, 1) := by decide +kernel
theorem dX10_off_18 : decode cX10_off 18 = .ok (.invokevirtual 204, 3) := by decide +kernel
theorem dX10_off_21 : decode cX10_off 21 = .ok (.aload_n 0, 1) := by decide +kernel
theorem dX10_off_22 : decode cX10_off 22 = .ok (.invokevirtual 201, 3) := by decide +kernel
theorem dX10_off_25 : decode cX10_off 25 = .ok (.aload_n 0, 1) := by decide +kernel
theorem dX10_off_26 : decode cX10_off 26 = .ok (.invokevirtual 222, 3) := by decide +kernel
theorem dX10_off_29 : decode cX10_off 29 = .ok (.imul, 1) := by decide +kernel
theorem dX10_off_30 : decode cX10_off 30 = .ok (.istore_n 1, 1) := by decide +kernel
theorem dX10_off_31 : decode cX10_off 31 = .ok (.iconst 0, 1) := by decide +kernel
theorem dX10_off_32 : decode cX10_off 32 = .ok (.istore_n 2, 1) := by decide +kernel
theorem dX10_off_33 : decode cX10_off 33 = .ok (.iload_n 2, 1) := by decide +kernel
theorem dX10_off_34 : decode cX10_off 34 = .ok (.aload_n 0, 1) := by decide +kernel
theorem dX10_off_35 : decode cX10_off 35 = .ok (.invokevirtual 125, 3) := by decide +kernel
theorem dX10_off_38 : decode cX10_off 38 = .ok (.if_icmp .ge 29, 3) := by decide +kernel
theorem dX10_off_41 : decode cX10_off 41 = .ok (.iload_n 1, 1) := by decide +kernel
theorem dX10_off_42 : decode cX10_off 42 = .ok (.aload_n 0, 1) := by decide +kernel
theorem dX10_off_43 : decode cX10_off 43 = .ok (.iload_n 2, 1) := by decide +kernel
theorem dX10_off_44 : decode cX10_off 44 = .ok (.invokevirtual 144, 3) := by decide +kernel
theorem dX10_off_47 : decode cX10_off 47 = .ok (.ifCond .eq 11, 3) := by decide +kernel
theorem dX10_off_50 : decode cX10_off 50 = .ok (.aload_n 0, 1) := by decide +kernel
theorem dX10_off_51 : decode cX10_off 51 = .ok (.iload_n 2, 1) := by decide +kernel
theorem dX10_off_52 : decode cX10_off 52 = .ok (.invokevirtual 216, 3) := by decide +kernel
theorem dX10_off_55 : decode cX10_off 55 = .ok (.goto 4, 3) := by decide +kernel
theorem dX10_off_58 : decode cX10_off 58 = .ok (.iconst 0, 1) := by decide +kernel
theorem dX10_off_59 : decode cX10_off 59 = .ok (.isub, 1) := by decide +kernel
theorem dX10_off_60 : decode cX10_off 60 = .ok (.istore_n 1, 1) := by decide +kernel
theorem dX10_off_61 : decode cX10_off 61 = .ok (.iinc 2 1, 3) := by decide +kernel
theorem dX10_off_64 : decode cX10_off 64 = .ok (.goto (-31), 3) := by decide +kernel
theorem dX10_off_67 : decode cX10_off 67 = .ok (.iload_n 1, 1) := by decide +kernel
theorem dX10_off_68 : decode cX10_off 68 = .ok (.ireturn, 1) := by decide +kernel
theorem dX10_sees_0 : decode cX10_sees 0 = .ok (.aload_n 0, 1) := by decide +kernel
theorem dX10_sees_1 : decode cX10_sees 1 = .ok (.iconst 0, 1) := by decide +kernel
theorem dX10_sees_2 : decode cX10_sees 2 = .ok (.putfield 48, 3) := by decide +kernel
theorem dX10_sees_5 : decode cX10_sees 5 = .ok (.iload_n 1, 1) := by decide +kernel
theorem dX10_sees_6 : decode cX10_sees 6 = .ok (.iconst 0, 1) := by decide +kernel
theorem dX10_sees_7 : decode cX10_sees 7 = .ok (.aload_n 0, 1) := by decide +kernel
theorem dX10_sees_8 : decode cX10_sees 8 = .ok (.getfield 7, 3) := by decide +kernel
theorem dX10_sees_11 : decode cX10_sees 11 = .ok (.iconst 1, 1) := by decide +kernel
theorem dX10_sees_12 : decode cX10_sees 12 = .ok (.iaload, 1) := by decide +kernel
theorem dX10_sees_13 : decode cX10_sees 13 = .ok (.iconst 1, 1) := by decide +kernel
theorem dX10_sees_14 : decode cX10_sees 14 = .ok (.isub, 1) := by decide +kernel
theorem dX10_sees_15 : decode cX10_sees 15 = .ok (.invokestatic 56, 3) := by decide +kernel
theorem dX10_sees_18 : decode cX10_sees 18 = .ok (.ifCond .ne 21, 3) := by decide +kernel
theorem dX10_sees_21 : decode cX10_sees 21 = .ok (.iload_n 1, 1) := by decide +kernel
theorem dX10_sees_22 : decode cX10_sees 22 = .ok (.bipush 8, 2) := by decide +kernel
theorem dX10_sees_24 : decode cX10_sees 24 = .ok (.bipush 7, 2) := by decide +kernel
theorem dX10_sees_26 : decode cX10_sees 26 = .ok (.aload_n 0, 1) := by decide +kernel
theorem dX10_sees_27 : decode cX10_sees 27 = .ok (.getfield 7, 3) := by decide +kernel
theorem dX10_sees_30 : decode cX10_sees 30 = .ok (.iconst 0, 1) := by decide +kernel
theorem dX10_sees_31 : decode cX10_sees 31 = .ok (.iaload, 1) := by decide +kernel
theorem dX10_sees_32 : decode cX10_sees 32 = .ok (.iadd, 1) := by decide +kernel
theorem dX10_sees_33 : decode cX10_sees 33 = .ok (.invokestatic 56, 3) := by decide +kernel
theorem dX10_sees_36 : decode cX10_sees 36 = .ok (.ifCond .eq 13, 3) := by decide +kernel
theorem dX10_sees_39 : decode cX10_sees 39 = .ok (.iload_n 2, 1) := by decide +kernel
theorem dX10_sees_40 : decode cX10_sees 40 = .ok (.iconst 0, 1) := by decide +kernel
theorem dX10_sees_41 : decode cX10_sees 41 = .ok (.bipush 8, 2) := by decide +kernel
theorem dX10_sees_43 : decode cX10_sees 43 = .ok (.invokestatic 56, 3) := by decide +kernel
theorem dX10_sees_46 : decode cX10_sees 46 = .ok (.ifCond .ne 5, 3) := by decide +kernel
theorem dX10_sees_49 : decode cX10_sees 49 = .ok (.iconst (-1), 1) := by decide +kernel
theorem dX10_sees_50 : decode cX10_sees 50 = .ok (.ireturn, 1) := by decide +kernel
theorem dX10_sees_51 : decode cX10_sees 51 = .ok (.aload_n 0, 1) := by decide +kernel
theorem dX10_sees_52 : decode cX10_sees 52 = .ok (.getfield 110, 3) := by decide +kernel
theorem dX10_sees_55 : decode cX10_sees 55 = .ok (.bipush 6, 2) := by decide +kernel
theorem dX10_sees_57 : decode cX10_sees 57 = .ok (.if_icmp .ne 6, 3) := by decide +kernel
theorem dX10_sees_60 : decode cX10_sees 60 = .ok (.bipush (-3), 2) := by decide +kernel
theorem dX10_sees_62 : decode cX10_sees 62 = .ok (.ireturn, 1) := by decide +kernel
theorem dX10_sees_63 : decode cX10_sees 63 = .ok (.aload_n 0, 1) := by decide +kernel
theorem dX10_sees_64 : decode cX10_sees 64 = .ok (.getfield 27, 3) := by decide +kernel
theorem dX10_sees_67 : decode cX10_sees 67 = .ok (.aload_n 0, 1) := by decide +kernel
theorem dX10_sees_68 : decode cX10_sees 68 = .ok (.getfield 110, 3) := by decide +kernel
theorem dX10_sees_71 : decode cX10_sees 71 = .ok (.iload_n 1, 1) := by decide +kernel
theorem dX10_sees_72 : decode cX10_sees 72 = .ok (.iastore, 1) := by decide +kernel
theorem dX10_sees_73 : decode cX10_sees 73 = .ok (.aload_n 0, 1) := by decide +kernel
theorem dX10_sees_74 : decode cX10_sees 74 = .ok (.getfield 30, 3) := by decide +kernel
theorem dX10_sees_77 : decode cX10_sees 77 = .ok (.aload_n 0, 1) := by decide +kernel
theorem dX10_sees_78 : decode cX10_sees 78 = .ok (.getfield 110, 3) := by decide +kernel
theorem dX10_sees_81 : decode cX10_sees 81 = .ok (.iload_n 2, 1) := by decide +kernel
theorem dX10_sees_82 : decode cX10_sees 82 = .ok (.iastore, 1) := by decide +kernel
theorem dX10_sees_83 : decode cX10_sees 83 = .ok (.aload_n 0, 1) := by decide +kernel
theorem dX10_sees_84 : decode cX10_sees 84 = .ok (.dup, 1) := by decide +kernel
theorem dX10_sees_85 : decode cX10_sees 85 = .ok (.getfield 110, 3) := by decide +kernel
theorem dX10_sees_88 : decode cX10_sees 88 = .ok (.iconst 1, 1) := by decide +kernel
theorem dX10_sees_89 : decode cX10_sees 89 = .ok (.iadd, 1) := by decide +kernel
theorem dX10_sees_90 : decode cX10_sees 90 = .ok (.putfield 110, 3) := by decide +kernel
theorem dX10_sees_93 : decode cX10_sees 93 = .ok (.aload_n 0, 1) := by decide +kernel
theorem dX10_sees_94 : decode cX10_sees 94 = .ok (.getfield 110, 3) := by decide +kernel
theorem dX10_sees_97 : decode cX10_sees 97 = .ok (.ireturn, 1) := by decide +kernel
theorem dX10_forget_0 : decode cX10_forget 0 = .ok (.aload_n 0, 1) := by decide +kernel
theorem dX10_forget_1 : decode cX10_forget 1 = .ok (.iconst 0, 1) := by decide +kernel
theorem dX10_forget_2 : decode cX10_forget 2 = .ok (.putfield 48, 3) := by decide +kernel
theorem dX10_forget_5 : decode cX10_forget 5 = .ok (.aload_n 0, 1) := by decide +kernel
theorem dX10_forget_6 : decode cX10_forget 6 = .ok (.getfield 110, 3) := by decide +kernel
theorem dX10_forget_9 : decode cX10_forget 9 = .ok (.istore_n 1, 1) := by decide +kernel
theorem dX10_forget_10 : decode cX10_forget 10 = .ok (.aload_n 0, 1) := by decide +kernel
theorem dX10_forget_11 : decode cX10_forget 11 = .ok (.iconst 0, 1) := by decide +kernel
theorem dX10_forget_12 : decode cX10_forget 12 = .ok (.putfield 110, 3) := by decide +kernel
theorem dX10_forget_15 : decode cX10_forget 15 = .ok (.iload_n 1, 1) := by decide +kernel
theorem dX10_forget_16 : decode cX10_forget 16 = .ok (.ireturn, 1) := by decide +kernel
theorem dX10_inLine_0 : decode cX10_inLine 0 = .ok (.iconst 0, 1) := by decide +kernel
theorem dX10_inLine_1 : decode cX10_inLine 1 = .ok (.istore_n 3, 1) := by decide +kernel
theorem dX10_inLine_2 : decode cX10_inLine 2 = .ok (.iconst 0, 1) := by decide +kernel
theorem dX10_inLine_3 : decode cX10_inLine 3 = .ok (.istore 4, 2) := by decide +kernel
theorem dX10_inLine_5 : decode cX10_inLine 5 = .ok (.iload 4, 2) := by decide +kernel
theorem dX10_inLine_7 : decode cX10_inLine 7 = .ok (.aload_n 0, 1) := by decide +kernel
theorem dX10_inLine_8 : decode cX10_inLine 8 = .ok (.invokevirtual 125, 3) := by decide +kernel
theorem dX10_inLine_11 : decode cX10_inLine 11 = .ok (.if_icmp .ge 82, 3) := by decide +kernel
theorem dX10_inLine_14 : decode cX10_inLine 14 = .ok (.iload_n 1, 1) := by decide +kernel
theorem dX10_inLine_15 : decode cX10_inLine 15 = .ok (.bipush 8, 2) := by decide +kernel
theorem dX10_inLine_17 : decode cX10_inLine 17 = .ok (.if_icmp .ge 24, 3) := by decide +kernel
theorem dX10_inLine_20 : decode cX10_inLine 20 = .ok (.iload 4, 2) := by decide +kernel
theorem dX10_inLine_22 : decode cX10_inLine 22 = .ok (.aload_n 0, 1) := by decide +kernel
theorem dX10_inLine_23 : decode cX10_inLine 23 = .ok (.getfield 7, 3) := by decide +kernel
theorem dX10_inLine_26 : decode cX10_inLine 26 = .ok (.iconst 0, 1) := by decide +kernel
theorem dX10_inLine_27 : decode cX10_inLine 27 = .ok (.iaload, 1) := by decide +kernel
theorem dX10_inLine_28 : decode cX10_inLine 28 = .ok (.idiv, 1) := by decide +kernel
theorem dX10_inLine_29 : decode cX10_inLine 29 = .ok (.iload_n 1, 1) := by decide +kernel
theorem dX10_inLine_30 : decode cX10_inLine 30 = .ok (.if_icmp .ne 7, 3) := by decide +kernel
theorem dX10_inLine_33 : decode cX10_inLine 33 = .ok (.iconst 1, 1) := by decide +kernel
theorem dX10_inLine_34 : decode cX10_inLine 34 = .ok (.goto 28, 3) := by decide +kernel
theorem dX10_inLine_37 : decode cX10_inLine 37 = .ok (.iconst 0, 1) := by decide +kernel
theorem dX10_inLine_38 : decode cX10_inLine 38 = .ok (.goto 24, 3) := by decide +kernel
theorem dX10_inLine_41 : decode cX10_inLine 41 = .ok (.iload 4, 2) := by decide +kernel
theorem dX10_inLine_43 : decode cX10_inLine 43 = .ok (.aload_n 0, 1) := by decide +kernel
theorem dX10_inLine_44 : decode cX10_inLine 44 = .ok (.getfield 7, 3) := by decide +kernel
theorem dX10_inLine_47 : decode cX10_inLine 47 = .ok (.iconst 0, 1) := by decide +kernel
theorem dX10_inLine_48 : decode cX10_inLine 48 = .ok (.iaload, 1) := by decide +kernel
theorem dX10_inLine_49 : decode cX10_inLine 49 = .ok (.irem, 1) := by decide +kernel
theorem dX10_inLine_50 : decode cX10_inLine 50 = .ok (.iload_n 1, 1) := by decide +kernel
theorem dX10_inLine_51 : decode cX10_inLine 51 = .ok (.bipush 8, 2) := by decide +kernel
theorem dX10_inLine_53 : decode cX10_inLine 53 = .ok (.isub, 1) := by decide +kernel
theorem dX10_inLine_54 : decode cX10_inLine 54 = .ok (.if_icmp .ne 7, 3) := by decide +kernel
theorem dX10_inLine_57 : decode cX10_inLine 57 = .ok (.iconst 1, 1) := by decide +kernel
theorem dX10_inLine_58 : decode cX10_inLine 58 = .ok (.goto 4, 3) := by decide +kernel
theorem dX10_inLine_61 : decode cX10_inLine 61 = .ok (.iconst 0, 1) := by decide +kernel
theorem dX10_inLine_62 : decode cX10_inLine 62 = .ok (.istore 5, 2) := by decide +kernel
theorem dX10_inLine_64 : decode cX10_inLine 64 = .ok (.iload_n 3, 1) := by decide +kernel
theorem dX10_inLine_65 : decode cX10_inLine 65 = .ok (.iload 5, 2) := by decide +kernel
theorem dX10_inLine_67 : decode cX10_inLine 67 = .ok (.ifCond .eq 17, 3) := by decide +kernel
theorem dX10_inLine_70 : decode cX10_inLine 70 = .ok (.aload_n 0, 1) := by decide +kernel
theorem dX10_inLine_71 : decode cX10_inLine 71 = .ok (.iload 4, 2) := by decide +kernel
theorem dX10_inLine_73 : decode cX10_inLine 73 = .ok (.iload_n 2, 1) := by decide +kernel
theorem dX10_inLine_74 : decode cX10_inLine 74 = .ok (.invokevirtual 207, 3) := by decide +kernel
theorem dX10_inLine_77 : decode cX10_inLine 77 = .ok (.ifCond .eq 7, 3) := by decide +kernel
theorem dX10_inLine_80 : decode cX10_inLine 80 = .ok (.iconst 1, 1) := by decide +kernel
theorem dX10_inLine_81 : decode cX10_inLine 81 = .ok (.goto 4, 3) := by decide +kernel
theorem dX10_inLine_84 : decode cX10_inLine 84 = .ok (.iconst 0, 1) := by decide +kernel
theorem dX10_inLine_85 : decode cX10_inLine 85 = .ok (.iadd, 1) := by decide +kernel
theorem dX10_inLine_86 : decode cX10_inLine 86 = .ok (.istore_n 3, 1) := by decide +kernel
theorem dX10_inLine_87 : decode cX10_inLine 87 = .ok (.iinc 4 1, 3) := by decide +kernel
theorem dX10_inLine_90 : decode cX10_inLine 90 = .ok (.goto (-85), 3) := by decide +kernel
theorem dX10_inLine_93 : decode cX10_inLine 93 = .ok (.iload_n 3, 1) := by decide +kernel
theorem dX10_inLine_94 : decode cX10_inLine 94 = .ok (.ireturn, 1) := by decide +kernel
theorem dX10_fits_0 : decode cX10_fits 0 = .ok (.iconst 1, 1) := by decide +kernel
theorem dX10_fits_1 : decode cX10_fits 1 = .ok (.istore_n 2, 1) := by decide +kernel
theorem dX10_fits_2 : decode cX10_fits 2 = .ok (.iconst 0, 1) := by decide +kernel
theorem dX10_fits_3 : decode cX10_fits 3 = .ok (.istore_n 3, 1) := by decide +kernel
theorem dX10_fits_4 : decode cX10_fits 4 = .ok (.iload_n 3, 1) := by decide +kernel
theorem dX10_fits_5 : decode cX10_fits 5 = .ok (.aload_n 0, 1) := by decide +kernel
theorem dX10_fits_6 : decode cX10_fits 6 = .ok (.getfield 110, 3) := by decide +kernel
theorem dX10_fits_9 : decode cX10_fits 9 = .ok (.if_icmp .ge 39, 3) := by decide +kernel
theorem dX10_fits_12 : decode cX10_fits 12 = .ok (.iload_n 2, 1) := by decide +kernel
theorem dX10_fits_13 : decode cX10_fits 13 = .ok (.ifCond .eq 27, 3) := by decide +kernel
theorem dX10_fits_16 : decode cX10_fits 16 = .ok (.aload_n 0, 1) := by decide +kernel
theorem dX10_fits_17 : decode cX10_fits 17 = .ok (.aload_n 0, 1) := by decide +kernel
theorem dX10_fits_18 : decode cX10_fits 18 = .ok (.getfield 27, 3) := by decide +kernel
theorem dX10_fits_21 : decode cX10_fits 21 = .ok (.iload_n 3, 1) := by decide +kernel
theorem dX10_fits_22 : decode cX10_fits 22 = .ok (.iaload, 1) := by decide +kernel
theorem dX10_fits_23 : decode cX10_fits 23 = .ok (.iload_n 1, 1) := by decide +kernel
theorem dX10_fits_24 : decode cX10_fits 24 = .ok (.invokevirtual 225, 3) := by decide +kernel
theorem dX10_fits_27 : decode cX10_fits 27 = .ok (.aload_n 0, 1) := by decide +kernel
theorem dX10_fits_28 : decode cX10_fits 28 = .ok (.getfield 30, 3) := by decide +kernel
theorem dX10_fits_31 : decode cX10_fits 31 = .ok (.iload_n 3, 1) := by decide +kernel
theorem dX10_fits_32 : decode cX10_fits 32 = .ok (.iaload, 1) := by decide +kernel
theorem dX10_fits_33 : decode cX10_fits 33 = .ok (.if_icmp .ne 7, 3) := by decide +kernel
theorem dX10_fits_36 : decode cX10_fits 36 = .ok (.iconst 1, 1) := by decide +kernel
theorem dX10_fits_37 : decode cX10_fits 37 = .ok (.goto 4, 3) := by decide +kernel
theorem dX10_fits_40 : decode cX10_fits 40 = .ok (.iconst 0, 1) := by decide +kernel
theorem dX10_fits_41 : decode cX10_fits 41 = .ok (.istore_n 2, 1) := by decide +kernel
theorem dX10_fits_42 : decode cX10_fits 42 = .ok (.iinc 3 1, 3) := by decide +kernel
theorem dX10_fits_45 : decode cX10_fits 45 = .ok (.goto (-41), 3) := by decide +kernel
theorem dX10_fits_48 : decode cX10_fits 48 = .ok (.iload_n 2, 1) := by decide +kernel
theorem dX10_fits_49 : decode cX10_fits 49 = .ok (.ireturn, 1) := by decide +kernel
theorem dX10_unseen_0 : decode cX10_unseen 0 = .ok (.aload_n 0, 1) := by decide +kernel
theorem dX10_unseen_1 : decode cX10_unseen 1 = .ok (.iconst 0, 1) := by decide +kernel
theorem dX10_unseen_2 : decode cX10_unseen 2 = .ok (.putfield 48, 3) := by decide +kernel
theorem dX10_unseen_5 : decode cX10_unseen 5 = .ok (.iload_n 1, 1) := by decide +kernel
theorem dX10_unseen_6 : decode cX10_unseen 6 = .ok (.iconst 0, 1) := by decide +kernel
theorem dX10_unseen_7 : decode cX10_unseen 7 = .ok (.iconst 2, 1) := by decide +kernel
theorem dX10_unseen_8 : decode cX10_unseen 8 = .ok (.invokestatic 56, 3) := by decide +kernel
theorem dX10_unseen_11 : decode cX10_unseen 11 = .ok (.ifCond .ne 5, 3) := by decide +kernel
theorem dX10_unseen_14 : decode cX10_unseen 14 = .ok (.iconst (-1), 1) := by decide +kernel
theorem dX10_unseen_15 : decode cX10_unseen 15 = .ok (.ireturn, 1) := by decide +kernel
theorem dX10_unseen_16 : decode cX10_unseen 16 = .ok (.aload_n 0, 1) := by decide +kernel
theorem dX10_unseen_17 : decode cX10_unseen 17 = .ok (.getfield 104, 3) := by decide +kernel
theorem dX10_unseen_20 : decode cX10_unseen 20 = .ok (.lconst 0, 1) := by decide +kernel
theorem dX10_unseen_21 : decode cX10_unseen 21 = .ok (.lcmp, 1) := by decide +kernel
theorem dX10_unseen_22 : decode cX10_unseen 22 = .ok (.ifCond .ne 6, 3) := by decide +kernel
theorem dX10_unseen_25 : decode cX10_unseen 25 = .ok (.bipush (-2), 2) := by decide +kernel
theorem dX10_unseen_27 : decode cX10_unseen 27 = .ok (.ireturn, 1) := by decide +kernel
theorem dX10_unseen_28 : decode cX10_unseen 28 = .ok (.aload_n 0, 1) := by decide +kernel
theorem dX10_unseen_29 : decode cX10_unseen 29 = .ok (.invokevirtual 204, 3) := by decide +kernel
theorem dX10_unseen_32 : decode cX10_unseen 32 = .ok (.iconst 0, 1) := by decide +kernel
theorem dX10_unseen_33 : decode cX10_unseen 33 = .ok (.istore_n 2, 1) := by decide +kernel
theorem dX10_unseen_34 : decode cX10_unseen 34 = .ok (.bipush (-9), 2) := by decide +kernel
theorem dX10_unseen_36 : decode cX10_unseen 36 = .ok (.istore_n 3, 1) := by decide +kernel
theorem dX10_unseen_37 : decode cX10_unseen 37 = .ok (.bipush (-9), 2) := by decide +kernel
theorem dX10_unseen_39 : decode cX10_unseen 39 = .ok (.istore 4, 2) := by decide +kernel
theorem dX10_unseen_41 : decode cX10_unseen 41 = .ok (.iconst 0, 1) := by decide +kernel
theorem dX10_unseen_42 : decode cX10_unseen 42 = .ok (.istore 5, 2) := by decide +kernel
theorem dX10_unseen_44 : decode cX10_unseen 44 = .ok (.iload 5, 2) := by decide +kernel
theorem dX10_unseen_46 : decode cX10_unseen 46 = .ok (.aload_n 0, 1) := by decide +kernel
theorem dX10_unseen_47 : decode cX10_unseen 47 = .ok (.invokevirtual 201, 3) := by decide +kernel
theorem dX10_unseen_50 : decode cX10_unseen 50 = .ok (.if_icmp .gt 38, 3) := by decide +kernel
theorem dX10_unseen_53 : decode cX10_unseen 53 = .ok (.aload_n 0, 1) := by decide +kernel
theorem dX10_unseen_54 : decode cX10_unseen 54 = .ok (.iload 5, 2) := by decide +kernel
theorem dX10_unseen_56 : decode cX10_unseen 56 = .ok (.invokevirtual 228, 3) := by decide +kernel
theorem dX10_unseen_59 : decode cX10_unseen 59 = .ok (.ifCond .eq 23, 3) := by decide +kernel
theorem dX10_unseen_62 : decode cX10_unseen 62 = .ok (.iinc 2 1, 3) := by decide +kernel
theorem dX10_unseen_65 : decode cX10_unseen 65 = .ok (.iload_n 3, 1) := by decide +kernel
theorem dX10_unseen_66 : decode cX10_unseen 66 = .ok (.bipush (-9), 2) := by decide +kernel
theorem dX10_unseen_68 : decode cX10_unseen 68 = .ok (.if_icmp .ne 8, 3) := by decide +kernel
theorem dX10_unseen_71 : decode cX10_unseen 71 = .ok (.iload 5, 2) := by decide +kernel
theorem dX10_unseen_73 : decode cX10_unseen 73 = .ok (.goto 4, 3) := by decide +kernel
theorem dX10_unseen_76 : decode cX10_unseen 76 = .ok (.iload_n 3, 1) := by decide +kernel
theorem dX10_unseen_77 : decode cX10_unseen 77 = .ok (.istore_n 3, 1) := by decide +kernel
theorem dX10_unseen_78 : decode cX10_unseen 78 = .ok (.iload 5, 2) := by decide +kernel
theorem dX10_unseen_80 : decode cX10_unseen 80 = .ok (.istore 4, 2) := by decide +kernel
theorem dX10_unseen_82 : decode cX10_unseen 82 = .ok (.iinc 5 1, 3) := by decide +kernel
theorem dX10_unseen_85 : decode cX10_unseen 85 = .ok (.goto (-41), 3) := by decide +kernel
theorem dX10_unseen_88 : decode cX10_unseen 88 = .ok (.iload_n 1, 1) := by decide +kernel
theorem dX10_unseen_89 : decode cX10_unseen 89 = .ok (.ifCond .ne 7, 3) := by decide +kernel
theorem dX10_unseen_92 : decode cX10_unseen 92 = .ok (.iload_n 2, 1) := by decide +kernel
theorem dX10_unseen_93 : decode cX10_unseen 93 = .ok (.goto 14, 3) := by decide +kernel
theorem dX10_unseen_96 : decode cX10_unseen 96 = .ok (.iload_n 1, 1) := by decide +kernel
theorem dX10_unseen_97 : decode cX10_unseen 97 = .ok (.iconst 1, 1) := by decide +kernel
theorem dX10_unseen_98 : decode cX10_unseen 98 = .ok (.if_icmp .ne 7, 3) := by decide +kernel
theorem dX10_unseen_101 : decode cX10_unseen 101 = .ok (.iload_n 3, 1) := by decide +kernel
theorem dX10_unseen_102 : decode cX10_unseen 102 = .ok (.goto 5, 3) := by decide +kernel
theorem dX10_unseen_105 : decode cX10_unseen 105 = .ok (.iload 4, 2) := by decide +kernel
theorem dX10_unseen_107 : decode cX10_unseen 107 = .ok (.ireturn, 1) := by decide +kernel
theorem dX10_keep_0 : decode cX10_keep 0 = .ok (.aload_n 0, 1) := by decide +kernel
theorem dX10_keep_1 : decode cX10_keep 1 = .ok (.iconst 0, 1) := by decide +kernel
theorem dX10_keep_2 : decode cX10_keep 2 = .ok (.putfield 48, 3) := by decide +kernel
theorem dX10_keep_5 : decode cX10_keep 5 = .ok (.iload_n 1, 1) := by decide +kernel
theorem dX10_keep_6 : decode cX10_keep 6 = .ok (.iconst 0, 1) := by decide +kernel
theorem dX10_keep_7 : decode cX10_keep 7 = .ok (.iconst 1, 1) := by decide +kernel
theorem dX10_keep_8 : decode cX10_keep 8 = .ok (.invokestatic 56, 3) := by decide +kernel
theorem dX10_keep_11 : decode cX10_keep 11 = .ok (.ifCond .ne 5, 3) := by decide +kernel
theorem dX10_keep_14 : decode cX10_keep 14 = .ok (.iconst (-1), 1) := by decide +kernel
theorem dX10_keep_15 : decode cX10_keep 15 = .ok (.ireturn, 1) := by decide +kernel
theorem dX10_keep_16 : decode cX10_keep 16 = .ok (.aload_n 0, 1) := by decide +kernel
theorem dX10_keep_17 : decode cX10_keep 17 = .ok (.getfield 20, 3) := by decide +kernel
theorem dX10_keep_20 : decode cX10_keep 20 = .ok (.iload_n 1, 1) := by decide +kernel
theorem dX10_keep_21 : decode cX10_keep 21 = .ok (.aload_n 0, 1) := by decide +kernel
theorem dX10_keep_22 : decode cX10_keep 22 = .ok (.getfield 104, 3) := by decide +kernel
theorem dX10_keep_25 : decode cX10_keep 25 = .ok (.lastore, 1) := by decide +kernel
theorem dX10_keep_26 : decode cX10_keep 26 = .ok (.aload_n 0, 1) := by decide +kernel
theorem dX10_keep_27 : decode cX10_keep 27 = .ok (.getfield 23, 3) := by decide +kernel
theorem dX10_keep_30 : decode cX10_keep 30 = .ok (.iload_n 1, 1) := by decide +kernel
theorem dX10_keep_31 : decode cX10_keep 31 = .ok (.iconst 1, 1) := by decide +kernel
theorem dX10_keep_32 : decode cX10_keep 32 = .ok (.bastore, 1) := by decide +kernel
theorem dX10_keep_33 : decode cX10_keep 33 = .ok (.aload_n 0, 1) := by decide +kernel
theorem dX10_keep_34 : decode cX10_keep 34 = .ok (.getfield 104, 3) := by decide +kernel
theorem dX10_keep_37 : decode cX10_keep 37 = .ok (.invokestatic 128, 3) := by decide +kernel
theorem dX10_keep_40 : decode cX10_keep 40 = .ok (.ireturn, 1) := by decide +kernel
theorem dX10_back_0 : decode cX10_back 0 = .ok (.aload_n 0, 1) := by decide +kernel
theorem dX10_back_1 : decode cX10_back 1 = .ok (.iconst 0, 1) := by decide +kernel
theorem dX10_back_2 : decode cX10_back 2 = .ok (.putfield 48, 3) := by decide +kernel
theorem dX10_back_5 : decode cX10_back 5 = .ok (.iload_n 1, 1) := by decide +kernel
theorem dX10_back_6 : decode cX10_back 6 = .ok (.iconst 0, 1) := by decide +kernel
theorem dX10_back_7 : decode cX10_back 7 = .ok (.iconst 1, 1) := by decide +kernel
theorem dX10_back_8 : decode cX10_back 8 = .ok (.invokestatic 56, 3) := by decide +kernel
theorem dX10_back_11 : decode cX10_back 11 = .ok (.ifCond .ne 5, 3) := by decide +kernel
theorem dX10_back_14 : decode cX10_back 14 = .ok (.iconst (-1), 1) := by decide +kernel
theorem dX10_back_15 : decode cX10_back 15 = .ok (.ireturn, 1) := by decide +kernel
theorem dX10_back_16 : decode cX10_back 16 = .ok (.aload_n 0, 1) := by decide +kernel
theorem dX10_back_17 : decode cX10_back 17 = .ok (.getfield 23, 3) := by decide +kernel
theorem dX10_back_20 : decode cX10_back 20 = .ok (.iload_n 1, 1) := by decide +kernel
theorem dX10_back_21 : decode cX10_back 21 = .ok (.baload, 1) := by decide +kernel
theorem dX10_back_22 : decode cX10_back 22 = .ok (.ifCond .ne 6, 3) := by decide +kernel
theorem dX10_back_25 : decode cX10_back 25 = .ok (.bipush (-2), 2) := by decide +kernel
theorem dX10_back_27 : decode cX10_back 27 = .ok (.ireturn, 1) := by decide +kernel
theorem dX10_back_28 : decode cX10_back 28 = .ok (.aload_n 0, 1) := by decide +kernel
theorem dX10_back_29 : decode cX10_back 29 = .ok (.aload_n 0, 1) := by decide +kernel
theorem dX10_back_30 : decode cX10_back 30 = .ok (.getfield 20, 3) := by decide +kernel
theorem dX10_back_33 : decode cX10_back 33 = .ok (.iload_n 1, 1) := by decide +kernel
theorem dX10_back_34 : decode cX10_back 34 = .ok (.laload, 1) := by decide +kernel
theorem dX10_back_35 : decode cX10_back 35 = .ok (.putfield 104, 3) := by decide +kernel
theorem dX10_back_38 : decode cX10_back 38 = .ok (.aload_n 0, 1) := by decide +kernel
theorem dX10_back_39 : decode cX10_back 39 = .ok (.iconst 0, 1) := by decide +kernel
theorem dX10_back_40 : decode cX10_back 40 = .ok (.putfield 107, 3) := by decide +kernel
theorem dX10_back_43 : decode cX10_back 43 = .ok (.aload_n 0, 1) := by decide +kernel
theorem dX10_back_44 : decode cX10_back 44 = .ok (.getfield 104, 3) := by decide +kernel
theorem dX10_back_47 : decode cX10_back 47 = .ok (.invokestatic 128, 3) := by decide +kernel
theorem dX10_back_50 : decode cX10_back 50 = .ok (.ireturn, 1) := by decide +kernel
theorem dX10_count_0 : decode cX10_count 0 = .ok (.aload_n 0, 1) := by decide +kernel
theorem dX10_count_1 : decode cX10_count 1 = .ok (.iconst 0, 1) := by decide +kernel
theorem dX10_count_2 : decode cX10_count 2 = .ok (.putfield 48, 3) := by decide +kernel
theorem dX10_count_5 : decode cX10_count 5 = .ok (.iload_n 1, 1) := by decide +kernel
theorem dX10_count_6 : decode cX10_count 6 = .ok (.iconst 0, 1) := by decide +kernel
theorem dX10_count_7 : decode cX10_count 7 = .ok (.bipush 11, 2) := by decide +kernel
theorem dX10_count_9 : decode cX10_count 9 = .ok (.invokestatic 56, 3) := by decide +kernel
theorem dX10_count_12 : decode cX10_count 12 = .ok (.ifCond .ne 5, 3) := by decide +kernel
theorem dX10_count_15 : decode cX10_count 15 = .ok (.iconst (-1), 1) := by decide +kernel
theorem dX10_count_16 : decode cX10_count 16 = .ok (.ireturn, 1) := by decide +kernel
theorem dX10_count_17 : decode cX10_count 17 = .ok (.iload_n 1, 1) := by decide +kernel
theorem dX10_count_18 : decode cX10_count 18 = .ok (.iconst 2, 1) := by decide +kernel
theorem dX10_count_19 : decode cX10_count 19 = .ok (.if_icmp .ge 10, 3) := by decide +kernel
theorem dX10_count_22 : decode cX10_count 22 = .ok (.aload_n 0, 1) := by decide +kernel
theorem dX10_count_23 : decode cX10_count 23 = .ok (.getfield 7, 3) := by decide +kernel
theorem dX10_count_26 : decode cX10_count 26 = .ok (.iload_n 1, 1) := by decide +kernel
theorem dX10_count_27 : decode cX10_count 27 = .ok (.iaload, 1) := by decide +kernel
theorem dX10_count_28 : decode cX10_count 28 = .ok (.ireturn, 1) := by decide +kernel
theorem dX10_count_29 : decode cX10_count 29 = .ok (.iload_n 1, 1) := by decide +kernel
theorem dX10_count_30 : decode cX10_count 30 = .ok (.iconst 4, 1) := by decide +kernel
theorem dX10_count_31 : decode cX10_count 31 = .ok (.if_icmp .ge 23, 3) := by decide +kernel
theorem dX10_count_34 : decode cX10_count 34 = .ok (.iload_n 1, 1) := by decide +kernel
theorem dX10_count_35 : decode cX10_count 35 = .ok (.iconst 2, 1) := by decide +kernel
theorem dX10_count_36 : decode cX10_count 36 = .ok (.if_icmp .ne 10, 3) := by decide +kernel
theorem dX10_count_39 : decode cX10_count 39 = .ok (.aload_n 0, 1) := by decide +kernel
theorem dX10_count_40 : decode cX10_count 40 = .ok (.invokevirtual 201, 3) := by decide +kernel
theorem dX10_count_43 : decode cX10_count 43 = .ok (.goto 10, 3) := by decide +kernel
theorem dX10_count_46 : decode cX10_count 46 = .ok (.aload_n 0, 1) := by decide +kernel
theorem dX10_count_47 : decode cX10_count 47 = .ok (.getfield 104, 3) := by decide +kernel
theorem dX10_count_50 : decode cX10_count 50 = .ok (.invokestatic 128, 3) := by decide +kernel
theorem dX10_count_53 : decode cX10_count 53 = .ok (.ireturn, 1) := by decide +kernel
theorem dX10_count_54 : decode cX10_count 54 = .ok (.iload_n 1, 1) := by decide +kernel
theorem dX10_count_55 : decode cX10_count 55 = .ok (.bipush 9, 2) := by decide +kernel
theorem dX10_count_57 : decode cX10_count 57 = .ok (.if_icmp .ge 14, 3) := by decide +kernel
theorem dX10_count_60 : decode cX10_count 60 = .ok (.aload_n 0, 1) := by decide +kernel
theorem dX10_count_61 : decode cX10_count 61 = .ok (.getfield 7, 3) := by decide +kernel
theorem dX10_count_64 : decode cX10_count 64 = .ok (.iload_n 1, 1) := by decide +kernel
theorem dX10_count_65 : decode cX10_count 65 = .ok (.iconst 2, 1) := by decide +kernel
theorem dX10_count_66 : decode cX10_count 66 = .ok (.isub, 1) := by decide +kernel
theorem dX10_count_67 : decode cX10_count 67 = .ok (.iaload, 1) := by decide +kernel
theorem dX10_count_68 : decode cX10_count 68 = .ok (.goto 33, 3) := by decide +kernel
theorem dX10_count_71 : decode cX10_count 71 = .ok (.iload_n 1, 1) := by decide +kernel
theorem dX10_count_72 : decode cX10_count 72 = .ok (.bipush 9, 2) := by decide +kernel
theorem dX10_count_74 : decode cX10_count 74 = .ok (.if_icmp .ne 10, 3) := by decide +kernel
theorem dX10_count_77 : decode cX10_count 77 = .ok (.aload_n 0, 1) := by decide +kernel
theorem dX10_count_78 : decode cX10_count 78 = .ok (.getfield 110, 3) := by decide +kernel
theorem dX10_count_81 : decode cX10_count 81 = .ok (.goto 20, 3) := by decide +kernel
theorem dX10_count_84 : decode cX10_count 84 = .ok (.iload_n 1, 1) := by decide +kernel
theorem dX10_count_85 : decode cX10_count 85 = .ok (.bipush 10, 2) := by decide +kernel
theorem dX10_count_87 : decode cX10_count 87 = .ok (.if_icmp .ne 10, 3) := by decide +kernel
theorem dX10_count_90 : decode cX10_count 90 = .ok (.aload_n 0, 1) := by decide +kernel
theorem dX10_count_91 : decode cX10_count 91 = .ok (.getfield 60, 3) := by decide +kernel
theorem dX10_count_94 : decode cX10_count 94 = .ok (.goto 7, 3) := by decide +kernel
theorem dX10_count_97 : decode cX10_count 97 = .ok (.aload_n 0, 1) := by decide +kernel
theorem dX10_count_98 : decode cX10_count 98 = .ok (.getfield 107, 3) := by decide +kernel
theorem dX10_count_101 : decode cX10_count 101 = .ok (.ireturn, 1) := by decide +kernel
end
section
theorem dL_law_0 : decode cL_law 0 = .ok (.new 7, 3) := by decide +kernel
theorem dL_law_3 : decode cL_law 3 = .ok (.dup, 1) := by decide +kernel
theorem dL_law_4 : decode cL_law 4 = .ok (.invokespecial 9, 3) := by decide +kernel
theorem dL_law_7 : decode cL_law 7 = .ok (.astore_n 1, 1) := by decide +kernel
theorem dL_law_8 : decode cL_law 8 = .ok (.new 10, 3) := by decide +kernel
theorem dL_law_11 : decode cL_law 11 = .ok (.dup, 1) := by decide +kernel
theorem dL_law_12 : decode cL_law 12 = .ok (.invokespecial 12, 3) := by decide +kernel
theorem dL_law_15 : decode cL_law 15 = .ok (.astore_n 2, 1) := by decide +kernel
theorem dL_law_16 : decode cL_law 16 = .ok (.iconst 0, 1) := by decide +kernel
theorem dL_law_17 : decode cL_law 17 = .ok (.istore_n 3, 1) := by decide +kernel
theorem dL_law_18 : decode cL_law 18 = .ok (.iload_n 3, 1) := by decide +kernel
theorem dL_law_19 : decode cL_law 19 = .ok (.aload_n 0, 1) := by decide +kernel
theorem dL_law_20 : decode cL_law 20 = .ok (.arraylength, 1) := by decide +kernel
theorem dL_law_21 : decode cL_law 21 = .ok (.iconst 4, 1) := by decide +kernel
theorem dL_law_22 : decode cL_law 22 = .ok (.isub, 1) := by decide +kernel
theorem dL_law_23 : decode cL_law 23 = .ok (.if_icmp .gt 847, 3) := by decide +kernel
theorem dL_law_26 : decode cL_law 26 = .ok (.aload_n 0, 1) := by decide +kernel
theorem dL_law_27 : decode cL_law 27 = .ok (.iload_n 3, 1) := by decide +kernel
theorem dL_law_28 : decode cL_law 28 = .ok (.iaload, 1) := by decide +kernel
theorem dL_law_29 : decode cL_law 29 = .ok (.bipush 31, 2) := by decide +kernel
theorem dL_law_31 : decode cL_law 31 = .ok (.iand, 1) := by decide +kernel
theorem dL_law_32 : decode cL_law 32 = .ok (.tableswitch 832 0 27 #[128, 151, 164, 177, 210, 253, 286, 309, 342, 355, 388, 411, 424, 447, 460, 493, 516, 549, 582, 605, 648, 681, 694, 727, 740, 763, 786, 809], 128) := by decide +kernel
theorem dL_law_160 : decode cL_law 160 = .ok (.aload_n 1, 1) := by decide +kernel
theorem dL_law_161 : decode cL_law 161 = .ok (.aload_n 0, 1) := by decide +kernel
theorem dL_law_162 : decode cL_law 162 = .ok (.iload_n 3, 1) := by decide +kernel
theorem dL_law_163 : decode cL_law 163 = .ok (.iconst 1, 1) := by decide +kernel
theorem dL_law_164 : decode cL_law 164 = .ok (.iadd, 1) := by decide +kernel
theorem dL_law_165 : decode cL_law 165 = .ok (.iaload, 1) := by decide +kernel
theorem dL_law_166 : decode cL_law 166 = .ok (.invokevirtual 13, 3) := by decide +kernel
theorem dL_law_169 : decode cL_law 169 = .ok (.aload_n 2, 1) := by decide +kernel
theorem dL_law_170 : decode cL_law 170 = .ok (.aload_n 0, 1) := by decide +kernel
theorem dL_law_171 : decode cL_law 171 = .ok (.iload_n 3, 1) := by decide +kernel
theorem dL_law_172 : decode cL_law 172 = .ok (.iconst 1, 1) := by decide +kernel
theorem dL_law_173 : decode cL_law 173 = .ok (.iadd, 1) := by decide +kernel
theorem dL_law_174 : decode cL_law 174 = .ok (.iaload, 1) := by decide +kernel
theorem dL_law_175 : decode cL_law 175 = .ok (.invokevirtual 17, 3) := by decide +kernel
theorem dL_law_178 : decode cL_law 178 = .ok (.if_icmp .eq 686, 3) := by decide +kernel
theorem dL_law_181 : decode cL_law 181 = .ok (.iconst 0, 1) := by decide +kernel
theorem dL_law_182 : decode cL_law 182 = .ok (.ireturn, 1) := by decide +kernel
theorem dL_law_183 : decode cL_law 183 = .ok (.aload_n 1, 1) := by decide +kernel
theorem dL_law_184 : decode cL_law 184 = .ok (.invokevirtual 18, 3) := by decide +kernel
theorem dL_law_187 : decode cL_law 187 = .ok (.aload_n 2, 1) := by decide +kernel
theorem dL_law_188 : decode cL_law 188 = .ok (.invokevirtual 22, 3) := by decide +kernel
theorem dL_law_191 : decode cL_law 191 = .ok (.if_icmp .eq 673, 3) := by decide +kernel
theorem dL_law_194 : decode cL_law 194 = .ok (.iconst 0, 1) := by decide +kernel
theorem dL_law_195 : decode cL_law 195 = .ok (.ireturn, 1) := by decide +kernel
theorem dL_law_196 : decode cL_law 196 = .ok (.aload_n 1, 1) := by decide +kernel
theorem dL_law_197 : decode cL_law 197 = .ok (.invokevirtual 23, 3) := by decide +kernel
theorem dL_law_200 : decode cL_law 200 = .ok (.aload_n 2, 1) := by decide +kernel
theorem dL_law_201 : decode cL_law 201 = .ok (.invokevirtual 26, 3) := by decide +kernel
theorem dL_law_204 : decode cL_law 204 = .ok (.if_icmp .eq 660, 3) := by decide +kernel
theorem dL_law_207 : decode cL_law 207 = .ok (.iconst 0, 1) := by decide +kernel
theorem dL_law_208 : decode cL_law 208 = .ok (.ireturn, 1) := by decide +kernel
theorem dL_law_209 : decode cL_law 209 = .ok (.aload_n 1, 1) := by decide +kernel
theorem dL_law_210 : decode cL_law 210 = .ok (.aload_n 0, 1) := by decide +kernel
theorem dL_law_211 : decode cL_law 211 = .ok (.iload_n 3, 1) := by decide +kernel
theorem dL_law_212 : decode cL_law 212 = .ok (.iconst 1, 1) := by decide +kernel
theorem dL_law_213 : decode cL_law 213 = .ok (.iadd, 1) := by decide +kernel
theorem dL_law_214 : decode cL_law 214 = .ok (.iaload, 1) := by decide +kernel
theorem dL_law_215 : decode cL_law 215 = .ok (.aload_n 0, 1) := by decide +kernel
theorem dL_law_216 : decode cL_law 216 = .ok (.iload_n 3, 1) := by decide +kernel
theorem dL_law_217 : decode cL_law 217 = .ok (.iconst 2, 1) := by decide +kernel
theorem dL_law_218 : decode cL_law 218 = .ok (.iadd, 1) := by decide +kernel
theorem dL_law_219 : decode cL_law 219 = .ok (.iaload, 1) := by decide +kernel
theorem dL_law_220 : decode cL_law 220 = .ok (.invokevirtual 27, 3) := by decide +kernel
theorem dL_law_223 : decode cL_law 223 = .ok (.aload_n 2, 1) := by decide +kernel
theorem dL_law_224 : decode cL_law 224 = .ok (.aload_n 0, 1) := by decide +kernel
theorem dL_law_225 : decode cL_law 225 = .ok (.iload_n 3, 1) := by decide +kernel
theorem dL_law_226 : decode cL_law 226 = .ok (.iconst 1, 1) := by decide +kernel
theorem dL_law_227 : decode cL_law 227 = .ok (.iadd, 1) := by decide +kernel
theorem dL_law_228 : decode cL_law 228 = .ok (.iaload, 1) := by decide +kernel
theorem dL_law_229 : decode cL_law 229 = .ok (.aload_n 0, 1) := by decide +kernel
theorem dL_law_230 : decode cL_law 230 = .ok (.iload_n 3, 1) := by decide +kernel
theorem dL_law_231 : decode cL_law 231 = .ok (.iconst 2, 1) := by decide +kernel
theorem dL_law_232 : decode cL_law 232 = .ok (.iadd, 1) := by decide +kernel
theorem dL_law_233 : decode cL_law 233 = .ok (.iaload, 1) := by decide +kernel
theorem dL_law_234 : decode cL_law 234 = .ok (.invokevirtual 31, 3) := by decide +kernel
theorem dL_law_237 : decode cL_law 237 = .ok (.if_icmp .eq 627, 3) := by decide +kernel
theorem dL_law_240 : decode cL_law 240 = .ok (.iconst 0, 1) := by decide +kernel
theorem dL_law_241 : decode cL_law 241 = .ok (.ireturn, 1) := by decide +kernel
theorem dL_law_242 : decode cL_law 242 = .ok (.aload_n 1, 1) := by decide +kernel
theorem dL_law_243 : decode cL_law 243 = .ok (.aload_n 0, 1) := by decide +kernel
theorem dL_law_244 : decode cL_law 244 = .ok (.iload_n 3, 1) := by decide +kernel
theorem dL_law_245 : decode cL_law 245 = .ok (.iconst 1, 1) := by decide +kernel
theorem dL_law_246 : decode cL_law 246 = .ok (.iadd, 1) := by decide +kernel
theorem dL_law_247 : decode cL_law 247 = .ok (.iaload, 1) := by decide +kernel
theorem dL_law_248 : decode cL_law 248 = .ok (.aload_n 0, 1) := by decide +kernel
theorem dL_law_249 : decode cL_law 249 = .ok (.iload_n 3, 1) := by decide +kernel
theorem dL_law_250 : decode cL_law 250 = .ok (.iconst 2, 1) := by decide +kernel
theorem dL_law_251 : decode cL_law 251 = .ok (.iadd, 1) := by decide +kernel
theorem dL_law_252 : decode cL_law 252 = .ok (.iaload, 1) := by decide +kernel
theorem dL_law_253 : decode cL_law 253 = .ok (.aload_n 0, 1) := by decide +kernel
theorem dL_law_254 : decode cL_law 254 = .ok (.iload_n 3, 1) := by decide +kernel
theorem dL_law_255 : decode cL_law 255 = .ok (.iconst 3, 1) := by decide +kernel
theorem dL_law_256 : decode cL_law 256 = .ok (.iadd, 1) := by decide +kernel
theorem dL_law_257 : decode cL_law 257 = .ok (.iaload, 1) := by decide +kernel
theorem dL_law_258 : decode cL_law 258 = .ok (.invokevirtual 32, 3) := by decide +kernel
theorem dL_law_261 : decode cL_law 261 = .ok (.aload_n 2, 1) := by decide +kernel
theorem dL_law_262 : decode cL_law 262 = .ok (.aload_n 0, 1) := by decide +kernel
theorem dL_law_263 : decode cL_law 263 = .ok (.iload_n 3, 1) := by decide +kernel
theorem dL_law_264 : decode cL_law 264 = .ok (.iconst 1, 1) := by decide +kernel
theorem dL_law_265 : decode cL_law 265 = .ok (.iadd, 1) := by decide +kernel
theorem dL_law_266 : decode cL_law 266 = .ok (.iaload, 1) := by decide +kernel
theorem dL_law_267 : decode cL_law 267 = .ok (.aload_n 0, 1) := by decide +kernel
theorem dL_law_268 : decode cL_law 268 = .ok (.iload_n 3, 1) := by decide +kernel
theorem dL_law_269 : decode cL_law 269 = .ok (.iconst 2, 1) := by decide +kernel
theorem dL_law_270 : decode cL_law 270 = .ok (.iadd, 1) := by decide +kernel
theorem dL_law_271 : decode cL_law 271 = .ok (.iaload, 1) := by decide +kernel
theorem dL_law_272 : decode cL_law 272 = .ok (.aload_n 0, 1) := by decide +kernel
theorem dL_law_273 : decode cL_law 273 = .ok (.iload_n 3, 1) := by decide +kernel
theorem dL_law_274 : decode cL_law 274 = .ok (.iconst 3, 1) := by decide +kernel
theorem dL_law_275 : decode cL_law 275 = .ok (.iadd, 1) := by decide +kernel
theorem dL_law_276 : decode cL_law 276 = .ok (.iaload, 1) := by decide +kernel
theorem dL_law_277 : decode cL_law 277 = .ok (.invokevirtual 36, 3) := by decide +kernel
theorem dL_law_280 : decode cL_law 280 = .ok (.if_icmp .eq 584, 3) := by decide +kernel
theorem dL_law_283 : decode cL_law 283 = .ok (.iconst 0, 1) := by decide +kernel
theorem dL_law_284 : decode cL_law 284 = .ok (.ireturn, 1) := by decide +kernel
theorem dL_law_285 : decode cL_law 285 = .ok (.aload_n 1, 1) := by decide +kernel
theorem dL_law_286 : decode cL_law 286 = .ok (.aload_n 0, 1) := by decide +kernel
theorem dL_law_287 : decode cL_law 287 = .ok (.iload_n 3, 1) := by decide +kernel
theorem dL_law_288 : decode cL_law 288 = .ok (.iconst 1, 1) := by decide +kernel
theorem dL_law_289 : decode cL_law 289 = .ok (.iadd, 1) := by decide +kernel
theorem dL_law_290 : decode cL_law 290 = .ok (.iaload, 1) := by decide +kernel
theorem dL_law_291 : decode cL_law 291 = .ok (.aload_n 0, 1) := by decide +kernel
theorem dL_law_292 : decode cL_law 292 = .ok (.iload_n 3, 1) := by decide +kernel
theorem dL_law_293 : decode cL_law 293 = .ok (.iconst 2, 1) := by decide +kernel
theorem dL_law_294 : decode cL_law 294 = .ok (.iadd, 1) := by decide +kernel
theorem dL_law_295 : decode cL_law 295 = .ok (.iaload, 1) := by decide +kernel
theorem dL_law_296 : decode cL_law 296 = .ok (.invokevirtual 37, 3) := by decide +kernel
theorem dL_law_299 : decode cL_law 299 = .ok (.aload_n 2, 1) := by decide +kernel
theorem dL_law_300 : decode cL_law 300 = .ok (.aload_n 0, 1) := by decide +kernel
theorem dL_law_301 : decode cL_law 301 = .ok (.iload_n 3, 1) := by decide +kernel
theorem dL_law_302 : decode cL_law 302 = .ok (.iconst 1, 1) := by decide +kernel
theorem dL_law_303 : decode cL_law 303 = .ok (.iadd, 1) := by decide +kernel
theorem dL_law_304 : decode cL_law 304 = .ok (.iaload, 1) := by decide +kernel
theorem dL_law_305 : decode cL_law 305 = .ok (.aload_n 0, 1) := by decide +kernel
theorem dL_law_306 : decode cL_law 306 = .ok (.iload_n 3, 1) := by decide +kernel
theorem dL_law_307 : decode cL_law 307 = .ok (.iconst 2, 1) := by decide +kernel
theorem dL_law_308 : decode cL_law 308 = .ok (.iadd, 1) := by decide +kernel
theorem dL_law_309 : decode cL_law 309 = .ok (.iaload, 1) := by decide +kernel
theorem dL_law_310 : decode cL_law 310 = .ok (.invokevirtual 40, 3) := by decide +kernel
theorem dL_law_313 : decode cL_law 313 = .ok (.if_icmp .eq 551, 3) := by decide +kernel
theorem dL_law_316 : decode cL_law 316 = .ok (.iconst 0, 1) := by decide +kernel
theorem dL_law_317 : decode cL_law 317 = .ok (.ireturn, 1) := by decide +kernel
theorem dL_law_318 : decode cL_law 318 = .ok (.aload_n 1, 1) := by decide +kernel
theorem dL_law_319 : decode cL_law 319 = .ok (.aload_n 0, 1) := by decide +kernel
theorem dL_law_320 : decode cL_law 320 = .ok (.iload_n 3, 1) := by decide +kernel
theorem dL_law_321 : decode cL_law 321 = .ok (.iconst 1, 1) := by decide +kernel
theorem dL_law_322 : decode cL_law 322 = .ok (.iadd, 1) := by decide +kernel
theorem dL_law_323 : decode cL_law 323 = .ok (.iaload, 1) := by decide +kernel
theorem dL_law_324 : decode cL_law 324 = .ok (.invokevirtual 41, 3) := by decide +kernel
theorem dL_law_327 : decode cL_law 327 = .ok (.aload_n 2, 1) := by decide +kernel
theorem dL_law_328 : decode cL_law 328 = .ok (.aload_n 0, 1) := by decide +kernel
theorem dL_law_329 : decode cL_law 329 = .ok (.iload_n 3, 1) := by decide +kernel
theorem dL_law_330 : decode cL_law 330 = .ok (.iconst 1, 1) := by decide +kernel
theorem dL_law_331 : decode cL_law 331 = .ok (.iadd, 1) := by decide +kernel
theorem dL_law_332 : decode cL_law 332 = .ok (.iaload, 1) := by decide +kernel
theorem dL_law_333 : decode cL_law 333 = .ok (.invokevirtual 44, 3) := by decide +kernel
theorem dL_law_336 : decode cL_law 336 = .ok (.if_icmp .eq 528, 3) := by decide +kernel
theorem dL_law_339 : decode cL_law 339 = .ok (.iconst 0, 1) := by decide +kernel
theorem dL_law_340 : decode cL_law 340 = .ok (.ireturn, 1) := by decide +kernel
theorem dL_law_341 : decode cL_law 341 = .ok (.aload_n 1, 1) := by decide +kernel
theorem dL_law_342 : decode cL_law 342 = .ok (.aload_n 0, 1) := by decide +kernel
theorem dL_law_343 : decode cL_law 343 = .ok (.iload_n 3, 1) := by decide +kernel
theorem dL_law_344 : decode cL_law 344 = .ok (.iconst 1, 1) := by decide +kernel
theorem dL_law_345 : decode cL_law 345 = .ok (.iadd, 1) := by decide +kernel
theorem dL_law_346 : decode cL_law 346 = .ok (.iaload, 1) := by decide +kernel
theorem dL_law_347 : decode cL_law 347 = .ok (.aload_n 0, 1) := by decide +kernel
theorem dL_law_348 : decode cL_law 348 = .ok (.iload_n 3, 1) := by decide +kernel
theorem dL_law_349 : decode cL_law 349 = .ok (.iconst 2, 1) := by decide +kernel
theorem dL_law_350 : decode cL_law 350 = .ok (.iadd, 1) := by decide +kernel
theorem dL_law_351 : decode cL_law 351 = .ok (.iaload, 1) := by decide +kernel
theorem dL_law_352 : decode cL_law 352 = .ok (.invokevirtual 45, 3) := by decide +kernel
theorem dL_law_355 : decode cL_law 355 = .ok (.aload_n 2, 1) := by decide +kernel
theorem dL_law_356 : decode cL_law 356 = .ok (.aload_n 0, 1) := by decide +kernel
theorem dL_law_357 : decode cL_law 357 = .ok (.iload_n 3, 1) := by decide +kernel
theorem dL_law_358 : decode cL_law 358 = .ok (.iconst 1, 1) := by decide +kernel
theorem dL_law_359 : decode cL_law 359 = .ok (.iadd, 1) := by decide +kernel
theorem dL_law_360 : decode cL_law 360 = .ok (.iaload, 1) := by decide +kernel
theorem dL_law_361 : decode cL_law 361 = .ok (.aload_n 0, 1) := by decide +kernel
theorem dL_law_362 : decode cL_law 362 = .ok (.iload_n 3, 1) := by decide +kernel
theorem dL_law_363 : decode cL_law 363 = .ok (.iconst 2, 1) := by decide +kernel
theorem dL_law_364 : decode cL_law 364 = .ok (.iadd, 1) := by decide +kernel
theorem dL_law_365 : decode cL_law 365 = .ok (.iaload, 1) := by decide +kernel
theorem dL_law_366 : decode cL_law 366 = .ok (.invokevirtual 48, 3) := by decide +kernel
theorem dL_law_369 : decode cL_law 369 = .ok (.if_icmp .eq 495, 3) := by decide +kernel
theorem dL_law_372 : decode cL_law 372 = .ok (.iconst 0, 1) := by decide +kernel
theorem dL_law_373 : decode cL_law 373 = .ok (.ireturn, 1) := by decide +kernel
theorem dL_law_374 : decode cL_law 374 = .ok (.aload_n 1, 1) := by decide +kernel
theorem dL_law_375 : decode cL_law 375 = .ok (.invokevirtual 49, 3) := by decide +kernel
theorem dL_law_378 : decode cL_law 378 = .ok (.aload_n 2, 1) := by decide +kernel
theorem dL_law_379 : decode cL_law 379 = .ok (.invokevirtual 52, 3) := by decide +kernel
theorem dL_law_382 : decode cL_law 382 = .ok (.if_icmp .eq 482, 3) := by decide +kernel
theorem dL_law_385 : decode cL_law 385 = .ok (.iconst 0, 1) := by decide +kernel
theorem dL_law_386 : decode cL_law 386 = .ok (.ireturn, 1) := by decide +kernel
theorem dL_law_387 : decode cL_law 387 = .ok (.aload_n 1, 1) := by decide +kernel
theorem dL_law_388 : decode cL_law 388 = .ok (.aload_n 0, 1) := by decide +kernel
theorem dL_law_389 : decode cL_law 389 = .ok (.iload_n 3, 1) := by decide +kernel
theorem dL_law_390 : decode cL_law 390 = .ok (.iconst 1, 1) := by decide +kernel
theorem dL_law_391 : decode cL_law 391 = .ok (.iadd, 1) := by decide +kernel
theorem dL_law_392 : decode cL_law 392 = .ok (.iaload, 1) := by decide +kernel
theorem dL_law_393 : decode cL_law 393 = .ok (.aload_n 0, 1) := by decide +kernel
theorem dL_law_394 : decode cL_law 394 = .ok (.iload_n 3, 1) := by decide +kernel
theorem dL_law_395 : decode cL_law 395 = .ok (.iconst 2, 1) := by decide +kernel
theorem dL_law_396 : decode cL_law 396 = .ok (.iadd, 1) := by decide +kernel
theorem dL_law_397 : decode cL_law 397 = .ok (.iaload, 1) := by decide +kernel
theorem dL_law_398 : decode cL_law 398 = .ok (.invokevirtual 53, 3) := by decide +kernel
theorem dL_law_401 : decode cL_law 401 = .ok (.aload_n 2, 1) := by decide +kernel
theorem dL_law_402 : decode cL_law 402 = .ok (.aload_n 0, 1) := by decide +kernel
theorem dL_law_403 : decode cL_law 403 = .ok (.iload_n 3, 1) := by decide +kernel
theorem dL_law_404 : decode cL_law 404 = .ok (.iconst 1, 1) := by decide +kernel
theorem dL_law_405 : decode cL_law 405 = .ok (.iadd, 1) := by decide +kernel
theorem dL_law_406 : decode cL_law 406 = .ok (.iaload, 1) := by decide +kernel
theorem dL_law_407 : decode cL_law 407 = .ok (.aload_n 0, 1) := by decide +kernel
theorem dL_law_408 : decode cL_law 408 = .ok (.iload_n 3, 1) := by decide +kernel
theorem dL_law_409 : decode cL_law 409 = .ok (.iconst 2, 1) := by decide +kernel
theorem dL_law_410 : decode cL_law 410 = .ok (.iadd, 1) := by decide +kernel
theorem dL_law_411 : decode cL_law 411 = .ok (.iaload, 1) := by decide +kernel
theorem dL_law_412 : decode cL_law 412 = .ok (.invokevirtual 56, 3) := by decide +kernel
theorem dL_law_415 : decode cL_law 415 = .ok (.if_icmp .eq 449, 3) := by decide +kernel
theorem dL_law_418 : decode cL_law 418 = .ok (.iconst 0, 1) := by decide +kernel
theorem dL_law_419 : decode cL_law 419 = .ok (.ireturn, 1) := by decide +kernel
theorem dL_law_420 : decode cL_law 420 = .ok (.aload_n 1, 1) := by decide +kernel
theorem dL_law_421 : decode cL_law 421 = .ok (.aload_n 0, 1) := by decide +kernel
theorem dL_law_422 : decode cL_law 422 = .ok (.iload_n 3, 1) := by decide +kernel
theorem dL_law_423 : decode cL_law 423 = .ok (.iconst 1, 1) := by decide +kernel
theorem dL_law_424 : decode cL_law 424 = .ok (.iadd, 1) := by decide +kernel
theorem dL_law_425 : decode cL_law 425 = .ok (.iaload, 1) := by decide +kernel
theorem dL_law_426 : decode cL_law 426 = .ok (.invokevirtual 57, 3) := by decide +kernel
theorem dL_law_429 : decode cL_law 429 = .ok (.aload_n 2, 1) := by decide +kernel
theorem dL_law_430 : decode cL_law 430 = .ok (.aload_n 0, 1) := by decide +kernel
theorem dL_law_431 : decode cL_law 431 = .ok (.iload_n 3, 1) := by decide +kernel
theorem dL_law_432 : decode cL_law 432 = .ok (.iconst 1, 1) := by decide +kernel
theorem dL_law_433 : decode cL_law 433 = .ok (.iadd, 1) := by decide +kernel
theorem dL_law_434 : decode cL_law 434 = .ok (.iaload, 1) := by decide +kernel
theorem dL_law_435 : decode cL_law 435 = .ok (.invokevirtual 60, 3) := by decide +kernel
theorem dL_law_438 : decode cL_law 438 = .ok (.if_icmp .eq 426, 3) := by decide +kernel
theorem dL_law_441 : decode cL_law 441 = .ok (.iconst 0, 1) := by decide +kernel
theorem dL_law_442 : decode cL_law 442 = .ok (.ireturn, 1) := by decide +kernel
theorem dL_law_443 : decode cL_law 443 = .ok (.aload_n 1, 1) := by decide +kernel
theorem dL_law_444 : decode cL_law 444 = .ok (.invokevirtual 61, 3) := by decide +kernel
theorem dL_law_447 : decode cL_law 447 = .ok (.aload_n 2, 1) := by decide +kernel
theorem dL_law_448 : decode cL_law 448 = .ok (.invokevirtual 64, 3) := by decide +kernel
theorem dL_law_451 : decode cL_law 451 = .ok (.if_icmp .eq 413, 3) := by decide +kernel
theorem dL_law_454 : decode cL_law 454 = .ok (.iconst 0, 1) := by decide +kernel
theorem dL_law_455 : decode cL_law 455 = .ok (.ireturn, 1) := by decide +kernel
theorem dL_law_456 : decode cL_law 456 = .ok (.aload_n 1, 1) := by decide +kernel
theorem dL_law_457 : decode cL_law 457 = .ok (.aload_n 0, 1) := by decide +kernel
theorem dL_law_458 : decode cL_law 458 = .ok (.iload_n 3, 1) := by decide +kernel
theorem dL_law_459 : decode cL_law 459 = .ok (.iconst 1, 1) := by decide +kernel
theorem dL_law_460 : decode cL_law 460 = .ok (.iadd, 1) := by decide +kernel
theorem dL_law_461 : decode cL_law 461 = .ok (.iaload, 1) := by decide +kernel
theorem dL_law_462 : decode cL_law 462 = .ok (.invokevirtual 65, 3) := by decide +kernel
theorem dL_law_465 : decode cL_law 465 = .ok (.aload_n 2, 1) := by decide +kernel
theorem dL_law_466 : decode cL_law 466 = .ok (.aload_n 0, 1) := by decide +kernel
theorem dL_law_467 : decode cL_law 467 = .ok (.iload_n 3, 1) := by decide +kernel
theorem dL_law_468 : decode cL_law 468 = .ok (.iconst 1, 1) := by decide +kernel
theorem dL_law_469 : decode cL_law 469 = .ok (.iadd, 1) := by decide +kernel
theorem dL_law_470 : decode cL_law 470 = .ok (.iaload, 1) := by decide +kernel
theorem dL_law_471 : decode cL_law 471 = .ok (.invokevirtual 68, 3) := by decide +kernel
theorem dL_law_474 : decode cL_law 474 = .ok (.if_icmp .eq 390, 3) := by decide +kernel
theorem dL_law_477 : decode cL_law 477 = .ok (.iconst 0, 1) := by decide +kernel
theorem dL_law_478 : decode cL_law 478 = .ok (.ireturn, 1) := by decide +kernel
theorem dL_law_479 : decode cL_law 479 = .ok (.aload_n 1, 1) := by decide +kernel
theorem dL_law_480 : decode cL_law 480 = .ok (.invokevirtual 69, 3) := by decide +kernel
theorem dL_law_483 : decode cL_law 483 = .ok (.aload_n 2, 1) := by decide +kernel
theorem dL_law_484 : decode cL_law 484 = .ok (.invokevirtual 72, 3) := by decide +kernel
theorem dL_law_487 : decode cL_law 487 = .ok (.if_icmp .eq 377, 3) := by decide +kernel
theorem dL_law_490 : decode cL_law 490 = .ok (.iconst 0, 1) := by decide +kernel
theorem dL_law_491 : decode cL_law 491 = .ok (.ireturn, 1) := by decide +kernel
theorem dL_law_492 : decode cL_law 492 = .ok (.aload_n 1, 1) := by decide +kernel
theorem dL_law_493 : decode cL_law 493 = .ok (.aload_n 0, 1) := by decide +kernel
theorem dL_law_494 : decode cL_law 494 = .ok (.iload_n 3, 1) := by decide +kernel
theorem dL_law_495 : decode cL_law 495 = .ok (.iconst 1, 1) := by decide +kernel
theorem dL_law_496 : decode cL_law 496 = .ok (.iadd, 1) := by decide +kernel
theorem dL_law_497 : decode cL_law 497 = .ok (.iaload, 1) := by decide +kernel
theorem dL_law_498 : decode cL_law 498 = .ok (.aload_n 0, 1) := by decide +kernel
theorem dL_law_499 : decode cL_law 499 = .ok (.iload_n 3, 1) := by decide +kernel
theorem dL_law_500 : decode cL_law 500 = .ok (.iconst 2, 1) := by decide +kernel
theorem dL_law_501 : decode cL_law 501 = .ok (.iadd, 1) := by decide +kernel
theorem dL_law_502 : decode cL_law 502 = .ok (.iaload, 1) := by decide +kernel
theorem dL_law_503 : decode cL_law 503 = .ok (.invokevirtual 73, 3) := by decide +kernel
theorem dL_law_506 : decode cL_law 506 = .ok (.aload_n 2, 1) := by decide +kernel
theorem dL_law_507 : decode cL_law 507 = .ok (.aload_n 0, 1) := by decide +kernel
theorem dL_law_508 : decode cL_law 508 = .ok (.iload_n 3, 1) := by decide +kernel
theorem dL_law_509 : decode cL_law 509 = .ok (.iconst 1, 1) := by decide +kernel
theorem dL_law_510 : decode cL_law 510 = .ok (.iadd, 1) := by decide +kernel
theorem dL_law_511 : decode cL_law 511 = .ok (.iaload, 1) := by decide +kernel
theorem dL_law_512 : decode cL_law 512 = .ok (.aload_n 0, 1) := by decide +kernel
theorem dL_law_513 : decode cL_law 513 = .ok (.iload_n 3, 1) := by decide +kernel
theorem dL_law_514 : decode cL_law 514 = .ok (.iconst 2, 1) := by decide +kernel
theorem dL_law_515 : decode cL_law 515 = .ok (.iadd, 1) := by decide +kernel
theorem dL_law_516 : decode cL_law 516 = .ok (.iaload, 1) := by decide +kernel
theorem dL_law_517 : decode cL_law 517 = .ok (.invokevirtual 76, 3) := by decide +kernel
theorem dL_law_520 : decode cL_law 520 = .ok (.if_icmp .eq 344, 3) := by decide +kernel
theorem dL_law_523 : decode cL_law 523 = .ok (.iconst 0, 1) := by decide +kernel
theorem dL_law_524 : decode cL_law 524 = .ok (.ireturn, 1) := by decide +kernel
theorem dL_law_525 : decode cL_law 525 = .ok (.aload_n 1, 1) := by decide +kernel
theorem dL_law_526 : decode cL_law 526 = .ok (.aload_n 0, 1) := by decide +kernel
theorem dL_law_527 : decode cL_law 527 = .ok (.iload_n 3, 1) := by decide +kernel
theorem dL_law_528 : decode cL_law 528 = .ok (.iconst 1, 1) := by decide +kernel
theorem dL_law_529 : decode cL_law 529 = .ok (.iadd, 1) := by decide +kernel
theorem dL_law_530 : decode cL_law 530 = .ok (.iaload, 1) := by decide +kernel
theorem dL_law_531 : decode cL_law 531 = .ok (.invokevirtual 77, 3) := by decide +kernel
theorem dL_law_534 : decode cL_law 534 = .ok (.aload_n 2, 1) := by decide +kernel
theorem dL_law_535 : decode cL_law 535 = .ok (.aload_n 0, 1) := by decide +kernel
theorem dL_law_536 : decode cL_law 536 = .ok (.iload_n 3, 1) := by decide +kernel
theorem dL_law_537 : decode cL_law 537 = .ok (.iconst 1, 1) := by decide +kernel
theorem dL_law_538 : decode cL_law 538 = .ok (.iadd, 1) := by decide +kernel
theorem dL_law_539 : decode cL_law 539 = .ok (.iaload, 1) := by decide +kernel
theorem dL_law_540 : decode cL_law 540 = .ok (.invokevirtual 80, 3) := by decide +kernel
theorem dL_law_543 : decode cL_law 543 = .ok (.if_icmp .eq 321, 3) := by decide +kernel
theorem dL_law_546 : decode cL_law 546 = .ok (.iconst 0, 1) := by decide +kernel
theorem dL_law_547 : decode cL_law 547 = .ok (.ireturn, 1) := by decide +kernel
theorem dL_law_548 : decode cL_law 548 = .ok (.aload_n 1, 1) := by decide +kernel
theorem dL_law_549 : decode cL_law 549 = .ok (.aload_n 0, 1) := by decide +kernel
theorem dL_law_550 : decode cL_law 550 = .ok (.iload_n 3, 1) := by decide +kernel
theorem dL_law_551 : decode cL_law 551 = .ok (.iconst 1, 1) := by decide +kernel
theorem dL_law_552 : decode cL_law 552 = .ok (.iadd, 1) := by decide +kernel
theorem dL_law_553 : decode cL_law 553 = .ok (.iaload, 1) := by decide +kernel
theorem dL_law_554 : decode cL_law 554 = .ok (.aload_n 0, 1) := by decide +kernel
theorem dL_law_555 : decode cL_law 555 = .ok (.iload_n 3, 1) := by decide +kernel
theorem dL_law_556 : decode cL_law 556 = .ok (.iconst 2, 1) := by decide +kernel
theorem dL_law_557 : decode cL_law 557 = .ok (.iadd, 1) := by decide +kernel
theorem dL_law_558 : decode cL_law 558 = .ok (.iaload, 1) := by decide +kernel
theorem dL_law_559 : decode cL_law 559 = .ok (.invokevirtual 81, 3) := by decide +kernel
theorem dL_law_562 : decode cL_law 562 = .ok (.aload_n 2, 1) := by decide +kernel
theorem dL_law_563 : decode cL_law 563 = .ok (.aload_n 0, 1) := by decide +kernel
theorem dL_law_564 : decode cL_law 564 = .ok (.iload_n 3, 1) := by decide +kernel
theorem dL_law_565 : decode cL_law 565 = .ok (.iconst 1, 1) := by decide +kernel
theorem dL_law_566 : decode cL_law 566 = .ok (.iadd, 1) := by decide +kernel
theorem dL_law_567 : decode cL_law 567 = .ok (.iaload, 1) := by decide +kernel
theorem dL_law_568 : decode cL_law 568 = .ok (.aload_n 0, 1) := by decide +kernel
theorem dL_law_569 : decode cL_law 569 = .ok (.iload_n 3, 1) := by decide +kernel
theorem dL_law_570 : decode cL_law 570 = .ok (.iconst 2, 1) := by decide +kernel
theorem dL_law_571 : decode cL_law 571 = .ok (.iadd, 1) := by decide +kernel
theorem dL_law_572 : decode cL_law 572 = .ok (.iaload, 1) := by decide +kernel
theorem dL_law_573 : decode cL_law 573 = .ok (.invokevirtual 84, 3) := by decide +kernel
theorem dL_law_576 : decode cL_law 576 = .ok (.if_icmp .eq 288, 3) := by decide +kernel
theorem dL_law_579 : decode cL_law 579 = .ok (.iconst 0, 1) := by decide +kernel
theorem dL_law_580 : decode cL_law 580 = .ok (.ireturn, 1) := by decide +kernel
theorem dL_law_581 : decode cL_law 581 = .ok (.aload_n 1, 1) := by decide +kernel
theorem dL_law_582 : decode cL_law 582 = .ok (.aload_n 0, 1) := by decide +kernel
theorem dL_law_583 : decode cL_law 583 = .ok (.iload_n 3, 1) := by decide +kernel
theorem dL_law_584 : decode cL_law 584 = .ok (.iconst 1, 1) := by decide +kernel
theorem dL_law_585 : decode cL_law 585 = .ok (.iadd, 1) := by decide +kernel
theorem dL_law_586 : decode cL_law 586 = .ok (.iaload, 1) := by decide +kernel
theorem dL_law_587 : decode cL_law 587 = .ok (.aload_n 0, 1) := by decide +kernel
theorem dL_law_588 : decode cL_law 588 = .ok (.iload_n 3, 1) := by decide +kernel
theorem dL_law_589 : decode cL_law 589 = .ok (.iconst 2, 1) := by decide +kernel
theorem dL_law_590 : decode cL_law 590 = .ok (.iadd, 1) := by decide +kernel
theorem dL_law_591 : decode cL_law 591 = .ok (.iaload, 1) := by decide +kernel
theorem dL_law_592 : decode cL_law 592 = .ok (.invokevirtual 85, 3) := by decide +kernel
theorem dL_law_595 : decode cL_law 595 = .ok (.aload_n 2, 1) := by decide +kernel
theorem dL_law_596 : decode cL_law 596 = .ok (.aload_n 0, 1) := by decide +kernel
theorem dL_law_597 : decode cL_law 597 = .ok (.iload_n 3, 1) := by decide +kernel
theorem dL_law_598 : decode cL_law 598 = .ok (.iconst 1, 1) := by decide +kernel
theorem dL_law_599 : decode cL_law 599 = .ok (.iadd, 1) := by decide +kernel
theorem dL_law_600 : decode cL_law 600 = .ok (.iaload, 1) := by decide +kernel
theorem dL_law_601 : decode cL_law 601 = .ok (.aload_n 0, 1) := by decide +kernel
theorem dL_law_602 : decode cL_law 602 = .ok (.iload_n 3, 1) := by decide +kernel
theorem dL_law_603 : decode cL_law 603 = .ok (.iconst 2, 1) := by decide +kernel
theorem dL_law_604 : decode cL_law 604 = .ok (.iadd, 1) := by decide +kernel
theorem dL_law_605 : decode cL_law 605 = .ok (.iaload, 1) := by decide +kernel
theorem dL_law_606 : decode cL_law 606 = .ok (.invokevirtual 88, 3) := by decide +kernel
theorem dL_law_609 : decode cL_law 609 = .ok (.if_icmp .eq 255, 3) := by decide +kernel
theorem dL_law_612 : decode cL_law 612 = .ok (.iconst 0, 1) := by decide +kernel
theorem dL_law_613 : decode cL_law 613 = .ok (.ireturn, 1) := by decide +kernel
theorem dL_law_614 : decode cL_law 614 = .ok (.aload_n 1, 1) := by decide +kernel
theorem dL_law_615 : decode cL_law 615 = .ok (.aload_n 0, 1) := by decide +kernel
theorem dL_law_616 : decode cL_law 616 = .ok (.iload_n 3, 1) := by decide +kernel
theorem dL_law_617 : decode cL_law 617 = .ok (.iconst 1, 1) := by decide +kernel
theorem dL_law_618 : decode cL_law 618 = .ok (.iadd, 1) := by decide +kernel
theorem dL_law_619 : decode cL_law 619 = .ok (.iaload, 1) := by decide +kernel
theorem dL_law_620 : decode cL_law 620 = .ok (.invokevirtual 89, 3) := by decide +kernel
theorem dL_law_623 : decode cL_law 623 = .ok (.aload_n 2, 1) := by decide +kernel
theorem dL_law_624 : decode cL_law 624 = .ok (.aload_n 0, 1) := by decide +kernel
theorem dL_law_625 : decode cL_law 625 = .ok (.iload_n 3, 1) := by decide +kernel
theorem dL_law_626 : decode cL_law 626 = .ok (.iconst 1, 1) := by decide +kernel
theorem dL_law_627 : decode cL_law 627 = .ok (.iadd, 1) := by decide +kernel
theorem dL_law_628 : decode cL_law 628 = .ok (.iaload, 1) := by decide +kernel
theorem dL_law_629 : decode cL_law 629 = .ok (.invokevirtual 92, 3) := by decide +kernel
theorem dL_law_632 : decode cL_law 632 = .ok (.if_icmp .eq 232, 3) := by decide +kernel
theorem dL_law_635 : decode cL_law 635 = .ok (.iconst 0, 1) := by decide +kernel
theorem dL_law_636 : decode cL_law 636 = .ok (.ireturn, 1) := by decide +kernel
theorem dL_law_637 : decode cL_law 637 = .ok (.aload_n 1, 1) := by decide +kernel
theorem dL_law_638 : decode cL_law 638 = .ok (.aload_n 0, 1) := by decide +kernel
theorem dL_law_639 : decode cL_law 639 = .ok (.iload_n 3, 1) := by decide +kernel
theorem dL_law_640 : decode cL_law 640 = .ok (.iconst 1, 1) := by decide +kernel
theorem dL_law_641 : decode cL_law 641 = .ok (.iadd, 1) := by decide +kernel
theorem dL_law_642 : decode cL_law 642 = .ok (.iaload, 1) := by decide +kernel
theorem dL_law_643 : decode cL_law 643 = .ok (.aload_n 0, 1) := by decide +kernel
theorem dL_law_644 : decode cL_law 644 = .ok (.iload_n 3, 1) := by decide +kernel
theorem dL_law_645 : decode cL_law 645 = .ok (.iconst 2, 1) := by decide +kernel
theorem dL_law_646 : decode cL_law 646 = .ok (.iadd, 1) := by decide +kernel
theorem dL_law_647 : decode cL_law 647 = .ok (.iaload, 1) := by decide +kernel
theorem dL_law_648 : decode cL_law 648 = .ok (.aload_n 0, 1) := by decide +kernel
theorem dL_law_649 : decode cL_law 649 = .ok (.iload_n 3, 1) := by decide +kernel
theorem dL_law_650 : decode cL_law 650 = .ok (.iconst 3, 1) := by decide +kernel
theorem dL_law_651 : decode cL_law 651 = .ok (.iadd, 1) := by decide +kernel
theorem dL_law_652 : decode cL_law 652 = .ok (.iaload, 1) := by decide +kernel
theorem dL_law_653 : decode cL_law 653 = .ok (.invokevirtual 93, 3) := by decide +kernel
theorem dL_law_656 : decode cL_law 656 = .ok (.aload_n 2, 1) := by decide +kernel
theorem dL_law_657 : decode cL_law 657 = .ok (.aload_n 0, 1) := by decide +kernel
theorem dL_law_658 : decode cL_law 658 = .ok (.iload_n 3, 1) := by decide +kernel
theorem dL_law_659 : decode cL_law 659 = .ok (.iconst 1, 1) := by decide +kernel
theorem dL_law_660 : decode cL_law 660 = .ok (.iadd, 1) := by decide +kernel
theorem dL_law_661 : decode cL_law 661 = .ok (.iaload, 1) := by decide +kernel
theorem dL_law_662 : decode cL_law 662 = .ok (.aload_n 0, 1) := by decide +kernel
theorem dL_law_663 : decode cL_law 663 = .ok (.iload_n 3, 1) := by decide +kernel
theorem dL_law_664 : decode cL_law 664 = .ok (.iconst 2, 1) := by decide +kernel
theorem dL_law_665 : decode cL_law 665 = .ok (.iadd, 1) := by decide +kernel
theorem dL_law_666 : decode cL_law 666 = .ok (.iaload, 1) := by decide +kernel
theorem dL_law_667 : decode cL_law 667 = .ok (.aload_n 0, 1) := by decide +kernel
theorem dL_law_668 : decode cL_law 668 = .ok (.iload_n 3, 1) := by decide +kernel
theorem dL_law_669 : decode cL_law 669 = .ok (.iconst 3, 1) := by decide +kernel
theorem dL_law_670 : decode cL_law 670 = .ok (.iadd, 1) := by decide +kernel
theorem dL_law_671 : decode cL_law 671 = .ok (.iaload, 1) := by decide +kernel
theorem dL_law_672 : decode cL_law 672 = .ok (.invokevirtual 96, 3) := by decide +kernel
theorem dL_law_675 : decode cL_law 675 = .ok (.if_icmp .eq 189, 3) := by decide +kernel
theorem dL_law_678 : decode cL_law 678 = .ok (.iconst 0, 1) := by decide +kernel
theorem dL_law_679 : decode cL_law 679 = .ok (.ireturn, 1) := by decide +kernel
theorem dL_law_680 : decode cL_law 680 = .ok (.aload_n 1, 1) := by decide +kernel
theorem dL_law_681 : decode cL_law 681 = .ok (.aload_n 0, 1) := by decide +kernel
theorem dL_law_682 : decode cL_law 682 = .ok (.iload_n 3, 1) := by decide +kernel
theorem dL_law_683 : decode cL_law 683 = .ok (.iconst 1, 1) := by decide +kernel
theorem dL_law_684 : decode cL_law 684 = .ok (.iadd, 1) := by decide +kernel
theorem dL_law_685 : decode cL_law 685 = .ok (.iaload, 1) := by decide +kernel
theorem dL_law_686 : decode cL_law 686 = .ok (.aload_n 0, 1) := by decide +kernel
theorem dL_law_687 : decode cL_law 687 = .ok (.iload_n 3, 1) := by decide +kernel
theorem dL_law_688 : decode cL_law 688 = .ok (.iconst 2, 1) := by decide +kernel
theorem dL_law_689 : decode cL_law 689 = .ok (.iadd, 1) := by decide +kernel
theorem dL_law_690 : decode cL_law 690 = .ok (.iaload, 1) := by decide +kernel
theorem dL_law_691 : decode cL_law 691 = .ok (.invokevirtual 97, 3) := by decide +kernel
theorem dL_law_694 : decode cL_law 694 = .ok (.aload_n 2, 1) := by decide +kernel
theorem dL_law_695 : decode cL_law 695 = .ok (.aload_n 0, 1) := by decide +kernel
theorem dL_law_696 : decode cL_law 696 = .ok (.iload_n 3, 1) := by decide +kernel
theorem dL_law_697 : decode cL_law 697 = .ok (.iconst 1, 1) := by decide +kernel
theorem dL_law_698 : decode cL_law 698 = .ok (.iadd, 1) := by decide +kernel
theorem dL_law_699 : decode cL_law 699 = .ok (.iaload, 1) := by decide +kernel
theorem dL_law_700 : decode cL_law 700 = .ok (.aload_n 0, 1) := by decide +kernel
theorem dL_law_701 : decode cL_law 701 = .ok (.iload_n 3, 1) := by decide +kernel
theorem dL_law_702 : decode cL_law 702 = .ok (.iconst 2, 1) := by decide +kernel
theorem dL_law_703 : decode cL_law 703 = .ok (.iadd, 1) := by decide +kernel
theorem dL_law_704 : decode cL_law 704 = .ok (.iaload, 1) := by decide +kernel
theorem dL_law_705 : decode cL_law 705 = .ok (.invokevirtual 100, 3) := by decide +kernel
theorem dL_law_708 : decode cL_law 708 = .ok (.if_icmp .eq 156, 3) := by decide +kernel
theorem dL_law_711 : decode cL_law 711 = .ok (.iconst 0, 1) := by decide +kernel
theorem dL_law_712 : decode cL_law 712 = .ok (.ireturn, 1) := by decide +kernel
theorem dL_law_713 : decode cL_law 713 = .ok (.aload_n 1, 1) := by decide +kernel
theorem dL_law_714 : decode cL_law 714 = .ok (.invokevirtual 101, 3) := by decide +kernel
theorem dL_law_717 : decode cL_law 717 = .ok (.aload_n 2, 1) := by decide +kernel
theorem dL_law_718 : decode cL_law 718 = .ok (.invokevirtual 104, 3) := by decide +kernel
theorem dL_law_721 : decode cL_law 721 = .ok (.if_icmp .eq 143, 3) := by decide +kernel
theorem dL_law_724 : decode cL_law 724 = .ok (.iconst 0, 1) := by decide +kernel
theorem dL_law_725 : decode cL_law 725 = .ok (.ireturn, 1) := by decide +kernel
theorem dL_law_726 : decode cL_law 726 = .ok (.aload_n 1, 1) := by decide +kernel
theorem dL_law_727 : decode cL_law 727 = .ok (.aload_n 0, 1) := by decide +kernel
theorem dL_law_728 : decode cL_law 728 = .ok (.iload_n 3, 1) := by decide +kernel
theorem dL_law_729 : decode cL_law 729 = .ok (.iconst 1, 1) := by decide +kernel
theorem dL_law_730 : decode cL_law 730 = .ok (.iadd, 1) := by decide +kernel
theorem dL_law_731 : decode cL_law 731 = .ok (.iaload, 1) := by decide +kernel
theorem dL_law_732 : decode cL_law 732 = .ok (.aload_n 0, 1) := by decide +kernel
theorem dL_law_733 : decode cL_law 733 = .ok (.iload_n 3, 1) := by decide +kernel
theorem dL_law_734 : decode cL_law 734 = .ok (.iconst 2, 1) := by decide +kernel
theorem dL_law_735 : decode cL_law 735 = .ok (.iadd, 1) := by decide +kernel
theorem dL_law_736 : decode cL_law 736 = .ok (.iaload, 1) := by decide +kernel
theorem dL_law_737 : decode cL_law 737 = .ok (.invokevirtual 105, 3) := by decide +kernel
theorem dL_law_740 : decode cL_law 740 = .ok (.aload_n 2, 1) := by decide +kernel
theorem dL_law_741 : decode cL_law 741 = .ok (.aload_n 0, 1) := by decide +kernel
theorem dL_law_742 : decode cL_law 742 = .ok (.iload_n 3, 1) := by decide +kernel
theorem dL_law_743 : decode cL_law 743 = .ok (.iconst 1, 1) := by decide +kernel
theorem dL_law_744 : decode cL_law 744 = .ok (.iadd, 1) := by decide +kernel
theorem dL_law_745 : decode cL_law 745 = .ok (.iaload, 1) := by decide +kernel
theorem dL_law_746 : decode cL_law 746 = .ok (.aload_n 0, 1) := by decide +kernel
theorem dL_law_747 : decode cL_law 747 = .ok (.iload_n 3, 1) := by decide +kernel
theorem dL_law_748 : decode cL_law 748 = .ok (.iconst 2, 1) := by decide +kernel
theorem dL_law_749 : decode cL_law 749 = .ok (.iadd, 1) := by decide +kernel
theorem dL_law_750 : decode cL_law 750 = .ok (.iaload, 1) := by decide +kernel
theorem dL_law_751 : decode cL_law 751 = .ok (.invokevirtual 108, 3) := by decide +kernel
theorem dL_law_754 : decode cL_law 754 = .ok (.if_icmp .eq 110, 3) := by decide +kernel
theorem dL_law_757 : decode cL_law 757 = .ok (.iconst 0, 1) := by decide +kernel
theorem dL_law_758 : decode cL_law 758 = .ok (.ireturn, 1) := by decide +kernel
theorem dL_law_759 : decode cL_law 759 = .ok (.aload_n 1, 1) := by decide +kernel
theorem dL_law_760 : decode cL_law 760 = .ok (.invokevirtual 109, 3) := by decide +kernel
theorem dL_law_763 : decode cL_law 763 = .ok (.aload_n 2, 1) := by decide +kernel
theorem dL_law_764 : decode cL_law 764 = .ok (.invokevirtual 112, 3) := by decide +kernel
theorem dL_law_767 : decode cL_law 767 = .ok (.if_icmp .eq 97, 3) := by decide +kernel
theorem dL_law_770 : decode cL_law 770 = .ok (.iconst 0, 1) := by decide +kernel
theorem dL_law_771 : decode cL_law 771 = .ok (.ireturn, 1) := by decide +kernel
theorem dL_law_772 : decode cL_law 772 = .ok (.aload_n 1, 1) := by decide +kernel
theorem dL_law_773 : decode cL_law 773 = .ok (.aload_n 0, 1) := by decide +kernel
theorem dL_law_774 : decode cL_law 774 = .ok (.iload_n 3, 1) := by decide +kernel
theorem dL_law_775 : decode cL_law 775 = .ok (.iconst 1, 1) := by decide +kernel
theorem dL_law_776 : decode cL_law 776 = .ok (.iadd, 1) := by decide +kernel
theorem dL_law_777 : decode cL_law 777 = .ok (.iaload, 1) := by decide +kernel
theorem dL_law_778 : decode cL_law 778 = .ok (.invokevirtual 113, 3) := by decide +kernel
theorem dL_law_781 : decode cL_law 781 = .ok (.aload_n 2, 1) := by decide +kernel
theorem dL_law_782 : decode cL_law 782 = .ok (.aload_n 0, 1) := by decide +kernel
theorem dL_law_783 : decode cL_law 783 = .ok (.iload_n 3, 1) := by decide +kernel
theorem dL_law_784 : decode cL_law 784 = .ok (.iconst 1, 1) := by decide +kernel
theorem dL_law_785 : decode cL_law 785 = .ok (.iadd, 1) := by decide +kernel
theorem dL_law_786 : decode cL_law 786 = .ok (.iaload, 1) := by decide +kernel
theorem dL_law_787 : decode cL_law 787 = .ok (.invokevirtual 116, 3) := by decide +kernel
theorem dL_law_790 : decode cL_law 790 = .ok (.if_icmp .eq 74, 3) := by decide +kernel
theorem dL_law_793 : decode cL_law 793 = .ok (.iconst 0, 1) := by decide +kernel
theorem dL_law_794 : decode cL_law 794 = .ok (.ireturn, 1) := by decide +kernel
theorem dL_law_795 : decode cL_law 795 = .ok (.aload_n 1, 1) := by decide +kernel
theorem dL_law_796 : decode cL_law 796 = .ok (.aload_n 0, 1) := by decide +kernel
theorem dL_law_797 : decode cL_law 797 = .ok (.iload_n 3, 1) := by decide +kernel
theorem dL_law_798 : decode cL_law 798 = .ok (.iconst 1, 1) := by decide +kernel
theorem dL_law_799 : decode cL_law 799 = .ok (.iadd, 1) := by decide +kernel
theorem dL_law_800 : decode cL_law 800 = .ok (.iaload, 1) := by decide +kernel
theorem dL_law_801 : decode cL_law 801 = .ok (.invokevirtual 117, 3) := by decide +kernel
theorem dL_law_804 : decode cL_law 804 = .ok (.aload_n 2, 1) := by decide +kernel
theorem dL_law_805 : decode cL_law 805 = .ok (.aload_n 0, 1) := by decide +kernel
theorem dL_law_806 : decode cL_law 806 = .ok (.iload_n 3, 1) := by decide +kernel
theorem dL_law_807 : decode cL_law 807 = .ok (.iconst 1, 1) := by decide +kernel
theorem dL_law_808 : decode cL_law 808 = .ok (.iadd, 1) := by decide +kernel
theorem dL_law_809 : decode cL_law 809 = .ok (.iaload, 1) := by decide +kernel
theorem dL_law_810 : decode cL_law 810 = .ok (.invokevirtual 120, 3) := by decide +kernel
theorem dL_law_813 : decode cL_law 813 = .ok (.if_icmp .eq 51, 3) := by decide +kernel
theorem dL_law_816 : decode cL_law 816 = .ok (.iconst 0, 1) := by decide +kernel
theorem dL_law_817 : decode cL_law 817 = .ok (.ireturn, 1) := by decide +kernel
theorem dL_law_818 : decode cL_law 818 = .ok (.aload_n 1, 1) := by decide +kernel
theorem dL_law_819 : decode cL_law 819 = .ok (.aload_n 0, 1) := by decide +kernel
theorem dL_law_820 : decode cL_law 820 = .ok (.iload_n 3, 1) := by decide +kernel
theorem dL_law_821 : decode cL_law 821 = .ok (.iconst 1, 1) := by decide +kernel
theorem dL_law_822 : decode cL_law 822 = .ok (.iadd, 1) := by decide +kernel
theorem dL_law_823 : decode cL_law 823 = .ok (.iaload, 1) := by decide +kernel
theorem dL_law_824 : decode cL_law 824 = .ok (.invokevirtual 121, 3) := by decide +kernel
theorem dL_law_827 : decode cL_law 827 = .ok (.aload_n 2, 1) := by decide +kernel
theorem dL_law_828 : decode cL_law 828 = .ok (.aload_n 0, 1) := by decide +kernel
theorem dL_law_829 : decode cL_law 829 = .ok (.iload_n 3, 1) := by decide +kernel
theorem dL_law_830 : decode cL_law 830 = .ok (.iconst 1, 1) := by decide +kernel
theorem dL_law_831 : decode cL_law 831 = .ok (.iadd, 1) := by decide +kernel
theorem dL_law_832 : decode cL_law 832 = .ok (.iaload, 1) := by decide +kernel
theorem dL_law_833 : decode cL_law 833 = .ok (.invokevirtual 124, 3) := by decide +kernel
theorem dL_law_836 : decode cL_law 836 = .ok (.if_icmp .eq 28, 3) := by decide +kernel
theorem dL_law_839 : decode cL_law 839 = .ok (.iconst 0, 1) := by decide +kernel
theorem dL_law_840 : decode cL_law 840 = .ok (.ireturn, 1) := by decide +kernel
theorem dL_law_841 : decode cL_law 841 = .ok (.aload_n 1, 1) := by decide +kernel
theorem dL_law_842 : decode cL_law 842 = .ok (.aload_n 0, 1) := by decide +kernel
theorem dL_law_843 : decode cL_law 843 = .ok (.iload_n 3, 1) := by decide +kernel
theorem dL_law_844 : decode cL_law 844 = .ok (.iconst 1, 1) := by decide +kernel
theorem dL_law_845 : decode cL_law 845 = .ok (.iadd, 1) := by decide +kernel
theorem dL_law_846 : decode cL_law 846 = .ok (.iaload, 1) := by decide +kernel
theorem dL_law_847 : decode cL_law 847 = .ok (.invokevirtual 125, 3) := by decide +kernel
theorem dL_law_850 : decode cL_law 850 = .ok (.aload_n 2, 1) := by decide +kernel
theorem dL_law_851 : decode cL_law 851 = .ok (.aload_n 0, 1) := by decide +kernel
theorem dL_law_852 : decode cL_law 852 = .ok (.iload_n 3, 1) := by decide +kernel
theorem dL_law_853 : decode cL_law 853 = .ok (.iconst 1, 1) := by decide +kernel
theorem dL_law_854 : decode cL_law 854 = .ok (.iadd, 1) := by decide +kernel
theorem dL_law_855 : decode cL_law 855 = .ok (.iaload, 1) := by decide +kernel
theorem dL_law_856 : decode cL_law 856 = .ok (.invokevirtual 128, 3) := by decide +kernel
theorem dL_law_859 : decode cL_law 859 = .ok (.if_icmp .eq 5, 3) := by decide +kernel
theorem dL_law_862 : decode cL_law 862 = .ok (.iconst 0, 1) := by decide +kernel
theorem dL_law_863 : decode cL_law 863 = .ok (.ireturn, 1) := by decide +kernel
theorem dL_law_864 : decode cL_law 864 = .ok (.iinc 3 4, 3) := by decide +kernel
theorem dL_law_867 : decode cL_law 867 = .ok (.goto (-849), 3) := by decide +kernel
theorem dL_law_870 : decode cL_law 870 = .ok (.iconst 1, 1) := by decide +kernel
theorem dL_law_871 : decode cL_law 871 = .ok (.ireturn, 1) := by decide +kernel
end
section
/-! The forms of contract used here, and the rows of calls over them. -/
theorem iX0 : ∀ w ∈ u_ws RX0 TX0 8, w ∈ TB := by decide +kernel
theorem iX1 : ∀ w ∈ u_ws RX1 TX1 3, w ∈ TB := by decide +kernel
theorem iX2 : ∀ w ∈ u_ws RX2 TX2 2, w ∈ TB := by decide +kernel
theorem iX3 : ∀ w ∈ u_ws RX3 TX3 2, w ∈ TB := by decide +kernel
theorem iX4 : ∀ w ∈ u_ws RX4 TX4 5, w ∈ TB := by decide +kernel
theorem iX5 : ∀ w ∈ u_ws RX5 TX5 9, w ∈ TB := by decide +kernel
theorem iX6 : ∀ w ∈ u_ws RX6 TX6 7, w ∈ TB := by decide +kernel
theorem iX7 : ∀ w ∈ u_ws RX7 TX7 5, w ∈ TB := by decide +kernel
theorem iX8 : ∀ w ∈ u_ws RX8 TX8 6, w ∈ TB := by decide +kernel
theorem iX9 : ∀ w ∈ u_ws RX9 TX9 10, w ∈ TB := by decide +kernel
theorem iX10 : ∀ w ∈ u_ws RX10 TX10 27, w ∈ TB := by decide +kernel
/-- the words on nest mates, which no list of words may hold -/
def NW (U : State) : Prop :=
  (va_Nw (.methodLinkNest RX9 11 yX8_init "DotThresholds") U ∧ va_Nw (.methodLinkNest RX9 69 yX3_init "DotThresholds") U ∧ va_Nw (.methodLinkNest RX9 76 yX2_init "DotThresholds") U) ∧
  va_Nw (.methodLinkNest RX0 81 yX9_has "DotThresholds") U ∧ va_Nw (.methodLinkNest RX1 39 yX9_has "DotThresholds") U ∧ va_Nw (.methodLinkNest RX4 52 yX9_has "DotThresholds") U ∧ va_Nw (.methodLinkNest RX6 110 yX9_has "DotThresholds") U ∧ va_Nw (.methodLinkNest RX8 92 yX9_has "DotThresholds") U
theorem NW.warm {s U : State} (hW : s.WarmedH U.vm) (h : NW s) : NW U := ⟨⟨va_Nw.warmM hW h.1.1, va_Nw.warmM hW h.1.2.1, va_Nw.warmM hW h.1.2.2⟩, va_Nw.warmM hW h.2.1, va_Nw.warmM hW h.2.2.1, va_Nw.warmM hW h.2.2.2.1, va_Nw.warmM hW h.2.2.2.2.1, va_Nw.warmM hW h.2.2.2.2.2⟩
theorem NW.same {u U : State} (hv : u.vm = U.vm) (h : NW u) : NW U := ⟨⟨va_Nw.same rfl hv h.1.1, va_Nw.same rfl hv h.1.2.1, va_Nw.same rfl hv h.1.2.2⟩, va_Nw.same rfl hv h.2.1, va_Nw.same rfl hv h.2.2.1, va_Nw.same rfl hv h.2.2.2.1, va_Nw.same rfl hv h.2.2.2.2.1, va_Nw.same rfl hv h.2.2.2.2.2⟩
def KK (D : va_G) (cy : ClassId × ClassId × ClassId) (U : State) : Prop := va_K D vwCl [(cy.1, .int), (cy.2.1, .long), (cy.2.2, .boolean)] U ∧ NW U
theorem KK.warm {D : va_G} {cy : ClassId × ClassId × ClassId} {s U : State} (hW : s.WarmedH U.vm) (h : KK D cy s) : KK D cy U := ⟨va_K.moved hW.alike h.1, h.2.warm hW⟩
theorem KK.call {D : va_G} {cy : ClassId × ClassId × ClassId} {U : State} {g : JFrame} {mk : MethodId} {a : Array Value} (h : KK D cy U) : KK D cy (U.calling g mk a) := ⟨va_K.moved (u := U) (U := U.calling g mk a) (Vm.Alike.refl U.vm) h.1, NW.same rfl h.2⟩
def Pc0 (av : List Value) (D : va_G) (cy : ClassId × ClassId × ClassId) (H0 : Heap) : Array Value → State → Prop := fun v U => v = av.toArray ∧ U.heap = H0 ∧ KK D cy U
theorem Pc0.blind {av : List Value} {D : va_G} {cy : ClassId × ClassId × ClassId} {H0 : Heap} : FrameBlind (Pc0 av D cy H0) := fun _ _ _ _ h => ⟨h.1, h.2.1, h.2.2.call⟩
/-- the end of a method that writes nothing -/
def QR (v : Option Value) (H0 : Heap) : Array Value → State → Outcome → State → Prop := fun _ _ o t => o = .returned v ∧ t.heap = H0
/-- the end of a method that writes its own world: the world is w1 then -/
def QW (v : Option Value) (D : va_G) (w1 : va_W) (H0 : Heap) (A : Nat → Prop) : Array Value → State → Outcome → State → Prop := fun _ _ o t => o = .returned v ∧ va_P D vwCl w1 t.heap ∧ H0.size ≤ t.heap.size ∧ ∀ q : Nat, q < H0.size → ¬ A q → t.heap[q]? = H0[q]?
def Rd (l : Launch) (y : MethodName) (bytes : ByteArray) (maxL : Nat) (ret : Option FieldType) (rm : Room) (av : List Value) (v : Option Value) (D : va_G) (cy : ClassId × ClassId × ClassId) (H0 : Heap) : Prop := Met l y (Cond.code y bytes maxL ret :: TB) rm (Pc0 av D cy H0) (QR v H0) 0 0 (fun _ => False)
def Wr (l : Launch) (y : MethodName) (bytes : ByteArray) (maxL : Nat) (ret : Option FieldType) (rm : Room) (av : List Value) (v : Option Value) (D : va_G) (cy : ClassId × ClassId × ClassId) (H0 : Heap) (wc w1 : va_W) : Prop := Met l y (Cond.code y bytes maxL ret :: TB) rm (Pc0 av D cy H0) (QW v D w1 H0 (va_A wc H0.size)) 0 0 (va_A wc H0.size)
def OkB (y : MethodName) (bytes : ByteArray) (maxL : Nat) (ret : Option FieldType) (n : Nat) : Prop := Cond.code y bytes maxL ret ∈ TB ∧ Cond.initialized y.cls ∈ TB ∧ y.cls ≠ "java/lang/invoke/MethodHandle" ∧ y.cls ≠ "java/lang/invoke/VarHandle" ∧ (parseMethodDescriptor y.desc).map (fun d => d.parameters.length) = some n
def OkV (y : MethodName) (bytes : ByteArray) (maxL : Nat) (ret : Option FieldType) (n : Nat) : Prop := OkB y bytes maxL ret n ∧ Cond.instanceMethod y ∈ TB ∧ Cond.selects y.cls y y ∈ TB
def OkS (y : MethodName) (bytes : ByteArray) (maxL : Nat) (ret : Option FieldType) (n : Nat) : Prop := OkB y bytes maxL ret n ∧ Cond.static y ∈ TB
def RmOk (R rm : Room) (maxL : Nat) : Prop := rm.cells = 0 ∧ rm.slots = 0 ∧ rm.frames + 1 ≤ R.frames ∧ 8 + (maxL + 11) + rm.locals ≤ R.locals
theorem tb_code {y : MethodName} {bytes : ByteArray} {maxL : Nat} {ret : Option FieldType} (h : Cond.code y bytes maxL ret ∈ TB) : GoodIn TB (Cond.code y bytes maxL ret :: TB) := by
  intro w hw
  rcases List.mem_cons.mp hw with rfl | h1
  · exact tb_good _ h
  · exact tb_good w h1
theorem q_gV {own : String} {index n : Nat} {y : MethodName} {bytes : ByteArray} {maxL : Nat} {ret : Option FieldType} (hy : OkV y bytes maxL ret n) (hl : Cond.methodLink own index y ∈ TB) : GoodIn TB (wsV own index y.cls y (Cond.code y bytes maxL ret :: TB)) := by
  intro w hw
  rcases List.mem_append.mp hw with h | h
  · simp only [List.mem_cons, List.not_mem_nil, or_false] at h
    rcases h with rfl | rfl | rfl | rfl
    · exact tb_good _ hl
    · exact tb_good _ hy.2.1
    · exact tb_good _ hy.2.2
    · exact tb_good _ hy.1.2.1
  · exact tb_code hy.1.1 w h
theorem q_gS {own : String} {index n : Nat} {y : MethodName} {bytes : ByteArray} {maxL : Nat} {ret : Option FieldType} (hy : OkS y bytes maxL ret n) (hl : Cond.methodLink own index y ∈ TB) : GoodIn TB (va_wsS own index y (Cond.code y bytes maxL ret :: TB)) := by
  intro w hw
  rcases List.mem_append.mp hw with h | h
  · simp only [List.mem_cons, List.not_mem_nil, or_false] at h
    rcases h with rfl | rfl | rfl
    · exact tb_good _ hl
    · exact tb_good _ hy.2
    · exact tb_good _ hy.1.2.1
  · exact tb_code hy.1.1 w h
theorem q_cV {R : Room} {s : State} {args : Array Value} {own : String} {index n : Nat} {y : MethodName} {bytes : ByteArray} {maxL : Nat} {ret : Option FieldType} {rm : Room} (hts : ∀ w ∈ TB, w.before args s = true) (hy : OkV y bytes maxL ret n) (hl : Cond.methodLink own index y ∈ TB) (hR : RmOk R rm maxL) : CallW R s args own y.cls index y bytes maxL ret (Cond.code y bytes maxL ret :: TB) rm 0 0 n :=
  cwV n hts (q_gV hy hl) rfl hR.1 hR.2.1 ⟨rfl, hy.1.2.2.1, hy.1.2.2.2.1, hy.1.2.2.2.2⟩ ⟨hR.2.2.1, hR.2.2.2⟩
theorem q_cS {R : Room} {s : State} {args : Array Value} {own : String} {index n : Nat} {y : MethodName} {bytes : ByteArray} {maxL : Nat} {ret : Option FieldType} {rm : Room} (hts : ∀ w ∈ TB, w.before args s = true) (hy : OkS y bytes maxL ret n) (hl : Cond.methodLink own index y ∈ TB) (hR : RmOk R rm maxL) : CallB R s args own index y bytes maxL ret (Cond.code y bytes maxL ret :: TB) rm 0 0 n ∧ (Cond.static y).before args s = true :=
  va_cwS n hts (q_gS hy hl) rfl hR.1 hR.2.1 ⟨hy.1.2.2.1, hy.1.2.2.2.1, hy.1.2.2.2.2⟩ ⟨hR.2.2.1, hR.2.2.2⟩
/-- w1's cells at the places 'is' -/
def qset (ws : va_W) : List Nat → va_W → va_W
  | i :: is, x :: xs => qset (ws.set i x) is xs
  | _, _ => ws
theorem qset_get : ∀ (is : List Nat) (w1 ws : va_W) (k : Nat) (q : Nat × va_E), is.length = w1.length → (qset ws is w1)[k]? = some q → (∃ j : Nat, w1[j]? = some q) ∨ (ws[k]? = some q ∧ k ∉ is) := by
  intro is
  induction is with
  | nil =>
    intro w1 ws k q hl h
    exact Or.inr ⟨by cases w1 <;> exact h, List.not_mem_nil⟩
  | cons i is ih =>
    intro w1 ws k q hl h
    cases w1 with
    | nil => simp at hl
    | cons x xs =>
      rcases ih xs (ws.set i x) k q (by simpa using hl) h with ⟨j, hj⟩ | ⟨h1, h2⟩
      · exact Or.inl ⟨j + 1, hj⟩
      · by_cases hik : i = k
        · subst hik
          rw [List.getElem?_set_self'] at h1
          cases hw : ws[i]? with
          | none => rw [hw] at h1; simp at h1
          | some z =>
            rw [hw] at h1
            refine Or.inl ⟨0, ?_⟩
            simpa using h1
        · rw [List.getElem?_set_ne hik] at h1
          exact Or.inr ⟨h1, fun hm => (List.mem_cons.mp hm).elim (fun h => hik h.symm) h2⟩
theorem qD_re {A : Nat → Prop} {ws ws' : va_W} (hD : va_D A ws) (h : ws'.map Prod.fst = ws.map Prod.fst) : va_D A ws' := by
  have key : ∀ (i : Nat) (p : Nat × va_E), ws'[i]? = some p → ∃ p' : Nat × va_E, ws[i]? = some p' ∧ p'.1 = p.1 := by
    intro i p hp
    have h1 : (ws'.map Prod.fst)[i]? = some p.1 := by rw [List.getElem?_map, hp]; rfl
    rw [h, List.getElem?_map] at h1
    cases hw : ws[i]? with
    | none => rw [hw] at h1; simp at h1
    | some z => rw [hw] at h1; exact ⟨z, rfl, by simpa using h1⟩
  refine ⟨fun i j p q hp hq hpq => ?_, fun k q hq => ?_⟩
  · obtain ⟨p', h1, h2⟩ := key i p hp
    obtain ⟨q', h3, h4⟩ := key j q hq
    exact hD.1 i j p' q' h1 h3 (by rw [h2, h4]; exact hpq)
  · obtain ⟨q', h3, h4⟩ := key k q hq
    rw [← h4]
    exact hD.2 k q' h3
theorem q_join {A : Nat → Prop} {D : va_G} {cl : List vw_C} {ws wc w1 ws' : va_W} {H H1 : Heap} (hP : va_P D cl ws H) (hD : va_D A ws) (is : List Nat) (hC : is.map (fun i => ws[i]?) = wc.map some) (hl : is.length = w1.length) (hw : qset ws is w1 = ws')
    (hk : ∀ q : Nat, q < H.size → ¬ va_A wc H.size q → H1[q]? = H[q]?) (hP1 : va_P D cl w1 H1) : va_P D cl ws' H1 := by
  intro k q hq
  rw [← hw] at hq
  rcases qset_get is w1 ws k q hl hq with ⟨j, hj⟩ | ⟨h1, h2⟩
  · exact hP1 j q hj
  · have hlt := (hP k q h1).lt
    refine (hP k q h1).kept (hk q.1 hlt fun h => ?_)
    rcases h with ⟨k2, e, h⟩ | h
    · have h3 : (is.map (fun i => ws[i]?))[k2]? = some (some (q.1, e)) := by rw [hC, List.getElem?_map, h]; rfl
      rw [List.getElem?_map] at h3
      cases hi : is[k2]? with
      | none => rw [hi] at h3; simp at h3
      | some i =>
        rw [hi] at h3
        have h4 : ws[i]? = some (q.1, e) := by simpa using h3
        have := hD.1 k i q (q.1, e) h1 h4 rfl
        subst this
        exact h2 (List.mem_of_getElem? hi)
    · omega
theorem qD_sub {A : Nat → Prop} {ws wc : va_W} (hD : va_D A ws) (is : List Nat) (hn : va_nd is = true) (hC : is.map (fun i => ws[i]?) = wc.map some) : va_D (fun _ => True) wc := (hD.sub is hn hC).weaken (fun _ _ _ _ => trivial)
section QB
variable {p : Program} {l : Launch} {e : Env} {R : Room} {s : State} {m : MethodId} {args : Array Value} {below : List Frame} {meth : Method} {c : Code} {H : Heap} {locs : List Loc} {cells slots : Nat} {Q : State → Prop}
variable {args' : Array Value} {y : MethodName} {bytes cc : ByteArray} {maxL nL n index pc : Nat} {ret : Option FieldType} {rm : Room} {own host : String} {b : Addr} {As rest st st2 : List Value} {v : Option Value} {D : va_G} {cy : ClassId × ClassId × ClassId} {ls : Array Slot} {A : Nat → Prop} {H0 : Heap} {ws wc w1 ws' : va_W}
theorem q_doneR (run : va_Run p l e R s m args below meth c H locs cells slots 0 0 (F0 m pc ls st) rest (QR v H args') (fun _ => False)) (h2 : v.toList ++ rest = st2)
    (kk : W p l e R s m args below meth c H locs cells slots Q (F0 m (pc + 3) ls st2)) : W p l e R s m args below meth c H locs cells slots Q (F0 m pc ls st) := by
  subst h2
  intro T hT X
  obtain ⟨v', st₀, t, T', L, h0, X', hL, e1, e2, ⟨hv, hb⟩, go⟩ := run T hT X
  cases hv
  have hL0 : L = [] := by
    cases L with
    | nil => rfl
    | cons a b => exact (hL a List.mem_cons_self).elim
  subst hL0
  rw [List.append_nil] at X'
  obtain ⟨t2, a1, b1⟩ := kk T' (e1.trans hb) X'
  exact ⟨t2, go t2 a1, b1⟩
theorem q_doneW (run : va_Run p l e R s m args below meth c H locs cells slots 0 0 (F0 m pc ls st) rest (QW v D w1 H (va_A wc H.size) args') (va_A wc H.size)) (h2 : v.toList ++ rest = st2) (hP : va_P D vwCl ws H) (hD : va_D A ws) (hS : va_S A H0 H locs) (hA : ∀ q, H0.size ≤ q → A q) (is : List Nat) (hC : is.map (fun i => ws[i]?) = wc.map some) (hl : is.length = w1.length) (hw : qset ws is w1 = ws') (had : ws'.map Prod.fst = ws.map Prod.fst)
    (kk : ∀ (H1 : Heap) (locs1 : List Loc), va_P D vwCl ws' H1 → va_D A ws' → va_S A H0 H1 locs1 → W p l e R s m args below meth c H1 locs1 cells slots Q (F0 m (pc + 3) ls st2)) : W p l e R s m args below meth c H locs cells slots Q (F0 m pc ls st) := by
  subst h2
  intro T hT X
  obtain ⟨v', st₀, t, T', L, h0, X', hL, e1, e2, ⟨hv, hb, hz, hk⟩, go⟩ := run T hT X
  cases hv
  have hF := va_free (wc := wc) hD hS hA is hC
  rw [← e1] at hb hz hk
  obtain ⟨t2, a1, b1⟩ := kk T'.heap (locs ++ L) (q_join hP hD is hC hl hw hk hb) (qD_re hD had) ⟨Nat.le_trans hS.1 hz, fun q h1 h2 => (hk q (Nat.lt_of_lt_of_le h1 hS.1) (fun z => h2 (hF q z))).trans (hS.2.1 q h1 h2), fun q hq => by
    rcases List.mem_append.mp hq with h | h
    · exact hS.2.2 q h
    · exact hF _ (hL q h)⟩ T' rfl X'
  exact ⟨t2, go t2 a1, b1⟩
theorem q_rdV (S : CallFix p m c cc nL s args TB own) (hk : KK D cy s) (hM : Rd l y bytes maxL ret rm (.ref b :: As) v D cy H) (hy : OkV y bytes maxL ret n) (hl : Cond.methodLink own index y ∈ TB) (hR : RmOk R rm maxL) (hrc : ∃ cell : Cell, H[b]? = some cell ∧ cell.vm.isStatics = false ∧ s.vm.findClass y.cls = some cell.cls) (hn : As.length = n) (hsize : ls.size = nL) (hst : st = As.reverse ++ .ref b :: rest) (hW : (rest.map fun v => v.category).sum ≤ 8) (hdg : decode cc pc = .ok (.invokevirtual index, 3)) (hf : cells ≤ R.cells ∧ slots ≤ R.slots) (h2 : v.toList ++ rest = st2)
    (kk : W p l e R s m args below meth c H locs cells slots Q (F0 m (pc + 3) ls st2)) : W p l e R s m args below meth c H locs cells slots Q (F0 m pc ls st) :=
  q_doneR (va_runV (g := F0 m pc ls st) (rest := rest) S hM (q_cV S.2.2.2.2 hy hl hR) ⟨Pc0.blind, hrc, fun U hU hW => ⟨rfl, hU, hk.warm hW⟩⟩ rfl hn hsize hst (lv_room hW) hdg hf) h2 kk
theorem q_rdS (S : CallFix p m c cc nL s args TB own) (hk : KK D cy s) (hM : Rd l y bytes maxL ret rm As v D cy H) (hy : OkS y bytes maxL ret n) (hl : Cond.methodLink own index y ∈ TB) (hR : RmOk R rm maxL) (hn : As.length = n) (hsize : ls.size = nL) (hst : st = As.reverse ++ rest) (hW : (rest.map fun v => v.category).sum ≤ 8) (hdg : decode cc pc = .ok (.invokestatic index, 3)) (hf : cells ≤ R.cells ∧ slots ≤ R.slots) (h2 : v.toList ++ rest = st2)
    (kk : W p l e R s m args below meth c H locs cells slots Q (F0 m (pc + 3) ls st2)) : W p l e R s m args below meth c H locs cells slots Q (F0 m pc ls st) :=
  q_doneR (va_runS (g := F0 m pc ls st) (rest := rest) S hM (q_cS S.2.2.2.2 hy hl hR) ⟨Pc0.blind, fun U hU hW => ⟨rfl, hU, hk.warm hW⟩⟩ rfl hn hsize hst (lv_room hW) hdg hf) h2 kk
theorem q_rdN (S : CallFix p m c cc nL s args TB own) (hk : KK D cy s) (hM : Rd l y bytes maxL ret rm As v D cy H) (hy : OkS y bytes maxL ret n) (hl : va_Nw (.methodLinkNest own index y host) s) (hR : RmOk R rm maxL) (hn : As.length = n) (hsize : ls.size = nL) (hst : st = As.reverse ++ rest) (hW : (rest.map fun v => v.category).sum ≤ 8) (hdg : decode cc pc = .ok (.invokestatic index, 3)) (hf : cells ≤ R.cells ∧ slots ≤ R.slots) (h2 : v.toList ++ rest = st2)
    (kk : W p l e R s m args below meth c H locs cells slots Q (F0 m (pc + 3) ls st2)) : W p l e R s m args below meth c H locs cells slots Q (F0 m pc ls st) :=
  q_doneR (va_runSN (g := F0 m pc ls st) (rest := rest) S hM ⟨va_cnB n S.2.2.2.2 (tb_code hy.1.1) rfl hR.1 hR.2.1 hl (S.2.2.2.2 _ hy.1.2.1) ⟨hy.1.2.2.1, hy.1.2.2.2.1, hy.1.2.2.2.2⟩ ⟨hR.2.2.1, hR.2.2.2⟩, S.2.2.2.2 _ hy.2, trivial⟩ ⟨Pc0.blind, fun U hU hW => ⟨rfl, hU, hk.warm hW⟩⟩ rfl hn hsize hst (lv_room hW) hdg hf) h2 kk
theorem q_wrV (S : CallFix p m c cc nL s args TB own) (hk : KK D cy s) (hM : Wr l y bytes maxL ret rm (.ref b :: As) v D cy H wc w1) (hy : OkV y bytes maxL ret n) (hl : Cond.methodLink own index y ∈ TB) (hR : RmOk R rm maxL) (hrc : ∃ cell : Cell, H[b]? = some cell ∧ cell.vm.isStatics = false ∧ s.vm.findClass y.cls = some cell.cls) (hn : As.length = n) (hsize : ls.size = nL) (hst : st = As.reverse ++ .ref b :: rest) (hW : (rest.map fun v => v.category).sum ≤ 8) (hdg : decode cc pc = .ok (.invokevirtual index, 3)) (hf : cells ≤ R.cells ∧ slots ≤ R.slots) (h2 : v.toList ++ rest = st2)
    (hP : va_P D vwCl ws H) (hD : va_D A ws) (hS : va_S A H0 H locs) (hA : ∀ q, H0.size ≤ q → A q) (is : List Nat) (hC : is.map (fun i => ws[i]?) = wc.map some) (hl2 : is.length = w1.length) (hw : qset ws is w1 = ws') (had : ws'.map Prod.fst = ws.map Prod.fst)
    (kk : ∀ (H1 : Heap) (locs1 : List Loc), va_P D vwCl ws' H1 → va_D A ws' → va_S A H0 H1 locs1 → W p l e R s m args below meth c H1 locs1 cells slots Q (F0 m (pc + 3) ls st2)) : W p l e R s m args below meth c H locs cells slots Q (F0 m pc ls st) :=
  q_doneW (va_runV (g := F0 m pc ls st) (rest := rest) S hM (q_cV S.2.2.2.2 hy hl hR) ⟨Pc0.blind, hrc, fun U hU hW => ⟨rfl, hU, hk.warm hW⟩⟩ rfl hn hsize hst (lv_room hW) hdg hf) h2 hP hD hS hA is hC hl2 hw had kk
theorem q_wrS (S : CallFix p m c cc nL s args TB own) (hk : KK D cy s) (hM : Wr l y bytes maxL ret rm As v D cy H wc w1) (hy : OkS y bytes maxL ret n) (hl : Cond.methodLink own index y ∈ TB) (hR : RmOk R rm maxL) (hn : As.length = n) (hsize : ls.size = nL) (hst : st = As.reverse ++ rest) (hW : (rest.map fun v => v.category).sum ≤ 8) (hdg : decode cc pc = .ok (.invokestatic index, 3)) (hf : cells ≤ R.cells ∧ slots ≤ R.slots) (h2 : v.toList ++ rest = st2)
    (hP : va_P D vwCl ws H) (hD : va_D A ws) (hS : va_S A H0 H locs) (hA : ∀ q, H0.size ≤ q → A q) (is : List Nat) (hC : is.map (fun i => ws[i]?) = wc.map some) (hl2 : is.length = w1.length) (hw : qset ws is w1 = ws') (had : ws'.map Prod.fst = ws.map Prod.fst)
    (kk : ∀ (H1 : Heap) (locs1 : List Loc), va_P D vwCl ws' H1 → va_D A ws' → va_S A H0 H1 locs1 → W p l e R s m args below meth c H1 locs1 cells slots Q (F0 m (pc + 3) ls st2)) : W p l e R s m args below meth c H locs cells slots Q (F0 m pc ls st) :=
  q_doneW (va_runS (g := F0 m pc ls st) (rest := rest) S hM (q_cS S.2.2.2.2 hy hl hR) ⟨Pc0.blind, fun U hU hW => ⟨rfl, hU, hk.warm hW⟩⟩ rfl hn hsize hst (lv_room hW) hdg hf) h2 hP hD hS hA is hC hl2 hw had kk
/-- entries -/
theorem rd_of {av : List Value} (hy : plainName y.cls = true) (hln : (lg_sl av).length ≤ maxL)
    (body : ∀ (p : Program) (e : Env) (s : State) (m : MethodId) (below : List Frame) (meth : Method) (c : Code) (ls : Array Slot), CallFix p m c bytes maxL s av.toArray TB y.cls → meth.sig.returnType = ret → meth.locks = false → KK D cy s → lv_has ls maxL (lv_args 0 av) → W p l e rm s m av.toArray below meth c H0 [] 0 0 (MQ below (QR v H0) av.toArray s 0 0 (fun _ => False)) (F0 m 0 ls [])) : Rd l y bytes maxL ret rm av v D cy H0 := by
  refine Met.ofW (cc := bytes) (maxL := maxL) (ret := ret) hy rfl ?_
  intro p e s m args below meth c s₁ B hml hv
  obtain ⟨rfl, hH, hk⟩ := hv
  have hts := atoms_spec (ws := Cond.code y bytes maxL ret :: TB) B.pre
  have hent := lv_entry av hln
  rw [lg_entry_eq, hH]
  exact body p e s m below meth c _ ⟨B.exec, B.bytes, hml, findClass_of_methodNamed B.named, fun w h => hts w (List.mem_cons_of_mem _ h)⟩ B.returns B.notSynchronized hk hent
theorem wr_of {av : List Value} (hy : plainName y.cls = true) (hln : (lg_sl av).length ≤ maxL) (hD : va_D (fun _ => True) wc)
    (body : ∀ (p : Program) (e : Env) (s : State) (m : MethodId) (below : List Frame) (meth : Method) (c : Code) (ls : Array Slot) (A : Nat → Prop), CallFix p m c bytes maxL s av.toArray TB y.cls → meth.sig.returnType = ret → meth.locks = false → KK D cy s → lv_has ls maxL (lv_args 0 av) → va_D A wc → va_S A H0 H0 [] → (∀ q, H0.size ≤ q → A q) → W p l e rm s m av.toArray below meth c H0 [] 0 0 (MQ below (QW v D w1 H0 A) av.toArray s 0 0 A) (F0 m 0 ls [])) : Wr l y bytes maxL ret rm av v D cy H0 wc w1 := by
  refine Met.ofW (cc := bytes) (maxL := maxL) (ret := ret) hy rfl ?_
  intro p e s m args below meth c s₁ B hml hv
  obtain ⟨rfl, hH, hk⟩ := hv
  have hts := atoms_spec (ws := Cond.code y bytes maxL ret :: TB) B.pre
  have hent := lv_entry av hln
  rw [lg_entry_eq, hH]
  exact body p e s m below meth c _ (va_A wc H0.size) ⟨B.exec, B.bytes, hml, findClass_of_methodNamed B.named, fun w h => hts w (List.mem_cons_of_mem _ h)⟩ B.returns B.notSynchronized hk hent hD.self va_S.rf (fun q h => Or.inr h)
/-- ends -/
theorem q_riR {x : Int32} (hx : p.tables.exec = Jvm.exec) (hb : c.code = cc) (hr : meth.sig.returnType = some .int) (hlocks : meth.locks = false) (hdg : decode cc pc = .ok (.ireturn, 1)) : W p l e R s m args below meth c H [] 0 0 (MQ below (QR (some (.int x)) H) args s 0 0 (fun _ => False)) (F0 m pc ls [.int x]) :=
  W.iret hx hb hr (fun _ ht _ => ⟨rfl, ht⟩) (fun _ h => absurd h List.not_mem_nil) hdg hlocks
theorem q_nb {x : Int32} (h : x = 0 ∨ x = 1) : narrow .boolean (.int x) = .int x := by rcases h with rfl | rfl <;> rfl
theorem q_rzR {x : Int32} (hz : x = 0 ∨ x = 1) (hx : p.tables.exec = Jvm.exec) (hb : c.code = cc) (hr : meth.sig.returnType = some .boolean) (hlocks : meth.locks = false) (hdg : decode cc pc = .ok (.ireturn, 1)) : W p l e R s m args below meth c H [] 0 0 (MQ below (QR (some (.int x)) H) args s 0 0 (fun _ => False)) (F0 m pc ls [.int x]) :=
  W.zret hx hb hr (q_nb hz) (fun _ ht _ => ⟨rfl, ht⟩) (fun _ h => absurd h List.not_mem_nil) hdg hlocks
theorem q_rlR {x : Int64} (hx : p.tables.exec = Jvm.exec) (hb : c.code = cc) (hr : meth.sig.returnType = some .long) (hlocks : meth.locks = false) (hdg : decode cc pc = .ok (.lreturn, 1)) : W p l e R s m args below meth c H [] 0 0 (MQ below (QR (some (.long x)) H) args s 0 0 (fun _ => False)) (F0 m pc ls [.long x]) :=
  W.lret hx hb hr (fun _ ht _ => ⟨rfl, ht⟩) (fun _ h => absurd h List.not_mem_nil) hdg hlocks
theorem q_riW {x : Int32} (hP : va_P D vwCl w1 H) (hS : va_S A H0 H locs) (hx : p.tables.exec = Jvm.exec) (hb : c.code = cc) (hr : meth.sig.returnType = some .int) (hlocks : meth.locks = false) (hdg : decode cc pc = .ok (.ireturn, 1)) : W p l e R s m args below meth c H locs 0 0 (MQ below (QW (some (.int x)) D w1 H0 A) args s 0 0 A) (F0 m pc ls [.int x]) :=
  W.iret hx hb hr (fun _ ht _ => ⟨rfl, by rw [ht]; exact hP, by rw [ht]; exact hS.1, by rw [ht]; exact hS.2.1⟩) hS.2.2 hdg hlocks
theorem q_rzW {x : Int32} (hz : x = 0 ∨ x = 1) (hP : va_P D vwCl w1 H) (hS : va_S A H0 H locs) (hx : p.tables.exec = Jvm.exec) (hb : c.code = cc) (hr : meth.sig.returnType = some .boolean) (hlocks : meth.locks = false) (hdg : decode cc pc = .ok (.ireturn, 1)) : W p l e R s m args below meth c H locs 0 0 (MQ below (QW (some (.int x)) D w1 H0 A) args s 0 0 A) (F0 m pc ls [.int x]) :=
  W.zret hx hb hr (q_nb hz) (fun _ ht _ => ⟨rfl, by rw [ht]; exact hP, by rw [ht]; exact hS.1, by rw [ht]; exact hS.2.1⟩) hS.2.2 hdg hlocks
theorem q_rlW {x : Int64} (hP : va_P D vwCl w1 H) (hS : va_S A H0 H locs) (hx : p.tables.exec = Jvm.exec) (hb : c.code = cc) (hr : meth.sig.returnType = some .long) (hlocks : meth.locks = false) (hdg : decode cc pc = .ok (.lreturn, 1)) : W p l e R s m args below meth c H locs 0 0 (MQ below (QW (some (.long x)) D w1 H0 A) args s 0 0 A) (F0 m pc ls [.long x]) :=
  W.lret hx hb hr (fun _ ht _ => ⟨rfl, by rw [ht]; exact hP, by rw [ht]; exact hS.1, by rw [ht]; exact hS.2.1⟩) hS.2.2 hdg hlocks
theorem q_rvW (hP : va_P D vwCl w1 H) (hS : va_S A H0 H locs) (hx : p.tables.exec = Jvm.exec) (hb : c.code = cc) (hr : meth.sig.returnType = none) (hlocks : meth.locks = false) (hdg : decode cc pc = .ok (.return_, 1)) : W p l e R s m args below meth c H locs 0 0 (MQ below (QW none D w1 H0 A) args s 0 0 A) (F0 m pc ls []) :=
  W.vret hx hb hr (fun _ ht _ => ⟨rfl, by rw [ht]; exact hP, by rw [ht]; exact hS.1, by rw [ht]; exact hS.2.1⟩) hS.2.2 hdg hlocks
theorem q_raW {x : Nat} {C : String} (hP : va_P D vwCl w1 H) (hS : va_S A H0 H locs) (hx : p.tables.exec = Jvm.exec) (hb : c.code = cc) (hr : meth.sig.returnType = some (.object C)) (hlocks : meth.locks = false) (hdg : decode cc pc = .ok (.areturn, 1)) : W p l e R s m args below meth c H locs 0 0 (MQ below (QW (some (.ref x)) D w1 H0 A) args s 0 0 A) (F0 m pc ls [.ref x]) :=
  W.aret hx hb hr (Or.inl ⟨C, rfl⟩) (Or.inr ⟨x, rfl⟩) (fun _ ht _ => ⟨rfl, by rw [ht]; exact hP, by rw [ht]; exact hS.1, by rw [ht]; exact hS.2.1⟩) hS.2.2 hdg hlocks
end QB
/-! What the functions that mirror the methods are made of. -/
def FU : Nat := 256
def inb (i : Int32) (n : Nat) : Bool := !(decide (i < 0)) && decide (i.toNatClampNeg < n)
def isb (v : Int32) : Bool := decide (v = 0) || decide (v = 1)
def lsh (x : Int64) (k : Int32) : Int64 := x <<< (k.toInt64 &&& 63)
def lsr (x : Int64) (k : Int32) : Int64 := x >>> (k.toInt64 &&& 63)
def lus (x : Int64) (k : Int32) : Int64 := (x.toUInt64 >>> (k.toInt64.toUInt64 &&& Int64.toUInt64 63)).toInt64
theorem q_t {c : Prop} [Decidable c] {α : Type} {a b r : α} (hc : c) (h : (if c then a else b) = r) : a = r := by rwa [if_pos hc] at h
theorem q_f {c : Prop} [Decidable c] {α : Type} {a b r : α} (hc : ¬ c) (h : (if c then a else b) = r) : b = r := by rwa [if_neg hc] at h
theorem q_bind {α β : Type} {x : Option α} {f : α → Option β} {r : β} (h : x.bind f = some r) : ∃ z, x = some z ∧ f z = some r := by
  cases x with
  | none => cases h
  | some z => exact ⟨z, rfl, h⟩
theorem q_in {α : Type} {i : Int32} {n : Nat} {X : Option α} {r : α} (h : (if inb i n = true then X else none) = some r) : vp_in i n ∧ X = some r := by
  by_cases hc : inb i n = true
  · rw [if_pos hc] at h
    refine ⟨?_, h⟩
    simp only [inb, Bool.and_eq_true, Bool.not_eq_true', decide_eq_false_iff_not, decide_eq_true_eq] at hc
    rintro (h1 | h1)
    · exact hc.1 h1
    · omega
  · rw [if_neg hc] at h
    cases h
theorem q_isb {α : Type} {v : Int32} {X : Option α} {r : α} (h : (if isb v = true then X else none) = some r) : (v = 0 ∨ v = 1) ∧ X = some r := by
  by_cases hc : isb v = true
  · rw [if_pos hc] at h
    refine ⟨?_, h⟩
    simpa only [isb, Bool.or_eq_true, decide_eq_true_eq] using hc
  · rw [if_neg hc] at h
    cases h
theorem q_nz {α : Type} {v : Int32} {X : Option α} {r : α} (h : (if v = 0 then none else X) = some r) : ¬ v = 0 ∧ X = some r := by
  by_cases hc : v = 0
  · rw [if_pos hc] at h; cases h
  · rw [if_neg hc] at h; exact ⟨hc, h⟩
end
