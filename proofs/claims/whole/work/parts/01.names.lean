-- ===== PART A: goes FIRST, ahead of the names: the tables' words, and 'selects' of the private methods out of them =====
/-- a private method of a class that the tables say can be made, by its rows of tables_1 -/
def lw_okq (q : MethodName × Nat) : Prop := (q.1.cls ≠ "java/lang/invoke/MethodHandle" ∧ q.1.cls ≠ "java/lang/invoke/VarHandle") ∧ Cond.instantiable q.1.cls q.2 ∈ tables_1 ∧ Cond.privateMethod q.1 ∈ tables_1 ∧ Cond.instanceMethod q.1 ∈ tables_1
theorem lw_p0 : lw_okq (⟨"InkFolds", "refusedText", "(I)I"⟩, 15) := ⟨⟨by decide +kernel, by decide +kernel⟩, List.mem_of_getElem? (i := 26) (by decide +kernel), List.mem_of_getElem? (i := 462) (by decide +kernel), List.mem_of_getElem? (i := 463) (by decide +kernel)⟩
theorem lw_p1 : lw_okq (⟨"InkFolds$History", "draftSlot", "()I"⟩, 3) := ⟨⟨by decide +kernel, by decide +kernel⟩, List.mem_of_getElem? (i := 137) (by decide +kernel), List.mem_of_getElem? (i := 470) (by decide +kernel), List.mem_of_getElem? (i := 471) (by decide +kernel)⟩
theorem lw_p2 : lw_okq (⟨"InkFolds", "tellPatchAt", "(I)I"⟩, 15) := ⟨⟨by decide +kernel, by decide +kernel⟩, List.mem_of_getElem? (i := 26) (by decide +kernel), List.mem_of_getElem? (i := 483) (by decide +kernel), List.mem_of_getElem? (i := 484) (by decide +kernel)⟩
theorem lw_p3 : lw_okq (⟨"InkFolds", "settled", "(I)I"⟩, 15) := ⟨⟨by decide +kernel, by decide +kernel⟩, List.mem_of_getElem? (i := 26) (by decide +kernel), List.mem_of_getElem? (i := 525) (by decide +kernel), List.mem_of_getElem? (i := 526) (by decide +kernel)⟩
theorem lw_p4 : lw_okq (⟨"InkFolds", "doAct", "(I)I"⟩, 15) := ⟨⟨by decide +kernel, by decide +kernel⟩, List.mem_of_getElem? (i := 26) (by decide +kernel), List.mem_of_getElem? (i := 693) (by decide +kernel), List.mem_of_getElem? (i := 694) (by decide +kernel)⟩
theorem lw_p5 : lw_okq (⟨"InkFolds", "refresh", "()V"⟩, 15) := ⟨⟨by decide +kernel, by decide +kernel⟩, List.mem_of_getElem? (i := 26) (by decide +kernel), List.mem_of_getElem? (i := 726) (by decide +kernel), List.mem_of_getElem? (i := 727) (by decide +kernel)⟩
theorem lw_p6 : lw_okq (⟨"InkFolds$Chart", "reckon", "(I)V"⟩, 5) := ⟨⟨by decide +kernel, by decide +kernel⟩, List.mem_of_getElem? (i := 157) (by decide +kernel), List.mem_of_getElem? (i := 744) (by decide +kernel), List.mem_of_getElem? (i := 745) (by decide +kernel)⟩
theorem lw_p7 : lw_okq (⟨"InkFolds$Chart", "greatestRest", "()I"⟩, 5) := ⟨⟨by decide +kernel, by decide +kernel⟩, List.mem_of_getElem? (i := 157) (by decide +kernel), List.mem_of_getElem? (i := 756) (by decide +kernel), List.mem_of_getElem? (i := 757) (by decide +kernel)⟩
theorem lw_p8 : lw_okq (⟨"InkFolds", "tellColour", "(I)V"⟩, 15) := ⟨⟨by decide +kernel, by decide +kernel⟩, List.mem_of_getElem? (i := 26) (by decide +kernel), List.mem_of_getElem? (i := 772) (by decide +kernel), List.mem_of_getElem? (i := 773) (by decide +kernel)⟩
theorem lw_p9 : lw_okq (⟨"InkFolds$Inks", "totalWith", "(I)I"⟩, 1) := ⟨⟨by decide +kernel, by decide +kernel⟩, List.mem_of_getElem? (i := 224) (by decide +kernel), List.mem_of_getElem? (i := 796) (by decide +kernel), List.mem_of_getElem? (i := 797) (by decide +kernel)⟩
theorem lw_p10 : lw_okq (⟨"InkFolds$Matcher", "countFits", "(I)V"⟩, 9) := ⟨⟨by decide +kernel, by decide +kernel⟩, List.mem_of_getElem? (i := 184) (by decide +kernel), List.mem_of_getElem? (i := 831) (by decide +kernel), List.mem_of_getElem? (i := 832) (by decide +kernel)⟩
theorem lw_p11 : lw_okq (⟨"InkFolds$Matcher", "rankOf", "(II)J"⟩, 9) := ⟨⟨by decide +kernel, by decide +kernel⟩, List.mem_of_getElem? (i := 184) (by decide +kernel), List.mem_of_getElem? (i := 838) (by decide +kernel), List.mem_of_getElem? (i := 839) (by decide +kernel)⟩
theorem lw_p12 : lw_okq (⟨"InkFolds", "foldOf", "(III)I"⟩, 15) := ⟨⟨by decide +kernel, by decide +kernel⟩, List.mem_of_getElem? (i := 26) (by decide +kernel), List.mem_of_getElem? (i := 850) (by decide +kernel), List.mem_of_getElem? (i := 851) (by decide +kernel)⟩
theorem lw_p13 : lw_okq (⟨"InkFolds", "leastFolded", "(IIII)I"⟩, 15) := ⟨⟨by decide +kernel, by decide +kernel⟩, List.mem_of_getElem? (i := 26) (by decide +kernel), List.mem_of_getElem? (i := 855) (by decide +kernel), List.mem_of_getElem? (i := 856) (by decide +kernel)⟩
theorem lw_p14 : lw_okq (⟨"InkFolds", "linked", "(I)I"⟩, 15) := ⟨⟨by decide +kernel, by decide +kernel⟩, List.mem_of_getElem? (i := 26) (by decide +kernel), List.mem_of_getElem? (i := 867) (by decide +kernel), List.mem_of_getElem? (i := 868) (by decide +kernel)⟩
theorem lw_p15 : lw_okq (⟨"InkFolds$Inks", "timesOf", "(LInkFolds$Step;)I"⟩, 1) := ⟨⟨by decide +kernel, by decide +kernel⟩, List.mem_of_getElem? (i := 224) (by decide +kernel), List.mem_of_getElem? (i := 874) (by decide +kernel), List.mem_of_getElem? (i := 875) (by decide +kernel)⟩
def lw_privs_1 : List (MethodName × Nat) := [(⟨"InkFolds", "refusedText", "(I)I"⟩, 15), (⟨"InkFolds$History", "draftSlot", "()I"⟩, 3), (⟨"InkFolds", "tellPatchAt", "(I)I"⟩, 15), (⟨"InkFolds", "settled", "(I)I"⟩, 15), (⟨"InkFolds", "doAct", "(I)I"⟩, 15), (⟨"InkFolds", "refresh", "()V"⟩, 15), (⟨"InkFolds$Chart", "reckon", "(I)V"⟩, 5), (⟨"InkFolds$Chart", "greatestRest", "()I"⟩, 5), (⟨"InkFolds", "tellColour", "(I)V"⟩, 15), (⟨"InkFolds$Inks", "totalWith", "(I)I"⟩, 1), (⟨"InkFolds$Matcher", "countFits", "(I)V"⟩, 9), (⟨"InkFolds$Matcher", "rankOf", "(II)J"⟩, 9), (⟨"InkFolds", "foldOf", "(III)I"⟩, 15), (⟨"InkFolds", "leastFolded", "(IIII)I"⟩, 15), (⟨"InkFolds", "linked", "(I)I"⟩, 15), (⟨"InkFolds$Inks", "timesOf", "(LInkFolds$Step;)I"⟩, 1)]
theorem lw_r1 : ∀ q ∈ lw_privs_1, lw_okq q := List.forall_mem_cons.mpr ⟨lw_p0, List.forall_mem_cons.mpr ⟨lw_p1, List.forall_mem_cons.mpr ⟨lw_p2, List.forall_mem_cons.mpr ⟨lw_p3, List.forall_mem_cons.mpr ⟨lw_p4, List.forall_mem_cons.mpr ⟨lw_p5, List.forall_mem_cons.mpr ⟨lw_p6, List.forall_mem_cons.mpr ⟨lw_p7, List.forall_mem_cons.mpr ⟨lw_p8, List.forall_mem_cons.mpr ⟨lw_p9, List.forall_mem_cons.mpr ⟨lw_p10, List.forall_mem_cons.mpr ⟨lw_p11, List.forall_mem_cons.mpr ⟨lw_p12, List.forall_mem_cons.mpr ⟨lw_p13, List.forall_mem_cons.mpr ⟨lw_p14, List.forall_mem_cons.mpr ⟨lw_p15, fun _ h => absurd h List.not_mem_nil⟩⟩⟩⟩⟩⟩⟩⟩⟩⟩⟩⟩⟩⟩⟩⟩
theorem lw_p16 : lw_okq (⟨"InkFolds$Inks", "doOne", "(LInkFolds$Step;[I)V"⟩, 1) := ⟨⟨by decide +kernel, by decide +kernel⟩, List.mem_of_getElem? (i := 224) (by decide +kernel), List.mem_of_getElem? (i := 879) (by decide +kernel), List.mem_of_getElem? (i := 880) (by decide +kernel)⟩
theorem lw_p17 : lw_okq (⟨"InkFolds$Inks", "bend", "([I)V"⟩, 1) := ⟨⟨by decide +kernel, by decide +kernel⟩, List.mem_of_getElem? (i := 224) (by decide +kernel), List.mem_of_getElem? (i := 884) (by decide +kernel), List.mem_of_getElem? (i := 885) (by decide +kernel)⟩
theorem lw_p18 : lw_okq (⟨"InkFolds$Inks", "greyToBlack", "(I)V"⟩, 1) := ⟨⟨by decide +kernel, by decide +kernel⟩, List.mem_of_getElem? (i := 224) (by decide +kernel), List.mem_of_getElem? (i := 888) (by decide +kernel), List.mem_of_getElem? (i := 889) (by decide +kernel)⟩
theorem lw_p19 : lw_okq (⟨"InkFolds$Inks", "move", "(I)V"⟩, 1) := ⟨⟨by decide +kernel, by decide +kernel⟩, List.mem_of_getElem? (i := 224) (by decide +kernel), List.mem_of_getElem? (i := 892) (by decide +kernel), List.mem_of_getElem? (i := 893) (by decide +kernel)⟩
theorem lw_p20 : lw_okq (⟨"InkFolds$Inks", "blackToGrey", "(I)V"⟩, 1) := ⟨⟨by decide +kernel, by decide +kernel⟩, List.mem_of_getElem? (i := 224) (by decide +kernel), List.mem_of_getElem? (i := 896) (by decide +kernel), List.mem_of_getElem? (i := 897) (by decide +kernel)⟩
theorem lw_p21 : lw_okq (⟨"InkFolds$Inks", "exchange", "(II)V"⟩, 1) := ⟨⟨by decide +kernel, by decide +kernel⟩, List.mem_of_getElem? (i := 224) (by decide +kernel), List.mem_of_getElem? (i := 901) (by decide +kernel), List.mem_of_getElem? (i := 902) (by decide +kernel)⟩
theorem lw_p22 : lw_okq (⟨"InkFolds", "markChangesTo", "(II)V"⟩, 15) := ⟨⟨by decide +kernel, by decide +kernel⟩, List.mem_of_getElem? (i := 26) (by decide +kernel), List.mem_of_getElem? (i := 923) (by decide +kernel), List.mem_of_getElem? (i := 924) (by decide +kernel)⟩
theorem lw_p23 : lw_okq (⟨"InkFolds", "firstOfTheWay", "(II)I"⟩, 15) := ⟨⟨by decide +kernel, by decide +kernel⟩, List.mem_of_getElem? (i := 26) (by decide +kernel), List.mem_of_getElem? (i := 936) (by decide +kernel), List.mem_of_getElem? (i := 937) (by decide +kernel)⟩
theorem lw_p24 : lw_okq (⟨"InkFolds$Chart", "risesAt", "(III)Z"⟩, 5) := ⟨⟨by decide +kernel, by decide +kernel⟩, List.mem_of_getElem? (i := 157) (by decide +kernel), List.mem_of_getElem? (i := 948) (by decide +kernel), List.mem_of_getElem? (i := 949) (by decide +kernel)⟩
theorem lw_p25 : lw_okq (⟨"InkFolds", "firstAlike", "(I)I"⟩, 15) := ⟨⟨by decide +kernel, by decide +kernel⟩, List.mem_of_getElem? (i := 26) (by decide +kernel), List.mem_of_getElem? (i := 968) (by decide +kernel), List.mem_of_getElem? (i := 969) (by decide +kernel)⟩
theorem lw_p26 : lw_okq (⟨"InkFolds", "tellFraction", "(II)V"⟩, 15) := ⟨⟨by decide +kernel, by decide +kernel⟩, List.mem_of_getElem? (i := 26) (by decide +kernel), List.mem_of_getElem? (i := 980) (by decide +kernel), List.mem_of_getElem? (i := 981) (by decide +kernel)⟩
theorem lw_p27 : lw_okq (⟨"InkFolds$Press", "handOn", "(LInkFolds$State;LInkFolds$Chart;I)V"⟩, 3) := ⟨⟨by decide +kernel, by decide +kernel⟩, List.mem_of_getElem? (i := 234) (by decide +kernel), List.mem_of_getElem? (i := 1016) (by decide +kernel), List.mem_of_getElem? (i := 1017) (by decide +kernel)⟩
theorem lw_p28 : lw_okq (⟨"java/lang/Throwable", "fillInStackTrace", "(I)Ljava/lang/Throwable;"⟩, 6) := ⟨⟨by decide +kernel, by decide +kernel⟩, List.mem_of_getElem? (i := 1164) (by decide +kernel), List.mem_of_getElem? (i := 1162) (by decide +kernel), List.mem_of_getElem? (i := 1163) (by decide +kernel)⟩
theorem lw_p29 : lw_okq (⟨"InkFoldsModel", "straighten", "(I)V"⟩, 45) := ⟨⟨by decide +kernel, by decide +kernel⟩, List.mem_of_getElem? (i := 1204) (by decide +kernel), List.mem_of_getElem? (i := 1212) (by decide +kernel), List.mem_of_getElem? (i := 1213) (by decide +kernel)⟩
theorem lw_p30 : lw_okq (⟨"InkFoldsModel", "begin", "(I)V"⟩, 45) := ⟨⟨by decide +kernel, by decide +kernel⟩, List.mem_of_getElem? (i := 1204) (by decide +kernel), List.mem_of_getElem? (i := 1376) (by decide +kernel), List.mem_of_getElem? (i := 1377) (by decide +kernel)⟩
theorem lw_p31 : lw_okq (⟨"InkFoldsModel", "fine", "()Z"⟩, 45) := ⟨⟨by decide +kernel, by decide +kernel⟩, List.mem_of_getElem? (i := 1204) (by decide +kernel), List.mem_of_getElem? (i := 1380) (by decide +kernel), List.mem_of_getElem? (i := 1381) (by decide +kernel)⟩
def lw_privs_2 : List (MethodName × Nat) := [(⟨"InkFolds$Inks", "doOne", "(LInkFolds$Step;[I)V"⟩, 1), (⟨"InkFolds$Inks", "bend", "([I)V"⟩, 1), (⟨"InkFolds$Inks", "greyToBlack", "(I)V"⟩, 1), (⟨"InkFolds$Inks", "move", "(I)V"⟩, 1), (⟨"InkFolds$Inks", "blackToGrey", "(I)V"⟩, 1), (⟨"InkFolds$Inks", "exchange", "(II)V"⟩, 1), (⟨"InkFolds", "markChangesTo", "(II)V"⟩, 15), (⟨"InkFolds", "firstOfTheWay", "(II)I"⟩, 15), (⟨"InkFolds$Chart", "risesAt", "(III)Z"⟩, 5), (⟨"InkFolds", "firstAlike", "(I)I"⟩, 15), (⟨"InkFolds", "tellFraction", "(II)V"⟩, 15), (⟨"InkFolds$Press", "handOn", "(LInkFolds$State;LInkFolds$Chart;I)V"⟩, 3), (⟨"java/lang/Throwable", "fillInStackTrace", "(I)Ljava/lang/Throwable;"⟩, 6), (⟨"InkFoldsModel", "straighten", "(I)V"⟩, 45), (⟨"InkFoldsModel", "begin", "(I)V"⟩, 45), (⟨"InkFoldsModel", "fine", "()Z"⟩, 45)]
theorem lw_r2 : ∀ q ∈ lw_privs_2, lw_okq q := List.forall_mem_cons.mpr ⟨lw_p16, List.forall_mem_cons.mpr ⟨lw_p17, List.forall_mem_cons.mpr ⟨lw_p18, List.forall_mem_cons.mpr ⟨lw_p19, List.forall_mem_cons.mpr ⟨lw_p20, List.forall_mem_cons.mpr ⟨lw_p21, List.forall_mem_cons.mpr ⟨lw_p22, List.forall_mem_cons.mpr ⟨lw_p23, List.forall_mem_cons.mpr ⟨lw_p24, List.forall_mem_cons.mpr ⟨lw_p25, List.forall_mem_cons.mpr ⟨lw_p26, List.forall_mem_cons.mpr ⟨lw_p27, List.forall_mem_cons.mpr ⟨lw_p28, List.forall_mem_cons.mpr ⟨lw_p29, List.forall_mem_cons.mpr ⟨lw_p30, List.forall_mem_cons.mpr ⟨lw_p31, fun _ h => absurd h List.not_mem_nil⟩⟩⟩⟩⟩⟩⟩⟩⟩⟩⟩⟩⟩⟩⟩⟩
theorem lw_p32 : lw_okq (⟨"InkFoldsModel", "readMeasure", "(I)V"⟩, 45) := ⟨⟨by decide +kernel, by decide +kernel⟩, List.mem_of_getElem? (i := 1204) (by decide +kernel), List.mem_of_getElem? (i := 1384) (by decide +kernel), List.mem_of_getElem? (i := 1385) (by decide +kernel)⟩
theorem lw_p33 : lw_okq (⟨"InkFoldsModel", "readPatch", "()I"⟩, 45) := ⟨⟨by decide +kernel, by decide +kernel⟩, List.mem_of_getElem? (i := 1204) (by decide +kernel), List.mem_of_getElem? (i := 1388) (by decide +kernel), List.mem_of_getElem? (i := 1389) (by decide +kernel)⟩
theorem lw_p34 : lw_okq (⟨"InkFoldsModel", "oneOf", "(CI)I"⟩, 45) := ⟨⟨by decide +kernel, by decide +kernel⟩, List.mem_of_getElem? (i := 1204) (by decide +kernel), List.mem_of_getElem? (i := 1392) (by decide +kernel), List.mem_of_getElem? (i := 1393) (by decide +kernel)⟩
theorem lw_p35 : lw_okq (⟨"InkFoldsModel", "here", "()I"⟩, 45) := ⟨⟨by decide +kernel, by decide +kernel⟩, List.mem_of_getElem? (i := 1204) (by decide +kernel), List.mem_of_getElem? (i := 1396) (by decide +kernel), List.mem_of_getElem? (i := 1397) (by decide +kernel)⟩
theorem lw_p36 : lw_okq (⟨"InkFoldsModel", "fault", "(I)V"⟩, 45) := ⟨⟨by decide +kernel, by decide +kernel⟩, List.mem_of_getElem? (i := 1204) (by decide +kernel), List.mem_of_getElem? (i := 1400) (by decide +kernel), List.mem_of_getElem? (i := 1401) (by decide +kernel)⟩
theorem lw_p37 : lw_okq (⟨"InkFoldsModel", "twoDigits", "()I"⟩, 45) := ⟨⟨by decide +kernel, by decide +kernel⟩, List.mem_of_getElem? (i := 1204) (by decide +kernel), List.mem_of_getElem? (i := 1404) (by decide +kernel), List.mem_of_getElem? (i := 1405) (by decide +kernel)⟩
theorem lw_p38 : lw_okq (⟨"InkFoldsModel", "wasRight", "()Z"⟩, 45) := ⟨⟨by decide +kernel, by decide +kernel⟩, List.mem_of_getElem? (i := 1204) (by decide +kernel), List.mem_of_getElem? (i := 1408) (by decide +kernel), List.mem_of_getElem? (i := 1409) (by decide +kernel)⟩
theorem lw_p39 : lw_okq (⟨"InkFoldsModel", "change", "()V"⟩, 45) := ⟨⟨by decide +kernel, by decide +kernel⟩, List.mem_of_getElem? (i := 1204) (by decide +kernel), List.mem_of_getElem? (i := 1412) (by decide +kernel), List.mem_of_getElem? (i := 1413) (by decide +kernel)⟩
theorem lw_p40 : lw_okq (⟨"InkFoldsModel", "note", "()V"⟩, 45) := ⟨⟨by decide +kernel, by decide +kernel⟩, List.mem_of_getElem? (i := 1204) (by decide +kernel), List.mem_of_getElem? (i := 1416) (by decide +kernel), List.mem_of_getElem? (i := 1417) (by decide +kernel)⟩
theorem lw_p41 : lw_okq (⟨"InkFoldsModel", "putLight", "(IIII)V"⟩, 45) := ⟨⟨by decide +kernel, by decide +kernel⟩, List.mem_of_getElem? (i := 1204) (by decide +kernel), List.mem_of_getElem? (i := 1420) (by decide +kernel), List.mem_of_getElem? (i := 1421) (by decide +kernel)⟩
theorem lw_p42 : lw_okq (⟨"InkFoldsModel", "readSteps", "(I)I"⟩, 45) := ⟨⟨by decide +kernel, by decide +kernel⟩, List.mem_of_getElem? (i := 1204) (by decide +kernel), List.mem_of_getElem? (i := 1442) (by decide +kernel), List.mem_of_getElem? (i := 1443) (by decide +kernel)⟩
theorem lw_p43 : lw_okq (⟨"InkFoldsModel", "readStep", "(II)I"⟩, 45) := ⟨⟨by decide +kernel, by decide +kernel⟩, List.mem_of_getElem? (i := 1204) (by decide +kernel), List.mem_of_getElem? (i := 1452) (by decide +kernel), List.mem_of_getElem? (i := 1453) (by decide +kernel)⟩
theorem lw_p44 : lw_okq (⟨"InkFoldsModel", "readInk", "()I"⟩, 45) := ⟨⟨by decide +kernel, by decide +kernel⟩, List.mem_of_getElem? (i := 1204) (by decide +kernel), List.mem_of_getElem? (i := 1456) (by decide +kernel), List.mem_of_getElem? (i := 1457) (by decide +kernel)⟩
theorem lw_p45 : lw_okq (⟨"InkFoldsModel", "readWithin", "(I)I"⟩, 45) := ⟨⟨by decide +kernel, by decide +kernel⟩, List.mem_of_getElem? (i := 1204) (by decide +kernel), List.mem_of_getElem? (i := 1463) (by decide +kernel), List.mem_of_getElem? (i := 1464) (by decide +kernel)⟩
theorem lw_p46 : lw_okq (⟨"InkFoldsModel", "need", "(C)V"⟩, 45) := ⟨⟨by decide +kernel, by decide +kernel⟩, List.mem_of_getElem? (i := 1204) (by decide +kernel), List.mem_of_getElem? (i := 1467) (by decide +kernel), List.mem_of_getElem? (i := 1468) (by decide +kernel)⟩
theorem lw_p47 : lw_okq (⟨"InkFoldsModel", "lost", "()I"⟩, 45) := ⟨⟨by decide +kernel, by decide +kernel⟩, List.mem_of_getElem? (i := 1204) (by decide +kernel), List.mem_of_getElem? (i := 1489) (by decide +kernel), List.mem_of_getElem? (i := 1490) (by decide +kernel)⟩
def lw_privs_3 : List (MethodName × Nat) := [(⟨"InkFoldsModel", "readMeasure", "(I)V"⟩, 45), (⟨"InkFoldsModel", "readPatch", "()I"⟩, 45), (⟨"InkFoldsModel", "oneOf", "(CI)I"⟩, 45), (⟨"InkFoldsModel", "here", "()I"⟩, 45), (⟨"InkFoldsModel", "fault", "(I)V"⟩, 45), (⟨"InkFoldsModel", "twoDigits", "()I"⟩, 45), (⟨"InkFoldsModel", "wasRight", "()Z"⟩, 45), (⟨"InkFoldsModel", "change", "()V"⟩, 45), (⟨"InkFoldsModel", "note", "()V"⟩, 45), (⟨"InkFoldsModel", "putLight", "(IIII)V"⟩, 45), (⟨"InkFoldsModel", "readSteps", "(I)I"⟩, 45), (⟨"InkFoldsModel", "readStep", "(II)I"⟩, 45), (⟨"InkFoldsModel", "readInk", "()I"⟩, 45), (⟨"InkFoldsModel", "readWithin", "(I)I"⟩, 45), (⟨"InkFoldsModel", "need", "(C)V"⟩, 45), (⟨"InkFoldsModel", "lost", "()I"⟩, 45)]
theorem lw_r3 : ∀ q ∈ lw_privs_3, lw_okq q := List.forall_mem_cons.mpr ⟨lw_p32, List.forall_mem_cons.mpr ⟨lw_p33, List.forall_mem_cons.mpr ⟨lw_p34, List.forall_mem_cons.mpr ⟨lw_p35, List.forall_mem_cons.mpr ⟨lw_p36, List.forall_mem_cons.mpr ⟨lw_p37, List.forall_mem_cons.mpr ⟨lw_p38, List.forall_mem_cons.mpr ⟨lw_p39, List.forall_mem_cons.mpr ⟨lw_p40, List.forall_mem_cons.mpr ⟨lw_p41, List.forall_mem_cons.mpr ⟨lw_p42, List.forall_mem_cons.mpr ⟨lw_p43, List.forall_mem_cons.mpr ⟨lw_p44, List.forall_mem_cons.mpr ⟨lw_p45, List.forall_mem_cons.mpr ⟨lw_p46, List.forall_mem_cons.mpr ⟨lw_p47, fun _ h => absurd h List.not_mem_nil⟩⟩⟩⟩⟩⟩⟩⟩⟩⟩⟩⟩⟩⟩⟩⟩
theorem lw_p48 : lw_okq (⟨"InkFoldsModel", "layLights", "([I)V"⟩, 45) := ⟨⟨by decide +kernel, by decide +kernel⟩, List.mem_of_getElem? (i := 1204) (by decide +kernel), List.mem_of_getElem? (i := 1511) (by decide +kernel), List.mem_of_getElem? (i := 1512) (by decide +kernel)⟩
theorem lw_p49 : lw_okq (⟨"InkFoldsModel", "layColour", "(I[II)V"⟩, 45) := ⟨⟨by decide +kernel, by decide +kernel⟩, List.mem_of_getElem? (i := 1204) (by decide +kernel), List.mem_of_getElem? (i := 1515) (by decide +kernel), List.mem_of_getElem? (i := 1516) (by decide +kernel)⟩
theorem lw_p50 : lw_okq (⟨"InkFoldsModel", "layWay", "(I)V"⟩, 45) := ⟨⟨by decide +kernel, by decide +kernel⟩, List.mem_of_getElem? (i := 1204) (by decide +kernel), List.mem_of_getElem? (i := 1519) (by decide +kernel), List.mem_of_getElem? (i := 1520) (by decide +kernel)⟩
theorem lw_p51 : lw_okq (⟨"InkFoldsModel", "tell", "(J)V"⟩, 45) := ⟨⟨by decide +kernel, by decide +kernel⟩, List.mem_of_getElem? (i := 1204) (by decide +kernel), List.mem_of_getElem? (i := 1526) (by decide +kernel), List.mem_of_getElem? (i := 1527) (by decide +kernel)⟩
theorem lw_p52 : lw_okq (⟨"InkFoldsModel", "take", "(I)V"⟩, 45) := ⟨⟨by decide +kernel, by decide +kernel⟩, List.mem_of_getElem? (i := 1204) (by decide +kernel), List.mem_of_getElem? (i := 1537) (by decide +kernel), List.mem_of_getElem? (i := 1538) (by decide +kernel)⟩
theorem lw_p53 : lw_okq (⟨"InkFoldsModel", "limit", "(I)V"⟩, 45) := ⟨⟨by decide +kernel, by decide +kernel⟩, List.mem_of_getElem? (i := 1204) (by decide +kernel), List.mem_of_getElem? (i := 1541) (by decide +kernel), List.mem_of_getElem? (i := 1542) (by decide +kernel)⟩
theorem lw_p54 : lw_okq (⟨"InkFoldsModel", "codeNow", "()I"⟩, 45) := ⟨⟨by decide +kernel, by decide +kernel⟩, List.mem_of_getElem? (i := 1204) (by decide +kernel), List.mem_of_getElem? (i := 1545) (by decide +kernel), List.mem_of_getElem? (i := 1546) (by decide +kernel)⟩
theorem lw_p55 : lw_okq (⟨"InkFoldsModel", "layColours", "([I)V"⟩, 45) := ⟨⟨by decide +kernel, by decide +kernel⟩, List.mem_of_getElem? (i := 1204) (by decide +kernel), List.mem_of_getElem? (i := 1556) (by decide +kernel), List.mem_of_getElem? (i := 1557) (by decide +kernel)⟩
theorem lw_p56 : lw_okq (⟨"InkFoldsModel", "open", "(I)Z"⟩, 45) := ⟨⟨by decide +kernel, by decide +kernel⟩, List.mem_of_getElem? (i := 1204) (by decide +kernel), List.mem_of_getElem? (i := 1560) (by decide +kernel), List.mem_of_getElem? (i := 1561) (by decide +kernel)⟩
theorem lw_p57 : lw_okq (⟨"InkFoldsModel", "matchOf", "(III)I"⟩, 45) := ⟨⟨by decide +kernel, by decide +kernel⟩, List.mem_of_getElem? (i := 1204) (by decide +kernel), List.mem_of_getElem? (i := 1564) (by decide +kernel), List.mem_of_getElem? (i := 1565) (by decide +kernel)⟩
theorem lw_p58 : lw_okq (⟨"InkFoldsModel", "leastOf", "(III)I"⟩, 45) := ⟨⟨by decide +kernel, by decide +kernel⟩, List.mem_of_getElem? (i := 1204) (by decide +kernel), List.mem_of_getElem? (i := 1568) (by decide +kernel), List.mem_of_getElem? (i := 1569) (by decide +kernel)⟩
theorem lw_p59 : lw_okq (⟨"InkFoldsModel", "apartOf", "(IIII)I"⟩, 45) := ⟨⟨by decide +kernel, by decide +kernel⟩, List.mem_of_getElem? (i := 1204) (by decide +kernel), List.mem_of_getElem? (i := 1572) (by decide +kernel), List.mem_of_getElem? (i := 1573) (by decide +kernel)⟩
theorem lw_p60 : lw_okq (⟨"InkFoldsModel", "apart", "(III[II)I"⟩, 45) := ⟨⟨by decide +kernel, by decide +kernel⟩, List.mem_of_getElem? (i := 1204) (by decide +kernel), List.mem_of_getElem? (i := 1576) (by decide +kernel), List.mem_of_getElem? (i := 1577) (by decide +kernel)⟩
theorem lw_p61 : lw_okq (⟨"InkFoldsModel", "isBetter", "(III)Z"⟩, 45) := ⟨⟨by decide +kernel, by decide +kernel⟩, List.mem_of_getElem? (i := 1204) (by decide +kernel), List.mem_of_getElem? (i := 1580) (by decide +kernel), List.mem_of_getElem? (i := 1581) (by decide +kernel)⟩
theorem lw_p62 : lw_okq (⟨"InkFoldsModel", "foldOf", "(III)I"⟩, 45) := ⟨⟨by decide +kernel, by decide +kernel⟩, List.mem_of_getElem? (i := 1204) (by decide +kernel), List.mem_of_getElem? (i := 1591) (by decide +kernel), List.mem_of_getElem? (i := 1592) (by decide +kernel)⟩
theorem lw_p63 : lw_okq (⟨"InkFoldsModel", "layFold", "(IIII)V"⟩, 45) := ⟨⟨by decide +kernel, by decide +kernel⟩, List.mem_of_getElem? (i := 1204) (by decide +kernel), List.mem_of_getElem? (i := 1595) (by decide +kernel), List.mem_of_getElem? (i := 1596) (by decide +kernel)⟩
def lw_privs_4 : List (MethodName × Nat) := [(⟨"InkFoldsModel", "layLights", "([I)V"⟩, 45), (⟨"InkFoldsModel", "layColour", "(I[II)V"⟩, 45), (⟨"InkFoldsModel", "layWay", "(I)V"⟩, 45), (⟨"InkFoldsModel", "tell", "(J)V"⟩, 45), (⟨"InkFoldsModel", "take", "(I)V"⟩, 45), (⟨"InkFoldsModel", "limit", "(I)V"⟩, 45), (⟨"InkFoldsModel", "codeNow", "()I"⟩, 45), (⟨"InkFoldsModel", "layColours", "([I)V"⟩, 45), (⟨"InkFoldsModel", "open", "(I)Z"⟩, 45), (⟨"InkFoldsModel", "matchOf", "(III)I"⟩, 45), (⟨"InkFoldsModel", "leastOf", "(III)I"⟩, 45), (⟨"InkFoldsModel", "apartOf", "(IIII)I"⟩, 45), (⟨"InkFoldsModel", "apart", "(III[II)I"⟩, 45), (⟨"InkFoldsModel", "isBetter", "(III)Z"⟩, 45), (⟨"InkFoldsModel", "foldOf", "(III)I"⟩, 45), (⟨"InkFoldsModel", "layFold", "(IIII)V"⟩, 45)]
theorem lw_r4 : ∀ q ∈ lw_privs_4, lw_okq q := List.forall_mem_cons.mpr ⟨lw_p48, List.forall_mem_cons.mpr ⟨lw_p49, List.forall_mem_cons.mpr ⟨lw_p50, List.forall_mem_cons.mpr ⟨lw_p51, List.forall_mem_cons.mpr ⟨lw_p52, List.forall_mem_cons.mpr ⟨lw_p53, List.forall_mem_cons.mpr ⟨lw_p54, List.forall_mem_cons.mpr ⟨lw_p55, List.forall_mem_cons.mpr ⟨lw_p56, List.forall_mem_cons.mpr ⟨lw_p57, List.forall_mem_cons.mpr ⟨lw_p58, List.forall_mem_cons.mpr ⟨lw_p59, List.forall_mem_cons.mpr ⟨lw_p60, List.forall_mem_cons.mpr ⟨lw_p61, List.forall_mem_cons.mpr ⟨lw_p62, List.forall_mem_cons.mpr ⟨lw_p63, fun _ h => absurd h List.not_mem_nil⟩⟩⟩⟩⟩⟩⟩⟩⟩⟩⟩⟩⟩⟩⟩⟩
theorem lw_p64 : lw_okq (⟨"InkFoldsModel", "linked", "(I)I"⟩, 45) := ⟨⟨by decide +kernel, by decide +kernel⟩, List.mem_of_getElem? (i := 1204) (by decide +kernel), List.mem_of_getElem? (i := 1603) (by decide +kernel), List.mem_of_getElem? (i := 1604) (by decide +kernel)⟩
theorem lw_p65 : lw_okq (⟨"InkFoldsModel", "goes", "(III)V"⟩, 45) := ⟨⟨by decide +kernel, by decide +kernel⟩, List.mem_of_getElem? (i := 1204) (by decide +kernel), List.mem_of_getElem? (i := 1607) (by decide +kernel), List.mem_of_getElem? (i := 1608) (by decide +kernel)⟩
theorem lw_p66 : lw_okq (⟨"InkFoldsModel", "timesOf", "(II)I"⟩, 45) := ⟨⟨by decide +kernel, by decide +kernel⟩, List.mem_of_getElem? (i := 1204) (by decide +kernel), List.mem_of_getElem? (i := 1614) (by decide +kernel), List.mem_of_getElem? (i := 1615) (by decide +kernel)⟩
theorem lw_p67 : lw_okq (⟨"InkFoldsModel", "does", "(III)V"⟩, 45) := ⟨⟨by decide +kernel, by decide +kernel⟩, List.mem_of_getElem? (i := 1204) (by decide +kernel), List.mem_of_getElem? (i := 1618) (by decide +kernel), List.mem_of_getElem? (i := 1619) (by decide +kernel)⟩
theorem lw_p68 : lw_okq (⟨"InkFoldsModel", "trade", "(I)V"⟩, 45) := ⟨⟨by decide +kernel, by decide +kernel⟩, List.mem_of_getElem? (i := 1204) (by decide +kernel), List.mem_of_getElem? (i := 1622) (by decide +kernel), List.mem_of_getElem? (i := 1623) (by decide +kernel)⟩
theorem lw_p69 : lw_okq (⟨"InkFoldsModel", "doesOne", "(III)V"⟩, 45) := ⟨⟨by decide +kernel, by decide +kernel⟩, List.mem_of_getElem? (i := 1204) (by decide +kernel), List.mem_of_getElem? (i := 1626) (by decide +kernel), List.mem_of_getElem? (i := 1627) (by decide +kernel)⟩
theorem lw_p70 : lw_okq (⟨"InkFoldsModel", "more", "(II)V"⟩, 45) := ⟨⟨by decide +kernel, by decide +kernel⟩, List.mem_of_getElem? (i := 1204) (by decide +kernel), List.mem_of_getElem? (i := 1630) (by decide +kernel), List.mem_of_getElem? (i := 1631) (by decide +kernel)⟩
theorem lw_p71 : lw_okq (⟨"InkFoldsModel", "layWays", "(II)V"⟩, 45) := ⟨⟨by decide +kernel, by decide +kernel⟩, List.mem_of_getElem? (i := 1204) (by decide +kernel), List.mem_of_getElem? (i := 1654) (by decide +kernel), List.mem_of_getElem? (i := 1655) (by decide +kernel)⟩
theorem lw_p72 : lw_okq (⟨"InkFoldsModel", "between", "(II)I"⟩, 45) := ⟨⟨by decide +kernel, by decide +kernel⟩, List.mem_of_getElem? (i := 1204) (by decide +kernel), List.mem_of_getElem? (i := 1661) (by decide +kernel), List.mem_of_getElem? (i := 1662) (by decide +kernel)⟩
theorem lw_p73 : lw_okq (⟨"InkFoldsModel", "risesOf", "([II)I"⟩, 45) := ⟨⟨by decide +kernel, by decide +kernel⟩, List.mem_of_getElem? (i := 1204) (by decide +kernel), List.mem_of_getElem? (i := 1669) (by decide +kernel), List.mem_of_getElem? (i := 1670) (by decide +kernel)⟩
theorem lw_p74 : lw_okq (⟨"InkFoldsModel", "sort", "(I)V"⟩, 45) := ⟨⟨by decide +kernel, by decide +kernel⟩, List.mem_of_getElem? (i := 1204) (by decide +kernel), List.mem_of_getElem? (i := 1683) (by decide +kernel), List.mem_of_getElem? (i := 1684) (by decide +kernel)⟩
theorem lw_p75 : lw_okq (⟨"InkFoldsModel", "cells", "()I"⟩, 45) := ⟨⟨by decide +kernel, by decide +kernel⟩, List.mem_of_getElem? (i := 1204) (by decide +kernel), List.mem_of_getElem? (i := 1698) (by decide +kernel), List.mem_of_getElem? (i := 1699) (by decide +kernel)⟩
theorem lw_p76 : lw_okq (⟨"InkFoldsModel", "layPress", "(I)V"⟩, 45) := ⟨⟨by decide +kernel, by decide +kernel⟩, List.mem_of_getElem? (i := 1204) (by decide +kernel), List.mem_of_getElem? (i := 1702) (by decide +kernel), List.mem_of_getElem? (i := 1703) (by decide +kernel)⟩
theorem lw_p77 : lw_okq (⟨"InkFoldsModel", "sameAhead", "(I)I"⟩, 45) := ⟨⟨by decide +kernel, by decide +kernel⟩, List.mem_of_getElem? (i := 1204) (by decide +kernel), List.mem_of_getElem? (i := 1709) (by decide +kernel), List.mem_of_getElem? (i := 1710) (by decide +kernel)⟩
theorem lw_p78 : lw_okq (⟨"InkFoldsModel", "spanOf", "(I)I"⟩, 45) := ⟨⟨by decide +kernel, by decide +kernel⟩, List.mem_of_getElem? (i := 1204) (by decide +kernel), List.mem_of_getElem? (i := 1725) (by decide +kernel), List.mem_of_getElem? (i := 1726) (by decide +kernel)⟩
theorem lw_p79 : lw_okq (⟨"InkFoldsModel", "sumOf", "(I)I"⟩, 45) := ⟨⟨by decide +kernel, by decide +kernel⟩, List.mem_of_getElem? (i := 1204) (by decide +kernel), List.mem_of_getElem? (i := 1729) (by decide +kernel), List.mem_of_getElem? (i := 1730) (by decide +kernel)⟩
def lw_privs_5 : List (MethodName × Nat) := [(⟨"InkFoldsModel", "linked", "(I)I"⟩, 45), (⟨"InkFoldsModel", "goes", "(III)V"⟩, 45), (⟨"InkFoldsModel", "timesOf", "(II)I"⟩, 45), (⟨"InkFoldsModel", "does", "(III)V"⟩, 45), (⟨"InkFoldsModel", "trade", "(I)V"⟩, 45), (⟨"InkFoldsModel", "doesOne", "(III)V"⟩, 45), (⟨"InkFoldsModel", "more", "(II)V"⟩, 45), (⟨"InkFoldsModel", "layWays", "(II)V"⟩, 45), (⟨"InkFoldsModel", "between", "(II)I"⟩, 45), (⟨"InkFoldsModel", "risesOf", "([II)I"⟩, 45), (⟨"InkFoldsModel", "sort", "(I)V"⟩, 45), (⟨"InkFoldsModel", "cells", "()I"⟩, 45), (⟨"InkFoldsModel", "layPress", "(I)V"⟩, 45), (⟨"InkFoldsModel", "sameAhead", "(I)I"⟩, 45), (⟨"InkFoldsModel", "spanOf", "(I)I"⟩, 45), (⟨"InkFoldsModel", "sumOf", "(I)I"⟩, 45)]
theorem lw_r5 : ∀ q ∈ lw_privs_5, lw_okq q := List.forall_mem_cons.mpr ⟨lw_p64, List.forall_mem_cons.mpr ⟨lw_p65, List.forall_mem_cons.mpr ⟨lw_p66, List.forall_mem_cons.mpr ⟨lw_p67, List.forall_mem_cons.mpr ⟨lw_p68, List.forall_mem_cons.mpr ⟨lw_p69, List.forall_mem_cons.mpr ⟨lw_p70, List.forall_mem_cons.mpr ⟨lw_p71, List.forall_mem_cons.mpr ⟨lw_p72, List.forall_mem_cons.mpr ⟨lw_p73, List.forall_mem_cons.mpr ⟨lw_p74, List.forall_mem_cons.mpr ⟨lw_p75, List.forall_mem_cons.mpr ⟨lw_p76, List.forall_mem_cons.mpr ⟨lw_p77, List.forall_mem_cons.mpr ⟨lw_p78, List.forall_mem_cons.mpr ⟨lw_p79, fun _ h => absurd h List.not_mem_nil⟩⟩⟩⟩⟩⟩⟩⟩⟩⟩⟩⟩⟩⟩⟩⟩
theorem lw_p80 : lw_okq (⟨"InkFoldsModel", "layTheirs", "(I)V"⟩, 45) := ⟨⟨by decide +kernel, by decide +kernel⟩, List.mem_of_getElem? (i := 1204) (by decide +kernel), List.mem_of_getElem? (i := 1752) (by decide +kernel), List.mem_of_getElem? (i := 1753) (by decide +kernel)⟩
theorem lw_p81 : lw_okq (⟨"InkFoldsModel", "draw", "(I)I"⟩, 45) := ⟨⟨by decide +kernel, by decide +kernel⟩, List.mem_of_getElem? (i := 1204) (by decide +kernel), List.mem_of_getElem? (i := 1764) (by decide +kernel), List.mem_of_getElem? (i := 1765) (by decide +kernel)⟩
theorem lw_p82 : lw_okq (⟨"InkFoldsModel", "measured", "()I"⟩, 45) := ⟨⟨by decide +kernel, by decide +kernel⟩, List.mem_of_getElem? (i := 1204) (by decide +kernel), List.mem_of_getElem? (i := 1773) (by decide +kernel), List.mem_of_getElem? (i := 1774) (by decide +kernel)⟩
theorem lw_p83 : lw_okq (⟨"InkFoldsModel", "refusesSet", "(II)I"⟩, 45) := ⟨⟨by decide +kernel, by decide +kernel⟩, List.mem_of_getElem? (i := 1204) (by decide +kernel), List.mem_of_getElem? (i := 1785) (by decide +kernel), List.mem_of_getElem? (i := 1786) (by decide +kernel)⟩
theorem lw_p84 : lw_okq (⟨"InkFoldsModel", "paint", "(IIII)V"⟩, 45) := ⟨⟨by decide +kernel, by decide +kernel⟩, List.mem_of_getElem? (i := 1204) (by decide +kernel), List.mem_of_getElem? (i := 1797) (by decide +kernel), List.mem_of_getElem? (i := 1798) (by decide +kernel)⟩
theorem lw_p85 : lw_okq (⟨"InkFoldsModel", "readAct", "(I)V"⟩, 45) := ⟨⟨by decide +kernel, by decide +kernel⟩, List.mem_of_getElem? (i := 1204) (by decide +kernel), List.mem_of_getElem? (i := 1805) (by decide +kernel), List.mem_of_getElem? (i := 1806) (by decide +kernel)⟩
theorem lw_p86 : lw_okq (⟨"InkFoldsModel", "act", "(I)Z"⟩, 45) := ⟨⟨by decide +kernel, by decide +kernel⟩, List.mem_of_getElem? (i := 1204) (by decide +kernel), List.mem_of_getElem? (i := 1809) (by decide +kernel), List.mem_of_getElem? (i := 1810) (by decide +kernel)⟩
theorem lw_p87 : lw_okq (⟨"InkFoldsModel", "set", "(II)Z"⟩, 45) := ⟨⟨by decide +kernel, by decide +kernel⟩, List.mem_of_getElem? (i := 1204) (by decide +kernel), List.mem_of_getElem? (i := 1813) (by decide +kernel), List.mem_of_getElem? (i := 1814) (by decide +kernel)⟩
def lw_privs_6 : List (MethodName × Nat) := [(⟨"InkFoldsModel", "layTheirs", "(I)V"⟩, 45), (⟨"InkFoldsModel", "draw", "(I)I"⟩, 45), (⟨"InkFoldsModel", "measured", "()I"⟩, 45), (⟨"InkFoldsModel", "refusesSet", "(II)I"⟩, 45), (⟨"InkFoldsModel", "paint", "(IIII)V"⟩, 45), (⟨"InkFoldsModel", "readAct", "(I)V"⟩, 45), (⟨"InkFoldsModel", "act", "(I)Z"⟩, 45), (⟨"InkFoldsModel", "set", "(II)Z"⟩, 45)]
theorem lw_r6 : ∀ q ∈ lw_privs_6, lw_okq q := List.forall_mem_cons.mpr ⟨lw_p80, List.forall_mem_cons.mpr ⟨lw_p81, List.forall_mem_cons.mpr ⟨lw_p82, List.forall_mem_cons.mpr ⟨lw_p83, List.forall_mem_cons.mpr ⟨lw_p84, List.forall_mem_cons.mpr ⟨lw_p85, List.forall_mem_cons.mpr ⟨lw_p86, List.forall_mem_cons.mpr ⟨lw_p87, fun _ h => absurd h List.not_mem_nil⟩⟩⟩⟩⟩⟩⟩⟩
def lw_privs : List (MethodName × Nat) := lw_privs_1 ++ (lw_privs_2 ++ (lw_privs_3 ++ (lw_privs_4 ++ (lw_privs_5 ++ (lw_privs_6)))))
def lw_tbl : List Cond := k2_sels lw_privs ++ tables_1
theorem lw_privs_ok : ∀ q ∈ lw_privs, lw_okq q := by
  show ∀ q ∈ lw_privs_1 ++ (lw_privs_2 ++ (lw_privs_3 ++ (lw_privs_4 ++ (lw_privs_5 ++ (lw_privs_6))))), lw_okq q
  exact List.forall_mem_append.mpr ⟨lw_r1, List.forall_mem_append.mpr ⟨lw_r2, List.forall_mem_append.mpr ⟨lw_r3, List.forall_mem_append.mpr ⟨lw_r4, List.forall_mem_append.mpr ⟨lw_r5, lw_r6⟩⟩⟩⟩⟩
-- ===== end of PART A; then your names; then what follows =====
def RX0 : String := "InkFolds$Chart"
def TX0 : u_T := fun k => match k with
  | 0 => ("InkFolds$Chart", "light", "[I", true)
  | 1 => ("InkFolds$Chart", "numbers", "[I", true)
  | 2 => ("InkFolds$Chart", "path", "[I", true)
  | 3 => ("InkFolds$Chart", "share", "[I", true)
  | _ => ("InkFolds$Chart", "rests", "[I", true)
def tyX0 : Nat → FieldType := fun k => match k with
  | 0 => .array .int
  | 1 => .array .int
  | 2 => .array .int
  | 3 => .array .int
  | _ => .array .int
abbrev wsX00 : List Cond := u_ws RX0 TX0 5
theorem nmX0 : ∀ a, a < 5 → ∀ b, b < 5 → a ≠ b → (TX0 a).2.1 ≠ (TX0 b).2.1 := by decide +kernel
theorem tyX0_ok : ∀ k, k < 5 → parseFieldDescriptor (TX0 k).2.2.1 = some (tyX0 k) := by decide +kernel
abbrev cX0_init : ByteArray := prog_2_method_1_code
def yX0_init : MethodName := ⟨RX0, "<init>", "()V"⟩
abbrev cX0_follow : ByteArray := prog_2_method_2_code
def yX0_follow : MethodName := ⟨RX0, "follow", "(LInkFolds$State;)V"⟩
abbrev cX0_reckon : ByteArray := prog_2_method_3_code
def yX0_reckon : MethodName := ⟨RX0, "reckon", "(I)V"⟩
abbrev cX0_goTo : ByteArray := prog_2_method_4_code
def yX0_goTo : MethodName := ⟨RX0, "goTo", "(I)V"⟩
abbrev cX0_greatestRest : ByteArray := prog_2_method_5_code
def yX0_greatestRest : MethodName := ⟨RX0, "greatestRest", "()I"⟩
abbrev cX0_number : ByteArray := prog_2_method_6_code
def yX0_number : MethodName := ⟨RX0, "number", "(II)I"⟩
abbrev cX0_sum : ByteArray := prog_2_method_7_code
def yX0_sum : MethodName := ⟨RX0, "sum", "(I)I"⟩
abbrev cX0_widest : ByteArray := prog_2_method_8_code
def yX0_widest : MethodName := ⟨RX0, "widest", "(I)I"⟩
abbrev cX0_packed : ByteArray := prog_2_method_9_code
def yX0_packed : MethodName := ⟨RX0, "packed", "(I)I"⟩
abbrev cX0_onTheWay : ByteArray := prog_2_method_10_code
def yX0_onTheWay : MethodName := ⟨RX0, "onTheWay", "(IIII)I"⟩
abbrev cX0_distanceTo : ByteArray := prog_2_method_11_code
def yX0_distanceTo : MethodName := ⟨RX0, "distanceTo", "(LInkFolds$State;IIII)I"⟩
abbrev cX0_distanceOf : ByteArray := prog_2_method_12_code
def yX0_distanceOf : MethodName := ⟨RX0, "distanceOf", "(LInkFolds$State;II)I"⟩
abbrev cX0_risesAt : ByteArray := prog_2_method_13_code
def yX0_risesAt : MethodName := ⟨RX0, "risesAt", "(III)Z"⟩
abbrev cX0_countRises : ByteArray := prog_2_method_14_code
def yX0_countRises : MethodName := ⟨RX0, "countRises", "(I)I"⟩
abbrev cX0_firstRise : ByteArray := prog_2_method_15_code
def yX0_firstRise : MethodName := ⟨RX0, "firstRise", "(I)I"⟩
def RX1 : String := "InkFolds$History"
def TX1 : u_T := fun k => match k with
  | 0 => ("InkFolds$History", "slots", "[LInkFolds$State;", true)
  | 1 => ("InkFolds$History", "begin", "I", false)
  | _ => ("InkFolds$History", "count", "I", false)
def tyX1 : Nat → FieldType := fun k => match k with
  | 0 => .array (.object "InkFolds$State")
  | 1 => .int
  | _ => .int
abbrev wsX10 : List Cond := u_ws RX1 TX1 3
theorem nmX1 : ∀ a, a < 3 → ∀ b, b < 3 → a ≠ b → (TX1 a).2.1 ≠ (TX1 b).2.1 := by decide +kernel
theorem tyX1_ok : ∀ k, k < 3 → parseFieldDescriptor (TX1 k).2.2.1 = some (tyX1 k) := by decide +kernel
abbrev cX1_init : ByteArray := prog_3_method_1_code
def yX1_init : MethodName := ⟨RX1, "<init>", "()V"⟩
abbrev cX1_draftSlot : ByteArray := prog_3_method_2_code
def yX1_draftSlot : MethodName := ⟨RX1, "draftSlot", "()I"⟩
abbrev cX1_draft : ByteArray := prog_3_method_3_code
def yX1_draft : MethodName := ⟨RX1, "draft", "(LInkFolds$State;)V"⟩
abbrev cX1_settle : ByteArray := prog_3_method_4_code
def yX1_settle : MethodName := ⟨RX1, "settle", "()V"⟩
abbrev cX1_bringBack : ByteArray := prog_3_method_5_code
def yX1_bringBack : MethodName := ⟨RX1, "bringBack", "(LInkFolds$State;)V"⟩
def RX2 : String := "InkFolds$Inks"
def TX2 : u_T := fun k => match k with
  | _ => ("InkFolds$Inks", "amounts", "[I", true)
def tyX2 : Nat → FieldType := fun k => match k with
  | _ => .array .int
abbrev wsX20 : List Cond := u_ws RX2 TX2 1
theorem nmX2 : ∀ a, a < 1 → ∀ b, b < 1 → a ≠ b → (TX2 a).2.1 ≠ (TX2 b).2.1 := by decide +kernel
theorem tyX2_ok : ∀ k, k < 1 → parseFieldDescriptor (TX2 k).2.2.1 = some (tyX2 k) := by decide +kernel
abbrev cX2_init : ByteArray := prog_4_method_1_code
def yX2_init : MethodName := ⟨RX2, "<init>", "()V"⟩
abbrev cX2_load : ByteArray := prog_4_method_2_code
def yX2_load : MethodName := ⟨RX2, "load", "(I)V"⟩
abbrev cX2_place : ByteArray := prog_4_method_3_code
def yX2_place : MethodName := ⟨RX2, "place", "()I"⟩
abbrev cX2_limitTo : ByteArray := prog_4_method_4_code
def yX2_limitTo : MethodName := ⟨RX2, "limitTo", "(I)V"⟩
abbrev cX2_totalWith : ByteArray := prog_4_method_5_code
def yX2_totalWith : MethodName := ⟨RX2, "totalWith", "(I)I"⟩
abbrev cX2_doSteps : ByteArray := prog_4_method_6_code
def yX2_doSteps : MethodName := ⟨RX2, "doSteps", "(LInkFolds$Inks;LInkFolds$Step;[II)V"⟩
abbrev cX2_timesOf : ByteArray := prog_4_method_7_code
def yX2_timesOf : MethodName := ⟨RX2, "timesOf", "(LInkFolds$Step;)I"⟩
abbrev cX2_doOne : ByteArray := prog_4_method_8_code
def yX2_doOne : MethodName := ⟨RX2, "doOne", "(LInkFolds$Step;[I)V"⟩
abbrev cX2_exchange : ByteArray := prog_4_method_9_code
def yX2_exchange : MethodName := ⟨RX2, "exchange", "(II)V"⟩
abbrev cX2_bend : ByteArray := prog_4_method_10_code
def yX2_bend : MethodName := ⟨RX2, "bend", "([I)V"⟩
abbrev cX2_greyToBlack : ByteArray := prog_4_method_11_code
def yX2_greyToBlack : MethodName := ⟨RX2, "greyToBlack", "(I)V"⟩
abbrev cX2_blackToGrey : ByteArray := prog_4_method_12_code
def yX2_blackToGrey : MethodName := ⟨RX2, "blackToGrey", "(I)V"⟩
abbrev cX2_move : ByteArray := prog_4_method_13_code
def yX2_move : MethodName := ⟨RX2, "move", "(I)V"⟩
def RX3 : String := "InkFolds$Link"
def TX3 : u_T := fun k => match k with
  | 0 => ("InkFolds$Link", "first", "LInkFolds$Step;", true)
  | 1 => ("InkFolds$Link", "length", "I", true)
  | _ => ("InkFolds$Link", "age", "I", true)
def tyX3 : Nat → FieldType := fun k => match k with
  | 0 => .object "InkFolds$Step"
  | 1 => .int
  | _ => .int
abbrev wsX30 : List Cond := u_ws RX3 TX3 3
theorem nmX3 : ∀ a, a < 3 → ∀ b, b < 3 → a ≠ b → (TX3 a).2.1 ≠ (TX3 b).2.1 := by decide +kernel
theorem tyX3_ok : ∀ k, k < 3 → parseFieldDescriptor (TX3 k).2.2.1 = some (tyX3 k) := by decide +kernel
abbrev cX3_init : ByteArray := prog_5_method_1_code
def yX3_init : MethodName := ⟨RX3, "<init>", "(LInkFolds$Step;II)V"⟩
abbrev cX3_read : ByteArray := prog_5_method_2_code
def yX3_read : MethodName := ⟨RX3, "read", "(LInkFolds$Text;LInkFolds$Link;I)LInkFolds$Link;"⟩
abbrev cX3_readStep : ByteArray := prog_5_method_3_code
def yX3_readStep : MethodName := ⟨RX3, "readStep", "(LInkFolds$Text;ILInkFolds$Link;I)LInkFolds$Step;"⟩
def RX4 : String := "InkFolds$Matcher"
def TX4 : u_T := fun k => match k with
  | 0 => ("InkFolds$Matcher", "open", "[I", true)
  | 1 => ("InkFolds$Matcher", "openCount", "I", false)
  | 2 => ("InkFolds$Matcher", "limit", "I", false)
  | 3 => ("InkFolds$Matcher", "top", "I", false)
  | 4 => ("InkFolds$Matcher", "distances", "[I", true)
  | 5 => ("InkFolds$Matcher", "distance", "I", false)
  | 6 => ("InkFolds$Matcher", "low", "I", false)
  | 7 => ("InkFolds$Matcher", "high", "I", false)
  | _ => ("InkFolds$Matcher", "fits", "I", false)
def tyX4 : Nat → FieldType := fun k => match k with
  | 0 => .array .int
  | 1 => .int
  | 2 => .int
  | 3 => .int
  | 4 => .array .int
  | 5 => .int
  | 6 => .int
  | 7 => .int
  | _ => .int
abbrev wsX40 : List Cond := u_ws RX4 TX4 9
theorem nmX4 : ∀ a, a < 9 → ∀ b, b < 9 → a ≠ b → (TX4 a).2.1 ≠ (TX4 b).2.1 := by decide +kernel
theorem tyX4_ok : ∀ k, k < 9 → parseFieldDescriptor (TX4 k).2.2.1 = some (tyX4 k) := by decide +kernel
abbrev cX4_init : ByteArray := prog_6_method_1_code
def yX4_init : MethodName := ⟨RX4, "<init>", "()V"⟩
abbrev cX4_follow : ByteArray := prog_6_method_2_code
def yX4_follow : MethodName := ⟨RX4, "follow", "(LInkFolds$State;)V"⟩
abbrev cX4_leastDistance : ByteArray := prog_6_method_3_code
def yX4_leastDistance : MethodName := ⟨RX4, "leastDistance", "(LInkFolds$State;LInkFolds$Chart;III)I"⟩
abbrev cX4_find : ByteArray := prog_6_method_4_code
def yX4_find : MethodName := ⟨RX4, "find", "(LInkFolds$State;LInkFolds$Chart;III)I"⟩
abbrev cX4_countFits : ByteArray := prog_6_method_5_code
def yX4_countFits : MethodName := ⟨RX4, "countFits", "(I)V"⟩
abbrev cX4_rankOf : ByteArray := prog_6_method_6_code
def yX4_rankOf : MethodName := ⟨RX4, "rankOf", "(II)J"⟩
def RX5 : String := "InkFolds$Press"
def TX5 : u_T := fun k => match k with
  | 0 => ("InkFolds$Press", "places", "[I", true)
  | 1 => ("InkFolds$Press", "came", "[I", true)
  | _ => ("InkFolds$Press", "wanted", "[I", true)
def tyX5 : Nat → FieldType := fun k => match k with
  | 0 => .array .int
  | 1 => .array .int
  | _ => .array .int
abbrev wsX50 : List Cond := u_ws RX5 TX5 3
theorem nmX5 : ∀ a, a < 3 → ∀ b, b < 3 → a ≠ b → (TX5 a).2.1 ≠ (TX5 b).2.1 := by decide +kernel
theorem tyX5_ok : ∀ k, k < 3 → parseFieldDescriptor (TX5 k).2.2.1 = some (tyX5 k) := by decide +kernel
abbrev cX5_init : ByteArray := prog_7_method_1_code
def yX5_init : MethodName := ⟨RX5, "<init>", "()V"⟩
abbrev cX5_print : ByteArray := prog_7_method_2_code
def yX5_print : MethodName := ⟨RX5, "print", "(LInkFolds$State;LInkFolds$Chart;LInkFolds$Matcher;ZI)V"⟩
abbrev cX5_firstOfLetter : ByteArray := prog_7_method_3_code
def yX5_firstOfLetter : MethodName := ⟨RX5, "firstOfLetter", "(LInkFolds$State;I)I"⟩
abbrev cX5_handOn : ByteArray := prog_7_method_4_code
def yX5_handOn : MethodName := ⟨RX5, "handOn", "(LInkFolds$State;LInkFolds$Chart;I)V"⟩
abbrev cX5_inkUsed : ByteArray := prog_7_method_5_code
def yX5_inkUsed : MethodName := ⟨RX5, "inkUsed", "(LInkFolds$State;I)I"⟩
abbrev cX5_farFromLetters : ByteArray := prog_7_method_6_code
def yX5_farFromLetters : MethodName := ⟨RX5, "farFromLetters", "(LInkFolds$State;LInkFolds$Chart;)J"⟩
abbrev cX5_countDifferent : ByteArray := prog_7_method_7_code
def yX5_countDifferent : MethodName := ⟨RX5, "countDifferent", "(LInkFolds$State;)I"⟩
abbrev cX5_slipped : ByteArray := prog_7_method_8_code
def yX5_slipped : MethodName := ⟨RX5, "slipped", "(LInkFolds$State;IIII)I"⟩
def RX6 : String := "InkFolds$Row"
def TX6 : u_T := fun k => match k with
  | 0 => ("InkFolds$Row", "numbers", "[J", true)
  | _ => ("InkFolds$Row", "count", "I", false)
def tyX6 : Nat → FieldType := fun k => match k with
  | 0 => .array .long
  | _ => .int
abbrev wsX60 : List Cond := u_ws RX6 TX6 2
theorem nmX6 : ∀ a, a < 2 → ∀ b, b < 2 → a ≠ b → (TX6 a).2.1 ≠ (TX6 b).2.1 := by decide +kernel
theorem tyX6_ok : ∀ k, k < 2 → parseFieldDescriptor (TX6 k).2.2.1 = some (tyX6 k) := by decide +kernel
abbrev cX6_init : ByteArray := prog_8_method_1_code
def yX6_init : MethodName := ⟨RX6, "<init>", "()V"⟩
abbrev cX6_clear : ByteArray := prog_8_method_2_code
def yX6_clear : MethodName := ⟨RX6, "clear", "()V"⟩
abbrev cX6_append : ByteArray := prog_8_method_3_code
def yX6_append : MethodName := ⟨RX6, "append", "(J)V"⟩
def RX7 : String := "InkFolds$State"
def TX7 : u_T := fun k => match k with
  | 0 => ("InkFolds$State", "told", "[I", true)
  | 1 => ("InkFolds$State", "measured", "[Z", true)
  | 2 => ("InkFolds$State", "settings", "[I", true)
  | 3 => ("InkFolds$State", "curves", "[I", true)
  | 4 => ("InkFolds$State", "palette", "[I", true)
  | 5 => ("InkFolds$State", "cells", "[I", true)
  | 6 => ("InkFolds$State", "width", "I", false)
  | 7 => ("InkFolds$State", "height", "I", false)
  | _ => ("InkFolds$State", "link", "LInkFolds$Link;", false)
def tyX7 : Nat → FieldType := fun k => match k with
  | 0 => .array .int
  | 1 => .array .boolean
  | 2 => .array .int
  | 3 => .array .int
  | 4 => .array .int
  | 5 => .array .int
  | 6 => .int
  | 7 => .int
  | _ => .object "InkFolds$Link"
abbrev wsX70 : List Cond := u_ws RX7 TX7 9
theorem nmX7 : ∀ a, a < 9 → ∀ b, b < 9 → a ≠ b → (TX7 a).2.1 ≠ (TX7 b).2.1 := by decide +kernel
theorem tyX7_ok : ∀ k, k < 9 → parseFieldDescriptor (TX7 k).2.2.1 = some (tyX7 k) := by decide +kernel
abbrev cX7_init : ByteArray := prog_9_method_1_code
def yX7_init : MethodName := ⟨RX7, "<init>", "()V"⟩
abbrev cX7_copyFrom : ByteArray := prog_9_method_2_code
def yX7_copyFrom : MethodName := ⟨RX7, "copyFrom", "(LInkFolds$State;)V"⟩
abbrev cX7_lightOf : ByteArray := prog_9_method_3_code
def yX7_lightOf : MethodName := ⟨RX7, "lightOf", "(II)I"⟩
abbrev cX7_reckoned : ByteArray := prog_9_method_4_code
def yX7_reckoned : MethodName := ⟨RX7, "reckoned", "(II)I"⟩
abbrev cX7_countMeasured : ByteArray := prog_9_method_5_code
def yX7_countMeasured : MethodName := ⟨RX7, "countMeasured", "()I"⟩
abbrev cX7_tellPatch : ByteArray := prog_9_method_6_code
def yX7_tellPatch : MethodName := ⟨RX7, "tellPatch", "(IIII)I"⟩
abbrev cX7_dropPatch : ByteArray := prog_9_method_7_code
def yX7_dropPatch : MethodName := ⟨RX7, "dropPatch", "(I)I"⟩
abbrev cX7_change : ByteArray := prog_9_method_8_code
def yX7_change : MethodName := ⟨RX7, "change", "(II)I"⟩
abbrev cX7_paintLetter : ByteArray := prog_9_method_9_code
def yX7_paintLetter : MethodName := ⟨RX7, "paintLetter", "(IIII)I"⟩
abbrev cX7_hang : ByteArray := prog_9_method_10_code
def yX7_hang : MethodName := ⟨RX7, "hang", "(LInkFolds$Text;)V"⟩
abbrev cX7_cellCount : ByteArray := prog_9_method_11_code
def yX7_cellCount : MethodName := ⟨RX7, "cellCount", "()I"⟩
abbrev cX7_bentFromStraight : ByteArray := prog_9_method_12_code
def yX7_bentFromStraight : MethodName := ⟨RX7, "bentFromStraight", "(I)I"⟩
abbrev cX7_weighed : ByteArray := prog_9_method_13_code
def yX7_weighed : MethodName := ⟨RX7, "weighed", "(III)I"⟩
abbrev cX7_unlike : ByteArray := prog_9_method_14_code
def yX7_unlike : MethodName := ⟨RX7, "unlike", "(I)I"⟩
abbrev cX7_isOpen : ByteArray := prog_9_method_15_code
def yX7_isOpen : MethodName := ⟨RX7, "isOpen", "(I)Z"⟩
def RX8 : String := "InkFolds$Step"
def TX8 : u_T := fun k => match k with
  | 0 => ("InkFolds$Step", "kind", "I", true)
  | 1 => ("InkFolds$Step", "first", "I", true)
  | 2 => ("InkFolds$Step", "second", "I", true)
  | 3 => ("InkFolds$Step", "inner", "LInkFolds$Step;", false)
  | 4 => ("InkFolds$Step", "lastInner", "LInkFolds$Step;", false)
  | _ => ("InkFolds$Step", "next", "LInkFolds$Step;", false)
def tyX8 : Nat → FieldType := fun k => match k with
  | 0 => .int
  | 1 => .int
  | 2 => .int
  | 3 => .object "InkFolds$Step"
  | 4 => .object "InkFolds$Step"
  | _ => .object "InkFolds$Step"
abbrev wsX80 : List Cond := u_ws RX8 TX8 6
theorem nmX8 : ∀ a, a < 6 → ∀ b, b < 6 → a ≠ b → (TX8 a).2.1 ≠ (TX8 b).2.1 := by decide +kernel
theorem tyX8_ok : ∀ k, k < 6 → parseFieldDescriptor (TX8 k).2.2.1 = some (tyX8 k) := by decide +kernel
abbrev cX8_init : ByteArray := prog_10_method_1_code
def yX8_init : MethodName := ⟨RX8, "<init>", "(III)V"⟩
abbrev cX8_append : ByteArray := prog_10_method_2_code
def yX8_append : MethodName := ⟨RX8, "append", "(LInkFolds$Step;)V"⟩
abbrev cX8_longOf : ByteArray := prog_10_method_3_code
def yX8_longOf : MethodName := ⟨RX8, "longOf", "(LInkFolds$Step;I)I"⟩
def RX9 : String := "InkFolds$Text"
def TX9 : u_T := fun k => match k with
  | 0 => ("InkFolds$Text", "signs", "[I", true)
  | _ => ("InkFolds$Text", "count", "I", false)
def tyX9 : Nat → FieldType := fun k => match k with
  | 0 => .array .int
  | _ => .int
abbrev wsX90 : List Cond := u_ws RX9 TX9 2
theorem nmX9 : ∀ a, a < 2 → ∀ b, b < 2 → a ≠ b → (TX9 a).2.1 ≠ (TX9 b).2.1 := by decide +kernel
theorem tyX9_ok : ∀ k, k < 2 → parseFieldDescriptor (TX9 k).2.2.1 = some (tyX9 k) := by decide +kernel
abbrev cX9_init : ByteArray := prog_11_method_1_code
def yX9_init : MethodName := ⟨RX9, "<init>", "()V"⟩
abbrev cX9_append : ByteArray := prog_11_method_2_code
def yX9_append : MethodName := ⟨RX9, "append", "(I)V"⟩
abbrev cX9_at : ByteArray := prog_11_method_3_code
def yX9_at : MethodName := ⟨RX9, "at", "(I)I"⟩
abbrev cX9_digit : ByteArray := prog_11_method_4_code
def yX9_digit : MethodName := ⟨RX9, "digit", "(I)I"⟩
abbrev cX9_two : ByteArray := prog_11_method_5_code
def yX9_two : MethodName := ⟨RX9, "two", "(I)I"⟩
abbrev cX9_patch : ByteArray := prog_11_method_6_code
def yX9_patch : MethodName := ⟨RX9, "patch", "(I)I"⟩
abbrev cX9_has : ByteArray := prog_11_method_7_code
def yX9_has : MethodName := ⟨RX9, "has", "(I)Z"⟩
abbrev cX9_operand : ByteArray := prog_11_method_8_code
def yX9_operand : MethodName := ⟨RX9, "operand", "(I)I"⟩
abbrev cX9_inkOf : ByteArray := prog_11_method_9_code
def yX9_inkOf : MethodName := ⟨RX9, "inkOf", "(I)I"⟩
abbrev cX9_stepForm : ByteArray := prog_11_method_10_code
def yX9_stepForm : MethodName := ⟨RX9, "stepForm", "(I)Ljava/lang/String;"⟩
abbrev cX9_actForm : ByteArray := prog_11_method_11_code
def yX9_actForm : MethodName := ⟨RX9, "actForm", "(I)Ljava/lang/String;"⟩
abbrev cX9_formOf : ByteArray := prog_11_method_12_code
def yX9_formOf : MethodName := ⟨RX9, "formOf", "(II)Ljava/lang/String;"⟩
abbrev cX9_canStand : ByteArray := prog_11_method_13_code
def yX9_canStand : MethodName := ⟨RX9, "canStand", "(III)Z"⟩
abbrev cX9_wrongAt : ByteArray := prog_11_method_14_code
def yX9_wrongAt : MethodName := ⟨RX9, "wrongAt", "(II)I"⟩
abbrev cX9_curveWrongAt : ByteArray := prog_11_method_15_code
def yX9_curveWrongAt : MethodName := ⟨RX9, "curveWrongAt", "()I"⟩
abbrev cX9_pictureWrongAt : ByteArray := prog_11_method_16_code
def yX9_pictureWrongAt : MethodName := ⟨RX9, "pictureWrongAt", "()I"⟩
def RX10 : String := "InkFolds"
def TX10 : u_T := fun k => match k with
  | 0 => ("InkFolds", "text", "LInkFolds$Text;", true)
  | 1 => ("InkFolds", "row", "LInkFolds$Row;", true)
  | 2 => ("InkFolds", "now", "LInkFolds$State;", true)
  | 3 => ("InkFolds", "history", "LInkFolds$History;", true)
  | 4 => ("InkFolds", "kept", "[LInkFolds$State;", true)
  | 5 => ("InkFolds", "isKept", "[Z", true)
  | 6 => ("InkFolds", "chart", "LInkFolds$Chart;", true)
  | 7 => ("InkFolds", "trial", "LInkFolds$State;", true)
  | 8 => ("InkFolds", "trialChart", "LInkFolds$Chart;", true)
  | 9 => ("InkFolds", "matcher", "LInkFolds$Matcher;", true)
  | 10 => ("InkFolds", "inks", "LInkFolds$Inks;", true)
  | 11 => ("InkFolds", "printed", "LInkFolds$Press;", true)
  | 12 => ("InkFolds", "marks", "[I", true)
  | 13 => ("InkFolds", "chain", "[I", true)
  | _ => ("InkFolds", "tally", "[I", true)
def tyX10 : Nat → FieldType := fun k => match k with
  | 0 => .object "InkFolds$Text"
  | 1 => .object "InkFolds$Row"
  | 2 => .object "InkFolds$State"
  | 3 => .object "InkFolds$History"
  | 4 => .array (.object "InkFolds$State")
  | 5 => .array .boolean
  | 6 => .object "InkFolds$Chart"
  | 7 => .object "InkFolds$State"
  | 8 => .object "InkFolds$Chart"
  | 9 => .object "InkFolds$Matcher"
  | 10 => .object "InkFolds$Inks"
  | 11 => .object "InkFolds$Press"
  | 12 => .array .int
  | 13 => .array .int
  | _ => .array .int
abbrev wsX100 : List Cond := u_ws RX10 TX10 15
theorem nmX10 : ∀ a, a < 15 → ∀ b, b < 15 → a ≠ b → (TX10 a).2.1 ≠ (TX10 b).2.1 := by decide +kernel
theorem tyX10_ok : ∀ k, k < 15 → parseFieldDescriptor (TX10 k).2.2.1 = some (tyX10 k) := by decide +kernel
abbrev cX10_init : ByteArray := prog_1_method_1_code
def yX10_init : MethodName := ⟨RX10, "<init>", "()V"⟩
abbrev cX10_sign : ByteArray := prog_1_method_2_code
def yX10_sign : MethodName := ⟨RX10, "sign", "(I)I"⟩
abbrev cX10_end : ByteArray := prog_1_method_3_code
def yX10_end : MethodName := ⟨RX10, "end", "(I)Z"⟩
abbrev cX10_patches : ByteArray := prog_1_method_4_code
def yX10_patches : MethodName := ⟨RX10, "patches", "()I"⟩
abbrev cX10_curve : ByteArray := prog_1_method_5_code
def yX10_curve : MethodName := ⟨RX10, "curve", "(I)I"⟩
abbrev cX10_link : ByteArray := prog_1_method_6_code
def yX10_link : MethodName := ⟨RX10, "link", "()I"⟩
abbrev cX10_picture : ByteArray := prog_1_method_7_code
def yX10_picture : MethodName := ⟨RX10, "picture", "()I"⟩
abbrev cX10_light : ByteArray := prog_1_method_8_code
def yX10_light : MethodName := ⟨RX10, "light", "(II)I"⟩
abbrev cX10_bent : ByteArray := prog_1_method_9_code
def yX10_bent : MethodName := ⟨RX10, "bent", "(II)I"⟩
abbrev cX10_sheet : ByteArray := prog_1_method_10_code
def yX10_sheet : MethodName := ⟨RX10, "sheet", "(IIII)I"⟩
abbrev cX10_entryOf : ByteArray := prog_1_method_11_code
def yX10_entryOf : MethodName := ⟨RX10, "entryOf", "(II)I"⟩
abbrev cX10_refusedText : ByteArray := prog_1_method_12_code
def yX10_refusedText : MethodName := ⟨RX10, "refusedText", "(I)I"⟩
abbrev cX10_tellPatchAt : ByteArray := prog_1_method_13_code
def yX10_tellPatchAt : MethodName := ⟨RX10, "tellPatchAt", "(I)I"⟩
abbrev cX10_measure : ByteArray := prog_1_method_14_code
def yX10_measure : MethodName := ⟨RX10, "measure", "(IIII)I"⟩
abbrev cX10_forgets : ByteArray := prog_1_method_15_code
def yX10_forgets : MethodName := ⟨RX10, "forgets", "(I)I"⟩
abbrev cX10_sets : ByteArray := prog_1_method_16_code
def yX10_sets : MethodName := ⟨RX10, "sets", "(II)I"⟩
abbrev cX10_paints : ByteArray := prog_1_method_17_code
def yX10_paints : MethodName := ⟨RX10, "paints", "(IIII)I"⟩
abbrev cX10_day : ByteArray := prog_1_method_18_code
def yX10_day : MethodName := ⟨RX10, "day", "()I"⟩
abbrev cX10_undo : ByteArray := prog_1_method_19_code
def yX10_undo : MethodName := ⟨RX10, "undo", "()I"⟩
abbrev cX10_doAct : ByteArray := prog_1_method_20_code
def yX10_doAct : MethodName := ⟨RX10, "doAct", "(I)I"⟩
abbrev cX10_settled : ByteArray := prog_1_method_21_code
def yX10_settled : MethodName := ⟨RX10, "settled", "(I)I"⟩
abbrev cX10_colour : ByteArray := prog_1_method_22_code
def yX10_colour : MethodName := ⟨RX10, "colour", "(I)I"⟩
abbrev cX10_limited : ByteArray := prog_1_method_23_code
def yX10_limited : MethodName := ⟨RX10, "limited", "(II)I"⟩
abbrev cX10_match : ByteArray := prog_1_method_24_code
def yX10_match : MethodName := ⟨RX10, "match", "(III)I"⟩
abbrev cX10_fold : ByteArray := prog_1_method_25_code
def yX10_fold : MethodName := ⟨RX10, "fold", "(III)I"⟩
abbrev cX10_prints : ByteArray := prog_1_method_26_code
def yX10_prints : MethodName := ⟨RX10, "prints", "(III)I"⟩
abbrev cX10_ramp : ByteArray := prog_1_method_27_code
def yX10_ramp : MethodName := ⟨RX10, "ramp", "(II)I"⟩
abbrev cX10_way : ByteArray := prog_1_method_28_code
def yX10_way : MethodName := ⟨RX10, "way", "(III)I"⟩
abbrev cX10_rises : ByteArray := prog_1_method_29_code
def yX10_rises : MethodName := ⟨RX10, "rises", "(I)I"⟩
abbrev cX10_reach : ByteArray := prog_1_method_30_code
def yX10_reach : MethodName := ⟨RX10, "reach", "(I)I"⟩
abbrev cX10_spread : ByteArray := prog_1_method_31_code
def yX10_spread : MethodName := ⟨RX10, "spread", "()I"⟩
abbrev cX10_odds : ByteArray := prog_1_method_32_code
def yX10_odds : MethodName := ⟨RX10, "odds", "(IIII)I"⟩
abbrev cX10_refresh : ByteArray := prog_1_method_33_code
def yX10_refresh : MethodName := ⟨RX10, "refresh", "()V"⟩
abbrev cX10_tellColour : ByteArray := prog_1_method_34_code
def yX10_tellColour : MethodName := ⟨RX10, "tellColour", "(I)V"⟩
abbrev cX10_tellFraction : ByteArray := prog_1_method_35_code
def yX10_tellFraction : MethodName := ⟨RX10, "tellFraction", "(II)V"⟩
abbrev cX10_greatestDivisor : ByteArray := prog_1_method_36_code
def yX10_greatestDivisor : MethodName := ⟨RX10, "greatestDivisor", "(II)I"⟩
abbrev cX10_folded : ByteArray := prog_1_method_37_code
def yX10_folded : MethodName := ⟨RX10, "folded", "(III)I"⟩
abbrev cX10_leastFolded : ByteArray := prog_1_method_38_code
def yX10_leastFolded : MethodName := ⟨RX10, "leastFolded", "(IIII)I"⟩
abbrev cX10_foldOf : ByteArray := prog_1_method_39_code
def yX10_foldOf : MethodName := ⟨RX10, "foldOf", "(III)I"⟩
abbrev cX10_greatestChange : ByteArray := prog_1_method_40_code
def yX10_greatestChange : MethodName := ⟨RX10, "greatestChange", "(II)I"⟩
abbrev cX10_markChangesTo : ByteArray := prog_1_method_41_code
def yX10_markChangesTo : MethodName := ⟨RX10, "markChangesTo", "(II)V"⟩
abbrev cX10_firstOfTheWay : ByteArray := prog_1_method_42_code
def yX10_firstOfTheWay : MethodName := ⟨RX10, "firstOfTheWay", "(II)I"⟩
abbrev cX10_changed : ByteArray := prog_1_method_43_code
def yX10_changed : MethodName := ⟨RX10, "changed", "(II)I"⟩
abbrev cX10_firstAlike : ByteArray := prog_1_method_44_code
def yX10_firstAlike : MethodName := ⟨RX10, "firstAlike", "(I)I"⟩
abbrev cX10_through : ByteArray := prog_1_method_45_code
def yX10_through : MethodName := ⟨RX10, "through", "(I)I"⟩
abbrev cX10_sources : ByteArray := prog_1_method_46_code
def yX10_sources : MethodName := ⟨RX10, "sources", "(I)I"⟩
abbrev cX10_rounds : ByteArray := prog_1_method_47_code
def yX10_rounds : MethodName := ⟨RX10, "rounds", "(I)I"⟩
abbrev cX10_linked : ByteArray := prog_1_method_48_code
def yX10_linked : MethodName := ⟨RX10, "linked", "(I)I"⟩
abbrev cX10_press : ByteArray := prog_1_method_49_code
def yX10_press : MethodName := ⟨RX10, "press", "(I)I"⟩
abbrev cX10_cell : ByteArray := prog_1_method_50_code
def yX10_cell : MethodName := ⟨RX10, "cell", "(II)I"⟩
abbrev cX10_slips : ByteArray := prog_1_method_51_code
def yX10_slips : MethodName := ⟨RX10, "slips", "(III)I"⟩
abbrev cX10_greys : ByteArray := prog_1_method_52_code
def yX10_greys : MethodName := ⟨RX10, "greys", "(II)I"⟩
abbrev cX10_replaces : ByteArray := prog_1_method_53_code
def yX10_replaces : MethodName := ⟨RX10, "replaces", "(III)I"⟩
abbrev cX10_doubt : ByteArray := prog_1_method_54_code
def yX10_doubt : MethodName := ⟨RX10, "doubt", "()I"⟩
abbrev cX10_asks : ByteArray := prog_1_method_55_code
def yX10_asks : MethodName := ⟨RX10, "asks", "()I"⟩
abbrev cX10_other : ByteArray := prog_1_method_56_code
def yX10_other : MethodName := ⟨RX10, "other", "(I)I"⟩
abbrev cX10_carry : ByteArray := prog_1_method_57_code
def yX10_carry : MethodName := ⟨RX10, "carry", "(II)I"⟩
abbrev cX10_drifts : ByteArray := prog_1_method_58_code
def yX10_drifts : MethodName := ⟨RX10, "drifts", "(II)I"⟩
abbrev cX10_nextDrawn : ByteArray := prog_1_method_59_code
def yX10_nextDrawn : MethodName := ⟨RX10, "nextDrawn", "(I)I"⟩
abbrev cX10_draw : ByteArray := prog_1_method_60_code
def yX10_draw : MethodName := ⟨RX10, "draw", "(II)I"⟩
abbrev cX10_rank : ByteArray := prog_1_method_61_code
def yX10_rank : MethodName := ⟨RX10, "rank", "(II)I"⟩
abbrev cX10_keep : ByteArray := prog_1_method_62_code
def yX10_keep : MethodName := ⟨RX10, "keep", "(I)Z"⟩
abbrev cX10_again : ByteArray := prog_1_method_63_code
def yX10_again : MethodName := ⟨RX10, "again", "(I)Z"⟩
abbrev cX10_count : ByteArray := prog_1_method_64_code
def yX10_count : MethodName := ⟨RX10, "count", "(I)I"⟩
abbrev cX10_row : ByteArray := prog_1_method_65_code
def yX10_row : MethodName := ⟨RX10, "row", "(I)J"⟩
abbrev cX10_isIn : ByteArray := prog_1_method_66_code
def yX10_isIn : MethodName := ⟨RX10, "isIn", "(III)Z"⟩
abbrev cX10_isInk : ByteArray := prog_1_method_67_code
def yX10_isInk : MethodName := ⟨RX10, "isInk", "(I)Z"⟩
abbrev cX10_isBand : ByteArray := prog_1_method_68_code
def yX10_isBand : MethodName := ⟨RX10, "isBand", "(I)Z"⟩
abbrev cX10_isPatch : ByteArray := prog_1_method_69_code
def yX10_isPatch : MethodName := ⟨RX10, "isPatch", "(I)Z"⟩
abbrev cX10_isHow : ByteArray := prog_1_method_70_code
def yX10_isHow : MethodName := ⟨RX10, "isHow", "(I)Z"⟩
abbrev cX10_isColour : ByteArray := prog_1_method_71_code
def yX10_isColour : MethodName := ⟨RX10, "isColour", "(III)Z"⟩
abbrev cX10_put : ByteArray := prog_1_method_72_code
def yX10_put : MethodName := ⟨RX10, "put", "(II)I"⟩
abbrev cX10_placeOf : ByteArray := prog_1_method_73_code
def yX10_placeOf : MethodName := ⟨RX10, "placeOf", "(I)I"⟩
abbrev cX10_codeOf : ByteArray := prog_1_method_74_code
def yX10_codeOf : MethodName := ⟨RX10, "codeOf", "(I)I"⟩
abbrev cX10_amountOf : ByteArray := prog_1_method_75_code
def yX10_amountOf : MethodName := ⟨RX10, "amountOf", "(II)I"⟩
abbrev cX10_totalOf : ByteArray := prog_1_method_76_code
def yX10_totalOf : MethodName := ⟨RX10, "totalOf", "(I)I"⟩
abbrev cX10_levelOf : ByteArray := prog_1_method_77_code
def yX10_levelOf : MethodName := ⟨RX10, "levelOf", "(II)I"⟩
abbrev cX10_isPlain : ByteArray := prog_1_method_78_code
def yX10_isPlain : MethodName := ⟨RX10, "isPlain", "(I)Z"⟩
def RX11 : String := "InkFoldsModel"
def TX11 : u_T := fun k => match k with
  | 0 => ("InkFoldsModel", "now", "[I", true)
  | 1 => ("InkFoldsModel", "text", "[B", true)
  | 2 => ("InkFoldsModel", "typed", "I", false)
  | 3 => ("InkFoldsModel", "row", "[J", true)
  | 4 => ("InkFoldsModel", "rowMany", "I", false)
  | 5 => ("InkFoldsModel", "thrown", "I", false)
  | 6 => ("InkFoldsModel", "length", "I", false)
  | 7 => ("InkFoldsModel", "top", "I", false)
  | 8 => ("InkFoldsModel", "at", "I", false)
  | 9 => ("InkFoldsModel", "wrong", "I", false)
  | 10 => ("InkFoldsModel", "told", "[I", true)
  | 11 => ("InkFoldsModel", "asksFormer", "Z", false)
  | 12 => ("InkFoldsModel", "lights", "[I", true)
  | 13 => ("InkFoldsModel", "colours", "[I", true)
  | 14 => ("InkFoldsModel", "way", "[I", true)
  | 15 => ("InkFoldsModel", "counts", "[I", true)
  | 16 => ("InkFoldsModel", "codes", "[I", true)
  | 17 => ("InkFoldsModel", "opened", "[I", true)
  | 18 => ("InkFoldsModel", "openMany", "I", false)
  | 19 => ("InkFoldsModel", "inks", "[I", true)
  | 20 => ("InkFoldsModel", "least", "I", false)
  | 21 => ("InkFoldsModel", "low", "I", false)
  | 22 => ("InkFoldsModel", "high", "I", false)
  | 23 => ("InkFoldsModel", "fits", "I", false)
  | 24 => ("InkFoldsModel", "far", "[I", true)
  | 25 => ("InkFoldsModel", "folded", "[I", true)
  | 26 => ("InkFoldsModel", "foldLeast", "I", false)
  | 27 => ("InkFoldsModel", "stepsTo", "[I", true)
  | 28 => ("InkFoldsModel", "line", "[I", true)
  | 29 => ("InkFoldsModel", "risesFirst", "I", false)
  | 30 => ("InkFoldsModel", "risesBand", "I", false)
  | 31 => ("InkFoldsModel", "keys", "[J", true)
  | 32 => ("InkFoldsModel", "merged", "[J", true)
  | 33 => ("InkFoldsModel", "printed", "[I", true)
  | 34 => ("InkFoldsModel", "came", "[I", true)
  | 35 => ("InkFoldsModel", "uses", "[I", true)
  | 36 => ("InkFoldsModel", "theirs", "[I", true)
  | 37 => ("InkFoldsModel", "drawn", "I", false)
  | 38 => ("InkFoldsModel", "undos", "[I", true)
  | 39 => ("InkFoldsModel", "undoMany", "I", false)
  | 40 => ("InkFoldsModel", "then", "[I", true)
  | 41 => ("InkFoldsModel", "ahead", "[I", true)
  | 42 => ("InkFoldsModel", "acts", "[I", true)
  | 43 => ("InkFoldsModel", "kept", "[I", true)
  | _ => ("InkFoldsModel", "isKept", "[Z", true)
def tyX11 : Nat → FieldType := fun k => match k with
  | 0 => .array .int
  | 1 => .array .byte
  | 2 => .int
  | 3 => .array .long
  | 4 => .int
  | 5 => .int
  | 6 => .int
  | 7 => .int
  | 8 => .int
  | 9 => .int
  | 10 => .array .int
  | 11 => .boolean
  | 12 => .array .int
  | 13 => .array .int
  | 14 => .array .int
  | 15 => .array .int
  | 16 => .array .int
  | 17 => .array .int
  | 18 => .int
  | 19 => .array .int
  | 20 => .int
  | 21 => .int
  | 22 => .int
  | 23 => .int
  | 24 => .array .int
  | 25 => .array .int
  | 26 => .int
  | 27 => .array .int
  | 28 => .array .int
  | 29 => .int
  | 30 => .int
  | 31 => .array .long
  | 32 => .array .long
  | 33 => .array .int
  | 34 => .array .int
  | 35 => .array .int
  | 36 => .array .int
  | 37 => .int
  | 38 => .array .int
  | 39 => .int
  | 40 => .array .int
  | 41 => .array .int
  | 42 => .array .int
  | 43 => .array .int
  | _ => .array .boolean
abbrev wsX110 : List Cond := u_ws RX11 TX11 45
theorem nmX11 : ∀ a, a < 45 → ∀ b, b < 45 → a ≠ b → (TX11 a).2.1 ≠ (TX11 b).2.1 := by decide +kernel
theorem tyX11_ok : ∀ k, k < 45 → parseFieldDescriptor (TX11 k).2.2.1 = some (tyX11 k) := by decide +kernel
abbrev cX11_init : ByteArray := prog_13_method_1_code
def yX11_init : MethodName := ⟨RX11, "<init>", "()V"⟩
abbrev cX11_straighten : ByteArray := prog_13_method_2_code
def yX11_straighten : MethodName := ⟨RX11, "straighten", "(I)V"⟩
abbrev cX11_thrown : ByteArray := prog_13_method_3_code
def yX11_thrown : MethodName := ⟨RX11, "thrown", "()I"⟩
abbrev cX11_in : ByteArray := prog_13_method_4_code
def yX11_in : MethodName := ⟨RX11, "in", "(III)Z"⟩
abbrev cX11_lost : ByteArray := prog_13_method_5_code
def yX11_lost : MethodName := ⟨RX11, "lost", "()I"⟩
abbrev cX11_tell : ByteArray := prog_13_method_6_code
def yX11_tell : MethodName := ⟨RX11, "tell", "(J)V"⟩
abbrev cX11_isInk : ByteArray := prog_13_method_7_code
def yX11_isInk : MethodName := ⟨RX11, "isInk", "(I)Z"⟩
abbrev cX11_isCode : ByteArray := prog_13_method_8_code
def yX11_isCode : MethodName := ⟨RX11, "isCode", "(I)Z"⟩
abbrev cX11_amountOf : ByteArray := prog_13_method_9_code
def yX11_amountOf : MethodName := ⟨RX11, "amountOf", "(II)I"⟩
abbrev cX11_totalOf : ByteArray := prog_13_method_10_code
def yX11_totalOf : MethodName := ⟨RX11, "totalOf", "(I)I"⟩
abbrev cX11_numberOf : ByteArray := prog_13_method_11_code
def yX11_numberOf : MethodName := ⟨RX11, "numberOf", "(I)I"⟩
abbrev cX11_codeOf : ByteArray := prog_13_method_12_code
def yX11_codeOf : MethodName := ⟨RX11, "codeOf", "(I)I"⟩
abbrev cX11_levelOf : ByteArray := prog_13_method_13_code
def yX11_levelOf : MethodName := ⟨RX11, "levelOf", "(II)I"⟩
abbrev cX11_isPlain : ByteArray := prog_13_method_14_code
def yX11_isPlain : MethodName := ⟨RX11, "isPlain", "(I)Z"⟩
abbrev cX11_sign : ByteArray := prog_13_method_15_code
def yX11_sign : MethodName := ⟨RX11, "sign", "(I)I"⟩
abbrev cX11_end : ByteArray := prog_13_method_16_code
def yX11_end : MethodName := ⟨RX11, "end", "(I)Z"⟩
abbrev cX11_begin : ByteArray := prog_13_method_17_code
def yX11_begin : MethodName := ⟨RX11, "begin", "(I)V"⟩
abbrev cX11_here : ByteArray := prog_13_method_18_code
def yX11_here : MethodName := ⟨RX11, "here", "()I"⟩
abbrev cX11_fine : ByteArray := prog_13_method_19_code
def yX11_fine : MethodName := ⟨RX11, "fine", "()Z"⟩
abbrev cX11_fault : ByteArray := prog_13_method_20_code
def yX11_fault : MethodName := ⟨RX11, "fault", "(I)V"⟩
abbrev cX11_oneOf : ByteArray := prog_13_method_21_code
def yX11_oneOf : MethodName := ⟨RX11, "oneOf", "(CI)I"⟩
abbrev cX11_need : ByteArray := prog_13_method_22_code
def yX11_need : MethodName := ⟨RX11, "need", "(C)V"⟩
abbrev cX11_twoDigits : ByteArray := prog_13_method_23_code
def yX11_twoDigits : MethodName := ⟨RX11, "twoDigits", "()I"⟩
abbrev cX11_wasRight : ByteArray := prog_13_method_24_code
def yX11_wasRight : MethodName := ⟨RX11, "wasRight", "()Z"⟩
abbrev cX11_inkBy : ByteArray := prog_13_method_25_code
def yX11_inkBy : MethodName := ⟨RX11, "inkBy", "(I)I"⟩
abbrev cX11_readInk : ByteArray := prog_13_method_26_code
def yX11_readInk : MethodName := ⟨RX11, "readInk", "()I"⟩
abbrev cX11_readPatch : ByteArray := prog_13_method_27_code
def yX11_readPatch : MethodName := ⟨RX11, "readPatch", "()I"⟩
abbrev cX11_readMeasure : ByteArray := prog_13_method_28_code
def yX11_readMeasure : MethodName := ⟨RX11, "readMeasure", "(I)V"⟩
abbrev cX11_putLight : ByteArray := prog_13_method_29_code
def yX11_putLight : MethodName := ⟨RX11, "putLight", "(IIII)V"⟩
abbrev cX11_patches : ByteArray := prog_13_method_30_code
def yX11_patches : MethodName := ⟨RX11, "patches", "()I"⟩
abbrev cX11_curve : ByteArray := prog_13_method_31_code
def yX11_curve : MethodName := ⟨RX11, "curve", "(I)I"⟩
abbrev cX11_readSteps : ByteArray := prog_13_method_32_code
def yX11_readSteps : MethodName := ⟨RX11, "readSteps", "(I)I"⟩
abbrev cX11_isStep : ByteArray := prog_13_method_33_code
def yX11_isStep : MethodName := ⟨RX11, "isStep", "(I)Z"⟩
abbrev cX11_isAround : ByteArray := prog_13_method_34_code
def yX11_isAround : MethodName := ⟨RX11, "isAround", "(I)Z"⟩
abbrev cX11_readStep : ByteArray := prog_13_method_35_code
def yX11_readStep : MethodName := ⟨RX11, "readStep", "(II)I"⟩
abbrev cX11_readWithin : ByteArray := prog_13_method_36_code
def yX11_readWithin : MethodName := ⟨RX11, "readWithin", "(I)I"⟩
abbrev cX11_link : ByteArray := prog_13_method_37_code
def yX11_link : MethodName := ⟨RX11, "link", "()I"⟩
abbrev cX11_picture : ByteArray := prog_13_method_38_code
def yX11_picture : MethodName := ⟨RX11, "picture", "()I"⟩
abbrev cX11_plainLight : ByteArray := prog_13_method_39_code
def yX11_plainLight : MethodName := ⟨RX11, "plainLight", "([IIII)I"⟩
abbrev cX11_reckoned : ByteArray := prog_13_method_40_code
def yX11_reckoned : MethodName := ⟨RX11, "reckoned", "([III)I"⟩
abbrev cX11_lightOf : ByteArray := prog_13_method_41_code
def yX11_lightOf : MethodName := ⟨RX11, "lightOf", "([III)I"⟩
abbrev cX11_light : ByteArray := prog_13_method_42_code
def yX11_light : MethodName := ⟨RX11, "light", "(II)I"⟩
abbrev cX11_bent : ByteArray := prog_13_method_43_code
def yX11_bent : MethodName := ⟨RX11, "bent", "(II)I"⟩
abbrev cX11_sheet : ByteArray := prog_13_method_44_code
def yX11_sheet : MethodName := ⟨RX11, "sheet", "(IIII)I"⟩
abbrev cX11_layWay : ByteArray := prog_13_method_45_code
def yX11_layWay : MethodName := ⟨RX11, "layWay", "(I)V"⟩
abbrev cX11_layColour : ByteArray := prog_13_method_46_code
def yX11_layColour : MethodName := ⟨RX11, "layColour", "(I[II)V"⟩
abbrev cX11_layLights : ByteArray := prog_13_method_47_code
def yX11_layLights : MethodName := ⟨RX11, "layLights", "([I)V"⟩
abbrev cX11_layColours : ByteArray := prog_13_method_48_code
def yX11_layColours : MethodName := ⟨RX11, "layColours", "([I)V"⟩
abbrev cX11_open : ByteArray := prog_13_method_49_code
def yX11_open : MethodName := ⟨RX11, "open", "(I)Z"⟩
abbrev cX11_apart : ByteArray := prog_13_method_50_code
def yX11_apart : MethodName := ⟨RX11, "apart", "(III[II)I"⟩
abbrev cX11_apartOf : ByteArray := prog_13_method_51_code
def yX11_apartOf : MethodName := ⟨RX11, "apartOf", "(IIII)I"⟩
abbrev cX11_between : ByteArray := prog_13_method_52_code
def yX11_between : MethodName := ⟨RX11, "between", "(II)I"⟩
abbrev cX11_isWanted : ByteArray := prog_13_method_53_code
def yX11_isWanted : MethodName := ⟨RX11, "isWanted", "(III)Z"⟩
abbrev cX11_colour : ByteArray := prog_13_method_54_code
def yX11_colour : MethodName := ⟨RX11, "colour", "(I)I"⟩
abbrev cX11_take : ByteArray := prog_13_method_55_code
def yX11_take : MethodName := ⟨RX11, "take", "(I)V"⟩
abbrev cX11_codeNow : ByteArray := prog_13_method_56_code
def yX11_codeNow : MethodName := ⟨RX11, "codeNow", "()I"⟩
abbrev cX11_limit : ByteArray := prog_13_method_57_code
def yX11_limit : MethodName := ⟨RX11, "limit", "(I)V"⟩
abbrev cX11_limited : ByteArray := prog_13_method_58_code
def yX11_limited : MethodName := ⟨RX11, "limited", "(II)I"⟩
abbrev cX11_leastOf : ByteArray := prog_13_method_59_code
def yX11_leastOf : MethodName := ⟨RX11, "leastOf", "(III)I"⟩
abbrev cX11_matchOf : ByteArray := prog_13_method_60_code
def yX11_matchOf : MethodName := ⟨RX11, "matchOf", "(III)I"⟩
abbrev cX11_isBetter : ByteArray := prog_13_method_61_code
def yX11_isBetter : MethodName := ⟨RX11, "isBetter", "(III)Z"⟩
abbrev cX11_match : ByteArray := prog_13_method_62_code
def yX11_match : MethodName := ⟨RX11, "match", "(III)I"⟩
abbrev cX11_layFold : ByteArray := prog_13_method_63_code
def yX11_layFold : MethodName := ⟨RX11, "layFold", "(IIII)V"⟩
abbrev cX11_foldOf : ByteArray := prog_13_method_64_code
def yX11_foldOf : MethodName := ⟨RX11, "foldOf", "(III)I"⟩
abbrev cX11_fold : ByteArray := prog_13_method_65_code
def yX11_fold : MethodName := ⟨RX11, "fold", "(III)I"⟩
abbrev cX11_closing : ByteArray := prog_13_method_66_code
def yX11_closing : MethodName := ⟨RX11, "closing", "([III)I"⟩
abbrev cX11_more : ByteArray := prog_13_method_67_code
def yX11_more : MethodName := ⟨RX11, "more", "(II)V"⟩
abbrev cX11_goes : ByteArray := prog_13_method_68_code
def yX11_goes : MethodName := ⟨RX11, "goes", "(III)V"⟩
abbrev cX11_timesOf : ByteArray := prog_13_method_69_code
def yX11_timesOf : MethodName := ⟨RX11, "timesOf", "(II)I"⟩
abbrev cX11_does : ByteArray := prog_13_method_70_code
def yX11_does : MethodName := ⟨RX11, "does", "(III)V"⟩
abbrev cX11_trade : ByteArray := prog_13_method_71_code
def yX11_trade : MethodName := ⟨RX11, "trade", "(I)V"⟩
abbrev cX11_doesOne : ByteArray := prog_13_method_72_code
def yX11_doesOne : MethodName := ⟨RX11, "doesOne", "(III)V"⟩
abbrev cX11_linked : ByteArray := prog_13_method_73_code
def yX11_linked : MethodName := ⟨RX11, "linked", "(I)I"⟩
abbrev cX11_prints : ByteArray := prog_13_method_74_code
def yX11_prints : MethodName := ⟨RX11, "prints", "(III)I"⟩
abbrev cX11_through : ByteArray := prog_13_method_75_code
def yX11_through : MethodName := ⟨RX11, "through", "(I)I"⟩
abbrev cX11_sources : ByteArray := prog_13_method_76_code
def yX11_sources : MethodName := ⟨RX11, "sources", "(I)I"⟩
abbrev cX11_rounds : ByteArray := prog_13_method_77_code
def yX11_rounds : MethodName := ⟨RX11, "rounds", "(I)I"⟩
abbrev cX11_ramp : ByteArray := prog_13_method_78_code
def yX11_ramp : MethodName := ⟨RX11, "ramp", "(II)I"⟩
abbrev cX11_layWays : ByteArray := prog_13_method_79_code
def yX11_layWays : MethodName := ⟨RX11, "layWays", "(II)V"⟩
abbrev cX11_neighbour : ByteArray := prog_13_method_80_code
def yX11_neighbour : MethodName := ⟨RX11, "neighbour", "(II)I"⟩
abbrev cX11_way : ByteArray := prog_13_method_81_code
def yX11_way : MethodName := ⟨RX11, "way", "(III)I"⟩
abbrev cX11_risesOf : ByteArray := prog_13_method_82_code
def yX11_risesOf : MethodName := ⟨RX11, "risesOf", "([II)I"⟩
abbrev cX11_rises : ByteArray := prog_13_method_83_code
def yX11_rises : MethodName := ⟨RX11, "rises", "(I)I"⟩
abbrev cX11_reach : ByteArray := prog_13_method_84_code
def yX11_reach : MethodName := ⟨RX11, "reach", "(I)I"⟩
abbrev cX11_sort : ByteArray := prog_13_method_85_code
def yX11_sort : MethodName := ⟨RX11, "sort", "(I)V"⟩
abbrev cX11_spread : ByteArray := prog_13_method_86_code
def yX11_spread : MethodName := ⟨RX11, "spread", "()I"⟩
abbrev cX11_common : ByteArray := prog_13_method_87_code
def yX11_common : MethodName := ⟨RX11, "common", "(JJ)J"⟩
abbrev cX11_odds : ByteArray := prog_13_method_88_code
def yX11_odds : MethodName := ⟨RX11, "odds", "(IIII)I"⟩
abbrev cX11_cells : ByteArray := prog_13_method_89_code
def yX11_cells : MethodName := ⟨RX11, "cells", "()I"⟩
abbrev cX11_within : ByteArray := prog_13_method_90_code
def yX11_within : MethodName := ⟨RX11, "within", "(I)I"⟩
abbrev cX11_sameAhead : ByteArray := prog_13_method_91_code
def yX11_sameAhead : MethodName := ⟨RX11, "sameAhead", "(I)I"⟩
abbrev cX11_layPress : ByteArray := prog_13_method_92_code
def yX11_layPress : MethodName := ⟨RX11, "layPress", "(I)V"⟩
abbrev cX11_press : ByteArray := prog_13_method_93_code
def yX11_press : MethodName := ⟨RX11, "press", "(I)I"⟩
abbrev cX11_cell : ByteArray := prog_13_method_94_code
def yX11_cell : MethodName := ⟨RX11, "cell", "(II)I"⟩
abbrev cX11_slips : ByteArray := prog_13_method_95_code
def yX11_slips : MethodName := ⟨RX11, "slips", "(III)I"⟩
abbrev cX11_greys : ByteArray := prog_13_method_96_code
def yX11_greys : MethodName := ⟨RX11, "greys", "(II)I"⟩
abbrev cX11_spanOf : ByteArray := prog_13_method_97_code
def yX11_spanOf : MethodName := ⟨RX11, "spanOf", "(I)I"⟩
abbrev cX11_sumOf : ByteArray := prog_13_method_98_code
def yX11_sumOf : MethodName := ⟨RX11, "sumOf", "(I)I"⟩
abbrev cX11_rankOf : ByteArray := prog_13_method_99_code
def yX11_rankOf : MethodName := ⟨RX11, "rankOf", "(II)I"⟩
abbrev cX11_replaces : ByteArray := prog_13_method_100_code
def yX11_replaces : MethodName := ⟨RX11, "replaces", "(III)I"⟩
abbrev cX11_doubt : ByteArray := prog_13_method_101_code
def yX11_doubt : MethodName := ⟨RX11, "doubt", "()I"⟩
abbrev cX11_asks : ByteArray := prog_13_method_102_code
def yX11_asks : MethodName := ⟨RX11, "asks", "()I"⟩
abbrev cX11_layTheirs : ByteArray := prog_13_method_103_code
def yX11_layTheirs : MethodName := ⟨RX11, "layTheirs", "(I)V"⟩
abbrev cX11_other : ByteArray := prog_13_method_104_code
def yX11_other : MethodName := ⟨RX11, "other", "(I)I"⟩
abbrev cX11_carry : ByteArray := prog_13_method_105_code
def yX11_carry : MethodName := ⟨RX11, "carry", "(II)I"⟩
abbrev cX11_draw : ByteArray := prog_13_method_106_code
def yX11_draw : MethodName := ⟨RX11, "draw", "(I)I"⟩
abbrev cX11_drifts : ByteArray := prog_13_method_107_code
def yX11_drifts : MethodName := ⟨RX11, "drifts", "(II)I"⟩
abbrev cX11_change : ByteArray := prog_13_method_108_code
def yX11_change : MethodName := ⟨RX11, "change", "()V"⟩
abbrev cX11_note : ByteArray := prog_13_method_109_code
def yX11_note : MethodName := ⟨RX11, "note", "()V"⟩
abbrev cX11_measured : ByteArray := prog_13_method_110_code
def yX11_measured : MethodName := ⟨RX11, "measured", "()I"⟩
abbrev cX11_measure : ByteArray := prog_13_method_111_code
def yX11_measure : MethodName := ⟨RX11, "measure", "(IIII)I"⟩
abbrev cX11_forgets : ByteArray := prog_13_method_112_code
def yX11_forgets : MethodName := ⟨RX11, "forgets", "(I)I"⟩
abbrev cX11_refusesSet : ByteArray := prog_13_method_113_code
def yX11_refusesSet : MethodName := ⟨RX11, "refusesSet", "(II)I"⟩
abbrev cX11_sets : ByteArray := prog_13_method_114_code
def yX11_sets : MethodName := ⟨RX11, "sets", "(II)I"⟩
abbrev cX11_paint : ByteArray := prog_13_method_115_code
def yX11_paint : MethodName := ⟨RX11, "paint", "(IIII)V"⟩
abbrev cX11_paints : ByteArray := prog_13_method_116_code
def yX11_paints : MethodName := ⟨RX11, "paints", "(IIII)I"⟩
abbrev cX11_readAct : ByteArray := prog_13_method_117_code
def yX11_readAct : MethodName := ⟨RX11, "readAct", "(I)V"⟩
abbrev cX11_set : ByteArray := prog_13_method_118_code
def yX11_set : MethodName := ⟨RX11, "set", "(II)Z"⟩
abbrev cX11_act : ByteArray := prog_13_method_119_code
def yX11_act : MethodName := ⟨RX11, "act", "(I)Z"⟩
abbrev cX11_day : ByteArray := prog_13_method_120_code
def yX11_day : MethodName := ⟨RX11, "day", "()I"⟩
abbrev cX11_undo : ByteArray := prog_13_method_121_code
def yX11_undo : MethodName := ⟨RX11, "undo", "()I"⟩
abbrev cX11_keep : ByteArray := prog_13_method_122_code
def yX11_keep : MethodName := ⟨RX11, "keep", "(I)Z"⟩
abbrev cX11_again : ByteArray := prog_13_method_123_code
def yX11_again : MethodName := ⟨RX11, "again", "(I)Z"⟩
abbrev cX11_count : ByteArray := prog_13_method_124_code
def yX11_count : MethodName := ⟨RX11, "count", "(I)I"⟩
abbrev cX11_row : ByteArray := prog_13_method_125_code
def yX11_row : MethodName := ⟨RX11, "row", "(I)J"⟩
def RJx145de : String := "java/io/Serializable"
def TJx145de : u_T := fun k => match k with
  | _ => ("", "", "", false)
def tyJx145de : Nat → FieldType := fun k => match k with
  | _ => .int
theorem nmJx145de : ∀ a, a < 0 → ∀ b, b < 0 → a ≠ b → (TJx145de a).2.1 ≠ (TJx145de b).2.1 := by decide +kernel
theorem tyJx145de_ok : ∀ k, k < 0 → parseFieldDescriptor (TJx145de k).2.2.1 = some (tyJx145de k) := by decide +kernel
def RJx9f9b0 : String := "java/lang/CharSequence"
def TJx9f9b0 : u_T := fun k => match k with
  | _ => ("", "", "", false)
def tyJx9f9b0 : Nat → FieldType := fun k => match k with
  | _ => .int
theorem nmJx9f9b0 : ∀ a, a < 0 → ∀ b, b < 0 → a ≠ b → (TJx9f9b0 a).2.1 ≠ (TJx9f9b0 b).2.1 := by decide +kernel
theorem tyJx9f9b0_ok : ∀ k, k < 0 → parseFieldDescriptor (TJx9f9b0 k).2.2.1 = some (tyJx9f9b0 k) := by decide +kernel
def RJ11 : String := "java/lang/Character"
def TJ11 : u_T := fun k => match k with
  | _ => ("", "", "", false)
def tyJ11 : Nat → FieldType := fun k => match k with
  | _ => .int
theorem nmJ11 : ∀ a, a < 0 → ∀ b, b < 0 → a ≠ b → (TJ11 a).2.1 ≠ (TJ11 b).2.1 := by decide +kernel
theorem tyJ11_ok : ∀ k, k < 0 → parseFieldDescriptor (TJ11 k).2.2.1 = some (tyJ11 k) := by decide +kernel
abbrev cJ11_isValidCodePoint_9a6ad : ByteArray := prog_16_method_11_code
def yJ11_isValidCodePoint_9a6ad : MethodName := ⟨RJ11, "isValidCodePoint", "(I)Z"⟩
abbrev cJ11_highSurrogate_5068e : ByteArray := prog_16_method_28_code
def yJ11_highSurrogate_5068e : MethodName := ⟨RJ11, "highSurrogate", "(I)C"⟩
abbrev cJ11_lowSurrogate_5068e : ByteArray := prog_16_method_29_code
def yJ11_lowSurrogate_5068e : MethodName := ⟨RJ11, "lowSurrogate", "(I)C"⟩
def RJxb160c : String := "java/lang/Comparable"
def TJxb160c : u_T := fun k => match k with
  | _ => ("", "", "", false)
def tyJxb160c : Nat → FieldType := fun k => match k with
  | _ => .int
theorem nmJxb160c : ∀ a, a < 0 → ∀ b, b < 0 → a ≠ b → (TJxb160c a).2.1 ≠ (TJxb160c b).2.1 := by decide +kernel
theorem tyJxb160c_ok : ∀ k, k < 0 → parseFieldDescriptor (TJxb160c k).2.2.1 = some (tyJxb160c k) := by decide +kernel
def RJ9 : String := "java/lang/Math"
def TJ9 : u_T := fun k => match k with
  | _ => ("", "", "", false)
def tyJ9 : Nat → FieldType := fun k => match k with
  | _ => .int
theorem nmJ9 : ∀ a, a < 0 → ∀ b, b < 0 → a ≠ b → (TJ9 a).2.1 ≠ (TJ9 b).2.1 := by decide +kernel
theorem tyJ9_ok : ∀ k, k < 0 → parseFieldDescriptor (TJ9 k).2.2.1 = some (tyJ9 k) := by decide +kernel
abbrev cJ9_abs_0f7a4 : ByteArray := prog_19_method_59_code
def yJ9_abs_0f7a4 : MethodName := ⟨RJ9, "abs", "(I)I"⟩
abbrev cJ9_max_7cf53 : ByteArray := prog_19_method_65_code
def yJ9_max_7cf53 : MethodName := ⟨RJ9, "max", "(II)I"⟩
abbrev cJ9_min_7cf53 : ByteArray := prog_19_method_69_code
def yJ9_min_7cf53 : MethodName := ⟨RJ9, "min", "(II)I"⟩
def RJ0 : String := "java/lang/String"
def TJ0 : u_T := fun k => match k with
  | _ => ("", "", "", false)
def tyJ0 : Nat → FieldType := fun k => match k with
  | _ => .int
theorem nmJ0 : ∀ a, a < 0 → ∀ b, b < 0 → a ≠ b → (TJ0 a).2.1 ≠ (TJ0 b).2.1 := by decide +kernel
theorem tyJ0_ok : ∀ k, k < 0 → parseFieldDescriptor (TJ0 k).2.2.1 = some (tyJ0 k) := by decide +kernel
abbrev cJ0_length_8abf5 : ByteArray := prog_21_method_54_code
def yJ0_length_8abf5 : MethodName := ⟨RJ0, "length", "()I"⟩
abbrev cJ0_isEmpty_aae02 : ByteArray := prog_21_method_55_code
def yJ0_isEmpty_aae02 : MethodName := ⟨RJ0, "isEmpty", "()Z"⟩
abbrev cJ0_charAt_5068e : ByteArray := prog_21_method_56_code
def yJ0_charAt_5068e : MethodName := ⟨RJ0, "charAt", "(I)C"⟩
abbrev cJ0_indexOf_0f7a4 : ByteArray := prog_21_method_79_code
def yJ0_indexOf_0f7a4 : MethodName := ⟨RJ0, "indexOf", "(I)I"⟩
abbrev cJ0_indexOf_7cf53 : ByteArray := prog_21_method_80_code
def yJ0_indexOf_7cf53 : MethodName := ⟨RJ0, "indexOf", "(II)I"⟩
abbrev cJ0_coder_7d493 : ByteArray := prog_21_method_152_code
def yJ0_coder_7d493 : MethodName := ⟨RJ0, "coder", "()B"⟩
abbrev cJ0_isLatin1_aae02 : ByteArray := prog_21_method_154_code
def yJ0_isLatin1_aae02 : MethodName := ⟨RJ0, "isLatin1", "()Z"⟩
abbrev cJ0_checkIndex_df160 : ByteArray := prog_21_method_155_code
def yJ0_checkIndex_df160 : MethodName := ⟨RJ0, "checkIndex", "(II)V"⟩
abbrev cJ0_checkBoundsBeginEnd_23922 : ByteArray := prog_21_method_158_code
def yJ0_checkBoundsBeginEnd_23922 : MethodName := ⟨RJ0, "checkBoundsBeginEnd", "(III)V"⟩
def RJ1 : String := "java/lang/StringLatin1"
def TJ1 : u_T := fun k => match k with
  | _ => ("", "", "", false)
def tyJ1 : Nat → FieldType := fun k => match k with
  | _ => .int
theorem nmJ1 : ∀ a, a < 0 → ∀ b, b < 0 → a ≠ b → (TJ1 a).2.1 ≠ (TJ1 b).2.1 := by decide +kernel
theorem tyJ1_ok : ∀ k, k < 0 → parseFieldDescriptor (TJ1 k).2.2.1 = some (tyJ1 k) := by decide +kernel
abbrev cJ1_charAt_3b067 : ByteArray := prog_22_method_2_code
def yJ1_charAt_3b067 : MethodName := ⟨RJ1, "charAt", "([BI)C"⟩
abbrev cJ1_canEncode_9a6ad : ByteArray := prog_22_method_4_code
def yJ1_canEncode_9a6ad : MethodName := ⟨RJ1, "canEncode", "(I)Z"⟩
abbrev cJ1_indexOf_4cfef : ByteArray := prog_22_method_22_code
def yJ1_indexOf_4cfef : MethodName := ⟨RJ1, "indexOf", "([BIII)I"⟩
abbrev cJ1_indexOfChar_4cfef : ByteArray := prog_22_method_23_code
def yJ1_indexOfChar_4cfef : MethodName := ⟨RJ1, "indexOfChar", "([BIII)I"⟩
def RJ2 : String := "java/lang/StringUTF16"
def TJ2 : u_T := fun k => match k with
  | _ => ("", "", "", false)
def tyJ2 : Nat → FieldType := fun k => match k with
  | _ => .int
theorem nmJ2 : ∀ a, a < 0 → ∀ b, b < 0 → a ≠ b → (TJ2 a).2.1 ≠ (TJ2 b).2.1 := by decide +kernel
theorem tyJ2_ok : ∀ k, k < 0 → parseFieldDescriptor (TJ2 k).2.2.1 = some (tyJ2 k) := by decide +kernel
abbrev cJ2_getChar_3b067 : ByteArray := prog_23_method_5_code
def yJ2_getChar_3b067 : MethodName := ⟨RJ2, "getChar", "([BI)C"⟩
abbrev cJ2_length_9d52b : ByteArray := prog_23_method_6_code
def yJ2_length_9d52b : MethodName := ⟨RJ2, "length", "([B)I"⟩
abbrev cJ2_indexOf_4cfef : ByteArray := prog_23_method_40_code
def yJ2_indexOf_4cfef : MethodName := ⟨RJ2, "indexOf", "([BIII)I"⟩
abbrev cJ2_indexOfChar_4cfef : ByteArray := prog_23_method_47_code
def yJ2_indexOfChar_4cfef : MethodName := ⟨RJ2, "indexOfChar", "([BIII)I"⟩
abbrev cJ2_indexOfCharUnsafe_4cfef : ByteArray := prog_23_method_48_code
def yJ2_indexOfCharUnsafe_4cfef : MethodName := ⟨RJ2, "indexOfCharUnsafe", "([BIII)I"⟩
abbrev cJ2_indexOfSupplementary_4cfef : ByteArray := prog_23_method_49_code
def yJ2_indexOfSupplementary_4cfef : MethodName := ⟨RJ2, "indexOfSupplementary", "([BIII)I"⟩
abbrev cJ2_charAt_3b067 : ByteArray := prog_23_method_83_code
def yJ2_charAt_3b067 : MethodName := ⟨RJ2, "charAt", "([BI)C"⟩
abbrev cJ2_checkIndex_2214a : ByteArray := prog_23_method_91_code
def yJ2_checkIndex_2214a : MethodName := ⟨RJ2, "checkIndex", "(I[B)V"⟩
abbrev cJ2_checkBoundsBeginEnd_d044e : ByteArray := prog_23_method_93_code
def yJ2_checkBoundsBeginEnd_d044e : MethodName := ⟨RJ2, "checkBoundsBeginEnd", "(II[B)V"⟩
def RJ10 : String := "java/lang/System"
def TJ10 : u_T := fun k => match k with
  | _ => ("", "", "", false)
def tyJ10 : Nat → FieldType := fun k => match k with
  | _ => .int
theorem nmJ10 : ∀ a, a < 0 → ∀ b, b < 0 → a ≠ b → (TJ10 a).2.1 ≠ (TJ10 b).2.1 := by decide +kernel
theorem tyJ10_ok : ∀ k, k < 0 → parseFieldDescriptor (TJ10 k).2.2.1 = some (tyJ10 k) := by decide +kernel
def RJxfd54e : String := "java/lang/constant/Constable"
def TJxfd54e : u_T := fun k => match k with
  | _ => ("", "", "", false)
def tyJxfd54e : Nat → FieldType := fun k => match k with
  | _ => .int
theorem nmJxfd54e : ∀ a, a < 0 → ∀ b, b < 0 → a ≠ b → (TJxfd54e a).2.1 ≠ (TJxfd54e b).2.1 := by decide +kernel
theorem tyJxfd54e_ok : ∀ k, k < 0 → parseFieldDescriptor (TJxfd54e k).2.2.1 = some (tyJxfd54e k) := by decide +kernel
def RJx3cf43 : String := "java/lang/constant/ConstantDesc"
def TJx3cf43 : u_T := fun k => match k with
  | _ => ("", "", "", false)
def tyJx3cf43 : Nat → FieldType := fun k => match k with
  | _ => .int
theorem nmJx3cf43 : ∀ a, a < 0 → ∀ b, b < 0 → a ≠ b → (TJx3cf43 a).2.1 ≠ (TJx3cf43 b).2.1 := by decide +kernel
theorem tyJx3cf43_ok : ∀ k, k < 0 → parseFieldDescriptor (TJx3cf43 k).2.2.1 = some (tyJx3cf43 k) := by decide +kernel
def RJ7 : String := "java/util/Arrays"
def TJ7 : u_T := fun k => match k with
  | _ => ("", "", "", false)
def tyJ7 : Nat → FieldType := fun k => match k with
  | _ => .int
theorem nmJ7 : ∀ a, a < 0 → ∀ b, b < 0 → a ≠ b → (TJ7 a).2.1 ≠ (TJ7 b).2.1 := by decide +kernel
theorem tyJ7_ok : ∀ k, k < 0 → parseFieldDescriptor (TJ7 k).2.2.1 = some (tyJ7 k) := by decide +kernel
abbrev cJ7_fill_53178 : ByteArray := prog_28_method_103_code
def yJ7_fill_53178 : MethodName := ⟨RJ7, "fill", "([II)V"⟩
def RJ3 : String := "jdk/internal/util/Preconditions"
def TJ3 : u_T := fun k => match k with
  | _ => ("", "", "", false)
def tyJ3 : Nat → FieldType := fun k => match k with
  | _ => .int
theorem nmJ3 : ∀ a, a < 0 → ∀ b, b < 0 → a ≠ b → (TJ3 a).2.1 ≠ (TJ3 b).2.1 := by decide +kernel
theorem tyJ3_ok : ∀ k, k < 0 → parseFieldDescriptor (TJ3 k).2.2.1 = some (tyJ3 k) := by decide +kernel
abbrev cJ3_checkIndex_8e157 : ByteArray := prog_30_method_11_code
def yJ3_checkIndex_8e157 : MethodName := ⟨RJ3, "checkIndex", "(IILjava/util/function/BiFunction;)I"⟩
abbrev cJ3_checkFromToIndex_8c36e : ByteArray := prog_30_method_12_code
def yJ3_checkFromToIndex_8c36e : MethodName := ⟨RJ3, "checkFromToIndex", "(IIILjava/util/function/BiFunction;)I"⟩
def RL : String := "InkFoldsLaw"
abbrev cL_light : ByteArray := method_3_code
def yL_light : MethodName := ⟨RL, "light", "(LInkFolds;II[J)I"⟩
abbrev cL_bent : ByteArray := method_4_code
def yL_bent : MethodName := ⟨RL, "bent", "(LInkFolds;II[J)I"⟩
abbrev cL_row : ByteArray := method_5_code
def yL_row : MethodName := ⟨RL, "row", "(LInkFolds;I[J)I"⟩
abbrev cL_law : ByteArray := code
def yL_law : MethodName := ⟨RL, "law", "([I)Z"⟩
abbrev vwCl : List vw_C := [(RX0, TX0, 5), (RX1, TX1, 3), (RX2, TX2, 1), (RX3, TX3, 3), (RX4, TX4, 9), (RX5, TX5, 3), (RX6, TX6, 2), (RX7, TX7, 9), (RX8, TX8, 6), (RX9, TX9, 2), (RX10, TX10, 15), (RX11, TX11, 45)]
