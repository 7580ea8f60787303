section
-- ===== PART A: goes FIRST, ahead of the names: the tables' words, and 'selects' of the private methods out of them =====
/-- a private method of a class that the tables say can be made, by its rows of tables_1 -/
def lw_okq (q : MethodName × Nat) : Prop := (q.1.cls ≠ "java/lang/invoke/MethodHandle" ∧ q.1.cls ≠ "java/lang/invoke/VarHandle") ∧ Cond.instantiable q.1.cls q.2 ∈ tables_1 ∧ Cond.privateMethod q.1 ∈ tables_1 ∧ Cond.instanceMethod q.1 ∈ tables_1
theorem lw_p0 : lw_okq (⟨"QuasiSums$Order", "countEndings", "()V"⟩, 3) := ⟨⟨by decide +kernel, by decide +kernel⟩, List.mem_of_getElem? (i := 38) (by decide +kernel), List.mem_of_getElem? (i := 53) (by decide +kernel), List.mem_of_getElem? (i := 54) (by decide +kernel)⟩
theorem lw_p1 : lw_okq (⟨"QuasiSums$Order", "waysBehind", "(II)I"⟩, 3) := ⟨⟨by decide +kernel, by decide +kernel⟩, List.mem_of_getElem? (i := 38) (by decide +kernel), List.mem_of_getElem? (i := 57) (by decide +kernel), List.mem_of_getElem? (i := 58) (by decide +kernel)⟩
theorem lw_p2 : lw_okq (⟨"QuasiSums", "become", "(ILQuasiSums$Sum;)V"⟩, 10) := ⟨⟨by decide +kernel, by decide +kernel⟩, List.mem_of_getElem? (i := 28) (by decide +kernel), List.mem_of_getElem? (i := 174) (by decide +kernel), List.mem_of_getElem? (i := 175) (by decide +kernel)⟩
theorem lw_p3 : lw_okq (⟨"java/util/ArrayList", "add", "(Ljava/lang/Object;[Ljava/lang/Object;I)V"⟩, 3) := ⟨⟨by decide +kernel, by decide +kernel⟩, List.mem_of_getElem? (i := 88) (by decide +kernel), List.mem_of_getElem? (i := 201) (by decide +kernel), List.mem_of_getElem? (i := 202) (by decide +kernel)⟩
theorem lw_p4 : lw_okq (⟨"java/util/ArrayList", "grow", "()[Ljava/lang/Object;"⟩, 3) := ⟨⟨by decide +kernel, by decide +kernel⟩, List.mem_of_getElem? (i := 88) (by decide +kernel), List.mem_of_getElem? (i := 205) (by decide +kernel), List.mem_of_getElem? (i := 206) (by decide +kernel)⟩
theorem lw_p5 : lw_okq (⟨"java/util/ArrayList", "grow", "(I)[Ljava/lang/Object;"⟩, 3) := ⟨⟨by decide +kernel, by decide +kernel⟩, List.mem_of_getElem? (i := 88) (by decide +kernel), List.mem_of_getElem? (i := 209) (by decide +kernel), List.mem_of_getElem? (i := 210) (by decide +kernel)⟩
theorem lw_p6 : lw_okq (⟨"java/util/ArrayList", "fastRemove", "([Ljava/lang/Object;I)V"⟩, 3) := ⟨⟨by decide +kernel, by decide +kernel⟩, List.mem_of_getElem? (i := 88) (by decide +kernel), List.mem_of_getElem? (i := 266) (by decide +kernel), List.mem_of_getElem? (i := 267) (by decide +kernel)⟩
theorem lw_p7 : lw_okq (⟨"QuasiSums", "isNumber", "(II)Z"⟩, 10) := ⟨⟨by decide +kernel, by decide +kernel⟩, List.mem_of_getElem? (i := 28) (by decide +kernel), List.mem_of_getElem? (i := 275) (by decide +kernel), List.mem_of_getElem? (i := 276) (by decide +kernel)⟩
theorem lw_p8 : lw_okq (⟨"QuasiSums$Sum", "twin", "()LQuasiSums$Sum;"⟩, 2) := ⟨⟨by decide +kernel, by decide +kernel⟩, List.mem_of_getElem? (i := 114) (by decide +kernel), List.mem_of_getElem? (i := 283) (by decide +kernel), List.mem_of_getElem? (i := 284) (by decide +kernel)⟩
theorem lw_p9 : lw_okq (⟨"QuasiSums$Sum", "comesToFiner", "(IJLQuasiSums$Longs;)V"⟩, 2) := ⟨⟨by decide +kernel, by decide +kernel⟩, List.mem_of_getElem? (i := 114) (by decide +kernel), List.mem_of_getElem? (i := 322) (by decide +kernel), List.mem_of_getElem? (i := 323) (by decide +kernel)⟩
theorem lw_p10 : lw_okq (⟨"QuasiSums$Sum", "comes", "(IJLQuasiSums$Longs;)V"⟩, 2) := ⟨⟨by decide +kernel, by decide +kernel⟩, List.mem_of_getElem? (i := 114) (by decide +kernel), List.mem_of_getElem? (i := 329) (by decide +kernel), List.mem_of_getElem? (i := 330) (by decide +kernel)⟩
theorem lw_p11 : lw_okq (⟨"QuasiSums$Longs", "tooGreat", "(I)V"⟩, 2) := ⟨⟨by decide +kernel, by decide +kernel⟩, List.mem_of_getElem? (i := 303) (by decide +kernel), List.mem_of_getElem? (i := 337) (by decide +kernel), List.mem_of_getElem? (i := 338) (by decide +kernel)⟩
theorem lw_p12 : lw_okq (⟨"QuasiSums", "settle", "(ILQuasiSums$Sum;LQuasiSums$Longs;)I"⟩, 10) := ⟨⟨by decide +kernel, by decide +kernel⟩, List.mem_of_getElem? (i := 28) (by decide +kernel), List.mem_of_getElem? (i := 341) (by decide +kernel), List.mem_of_getElem? (i := 342) (by decide +kernel)⟩
theorem lw_p13 : lw_okq (⟨"QuasiSums", "tellOver", "(LQuasiSums$Longs;)V"⟩, 10) := ⟨⟨by decide +kernel, by decide +kernel⟩, List.mem_of_getElem? (i := 28) (by decide +kernel), List.mem_of_getElem? (i := 345) (by decide +kernel), List.mem_of_getElem? (i := 346) (by decide +kernel)⟩
theorem lw_p14 : lw_okq (⟨"QuasiSums", "answer", "(JLQuasiSums$Longs;)J"⟩, 10) := ⟨⟨by decide +kernel, by decide +kernel⟩, List.mem_of_getElem? (i := 28) (by decide +kernel), List.mem_of_getElem? (i := 390) (by decide +kernel), List.mem_of_getElem? (i := 391) (by decide +kernel)⟩
theorem lw_p15 : lw_okq (⟨"QuasiSums", "allInFloats", "()F"⟩, 10) := ⟨⟨by decide +kernel, by decide +kernel⟩, List.mem_of_getElem? (i := 28) (by decide +kernel), List.mem_of_getElem? (i := 582) (by decide +kernel), List.mem_of_getElem? (i := 583) (by decide +kernel)⟩
def lw_privs_1 : List (MethodName × Nat) := [(⟨"QuasiSums$Order", "countEndings", "()V"⟩, 3), (⟨"QuasiSums$Order", "waysBehind", "(II)I"⟩, 3), (⟨"QuasiSums", "become", "(ILQuasiSums$Sum;)V"⟩, 10), (⟨"java/util/ArrayList", "add", "(Ljava/lang/Object;[Ljava/lang/Object;I)V"⟩, 3), (⟨"java/util/ArrayList", "grow", "()[Ljava/lang/Object;"⟩, 3), (⟨"java/util/ArrayList", "grow", "(I)[Ljava/lang/Object;"⟩, 3), (⟨"java/util/ArrayList", "fastRemove", "([Ljava/lang/Object;I)V"⟩, 3), (⟨"QuasiSums", "isNumber", "(II)Z"⟩, 10), (⟨"QuasiSums$Sum", "twin", "()LQuasiSums$Sum;"⟩, 2), (⟨"QuasiSums$Sum", "comesToFiner", "(IJLQuasiSums$Longs;)V"⟩, 2), (⟨"QuasiSums$Sum", "comes", "(IJLQuasiSums$Longs;)V"⟩, 2), (⟨"QuasiSums$Longs", "tooGreat", "(I)V"⟩, 2), (⟨"QuasiSums", "settle", "(ILQuasiSums$Sum;LQuasiSums$Longs;)I"⟩, 10), (⟨"QuasiSums", "tellOver", "(LQuasiSums$Longs;)V"⟩, 10), (⟨"QuasiSums", "answer", "(JLQuasiSums$Longs;)J"⟩, 10), (⟨"QuasiSums", "allInFloats", "()F"⟩, 10)]
theorem lw_r1 : ∀ q ∈ lw_privs_1, lw_okq q := List.forall_mem_cons.mpr ⟨lw_p0, List.forall_mem_cons.mpr ⟨lw_p1, List.forall_mem_cons.mpr ⟨lw_p2, List.forall_mem_cons.mpr ⟨lw_p3, List.forall_mem_cons.mpr ⟨lw_p4, List.forall_mem_cons.mpr ⟨lw_p5, List.forall_mem_cons.mpr ⟨lw_p6, List.forall_mem_cons.mpr ⟨lw_p7, List.forall_mem_cons.mpr ⟨lw_p8, List.forall_mem_cons.mpr ⟨lw_p9, List.forall_mem_cons.mpr ⟨lw_p10, List.forall_mem_cons.mpr ⟨lw_p11, List.forall_mem_cons.mpr ⟨lw_p12, List.forall_mem_cons.mpr ⟨lw_p13, List.forall_mem_cons.mpr ⟨lw_p14, List.forall_mem_cons.mpr ⟨lw_p15, fun _ h => absurd h List.not_mem_nil⟩⟩⟩⟩⟩⟩⟩⟩⟩⟩⟩⟩⟩⟩⟩⟩
theorem lw_p16 : lw_okq (⟨"QuasiSums", "allInDoubles", "()D"⟩, 10) := ⟨⟨by decide +kernel, by decide +kernel⟩, List.mem_of_getElem? (i := 28) (by decide +kernel), List.mem_of_getElem? (i := 586) (by decide +kernel), List.mem_of_getElem? (i := 587) (by decide +kernel)⟩
theorem lw_p17 : lw_okq (⟨"QuasiSums", "fetchSum", "(LQuasiSums$Item;I)I"⟩, 10) := ⟨⟨by decide +kernel, by decide +kernel⟩, List.mem_of_getElem? (i := 28) (by decide +kernel), List.mem_of_getElem? (i := 621) (by decide +kernel), List.mem_of_getElem? (i := 622) (by decide +kernel)⟩
theorem lw_p18 : lw_okq (⟨"QuasiSums", "fetchRow", "(LQuasiSums$Item;I)I"⟩, 10) := ⟨⟨by decide +kernel, by decide +kernel⟩, List.mem_of_getElem? (i := 28) (by decide +kernel), List.mem_of_getElem? (i := 625) (by decide +kernel), List.mem_of_getElem? (i := 626) (by decide +kernel)⟩
theorem lw_p19 : lw_okq (⟨"QuasiSums$Reader", "readTerm", "(Z)Z"⟩, 5) := ⟨⟨by decide +kernel, by decide +kernel⟩, List.mem_of_getElem? (i := 679) (by decide +kernel), List.mem_of_getElem? (i := 711) (by decide +kernel), List.mem_of_getElem? (i := 712) (by decide +kernel)⟩
theorem lw_p20 : lw_okq (⟨"QuasiSums$Reader", "readTimes", "()I"⟩, 5) := ⟨⟨by decide +kernel, by decide +kernel⟩, List.mem_of_getElem? (i := 679) (by decide +kernel), List.mem_of_getElem? (i := 715) (by decide +kernel), List.mem_of_getElem? (i := 716) (by decide +kernel)⟩
theorem lw_p21 : lw_okq (⟨"QuasiSums$Reader", "figure", "()I"⟩, 5) := ⟨⟨by decide +kernel, by decide +kernel⟩, List.mem_of_getElem? (i := 679) (by decide +kernel), List.mem_of_getElem? (i := 719) (by decide +kernel), List.mem_of_getElem? (i := 720) (by decide +kernel)⟩
theorem lw_p22 : lw_okq (⟨"QuasiSums$Reader", "sees", "(C)Z"⟩, 5) := ⟨⟨by decide +kernel, by decide +kernel⟩, List.mem_of_getElem? (i := 679) (by decide +kernel), List.mem_of_getElem? (i := 724) (by decide +kernel), List.mem_of_getElem? (i := 725) (by decide +kernel)⟩
theorem lw_p23 : lw_okq (⟨"QuasiSums$Reader", "readNumbers", "(LQuasiSums$Term;)Z"⟩, 5) := ⟨⟨by decide +kernel, by decide +kernel⟩, List.mem_of_getElem? (i := 679) (by decide +kernel), List.mem_of_getElem? (i := 748) (by decide +kernel), List.mem_of_getElem? (i := 749) (by decide +kernel)⟩
theorem lw_p24 : lw_okq (⟨"QuasiSums", "refuseTerm", "(IIII)I"⟩, 10) := ⟨⟨by decide +kernel, by decide +kernel⟩, List.mem_of_getElem? (i := 28) (by decide +kernel), List.mem_of_getElem? (i := 757) (by decide +kernel), List.mem_of_getElem? (i := 758) (by decide +kernel)⟩
theorem lw_p25 : lw_okq (⟨"QuasiSums", "addTerms", "(ILjava/util/ArrayList;)I"⟩, 10) := ⟨⟨by decide +kernel, by decide +kernel⟩, List.mem_of_getElem? (i := 28) (by decide +kernel), List.mem_of_getElem? (i := 761) (by decide +kernel), List.mem_of_getElem? (i := 762) (by decide +kernel)⟩
theorem lw_p26 : lw_okq (⟨"QuasiSums", "allWeights", "()I"⟩, 10) := ⟨⟨by decide +kernel, by decide +kernel⟩, List.mem_of_getElem? (i := 28) (by decide +kernel), List.mem_of_getElem? (i := 826) (by decide +kernel), List.mem_of_getElem? (i := 827) (by decide +kernel)⟩
theorem lw_p27 : lw_okq (⟨"QuasiSums", "howManyHeld", "()I"⟩, 10) := ⟨⟨by decide +kernel, by decide +kernel⟩, List.mem_of_getElem? (i := 28) (by decide +kernel), List.mem_of_getElem? (i := 845) (by decide +kernel), List.mem_of_getElem? (i := 846) (by decide +kernel)⟩
theorem lw_p28 : lw_okq (⟨"QuasiSums", "howManyRowsHeld", "()I"⟩, 10) := ⟨⟨by decide +kernel, by decide +kernel⟩, List.mem_of_getElem? (i := 28) (by decide +kernel), List.mem_of_getElem? (i := 849) (by decide +kernel), List.mem_of_getElem? (i := 850) (by decide +kernel)⟩
theorem lw_p29 : lw_okq (⟨"QuasiSumsModel", "empties", "()V"⟩, 42) := ⟨⟨by decide +kernel, by decide +kernel⟩, List.mem_of_getElem? (i := 853) (by decide +kernel), List.mem_of_getElem? (i := 1005) (by decide +kernel), List.mem_of_getElem? (i := 1006) (by decide +kernel)⟩
theorem lw_p30 : lw_okq (⟨"QuasiSumsModel", "becomes", "(II)V"⟩, 42) := ⟨⟨by decide +kernel, by decide +kernel⟩, List.mem_of_getElem? (i := 853) (by decide +kernel), List.mem_of_getElem? (i := 1009) (by decide +kernel), List.mem_of_getElem? (i := 1010) (by decide +kernel)⟩
theorem lw_p31 : lw_okq (⟨"QuasiSumsModel", "isOf", "(II)Z"⟩, 42) := ⟨⟨by decide +kernel, by decide +kernel⟩, List.mem_of_getElem? (i := 853) (by decide +kernel), List.mem_of_getElem? (i := 1017) (by decide +kernel), List.mem_of_getElem? (i := 1018) (by decide +kernel)⟩
def lw_privs_2 : List (MethodName × Nat) := [(⟨"QuasiSums", "allInDoubles", "()D"⟩, 10), (⟨"QuasiSums", "fetchSum", "(LQuasiSums$Item;I)I"⟩, 10), (⟨"QuasiSums", "fetchRow", "(LQuasiSums$Item;I)I"⟩, 10), (⟨"QuasiSums$Reader", "readTerm", "(Z)Z"⟩, 5), (⟨"QuasiSums$Reader", "readTimes", "()I"⟩, 5), (⟨"QuasiSums$Reader", "figure", "()I"⟩, 5), (⟨"QuasiSums$Reader", "sees", "(C)Z"⟩, 5), (⟨"QuasiSums$Reader", "readNumbers", "(LQuasiSums$Term;)Z"⟩, 5), (⟨"QuasiSums", "refuseTerm", "(IIII)I"⟩, 10), (⟨"QuasiSums", "addTerms", "(ILjava/util/ArrayList;)I"⟩, 10), (⟨"QuasiSums", "allWeights", "()I"⟩, 10), (⟨"QuasiSums", "howManyHeld", "()I"⟩, 10), (⟨"QuasiSums", "howManyRowsHeld", "()I"⟩, 10), (⟨"QuasiSumsModel", "empties", "()V"⟩, 42), (⟨"QuasiSumsModel", "becomes", "(II)V"⟩, 42), (⟨"QuasiSumsModel", "isOf", "(II)Z"⟩, 42)]
theorem lw_r2 : ∀ q ∈ lw_privs_2, lw_okq q := List.forall_mem_cons.mpr ⟨lw_p16, List.forall_mem_cons.mpr ⟨lw_p17, List.forall_mem_cons.mpr ⟨lw_p18, List.forall_mem_cons.mpr ⟨lw_p19, List.forall_mem_cons.mpr ⟨lw_p20, List.forall_mem_cons.mpr ⟨lw_p21, List.forall_mem_cons.mpr ⟨lw_p22, List.forall_mem_cons.mpr ⟨lw_p23, List.forall_mem_cons.mpr ⟨lw_p24, List.forall_mem_cons.mpr ⟨lw_p25, List.forall_mem_cons.mpr ⟨lw_p26, List.forall_mem_cons.mpr ⟨lw_p27, List.forall_mem_cons.mpr ⟨lw_p28, List.forall_mem_cons.mpr ⟨lw_p29, List.forall_mem_cons.mpr ⟨lw_p30, List.forall_mem_cons.mpr ⟨lw_p31, fun _ h => absurd h List.not_mem_nil⟩⟩⟩⟩⟩⟩⟩⟩⟩⟩⟩⟩⟩⟩⟩⟩
theorem lw_p32 : lw_okq (⟨"QuasiSumsModel", "takes", "(I)V"⟩, 42) := ⟨⟨by decide +kernel, by decide +kernel⟩, List.mem_of_getElem? (i := 853) (by decide +kernel), List.mem_of_getElem? (i := 1024) (by decide +kernel), List.mem_of_getElem? (i := 1025) (by decide +kernel)⟩
theorem lw_p33 : lw_okq (⟨"QuasiSumsModel", "addsF", "(IIJ)V"⟩, 42) := ⟨⟨by decide +kernel, by decide +kernel⟩, List.mem_of_getElem? (i := 853) (by decide +kernel), List.mem_of_getElem? (i := 1037) (by decide +kernel), List.mem_of_getElem? (i := 1038) (by decide +kernel)⟩
theorem lw_p34 : lw_okq (⟨"QuasiSumsModel", "plus", "(JJI)J"⟩, 42) := ⟨⟨by decide +kernel, by decide +kernel⟩, List.mem_of_getElem? (i := 853) (by decide +kernel), List.mem_of_getElem? (i := 1044) (by decide +kernel), List.mem_of_getElem? (i := 1045) (by decide +kernel)⟩
theorem lw_p35 : lw_okq (⟨"QuasiSumsModel", "over", "(I)V"⟩, 42) := ⟨⟨by decide +kernel, by decide +kernel⟩, List.mem_of_getElem? (i := 853) (by decide +kernel), List.mem_of_getElem? (i := 1048) (by decide +kernel), List.mem_of_getElem? (i := 1049) (by decide +kernel)⟩
theorem lw_p36 : lw_okq (⟨"QuasiSumsModel", "less", "(JI)J"⟩, 42) := ⟨⟨by decide +kernel, by decide +kernel⟩, List.mem_of_getElem? (i := 853) (by decide +kernel), List.mem_of_getElem? (i := 1062) (by decide +kernel), List.mem_of_getElem? (i := 1063) (by decide +kernel)⟩
theorem lw_p37 : lw_okq (⟨"QuasiSumsModel", "times", "(JJI)J"⟩, 42) := ⟨⟨by decide +kernel, by decide +kernel⟩, List.mem_of_getElem? (i := 853) (by decide +kernel), List.mem_of_getElem? (i := 1088) (by decide +kernel), List.mem_of_getElem? (i := 1089) (by decide +kernel)⟩
theorem lw_p38 : lw_okq (⟨"QuasiSumsModel", "goes", "(IIIIIIII)V"⟩, 42) := ⟨⟨by decide +kernel, by decide +kernel⟩, List.mem_of_getElem? (i := 853) (by decide +kernel), List.mem_of_getElem? (i := 1093) (by decide +kernel), List.mem_of_getElem? (i := 1094) (by decide +kernel)⟩
theorem lw_p39 : lw_okq (⟨"QuasiSumsModel", "isThing", "(I)Z"⟩, 42) := ⟨⟨by decide +kernel, by decide +kernel⟩, List.mem_of_getElem? (i := 853) (by decide +kernel), List.mem_of_getElem? (i := 1120) (by decide +kernel), List.mem_of_getElem? (i := 1121) (by decide +kernel)⟩
theorem lw_p40 : lw_okq (⟨"QuasiSumsModel", "isUnder", "(II)Z"⟩, 42) := ⟨⟨by decide +kernel, by decide +kernel⟩, List.mem_of_getElem? (i := 853) (by decide +kernel), List.mem_of_getElem? (i := 1124) (by decide +kernel), List.mem_of_getElem? (i := 1125) (by decide +kernel)⟩
theorem lw_p41 : lw_okq (⟨"QuasiSumsModel", "takesRow", "(I)Z"⟩, 42) := ⟨⟨by decide +kernel, by decide +kernel⟩, List.mem_of_getElem? (i := 853) (by decide +kernel), List.mem_of_getElem? (i := 1136) (by decide +kernel), List.mem_of_getElem? (i := 1137) (by decide +kernel)⟩
theorem lw_p42 : lw_okq (⟨"QuasiSumsModel", "finds", "(III)Z"⟩, 42) := ⟨⟨by decide +kernel, by decide +kernel⟩, List.mem_of_getElem? (i := 853) (by decide +kernel), List.mem_of_getElem? (i := 1140) (by decide +kernel), List.mem_of_getElem? (i := 1141) (by decide +kernel)⟩
theorem lw_p43 : lw_okq (⟨"QuasiSumsModel", "descents", "()I"⟩, 42) := ⟨⟨by decide +kernel, by decide +kernel⟩, List.mem_of_getElem? (i := 853) (by decide +kernel), List.mem_of_getElem? (i := 1148) (by decide +kernel), List.mem_of_getElem? (i := 1149) (by decide +kernel)⟩
theorem lw_p44 : lw_okq (⟨"QuasiSumsModel", "gives", "(II)I"⟩, 42) := ⟨⟨by decide +kernel, by decide +kernel⟩, List.mem_of_getElem? (i := 853) (by decide +kernel), List.mem_of_getElem? (i := 1160) (by decide +kernel), List.mem_of_getElem? (i := 1161) (by decide +kernel)⟩
theorem lw_p45 : lw_okq (⟨"QuasiSumsModel", "shareOf", "(II)F"⟩, 42) := ⟨⟨by decide +kernel, by decide +kernel⟩, List.mem_of_getElem? (i := 853) (by decide +kernel), List.mem_of_getElem? (i := 1168) (by decide +kernel), List.mem_of_getElem? (i := 1169) (by decide +kernel)⟩
theorem lw_p46 : lw_okq (⟨"QuasiSumsModel", "isFault", "()Z"⟩, 42) := ⟨⟨by decide +kernel, by decide +kernel⟩, List.mem_of_getElem? (i := 853) (by decide +kernel), List.mem_of_getElem? (i := 1264) (by decide +kernel), List.mem_of_getElem? (i := 1265) (by decide +kernel)⟩
theorem lw_p47 : lw_okq (⟨"QuasiSumsModel", "term", "(I)V"⟩, 42) := ⟨⟨by decide +kernel, by decide +kernel⟩, List.mem_of_getElem? (i := 853) (by decide +kernel), List.mem_of_getElem? (i := 1268) (by decide +kernel), List.mem_of_getElem? (i := 1269) (by decide +kernel)⟩
def lw_privs_3 : List (MethodName × Nat) := [(⟨"QuasiSumsModel", "takes", "(I)V"⟩, 42), (⟨"QuasiSumsModel", "addsF", "(IIJ)V"⟩, 42), (⟨"QuasiSumsModel", "plus", "(JJI)J"⟩, 42), (⟨"QuasiSumsModel", "over", "(I)V"⟩, 42), (⟨"QuasiSumsModel", "less", "(JI)J"⟩, 42), (⟨"QuasiSumsModel", "times", "(JJI)J"⟩, 42), (⟨"QuasiSumsModel", "goes", "(IIIIIIII)V"⟩, 42), (⟨"QuasiSumsModel", "isThing", "(I)Z"⟩, 42), (⟨"QuasiSumsModel", "isUnder", "(II)Z"⟩, 42), (⟨"QuasiSumsModel", "takesRow", "(I)Z"⟩, 42), (⟨"QuasiSumsModel", "finds", "(III)Z"⟩, 42), (⟨"QuasiSumsModel", "descents", "()I"⟩, 42), (⟨"QuasiSumsModel", "gives", "(II)I"⟩, 42), (⟨"QuasiSumsModel", "shareOf", "(II)F"⟩, 42), (⟨"QuasiSumsModel", "isFault", "()Z"⟩, 42), (⟨"QuasiSumsModel", "term", "(I)V"⟩, 42)]
theorem lw_r3 : ∀ q ∈ lw_privs_3, lw_okq q := List.forall_mem_cons.mpr ⟨lw_p32, List.forall_mem_cons.mpr ⟨lw_p33, List.forall_mem_cons.mpr ⟨lw_p34, List.forall_mem_cons.mpr ⟨lw_p35, List.forall_mem_cons.mpr ⟨lw_p36, List.forall_mem_cons.mpr ⟨lw_p37, List.forall_mem_cons.mpr ⟨lw_p38, List.forall_mem_cons.mpr ⟨lw_p39, List.forall_mem_cons.mpr ⟨lw_p40, List.forall_mem_cons.mpr ⟨lw_p41, List.forall_mem_cons.mpr ⟨lw_p42, List.forall_mem_cons.mpr ⟨lw_p43, List.forall_mem_cons.mpr ⟨lw_p44, List.forall_mem_cons.mpr ⟨lw_p45, List.forall_mem_cons.mpr ⟨lw_p46, List.forall_mem_cons.mpr ⟨lw_p47, fun _ h => absurd h List.not_mem_nil⟩⟩⟩⟩⟩⟩⟩⟩⟩⟩⟩⟩⟩⟩⟩⟩
theorem lw_p48 : lw_okq (⟨"QuasiSumsModel", "here", "()I"⟩, 42) := ⟨⟨by decide +kernel, by decide +kernel⟩, List.mem_of_getElem? (i := 853) (by decide +kernel), List.mem_of_getElem? (i := 1272) (by decide +kernel), List.mem_of_getElem? (i := 1273) (by decide +kernel)⟩
theorem lw_p49 : lw_okq (⟨"QuasiSumsModel", "must", "(I)V"⟩, 42) := ⟨⟨by decide +kernel, by decide +kernel⟩, List.mem_of_getElem? (i := 853) (by decide +kernel), List.mem_of_getElem? (i := 1276) (by decide +kernel), List.mem_of_getElem? (i := 1277) (by decide +kernel)⟩
theorem lw_p50 : lw_okq (⟨"QuasiSumsModel", "figure", "()V"⟩, 42) := ⟨⟨by decide +kernel, by decide +kernel⟩, List.mem_of_getElem? (i := 853) (by decide +kernel), List.mem_of_getElem? (i := 1280) (by decide +kernel), List.mem_of_getElem? (i := 1281) (by decide +kernel)⟩
theorem lw_p51 : lw_okq (⟨"QuasiSumsModel", "because", "(II)V"⟩, 42) := ⟨⟨by decide +kernel, by decide +kernel⟩, List.mem_of_getElem? (i := 853) (by decide +kernel), List.mem_of_getElem? (i := 1284) (by decide +kernel), List.mem_of_getElem? (i := 1285) (by decide +kernel)⟩
theorem lw_p52 : lw_okq (⟨"QuasiSumsModel", "all", "()I"⟩, 42) := ⟨⟨by decide +kernel, by decide +kernel⟩, List.mem_of_getElem? (i := 853) (by decide +kernel), List.mem_of_getElem? (i := 1292) (by decide +kernel), List.mem_of_getElem? (i := 1293) (by decide +kernel)⟩
def lw_privs_4 : List (MethodName × Nat) := [(⟨"QuasiSumsModel", "here", "()I"⟩, 42), (⟨"QuasiSumsModel", "must", "(I)V"⟩, 42), (⟨"QuasiSumsModel", "figure", "()V"⟩, 42), (⟨"QuasiSumsModel", "because", "(II)V"⟩, 42), (⟨"QuasiSumsModel", "all", "()I"⟩, 42)]
theorem lw_r4 : ∀ q ∈ lw_privs_4, lw_okq q := List.forall_mem_cons.mpr ⟨lw_p48, List.forall_mem_cons.mpr ⟨lw_p49, List.forall_mem_cons.mpr ⟨lw_p50, List.forall_mem_cons.mpr ⟨lw_p51, List.forall_mem_cons.mpr ⟨lw_p52, fun _ h => absurd h List.not_mem_nil⟩⟩⟩⟩⟩
def lw_privs : List (MethodName × Nat) := lw_privs_1 ++ (lw_privs_2 ++ (lw_privs_3 ++ (lw_privs_4)))
def lw_tbl : List Cond := k2_sels lw_privs ++ tables_1
theorem lw_privs_ok : ∀ q ∈ lw_privs, lw_okq q := by
  show ∀ q ∈ lw_privs_1 ++ (lw_privs_2 ++ (lw_privs_3 ++ (lw_privs_4))), lw_okq q
  exact List.forall_mem_append.mpr ⟨lw_r1, List.forall_mem_append.mpr ⟨lw_r2, List.forall_mem_append.mpr ⟨lw_r3, lw_r4⟩⟩⟩
/-- the streams that the claim lets the run draw from -/
abbrev lw_cs : List Choice := [Jvm.Choice.named "NaN.bits", Jvm.Choice.named "NaN.copy"]
theorem lw_bits : nanBits ∈ lw_cs := by first | decide | exact List.mem_cons_self | simp [lw_cs, nanBits]
end
section
/-! ===== BEGIN printed: names, fields, word lists, decode rows ===== -/
def RX0 : String := "QuasiSums$Bits"
def TX0 : u_T := fun k => match k with
  | _ => ("", "", "", false)
def tyX0 : Nat → FieldType := fun k => match k with
  | _ => .int
abbrev wsX00 : List Cond := u_ws RX0 TX0 0
theorem nmX0 : ∀ a, a < 0 → ∀ b, b < 0 → a ≠ b → (TX0 a).2.1 ≠ (TX0 b).2.1 := by decide +kernel
theorem tyX0_ok : ∀ k, k < 0 → parseFieldDescriptor (TX0 k).2.2.1 = some (tyX0 k) := by decide +kernel
abbrev cX0_howMany : ByteArray := prog_2_method_2_code
def yX0_howMany : MethodName := ⟨RX0, "howMany", "(I)I"⟩
abbrev cX0_lengthOf : ByteArray := prog_2_method_3_code
def yX0_lengthOf : MethodName := ⟨RX0, "lengthOf", "(II)I"⟩
abbrev cX0_firstNumber : ByteArray := prog_2_method_4_code
def yX0_firstNumber : MethodName := ⟨RX0, "firstNumber", "(II)I"⟩
abbrev cX0_numberAt : ByteArray := prog_2_method_5_code
def yX0_numberAt : MethodName := ⟨RX0, "numberAt", "(III)I"⟩
abbrev cX0_turned : ByteArray := prog_2_method_6_code
def yX0_turned : MethodName := ⟨RX0, "turned", "(II)I"⟩
abbrev cX0_rest : ByteArray := prog_2_method_7_code
def yX0_rest : MethodName := ⟨RX0, "rest", "(II)I"⟩
abbrev cX0_howManyFiner : ByteArray := prog_2_method_8_code
def yX0_howManyFiner : MethodName := ⟨RX0, "howManyFiner", "(II)I"⟩
abbrev cX0_isFiner : ByteArray := prog_2_method_9_code
def yX0_isFiner : MethodName := ⟨RX0, "isFiner", "(II)Z"⟩
abbrev cX0_joined : ByteArray := prog_2_method_10_code
def yX0_joined : MethodName := ⟨RX0, "joined", "(IIII)I"⟩
abbrev cX0_waysToPick : ByteArray := prog_2_method_11_code
def yX0_waysToPick : MethodName := ⟨RX0, "waysToPick", "(II)J"⟩
def RX1 : String := "QuasiSums$Image"
def TX1 : u_T := fun k => match k with
  | 0 => ("QuasiSums$Image", "registers", "[LQuasiSums$Sum;", true)
  | 1 => ("QuasiSums$Image", "things", "LQuasiSums$Order;", true)
  | 2 => ("QuasiSums$Image", "cells", "[F", true)
  | _ => ("QuasiSums$Image", "racks", "[LQuasiSums$Item;", true)
def tyX1 : Nat → FieldType := fun k => match k with
  | 0 => .array (.object "QuasiSums$Sum")
  | 1 => .object "QuasiSums$Order"
  | 2 => .array .float
  | _ => .array (.object "QuasiSums$Item")
abbrev wsX10 : List Cond := u_ws RX1 TX1 4
theorem nmX1 : ∀ a, a < 4 → ∀ b, b < 4 → a ≠ b → (TX1 a).2.1 ≠ (TX1 b).2.1 := by decide +kernel
theorem tyX1_ok : ∀ k, k < 4 → parseFieldDescriptor (TX1 k).2.2.1 = some (tyX1 k) := by decide +kernel
abbrev cX1_init : ByteArray := prog_3_method_1_code
def yX1_init : MethodName := ⟨RX1, "<init>", "([LQuasiSums$Sum;LQuasiSums$Order;[F[LQuasiSums$Item;)V"⟩
def RX2 : String := "QuasiSums$Item"
def TX2 : u_T := fun k => match k with
  | _ => ("", "", "", false)
def tyX2 : Nat → FieldType := fun k => match k with
  | _ => .int
abbrev wsX20 : List Cond := u_ws RX2 TX2 0
theorem nmX2 : ∀ a, a < 0 → ∀ b, b < 0 → a ≠ b → (TX2 a).2.1 ≠ (TX2 b).2.1 := by decide +kernel
theorem tyX2_ok : ∀ k, k < 0 → parseFieldDescriptor (TX2 k).2.2.1 = some (tyX2 k) := by decide +kernel
abbrev cX2_init : ByteArray := prog_4_method_1_code
def yX2_init : MethodName := ⟨RX2, "<init>", "()V"⟩
def RX3 : String := "QuasiSums$Longs"
def TX3 : u_T := fun k => match k with
  | 0 => ("QuasiSums$Longs", "over", "Z", false)
  | _ => ("QuasiSums$Longs", "where", "I", false)
def tyX3 : Nat → FieldType := fun k => match k with
  | 0 => .boolean
  | _ => .int
abbrev wsX30 : List Cond := u_ws RX3 TX3 2
theorem nmX3 : ∀ a, a < 2 → ∀ b, b < 2 → a ≠ b → (TX3 a).2.1 ≠ (TX3 b).2.1 := by decide +kernel
theorem tyX3_ok : ∀ k, k < 2 → parseFieldDescriptor (TX3 k).2.2.1 = some (tyX3 k) := by decide +kernel
abbrev cX3_init : ByteArray := prog_5_method_1_code
def yX3_init : MethodName := ⟨RX3, "<init>", "()V"⟩
abbrev cX3_tooGreat : ByteArray := prog_5_method_2_code
def yX3_tooGreat : MethodName := ⟨RX3, "tooGreat", "(I)V"⟩
abbrev cX3_plus : ByteArray := prog_5_method_3_code
def yX3_plus : MethodName := ⟨RX3, "plus", "(JJI)J"⟩
abbrev cX3_times : ByteArray := prog_5_method_4_code
def yX3_times : MethodName := ⟨RX3, "times", "(JJI)J"⟩
abbrev cX3_otherSign : ByteArray := prog_5_method_5_code
def yX3_otherSign : MethodName := ⟨RX3, "otherSign", "(JI)J"⟩
def RX4 : String := "QuasiSums$Order"
def TX4 : u_T := fun k => match k with
  | 0 => ("QuasiSums$Order", "size", "I", true)
  | 1 => ("QuasiSums$Order", "lower", "[I", true)
  | _ => ("QuasiSums$Order", "endings", "[I", true)
def tyX4 : Nat → FieldType := fun k => match k with
  | 0 => .int
  | 1 => .array .int
  | _ => .array .int
abbrev wsX40 : List Cond := u_ws RX4 TX4 3
theorem nmX4 : ∀ a, a < 3 → ∀ b, b < 3 → a ≠ b → (TX4 a).2.1 ≠ (TX4 b).2.1 := by decide +kernel
theorem tyX4_ok : ∀ k, k < 3 → parseFieldDescriptor (TX4 k).2.2.1 = some (tyX4 k) := by decide +kernel
abbrev cX4_init : ByteArray := prog_6_method_1_code
def yX4_init : MethodName := ⟨RX4, "<init>", "(I)V"⟩
abbrev cX4_init_ : ByteArray := prog_6_method_2_code
def yX4_init_ : MethodName := ⟨RX4, "<init>", "(I[I)V"⟩
abbrev cX4_countEndings : ByteArray := prog_6_method_3_code
def yX4_countEndings : MethodName := ⟨RX4, "countEndings", "()V"⟩
abbrev cX4_waysBehind : ByteArray := prog_6_method_4_code
def yX4_waysBehind : MethodName := ⟨RX4, "waysBehind", "(II)I"⟩
abbrev cX4_has : ByteArray := prog_6_method_5_code
def yX4_has : MethodName := ⟨RX4, "has", "(I)Z"⟩
abbrev cX4_stands : ByteArray := prog_6_method_6_code
def yX4_stands : MethodName := ⟨RX4, "stands", "(II)Z"⟩
abbrev cX4_canCome : ByteArray := prog_6_method_7_code
def yX4_canCome : MethodName := ⟨RX4, "canCome", "(II)Z"⟩
abbrev cX4_withBelow : ByteArray := prog_6_method_8_code
def yX4_withBelow : MethodName := ⟨RX4, "withBelow", "(II)LQuasiSums$Order;"⟩
abbrev cX4_pairs : ByteArray := prog_6_method_9_code
def yX4_pairs : MethodName := ⟨RX4, "pairs", "()I"⟩
abbrev cX4_howManyRows : ByteArray := prog_6_method_10_code
def yX4_howManyRows : MethodName := ⟨RX4, "howManyRows", "()I"⟩
abbrev cX4_tellRow : ByteArray := prog_6_method_11_code
def yX4_tellRow : MethodName := ⟨RX4, "tellRow", "(I[I)V"⟩
abbrev cX4_descents : ByteArray := prog_6_method_12_code
def yX4_descents : MethodName := ⟨RX4, "descents", "([I)I"⟩
abbrev cX4_peaks : ByteArray := prog_6_method_13_code
def yX4_peaks : MethodName := ⟨RX4, "peaks", "([I)I"⟩
abbrev cX4_makes : ByteArray := prog_6_method_14_code
def yX4_makes : MethodName := ⟨RX4, "makes", "()LQuasiSums$Sum;"⟩
abbrev cX4_firstWrong : ByteArray := prog_6_method_15_code
def yX4_firstWrong : MethodName := ⟨RX4, "firstWrong", "([I)I"⟩
def RX5 : String := "QuasiSums$Reader"
def TX5 : u_T := fun k => match k with
  | 0 => ("QuasiSums$Reader", "tape", "[I", true)
  | 1 => ("QuasiSums$Reader", "length", "I", true)
  | 2 => ("QuasiSums$Reader", "terms", "Ljava/util/ArrayList;", true)
  | 3 => ("QuasiSums$Reader", "at", "I", false)
  | _ => ("QuasiSums$Reader", "term", "I", false)
def tyX5 : Nat → FieldType := fun k => match k with
  | 0 => .array .int
  | 1 => .int
  | 2 => .object "java/util/ArrayList"
  | 3 => .int
  | _ => .int
abbrev wsX50 : List Cond := u_ws RX5 TX5 5
theorem nmX5 : ∀ a, a < 5 → ∀ b, b < 5 → a ≠ b → (TX5 a).2.1 ≠ (TX5 b).2.1 := by decide +kernel
theorem tyX5_ok : ∀ k, k < 5 → parseFieldDescriptor (TX5 k).2.2.1 = some (tyX5 k) := by decide +kernel
abbrev cX5_init : ByteArray := prog_7_method_1_code
def yX5_init : MethodName := ⟨RX5, "<init>", "([II)V"⟩
abbrev cX5_readText : ByteArray := prog_7_method_2_code
def yX5_readText : MethodName := ⟨RX5, "readText", "()Z"⟩
abbrev cX5_readTerm : ByteArray := prog_7_method_3_code
def yX5_readTerm : MethodName := ⟨RX5, "readTerm", "(Z)Z"⟩
abbrev cX5_readTimes : ByteArray := prog_7_method_4_code
def yX5_readTimes : MethodName := ⟨RX5, "readTimes", "()I"⟩
abbrev cX5_readNumbers : ByteArray := prog_7_method_5_code
def yX5_readNumbers : MethodName := ⟨RX5, "readNumbers", "(LQuasiSums$Term;)Z"⟩
abbrev cX5_sees : ByteArray := prog_7_method_6_code
def yX5_sees : MethodName := ⟨RX5, "sees", "(C)Z"⟩
abbrev cX5_figure : ByteArray := prog_7_method_7_code
def yX5_figure : MethodName := ⟨RX5, "figure", "()I"⟩
def RX6 : String := "QuasiSums$Row"
def TX6 : u_T := fun k => match k with
  | _ => ("QuasiSums$Row", "ints", "[I", true)
def tyX6 : Nat → FieldType := fun k => match k with
  | _ => .array .int
abbrev wsX60 : List Cond := u_ws RX6 TX6 1
theorem nmX6 : ∀ a, a < 1 → ∀ b, b < 1 → a ≠ b → (TX6 a).2.1 ≠ (TX6 b).2.1 := by decide +kernel
theorem tyX6_ok : ∀ k, k < 1 → parseFieldDescriptor (TX6 k).2.2.1 = some (tyX6 k) := by decide +kernel
abbrev cX6_init : ByteArray := prog_8_method_1_code
def yX6_init : MethodName := ⟨RX6, "<init>", "([I)V"⟩
def RX7 : String := "QuasiSums$Step"
def TX7 : u_T := fun k => match k with
  | 0 => ("QuasiSums$Step", "register", "I", true)
  | _ => ("QuasiSums$Step", "before", "LQuasiSums$Sum;", true)
def tyX7 : Nat → FieldType := fun k => match k with
  | 0 => .int
  | _ => .object "QuasiSums$Sum"
abbrev wsX70 : List Cond := u_ws RX7 TX7 2
theorem nmX7 : ∀ a, a < 2 → ∀ b, b < 2 → a ≠ b → (TX7 a).2.1 ≠ (TX7 b).2.1 := by decide +kernel
theorem tyX7_ok : ∀ k, k < 2 → parseFieldDescriptor (TX7 k).2.2.1 = some (tyX7 k) := by decide +kernel
abbrev cX7_init : ByteArray := prog_9_method_1_code
def yX7_init : MethodName := ⟨RX7, "<init>", "(ILQuasiSums$Sum;)V"⟩
def RX8 : String := "QuasiSums$Sum"
def TX8 : u_T := fun k => match k with
  | 0 => ("QuasiSums$Sum", "weight", "I", true)
  | _ => ("QuasiSums$Sum", "numbers", "[J", true)
def tyX8 : Nat → FieldType := fun k => match k with
  | 0 => .int
  | _ => .array .long
abbrev wsX80 : List Cond := u_ws RX8 TX8 2
theorem nmX8 : ∀ a, a < 2 → ∀ b, b < 2 → a ≠ b → (TX8 a).2.1 ≠ (TX8 b).2.1 := by decide +kernel
theorem tyX8_ok : ∀ k, k < 2 → parseFieldDescriptor (TX8 k).2.2.1 = some (tyX8 k) := by decide +kernel
abbrev cX8_init : ByteArray := prog_10_method_1_code
def yX8_init : MethodName := ⟨RX8, "<init>", "(I)V"⟩
abbrev cX8_at : ByteArray := prog_10_method_2_code
def yX8_at : MethodName := ⟨RX8, "at", "(I)J"⟩
abbrev cX8_isLike : ByteArray := prog_10_method_3_code
def yX8_isLike : MethodName := ⟨RX8, "isLike", "(LQuasiSums$Sum;)Z"⟩
abbrev cX8_comes : ByteArray := prog_10_method_4_code
def yX8_comes : MethodName := ⟨RX8, "comes", "(IJLQuasiSums$Longs;)V"⟩
abbrev cX8_comesToFiner : ByteArray := prog_10_method_5_code
def yX8_comesToFiner : MethodName := ⟨RX8, "comesToFiner", "(IJLQuasiSums$Longs;)V"⟩
abbrev cX8_twin : ByteArray := prog_10_method_6_code
def yX8_twin : MethodName := ⟨RX8, "twin", "()LQuasiSums$Sum;"⟩
abbrev cX8_withNumber : ByteArray := prog_10_method_7_code
def yX8_withNumber : MethodName := ⟨RX8, "withNumber", "(IJ)LQuasiSums$Sum;"⟩
abbrev cX8_withFundamental : ByteArray := prog_10_method_8_code
def yX8_withFundamental : MethodName := ⟨RX8, "withFundamental", "(IJLQuasiSums$Longs;)LQuasiSums$Sum;"⟩
abbrev cX8_fundamentalNumber : ByteArray := prog_10_method_9_code
def yX8_fundamentalNumber : MethodName := ⟨RX8, "fundamentalNumber", "(ILQuasiSums$Longs;)J"⟩
abbrev cX8_notZero : ByteArray := prog_10_method_10_code
def yX8_notZero : MethodName := ⟨RX8, "notZero", "()I"⟩
abbrev cX8_plus : ByteArray := prog_10_method_11_code
def yX8_plus : MethodName := ⟨RX8, "plus", "(LQuasiSums$Sum;LQuasiSums$Longs;)LQuasiSums$Sum;"⟩
abbrev cX8_times : ByteArray := prog_10_method_12_code
def yX8_times : MethodName := ⟨RX8, "times", "(LQuasiSums$Sum;LQuasiSums$Longs;)LQuasiSums$Sum;"⟩
abbrev cX8_shuffle : ByteArray := prog_10_method_13_code
def yX8_shuffle : MethodName := ⟨RX8, "shuffle", "(IIIIII[I)V"⟩
abbrev cX8_antipodal : ByteArray := prog_10_method_14_code
def yX8_antipodal : MethodName := ⟨RX8, "antipodal", "(LQuasiSums$Longs;)LQuasiSums$Sum;"⟩
abbrev cX8_countsWith : ByteArray := prog_10_method_15_code
def yX8_countsWith : MethodName := ⟨RX8, "countsWith", "(ILQuasiSums$Longs;)J"⟩
abbrev cX8_shareOf : ByteArray := prog_10_method_16_code
def yX8_shareOf : MethodName := ⟨RX8, "shareOf", "(I)F"⟩
def RX9 : String := "QuasiSums$Term"
def TX9 : u_T := fun k => match k with
  | 0 => ("QuasiSums$Term", "ofF", "Z", true)
  | 1 => ("QuasiSums$Term", "times", "I", true)
  | 2 => ("QuasiSums$Term", "weight", "I", false)
  | _ => ("QuasiSums$Term", "bits", "I", false)
def tyX9 : Nat → FieldType := fun k => match k with
  | 0 => .boolean
  | 1 => .int
  | 2 => .int
  | _ => .int
abbrev wsX90 : List Cond := u_ws RX9 TX9 4
theorem nmX9 : ∀ a, a < 4 → ∀ b, b < 4 → a ≠ b → (TX9 a).2.1 ≠ (TX9 b).2.1 := by decide +kernel
theorem tyX9_ok : ∀ k, k < 4 → parseFieldDescriptor (TX9 k).2.2.1 = some (tyX9 k) := by decide +kernel
abbrev cX9_init : ByteArray := prog_11_method_1_code
def yX9_init : MethodName := ⟨RX9, "<init>", "(ZI)V"⟩
abbrev cX9_goesOn : ByteArray := prog_11_method_2_code
def yX9_goesOn : MethodName := ⟨RX9, "goesOn", "(I)V"⟩
abbrev cX9_comesTo : ByteArray := prog_11_method_3_code
def yX9_comesTo : MethodName := ⟨RX9, "comesTo", "(LQuasiSums$Sum;LQuasiSums$Longs;)V"⟩
def RX10 : String := "QuasiSums$Trouble"
def TX10 : u_T := fun k => match k with
  | 0 => ("QuasiSums$Trouble", "sort", "I", true)
  | 1 => ("QuasiSums$Trouble", "number", "I", true)
  | _ => ("QuasiSums$Trouble", "cause", "LQuasiSums$Trouble;", true)
def tyX10 : Nat → FieldType := fun k => match k with
  | 0 => .int
  | 1 => .int
  | _ => .object "QuasiSums$Trouble"
abbrev wsX100 : List Cond := u_ws RX10 TX10 3
theorem nmX10 : ∀ a, a < 3 → ∀ b, b < 3 → a ≠ b → (TX10 a).2.1 ≠ (TX10 b).2.1 := by decide +kernel
theorem tyX10_ok : ∀ k, k < 3 → parseFieldDescriptor (TX10 k).2.2.1 = some (tyX10 k) := by decide +kernel
abbrev cX10_init : ByteArray := prog_12_method_1_code
def yX10_init : MethodName := ⟨RX10, "<init>", "(IILQuasiSums$Trouble;)V"⟩
abbrev cX10_howMany : ByteArray := prog_12_method_2_code
def yX10_howMany : MethodName := ⟨RX10, "howMany", "(LQuasiSums$Trouble;)I"⟩
def RX11 : String := "QuasiSums"
def TX11 : u_T := fun k => match k with
  | 0 => ("QuasiSums", "registers", "[LQuasiSums$Sum;", false)
  | 1 => ("QuasiSums", "things", "LQuasiSums$Order;", false)
  | 2 => ("QuasiSums", "cells", "[F", false)
  | 3 => ("QuasiSums", "racks", "[LQuasiSums$Item;", false)
  | 4 => ("QuasiSums", "rows", "[LQuasiSums$Row;", true)
  | 5 => ("QuasiSums", "tape", "[I", true)
  | 6 => ("QuasiSums", "tapeLength", "I", false)
  | 7 => ("QuasiSums", "trouble", "LQuasiSums$Trouble;", false)
  | 8 => ("QuasiSums", "steps", "Ljava/util/ArrayList;", true)
  | _ => ("QuasiSums", "kept", "LQuasiSums$Image;", false)
def tyX11 : Nat → FieldType := fun k => match k with
  | 0 => .array (.object "QuasiSums$Sum")
  | 1 => .object "QuasiSums$Order"
  | 2 => .array .float
  | 3 => .array (.object "QuasiSums$Item")
  | 4 => .array (.object "QuasiSums$Row")
  | 5 => .array .int
  | 6 => .int
  | 7 => .object "QuasiSums$Trouble"
  | 8 => .object "java/util/ArrayList"
  | _ => .object "QuasiSums$Image"
abbrev wsX110 : List Cond := u_ws RX11 TX11 10
theorem nmX11 : ∀ a, a < 10 → ∀ b, b < 10 → a ≠ b → (TX11 a).2.1 ≠ (TX11 b).2.1 := by decide +kernel
theorem tyX11_ok : ∀ k, k < 10 → parseFieldDescriptor (TX11 k).2.2.1 = some (tyX11 k) := by decide +kernel
abbrev cX11_init : ByteArray := prog_1_method_1_code
def yX11_init : MethodName := ⟨RX11, "<init>", "()V"⟩
abbrev cX11_zero : ByteArray := prog_1_method_2_code
def yX11_zero : MethodName := ⟨RX11, "zero", "(II)I"⟩
abbrev cX11_put : ByteArray := prog_1_method_3_code
def yX11_put : MethodName := ⟨RX11, "put", "(IIJ)I"⟩
abbrev cX11_of : ByteArray := prog_1_method_4_code
def yX11_of : MethodName := ⟨RX11, "of", "(II)J"⟩
abbrev cX11_fundamental : ByteArray := prog_1_method_5_code
def yX11_fundamental : MethodName := ⟨RX11, "fundamental", "(IIJ)I"⟩
abbrev cX11_inF : ByteArray := prog_1_method_6_code
def yX11_inF : MethodName := ⟨RX11, "inF", "(II)J"⟩
abbrev cX11_told : ByteArray := prog_1_method_7_code
def yX11_told : MethodName := ⟨RX11, "told", "(II)I"⟩
abbrev cX11_composition : ByteArray := prog_1_method_8_code
def yX11_composition : MethodName := ⟨RX11, "composition", "(III)I"⟩
abbrev cX11_sum : ByteArray := prog_1_method_9_code
def yX11_sum : MethodName := ⟨RX11, "sum", "(III)I"⟩
abbrev cX11_multiply : ByteArray := prog_1_method_10_code
def yX11_multiply : MethodName := ⟨RX11, "multiply", "(III)I"⟩
abbrev cX11_antipode : ByteArray := prog_1_method_11_code
def yX11_antipode : MethodName := ⟨RX11, "antipode", "(II)I"⟩
abbrev cX11_cut : ByteArray := prog_1_method_12_code
def yX11_cut : MethodName := ⟨RX11, "cut", "(IIII)J"⟩
abbrev cX11_counts : ByteArray := prog_1_method_13_code
def yX11_counts : MethodName := ⟨RX11, "counts", "(II)J"⟩
abbrev cX11_order : ByteArray := prog_1_method_14_code
def yX11_order : MethodName := ⟨RX11, "order", "(I)I"⟩
abbrev cX11_below : ByteArray := prog_1_method_15_code
def yX11_below : MethodName := ⟨RX11, "below", "(II)I"⟩
abbrev cX11_isBelow : ByteArray := prog_1_method_16_code
def yX11_isBelow : MethodName := ⟨RX11, "isBelow", "(II)I"⟩
abbrev cX11_rowOf : ByteArray := prog_1_method_17_code
def yX11_rowOf : MethodName := ⟨RX11, "rowOf", "(II)I"⟩
abbrev cX11_marks : ByteArray := prog_1_method_18_code
def yX11_marks : MethodName := ⟨RX11, "marks", "(II)I"⟩
abbrev cX11_made : ByteArray := prog_1_method_19_code
def yX11_made : MethodName := ⟨RX11, "made", "(I)I"⟩
abbrev cX11_laid : ByteArray := prog_1_method_20_code
def yX11_laid : MethodName := ⟨RX11, "laid", "(I)I"⟩
abbrev cX11_share : ByteArray := prog_1_method_21_code
def yX11_share : MethodName := ⟨RX11, "share", "(II)I"⟩
abbrev cX11_warm : ByteArray := prog_1_method_22_code
def yX11_warm : MethodName := ⟨RX11, "warm", "(III)I"⟩
abbrev cX11_warmth : ByteArray := prog_1_method_23_code
def yX11_warmth : MethodName := ⟨RX11, "warmth", "(I)J"⟩
abbrev cX11_allInFloats : ByteArray := prog_1_method_24_code
def yX11_allInFloats : MethodName := ⟨RX11, "allInFloats", "()F"⟩
abbrev cX11_allInDoubles : ByteArray := prog_1_method_25_code
def yX11_allInDoubles : MethodName := ⟨RX11, "allInDoubles", "()D"⟩
abbrev cX11_floatBits : ByteArray := prog_1_method_26_code
def yX11_floatBits : MethodName := ⟨RX11, "floatBits", "(F)I"⟩
abbrev cX11_doubleBits : ByteArray := prog_1_method_27_code
def yX11_doubleBits : MethodName := ⟨RX11, "doubleBits", "(D)J"⟩
abbrev cX11_store : ByteArray := prog_1_method_28_code
def yX11_store : MethodName := ⟨RX11, "store", "(IIII)I"⟩
abbrev cX11_fetch : ByteArray := prog_1_method_29_code
def yX11_fetch : MethodName := ⟨RX11, "fetch", "(III)I"⟩
abbrev cX11_fetchSum : ByteArray := prog_1_method_30_code
def yX11_fetchSum : MethodName := ⟨RX11, "fetchSum", "(LQuasiSums$Item;I)I"⟩
abbrev cX11_fetchRow : ByteArray := prog_1_method_31_code
def yX11_fetchRow : MethodName := ⟨RX11, "fetchRow", "(LQuasiSums$Item;I)I"⟩
abbrev cX11_holds : ByteArray := prog_1_method_32_code
def yX11_holds : MethodName := ⟨RX11, "holds", "(II)I"⟩
abbrev cX11_row : ByteArray := prog_1_method_33_code
def yX11_row : MethodName := ⟨RX11, "row", "(II)I"⟩
abbrev cX11_lay : ByteArray := prog_1_method_34_code
def yX11_lay : MethodName := ⟨RX11, "lay", "(III)I"⟩
abbrev cX11_get : ByteArray := prog_1_method_35_code
def yX11_get : MethodName := ⟨RX11, "get", "(II)J"⟩
abbrev cX11_copy : ByteArray := prog_1_method_36_code
def yX11_copy : MethodName := ⟨RX11, "copy", "(IIIII)I"⟩
abbrev cX11_film : ByteArray := prog_1_method_37_code
def yX11_film : MethodName := ⟨RX11, "film", "(II)I"⟩
abbrev cX11_judge : ByteArray := prog_1_method_38_code
def yX11_judge : MethodName := ⟨RX11, "judge", "(I)I"⟩
abbrev cX11_back : ByteArray := prog_1_method_39_code
def yX11_back : MethodName := ⟨RX11, "back", "()I"⟩
abbrev cX11_feed : ByteArray := prog_1_method_40_code
def yX11_feed : MethodName := ⟨RX11, "feed", "(I)I"⟩
abbrev cX11_wipe : ByteArray := prog_1_method_41_code
def yX11_wipe : MethodName := ⟨RX11, "wipe", "()I"⟩
abbrev cX11_read : ByteArray := prog_1_method_42_code
def yX11_read : MethodName := ⟨RX11, "read", "(I)I"⟩
abbrev cX11_addTerms : ByteArray := prog_1_method_43_code
def yX11_addTerms : MethodName := ⟨RX11, "addTerms", "(ILjava/util/ArrayList;)I"⟩
abbrev cX11_refuseTerm : ByteArray := prog_1_method_44_code
def yX11_refuseTerm : MethodName := ⟨RX11, "refuseTerm", "(IIII)I"⟩
abbrev cX11_why : ByteArray := prog_1_method_45_code
def yX11_why : MethodName := ⟨RX11, "why", "(II)I"⟩
abbrev cX11_image : ByteArray := prog_1_method_46_code
def yX11_image : MethodName := ⟨RX11, "image", "()I"⟩
abbrev cX11_restore : ByteArray := prog_1_method_47_code
def yX11_restore : MethodName := ⟨RX11, "restore", "()I"⟩
abbrev cX11_count : ByteArray := prog_1_method_48_code
def yX11_count : MethodName := ⟨RX11, "count", "(I)I"⟩
abbrev cX11_howManyHeld : ByteArray := prog_1_method_49_code
def yX11_howManyHeld : MethodName := ⟨RX11, "howManyHeld", "()I"⟩
abbrev cX11_howManyRowsHeld : ByteArray := prog_1_method_50_code
def yX11_howManyRowsHeld : MethodName := ⟨RX11, "howManyRowsHeld", "()I"⟩
abbrev cX11_allWeights : ByteArray := prog_1_method_51_code
def yX11_allWeights : MethodName := ⟨RX11, "allWeights", "()I"⟩
abbrev cX11_within : ByteArray := prog_1_method_52_code
def yX11_within : MethodName := ⟨RX11, "within", "(II)Z"⟩
abbrev cX11_isNumber : ByteArray := prog_1_method_53_code
def yX11_isNumber : MethodName := ⟨RX11, "isNumber", "(II)Z"⟩
abbrev cX11_become : ByteArray := prog_1_method_54_code
def yX11_become : MethodName := ⟨RX11, "become", "(ILQuasiSums$Sum;)V"⟩
abbrev cX11_settle : ByteArray := prog_1_method_55_code
def yX11_settle : MethodName := ⟨RX11, "settle", "(ILQuasiSums$Sum;LQuasiSums$Longs;)I"⟩
abbrev cX11_answer : ByteArray := prog_1_method_56_code
def yX11_answer : MethodName := ⟨RX11, "answer", "(JLQuasiSums$Longs;)J"⟩
abbrev cX11_tellOver : ByteArray := prog_1_method_57_code
def yX11_tellOver : MethodName := ⟨RX11, "tellOver", "(LQuasiSums$Longs;)V"⟩
def RX12 : String := "QuasiSumsModel"
def TX12 : u_T := fun k => match k with
  | 0 => ("QuasiSumsModel", "isOver", "Z", false)
  | 1 => ("QuasiSumsModel", "sorts", "[I", true)
  | 2 => ("QuasiSumsModel", "troubles", "[I", true)
  | 3 => ("QuasiSumsModel", "troubleMany", "I", false)
  | 4 => ("QuasiSumsModel", "weights", "[I", true)
  | 5 => ("QuasiSumsModel", "numbers", "[J", true)
  | 6 => ("QuasiSumsModel", "made", "[J", true)
  | 7 => ("QuasiSumsModel", "stepRegisters", "[I", true)
  | 8 => ("QuasiSumsModel", "stepWeights", "[I", true)
  | 9 => ("QuasiSumsModel", "stepNumbers", "[J", true)
  | 10 => ("QuasiSumsModel", "steps", "I", false)
  | 11 => ("QuasiSumsModel", "ways", "[I", true)
  | 12 => ("QuasiSumsModel", "things", "I", false)
  | 13 => ("QuasiSumsModel", "under", "[I", true)
  | 14 => ("QuasiSumsModel", "row", "[I", true)
  | 15 => ("QuasiSumsModel", "rowsSeen", "I", false)
  | 16 => ("QuasiSumsModel", "given", "[I", true)
  | 17 => ("QuasiSumsModel", "cells", "[F", true)
  | 18 => ("QuasiSumsModel", "isThere", "[Z", true)
  | 19 => ("QuasiSumsModel", "sizes", "[I", true)
  | 20 => ("QuasiSumsModel", "items", "[I", true)
  | 21 => ("QuasiSumsModel", "moved", "[I", true)
  | 22 => ("QuasiSumsModel", "held", "[I", true)
  | 23 => ("QuasiSumsModel", "heldSizes", "[I", true)
  | 24 => ("QuasiSumsModel", "heldNumbers", "[J", true)
  | 25 => ("QuasiSumsModel", "tape", "[I", true)
  | 26 => ("QuasiSumsModel", "taped", "I", false)
  | 27 => ("QuasiSumsModel", "at", "I", false)
  | 28 => ("QuasiSumsModel", "isWrong", "Z", false)
  | 29 => ("QuasiSumsModel", "terms", "I", false)
  | 30 => ("QuasiSumsModel", "termTimes", "[I", true)
  | 31 => ("QuasiSumsModel", "termIsF", "[Z", true)
  | 32 => ("QuasiSumsModel", "termSums", "[I", true)
  | 33 => ("QuasiSumsModel", "termBits", "[J", true)
  | 34 => ("QuasiSumsModel", "keptWeights", "[I", true)
  | 35 => ("QuasiSumsModel", "keptNumbers", "[J", true)
  | 36 => ("QuasiSumsModel", "keptThings", "I", false)
  | 37 => ("QuasiSumsModel", "keptUnder", "[I", true)
  | 38 => ("QuasiSumsModel", "keptCells", "[F", true)
  | 39 => ("QuasiSumsModel", "keptHeld", "[I", true)
  | 40 => ("QuasiSumsModel", "keptHeldSizes", "[I", true)
  | _ => ("QuasiSumsModel", "keptHeldNumbers", "[J", true)
def tyX12 : Nat → FieldType := fun k => match k with
  | 0 => .boolean
  | 1 => .array .int
  | 2 => .array .int
  | 3 => .int
  | 4 => .array .int
  | 5 => .array .long
  | 6 => .array .long
  | 7 => .array .int
  | 8 => .array .int
  | 9 => .array .long
  | 10 => .int
  | 11 => .array .int
  | 12 => .int
  | 13 => .array .int
  | 14 => .array .int
  | 15 => .int
  | 16 => .array .int
  | 17 => .array .float
  | 18 => .array .boolean
  | 19 => .array .int
  | 20 => .array .int
  | 21 => .array .int
  | 22 => .array .int
  | 23 => .array .int
  | 24 => .array .long
  | 25 => .array .int
  | 26 => .int
  | 27 => .int
  | 28 => .boolean
  | 29 => .int
  | 30 => .array .int
  | 31 => .array .boolean
  | 32 => .array .int
  | 33 => .array .long
  | 34 => .array .int
  | 35 => .array .long
  | 36 => .int
  | 37 => .array .int
  | 38 => .array .float
  | 39 => .array .int
  | 40 => .array .int
  | _ => .array .long
abbrev wsX120 : List Cond := u_ws RX12 TX12 42
theorem nmX12 : ∀ a, a < 42 → ∀ b, b < 42 → a ≠ b → (TX12 a).2.1 ≠ (TX12 b).2.1 := by decide +kernel
theorem tyX12_ok : ∀ k, k < 42 → parseFieldDescriptor (TX12 k).2.2.1 = some (tyX12 k) := by decide +kernel
abbrev cX12_init : ByteArray := prog_14_method_1_code
def yX12_init : MethodName := ⟨RX12, "<init>", "()V"⟩
abbrev cX12_in : ByteArray := prog_14_method_2_code
def yX12_in : MethodName := ⟨RX12, "in", "(III)Z"⟩
abbrev cX12_many : ByteArray := prog_14_method_3_code
def yX12_many : MethodName := ⟨RX12, "many", "(I)I"⟩
abbrev cX12_bits : ByteArray := prog_14_method_4_code
def yX12_bits : MethodName := ⟨RX12, "bits", "(I)I"⟩
abbrev cX12_isFiner : ByteArray := prog_14_method_5_code
def yX12_isFiner : MethodName := ⟨RX12, "isFiner", "(II)Z"⟩
abbrev cX12_length : ByteArray := prog_14_method_6_code
def yX12_length : MethodName := ⟨RX12, "length", "(II)I"⟩
abbrev cX12_turned : ByteArray := prog_14_method_7_code
def yX12_turned : MethodName := ⟨RX12, "turned", "(II)I"⟩
abbrev cX12_numberOf : ByteArray := prog_14_method_8_code
def yX12_numberOf : MethodName := ⟨RX12, "numberOf", "(III)I"⟩
abbrev cX12_over : ByteArray := prog_14_method_9_code
def yX12_over : MethodName := ⟨RX12, "over", "(I)V"⟩
abbrev cX12_plus : ByteArray := prog_14_method_10_code
def yX12_plus : MethodName := ⟨RX12, "plus", "(JJI)J"⟩
abbrev cX12_times : ByteArray := prog_14_method_11_code
def yX12_times : MethodName := ⟨RX12, "times", "(JJI)J"⟩
abbrev cX12_less : ByteArray := prog_14_method_12_code
def yX12_less : MethodName := ⟨RX12, "less", "(JI)J"⟩
abbrev cX12_why : ByteArray := prog_14_method_13_code
def yX12_why : MethodName := ⟨RX12, "why", "(II)I"⟩
abbrev cX12_isRegister : ByteArray := prog_14_method_14_code
def yX12_isRegister : MethodName := ⟨RX12, "isRegister", "(I)Z"⟩
abbrev cX12_isOf : ByteArray := prog_14_method_15_code
def yX12_isOf : MethodName := ⟨RX12, "isOf", "(II)Z"⟩
abbrev cX12_empties : ByteArray := prog_14_method_16_code
def yX12_empties : MethodName := ⟨RX12, "empties", "()V"⟩
abbrev cX12_becomes : ByteArray := prog_14_method_17_code
def yX12_becomes : MethodName := ⟨RX12, "becomes", "(II)V"⟩
abbrev cX12_back : ByteArray := prog_14_method_18_code
def yX12_back : MethodName := ⟨RX12, "back", "()I"⟩
abbrev cX12_takes : ByteArray := prog_14_method_19_code
def yX12_takes : MethodName := ⟨RX12, "takes", "(I)V"⟩
abbrev cX12_zero : ByteArray := prog_14_method_20_code
def yX12_zero : MethodName := ⟨RX12, "zero", "(II)I"⟩
abbrev cX12_put : ByteArray := prog_14_method_21_code
def yX12_put : MethodName := ⟨RX12, "put", "(IIJ)I"⟩
abbrev cX12_of : ByteArray := prog_14_method_22_code
def yX12_of : MethodName := ⟨RX12, "of", "(II)J"⟩
abbrev cX12_addsF : ByteArray := prog_14_method_23_code
def yX12_addsF : MethodName := ⟨RX12, "addsF", "(IIJ)V"⟩
abbrev cX12_fundamental : ByteArray := prog_14_method_24_code
def yX12_fundamental : MethodName := ⟨RX12, "fundamental", "(IIJ)I"⟩
abbrev cX12_inF : ByteArray := prog_14_method_25_code
def yX12_inF : MethodName := ⟨RX12, "inF", "(II)J"⟩
abbrev cX12_told : ByteArray := prog_14_method_26_code
def yX12_told : MethodName := ⟨RX12, "told", "(II)I"⟩
abbrev cX12_composition : ByteArray := prog_14_method_27_code
def yX12_composition : MethodName := ⟨RX12, "composition", "(III)I"⟩
abbrev cX12_sum : ByteArray := prog_14_method_28_code
def yX12_sum : MethodName := ⟨RX12, "sum", "(III)I"⟩
abbrev cX12_goes : ByteArray := prog_14_method_29_code
def yX12_goes : MethodName := ⟨RX12, "goes", "(IIIIIIII)V"⟩
abbrev cX12_multiply : ByteArray := prog_14_method_30_code
def yX12_multiply : MethodName := ⟨RX12, "multiply", "(III)I"⟩
abbrev cX12_antipode : ByteArray := prog_14_method_31_code
def yX12_antipode : MethodName := ⟨RX12, "antipode", "(II)I"⟩
abbrev cX12_cut : ByteArray := prog_14_method_32_code
def yX12_cut : MethodName := ⟨RX12, "cut", "(IIII)J"⟩
abbrev cX12_choices : ByteArray := prog_14_method_33_code
def yX12_choices : MethodName := ⟨RX12, "choices", "(II)J"⟩
abbrev cX12_counts : ByteArray := prog_14_method_34_code
def yX12_counts : MethodName := ⟨RX12, "counts", "(II)J"⟩
abbrev cX12_isThing : ByteArray := prog_14_method_35_code
def yX12_isThing : MethodName := ⟨RX12, "isThing", "(I)Z"⟩
abbrev cX12_isUnder : ByteArray := prog_14_method_36_code
def yX12_isUnder : MethodName := ⟨RX12, "isUnder", "(II)Z"⟩
abbrev cX12_order : ByteArray := prog_14_method_37_code
def yX12_order : MethodName := ⟨RX12, "order", "(I)I"⟩
abbrev cX12_below : ByteArray := prog_14_method_38_code
def yX12_below : MethodName := ⟨RX12, "below", "(II)I"⟩
abbrev cX12_isBelow : ByteArray := prog_14_method_39_code
def yX12_isBelow : MethodName := ⟨RX12, "isBelow", "(II)I"⟩
abbrev cX12_finds : ByteArray := prog_14_method_40_code
def yX12_finds : MethodName := ⟨RX12, "finds", "(III)Z"⟩
abbrev cX12_takesRow : ByteArray := prog_14_method_41_code
def yX12_takesRow : MethodName := ⟨RX12, "takesRow", "(I)Z"⟩
abbrev cX12_rowOf : ByteArray := prog_14_method_42_code
def yX12_rowOf : MethodName := ⟨RX12, "rowOf", "(II)I"⟩
abbrev cX12_descents : ByteArray := prog_14_method_43_code
def yX12_descents : MethodName := ⟨RX12, "descents", "()I"⟩
abbrev cX12_marks : ByteArray := prog_14_method_44_code
def yX12_marks : MethodName := ⟨RX12, "marks", "(II)I"⟩
abbrev cX12_made : ByteArray := prog_14_method_45_code
def yX12_made : MethodName := ⟨RX12, "made", "(I)I"⟩
abbrev cX12_gives : ByteArray := prog_14_method_46_code
def yX12_gives : MethodName := ⟨RX12, "gives", "(II)I"⟩
abbrev cX12_laid : ByteArray := prog_14_method_47_code
def yX12_laid : MethodName := ⟨RX12, "laid", "(I)I"⟩
abbrev cX12_shareOf : ByteArray := prog_14_method_48_code
def yX12_shareOf : MethodName := ⟨RX12, "shareOf", "(II)F"⟩
abbrev cX12_share : ByteArray := prog_14_method_49_code
def yX12_share : MethodName := ⟨RX12, "share", "(II)I"⟩
abbrev cX12_warm : ByteArray := prog_14_method_50_code
def yX12_warm : MethodName := ⟨RX12, "warm", "(III)I"⟩
abbrev cX12_warmth : ByteArray := prog_14_method_51_code
def yX12_warmth : MethodName := ⟨RX12, "warmth", "(I)J"⟩
abbrev cX12_isRow : ByteArray := prog_14_method_52_code
def yX12_isRow : MethodName := ⟨RX12, "isRow", "(I)Z"⟩
abbrev cX12_row : ByteArray := prog_14_method_53_code
def yX12_row : MethodName := ⟨RX12, "row", "(II)I"⟩
abbrev cX12_lay : ByteArray := prog_14_method_54_code
def yX12_lay : MethodName := ⟨RX12, "lay", "(III)I"⟩
abbrev cX12_get : ByteArray := prog_14_method_55_code
def yX12_get : MethodName := ⟨RX12, "get", "(II)J"⟩
abbrev cX12_copy : ByteArray := prog_14_method_56_code
def yX12_copy : MethodName := ⟨RX12, "copy", "(IIIII)I"⟩
abbrev cX12_film : ByteArray := prog_14_method_57_code
def yX12_film : MethodName := ⟨RX12, "film", "(II)I"⟩
abbrev cX12_judge : ByteArray := prog_14_method_58_code
def yX12_judge : MethodName := ⟨RX12, "judge", "(I)I"⟩
abbrev cX12_isRack : ByteArray := prog_14_method_59_code
def yX12_isRack : MethodName := ⟨RX12, "isRack", "(I)Z"⟩
abbrev cX12_store : ByteArray := prog_14_method_60_code
def yX12_store : MethodName := ⟨RX12, "store", "(IIII)I"⟩
abbrev cX12_fetch : ByteArray := prog_14_method_61_code
def yX12_fetch : MethodName := ⟨RX12, "fetch", "(III)I"⟩
abbrev cX12_holds : ByteArray := prog_14_method_62_code
def yX12_holds : MethodName := ⟨RX12, "holds", "(II)I"⟩
abbrev cX12_feed : ByteArray := prog_14_method_63_code
def yX12_feed : MethodName := ⟨RX12, "feed", "(I)I"⟩
abbrev cX12_wipe : ByteArray := prog_14_method_64_code
def yX12_wipe : MethodName := ⟨RX12, "wipe", "()I"⟩
abbrev cX12_here : ByteArray := prog_14_method_65_code
def yX12_here : MethodName := ⟨RX12, "here", "()I"⟩
abbrev cX12_must : ByteArray := prog_14_method_66_code
def yX12_must : MethodName := ⟨RX12, "must", "(I)V"⟩
abbrev cX12_figure : ByteArray := prog_14_method_67_code
def yX12_figure : MethodName := ⟨RX12, "figure", "()V"⟩
abbrev cX12_term : ByteArray := prog_14_method_68_code
def yX12_term : MethodName := ⟨RX12, "term", "(I)V"⟩
abbrev cX12_because : ByteArray := prog_14_method_69_code
def yX12_because : MethodName := ⟨RX12, "because", "(II)V"⟩
abbrev cX12_isFault : ByteArray := prog_14_method_70_code
def yX12_isFault : MethodName := ⟨RX12, "isFault", "()Z"⟩
abbrev cX12_read : ByteArray := prog_14_method_71_code
def yX12_read : MethodName := ⟨RX12, "read", "(I)I"⟩
abbrev cX12_all : ByteArray := prog_14_method_72_code
def yX12_all : MethodName := ⟨RX12, "all", "()I"⟩
abbrev cX12_image : ByteArray := prog_14_method_73_code
def yX12_image : MethodName := ⟨RX12, "image", "()I"⟩
abbrev cX12_restore : ByteArray := prog_14_method_74_code
def yX12_restore : MethodName := ⟨RX12, "restore", "()I"⟩
abbrev cX12_count : ByteArray := prog_14_method_75_code
def yX12_count : MethodName := ⟨RX12, "count", "(I)I"⟩
def RJx145de : String := "java/io/Serializable"
def TJx145de : u_T := fun k => match k with
  | _ => ("", "", "", false)
def tyJx145de : Nat → FieldType := fun k => match k with
  | _ => .int
abbrev wsJx145de0 : List Cond := u_ws RJx145de TJx145de 0
theorem nmJx145de : ∀ a, a < 0 → ∀ b, b < 0 → a ≠ b → (TJx145de a).2.1 ≠ (TJx145de b).2.1 := by decide +kernel
theorem tyJx145de_ok : ∀ k, k < 0 → parseFieldDescriptor (TJx145de k).2.2.1 = some (tyJx145de k) := by decide +kernel
def RJx8e188 : String := "java/lang/Cloneable"
def TJx8e188 : u_T := fun k => match k with
  | _ => ("", "", "", false)
def tyJx8e188 : Nat → FieldType := fun k => match k with
  | _ => .int
abbrev wsJx8e1880 : List Cond := u_ws RJx8e188 TJx8e188 0
theorem nmJx8e188 : ∀ a, a < 0 → ∀ b, b < 0 → a ≠ b → (TJx8e188 a).2.1 ≠ (TJx8e188 b).2.1 := by decide +kernel
theorem tyJx8e188_ok : ∀ k, k < 0 → parseFieldDescriptor (TJx8e188 k).2.2.1 = some (tyJx8e188 k) := by decide +kernel
def RJxb160c : String := "java/lang/Comparable"
def TJxb160c : u_T := fun k => match k with
  | _ => ("", "", "", false)
def tyJxb160c : Nat → FieldType := fun k => match k with
  | _ => .int
abbrev wsJxb160c0 : List Cond := u_ws RJxb160c TJxb160c 0
theorem nmJxb160c : ∀ a, a < 0 → ∀ b, b < 0 → a ≠ b → (TJxb160c a).2.1 ≠ (TJxb160c b).2.1 := by decide +kernel
theorem tyJxb160c_ok : ∀ k, k < 0 → parseFieldDescriptor (TJxb160c k).2.2.1 = some (tyJxb160c k) := by decide +kernel
def RJxe99ae : String := "java/lang/Double"
def TJxe99ae : u_T := fun k => match k with
  | _ => ("", "", "", false)
def tyJxe99ae : Nat → FieldType := fun k => match k with
  | _ => .int
abbrev wsJxe99ae0 : List Cond := u_ws RJxe99ae TJxe99ae 0
theorem nmJxe99ae : ∀ a, a < 0 → ∀ b, b < 0 → a ≠ b → (TJxe99ae a).2.1 ≠ (TJxe99ae b).2.1 := by decide +kernel
theorem tyJxe99ae_ok : ∀ k, k < 0 → parseFieldDescriptor (TJxe99ae k).2.2.1 = some (tyJxe99ae k) := by decide +kernel
abbrev cJxe99ae_isNaN_b9ae7 : ByteArray := prog_17_method_6_code
def yJxe99ae_isNaN_b9ae7 : MethodName := ⟨RJxe99ae, "isNaN", "(D)Z"⟩
abbrev cJxe99ae_doubleToLongBits_ccdee : ByteArray := prog_17_method_23_code
def yJxe99ae_doubleToLongBits_ccdee : MethodName := ⟨RJxe99ae, "doubleToLongBits", "(D)J"⟩
def RJxf58ca : String := "java/lang/Float"
def TJxf58ca : u_T := fun k => match k with
  | _ => ("", "", "", false)
def tyJxf58ca : Nat → FieldType := fun k => match k with
  | _ => .int
abbrev wsJxf58ca0 : List Cond := u_ws RJxf58ca TJxf58ca 0
theorem nmJxf58ca : ∀ a, a < 0 → ∀ b, b < 0 → a ≠ b → (TJxf58ca a).2.1 ≠ (TJxf58ca b).2.1 := by decide +kernel
theorem tyJxf58ca_ok : ∀ k, k < 0 → parseFieldDescriptor (TJxf58ca k).2.2.1 = some (tyJxf58ca k) := by decide +kernel
abbrev cJxf58ca_isNaN_12338 : ByteArray := prog_18_method_6_code
def yJxf58ca_isNaN_12338 : MethodName := ⟨RJxf58ca, "isNaN", "(F)Z"⟩
abbrev cJxf58ca_floatToIntBits_5c35a : ByteArray := prog_18_method_24_code
def yJxf58ca_floatToIntBits_5c35a : MethodName := ⟨RJxf58ca, "floatToIntBits", "(F)I"⟩
def RJ6 : String := "java/lang/Integer"
def TJ6 : u_T := fun k => match k with
  | _ => ("", "", "", false)
def tyJ6 : Nat → FieldType := fun k => match k with
  | _ => .int
abbrev wsJ60 : List Cond := u_ws RJ6 TJ6 0
theorem nmJ6 : ∀ a, a < 0 → ∀ b, b < 0 → a ≠ b → (TJ6 a).2.1 ≠ (TJ6 b).2.1 := by decide +kernel
theorem tyJ6_ok : ∀ k, k < 0 → parseFieldDescriptor (TJ6 k).2.2.1 = some (tyJ6 k) := by decide +kernel
abbrev cJ6_bitCount_0f7a4 : ByteArray := prog_19_method_49_code
def yJ6_bitCount_0f7a4 : MethodName := ⟨RJ6, "bitCount", "(I)I"⟩
def RJxab1ab : String := "java/lang/Iterable"
def TJxab1ab : u_T := fun k => match k with
  | _ => ("", "", "", false)
def tyJxab1ab : Nat → FieldType := fun k => match k with
  | _ => .int
abbrev wsJxab1ab0 : List Cond := u_ws RJxab1ab TJxab1ab 0
theorem nmJxab1ab : ∀ a, a < 0 → ∀ b, b < 0 → a ≠ b → (TJxab1ab a).2.1 ≠ (TJxab1ab b).2.1 := by decide +kernel
theorem tyJxab1ab_ok : ∀ k, k < 0 → parseFieldDescriptor (TJxab1ab k).2.2.1 = some (tyJxab1ab k) := by decide +kernel
def RJ9 : String := "java/lang/Math"
def TJ9 : u_T := fun k => match k with
  | _ => ("", "", "", false)
def tyJ9 : Nat → FieldType := fun k => match k with
  | _ => .int
abbrev wsJ90 : List Cond := u_ws RJ9 TJ9 0
theorem nmJ9 : ∀ a, a < 0 → ∀ b, b < 0 → a ≠ b → (TJ9 a).2.1 ≠ (TJ9 b).2.1 := by decide +kernel
theorem tyJ9_ok : ∀ k, k < 0 → parseFieldDescriptor (TJ9 k).2.2.1 = some (tyJ9 k) := by decide +kernel
abbrev cJ9_abs_f6c48 : ByteArray := prog_21_method_63_code
def yJ9_abs_f6c48 : MethodName := ⟨RJ9, "abs", "(F)F"⟩
abbrev cJ9_max_7cf53 : ByteArray := prog_21_method_65_code
def yJ9_max_7cf53 : MethodName := ⟨RJ9, "max", "(II)I"⟩
abbrev cJ9_min_7cf53 : ByteArray := prog_21_method_69_code
def yJ9_min_7cf53 : MethodName := ⟨RJ9, "min", "(II)I"⟩
def RJxd2413 : String := "java/lang/Number"
def TJxd2413 : u_T := fun k => match k with
  | _ => ("", "", "", false)
def tyJxd2413 : Nat → FieldType := fun k => match k with
  | _ => .int
abbrev wsJxd24130 : List Cond := u_ws RJxd2413 TJxd2413 0
theorem nmJxd2413 : ∀ a, a < 0 → ∀ b, b < 0 → a ≠ b → (TJxd2413 a).2.1 ≠ (TJxd2413 b).2.1 := by decide +kernel
theorem tyJxd2413_ok : ∀ k, k < 0 → parseFieldDescriptor (TJxd2413 k).2.2.1 = some (tyJxd2413 k) := by decide +kernel
def RJ10 : String := "java/lang/System"
def TJ10 : u_T := fun k => match k with
  | _ => ("", "", "", false)
def tyJ10 : Nat → FieldType := fun k => match k with
  | _ => .int
abbrev wsJ100 : List Cond := u_ws RJ10 TJ10 0
theorem nmJ10 : ∀ a, a < 0 → ∀ b, b < 0 → a ≠ b → (TJ10 a).2.1 ≠ (TJ10 b).2.1 := by decide +kernel
theorem tyJ10_ok : ∀ k, k < 0 → parseFieldDescriptor (TJ10 k).2.2.1 = some (tyJ10 k) := by decide +kernel
def RJxfd54e : String := "java/lang/constant/Constable"
def TJxfd54e : u_T := fun k => match k with
  | _ => ("", "", "", false)
def tyJxfd54e : Nat → FieldType := fun k => match k with
  | _ => .int
abbrev wsJxfd54e0 : List Cond := u_ws RJxfd54e TJxfd54e 0
theorem nmJxfd54e : ∀ a, a < 0 → ∀ b, b < 0 → a ≠ b → (TJxfd54e a).2.1 ≠ (TJxfd54e b).2.1 := by decide +kernel
theorem tyJxfd54e_ok : ∀ k, k < 0 → parseFieldDescriptor (TJxfd54e k).2.2.1 = some (tyJxfd54e k) := by decide +kernel
def RJx3cf43 : String := "java/lang/constant/ConstantDesc"
def TJx3cf43 : u_T := fun k => match k with
  | _ => ("", "", "", false)
def tyJx3cf43 : Nat → FieldType := fun k => match k with
  | _ => .int
abbrev wsJx3cf430 : List Cond := u_ws RJx3cf43 TJx3cf43 0
theorem nmJx3cf43 : ∀ a, a < 0 → ∀ b, b < 0 → a ≠ b → (TJx3cf43 a).2.1 ≠ (TJx3cf43 b).2.1 := by decide +kernel
theorem tyJx3cf43_ok : ∀ k, k < 0 → parseFieldDescriptor (TJx3cf43 k).2.2.1 = some (tyJx3cf43 k) := by decide +kernel
def RJxa1e45 : String := "java/util/AbstractCollection"
def TJxa1e45 : u_T := fun k => match k with
  | _ => ("", "", "", false)
def tyJxa1e45 : Nat → FieldType := fun k => match k with
  | _ => .int
abbrev wsJxa1e450 : List Cond := u_ws RJxa1e45 TJxa1e45 0
theorem nmJxa1e45 : ∀ a, a < 0 → ∀ b, b < 0 → a ≠ b → (TJxa1e45 a).2.1 ≠ (TJxa1e45 b).2.1 := by decide +kernel
theorem tyJxa1e45_ok : ∀ k, k < 0 → parseFieldDescriptor (TJxa1e45 k).2.2.1 = some (tyJxa1e45 k) := by decide +kernel
abbrev cJxa1e45_init_da8c8 : ByteArray := prog_24_method_1_code
def yJxa1e45_init_da8c8 : MethodName := ⟨RJxa1e45, "<init>", "()V"⟩
def RJxc12de : String := "java/util/AbstractList"
def TJxc12de : u_T := fun k => match k with
  | _ => ("", "", "", false)
def tyJxc12de : Nat → FieldType := fun k => match k with
  | _ => .int
abbrev wsJxc12de0 : List Cond := u_ws RJxc12de TJxc12de 0
theorem nmJxc12de : ∀ a, a < 0 → ∀ b, b < 0 → a ≠ b → (TJxc12de a).2.1 ≠ (TJxc12de b).2.1 := by decide +kernel
theorem tyJxc12de_ok : ∀ k, k < 0 → parseFieldDescriptor (TJxc12de k).2.2.1 = some (tyJxc12de k) := by decide +kernel
abbrev cJxc12de_init_da8c8 : ByteArray := prog_25_method_1_code
def yJxc12de_init_da8c8 : MethodName := ⟨RJxc12de, "<init>", "()V"⟩
def RJx4a65c : String := "java/util/ArrayList"
def TJx4a65c : u_T := fun k => match k with
  | 0 => ("java/util/AbstractList", "modCount", "I", false)
  | 1 => ("java/util/ArrayList", "elementData", "[Ljava/lang/Object;", false)
  | _ => ("java/util/ArrayList", "size", "I", false)
def tyJx4a65c : Nat → FieldType := fun k => match k with
  | 0 => .int
  | 1 => .array (.object "java/lang/Object")
  | _ => .int
abbrev wsJx4a65c0 : List Cond := u_ws RJx4a65c TJx4a65c 3
theorem nmJx4a65c : ∀ a, a < 3 → ∀ b, b < 3 → a ≠ b → (TJx4a65c a).2.1 ≠ (TJx4a65c b).2.1 := by decide +kernel
theorem tyJx4a65c_ok : ∀ k, k < 3 → parseFieldDescriptor (TJx4a65c k).2.2.1 = some (tyJx4a65c k) := by decide +kernel
abbrev cJx4a65c_init_da8c8 : ByteArray := prog_26_method_2_code
def yJx4a65c_init_da8c8 : MethodName := ⟨RJx4a65c, "<init>", "()V"⟩
abbrev cJx4a65c_grow_92f84 : ByteArray := prog_26_method_6_code
def yJx4a65c_grow_92f84 : MethodName := ⟨RJx4a65c, "grow", "(I)[Ljava/lang/Object;"⟩
abbrev cJx4a65c_grow_d5877 : ByteArray := prog_26_method_7_code
def yJx4a65c_grow_d5877 : MethodName := ⟨RJx4a65c, "grow", "()[Ljava/lang/Object;"⟩
abbrev cJx4a65c_size_8abf5 : ByteArray := prog_26_method_8_code
def yJx4a65c_size_8abf5 : MethodName := ⟨RJx4a65c, "size", "()I"⟩
abbrev cJx4a65c_isEmpty_aae02 : ByteArray := prog_26_method_9_code
def yJx4a65c_isEmpty_aae02 : MethodName := ⟨RJx4a65c, "isEmpty", "()Z"⟩
abbrev cJx4a65c_elementData_915e3 : ByteArray := prog_26_method_18_code
def yJx4a65c_elementData_915e3 : MethodName := ⟨RJx4a65c, "elementData", "(I)Ljava/lang/Object;"⟩
abbrev cJx4a65c_get_915e3 : ByteArray := prog_26_method_20_code
def yJx4a65c_get_915e3 : MethodName := ⟨RJx4a65c, "get", "(I)Ljava/lang/Object;"⟩
abbrev cJx4a65c_add_72be8 : ByteArray := prog_26_method_24_code
def yJx4a65c_add_72be8 : MethodName := ⟨RJx4a65c, "add", "(Ljava/lang/Object;[Ljava/lang/Object;I)V"⟩
abbrev cJx4a65c_add_9ea2d : ByteArray := prog_26_method_25_code
def yJx4a65c_add_9ea2d : MethodName := ⟨RJx4a65c, "add", "(Ljava/lang/Object;)Z"⟩
abbrev cJx4a65c_remove_915e3 : ByteArray := prog_26_method_29_code
def yJx4a65c_remove_915e3 : MethodName := ⟨RJx4a65c, "remove", "(I)Ljava/lang/Object;"⟩
abbrev cJx4a65c_fastRemove_b59b0 : ByteArray := prog_26_method_39_code
def yJx4a65c_fastRemove_b59b0 : MethodName := ⟨RJx4a65c, "fastRemove", "([Ljava/lang/Object;I)V"⟩
abbrev cJx4a65c_clear_da8c8 : ByteArray := prog_26_method_40_code
def yJx4a65c_clear_da8c8 : MethodName := ⟨RJx4a65c, "clear", "()V"⟩
def RJ7 : String := "java/util/Arrays"
def TJ7 : u_T := fun k => match k with
  | _ => ("", "", "", false)
def tyJ7 : Nat → FieldType := fun k => match k with
  | _ => .int
abbrev wsJ70 : List Cond := u_ws RJ7 TJ7 0
theorem nmJ7 : ∀ a, a < 0 → ∀ b, b < 0 → a ≠ b → (TJ7 a).2.1 ≠ (TJ7 b).2.1 := by decide +kernel
theorem tyJ7_ok : ∀ k, k < 0 → parseFieldDescriptor (TJ7 k).2.2.1 = some (tyJ7 k) := by decide +kernel
abbrev cJ7_fill_53178 : ByteArray := prog_27_method_103_code
def yJ7_fill_53178 : MethodName := ⟨RJ7, "fill", "([II)V"⟩
abbrev cJ7_copyOf_1904c : ByteArray := prog_27_method_119_code
def yJ7_copyOf_1904c : MethodName := ⟨RJ7, "copyOf", "([Ljava/lang/Object;I)[Ljava/lang/Object;"⟩
abbrev cJ7_copyOf_6403c : ByteArray := prog_27_method_120_code
def yJ7_copyOf_6403c : MethodName := ⟨RJ7, "copyOf", "([Ljava/lang/Object;ILjava/lang/Class;)[Ljava/lang/Object;"⟩
def RJx5ef63 : String := "java/util/Collection"
def TJx5ef63 : u_T := fun k => match k with
  | _ => ("", "", "", false)
def tyJx5ef63 : Nat → FieldType := fun k => match k with
  | _ => .int
abbrev wsJx5ef630 : List Cond := u_ws RJx5ef63 TJx5ef63 0
theorem nmJx5ef63 : ∀ a, a < 0 → ∀ b, b < 0 → a ≠ b → (TJx5ef63 a).2.1 ≠ (TJx5ef63 b).2.1 := by decide +kernel
theorem tyJx5ef63_ok : ∀ k, k < 0 → parseFieldDescriptor (TJx5ef63 k).2.2.1 = some (tyJx5ef63 k) := by decide +kernel
def RJxbd725 : String := "java/util/List"
def TJxbd725 : u_T := fun k => match k with
  | _ => ("", "", "", false)
def tyJxbd725 : Nat → FieldType := fun k => match k with
  | _ => .int
abbrev wsJxbd7250 : List Cond := u_ws RJxbd725 TJxbd725 0
theorem nmJxbd725 : ∀ a, a < 0 → ∀ b, b < 0 → a ≠ b → (TJxbd725 a).2.1 ≠ (TJxbd725 b).2.1 := by decide +kernel
theorem tyJxbd725_ok : ∀ k, k < 0 → parseFieldDescriptor (TJxbd725 k).2.2.1 = some (tyJxbd725 k) := by decide +kernel
def RJ15 : String := "java/util/Objects"
def TJ15 : u_T := fun k => match k with
  | _ => ("", "", "", false)
def tyJ15 : Nat → FieldType := fun k => match k with
  | _ => .int
abbrev wsJ150 : List Cond := u_ws RJ15 TJ15 0
theorem nmJ15 : ∀ a, a < 0 → ∀ b, b < 0 → a ≠ b → (TJ15 a).2.1 ≠ (TJ15 b).2.1 := by decide +kernel
theorem tyJ15_ok : ∀ k, k < 0 → parseFieldDescriptor (TJ15 k).2.2.1 = some (tyJ15 k) := by decide +kernel
abbrev cJ15_checkIndex_7cf53 : ByteArray := prog_30_method_17_code
def yJ15_checkIndex_7cf53 : MethodName := ⟨RJ15, "checkIndex", "(II)I"⟩
def RJxf0a74 : String := "java/util/RandomAccess"
def TJxf0a74 : u_T := fun k => match k with
  | _ => ("", "", "", false)
def tyJxf0a74 : Nat → FieldType := fun k => match k with
  | _ => .int
abbrev wsJxf0a740 : List Cond := u_ws RJxf0a74 TJxf0a74 0
theorem nmJxf0a74 : ∀ a, a < 0 → ∀ b, b < 0 → a ≠ b → (TJxf0a74 a).2.1 ≠ (TJxf0a74 b).2.1 := by decide +kernel
theorem tyJxf0a74_ok : ∀ k, k < 0 → parseFieldDescriptor (TJxf0a74 k).2.2.1 = some (tyJxf0a74 k) := by decide +kernel
def RJxa66e6 : String := "java/util/SequencedCollection"
def TJxa66e6 : u_T := fun k => match k with
  | _ => ("", "", "", false)
def tyJxa66e6 : Nat → FieldType := fun k => match k with
  | _ => .int
abbrev wsJxa66e60 : List Cond := u_ws RJxa66e6 TJxa66e6 0
theorem nmJxa66e6 : ∀ a, a < 0 → ∀ b, b < 0 → a ≠ b → (TJxa66e6 a).2.1 ≠ (TJxa66e6 b).2.1 := by decide +kernel
theorem tyJxa66e6_ok : ∀ k, k < 0 → parseFieldDescriptor (TJxa66e6 k).2.2.1 = some (tyJxa66e6 k) := by decide +kernel
def RJ8 : String := "jdk/internal/util/ArraysSupport"
def TJ8 : u_T := fun k => match k with
  | _ => ("", "", "", false)
def tyJ8 : Nat → FieldType := fun k => match k with
  | _ => .int
abbrev wsJ80 : List Cond := u_ws RJ8 TJ8 0
theorem nmJ8 : ∀ a, a < 0 → ∀ b, b < 0 → a ≠ b → (TJ8 a).2.1 ≠ (TJ8 b).2.1 := by decide +kernel
theorem tyJ8_ok : ∀ k, k < 0 → parseFieldDescriptor (TJ8 k).2.2.1 = some (tyJ8 k) := by decide +kernel
abbrev cJ8_newLength_cabcc : ByteArray := prog_33_method_27_code
def yJ8_newLength_cabcc : MethodName := ⟨RJ8, "newLength", "(III)I"⟩
abbrev cJ8_hugeLength_7cf53 : ByteArray := prog_33_method_28_code
def yJ8_hugeLength_7cf53 : MethodName := ⟨RJ8, "hugeLength", "(II)I"⟩
def RJ3 : String := "jdk/internal/util/Preconditions"
def TJ3 : u_T := fun k => match k with
  | _ => ("", "", "", false)
def tyJ3 : Nat → FieldType := fun k => match k with
  | _ => .int
abbrev wsJ30 : List Cond := u_ws RJ3 TJ3 0
theorem nmJ3 : ∀ a, a < 0 → ∀ b, b < 0 → a ≠ b → (TJ3 a).2.1 ≠ (TJ3 b).2.1 := by decide +kernel
theorem tyJ3_ok : ∀ k, k < 0 → parseFieldDescriptor (TJ3 k).2.2.1 = some (tyJ3 k) := by decide +kernel
abbrev cJ3_checkIndex_8e157 : ByteArray := prog_34_method_11_code
def yJ3_checkIndex_8e157 : MethodName := ⟨RJ3, "checkIndex", "(IILjava/util/function/BiFunction;)I"⟩
def RL : String := "QuasiSumsLaw"
abbrev cL_law : ByteArray := code
def yL_law : MethodName := ⟨RL, "law", "([I)Z"⟩
abbrev vwCl : List vw_C := [(RJx4a65c, TJx4a65c, 3), (RX1, TX1, 4), (RX3, TX3, 2), (RX4, TX4, 3), (RX5, TX5, 5), (RX6, TX6, 1), (RX7, TX7, 2), (RX8, TX8, 2), (RX9, TX9, 4), (RX10, TX10, 3), (RX11, TX11, 10), (RX12, TX12, 42)]
/-! which words of the tables hold the fields of each made class -/
theorem jin0 : ∀ w ∈ u_ws RJx4a65c TJx4a65c 3, w ∈ lw_tbl := by decide +kernel
theorem jin1 : ∀ w ∈ u_ws RX1 TX1 4, w ∈ lw_tbl := by decide +kernel
theorem jin2 : ∀ w ∈ u_ws RX3 TX3 2, w ∈ lw_tbl := by decide +kernel
theorem jin3 : ∀ w ∈ u_ws RX4 TX4 3, w ∈ lw_tbl := by decide +kernel
theorem jin4 : ∀ w ∈ u_ws RX5 TX5 5, w ∈ lw_tbl := by decide +kernel
theorem jin5 : ∀ w ∈ u_ws RX6 TX6 1, w ∈ lw_tbl := by decide +kernel
theorem jin6 : ∀ w ∈ u_ws RX7 TX7 2, w ∈ lw_tbl := by decide +kernel
theorem jin7 : ∀ w ∈ u_ws RX8 TX8 2, w ∈ lw_tbl := by decide +kernel
theorem jin8 : ∀ w ∈ u_ws RX9 TX9 4, w ∈ lw_tbl := by decide +kernel
theorem jin9 : ∀ w ∈ u_ws RX10 TX10 3, w ∈ lw_tbl := by decide +kernel
theorem jin10 : ∀ w ∈ u_ws RX11 TX11 10, w ∈ lw_tbl := by decide +kernel
theorem jin11 : ∀ w ∈ u_ws RX12 TX12 42, w ∈ lw_tbl := by decide +kernel
/-- words that a warmed machine keeps -/
def jgw (w : Cond) : Bool := match w with
  | .fieldLinkNest .. => true
  | .methodLinkNest .. => true
  | .castable .. => true
  | .declares .. => true
  | w => goodWord w
end
section
/-! THE ENGINE, first half: an abstract machine over a list of cells at places 0, 1, 2 .. (place 0: the empty row that the JDK keeps, place 1: the script, place k + 2: the k-th cell made since the start) -/
def jT : List Cond := lw_tbl.filter jgw
theorem jT_warm {w : Cond} (hw : jgw w = true) {s U : State} (hW : s.WarmedH U.vm) (h : va_Nw w s) : va_Nw w U := by
  unfold jgw at hw
  split at hw
  · exact va_Nw.warmF hW h
  · exact va_Nw.warmM hW h
  · exact va_Nw.warmC hW h
  · exact va_Nw.warmD hW h
  · exact word_at hW (good_of_word hw) h
theorem jT_tabs {w : Cond} (hw : jgw w = true) {u U : State} (hvm : u.vm = U.vm) (h : va_Nw w u) : va_Nw w U := by
  exact jT_warm hw (by rw [← hvm]; exact State.WarmedH.refl u) h
/-- g: (start of the made cells, the script's cell, the JDK's empty row, the script's length), the script, class numbers and slots, array classes -/
abbrev jg : Type := (Nat × Nat × Nat × Nat) × (Nat → Int32) × va_G × (FieldType → ClassId)
def jad (g : jg) (k : Nat) : Nat := match k with
  | 0 => g.1.2.2.1
  | 1 => g.1.2.1
  | k + 2 => g.1.1 + k
def jtr (g : jg) (v : Value) : Value := match v with
  | .ref k => .ref (jad g k)
  | w => w
abbrev jC : Type := (FieldType × vp_A) ⊕ (Nat × List Value)
abbrev jZ : Type := (Nat → Int32) ⊕ (Nat → Int64) ⊕ (Nat → UInt32) ⊕ (Nat → UInt64) ⊕ (Nat → Option Nat)
def jE (g : jg) (c : jC) : va_E := match c with
  | .inl (ty, n, .inl f) => .inl (g.2.2.2 ty, n, .inl f)
  | .inl (ty, n, .inr (.inl f)) => .inl (g.2.2.2 ty, n, .inr (.inl f))
  | .inl (ty, n, .inr (.inr (.inl f))) => .inl (g.2.2.2 ty, n, .inr (.inr (.inl f)))
  | .inl (ty, n, .inr (.inr (.inr (.inl f)))) => .inl (g.2.2.2 ty, n, .inr (.inr (.inr (.inl f))))
  | .inl (ty, n, .inr (.inr (.inr (.inr f)))) => .inl (g.2.2.2 ty, n, .inr (.inr (.inr (.inr (fun j => (f j).map (jad g))))))
  | .inr (ci, vs) => .inr (ci, vs.map (jtr g))
def jD : jC := .inl (.object "java/lang/Object", 0, .inr (.inr (.inr (.inr (fun _ => none)))))
def jX (g : jg) : jC := .inl (.byte, g.1.2.2.2, .inl g.2.1)
def jws (g : jg) (h : List jC) : va_W := (h.drop 2).zipIdx.map (fun q => (g.1.1 + q.2, jE g q.1))
theorem jws_get (g : jg) (h : List jC) (k : Nat) : (jws g h)[k]? = (h[k + 2]?).map (fun c => (g.1.1 + k, jE g c)) := by
  unfold jws
  rw [List.getElem?_map, List.getElem?_zipIdx, List.getElem?_drop]
  rw [Nat.add_comm 2 k]
  cases h[k + 2]? <;> simp
theorem jws_len (g : jg) (h : List jC) : (jws g h).length = h.length - 2 := by simp [jws]
theorem jws_set (g : jg) (h : List jC) (k : Nat) (c : jC) : jws g (h.set (k + 2) c) = (jws g h).set k (g.1.1 + k, jE g c) := by
  apply List.ext_getElem?
  intro j
  rw [jws_get]
  by_cases hj : k = j
  · subst hj
    by_cases hl : k + 2 < h.length
    · rw [List.getElem?_set_self hl, List.getElem?_set_self (by rw [jws_len]; omega)]
      rfl
    · rw [List.getElem?_eq_none (by simp; omega), List.getElem?_eq_none (by rw [List.length_set, jws_len]; omega)]
      rfl
  · rw [List.getElem?_set_ne (by omega), List.getElem?_set_ne hj, jws_get]
theorem jws_push (g : jg) (h : List jC) (c : jC) (h2 : 2 ≤ h.length) : jws g (h ++ [c]) = jws g h ++ [(g.1.1 + (h.length - 2), jE g c)] := by
  apply List.ext_getElem?
  intro j
  rw [jws_get]
  by_cases hj : j < h.length - 2
  · rw [List.getElem?_append_left (by omega), List.getElem?_append_left (by rw [jws_len]; omega), jws_get]
  · rw [List.getElem?_append_right (by omega), List.getElem?_append_right (by rw [jws_len]; omega), jws_len]
    by_cases hz : j = h.length - 2
    · subst hz
      rw [show h.length - 2 + 2 - h.length = 0 by omega, Nat.sub_self]
      rfl
    · rw [List.getElem?_eq_none (by simp; omega), List.getElem?_eq_none (by simp; omega)]
      rfl
/-- the kinds of rows that are made -/
def jtys : List FieldType := [.int, .long, .float, .boolean, .object "QuasiSums$Sum", .object "QuasiSums$Item", .object "QuasiSums$Row", .object "java/lang/Object"]
def jok (c : jC) : Prop := match c with
  | .inl (ty, n, _) => ty ∈ jtys ∧ n ≤ 100000
  | .inr _ => True
def jP (g : jg) (h : List jC) (H : Heap) : Prop := H.size + 2 = g.1.1 + h.length ∧ h[0]? = some jD ∧ h[1]? = some (jX g) ∧ va_P g.2.2.1 vwCl (jws g h) H ∧ ∀ (k : Nat) (c : jC), h[k + 2]? = some c → jok c
theorem jP.two {g : jg} {h : List jC} {H : Heap} (hP : jP g h H) : 2 ≤ h.length := (List.getElem?_eq_some_iff.mp hP.2.2.1).1
def jA (g : jg) : Nat → Prop := fun q => g.1.1 ≤ q
theorem jws_D (g : jg) (h : List jC) : va_D (jA g) (jws g h) := by
  refine ⟨fun i j p q hi hj hpq => ?_, fun k q hk => ?_⟩
  · rw [jws_get] at hi hj
    obtain ⟨c1, -, rfl⟩ := Option.map_eq_some_iff.mp hi
    obtain ⟨c2, -, rfl⟩ := Option.map_eq_some_iff.mp hj
    have : g.1.1 + i = g.1.1 + j := hpq
    omega
  · rw [jws_get] at hk
    obtain ⟨c1, -, rfl⟩ := Option.map_eq_some_iff.mp hk
    exact Nat.le_add_right _ _
theorem jws_at {g : jg} {h : List jC} {k : Nat} {c : jC} (hk : h[k + 2]? = some c) : (jws g h)[k]? = some (g.1.1 + k, jE g c) := by rw [jws_get, hk]; rfl
/-- behind a write at a made cell -/
theorem jP.upd {g : jg} {h : List jC} {H H1 : Heap} (hP : jP g h H) {k : Nat} {c0 c : jC} (hk : h[k + 2]? = some c0) (hz : H1.size = H.size) (oq : ∀ q : Nat, q ≠ g.1.1 + k → H1[q]? = H[q]?) (he : va_at g.2.2.1 vwCl (g.1.1 + k, jE g c) H1) (hok : jok c) : jP g (h.set (k + 2) c) H1 := by
  have hl := (List.getElem?_eq_some_iff.mp hk).1
  refine ⟨by rw [hz, List.length_set]; exact hP.1, ?_, ?_, ?_, fun j x hj => ?_⟩
  · rw [List.getElem?_set_ne (by omega)]; exact hP.2.1
  · rw [List.getElem?_set_ne (by omega)]; exact hP.2.2.1
  · rw [jws_set]; exact hP.2.2.2.1.set (jws_D g h) (jws_at hk) he oq
  · by_cases e : k = j
    · subst e
      rw [List.getElem?_set_self hl] at hj
      cases hj
      exact hok
    · rw [List.getElem?_set_ne (by omega)] at hj
      exact hP.2.2.2.2 j x hj
theorem jP.new {g : jg} {h : List jC} {H H1 : Heap} (hP : jP g h H) {c : jC} (hz : H1.size = H.size + 1) (oq : ∀ q : Nat, q < H.size → H1[q]? = H[q]?) (he : va_at g.2.2.1 vwCl (H.size, jE g c) H1) (hok : jok c) : jP g (h ++ [c]) H1 := by
  have h2 := hP.two
  have h1 := hP.1
  refine ⟨by rw [hz, List.length_append]; simp; omega, ?_, ?_, ?_, fun j x hj => ?_⟩
  · rw [List.getElem?_append_left (by omega)]; exact hP.2.1
  · rw [List.getElem?_append_left (by omega)]; exact hP.2.2.1
  · rw [jws_push g h c h2]
    refine (hP.2.2.2.1.kept (fun k q hk => oq q.1 ((hP.2.2.2.1 k q hk).lt))).app (fun k q hk => ?_)
    have hz0 : k < 1 := (List.getElem?_eq_some_iff.mp hk).1
    rw [show k = 0 by omega] at hk
    cases hk
    rw [show g.1.1 + (h.length - 2) = H.size by omega]
    exact he
  · by_cases e : j + 2 < h.length
    · rw [List.getElem?_append_left e] at hj
      exact hP.2.2.2.2 j x hj
    · rw [List.getElem?_append_right (by omega)] at hj
      have hz0 : j + 2 - h.length < 1 := (List.getElem?_eq_some_iff.mp hj).1
      rw [show j + 2 - h.length = 0 by omega] at hj
      cases hj
      exact hok
theorem jP.ref {g : jg} {h : List jC} {H : Heap} (hP : jP g h H) : jad g h.length = H.size := by
  obtain ⟨k, hk⟩ : ∃ k, h.length = k + 2 := ⟨h.length - 2, by have := hP.two; omega⟩
  rw [hk]
  show g.1.1 + k = H.size
  have := hP.1
  omega
def jtl (g : jg) : List (ClassId × FieldType) := jtys.map (fun ty => (g.2.2.2 ty, ty))
def jNc : List (String × String) := [("QuasiSums$Row", "QuasiSums$Sum"), ("QuasiSums$Sum", "QuasiSums$Row")]
def jAO : List String := ["QuasiSums$Sum", "QuasiSums$Item", "QuasiSums$Row", "java/lang/Object"]
def jDf (d : Nat) (U : State) (H : Heap) : Prop := ∃ cell : Cell, H[d]? = some cell ∧ U.isArrayOf cell (.object "java/lang/Object") ∧ cell.slots.size = 0
/-- what holds of the machine at every method's start -/
def jK (g : jg) (U : State) : Prop :=
  (∀ w ∈ jT, va_Nw w U) ∧ va_K g.2.2.1 vwCl (jtl g) U ∧ ((∀ q ∈ jNc, va_Nc q.1 q.2 U) ∧ ∀ C ∈ jAO, va_AO C U) ∧ va_X g.1.2.1 g.1.2.2.2 g.2.1 U U.heap ∧ g.1.2.2.2 ≤ 3072 ∧ g.1.2.1 < g.1.1 ∧ g.1.2.2.1 < g.1.1 ∧ g.1.1 ≤ U.heap.size ∧ jDf g.1.2.2.1 U U.heap ∧ va_Z "java/util/ArrayList" "DEFAULTCAPACITY_EMPTY_ELEMENTDATA" "[Ljava/lang/Object;" (.ref g.1.2.2.1) (jA g) U U.heap

theorem jK.warm {g : jg} {s U : State} (h : jK g s) (hW : s.WarmedH U.vm) (hz : s.heap.size ≤ U.heap.size) (hq : ∀ q : Nat, q < s.heap.size → ¬ jA g q → U.heap[q]? = s.heap[q]?) : jK g U := by
  obtain ⟨h1, h2, h3, h4, hL, h5, h6, h7, h8, h9⟩ := h
  have e : ∀ q : Nat, q < g.1.1 → U.heap[q]? = s.heap[q]? := fun q hq1 => hq q (Nat.lt_of_lt_of_le hq1 h7) (Nat.not_le.mpr hq1)
  refine ⟨fun w hw => jT_warm (List.mem_filter.mp hw).2 hW (h1 w hw), va_K.moved hW.alike h2, ⟨fun q hq2 => (h3.1 q hq2).moved hW.alike, fun C hC => (h3.2 C hC).moved hW.alike⟩, (h4.kept (e _ h5)).moved hW.alike, hL, h5, h6, Nat.le_trans h7 hz, ?_, (h9.kept (fun a ha hn => hq a ha hn)).moved hW.alike⟩
  obtain ⟨cell, c1, c2, c3⟩ := h8
  exact ⟨cell, by rw [e _ h6]; exact c1, State.isArrayOf_alike hW.alike c2, c3⟩
theorem jK.word {g : jg} {s : State} (h : jK g s) {args : Array Value} {w : Cond} (hw : w ∈ lw_tbl) (hg : jgw w = true) (ht : w.onTables = true) : w.before args s = true :=
  va_Nw.use ht (h.1 w (List.mem_filter.mpr ⟨hw, hg⟩))
/-- a method: its name, code, number of locals, result; depth, cells, slots -/
abbrev jY : Type := MethodName × ByteArray × Nat × Option FieldType × Nat × Nat × Nat
def jrm (Y : jY) : Room := { frames := Y.2.2.2.2.1, cells := Y.2.2.2.2.2.1, slots := Y.2.2.2.2.2.2, locals := 48 * Y.2.2.2.2.1 }
abbrev jPost : Type := Option Value → List jC → Prop
def jPc (g : jg) (As : List Value) (h : List jC) : Array Value → State → Prop := fun a U => a = (As.map (jtr g)).toArray ∧ jP g h U.heap ∧ jK g U
def jQ (g : jg) (Φ : jPost) : Array Value → State → Outcome → State → Prop := fun _ st o t => (∃ (r : Option Value) (h' : List jC), Φ r h' ∧ o = .returned (r.map (jtr g)) ∧ jP g h' t.heap) ∧ va_F (jA g) st t
def jww (Y : jY) : List Cond := [.code Y.1 Y.2.1 Y.2.2.1 Y.2.2.2.1]
/-- THE CONTRACT: from the cells h with the arguments As the method comes to its end with Φ of its answer and the cells then -/
def jCt (Y : jY) (As : List Value) (h : List jC) (Φ : jPost) : Prop := ∀ (l : Launch) (g : jg), Met l Y.1 (jww Y) (jrm Y) (jPc g As h) (jQ g Φ) Y.2.2.2.2.2.1 Y.2.2.2.2.2.2 (jA g)
def jL (g : jg) (ls : Array Slot) (nL : Nat) (lv : List (Option Value)) : Prop := ls.size = nL ∧ lv_wf ls ∧ ∀ (i : Nat) (v : Value), lv[i]? = some (some v) → ls[i]? = some (.val (jtr g v))
def jctx (Y : jY) (g : jg) (p : Program) (s : State) (m : MethodId) (meth : Method) (c : Code) : Prop :=
  p.tables.exec = Jvm.exec ∧ c.code = Y.2.1 ∧ c.maxLocals = Y.2.2.1 ∧ s.vm.findClass Y.1.cls = some m.cls ∧ meth.locks = false ∧ meth.sig.returnType = Y.2.2.2.1 ∧ meth.name = Y.1.name ∧ jK g s
abbrev jKt : Type := Nat → List (Option Value) → List Value → List jC → Nat → Nat → Prop
abbrev jI : Type := jKt → List (Option Value) → List Value → List jC → Nat → Nat → Prop
def jG (Y : jY) (Φ : jPost) : jKt := fun pc lv st h a b => ∀ (p : Program) (l : Launch) (e : Env) (s : State) (m : MethodId) (args : Array Value) (below : List Frame) (meth : Method) (c : Code) (g : jg), jctx Y g p s m meth c →
  ∀ (H : Heap) (locs : List Loc) (ls : Array Slot), jP g h H → va_S (jA g) s.heap H locs → jL g ls Y.2.2.1 lv → W p l e (jrm Y) s m args below meth c H locs a b (MQ below (jQ g Φ) args s Y.2.2.2.2.2.1 Y.2.2.2.2.2.2 (jA g)) (F0 m pc ls (st.map (jtr g)))
def jS (Y : jY) (Φ : jPost) (pc : Nat) (i : jI) : Prop := ∀ k : jKt, (∀ pc lv st h a b, k pc lv st h a b → jG Y Φ pc lv st h a b) → ∀ lv st h a b, i k lv st h a b → jG Y Φ pc lv st h a b
def jbad : jI := fun _ _ _ _ _ _ => False
theorem jS_bad {Y : jY} {Φ : jPost} {pc : Nat} : jS Y Φ pc jbad := fun _ _ _ _ _ _ _ h => h.elim
def jN (k : Nat) (x y : Nat → jI) : Nat → jI := fun pc => cond (Nat.blt pc k) (x pc) (y pc)
def jlf (k : Nat) (i : jI) : Nat → jI := fun pc => cond (Nat.beq pc k) i jbad
theorem jSN {Y : jY} {Φ : jPost} {k : Nat} {x y : Nat → jI} (hx : ∀ pc, jS Y Φ pc (x pc)) (hy : ∀ pc, jS Y Φ pc (y pc)) : ∀ pc, jS Y Φ pc (jN k x y pc) := by
  intro pc
  unfold jN
  cases Nat.blt pc k
  · exact hy pc
  · exact hx pc
theorem jSl {Y : jY} {Φ : jPost} {k : Nat} {i : jI} (hi : jS Y Φ k i) : ∀ pc, jS Y Φ pc (jlf k i pc) := by
  intro pc
  unfold jlf
  cases hb : Nat.beq pc k
  · exact jS_bad
  · rw [Nat.eq_of_beq_eq_true hb]; exact hi
/-- whether a place is one of those where a walk rests -/
def jcut : List Nat → Nat → Bool
  | [], _ => false
  | x :: xs, q => cond (Nat.beq x q) true (jcut xs q)
/-- a walk of n instructions at most, which rests at the places of C: K of where it stands then -/
def jw (P : Nat → jI) (K : jKt) (C : List Nat) : Nat → jKt
  | 0 => K
  | n + 1 => fun pc lv st h a b => P pc (fun pc lv st h a b => cond (jcut C pc) (K pc lv st h a b) (jw P K C n pc lv st h a b)) lv st h a b
theorem jw_sound {Y : jY} {Φ : jPost} {P : Nat → jI} (hP : ∀ pc, jS Y Φ pc (P pc)) (C : List Nat) : ∀ (n pc : Nat) lv st h a b, jw P (jG Y Φ) C n pc lv st h a b → jG Y Φ pc lv st h a b
  | 0, _, _, _, _, _, _, h => h
  | n + 1, pc, lv, st, h, a, b, hw => hP pc _ (fun pc lv st h a b hq => by
      cases hc : jcut C pc
      · rw [hc] at hq
        exact jw_sound hP C n pc lv st h a b hq
      · rw [hc] at hq
        exact hq) lv st h a b hw
def jle (l1 l2 : List (Option Value)) : Prop := ∀ (i : Nat) (v : Value), l1[i]? = some (some v) → l2[i]? = some (some v)
theorem jG_le {Y : jY} {Φ : jPost} {pc : Nat} {l1 l2 : List (Option Value)} {st : List Value} {h : List jC} {a b : Nat} (hl : jle l1 l2) (hG : jG Y Φ pc l1 st h a b) : jG Y Φ pc l2 st h a b :=
  fun p l e s m args below meth c g hc H locs ls hP hS hL => hG p l e s m args below meth c g hc H locs ls hP hS ⟨hL.1, hL.2.1, fun i v hv => hL.2.2 i v (hl i v hv)⟩
/-! the start of a method -/
def jent : List Value → List (Option Value)
  | [] => []
  | v :: vs => match v.category with
    | 2 => some v :: none :: jent vs
    | _ => some v :: jent vs
theorem jtr_cat (g : jg) (v : Value) : (jtr g v).category = v.category := by cases v <;> rfl
theorem jent_args (g : jg) : ∀ (vs : List Value) (k i : Nat) (v : Value), (jent vs)[i]? = some (some v) → (k + i, jtr g v) ∈ lv_args k (vs.map (jtr g))
  | [], k, i, v, h => by simp [jent] at h
  | w :: vs, k, i, v, h => by
    rcases lv_cat w with hc | hc
    · have e : jent (w :: vs) = some w :: jent vs := by simp only [jent, hc]
      have e2 : lv_args k ((w :: vs).map (jtr g)) = (k, jtr g w) :: lv_args (k + 1) (vs.map (jtr g)) := by
        rw [List.map_cons, lv_args, jtr_cat, hc]; rfl
      rw [e] at h
      rw [e2]
      cases i with
      | zero => simp only [List.getElem?_cons_zero] at h; cases h; exact List.mem_cons_self
      | succ i =>
        rw [List.getElem?_cons_succ] at h
        have := jent_args g vs (k + 1) i v h
        rw [show k + 1 + i = k + (i + 1) by omega] at this
        exact List.mem_cons_of_mem _ this
    · have e : jent (w :: vs) = some w :: none :: jent vs := by simp only [jent, hc]
      have e2 : lv_args k ((w :: vs).map (jtr g)) = (k, jtr g w) :: lv_args (k + 2) (vs.map (jtr g)) := by
        rw [List.map_cons, lv_args, jtr_cat, hc]; rfl
      rw [e] at h
      rw [e2]
      match i, h with
      | 0, h => simp only [List.getElem?_cons_zero] at h; cases h; exact List.mem_cons_self
      | 1, h => simp at h
      | i + 2, h =>
        rw [List.getElem?_cons_succ, List.getElem?_cons_succ] at h
        have := jent_args g vs (k + 2) i v h
        rw [show k + 2 + i = k + (i + 2) by omega] at this
        exact List.mem_cons_of_mem _ this
theorem jsl_len (g : jg) : ∀ vs : List Value, (lg_sl (vs.map (jtr g))).length = (jent vs).length
  | [] => rfl
  | w :: vs => by
    have ih := jsl_len g vs
    rcases lv_cat w with hc | hc
    · have e : jent (w :: vs) = some w :: jent vs := by simp only [jent, hc]
      rw [e, List.map_cons]
      simp only [lg_sl, List.flatMap_cons, List.length_append, List.length_cons] at ih ⊢
      rw [ih, jtr_cat, hc]
      simp; omega
    · have e : jent (w :: vs) = some w :: none :: jent vs := by simp only [jent, hc]
      rw [e, List.map_cons]
      simp only [lg_sl, List.flatMap_cons, List.length_append, List.length_cons] at ih ⊢
      rw [ih, jtr_cat, hc]
      simp; omega
def jpad (n : Nat) (l : List (Option Value)) : List (Option Value) := l ++ List.replicate (n - l.length) none
theorem jcall_blind (g : jg) (As : List Value) (h : List jC) : FrameBlind (jPc g As h) := by
  intro a U fr mk hp
  refine ⟨hp.1, hp.2.1, hp.2.2.warm (U := U.calling fr mk a) (State.WarmedH.refl U) (Nat.le_refl _) (fun _ _ _ => rfl)⟩
/-- a method's contract out of the walk from its start -/
theorem jCt_of {Y : jY} {Φ : jPost} {As : List Value} {h : List jC} (hy : plainName Y.1.cls = true) (hn : (jent As).length ≤ Y.2.2.1) (hG : jG Y Φ 0 (jpad Y.2.2.1 (jent As)) [] h 0 0) : jCt Y As h Φ := by
  intro l g
  refine Met.ofW (cc := Y.2.1) (maxL := Y.2.2.1) (ret := Y.2.2.2.1) hy rfl ?_
  intro p e s m args below meth c s₁ B hml hv
  obtain ⟨rfl, hP, hK⟩ := hv
  have hl := lv_entry (As.map (jtr g)) (n := Y.2.2.1) (by rw [jsl_len]; exact hn)
  rw [lg_entry_eq]
  generalize (lg_sl (As.map (jtr g)) ++ List.replicate (Y.2.2.1 - (lg_sl (As.map (jtr g))).length) Slot.unset).toArray = ls at hl ⊢
  refine hG p l e s m _ below meth c g ⟨B.exec, B.bytes, hml, findClass_of_methodNamed B.named, B.notSynchronized, B.returns, (name_of_methodNamed B.named B.method).1, hK⟩ s.heap [] ls hP va_S.rf ⟨hl.1, hl.2.1, fun i v hv => ?_⟩
  unfold jpad at hv
  by_cases hi : i < (jent As).length
  · rw [List.getElem?_append_left hi] at hv
    have := jent_args g As 0 i v hv
    rw [Nat.zero_add] at this
    exact hl.2.2 _ this
  · rw [List.getElem?_append_right (by omega)] at hv
    have := List.eq_of_mem_replicate (List.mem_of_getElem? hv)
    cases this
/-- a method's program, and what a user of the engine sees of it -/
theorem jrun {Y : jY} {Φ : jPost} {As : List Value} {h : List jC} {P : Nat → jI} (hP : ∀ pc, jS Y Φ pc (P pc)) (hy : plainName Y.1.cls = true) (hn : (jent As).length ≤ Y.2.2.1)
    (hu : ∀ G : jKt, (∀ (C : List Nat) (n pc : Nat) lv st h a b, jw P G C n pc lv st h a b → G pc lv st h a b) → (∀ (pc : Nat) l1 l2 st h a b, jle l1 l2 → G pc l1 st h a b → G pc l2 st h a b) → G 0 (jpad Y.2.2.1 (jent As)) [] h 0 0) : jCt Y As h Φ :=
  jCt_of hy hn (hu (jG Y Φ) (jw_sound hP) (fun _ _ _ _ _ _ _ hl hG => jG_le hl hG))
end
section
/-! THE ENGINE, second half: instructions, each with the row that says that the machine does so -/
def jkill (i : Nat) (lv : List (Option Value)) : List (Option Value) := match i with
  | 0 => lv
  | j + 1 => match lv[j]? with
    | some (some x) => (match x.category with
      | 2 => lv.set j none
      | _ => lv)
    | _ => lv
def jst1 (i : Nat) (v : Value) (lv : List (Option Value)) : List (Option Value) := (jkill i lv).set i (some v)
def jst2 (i : Nat) (v : Value) (lv : List (Option Value)) : List (Option Value) := ((jkill i lv).set i (some v)).set (i + 1) none
theorem jkill_get {i : Nat} {lv : List (Option Value)} {j : Nat} {x : Value} (h : (jkill i lv)[j]? = some (some x)) : lv[j]? = some (some x) ∧ ¬ (j + 1 = i ∧ x.category = 2) := by
  unfold jkill at h
  split at h
  · exact ⟨h, fun q => by omega⟩
  · rename_i k
    split at h
    · rename_i y hy
      split at h
      · rename_i hc
        by_cases hj : k = j
        · subst hj
          rw [List.getElem?_set_self (List.getElem?_eq_some_iff.mp hy).1] at h
          cases h
        · rw [List.getElem?_set_ne hj] at h
          exact ⟨h, fun q => hj (by omega)⟩
      · rename_i hc
        refine ⟨h, fun q => ?_⟩
        have hjk : j = k := by omega
        subst hjk
        rw [hy] at h
        cases h
        exact hc q.2
    · rename_i hn
      refine ⟨h, fun q => ?_⟩
      have hjk : j = k := by omega
      subst hjk
      exact hn x h
/-- the known locals as the kit lists them -/
def jl (g : jg) (lv : List (Option Value)) : List (Nat × Value) := (lv.zipIdx).filterMap (fun q => q.1.map (fun v => (q.2, jtr g v)))
theorem jl_mem {g : jg} {lv : List (Option Value)} {j : Nat} {x : Value} (h : lv[j]? = some (some x)) : (j, jtr g x) ∈ jl g lv := by
  unfold jl
  refine List.mem_filterMap.mpr ⟨(some x, j), ?_, rfl⟩
  rw [List.mem_zipIdx_iff_getElem?]
  exact h
theorem jl_of {g : jg} {lv : List (Option Value)} {q : Nat × Value} (h : q ∈ jl g lv) : ∃ x, lv[q.1]? = some (some x) ∧ q.2 = jtr g x := by
  unfold jl at h
  obtain ⟨⟨o, j⟩, h1, h2⟩ := List.mem_filterMap.mp h
  rw [List.mem_zipIdx_iff_getElem?] at h1
  cases o with
  | none => cases h2
  | some x => cases h2; exact ⟨x, h1, rfl⟩
theorem jL.has {g : jg} {ls : Array Slot} {nL : Nat} {lv : List (Option Value)} (h : jL g ls nL lv) : lv_has ls nL (jl g lv) := by
  refine ⟨h.1, h.2.1, fun q hq => ?_⟩
  obtain ⟨x, h1, h2⟩ := jl_of hq
  rw [h2]
  exact h.2.2 _ _ h1
theorem jL.st1 {g : jg} {ls : Array Slot} {nL i : Nat} {v : Value} {lv : List (Option Value)} (h : lv_has ls nL ((i, jtr g v) :: (jl g lv).filter (fun q => !(q.1 == i) && !(q.1 + 1 == i && q.2.category == 2)))) : jL g ls nL (jst1 i v lv) := by
  refine ⟨h.1, h.2.1, fun j x hj => ?_⟩
  unfold jst1 at hj
  by_cases hi : i = j
  · subst hi
    by_cases hl : i < (jkill i lv).length
    · rw [List.getElem?_set_self hl] at hj
      cases hj
      exact h.2.2 _ List.mem_cons_self
    · rw [List.getElem?_eq_none (by simp; omega)] at hj
      cases hj
  · rw [List.getElem?_set_ne hi] at hj
    obtain ⟨h1, h2⟩ := jkill_get hj
    refine h.2.2 (j, jtr g x) (List.mem_cons_of_mem _ (List.mem_filter.mpr ⟨jl_mem h1, ?_⟩))
    simp only [Bool.and_eq_true, Bool.not_eq_true', beq_eq_false_iff_ne, jtr_cat, Bool.and_eq_false_iff]
    refine ⟨fun q => hi q.symm, ?_⟩
    by_cases q1 : j + 1 = i
    · right; exact fun q2 => h2 ⟨q1, q2⟩
    · left; exact q1
theorem jL.st2 {g : jg} {ls : Array Slot} {nL i : Nat} {v : Value} {lv : List (Option Value)} (h : lv_has ls nL ((i, jtr g v) :: (jl g lv).filter (fun q => !(q.1 == i) && (!(q.1 == i + 1) && !(q.1 + 1 == i && q.2.category == 2))))) : jL g ls nL (jst2 i v lv) := by
  refine ⟨h.1, h.2.1, fun j x hj => ?_⟩
  unfold jst2 at hj
  by_cases hi1 : i + 1 = j
  · subst hi1
    by_cases hl : i + 1 < ((jkill i lv).set i (some v)).length
    · rw [List.getElem?_set_self hl] at hj
      cases hj
    · rw [List.getElem?_eq_none (by simp at hl ⊢; omega)] at hj
      cases hj
  rw [List.getElem?_set_ne hi1] at hj
  by_cases hi : i = j
  · subst hi
    by_cases hl : i < (jkill i lv).length
    · rw [List.getElem?_set_self hl] at hj
      cases hj
      exact h.2.2 _ List.mem_cons_self
    · rw [List.getElem?_eq_none (by simp; omega)] at hj
      cases hj
  · rw [List.getElem?_set_ne hi] at hj
    obtain ⟨h1, h2⟩ := jkill_get hj
    refine h.2.2 (j, jtr g x) (List.mem_cons_of_mem _ (List.mem_filter.mpr ⟨jl_mem h1, ?_⟩))
    simp only [Bool.and_eq_true, Bool.not_eq_true', beq_eq_false_iff_ne, jtr_cat, Bool.and_eq_false_iff]
    refine ⟨fun q => hi q.symm, fun q => hi1 q.symm, ?_⟩
    by_cases q1 : j + 1 = i
    · right; exact fun q2 => h2 ⟨q1, q2⟩
    · left; exact q1
section jsound
variable {Y : jY} {Φ : jPost} {pc nx : Nat}

def ji_push (v : Value) (nx : Nat) : jI := fun k lv st h a b => k nx lv (v :: st) h a b
theorem jS_iconst {n : Int} {v : Int32} (hv : Int32.ofInt n = v) (hd : decode Y.2.1 pc = .ok (.iconst n, 1)) (hn : pc + 1 = nx) : jS Y Φ pc (ji_push (.int v) nx) := by
  intro k hk lv st h a b hi
  intro p l e s m args below meth c g hc H locs ls hP hS hL
  subst hn
  exact lv_iconst hc.1 hc.2.1 hd hv (hk _ _ _ _ _ _ hi p l e s m args below meth c g hc H locs ls hP hS hL)
theorem jS_bipush {n : Int} {v : Int32} (hv : (Int8.ofInt n).toInt32 = v) (hd : decode Y.2.1 pc = .ok (.bipush n, 2)) (hn : pc + 2 = nx) : jS Y Φ pc (ji_push (.int v) nx) := by
  intro k hk lv st h a b hi
  intro p l e s m args below meth c g hc H locs ls hP hS hL
  subst hn
  exact lv_bipush hc.1 hc.2.1 hd hv (hk _ _ _ _ _ _ hi p l e s m args below meth c g hc H locs ls hP hS hL)
theorem jS_sipush {n : Int} {v : Int32} (hv : (Int16.ofInt n).toInt32 = v) (hd : decode Y.2.1 pc = .ok (.sipush n, 3)) (hn : pc + 3 = nx) : jS Y Φ pc (ji_push (.int v) nx) := by
  intro k hk lv st h a b hi
  intro p l e s m args below meth c g hc H locs ls hP hS hL
  subst hn
  exact lv_sipush hc.1 hc.2.1 hd hv (hk _ _ _ _ _ _ hi p l e s m args below meth c g hc H locs ls hP hS hL)
theorem jS_lconst {n : Fin 2} {v : Int64} (hv : Int64.ofNat (n : Nat) = v) (hd : decode Y.2.1 pc = .ok (.lconst n, 1)) (hn : pc + 1 = nx) : jS Y Φ pc (ji_push (.long v) nx) := by
  intro k hk lv st h a b hi
  intro p l e s m args below meth c g hc H locs ls hP hS hL
  subst hn
  exact lv_lconst hc.1 hc.2.1 hd hv (hk _ _ _ _ _ _ hi p l e s m args below meth c g hc H locs ls hP hS hL)
theorem jS_fconst0  (hd : decode Y.2.1 pc = .ok (.fconst 0, 1)) (hn : pc + 1 = nx) : jS Y Φ pc (ji_push (.float FP.fconst0) nx) := by
  intro k hk lv st h a b hi
  intro p l e s m args below meth c g hc H locs ls hP hS hL
  subst hn
  exact lv_fconst0 hc.1 hc.2.1 hd (hk _ _ _ _ _ _ hi p l e s m args below meth c g hc H locs ls hP hS hL)
theorem jS_fconst1  (hd : decode Y.2.1 pc = .ok (.fconst 1, 1)) (hn : pc + 1 = nx) : jS Y Φ pc (ji_push (.float FP.fconst1) nx) := by
  intro k hk lv st h a b hi
  intro p l e s m args below meth c g hc H locs ls hP hS hL
  subst hn
  exact lv_fconst1 hc.1 hc.2.1 hd (hk _ _ _ _ _ _ hi p l e s m args below meth c g hc H locs ls hP hS hL)
theorem jS_fconst2  (hd : decode Y.2.1 pc = .ok (.fconst 2, 1)) (hn : pc + 1 = nx) : jS Y Φ pc (ji_push (.float FP.fconst2) nx) := by
  intro k hk lv st h a b hi
  intro p l e s m args below meth c g hc H locs ls hP hS hL
  subst hn
  exact lv_fconst2 hc.1 hc.2.1 hd (hk _ _ _ _ _ _ hi p l e s m args below meth c g hc H locs ls hP hS hL)
theorem jS_dconst0  (hd : decode Y.2.1 pc = .ok (.dconst 0, 1)) (hn : pc + 1 = nx) : jS Y Φ pc (ji_push (.double FP.dconst0) nx) := by
  intro k hk lv st h a b hi
  intro p l e s m args below meth c g hc H locs ls hP hS hL
  subst hn
  exact lv_dconst0 hc.1 hc.2.1 hd (hk _ _ _ _ _ _ hi p l e s m args below meth c g hc H locs ls hP hS hL)
theorem jS_dconst1  (hd : decode Y.2.1 pc = .ok (.dconst 1, 1)) (hn : pc + 1 = nx) : jS Y Φ pc (ji_push (.double FP.dconst1) nx) := by
  intro k hk lv st h a b hi
  intro p l e s m args below meth c g hc H locs ls hP hS hL
  subst hn
  exact lv_dconst1 hc.1 hc.2.1 hd (hk _ _ _ _ _ _ hi p l e s m args below meth c g hc H locs ls hP hS hL)
theorem jS_null  (hd : decode Y.2.1 pc = .ok (.aconst_null, 1)) (hn : pc + 1 = nx) : jS Y Φ pc (ji_push (.null) nx) := by
  intro k hk lv st h a b hi
  intro p l e s m args below meth c g hc H locs ls hP hS hL
  subst hn
  exact lv_null hc.1 hc.2.1 hd (hk _ _ _ _ _ _ hi p l e s m args below meth c g hc H locs ls hP hS hL)
theorem jS_ldci {index : Nat} {v : Int32} (hw : Cond.constant Y.1.cls index v ∈ lw_tbl) (hd : decode Y.2.1 pc = .ok (.ldc index, 2)) (hn : pc + 2 = nx) : jS Y Φ pc (ji_push (.int v) nx) := by
  intro k hk lv st h a b hi
  intro p l e s m args below meth c g hc H locs ls hP hS hL
  subst hn
  exact lv_ldc hc.1 hc.2.1 hc.2.2.2.1 (hc.2.2.2.2.2.2.2.word hw rfl rfl) hd (hk _ _ _ _ _ _ hi p l e s m args below meth c g hc H locs ls hP hS hL)
theorem jS_ldcwi {index : Nat} {v : Int32} (hw : Cond.constant Y.1.cls index v ∈ lw_tbl) (hd : decode Y.2.1 pc = .ok (.ldc_w index, 3)) (hn : pc + 3 = nx) : jS Y Φ pc (ji_push (.int v) nx) := by
  intro k hk lv st h a b hi
  intro p l e s m args below meth c g hc H locs ls hP hS hL
  subst hn
  exact lv_ldcw hc.1 hc.2.1 hc.2.2.2.1 (hc.2.2.2.2.2.2.2.word hw rfl rfl) hd (hk _ _ _ _ _ _ hi p l e s m args below meth c g hc H locs ls hP hS hL)
theorem jS_ldcf {index : Nat} {v : UInt32} (hw : Cond.constantFloat Y.1.cls index v ∈ lw_tbl) (hd : decode Y.2.1 pc = .ok (.ldc index, 2)) (hn : pc + 2 = nx) : jS Y Φ pc (ji_push (.float v) nx) := by
  intro k hk lv st h a b hi
  intro p l e s m args below meth c g hc H locs ls hP hS hL
  subst hn
  exact lv_ldcf hc.1 hc.2.1 hc.2.2.2.1 (hc.2.2.2.2.2.2.2.word hw rfl rfl) hd (hk _ _ _ _ _ _ hi p l e s m args below meth c g hc H locs ls hP hS hL)
theorem jS_ldc2l {index : Nat} {v : Int64} (hw : Cond.constantLong Y.1.cls index v ∈ lw_tbl) (hd : decode Y.2.1 pc = .ok (.ldc2_w index, 3)) (hn : pc + 3 = nx) : jS Y Φ pc (ji_push (.long v) nx) := by
  intro k hk lv st h a b hi
  intro p l e s m args below meth c g hc H locs ls hP hS hL
  subst hn
  exact lv_ldc2 hc.1 hc.2.1 hc.2.2.2.1 (hc.2.2.2.2.2.2.2.word hw rfl rfl) hd (hk _ _ _ _ _ _ hi p l e s m args below meth c g hc H locs ls hP hS hL)
theorem jS_ldc2d {index : Nat} {v : UInt64} (hw : Cond.constantDouble Y.1.cls index v ∈ lw_tbl) (hd : decode Y.2.1 pc = .ok (.ldc2_w index, 3)) (hn : pc + 3 = nx) : jS Y Φ pc (ji_push (.double v) nx) := by
  intro k hk lv st h a b hi
  intro p l e s m args below meth c g hc H locs ls hP hS hL
  subst hn
  exact lv_ldc2d hc.1 hc.2.1 hc.2.2.2.1 (hc.2.2.2.2.2.2.2.word hw rfl rfl) hd (hk _ _ _ _ _ _ hi p l e s m args below meth c g hc H locs ls hP hS hL)
def ji_iload (i nx : Nat) : jI := fun k lv st h a b => match lv[i]? with
  | some (some (.int x)) => k nx lv (.int x :: st) h a b
  | _ => False
theorem jS_iloadn {q : Fin 4} {i : Nat} (hq : (q : Nat) = i) (hd : decode Y.2.1 pc = .ok (.iload_n q, 1)) (hn : pc + 1 = nx) : jS Y Φ pc (ji_iload i nx) := by
  intro k hk lv st h a b hi
  unfold ji_iload at hi
  split at hi
  · rename_i x hx
    intro p l e s m args below meth c g hc H locs ls hP hS hL
    subst hn
    exact lv_iload_n hc.1 hc.2.1 hd hq (hL.2.2 _ _ hx) (hk _ _ _ _ _ _ hi p l e s m args below meth c g hc H locs ls hP hS hL)
  · exact hi.elim
theorem jS_iload {i : Nat} (hd : decode Y.2.1 pc = .ok (.iload i, 2)) (hn : pc + 2 = nx) : jS Y Φ pc (ji_iload i nx) := by
  intro k hk lv st h a b hi
  unfold ji_iload at hi
  split at hi
  · rename_i x hx
    intro p l e s m args below meth c g hc H locs ls hP hS hL
    subst hn
    exact lv_iload hc.1 hc.2.1 hd (hL.2.2 _ _ hx) (hk _ _ _ _ _ _ hi p l e s m args below meth c g hc H locs ls hP hS hL)
  · exact hi.elim
def ji_lload (i nx : Nat) : jI := fun k lv st h a b => match lv[i]? with
  | some (some (.long x)) => k nx lv (.long x :: st) h a b
  | _ => False
theorem jS_lloadn {q : Fin 4} {i : Nat} (hq : (q : Nat) = i) (hd : decode Y.2.1 pc = .ok (.lload_n q, 1)) (hn : pc + 1 = nx) : jS Y Φ pc (ji_lload i nx) := by
  intro k hk lv st h a b hi
  unfold ji_lload at hi
  split at hi
  · rename_i x hx
    intro p l e s m args below meth c g hc H locs ls hP hS hL
    subst hn
    exact lv_lload_n hc.1 hc.2.1 hd hq (hL.2.2 _ _ hx) (hk _ _ _ _ _ _ hi p l e s m args below meth c g hc H locs ls hP hS hL)
  · exact hi.elim
theorem jS_lload {i : Nat} (hd : decode Y.2.1 pc = .ok (.lload i, 2)) (hn : pc + 2 = nx) : jS Y Φ pc (ji_lload i nx) := by
  intro k hk lv st h a b hi
  unfold ji_lload at hi
  split at hi
  · rename_i x hx
    intro p l e s m args below meth c g hc H locs ls hP hS hL
    subst hn
    exact lv_lload hc.1 hc.2.1 hd (hL.2.2 _ _ hx) (hk _ _ _ _ _ _ hi p l e s m args below meth c g hc H locs ls hP hS hL)
  · exact hi.elim
def ji_fload (i nx : Nat) : jI := fun k lv st h a b => match lv[i]? with
  | some (some (.float x)) => k nx lv (.float x :: st) h a b
  | _ => False
theorem jS_floadn {q : Fin 4} {i : Nat} (hq : (q : Nat) = i) (hd : decode Y.2.1 pc = .ok (.fload_n q, 1)) (hn : pc + 1 = nx) : jS Y Φ pc (ji_fload i nx) := by
  intro k hk lv st h a b hi
  unfold ji_fload at hi
  split at hi
  · rename_i x hx
    intro p l e s m args below meth c g hc H locs ls hP hS hL
    subst hn
    exact lv_fload_n hc.1 hc.2.1 hd hq (hL.2.2 _ _ hx) (hk _ _ _ _ _ _ hi p l e s m args below meth c g hc H locs ls hP hS hL)
  · exact hi.elim
theorem jS_fload {i : Nat} (hd : decode Y.2.1 pc = .ok (.fload i, 2)) (hn : pc + 2 = nx) : jS Y Φ pc (ji_fload i nx) := by
  intro k hk lv st h a b hi
  unfold ji_fload at hi
  split at hi
  · rename_i x hx
    intro p l e s m args below meth c g hc H locs ls hP hS hL
    subst hn
    exact lv_fload hc.1 hc.2.1 hd (hL.2.2 _ _ hx) (hk _ _ _ _ _ _ hi p l e s m args below meth c g hc H locs ls hP hS hL)
  · exact hi.elim
def ji_dload (i nx : Nat) : jI := fun k lv st h a b => match lv[i]? with
  | some (some (.double x)) => k nx lv (.double x :: st) h a b
  | _ => False
theorem jS_dloadn {q : Fin 4} {i : Nat} (hq : (q : Nat) = i) (hd : decode Y.2.1 pc = .ok (.dload_n q, 1)) (hn : pc + 1 = nx) : jS Y Φ pc (ji_dload i nx) := by
  intro k hk lv st h a b hi
  unfold ji_dload at hi
  split at hi
  · rename_i x hx
    intro p l e s m args below meth c g hc H locs ls hP hS hL
    subst hn
    exact lv_dload_n hc.1 hc.2.1 hd hq (hL.2.2 _ _ hx) (hk _ _ _ _ _ _ hi p l e s m args below meth c g hc H locs ls hP hS hL)
  · exact hi.elim
theorem jS_dload {i : Nat} (hd : decode Y.2.1 pc = .ok (.dload i, 2)) (hn : pc + 2 = nx) : jS Y Φ pc (ji_dload i nx) := by
  intro k hk lv st h a b hi
  unfold ji_dload at hi
  split at hi
  · rename_i x hx
    intro p l e s m args below meth c g hc H locs ls hP hS hL
    subst hn
    exact lv_dload hc.1 hc.2.1 hd (hL.2.2 _ _ hx) (hk _ _ _ _ _ _ hi p l e s m args below meth c g hc H locs ls hP hS hL)
  · exact hi.elim
def ji_aload (i nx : Nat) : jI := fun k lv st h a b => match lv[i]? with
  | some (some (.ref x)) => k nx lv (.ref x :: st) h a b
  | some (some .null) => k nx lv (.null :: st) h a b
  | _ => False
theorem jS_aloadn {q : Fin 4} {i : Nat} (hq : (q : Nat) = i) (hd : decode Y.2.1 pc = .ok (.aload_n q, 1)) (hn : pc + 1 = nx) : jS Y Φ pc (ji_aload i nx) := by
  intro k hk lv st h a b hi
  unfold ji_aload at hi
  split at hi
  · rename_i x hx
    intro p l e s m args below meth c g hc H locs ls hP hS hL
    subst hn
    exact lv_aload_n hc.1 hc.2.1 hd hq (hL.2.2 _ _ hx) (hk _ _ _ _ _ _ hi p l e s m args below meth c g hc H locs ls hP hS hL)
  · rename_i hx
    intro p l e s m args below meth c g hc H locs ls hP hS hL
    subst hn
    exact lv_aload_nN hc.1 hc.2.1 hd hq (hL.2.2 _ _ hx) (hk _ _ _ _ _ _ hi p l e s m args below meth c g hc H locs ls hP hS hL)
  · exact hi.elim
theorem jS_aload {i : Nat} (hd : decode Y.2.1 pc = .ok (.aload i, 2)) (hn : pc + 2 = nx) : jS Y Φ pc (ji_aload i nx) := by
  intro k hk lv st h a b hi
  unfold ji_aload at hi
  split at hi
  · rename_i x hx
    intro p l e s m args below meth c g hc H locs ls hP hS hL
    subst hn
    exact lv_aload hc.1 hc.2.1 hd (hL.2.2 _ _ hx) (hk _ _ _ _ _ _ hi p l e s m args below meth c g hc H locs ls hP hS hL)
  · rename_i hx
    intro p l e s m args below meth c g hc H locs ls hP hS hL
    subst hn
    exact lv_aloadN hc.1 hc.2.1 hd (hL.2.2 _ _ hx) (hk _ _ _ _ _ _ hi p l e s m args below meth c g hc H locs ls hP hS hL)
  · exact hi.elim
def ji_istore (i nx : Nat) : jI := fun k lv st h a b => match st with
  | .int x :: st => k nx (jst1 i (.int x) lv) st h a b
  | _ => False
theorem jS_istoren {q : Fin 4} {i : Nat} (hq : (q : Nat) = i) (hd : decode Y.2.1 pc = .ok (.istore_n q, 1)) (hn : pc + 1 = nx) (hl : i < Y.2.2.1) : jS Y Φ pc (ji_istore i nx) := by
  intro k hk lv st h a b hi
  unfold ji_istore at hi
  split at hi
  · rename_i x st
    intro p l e s m args below meth c g hc H locs ls hP hS hL
    subst hn
    exact lv_istore_n hc.1 hc.2.1 hd hq hL.has hl rfl (fun ls hl2 => hk _ _ _ _ _ _ hi p l e s m args below meth c g hc H locs ls hP hS (jL.st1 (v := .int x) hl2))
  · exact hi.elim
theorem jS_istore {i : Nat} (hd : decode Y.2.1 pc = .ok (.istore i, 2)) (hn : pc + 2 = nx) (hl : i < Y.2.2.1) : jS Y Φ pc (ji_istore i nx) := by
  intro k hk lv st h a b hi
  unfold ji_istore at hi
  split at hi
  · rename_i x st
    intro p l e s m args below meth c g hc H locs ls hP hS hL
    subst hn
    exact lv_istore hc.1 hc.2.1 hd hL.has hl rfl (fun ls hl2 => hk _ _ _ _ _ _ hi p l e s m args below meth c g hc H locs ls hP hS (jL.st1 (v := .int x) hl2))
  · exact hi.elim
def ji_lstore (i nx : Nat) : jI := fun k lv st h a b => match st with
  | .long x :: st => k nx (jst2 i (.long x) lv) st h a b
  | _ => False
theorem jS_lstoren {q : Fin 4} {i : Nat} (hq : (q : Nat) = i) (hd : decode Y.2.1 pc = .ok (.lstore_n q, 1)) (hn : pc + 1 = nx) (hl : i + 1 < Y.2.2.1) : jS Y Φ pc (ji_lstore i nx) := by
  intro k hk lv st h a b hi
  unfold ji_lstore at hi
  split at hi
  · rename_i x st
    intro p l e s m args below meth c g hc H locs ls hP hS hL
    subst hn
    exact lv_lstore_n hc.1 hc.2.1 hd hq hL.has hl rfl (fun ls hl2 => hk _ _ _ _ _ _ hi p l e s m args below meth c g hc H locs ls hP hS (jL.st2 (v := .long x) hl2))
  · exact hi.elim
theorem jS_lstore {i : Nat} (hd : decode Y.2.1 pc = .ok (.lstore i, 2)) (hn : pc + 2 = nx) (hl : i + 1 < Y.2.2.1) : jS Y Φ pc (ji_lstore i nx) := by
  intro k hk lv st h a b hi
  unfold ji_lstore at hi
  split at hi
  · rename_i x st
    intro p l e s m args below meth c g hc H locs ls hP hS hL
    subst hn
    exact lv_lstore hc.1 hc.2.1 hd hL.has hl rfl (fun ls hl2 => hk _ _ _ _ _ _ hi p l e s m args below meth c g hc H locs ls hP hS (jL.st2 (v := .long x) hl2))
  · exact hi.elim
def ji_fstore (i nx : Nat) : jI := fun k lv st h a b => match st with
  | .float x :: st => k nx (jst1 i (.float x) lv) st h a b
  | _ => False
theorem jS_fstoren {q : Fin 4} {i : Nat} (hq : (q : Nat) = i) (hd : decode Y.2.1 pc = .ok (.fstore_n q, 1)) (hn : pc + 1 = nx) (hl : i < Y.2.2.1) : jS Y Φ pc (ji_fstore i nx) := by
  intro k hk lv st h a b hi
  unfold ji_fstore at hi
  split at hi
  · rename_i x st
    intro p l e s m args below meth c g hc H locs ls hP hS hL
    subst hn
    exact lv_fstore_n hc.1 hc.2.1 hd hq hL.has hl rfl (fun ls hl2 => hk _ _ _ _ _ _ hi p l e s m args below meth c g hc H locs ls hP hS (jL.st1 (v := .float x) hl2))
  · exact hi.elim
theorem jS_fstore {i : Nat} (hd : decode Y.2.1 pc = .ok (.fstore i, 2)) (hn : pc + 2 = nx) (hl : i < Y.2.2.1) : jS Y Φ pc (ji_fstore i nx) := by
  intro k hk lv st h a b hi
  unfold ji_fstore at hi
  split at hi
  · rename_i x st
    intro p l e s m args below meth c g hc H locs ls hP hS hL
    subst hn
    exact lv_fstore hc.1 hc.2.1 hd hL.has hl rfl (fun ls hl2 => hk _ _ _ _ _ _ hi p l e s m args below meth c g hc H locs ls hP hS (jL.st1 (v := .float x) hl2))
  · exact hi.elim
def ji_dstore (i nx : Nat) : jI := fun k lv st h a b => match st with
  | .double x :: st => k nx (jst2 i (.double x) lv) st h a b
  | _ => False
theorem jS_dstoren {q : Fin 4} {i : Nat} (hq : (q : Nat) = i) (hd : decode Y.2.1 pc = .ok (.dstore_n q, 1)) (hn : pc + 1 = nx) (hl : i + 1 < Y.2.2.1) : jS Y Φ pc (ji_dstore i nx) := by
  intro k hk lv st h a b hi
  unfold ji_dstore at hi
  split at hi
  · rename_i x st
    intro p l e s m args below meth c g hc H locs ls hP hS hL
    subst hn
    exact lv_dstore_n hc.1 hc.2.1 hd hq hL.has hl rfl (fun ls hl2 => hk _ _ _ _ _ _ hi p l e s m args below meth c g hc H locs ls hP hS (jL.st2 (v := .double x) hl2))
  · exact hi.elim
theorem jS_dstore {i : Nat} (hd : decode Y.2.1 pc = .ok (.dstore i, 2)) (hn : pc + 2 = nx) (hl : i + 1 < Y.2.2.1) : jS Y Φ pc (ji_dstore i nx) := by
  intro k hk lv st h a b hi
  unfold ji_dstore at hi
  split at hi
  · rename_i x st
    intro p l e s m args below meth c g hc H locs ls hP hS hL
    subst hn
    exact lv_dstore hc.1 hc.2.1 hd hL.has hl rfl (fun ls hl2 => hk _ _ _ _ _ _ hi p l e s m args below meth c g hc H locs ls hP hS (jL.st2 (v := .double x) hl2))
  · exact hi.elim
def ji_astore (i nx : Nat) : jI := fun k lv st h a b => match st with
  | .ref x :: st => k nx (jst1 i (.ref x) lv) st h a b
  | .null :: st => k nx (jst1 i .null lv) st h a b
  | _ => False
theorem jS_astoren {q : Fin 4} {i : Nat} (hq : (q : Nat) = i) (hd : decode Y.2.1 pc = .ok (.astore_n q, 1)) (hn : pc + 1 = nx) (hl : i < Y.2.2.1) : jS Y Φ pc (ji_astore i nx) := by
  intro k hk lv st h a b hi
  unfold ji_astore at hi
  split at hi
  · rename_i x st
    intro p l e s m args below meth c g hc H locs ls hP hS hL
    subst hn
    exact lv_astore_n hc.1 hc.2.1 hd hq hL.has hl rfl (fun ls hl2 => hk _ _ _ _ _ _ hi p l e s m args below meth c g hc H locs ls hP hS (jL.st1 (v := .ref x) hl2))
  · rename_i st
    intro p l e s m args below meth c g hc H locs ls hP hS hL
    subst hn
    exact lv_astore_nN hc.1 hc.2.1 hd hq hL.has hl rfl (fun ls hl2 => hk _ _ _ _ _ _ hi p l e s m args below meth c g hc H locs ls hP hS (jL.st1 (v := .null) hl2))
  · exact hi.elim
theorem jS_astore {i : Nat} (hd : decode Y.2.1 pc = .ok (.astore i, 2)) (hn : pc + 2 = nx) (hl : i < Y.2.2.1) : jS Y Φ pc (ji_astore i nx) := by
  intro k hk lv st h a b hi
  unfold ji_astore at hi
  split at hi
  · rename_i x st
    intro p l e s m args below meth c g hc H locs ls hP hS hL
    subst hn
    exact lv_astore hc.1 hc.2.1 hd hL.has hl rfl (fun ls hl2 => hk _ _ _ _ _ _ hi p l e s m args below meth c g hc H locs ls hP hS (jL.st1 (v := .ref x) hl2))
  · rename_i st
    intro p l e s m args below meth c g hc H locs ls hP hS hL
    subst hn
    exact lv_astoreN hc.1 hc.2.1 hd hL.has hl rfl (fun ls hl2 => hk _ _ _ _ _ _ hi p l e s m args below meth c g hc H locs ls hP hS (jL.st1 (v := .null) hl2))
  · exact hi.elim
def ji_iinc (i : Nat) (v : Int32) (nx : Nat) : jI := fun k lv st h a b => match lv[i]? with
  | some (some (.int x)) => k nx (jst1 i (.int (x + v)) lv) st h a b
  | _ => False
theorem jS_iinc {i : Nat} {n : Int} {v : Int32} (hv : Int32.ofInt n = v) (hd : decode Y.2.1 pc = .ok (.iinc i n, 3)) (hn : pc + 3 = nx) (hl : i < Y.2.2.1) : jS Y Φ pc (ji_iinc i v nx) := by
  intro k hk lv st h a b hi
  unfold ji_iinc at hi
  split at hi
  · rename_i x hx
    intro p l e s m args below meth c g hc H locs ls hP hS hL
    subst hn
    subst hv
    obtain ⟨q, hq⟩ := List.getElem?_of_mem (jl_mem (g := g) hx)
    exact lv_iinc hc.1 hc.2.1 hd hL.has hq rfl hl rfl (fun ls hl2 => hk _ _ _ _ _ _ hi p l e s m args below meth c g hc H locs ls hP hS (jL.st1 (v := .int (x + Int32.ofInt n)) hl2))
  · exact hi.elim
def ji_iadd (nx : Nat) : jI := fun k lv st h a b => match st with
  | .int y :: .int x :: st => k nx lv (.int (x + y) :: st) h a b
  | _ => False
theorem jS_iadd (hd : decode Y.2.1 pc = .ok (.iadd, 1)) (hn : pc + 1 = nx) : jS Y Φ pc (ji_iadd nx) := by
  intro k hk lv st h a b hi
  unfold ji_iadd at hi
  split at hi
  · skip
    intro p l e s m args below meth c g hc H locs ls hP hS hL
    subst hn
    exact lv_iadd hc.1 hc.2.1 hd (hk _ _ _ _ _ _ hi p l e s m args below meth c g hc H locs ls hP hS hL)
  · exact hi.elim
def ji_isub (nx : Nat) : jI := fun k lv st h a b => match st with
  | .int y :: .int x :: st => k nx lv (.int (x - y) :: st) h a b
  | _ => False
theorem jS_isub (hd : decode Y.2.1 pc = .ok (.isub, 1)) (hn : pc + 1 = nx) : jS Y Φ pc (ji_isub nx) := by
  intro k hk lv st h a b hi
  unfold ji_isub at hi
  split at hi
  · skip
    intro p l e s m args below meth c g hc H locs ls hP hS hL
    subst hn
    exact lv_isub hc.1 hc.2.1 hd (hk _ _ _ _ _ _ hi p l e s m args below meth c g hc H locs ls hP hS hL)
  · exact hi.elim
def ji_imul (nx : Nat) : jI := fun k lv st h a b => match st with
  | .int y :: .int x :: st => k nx lv (.int (x * y) :: st) h a b
  | _ => False
theorem jS_imul (hd : decode Y.2.1 pc = .ok (.imul, 1)) (hn : pc + 1 = nx) : jS Y Φ pc (ji_imul nx) := by
  intro k hk lv st h a b hi
  unfold ji_imul at hi
  split at hi
  · skip
    intro p l e s m args below meth c g hc H locs ls hP hS hL
    subst hn
    exact lv_imul hc.1 hc.2.1 hd (hk _ _ _ _ _ _ hi p l e s m args below meth c g hc H locs ls hP hS hL)
  · exact hi.elim
def ji_iand (nx : Nat) : jI := fun k lv st h a b => match st with
  | .int y :: .int x :: st => k nx lv (.int (x &&& y) :: st) h a b
  | _ => False
theorem jS_iand (hd : decode Y.2.1 pc = .ok (.iand, 1)) (hn : pc + 1 = nx) : jS Y Φ pc (ji_iand nx) := by
  intro k hk lv st h a b hi
  unfold ji_iand at hi
  split at hi
  · skip
    intro p l e s m args below meth c g hc H locs ls hP hS hL
    subst hn
    exact lv_iand hc.1 hc.2.1 hd (hk _ _ _ _ _ _ hi p l e s m args below meth c g hc H locs ls hP hS hL)
  · exact hi.elim
def ji_ior (nx : Nat) : jI := fun k lv st h a b => match st with
  | .int y :: .int x :: st => k nx lv (.int (x ||| y) :: st) h a b
  | _ => False
theorem jS_ior (hd : decode Y.2.1 pc = .ok (.ior, 1)) (hn : pc + 1 = nx) : jS Y Φ pc (ji_ior nx) := by
  intro k hk lv st h a b hi
  unfold ji_ior at hi
  split at hi
  · skip
    intro p l e s m args below meth c g hc H locs ls hP hS hL
    subst hn
    exact lv_ior hc.1 hc.2.1 hd (hk _ _ _ _ _ _ hi p l e s m args below meth c g hc H locs ls hP hS hL)
  · exact hi.elim
def ji_ixor (nx : Nat) : jI := fun k lv st h a b => match st with
  | .int y :: .int x :: st => k nx lv (.int (x ^^^ y) :: st) h a b
  | _ => False
theorem jS_ixor (hd : decode Y.2.1 pc = .ok (.ixor, 1)) (hn : pc + 1 = nx) : jS Y Φ pc (ji_ixor nx) := by
  intro k hk lv st h a b hi
  unfold ji_ixor at hi
  split at hi
  · skip
    intro p l e s m args below meth c g hc H locs ls hP hS hL
    subst hn
    exact lv_ixor hc.1 hc.2.1 hd (hk _ _ _ _ _ _ hi p l e s m args below meth c g hc H locs ls hP hS hL)
  · exact hi.elim
def ji_ishl (nx : Nat) : jI := fun k lv st h a b => match st with
  | .int y :: .int x :: st => k nx lv (.int (x <<< (y &&& 31)) :: st) h a b
  | _ => False
theorem jS_ishl (hd : decode Y.2.1 pc = .ok (.ishl, 1)) (hn : pc + 1 = nx) : jS Y Φ pc (ji_ishl nx) := by
  intro k hk lv st h a b hi
  unfold ji_ishl at hi
  split at hi
  · skip
    intro p l e s m args below meth c g hc H locs ls hP hS hL
    subst hn
    exact lv_ishl hc.1 hc.2.1 hd (hk _ _ _ _ _ _ hi p l e s m args below meth c g hc H locs ls hP hS hL)
  · exact hi.elim
def ji_ishr (nx : Nat) : jI := fun k lv st h a b => match st with
  | .int y :: .int x :: st => k nx lv (.int (x >>> (y &&& 31)) :: st) h a b
  | _ => False
theorem jS_ishr (hd : decode Y.2.1 pc = .ok (.ishr, 1)) (hn : pc + 1 = nx) : jS Y Φ pc (ji_ishr nx) := by
  intro k hk lv st h a b hi
  unfold ji_ishr at hi
  split at hi
  · skip
    intro p l e s m args below meth c g hc H locs ls hP hS hL
    subst hn
    exact lv_ishr hc.1 hc.2.1 hd (hk _ _ _ _ _ _ hi p l e s m args below meth c g hc H locs ls hP hS hL)
  · exact hi.elim
def ji_iushr (nx : Nat) : jI := fun k lv st h a b => match st with
  | .int y :: .int x :: st => k nx lv (.int ((x.toUInt32 >>> (y.toUInt32 &&& Int32.toUInt32 31)).toInt32) :: st) h a b
  | _ => False
theorem jS_iushr (hd : decode Y.2.1 pc = .ok (.iushr, 1)) (hn : pc + 1 = nx) : jS Y Φ pc (ji_iushr nx) := by
  intro k hk lv st h a b hi
  unfold ji_iushr at hi
  split at hi
  · skip
    intro p l e s m args below meth c g hc H locs ls hP hS hL
    subst hn
    exact lv_iushr hc.1 hc.2.1 hd rfl (hk _ _ _ _ _ _ hi p l e s m args below meth c g hc H locs ls hP hS hL)
  · exact hi.elim
def ji_ineg (nx : Nat) : jI := fun k lv st h a b => match st with
  | .int x :: st => k nx lv (.int (-x) :: st) h a b
  | _ => False
theorem jS_ineg (hd : decode Y.2.1 pc = .ok (.ineg, 1)) (hn : pc + 1 = nx) : jS Y Φ pc (ji_ineg nx) := by
  intro k hk lv st h a b hi
  unfold ji_ineg at hi
  split at hi
  · skip
    intro p l e s m args below meth c g hc H locs ls hP hS hL
    subst hn
    exact lv_ineg hc.1 hc.2.1 hd (hk _ _ _ _ _ _ hi p l e s m args below meth c g hc H locs ls hP hS hL)
  · exact hi.elim
def ji_irem (nx : Nat) : jI := fun k lv st h a b => match st with
  | .int y :: .int x :: st => (¬ y = 0) ∧ k nx lv (.int (x - x / y * y) :: st) h a b
  | _ => False
theorem jS_irem (hd : decode Y.2.1 pc = .ok (.irem, 1)) (hn : pc + 1 = nx) : jS Y Φ pc (ji_irem nx) := by
  intro k hk lv st h a b hi
  unfold ji_irem at hi
  split at hi
  · obtain ⟨hcc, hi⟩ := hi
    intro p l e s m args below meth c g hc H locs ls hP hS hL
    subst hn
    exact lv_irem hc.1 hc.2.1 hd hcc (hk _ _ _ _ _ _ hi p l e s m args below meth c g hc H locs ls hP hS hL)
  · exact hi.elim
def ji_idiv (nx : Nat) : jI := fun k lv st h a b => match st with
  | .int y :: .int x :: st => (¬ y = 0) ∧ k nx lv (.int (x / y) :: st) h a b
  | _ => False
theorem jS_idiv (hd : decode Y.2.1 pc = .ok (.idiv, 1)) (hn : pc + 1 = nx) : jS Y Φ pc (ji_idiv nx) := by
  intro k hk lv st h a b hi
  unfold ji_idiv at hi
  split at hi
  · obtain ⟨hcc, hi⟩ := hi
    intro p l e s m args below meth c g hc H locs ls hP hS hL
    subst hn
    exact lv_idiv hc.1 hc.2.1 hd hcc (hk _ _ _ _ _ _ hi p l e s m args below meth c g hc H locs ls hP hS hL)
  · exact hi.elim
def ji_ladd (nx : Nat) : jI := fun k lv st h a b => match st with
  | .long y :: .long x :: st => k nx lv (.long (x + y) :: st) h a b
  | _ => False
theorem jS_ladd (hd : decode Y.2.1 pc = .ok (.ladd, 1)) (hn : pc + 1 = nx) : jS Y Φ pc (ji_ladd nx) := by
  intro k hk lv st h a b hi
  unfold ji_ladd at hi
  split at hi
  · skip
    intro p l e s m args below meth c g hc H locs ls hP hS hL
    subst hn
    exact lv_ladd hc.1 hc.2.1 hd (hk _ _ _ _ _ _ hi p l e s m args below meth c g hc H locs ls hP hS hL)
  · exact hi.elim
def ji_lsub (nx : Nat) : jI := fun k lv st h a b => match st with
  | .long y :: .long x :: st => k nx lv (.long (x - y) :: st) h a b
  | _ => False
theorem jS_lsub (hd : decode Y.2.1 pc = .ok (.lsub, 1)) (hn : pc + 1 = nx) : jS Y Φ pc (ji_lsub nx) := by
  intro k hk lv st h a b hi
  unfold ji_lsub at hi
  split at hi
  · skip
    intro p l e s m args below meth c g hc H locs ls hP hS hL
    subst hn
    exact lv_lsub hc.1 hc.2.1 hd (hk _ _ _ _ _ _ hi p l e s m args below meth c g hc H locs ls hP hS hL)
  · exact hi.elim
def ji_lmul (nx : Nat) : jI := fun k lv st h a b => match st with
  | .long y :: .long x :: st => k nx lv (.long (x * y) :: st) h a b
  | _ => False
theorem jS_lmul (hd : decode Y.2.1 pc = .ok (.lmul, 1)) (hn : pc + 1 = nx) : jS Y Φ pc (ji_lmul nx) := by
  intro k hk lv st h a b hi
  unfold ji_lmul at hi
  split at hi
  · skip
    intro p l e s m args below meth c g hc H locs ls hP hS hL
    subst hn
    exact lv_lmul hc.1 hc.2.1 hd (hk _ _ _ _ _ _ hi p l e s m args below meth c g hc H locs ls hP hS hL)
  · exact hi.elim
def ji_land (nx : Nat) : jI := fun k lv st h a b => match st with
  | .long y :: .long x :: st => k nx lv (.long (x &&& y) :: st) h a b
  | _ => False
theorem jS_land (hd : decode Y.2.1 pc = .ok (.land, 1)) (hn : pc + 1 = nx) : jS Y Φ pc (ji_land nx) := by
  intro k hk lv st h a b hi
  unfold ji_land at hi
  split at hi
  · skip
    intro p l e s m args below meth c g hc H locs ls hP hS hL
    subst hn
    exact lv_land hc.1 hc.2.1 hd (hk _ _ _ _ _ _ hi p l e s m args below meth c g hc H locs ls hP hS hL)
  · exact hi.elim
def ji_lor (nx : Nat) : jI := fun k lv st h a b => match st with
  | .long y :: .long x :: st => k nx lv (.long (x ||| y) :: st) h a b
  | _ => False
theorem jS_lor (hd : decode Y.2.1 pc = .ok (.lor, 1)) (hn : pc + 1 = nx) : jS Y Φ pc (ji_lor nx) := by
  intro k hk lv st h a b hi
  unfold ji_lor at hi
  split at hi
  · skip
    intro p l e s m args below meth c g hc H locs ls hP hS hL
    subst hn
    exact lv_lor hc.1 hc.2.1 hd (hk _ _ _ _ _ _ hi p l e s m args below meth c g hc H locs ls hP hS hL)
  · exact hi.elim
def ji_lxor (nx : Nat) : jI := fun k lv st h a b => match st with
  | .long y :: .long x :: st => k nx lv (.long (x ^^^ y) :: st) h a b
  | _ => False
theorem jS_lxor (hd : decode Y.2.1 pc = .ok (.lxor, 1)) (hn : pc + 1 = nx) : jS Y Φ pc (ji_lxor nx) := by
  intro k hk lv st h a b hi
  unfold ji_lxor at hi
  split at hi
  · skip
    intro p l e s m args below meth c g hc H locs ls hP hS hL
    subst hn
    exact lv_lxor hc.1 hc.2.1 hd (hk _ _ _ _ _ _ hi p l e s m args below meth c g hc H locs ls hP hS hL)
  · exact hi.elim
def ji_lshl (nx : Nat) : jI := fun k lv st h a b => match st with
  | .int y :: .long x :: st => k nx lv (.long (x <<< (y.toInt64 &&& 63)) :: st) h a b
  | _ => False
theorem jS_lshl (hd : decode Y.2.1 pc = .ok (.lshl, 1)) (hn : pc + 1 = nx) : jS Y Φ pc (ji_lshl nx) := by
  intro k hk lv st h a b hi
  unfold ji_lshl at hi
  split at hi
  · skip
    intro p l e s m args below meth c g hc H locs ls hP hS hL
    subst hn
    exact lv_lshl hc.1 hc.2.1 hd rfl (hk _ _ _ _ _ _ hi p l e s m args below meth c g hc H locs ls hP hS hL)
  · exact hi.elim
def ji_lneg (nx : Nat) : jI := fun k lv st h a b => match st with
  | .long x :: st => k nx lv (.long (-x) :: st) h a b
  | _ => False
theorem jS_lneg (hd : decode Y.2.1 pc = .ok (.lneg, 1)) (hn : pc + 1 = nx) : jS Y Φ pc (ji_lneg nx) := by
  intro k hk lv st h a b hi
  unfold ji_lneg at hi
  split at hi
  · skip
    intro p l e s m args below meth c g hc H locs ls hP hS hL
    subst hn
    exact lv_lneg hc.1 hc.2.1 hd (hk _ _ _ _ _ _ hi p l e s m args below meth c g hc H locs ls hP hS hL)
  · exact hi.elim
def ji_ldiv (nx : Nat) : jI := fun k lv st h a b => match st with
  | .long y :: .long x :: st => (¬ y = 0) ∧ k nx lv (.long (x / y) :: st) h a b
  | _ => False
theorem jS_ldiv (hd : decode Y.2.1 pc = .ok (.ldiv, 1)) (hn : pc + 1 = nx) : jS Y Φ pc (ji_ldiv nx) := by
  intro k hk lv st h a b hi
  unfold ji_ldiv at hi
  split at hi
  · obtain ⟨hcc, hi⟩ := hi
    intro p l e s m args below meth c g hc H locs ls hP hS hL
    subst hn
    exact lv_ldiv hc.1 hc.2.1 hd hcc (hk _ _ _ _ _ _ hi p l e s m args below meth c g hc H locs ls hP hS hL)
  · exact hi.elim
def ji_lcmp (nx : Nat) : jI := fun k lv st h a b => match st with
  | .long y :: .long x :: st => k nx lv (.int (lg_cmp x y) :: st) h a b
  | _ => False
theorem jS_lcmp (hd : decode Y.2.1 pc = .ok (.lcmp, 1)) (hn : pc + 1 = nx) : jS Y Φ pc (ji_lcmp nx) := by
  intro k hk lv st h a b hi
  unfold ji_lcmp at hi
  split at hi
  · skip
    intro p l e s m args below meth c g hc H locs ls hP hS hL
    subst hn
    exact W.lcmp hc.1 hc.2.1 hd (hk _ _ _ _ _ _ hi p l e s m args below meth c g hc H locs ls hP hS hL)
  · exact hi.elim
def ji_i2l (nx : Nat) : jI := fun k lv st h a b => match st with
  | .int x :: st => k nx lv (.long (x.toInt64) :: st) h a b
  | _ => False
theorem jS_i2l (hd : decode Y.2.1 pc = .ok (.i2l, 1)) (hn : pc + 1 = nx) : jS Y Φ pc (ji_i2l nx) := by
  intro k hk lv st h a b hi
  unfold ji_i2l at hi
  split at hi
  · skip
    intro p l e s m args below meth c g hc H locs ls hP hS hL
    subst hn
    exact lv_i2l hc.1 hc.2.1 hd rfl (hk _ _ _ _ _ _ hi p l e s m args below meth c g hc H locs ls hP hS hL)
  · exact hi.elim
def ji_l2i (nx : Nat) : jI := fun k lv st h a b => match st with
  | .long x :: st => k nx lv (.int (x.toInt32) :: st) h a b
  | _ => False
theorem jS_l2i (hd : decode Y.2.1 pc = .ok (.l2i, 1)) (hn : pc + 1 = nx) : jS Y Φ pc (ji_l2i nx) := by
  intro k hk lv st h a b hi
  unfold ji_l2i at hi
  split at hi
  · skip
    intro p l e s m args below meth c g hc H locs ls hP hS hL
    subst hn
    exact lv_l2i hc.1 hc.2.1 hd rfl (hk _ _ _ _ _ _ hi p l e s m args below meth c g hc H locs ls hP hS hL)
  · exact hi.elim
def ji_l2f (nx : Nat) : jI := fun k lv st h a b => match st with
  | .long x :: st => k nx lv (.float (FP.l2f x) :: st) h a b
  | _ => False
theorem jS_l2f (hd : decode Y.2.1 pc = .ok (.l2f, 1)) (hn : pc + 1 = nx) : jS Y Φ pc (ji_l2f nx) := by
  intro k hk lv st h a b hi
  unfold ji_l2f at hi
  split at hi
  · skip
    intro p l e s m args below meth c g hc H locs ls hP hS hL
    subst hn
    exact lv_l2f hc.1 hc.2.1 hd (hk _ _ _ _ _ _ hi p l e s m args below meth c g hc H locs ls hP hS hL)
  · exact hi.elim
def ji_f2i (nx : Nat) : jI := fun k lv st h a b => match st with
  | .float x :: st => k nx lv (.int (FP.f2i x) :: st) h a b
  | _ => False
theorem jS_f2i (hd : decode Y.2.1 pc = .ok (.f2i, 1)) (hn : pc + 1 = nx) : jS Y Φ pc (ji_f2i nx) := by
  intro k hk lv st h a b hi
  unfold ji_f2i at hi
  split at hi
  · skip
    intro p l e s m args below meth c g hc H locs ls hP hS hL
    subst hn
    exact lv_f2i hc.1 hc.2.1 hd (hk _ _ _ _ _ _ hi p l e s m args below meth c g hc H locs ls hP hS hL)
  · exact hi.elim
def ji_d2l (nx : Nat) : jI := fun k lv st h a b => match st with
  | .double x :: st => k nx lv (.long (FP.d2l x) :: st) h a b
  | _ => False
theorem jS_d2l (hd : decode Y.2.1 pc = .ok (.d2l, 1)) (hn : pc + 1 = nx) : jS Y Φ pc (ji_d2l nx) := by
  intro k hk lv st h a b hi
  unfold ji_d2l at hi
  split at hi
  · skip
    intro p l e s m args below meth c g hc H locs ls hP hS hL
    subst hn
    exact lv_d2l hc.1 hc.2.1 hd (hk _ _ _ _ _ _ hi p l e s m args below meth c g hc H locs ls hP hS hL)
  · exact hi.elim
def ji_fneg (nx : Nat) : jI := fun k lv st h a b => match st with
  | .float x :: st => k nx lv (.float (FP.fneg x) :: st) h a b
  | _ => False
theorem jS_fneg (hd : decode Y.2.1 pc = .ok (.fneg, 1)) (hn : pc + 1 = nx) : jS Y Φ pc (ji_fneg nx) := by
  intro k hk lv st h a b hi
  unfold ji_fneg at hi
  split at hi
  · skip
    intro p l e s m args below meth c g hc H locs ls hP hS hL
    subst hn
    exact lv_fneg hc.1 hc.2.1 hd (hk _ _ _ _ _ _ hi p l e s m args below meth c g hc H locs ls hP hS hL)
  · exact hi.elim
def ji_dneg (nx : Nat) : jI := fun k lv st h a b => match st with
  | .double x :: st => k nx lv (.double (FP.dneg x) :: st) h a b
  | _ => False
theorem jS_dneg (hd : decode Y.2.1 pc = .ok (.dneg, 1)) (hn : pc + 1 = nx) : jS Y Φ pc (ji_dneg nx) := by
  intro k hk lv st h a b hi
  unfold ji_dneg at hi
  split at hi
  · skip
    intro p l e s m args below meth c g hc H locs ls hP hS hL
    subst hn
    exact lv_dneg hc.1 hc.2.1 hd (hk _ _ _ _ _ _ hi p l e s m args below meth c g hc H locs ls hP hS hL)
  · exact hi.elim
def ji_fadd (nx : Nat) : jI := fun k lv st h a b => match st with
  | .float y :: .float x :: st => (vf_n32 (FP.fadd x y)) ∧ k nx lv (.float (FP.fadd x y) :: st) h a b
  | _ => False
theorem jS_fadd (hd : decode Y.2.1 pc = .ok (.fadd, 1)) (hn : pc + 1 = nx) : jS Y Φ pc (ji_fadd nx) := by
  intro k hk lv st h a b hi
  unfold ji_fadd at hi
  split at hi
  · obtain ⟨hcc, hi⟩ := hi
    intro p l e s m args below meth c g hc H locs ls hP hS hL
    subst hn
    exact lv_fadd hc.1 hc.2.1 hd hcc (hk _ _ _ _ _ _ hi p l e s m args below meth c g hc H locs ls hP hS hL)
  · exact hi.elim
def ji_fsub (nx : Nat) : jI := fun k lv st h a b => match st with
  | .float y :: .float x :: st => (vf_n32 (FP.fsub x y)) ∧ k nx lv (.float (FP.fsub x y) :: st) h a b
  | _ => False
theorem jS_fsub (hd : decode Y.2.1 pc = .ok (.fsub, 1)) (hn : pc + 1 = nx) : jS Y Φ pc (ji_fsub nx) := by
  intro k hk lv st h a b hi
  unfold ji_fsub at hi
  split at hi
  · obtain ⟨hcc, hi⟩ := hi
    intro p l e s m args below meth c g hc H locs ls hP hS hL
    subst hn
    exact lv_fsub hc.1 hc.2.1 hd hcc (hk _ _ _ _ _ _ hi p l e s m args below meth c g hc H locs ls hP hS hL)
  · exact hi.elim
def ji_fmul (nx : Nat) : jI := fun k lv st h a b => match st with
  | .float y :: .float x :: st => (vf_n32 (FP.fmul x y)) ∧ k nx lv (.float (FP.fmul x y) :: st) h a b
  | _ => False
theorem jS_fmul (hd : decode Y.2.1 pc = .ok (.fmul, 1)) (hn : pc + 1 = nx) : jS Y Φ pc (ji_fmul nx) := by
  intro k hk lv st h a b hi
  unfold ji_fmul at hi
  split at hi
  · obtain ⟨hcc, hi⟩ := hi
    intro p l e s m args below meth c g hc H locs ls hP hS hL
    subst hn
    exact lv_fmul hc.1 hc.2.1 hd hcc (hk _ _ _ _ _ _ hi p l e s m args below meth c g hc H locs ls hP hS hL)
  · exact hi.elim
def ji_fdiv (nx : Nat) : jI := fun k lv st h a b => match st with
  | .float y :: .float x :: st => (vf_n32 (FP.fdiv x y)) ∧ k nx lv (.float (FP.fdiv x y) :: st) h a b
  | _ => False
theorem jS_fdiv (hd : decode Y.2.1 pc = .ok (.fdiv, 1)) (hn : pc + 1 = nx) : jS Y Φ pc (ji_fdiv nx) := by
  intro k hk lv st h a b hi
  unfold ji_fdiv at hi
  split at hi
  · obtain ⟨hcc, hi⟩ := hi
    intro p l e s m args below meth c g hc H locs ls hP hS hL
    subst hn
    exact lv_fdiv hc.1 hc.2.1 hd hcc (hk _ _ _ _ _ _ hi p l e s m args below meth c g hc H locs ls hP hS hL)
  · exact hi.elim
def ji_dadd (nx : Nat) : jI := fun k lv st h a b => match st with
  | .double y :: .double x :: st => (vf_n64 (FP.dadd x y)) ∧ k nx lv (.double (FP.dadd x y) :: st) h a b
  | _ => False
theorem jS_dadd (hd : decode Y.2.1 pc = .ok (.dadd, 1)) (hn : pc + 1 = nx) : jS Y Φ pc (ji_dadd nx) := by
  intro k hk lv st h a b hi
  unfold ji_dadd at hi
  split at hi
  · obtain ⟨hcc, hi⟩ := hi
    intro p l e s m args below meth c g hc H locs ls hP hS hL
    subst hn
    exact lv_dadd hc.1 hc.2.1 hd hcc (hk _ _ _ _ _ _ hi p l e s m args below meth c g hc H locs ls hP hS hL)
  · exact hi.elim
def ji_dsub (nx : Nat) : jI := fun k lv st h a b => match st with
  | .double y :: .double x :: st => (vf_n64 (FP.dsub x y)) ∧ k nx lv (.double (FP.dsub x y) :: st) h a b
  | _ => False
theorem jS_dsub (hd : decode Y.2.1 pc = .ok (.dsub, 1)) (hn : pc + 1 = nx) : jS Y Φ pc (ji_dsub nx) := by
  intro k hk lv st h a b hi
  unfold ji_dsub at hi
  split at hi
  · obtain ⟨hcc, hi⟩ := hi
    intro p l e s m args below meth c g hc H locs ls hP hS hL
    subst hn
    exact lv_dsub hc.1 hc.2.1 hd hcc (hk _ _ _ _ _ _ hi p l e s m args below meth c g hc H locs ls hP hS hL)
  · exact hi.elim
def ji_dmul (nx : Nat) : jI := fun k lv st h a b => match st with
  | .double y :: .double x :: st => (vf_n64 (FP.dmul x y)) ∧ k nx lv (.double (FP.dmul x y) :: st) h a b
  | _ => False
theorem jS_dmul (hd : decode Y.2.1 pc = .ok (.dmul, 1)) (hn : pc + 1 = nx) : jS Y Φ pc (ji_dmul nx) := by
  intro k hk lv st h a b hi
  unfold ji_dmul at hi
  split at hi
  · obtain ⟨hcc, hi⟩ := hi
    intro p l e s m args below meth c g hc H locs ls hP hS hL
    subst hn
    exact lv_dmul hc.1 hc.2.1 hd hcc (hk _ _ _ _ _ _ hi p l e s m args below meth c g hc H locs ls hP hS hL)
  · exact hi.elim
def ji_f2d (nx : Nat) : jI := fun k lv st h a b => match st with
  | .float x :: st => (vf_n64 (FP.f2d x)) ∧ k nx lv (.double (FP.f2d x) :: st) h a b
  | _ => False
theorem jS_f2d (hd : decode Y.2.1 pc = .ok (.f2d, 1)) (hn : pc + 1 = nx) : jS Y Φ pc (ji_f2d nx) := by
  intro k hk lv st h a b hi
  unfold ji_f2d at hi
  split at hi
  · obtain ⟨hcc, hi⟩ := hi
    intro p l e s m args below meth c g hc H locs ls hP hS hL
    subst hn
    exact lv_f2d hc.1 hc.2.1 hd hcc (hk _ _ _ _ _ _ hi p l e s m args below meth c g hc H locs ls hP hS hL)
  · exact hi.elim
def ji_fcmp (op : CmpOp) (nx : Nat) : jI := fun k lv st h a b => match st with
  | .float y :: .float x :: st => k nx lv (.int (Op.cmpValue (FP.fcmp x y) op) :: st) h a b
  | _ => False
theorem jS_fcmp {op : CmpOp} (hd : decode Y.2.1 pc = .ok (.fcmp op, 1)) (hn : pc + 1 = nx) : jS Y Φ pc (ji_fcmp op nx) := by
  intro k hk lv st h a b hi
  unfold ji_fcmp at hi
  split at hi
  · skip
    intro p l e s m args below meth c g hc H locs ls hP hS hL
    subst hn
    exact lv_fcmp hc.1 hc.2.1 hd (hk _ _ _ _ _ _ hi p l e s m args below meth c g hc H locs ls hP hS hL)
  · exact hi.elim
def ji_dcmp (op : CmpOp) (nx : Nat) : jI := fun k lv st h a b => match st with
  | .double y :: .double x :: st => k nx lv (.int (Op.cmpValue (FP.dcmp x y) op) :: st) h a b
  | _ => False
theorem jS_dcmp {op : CmpOp} (hd : decode Y.2.1 pc = .ok (.dcmp op, 1)) (hn : pc + 1 = nx) : jS Y Φ pc (ji_dcmp op nx) := by
  intro k hk lv st h a b hi
  unfold ji_dcmp at hi
  split at hi
  · skip
    intro p l e s m args below meth c g hc H locs ls hP hS hL
    subst hn
    exact lv_dcmp hc.1 hc.2.1 hd (hk _ _ _ _ _ _ hi p l e s m args below meth c g hc H locs ls hP hS hL)
  · exact hi.elim
theorem jcat1 {g : jg} {v : Value} (h : v.category = 1) : (jtr g v).category = 1 := by rw [jtr_cat]; exact h
theorem jc2_of {P : Prop} {v : Value} (h : match v.category with | 1 => P | _ => False) : v.category = 1 ∧ P := by
  rcases lv_cat v with hc | hc
  · rw [hc] at h; exact ⟨hc, h⟩
  · rw [hc] at h; exact h.elim
def ji_dup (nx : Nat) : jI := fun k lv st h a b => match st with
  | v :: st => (match v.category with
    | 1 => k nx lv (v :: v :: st) h a b
    | _ => False)
  | _ => False
theorem jS_dup (hd : decode Y.2.1 pc = .ok (.dup, 1)) (hn : pc + 1 = nx) : jS Y Φ pc (ji_dup nx) := by
  intro k hk lv st h a b hi
  unfold ji_dup at hi
  split at hi
  · obtain ⟨hcc, hi⟩ := jc2_of hi
    intro p l e s m args below meth c g hc H locs ls hP hS hL
    subst hn
    exact lv_dup hc.1 hc.2.1 hd (jcat1 hcc) (hk _ _ _ _ _ _ hi p l e s m args below meth c g hc H locs ls hP hS hL)
  · exact hi.elim
def ji_pop (nx : Nat) : jI := fun k lv st h a b => match st with
  | v :: st => (match v.category with
    | 1 => k nx lv st h a b
    | _ => False)
  | _ => False
theorem jS_pop (hd : decode Y.2.1 pc = .ok (.pop, 1)) (hn : pc + 1 = nx) : jS Y Φ pc (ji_pop nx) := by
  intro k hk lv st h a b hi
  unfold ji_pop at hi
  split at hi
  · obtain ⟨hcc, hi⟩ := jc2_of hi
    intro p l e s m args below meth c g hc H locs ls hP hS hL
    subst hn
    exact lv_pop hc.1 hc.2.1 hd (jcat1 hcc) (hk _ _ _ _ _ _ hi p l e s m args below meth c g hc H locs ls hP hS hL)
  · exact hi.elim
def ji_dup_x1 (nx : Nat) : jI := fun k lv st h a b => match st with
  | v :: x :: st => (match v.category with
    | 1 => (match x.category with
      | 1 => k nx lv (v :: x :: v :: st) h a b
      | _ => False)
    | _ => False)
  | _ => False
theorem jS_dup_x1 (hd : decode Y.2.1 pc = .ok (.dup_x1, 1)) (hn : pc + 1 = nx) : jS Y Φ pc (ji_dup_x1 nx) := by
  intro k hk lv st h a b hi
  unfold ji_dup_x1 at hi
  split at hi
  · obtain ⟨hcc, hi⟩ := jc2_of hi
    obtain ⟨hc2, hi⟩ := jc2_of hi
    intro p l e s m args below meth c g hc H locs ls hP hS hL
    subst hn
    exact lv_dup_x1 hc.1 hc.2.1 hd (jcat1 hcc) (jcat1 hc2) (hk _ _ _ _ _ _ hi p l e s m args below meth c g hc H locs ls hP hS hL)
  · exact hi.elim
def ji_dup2 (nx : Nat) : jI := fun k lv st h a b => match st with
  | v :: x :: st => (match v.category with
    | 1 => (match x.category with
      | 1 => k nx lv (v :: x :: v :: x :: st) h a b
      | _ => False)
    | _ => False)
  | _ => False
theorem jS_dup2 (hd : decode Y.2.1 pc = .ok (.dup2, 1)) (hn : pc + 1 = nx) : jS Y Φ pc (ji_dup2 nx) := by
  intro k hk lv st h a b hi
  unfold ji_dup2 at hi
  split at hi
  · obtain ⟨hcc, hi⟩ := jc2_of hi
    obtain ⟨hc2, hi⟩ := jc2_of hi
    intro p l e s m args below meth c g hc H locs ls hP hS hL
    subst hn
    exact lv_dup2_11 hc.1 hc.2.1 hd (jcat1 hcc) (jcat1 hc2) (hk _ _ _ _ _ _ hi p l e s m args below meth c g hc H locs ls hP hS hL)
  · exact hi.elim
def ji_ifeq (tgt nx : Nat) : jI := fun k lv st h a b => match st with
  | .int x :: st => (x = nI 0 → k tgt lv st h a b) ∧ (¬ x = nI 0 → k nx lv st h a b)
  | _ => False
theorem jS_ifeq {off : Int} {tgt : Nat} (hd : decode Y.2.1 pc = .ok (.ifCond .eq off, 3)) (ht : (pc : Int) + off = (tgt : Int)) (hn : pc + 3 = nx) : jS Y Φ pc (ji_ifeq tgt nx) := by
  intro k hk lv st h a b hi
  unfold ji_ifeq at hi
  split at hi
  · intro p l e s m args below meth c g hc H locs ls hP hS hL
    subst hn
    obtain ⟨h1, h2⟩ := hi
    rw [nI_0] at h1 h2
    exact lv_if_eq hc.1 hc.2.1 hd ht (fun q => hk _ _ _ _ _ _ (h1 q) p l e s m args below meth c g hc H locs ls hP hS hL) (fun q => hk _ _ _ _ _ _ (h2 q) p l e s m args below meth c g hc H locs ls hP hS hL)
  · exact hi.elim
def ji_icmpeq (tgt nx : Nat) : jI := fun k lv st h a b => match st with
  | .int y :: .int x :: st => (x = y → k tgt lv st h a b) ∧ (¬ x = y → k nx lv st h a b)
  | _ => False
theorem jS_icmpeq {off : Int} {tgt : Nat} (hd : decode Y.2.1 pc = .ok (.if_icmp .eq off, 3)) (ht : (pc : Int) + off = (tgt : Int)) (hn : pc + 3 = nx) : jS Y Φ pc (ji_icmpeq tgt nx) := by
  intro k hk lv st h a b hi
  unfold ji_icmpeq at hi
  split at hi
  · intro p l e s m args below meth c g hc H locs ls hP hS hL
    subst hn
    obtain ⟨h1, h2⟩ := hi
    skip
    exact lv_icmp_eq hc.1 hc.2.1 hd ht (fun q => hk _ _ _ _ _ _ (h1 q) p l e s m args below meth c g hc H locs ls hP hS hL) (fun q => hk _ _ _ _ _ _ (h2 q) p l e s m args below meth c g hc H locs ls hP hS hL)
  · exact hi.elim
def ji_ifne (tgt nx : Nat) : jI := fun k lv st h a b => match st with
  | .int x :: st => (¬ x = nI 0 → k tgt lv st h a b) ∧ (x = nI 0 → k nx lv st h a b)
  | _ => False
theorem jS_ifne {off : Int} {tgt : Nat} (hd : decode Y.2.1 pc = .ok (.ifCond .ne off, 3)) (ht : (pc : Int) + off = (tgt : Int)) (hn : pc + 3 = nx) : jS Y Φ pc (ji_ifne tgt nx) := by
  intro k hk lv st h a b hi
  unfold ji_ifne at hi
  split at hi
  · intro p l e s m args below meth c g hc H locs ls hP hS hL
    subst hn
    obtain ⟨h1, h2⟩ := hi
    rw [nI_0] at h1 h2
    exact lv_if_ne hc.1 hc.2.1 hd ht (fun q => hk _ _ _ _ _ _ (h1 q) p l e s m args below meth c g hc H locs ls hP hS hL) (fun q => hk _ _ _ _ _ _ (h2 q) p l e s m args below meth c g hc H locs ls hP hS hL)
  · exact hi.elim
def ji_icmpne (tgt nx : Nat) : jI := fun k lv st h a b => match st with
  | .int y :: .int x :: st => (¬ x = y → k tgt lv st h a b) ∧ (x = y → k nx lv st h a b)
  | _ => False
theorem jS_icmpne {off : Int} {tgt : Nat} (hd : decode Y.2.1 pc = .ok (.if_icmp .ne off, 3)) (ht : (pc : Int) + off = (tgt : Int)) (hn : pc + 3 = nx) : jS Y Φ pc (ji_icmpne tgt nx) := by
  intro k hk lv st h a b hi
  unfold ji_icmpne at hi
  split at hi
  · intro p l e s m args below meth c g hc H locs ls hP hS hL
    subst hn
    obtain ⟨h1, h2⟩ := hi
    skip
    exact lv_icmp_ne hc.1 hc.2.1 hd ht (fun q => hk _ _ _ _ _ _ (h1 q) p l e s m args below meth c g hc H locs ls hP hS hL) (fun q => hk _ _ _ _ _ _ (h2 q) p l e s m args below meth c g hc H locs ls hP hS hL)
  · exact hi.elim
def ji_iflt (tgt nx : Nat) : jI := fun k lv st h a b => match st with
  | .int x :: st => (x < nI 0 → k tgt lv st h a b) ∧ (¬ x < nI 0 → k nx lv st h a b)
  | _ => False
theorem jS_iflt {off : Int} {tgt : Nat} (hd : decode Y.2.1 pc = .ok (.ifCond .lt off, 3)) (ht : (pc : Int) + off = (tgt : Int)) (hn : pc + 3 = nx) : jS Y Φ pc (ji_iflt tgt nx) := by
  intro k hk lv st h a b hi
  unfold ji_iflt at hi
  split at hi
  · intro p l e s m args below meth c g hc H locs ls hP hS hL
    subst hn
    obtain ⟨h1, h2⟩ := hi
    rw [nI_0] at h1 h2
    exact lv_if_lt hc.1 hc.2.1 hd ht (fun q => hk _ _ _ _ _ _ (h1 q) p l e s m args below meth c g hc H locs ls hP hS hL) (fun q => hk _ _ _ _ _ _ (h2 q) p l e s m args below meth c g hc H locs ls hP hS hL)
  · exact hi.elim
def ji_icmplt (tgt nx : Nat) : jI := fun k lv st h a b => match st with
  | .int y :: .int x :: st => (x < y → k tgt lv st h a b) ∧ (¬ x < y → k nx lv st h a b)
  | _ => False
theorem jS_icmplt {off : Int} {tgt : Nat} (hd : decode Y.2.1 pc = .ok (.if_icmp .lt off, 3)) (ht : (pc : Int) + off = (tgt : Int)) (hn : pc + 3 = nx) : jS Y Φ pc (ji_icmplt tgt nx) := by
  intro k hk lv st h a b hi
  unfold ji_icmplt at hi
  split at hi
  · intro p l e s m args below meth c g hc H locs ls hP hS hL
    subst hn
    obtain ⟨h1, h2⟩ := hi
    skip
    exact lv_icmp_lt hc.1 hc.2.1 hd ht (fun q => hk _ _ _ _ _ _ (h1 q) p l e s m args below meth c g hc H locs ls hP hS hL) (fun q => hk _ _ _ _ _ _ (h2 q) p l e s m args below meth c g hc H locs ls hP hS hL)
  · exact hi.elim
def ji_ifge (tgt nx : Nat) : jI := fun k lv st h a b => match st with
  | .int x :: st => (nI 0 ≤ x → k tgt lv st h a b) ∧ (¬ nI 0 ≤ x → k nx lv st h a b)
  | _ => False
theorem jS_ifge {off : Int} {tgt : Nat} (hd : decode Y.2.1 pc = .ok (.ifCond .ge off, 3)) (ht : (pc : Int) + off = (tgt : Int)) (hn : pc + 3 = nx) : jS Y Φ pc (ji_ifge tgt nx) := by
  intro k hk lv st h a b hi
  unfold ji_ifge at hi
  split at hi
  · intro p l e s m args below meth c g hc H locs ls hP hS hL
    subst hn
    obtain ⟨h1, h2⟩ := hi
    rw [nI_0] at h1 h2
    exact lv_if_ge hc.1 hc.2.1 hd ht (fun q => hk _ _ _ _ _ _ (h1 q) p l e s m args below meth c g hc H locs ls hP hS hL) (fun q => hk _ _ _ _ _ _ (h2 q) p l e s m args below meth c g hc H locs ls hP hS hL)
  · exact hi.elim
def ji_icmpge (tgt nx : Nat) : jI := fun k lv st h a b => match st with
  | .int y :: .int x :: st => (y ≤ x → k tgt lv st h a b) ∧ (¬ y ≤ x → k nx lv st h a b)
  | _ => False
theorem jS_icmpge {off : Int} {tgt : Nat} (hd : decode Y.2.1 pc = .ok (.if_icmp .ge off, 3)) (ht : (pc : Int) + off = (tgt : Int)) (hn : pc + 3 = nx) : jS Y Φ pc (ji_icmpge tgt nx) := by
  intro k hk lv st h a b hi
  unfold ji_icmpge at hi
  split at hi
  · intro p l e s m args below meth c g hc H locs ls hP hS hL
    subst hn
    obtain ⟨h1, h2⟩ := hi
    skip
    exact lv_icmp_ge hc.1 hc.2.1 hd ht (fun q => hk _ _ _ _ _ _ (h1 q) p l e s m args below meth c g hc H locs ls hP hS hL) (fun q => hk _ _ _ _ _ _ (h2 q) p l e s m args below meth c g hc H locs ls hP hS hL)
  · exact hi.elim
def ji_ifgt (tgt nx : Nat) : jI := fun k lv st h a b => match st with
  | .int x :: st => (nI 0 < x → k tgt lv st h a b) ∧ (¬ nI 0 < x → k nx lv st h a b)
  | _ => False
theorem jS_ifgt {off : Int} {tgt : Nat} (hd : decode Y.2.1 pc = .ok (.ifCond .gt off, 3)) (ht : (pc : Int) + off = (tgt : Int)) (hn : pc + 3 = nx) : jS Y Φ pc (ji_ifgt tgt nx) := by
  intro k hk lv st h a b hi
  unfold ji_ifgt at hi
  split at hi
  · intro p l e s m args below meth c g hc H locs ls hP hS hL
    subst hn
    obtain ⟨h1, h2⟩ := hi
    rw [nI_0] at h1 h2
    exact lv_if_gt hc.1 hc.2.1 hd ht (fun q => hk _ _ _ _ _ _ (h1 q) p l e s m args below meth c g hc H locs ls hP hS hL) (fun q => hk _ _ _ _ _ _ (h2 q) p l e s m args below meth c g hc H locs ls hP hS hL)
  · exact hi.elim
def ji_icmpgt (tgt nx : Nat) : jI := fun k lv st h a b => match st with
  | .int y :: .int x :: st => (y < x → k tgt lv st h a b) ∧ (¬ y < x → k nx lv st h a b)
  | _ => False
theorem jS_icmpgt {off : Int} {tgt : Nat} (hd : decode Y.2.1 pc = .ok (.if_icmp .gt off, 3)) (ht : (pc : Int) + off = (tgt : Int)) (hn : pc + 3 = nx) : jS Y Φ pc (ji_icmpgt tgt nx) := by
  intro k hk lv st h a b hi
  unfold ji_icmpgt at hi
  split at hi
  · intro p l e s m args below meth c g hc H locs ls hP hS hL
    subst hn
    obtain ⟨h1, h2⟩ := hi
    skip
    exact lv_icmp_gt hc.1 hc.2.1 hd ht (fun q => hk _ _ _ _ _ _ (h1 q) p l e s m args below meth c g hc H locs ls hP hS hL) (fun q => hk _ _ _ _ _ _ (h2 q) p l e s m args below meth c g hc H locs ls hP hS hL)
  · exact hi.elim
def ji_ifle (tgt nx : Nat) : jI := fun k lv st h a b => match st with
  | .int x :: st => (x ≤ nI 0 → k tgt lv st h a b) ∧ (¬ x ≤ nI 0 → k nx lv st h a b)
  | _ => False
theorem jS_ifle {off : Int} {tgt : Nat} (hd : decode Y.2.1 pc = .ok (.ifCond .le off, 3)) (ht : (pc : Int) + off = (tgt : Int)) (hn : pc + 3 = nx) : jS Y Φ pc (ji_ifle tgt nx) := by
  intro k hk lv st h a b hi
  unfold ji_ifle at hi
  split at hi
  · intro p l e s m args below meth c g hc H locs ls hP hS hL
    subst hn
    obtain ⟨h1, h2⟩ := hi
    rw [nI_0] at h1 h2
    exact lv_if_le hc.1 hc.2.1 hd ht (fun q => hk _ _ _ _ _ _ (h1 q) p l e s m args below meth c g hc H locs ls hP hS hL) (fun q => hk _ _ _ _ _ _ (h2 q) p l e s m args below meth c g hc H locs ls hP hS hL)
  · exact hi.elim
def ji_icmple (tgt nx : Nat) : jI := fun k lv st h a b => match st with
  | .int y :: .int x :: st => (x ≤ y → k tgt lv st h a b) ∧ (¬ x ≤ y → k nx lv st h a b)
  | _ => False
theorem jS_icmple {off : Int} {tgt : Nat} (hd : decode Y.2.1 pc = .ok (.if_icmp .le off, 3)) (ht : (pc : Int) + off = (tgt : Int)) (hn : pc + 3 = nx) : jS Y Φ pc (ji_icmple tgt nx) := by
  intro k hk lv st h a b hi
  unfold ji_icmple at hi
  split at hi
  · intro p l e s m args below meth c g hc H locs ls hP hS hL
    subst hn
    obtain ⟨h1, h2⟩ := hi
    skip
    exact lv_icmp_le hc.1 hc.2.1 hd ht (fun q => hk _ _ _ _ _ _ (h1 q) p l e s m args below meth c g hc H locs ls hP hS hL) (fun q => hk _ _ _ _ _ _ (h2 q) p l e s m args below meth c g hc H locs ls hP hS hL)
  · exact hi.elim
def ji_ifnull (tgt nx : Nat) : jI := fun k lv st h a b => match st with
  | .ref _ :: st => k nx lv st h a b
  | .null :: st => k tgt lv st h a b
  | _ => False
theorem jS_ifnull {off : Int} {tgt : Nat} (hd : decode Y.2.1 pc = .ok (.ifnull off, 3)) (ht : (pc : Int) + off = (tgt : Int)) (hn : pc + 3 = nx) : jS Y Φ pc (ji_ifnull tgt nx) := by
  intro k hk lv st h a b hi
  unfold ji_ifnull at hi
  split at hi
  · intro p l e s m args below meth c g hc H locs ls hP hS hL
    subst hn
    exact lv_ifnull hc.1 hc.2.1 hd (hk _ _ _ _ _ _ hi p l e s m args below meth c g hc H locs ls hP hS hL)
  · intro p l e s m args below meth c g hc H locs ls hP hS hL
    subst hn
    exact lv_ifnullN hc.1 hc.2.1 hd ht (hk _ _ _ _ _ _ hi p l e s m args below meth c g hc H locs ls hP hS hL)
  · exact hi.elim
def ji_ifnonnull (tgt nx : Nat) : jI := fun k lv st h a b => match st with
  | .ref _ :: st => k tgt lv st h a b
  | .null :: st => k nx lv st h a b
  | _ => False
theorem jS_ifnonnull {off : Int} {tgt : Nat} (hd : decode Y.2.1 pc = .ok (.ifnonnull off, 3)) (ht : (pc : Int) + off = (tgt : Int)) (hn : pc + 3 = nx) : jS Y Φ pc (ji_ifnonnull tgt nx) := by
  intro k hk lv st h a b hi
  unfold ji_ifnonnull at hi
  split at hi
  · intro p l e s m args below meth c g hc H locs ls hP hS hL
    subst hn
    exact lv_ifnonnull hc.1 hc.2.1 hd ht (hk _ _ _ _ _ _ hi p l e s m args below meth c g hc H locs ls hP hS hL)
  · intro p l e s m args below meth c g hc H locs ls hP hS hL
    subst hn
    exact lv_ifnonnullN hc.1 hc.2.1 hd (hk _ _ _ _ _ _ hi p l e s m args below meth c g hc H locs ls hP hS hL)
  · exact hi.elim
def ji_goto (tgt : Nat) : jI := fun k lv st h a b => k tgt lv st h a b
theorem jS_goto {off : Int} {tgt : Nat} (hd : decode Y.2.1 pc = .ok (.goto off, 3)) (ht : (pc : Int) + off = (tgt : Int)) : jS Y Φ pc (ji_goto tgt) := by
  intro k hk lv st h a b hi
  intro p l e s m args below meth c g hc H locs ls hP hS hL
  exact lv_goto hc.1 hc.2.1 hd ht (hk _ _ _ _ _ _ hi p l e s m args below meth c g hc H locs ls hP hS hL)
end jsound
end
section
/-! THE ENGINE, third part: ends, fields, rows, casts, calls -/
theorem jP.obj {g : jg} {h : List jC} {H : Heap} (hP : jP g h H) {r ci : Nat} {vs : List Value} (hr : h[r]? = some (.inr (ci, vs))) : ∃ k, r = k + 2 ∧ h[k + 2]? = some (.inr (ci, vs)) := by
  match r, hr with
  | 0, hr => rw [hP.2.1] at hr; cases hr
  | 1, hr => rw [hP.2.2.1] at hr; cases hr
  | k + 2, hr => exact ⟨k, rfl, hr⟩
theorem jP.arr {g : jg} {h : List jC} {H : Heap} (hP : jP g h H) {r n : Nat} {ty : FieldType} {x : jZ} (hn : 0 < n) (hb : ty ≠ .byte) (hr : h[r]? = some (.inl (ty, n, x))) : ∃ k, r = k + 2 ∧ h[k + 2]? = some (.inl (ty, n, x)) ∧ ty ∈ jtys ∧ n ≤ 100000 := by
  match r, hr with
  | 0, hr => rw [hP.2.1] at hr; cases hr; omega
  | 1, hr => rw [hP.2.2.1] at hr; cases hr; exact absurd rfl hb
  | k + 2, hr => exact ⟨k, rfl, hr, hP.2.2.2.2 k _ hr⟩
theorem jK.fields {g : jg} {s : State} (hK : jK g s) {args : Array Value} {C : String} {T : u_T} {N : Nat} (hin : ∀ w ∈ u_ws C T N, w ∈ lw_tbl) : ∀ w ∈ u_ws C T N, w.before args s = true := by
  intro w hw
  have h1 := hin w hw
  obtain ⟨k, -, rfl⟩ := List.mem_map.mp hw
  unfold u_lay at h1 ⊢
  split
  · rename_i q
    rw [if_pos q] at h1
    exact hK.word h1 rfl rfl
  · rename_i q
    rw [if_neg q] at h1
    exact hK.word h1 rfl rfl
theorem jK.ty {g : jg} {s : State} (hK : jK g s) {ty : FieldType} (h : ty ∈ jtys) : ∃ t0 : Nat, (jtl g)[t0]? = some (g.2.2.2 ty, ty) := by
  obtain ⟨i, hi⟩ := List.getElem?_of_mem h
  exact ⟨i, by unfold jtl; rw [List.getElem?_map, hi]; rfl⟩
theorem jK.arrOf {g : jg} {s : State} (hK : jK g s) {ty : FieldType} (h : ty ∈ jtys) : ArrOfT s (g.2.2.2 ty) ty ∧ va_RA s (g.2.2.2 ty) ty := by
  obtain ⟨t0, ht⟩ := hK.ty h
  exact hK.2.1.2 t0 _ ht
theorem vp_nI {n j : Nat} (h : j < n) (hn : n ≤ 100000) : vp_in (nI j) n ∧ (nI j).toNatClampNeg = j := ⟨vp_in_nI h (by omega), nI_clamp (by omega)⟩
def jfit (ty : FieldType) (v : Value) : Prop := match ty, v with
  | .int, .int _ => True
  | .boolean, .int x => x = nI 0 ∨ x = nI 1
  | .long, .long _ => True
  | .float, .float _ => True
  | .double, .double _ => True
  | .object _, .ref _ => True
  | .object _, .null => True
  | .array _, .ref _ => True
  | .array _, .null => True
  | _, _ => False
theorem jfit_ok {g : jg} {ty : FieldType} {v : Value} (h : jfit ty v) : narrow ty (jtr g v) = jtr g v ∧ fits ty (jtr g v) = true := by
  cases ty <;> cases v <;> first
    | exact h.elim
    | exact ⟨rfl, rfl⟩
    | (rcases h with rfl | rfl <;> exact ⟨rfl, rfl⟩)
section jsound
variable {Y : jY} {Φ : jPost} {pc nx : Nat}

def ji_ret (Φ : jPost) (MC MS : Nat) : jI := fun _ _ st h a b => match st with
  | [] => cond (Nat.ble a MC && Nat.ble b MS) (Φ none h) False
  | _ => False
theorem jb2 {x y : Bool} {P : Prop} (h : cond (x && y) P False) : x = true ∧ y = true ∧ P := by
  cases x <;> cases y <;> first | exact h.elim | exact ⟨rfl, rfl, h⟩
theorem jb1 {x : Bool} {P : Prop} (h : cond x P False) : x = true ∧ P := by
  cases x <;> first | exact h.elim | exact ⟨rfl, h⟩
theorem jS_ret (hr : Y.2.2.2.1 = none) (hd : decode Y.2.1 pc = .ok (.return_, 1)) : jS Y Φ pc (ji_ret Φ Y.2.2.2.2.2.1 Y.2.2.2.2.2.2) := by
  intro k hk lv st h a b hi
  unfold ji_ret at hi
  split at hi
  · obtain ⟨h1, h2, hi⟩ := jb2 hi
    intro p l e s m args below meth c g hc H locs ls hP hS hL
    refine W.widen (Nat.le_of_ble_eq_true h1) (Nat.le_of_ble_eq_true h2) ?_
    exact W.vret hc.1 hc.2.1 (hc.2.2.2.2.2.1.trans hr) (fun t ht _ => ⟨⟨none, h, hi, rfl, by rw [ht]; exact hP⟩, hS.F ht⟩) hS.2.2 hd hc.2.2.2.2.1
  · exact hi.elim
def ji_iret (Φ : jPost) (MC MS : Nat) : jI := fun _ _ st h a b => match st with
  | [.int x] => cond (Nat.ble a MC && Nat.ble b MS) (Φ (some (.int x)) h) False
  | _ => False
theorem jS_iret (hr : Y.2.2.2.1 = some .int) (hd : decode Y.2.1 pc = .ok (.ireturn, 1)) : jS Y Φ pc (ji_iret Φ Y.2.2.2.2.2.1 Y.2.2.2.2.2.2) := by
  intro k hk lv st h a b hi
  unfold ji_iret at hi
  split at hi
  · obtain ⟨h1, h2, hi⟩ := jb2 hi
    skip
    intro p l e s m args below meth c g hc H locs ls hP hS hL
    refine W.widen (Nat.le_of_ble_eq_true h1) (Nat.le_of_ble_eq_true h2) ?_
    exact W.iret hc.1 hc.2.1 (hc.2.2.2.2.2.1.trans hr) (fun t ht _ => ⟨⟨some (.int _), h, hi, rfl, by rw [ht]; exact hP⟩, hS.F ht⟩) hS.2.2 hd hc.2.2.2.2.1
  · exact hi.elim
def ji_zret (Φ : jPost) (MC MS : Nat) : jI := fun _ _ st h a b => match st with
  | [.int x] => cond (Nat.ble a MC && Nat.ble b MS) ((x = nI 0 ∨ x = nI 1) ∧ Φ (some (.int x)) h) False
  | _ => False
theorem jS_zret (hr : Y.2.2.2.1 = some .boolean) (hd : decode Y.2.1 pc = .ok (.ireturn, 1)) : jS Y Φ pc (ji_zret Φ Y.2.2.2.2.2.1 Y.2.2.2.2.2.2) := by
  intro k hk lv st h a b hi
  unfold ji_zret at hi
  split at hi
  · obtain ⟨h1, h2, hi⟩ := jb2 hi
    obtain ⟨hcc, hi⟩ := hi
    intro p l e s m args below meth c g hc H locs ls hP hS hL
    refine W.widen (Nat.le_of_ble_eq_true h1) (Nat.le_of_ble_eq_true h2) ?_
    exact W.zret hc.1 hc.2.1 (hc.2.2.2.2.2.1.trans hr) (by rcases hcc with rfl | rfl <;> rfl) (fun t ht _ => ⟨⟨some (.int _), h, hi, rfl, by rw [ht]; exact hP⟩, hS.F ht⟩) hS.2.2 hd hc.2.2.2.2.1
  · exact hi.elim
def ji_lret (Φ : jPost) (MC MS : Nat) : jI := fun _ _ st h a b => match st with
  | [.long x] => cond (Nat.ble a MC && Nat.ble b MS) (Φ (some (.long x)) h) False
  | _ => False
theorem jS_lret (hr : Y.2.2.2.1 = some .long) (hd : decode Y.2.1 pc = .ok (.lreturn, 1)) : jS Y Φ pc (ji_lret Φ Y.2.2.2.2.2.1 Y.2.2.2.2.2.2) := by
  intro k hk lv st h a b hi
  unfold ji_lret at hi
  split at hi
  · obtain ⟨h1, h2, hi⟩ := jb2 hi
    skip
    intro p l e s m args below meth c g hc H locs ls hP hS hL
    refine W.widen (Nat.le_of_ble_eq_true h1) (Nat.le_of_ble_eq_true h2) ?_
    exact W.lret hc.1 hc.2.1 (hc.2.2.2.2.2.1.trans hr) (fun t ht _ => ⟨⟨some (.long _), h, hi, rfl, by rw [ht]; exact hP⟩, hS.F ht⟩) hS.2.2 hd hc.2.2.2.2.1
  · exact hi.elim
def ji_fret (Φ : jPost) (MC MS : Nat) : jI := fun _ _ st h a b => match st with
  | [.float x] => cond (Nat.ble a MC && Nat.ble b MS) (Φ (some (.float x)) h) False
  | _ => False
theorem jS_fret (hr : Y.2.2.2.1 = some .float) (hd : decode Y.2.1 pc = .ok (.freturn, 1)) : jS Y Φ pc (ji_fret Φ Y.2.2.2.2.2.1 Y.2.2.2.2.2.2) := by
  intro k hk lv st h a b hi
  unfold ji_fret at hi
  split at hi
  · obtain ⟨h1, h2, hi⟩ := jb2 hi
    skip
    intro p l e s m args below meth c g hc H locs ls hP hS hL
    refine W.widen (Nat.le_of_ble_eq_true h1) (Nat.le_of_ble_eq_true h2) ?_
    exact W.fret hc.1 hc.2.1 (hc.2.2.2.2.2.1.trans hr) (fun t ht _ => ⟨⟨some (.float _), h, hi, rfl, by rw [ht]; exact hP⟩, hS.F ht⟩) hS.2.2 hd hc.2.2.2.2.1
  · exact hi.elim
def ji_dret (Φ : jPost) (MC MS : Nat) : jI := fun _ _ st h a b => match st with
  | [.double x] => cond (Nat.ble a MC && Nat.ble b MS) (Φ (some (.double x)) h) False
  | _ => False
theorem jS_dret (hr : Y.2.2.2.1 = some .double) (hd : decode Y.2.1 pc = .ok (.dreturn, 1)) : jS Y Φ pc (ji_dret Φ Y.2.2.2.2.2.1 Y.2.2.2.2.2.2) := by
  intro k hk lv st h a b hi
  unfold ji_dret at hi
  split at hi
  · obtain ⟨h1, h2, hi⟩ := jb2 hi
    skip
    intro p l e s m args below meth c g hc H locs ls hP hS hL
    refine W.widen (Nat.le_of_ble_eq_true h1) (Nat.le_of_ble_eq_true h2) ?_
    exact W.dret hc.1 hc.2.1 (hc.2.2.2.2.2.1.trans hr) (fun t ht _ => ⟨⟨some (.double _), h, hi, rfl, by rw [ht]; exact hP⟩, hS.F ht⟩) hS.2.2 hd hc.2.2.2.2.1
  · exact hi.elim
def ji_aret (Φ : jPost) (MC MS : Nat) : jI := fun _ _ st h a b => match st with
  | [.ref x] => cond (Nat.ble a MC && Nat.ble b MS) (Φ (some (.ref x)) h) False
  | [.null] => cond (Nat.ble a MC && Nat.ble b MS) (Φ (some .null) h) False
  | _ => False
theorem jS_aret {rt : FieldType} (hr : Y.2.2.2.1 = some rt) (hrt : (∃ n, rt = .object n) ∨ ∃ t, rt = .array t) (hd : decode Y.2.1 pc = .ok (.areturn, 1)) : jS Y Φ pc (ji_aret Φ Y.2.2.2.2.2.1 Y.2.2.2.2.2.2) := by
  intro k hk lv st h a b hi
  unfold ji_aret at hi
  split at hi
  · rename_i x
    obtain ⟨h1, h2, hi⟩ := jb2 hi
    intro p l e s m args below meth c g hc H locs ls hP hS hL
    refine W.widen (Nat.le_of_ble_eq_true h1) (Nat.le_of_ble_eq_true h2) ?_
    exact W.aret (v := jtr g (.ref x)) hc.1 hc.2.1 (hc.2.2.2.2.2.1.trans hr) hrt (Or.inr ⟨_, rfl⟩) (fun t ht _ => ⟨⟨some (.ref x), h, hi, rfl, by rw [ht]; exact hP⟩, hS.F ht⟩) hS.2.2 hd hc.2.2.2.2.1
  · obtain ⟨h1, h2, hi⟩ := jb2 hi
    intro p l e s m args below meth c g hc H locs ls hP hS hL
    refine W.widen (Nat.le_of_ble_eq_true h1) (Nat.le_of_ble_eq_true h2) ?_
    exact W.aret (v := .null) hc.1 hc.2.1 (hc.2.2.2.2.2.1.trans hr) hrt (Or.inl rfl) (fun t ht _ => ⟨⟨some .null, h, hi, rfl, by rw [ht]; exact hP⟩, hS.F ht⟩) hS.2.2 hd hc.2.2.2.2.1
  · exact hi.elim
/-- a field of an object of class ci -/
def ji_getf (ci f nx : Nat) : jI := fun k lv st h a b => match st with
  | .ref r :: st => ∃ vs, h[r]? = some (.inr (ci, vs)) ∧ (match vs[f]? with
    | some v => k nx lv (v :: st) h a b
    | none => False)
  | _ => False
theorem jhv {g : jg} {vs : List Value} {f : Nat} {v : Value} (h : vs[f]? = some v) : (vs.map (jtr g))[f]? = some (jtr g v) := by rw [List.getElem?_map, h]; rfl
theorem jS_getf {ci f index N : Nat} {ref C : String} {T : u_T} (hin : ∀ w ∈ u_ws C T N, w ∈ lw_tbl) (hcl : vwCl[ci]? = some (C, T, N)) (hf : f < N) (hl : Cond.fieldLink Y.1.cls index ref (T f).2.1 (T f).2.2.1 ∈ lw_tbl) (hsm : (T f).1 = ref ∨ Cond.sameField ref (T f).1 (T f).2.1 (T f).2.2.1 ∈ lw_tbl) (hd : decode Y.2.1 pc = .ok (.getfield index, 3)) (hn : pc + 3 = nx) : jS Y Φ pc (ji_getf ci f nx) := by
  intro k hk lv st h a b hi
  unfold ji_getf at hi
  split at hi
  · obtain ⟨vs, hr, hi⟩ := hi
    split at hi
    · rename_i v hv
      intro p l e s m args below meth c g hc H locs ls hP hS hL
      subst hn
      obtain ⟨q, rfl, hq⟩ := hP.obj hr
      have hK := hc.2.2.2.2.2.2.2
      refine va_get hc.1 hc.2.1 (hK.fields hin) (fun _ h => h) hc.2.2.2.1 hK.2.1 hP.2.2.2.1 q (jws_at hq) hcl f hf (hK.word hl rfl rfl) ?_ (jhv hv) hd (hk _ _ _ _ _ _ hi p l e s m args below meth c g hc H locs ls hP hS hL)
      rcases hsm with e | e
      · intro x hx; rw [← e]; exact hx
      · intro x hx; exact u_same (args := args) (hK.word e rfl rfl) x hx
    · exact hi.elim
  · exact hi.elim
theorem jS_getfN {ci f index N : Nat} {ref C : String} {T : u_T} (hin : ∀ w ∈ u_ws C T N, w ∈ lw_tbl) (hcl : vwCl[ci]? = some (C, T, N)) (hf : f < N) {host : String} (hl : Cond.fieldLinkNest Y.1.cls index ref (T f).2.1 (T f).2.2.1 host ∈ lw_tbl) (hsm : (T f).1 = ref ∨ Cond.sameField ref (T f).1 (T f).2.1 (T f).2.2.1 ∈ lw_tbl) (hd : decode Y.2.1 pc = .ok (.getfield index, 3)) (hn : pc + 3 = nx) : jS Y Φ pc (ji_getf ci f nx) := by
  intro k hk lv st h a b hi
  unfold ji_getf at hi
  split at hi
  · obtain ⟨vs, hr, hi⟩ := hi
    split at hi
    · rename_i v hv
      intro p l e s m args below meth c g hc H locs ls hP hS hL
      subst hn
      obtain ⟨q, rfl, hq⟩ := hP.obj hr
      have hK := hc.2.2.2.2.2.2.2
      refine va_getN hc.1 hc.2.1 (hK.fields hin) (fun _ h => h) hc.2.2.2.1 hK.2.1 hP.2.2.2.1 q (jws_at hq) hcl f hf (hK.word hl rfl rfl) ?_ (jhv hv) hd (hk _ _ _ _ _ _ hi p l e s m args below meth c g hc H locs ls hP hS hL)
      rcases hsm with e | e
      · intro x hx; rw [← e]; exact hx
      · intro x hx; exact u_same (args := args) (hK.word e rfl rfl) x hx
    · exact hi.elim
  · exact hi.elim
def ji_putf (ci f : Nat) (ty : FieldType) (nx : Nat) : jI := fun k lv st h a b => match st with
  | v :: .ref r :: st => jfit ty v ∧ ∃ vs, h[r]? = some (.inr (ci, vs)) ∧ (match vs[f]? with
    | some _ => k nx lv st (h.set r (.inr (ci, vs.set f v))) a b
    | none => False)
  | _ => False
theorem jput_at {g : jg} {s : State} {args : Array Value} {H1 : Heap} {ci f N q : Nat} {C : String} {T : u_T} {vs : List Value} {v : Value} {cell : Cell} {ty0 : Nat → FieldType} (hts : ∀ w ∈ u_ws C T N, w.before args s = true) (hcl : vwCl[ci]? = some (C, T, N)) (hty : ∀ k, k < N → parseFieldDescriptor (T k).2.2.1 = some (ty0 k)) (hnm : ∀ a, a < N → ∀ b, b < N → a ≠ b → (T a).2.1 ≠ (T b).2.1)
    (hK : va_K g.2.2.1 vwCl (jtl g) s) (hf : f < N) (hl : f < vs.length) (e1 : H1[g.1.1 + q]? = some (cell.setSlot (g.2.2.1.2 ci f) (jtr g v))) (q2 : cell.cls = g.2.2.1.1 ci) (q3 : cell.vm = .none) (q4 : ∀ k, k < N → cell.slots[g.2.2.1.2 ci k]? = some (vp_V (vs.map (jtr g)) k)) : va_at g.2.2.1 vwCl (g.1.1 + q, jE g (.inr (ci, vs.set f v))) H1 := by
  have hap := va_apart (own := C) (Ts := u_ws C T N) hts (fun _ h => h) ty0 hty hnm hK hcl
  refine ⟨_, hcl, ?_⟩
  rw [List.map_set]
  refine t_OB.to (V := updV (vp_V (vs.map (jtr g))) f (jtr g v)) ⟨_, e1, q2, q3, t_set q4 hap hf (jtr g v)⟩ (fun j _ => vp_updV_set (by simpa using hl) (jtr g v) j)
theorem jS_putf {ci f index N : Nat} {ref C : String} {T : u_T} {ty0 : Nat → FieldType} (hin : ∀ w ∈ u_ws C T N, w ∈ lw_tbl) (hcl : vwCl[ci]? = some (C, T, N)) (hty : ∀ k, k < N → parseFieldDescriptor (T k).2.2.1 = some (ty0 k)) (hnm : ∀ a, a < N → ∀ b, b < N → a ≠ b → (T a).2.1 ≠ (T b).2.1) (hf : f < N)
    (hl : Cond.fieldLink Y.1.cls index ref (T f).2.1 (T f).2.2.1 ∈ lw_tbl) (hsm : (T f).1 = ref ∨ Cond.sameField ref (T f).1 (T f).2.1 (T f).2.2.1 ∈ lw_tbl) (hfin : (T f).2.2.2 = false) (hd : decode Y.2.1 pc = .ok (.putfield index, 3)) (hn : pc + 3 = nx) : jS Y Φ pc (ji_putf ci f (ty0 f) nx) := by
  intro k hk lv st h a b hi
  unfold ji_putf at hi
  split at hi
  · obtain ⟨hfit, vs, hr, hi⟩ := hi
    split at hi
    · rename_i v _ _ _ hv
      intro p l e s m args below meth c g hc H locs ls hP hS hL
      subst hn
      obtain ⟨q, rfl, hq⟩ := hP.obj hr
      have hK := hc.2.2.2.2.2.2.2
      have hts := hK.fields (args := args) hin
      obtain ⟨r, h1, cell, q1, q2, q3, q4⟩ := hP.2.2.2.1 q _ (jws_at hq)
      have hrr : r = (C, T, N) := Option.some.inj (h1.symm.trans hcl)
      subst hrr
      obtain ⟨hSl, hfc, kC, hkC, hkind⟩ := hK.2.1.1 ci _ hcl
      obtain ⟨cf, kf, fi, fd, hi2, hsl⟩ := hSl f hf
      have hlay := hts _ (u_in_lay hf)
      unfold u_lay at hlay
      rw [if_neg (by rw [hfin]; decide)] at hlay
      have hst := (u_facts hfc hkC (u_lays hts (fun _ h => h) hf) hi2).1
      obtain ⟨hnr, hfi⟩ := jfit_ok (g := g) hfit
      have h6 := u_store hfc hkC hkind hlay hi2 (hty f hf) hnr hfi
      have hsame : s.fieldFound? ref (T f).2.1 (T f).2.2.1 = some (cf, kf, fi, fd) := by
        rcases hsm with e | e
        · rw [← e]; exact hi2
        · exact u_same (args := args) (hK.word e rfl rfl) _ hi2
      refine W.putK hc.1 hc.2.1 (f := fd) ⟨hc.2.2.2.1, hK.word hl rfl rfl, ⟨_, _, _, hsame⟩, hst⟩ (by rw [q2]; exact h6) q1 q3 (by rw [hsl]; exact k2_hasslot (q4 f hf)) rfl rfl hd fun H' e1 e2 e3 => ?_
      rw [hsl] at e1 ⊢
      exact hk _ _ _ _ _ _ hi p l e s m args below meth c g hc H' _ ls (hP.upd hq e2 e3 (jput_at hts hcl hty hnm hK.2.1 hf (List.getElem?_eq_some_iff.mp hv).1 e1 q2 q3 q4) trivial) (hS.put e2 e3 (Nat.le_add_right _ _)) hL
    · exact hi.elim
  · exact hi.elim
theorem jS_putF {ci f index N : Nat} {ref C : String} {T : u_T} {ty0 : Nat → FieldType} (hin : ∀ w ∈ u_ws C T N, w ∈ lw_tbl) (hcl : vwCl[ci]? = some (C, T, N)) (hty : ∀ k, k < N → parseFieldDescriptor (T k).2.2.1 = some (ty0 k)) (hnm : ∀ a, a < N → ∀ b, b < N → a ≠ b → (T a).2.1 ≠ (T b).2.1) (hf : f < N)
    (hl : Cond.fieldLink Y.1.cls index ref (T f).2.1 (T f).2.2.1 ∈ lw_tbl) (hsm : (T f).1 = ref) (hfin : (T f).2.2.2 = true) (hin2 : Y.1.name = "<init>") (hdecl : (T f).1 = Y.1.cls) (hd : decode Y.2.1 pc = .ok (.putfield index, 3)) (hn : pc + 3 = nx) : jS Y Φ pc (ji_putf ci f (ty0 f) nx) := by
  intro k hk lv st h a b hi
  unfold ji_putf at hi
  split at hi
  · obtain ⟨hfit, vs, hr, hi⟩ := hi
    split at hi
    · rename_i v _ _ _ hv
      intro p l e s m args below meth c g hc H locs ls hP hS hL
      subst hn
      obtain ⟨q, rfl, hq⟩ := hP.obj hr
      have hK := hc.2.2.2.2.2.2.2
      have hts := hK.fields (args := args) hin
      obtain ⟨r, h1, cell, q1, q2, q3, q4⟩ := hP.2.2.2.1 q _ (jws_at hq)
      have hrr : r = (C, T, N) := Option.some.inj (h1.symm.trans hcl)
      subst hrr
      obtain ⟨hSl, hfc, kC, hkC, hkind⟩ := hK.2.1.1 ci _ hcl
      obtain ⟨cf, kf, fi, fd, hi2, hsl⟩ := hSl f hf
      have hlay := hts _ (u_in_lay hf)
      unfold u_lay at hlay
      rw [if_pos hfin] at hlay
      have hst := (u_facts hfc hkC (u_lays hts (fun _ h => h) hf) hi2).1
      have hcf : m.cls = cf := by
        obtain ⟨_, _, c', _, _, _, -, -, hf', -, -, -, hown2, -⟩ := Cond.laysFinal_spec hlay
        have e1 : c' = cf := by have := hi2.symm.trans hf'; simp at this; exact this.1.symm
        rw [hdecl] at hown2
        rw [← e1]; exact Option.some.inj (hc.2.2.2.1.symm.trans hown2)
      obtain ⟨hnr, hfi⟩ := jfit_ok (g := g) hfit
      have h6 := u_fits hfc hkC hkind (Or.inr hlay) hi2 (hty f hf) hnr hfi
      have hsame : s.fieldFound? ref (T f).2.1 (T f).2.2.1 = some (cf, kf, fi, fd) := by rw [← hsm]; exact hi2
      refine W.putFinK hc.1 hc.2.1 hc.2.2.2.1 (hK.word hl rfl rfl) hsame hst hcf (hc.2.2.2.2.2.2.1.trans hin2) (by rw [q2]; exact h6) q1 q3 (by rw [hsl]; exact k2_hasslot (q4 f hf)) rfl rfl hd fun H' e1 e2 e3 => ?_
      rw [hsl] at e1 ⊢
      exact hk _ _ _ _ _ _ hi p l e s m args below meth c g hc H' _ ls (hP.upd hq e2 e3 (jput_at hts hcl hty hnm hK.2.1 hf (List.getElem?_eq_some_iff.mp hv).1 e1 q2 q3 q4) trivial) (hS.put e2 e3 (Nat.le_add_right _ _)) hL
    · exact hi.elim
  · exact hi.elim
def ji_new (ci N : Nat) (fs : List Value) (MC MS nx : Nat) : jI := fun k lv st h a b => cond (Nat.ble (a + 1) MC && Nat.ble (b + N) MS) (k nx lv (.ref h.length :: st) (h ++ [.inr (ci, fs)]) (a + 1) (b + N)) False
theorem jS_new {ci index N : Nat} {C : String} {T : u_T} {fs : List Value} {ty0 : Nat → FieldType} (hin : ∀ w ∈ u_ws C T N, w ∈ lw_tbl) (hcl : vwCl[ci]? = some (C, T, N)) (hty : ∀ k, k < N → parseFieldDescriptor (T k).2.2.1 = some (ty0 k)) (hfs : ∀ j, j < N → defaultValue (ty0 j) = vp_V fs j) (hfr : ∀ g : jg, fs.map (jtr g) = fs)
    (hl : Cond.classLink Y.1.cls index C ∈ lw_tbl) (hins : Cond.instantiable C N ∈ lw_tbl) (hini : Cond.initialized C ∈ lw_tbl) (hd : decode Y.2.1 pc = .ok (.new index, 3)) (hn : pc + 3 = nx) : jS Y Φ pc (ji_new ci N fs Y.2.2.2.2.2.1 Y.2.2.2.2.2.2 nx) := by
  intro k hk lv st h a b hi
  obtain ⟨h1, h2, hi⟩ := jb2 hi
  intro p l e s m args below meth c g hc H locs ls hP hS hL
  subst hn
  have hK := hc.2.2.2.2.2.2.2
  have hts := hK.fields (args := args) hin
  have hKn := hK.2.1.1 ci _ hcl
  refine W.newcK hc.1 hc.2.1 hc.2.2.2.1 (hK.word hl rfl rfl) (hK.word hins rfl rfl) (hK.word hini rfl rfl) rfl hd (Nat.le_of_ble_eq_true h1) (Nat.le_of_ble_eq_true h2) hKn.2.1 rfl fun H1 kC hkC e1 z1 o1 => ?_
  have := hk _ _ _ _ _ _ hi p l e s m args below meth c g hc H1 locs ls (hP.new z1 o1 ⟨_, hcl, (u_born ty0 hts (fun _ h => h) hKn hkC e1 hty).to (by rw [hfr g]; exact hfs)⟩ trivial) ⟨Nat.le_trans hS.1 (by omega), fun x g1 g2 => (o1 x (Nat.lt_of_lt_of_le g1 hS.1)).trans (hS.2.1 x g1 g2), hS.2.2⟩ hL
  rw [List.map_cons, show jtr g (.ref h.length) = .ref H.size from congrArg Value.ref hP.ref] at this
  exact this
def ji_newarr (ty : FieldType) (z : jZ) (MC MS nx : Nat) : jI := fun k lv st h a b => match st with
  | .int n :: st => ∃ N, n = nI N ∧ N ≤ 100000 ∧ b + N ≤ MS ∧ cond (Nat.ble (a + 1) MC) (k nx lv (.ref h.length :: st) (h ++ [.inl (ty, N, z)]) (a + 1) (b + N)) False
  | _ => False
theorem jS_newarr {ty : FieldType} {at_ : ArrayType} {z : jZ} (hat : newarray.typeOf at_ = ty) (hty : ty ∈ jtys) (hz : ∀ (g : jg) (N : Nat) (cA : ClassId), va_at g.2.2.1 vwCl = va_at g.2.2.1 vwCl ∧ ∀ q (H : Heap), H[q]? = some (arrV (g.2.2.2 ty) N (fun _ => defaultValue ty)) → va_at g.2.2.1 vwCl (q, jE g (.inl (ty, N, z))) H) (hby : componentBytes ty ≤ 8) (hra : ∀ (U : State) (cA : ClassId), va_RA U cA ty = (U.vm.findClass ("[" ++ ty.toString) = some cA))
    (hw : Cond.arrayClass ty ∈ lw_tbl) (hd : decode Y.2.1 pc = .ok (.newarray at_, 2)) (hn : pc + 2 = nx) : jS Y Φ pc (ji_newarr ty z Y.2.2.2.2.2.1 Y.2.2.2.2.2.2 nx) := by
  intro k hk lv st h a b hi
  unfold ji_newarr at hi
  split at hi
  · obtain ⟨N, rfl, hN, hms, hi⟩ := hi
    obtain ⟨hmc, hi⟩ := jb1 hi
    intro p l e s m args below meth c g hc H locs ls hP hS hL
    subst hn; subst hat
    have hK := hc.2.2.2.2.2.2.2
    have hwd : (Cond.arrayClass (newarray.typeOf at_)).before args s = true := word_at (s := s) (args := #[]) (State.WarmedH.refl s) (Or.inr ⟨_, rfl⟩) (hK.1 _ (List.mem_filter.mpr ⟨hw, rfl⟩))
    refine va_newaK hc.1 hc.2.1 hwd rfl hd rfl (nI_pos (by omega)) (nI_clamp (by omega)) (Nat.le_trans (Nat.mul_le_mul hN hby) (by decide)) (Nat.le_of_ble_eq_true hmc) hms rfl fun H1 cA e1 z1 o1 hAr hNm => ?_
    have hra2 := (hK.arrOf hty).2
    rw [hra] at hra2
    have hcA : cA = g.2.2.2 (newarray.typeOf at_) := Option.some.inj (hNm.symm.trans hra2)
    subst hcA
    have := hk _ _ _ _ _ _ hi p l e s m args below meth c g hc H1 locs ls (hP.new z1 o1 ((hz g N 0).2 _ _ e1) ⟨hty, hN⟩) ⟨Nat.le_trans hS.1 (by omega), fun x g1 g2 => (o1 x (Nat.lt_of_lt_of_le g1 hS.1)).trans (hS.2.1 x g1 g2), hS.2.2⟩ hL
    rw [List.map_cons, show jtr g (.ref h.length) = .ref H.size from congrArg Value.ref hP.ref] at this
    exact this
  · exact hi.elim
end jsound
end
section
/-! THE ENGINE, fourth part: rows read and written, casts, switches, calls -/
theorem jtr_rf (g : jg) (o : Option Nat) : jtr g (va_rf o) = va_rf (o.map (jad g)) := by cases o <;> rfl
theorem jrfE {g : jg} {f : Nat → Option Nat} {ty : FieldType} {n : Nat} : jE g (.inl (ty, n, .inr (.inr (.inr (.inr f))))) = .inl (g.2.2.2 ty, n, .inr (.inr (.inr (.inr (fun j => (f j).map (jad g)))))) := rfl
section jsound
variable {Y : jY} {Φ : jPost} {pc nx : Nat}

def ji_iald (nx : Nat) : jI := fun k lv st h a b => match st with
  | .int i :: .ref r :: st => ∃ n f j, h[r]? = some (.inl (.int, n, .inl f)) ∧ i = nI j ∧ j < n ∧ k nx lv (.int (f j) :: st) h a b
  | _ => False
theorem jS_iald (hd : decode Y.2.1 pc = .ok (.iaload, 1)) (hn : pc + 1 = nx) : jS Y Φ pc (ji_iald nx) := by
  intro k hk lv st h a b hi
  unfold ji_iald at hi
  split at hi
  · obtain ⟨n, f, j, hr, rfl, hj, hi⟩ := hi
    intro p l e s m args below meth c g hc H locs ls hP hS hL
    subst hn
    obtain ⟨q, rfl, hq, hty, hN⟩ := hP.arr (by omega) (by decide) hr
    have hK := hc.2.2.2.2.2.2.2
    obtain ⟨t0, ht⟩ := hK.ty hty
    obtain ⟨v1, v2⟩ := vp_nI hj hN
    refine va_iald hc.1 hc.2.1 hK.2.1 hP.2.2.2.1 q t0 (jws_at hq) ht v1 hd ?_
    rw [v2]
    exact (hk _ _ _ _ _ _ hi p l e s m args below meth c g hc H locs ls hP hS hL)
  · exact hi.elim
def ji_iast (nx : Nat) : jI := fun k lv st h a b => match st with
  | .int x :: .int i :: .ref r :: st => ∃ n f j, h[r]? = some (.inl (.int, n, .inl f)) ∧ i = nI j ∧ j < n ∧ k nx lv st (h.set r (.inl (.int, n, .inl (upd f j x)))) a b
  | _ => False
theorem jS_iast (hd : decode Y.2.1 pc = .ok (.iastore, 1)) (hn : pc + 1 = nx) : jS Y Φ pc (ji_iast nx) := by
  intro k hk lv st h a b hi
  unfold ji_iast at hi
  split at hi
  · rename_i x _ _ _
    obtain ⟨n, f, j, hr, rfl, hj, hi⟩ := hi
    skip
    intro p l e s m args below meth c g hc H locs ls hP hS hL
    subst hn
    obtain ⟨q, rfl, hq, hty, hN⟩ := hP.arr (by omega) (by decide) hr
    have hK := hc.2.2.2.2.2.2.2
    obtain ⟨v1, v2⟩ := vp_nI hj hN
    have hat : H[g.1.1 + q]? = some (arrV (g.2.2.2 .int) n (fun j => .int (f j))) := hP.2.2.2.1 q _ (jws_at hq)
    refine W.iast hc.1 hc.2.1 hat ((hK.arrOf hty).1 n _) (fun z => by cases z) (by rw [arrV_size]; exact v1) rfl rfl hd fun H1 e1 z1 oq => ?_
    rw [v2] at e1 ⊢
    refine hk _ _ _ _ _ _ hi p l e s m args below meth c g hc H1 _ ls (hP.upd hq z1 oq ?_ ⟨hty, hN⟩) (hS.put z1 oq (Nat.le_add_right _ _)) hL
    show H1[g.1.1 + q]? = some (arrV (g.2.2.2 .int) n (fun i => .int ((upd f j x) i)))
    rw [e1]
    skip
    rw [arrV_store]
    congr 2
    funext i
    by_cases hi2 : i = j
    · subst hi2; simp [updV, upd, vp_updL, va_up]
    · simp [updV, upd, vp_updL, va_up, hi2]
  · exact hi.elim
def ji_zald (nx : Nat) : jI := fun k lv st h a b => match st with
  | .int i :: .ref r :: st => ∃ n f j, h[r]? = some (.inl (.boolean, n, .inl f)) ∧ i = nI j ∧ j < n ∧ k nx lv (.int (f j) :: st) h a b
  | _ => False
theorem jS_zald (hd : decode Y.2.1 pc = .ok (.baload, 1)) (hn : pc + 1 = nx) : jS Y Φ pc (ji_zald nx) := by
  intro k hk lv st h a b hi
  unfold ji_zald at hi
  split at hi
  · obtain ⟨n, f, j, hr, rfl, hj, hi⟩ := hi
    intro p l e s m args below meth c g hc H locs ls hP hS hL
    subst hn
    obtain ⟨q, rfl, hq, hty, hN⟩ := hP.arr (by omega) (by decide) hr
    have hK := hc.2.2.2.2.2.2.2
    obtain ⟨t0, ht⟩ := hK.ty hty
    obtain ⟨v1, v2⟩ := vp_nI hj hN
    refine va_zald hc.1 hc.2.1 hK.2.1 hP.2.2.2.1 q t0 (jws_at hq) ht v1 hd ?_
    rw [v2]
    exact (hk _ _ _ _ _ _ hi p l e s m args below meth c g hc H locs ls hP hS hL)
  · exact hi.elim
def ji_zast (nx : Nat) : jI := fun k lv st h a b => match st with
  | .int x :: .int i :: .ref r :: st => ∃ n f j, h[r]? = some (.inl (.boolean, n, .inl f)) ∧ i = nI j ∧ j < n ∧ (x = nI 0 ∨ x = nI 1) ∧ k nx lv st (h.set r (.inl (.boolean, n, .inl (upd f j x)))) a b
  | _ => False
theorem jS_zast (hd : decode Y.2.1 pc = .ok (.bastore, 1)) (hn : pc + 1 = nx) : jS Y Φ pc (ji_zast nx) := by
  intro k hk lv st h a b hi
  unfold ji_zast at hi
  split at hi
  · rename_i x _ _ _
    obtain ⟨n, f, j, hr, rfl, hj, hi⟩ := hi
    obtain ⟨hx, hi⟩ := hi
    intro p l e s m args below meth c g hc H locs ls hP hS hL
    subst hn
    obtain ⟨q, rfl, hq, hty, hN⟩ := hP.arr (by omega) (by decide) hr
    have hK := hc.2.2.2.2.2.2.2
    obtain ⟨v1, v2⟩ := vp_nI hj hN
    have hat : H[g.1.1 + q]? = some (arrV (g.2.2.2 .boolean) n (fun j => .int (f j))) := hP.2.2.2.1 q _ (jws_at hq)
    refine W.zast hc.1 hc.2.1 hat ((hK.arrOf hty).1 n _) (fun z => by cases z) (by rw [arrV_size]; exact v1) rfl rfl hd fun H1 e1 z1 oq => ?_
    rw [v2] at e1 ⊢
    refine hk _ _ _ _ _ _ hi p l e s m args below meth c g hc H1 _ ls (hP.upd hq z1 oq ?_ ⟨hty, hN⟩) (hS.put z1 oq (Nat.le_add_right _ _)) hL
    show H1[g.1.1 + q]? = some (arrV (g.2.2.2 .boolean) n (fun i => .int ((upd f j x) i)))
    rw [e1]
    rw [show narrow .boolean (.int x) = .int x from by rcases hx with rfl | rfl <;> rfl]
    rw [arrV_store]
    congr 2
    funext i
    by_cases hi2 : i = j
    · subst hi2; simp [updV, upd, vp_updL, va_up]
    · simp [updV, upd, vp_updL, va_up, hi2]
  · exact hi.elim
def ji_lald (nx : Nat) : jI := fun k lv st h a b => match st with
  | .int i :: .ref r :: st => ∃ n f j, h[r]? = some (.inl (.long, n, .inr (.inl f))) ∧ i = nI j ∧ j < n ∧ k nx lv (.long (f j) :: st) h a b
  | _ => False
theorem jS_lald (hd : decode Y.2.1 pc = .ok (.laload, 1)) (hn : pc + 1 = nx) : jS Y Φ pc (ji_lald nx) := by
  intro k hk lv st h a b hi
  unfold ji_lald at hi
  split at hi
  · obtain ⟨n, f, j, hr, rfl, hj, hi⟩ := hi
    intro p l e s m args below meth c g hc H locs ls hP hS hL
    subst hn
    obtain ⟨q, rfl, hq, hty, hN⟩ := hP.arr (by omega) (by decide) hr
    have hK := hc.2.2.2.2.2.2.2
    obtain ⟨t0, ht⟩ := hK.ty hty
    obtain ⟨v1, v2⟩ := vp_nI hj hN
    refine va_lald hc.1 hc.2.1 hK.2.1 hP.2.2.2.1 q t0 (jws_at hq) ht v1 hd ?_
    rw [v2]
    exact (hk _ _ _ _ _ _ hi p l e s m args below meth c g hc H locs ls hP hS hL)
  · exact hi.elim
def ji_last (nx : Nat) : jI := fun k lv st h a b => match st with
  | .long x :: .int i :: .ref r :: st => ∃ n f j, h[r]? = some (.inl (.long, n, .inr (.inl f))) ∧ i = nI j ∧ j < n ∧ k nx lv st (h.set r (.inl (.long, n, .inr (.inl (vp_updL f j x))))) a b
  | _ => False
theorem jS_last (hd : decode Y.2.1 pc = .ok (.lastore, 1)) (hn : pc + 1 = nx) : jS Y Φ pc (ji_last nx) := by
  intro k hk lv st h a b hi
  unfold ji_last at hi
  split at hi
  · rename_i x _ _ _
    obtain ⟨n, f, j, hr, rfl, hj, hi⟩ := hi
    skip
    intro p l e s m args below meth c g hc H locs ls hP hS hL
    subst hn
    obtain ⟨q, rfl, hq, hty, hN⟩ := hP.arr (by omega) (by decide) hr
    have hK := hc.2.2.2.2.2.2.2
    obtain ⟨v1, v2⟩ := vp_nI hj hN
    have hat : H[g.1.1 + q]? = some (arrV (g.2.2.2 .long) n (fun j => .long (f j))) := hP.2.2.2.1 q _ (jws_at hq)
    refine W.last hc.1 hc.2.1 hat ((hK.arrOf hty).1 n _) (fun z => by cases z) (by rw [arrV_size]; exact v1) rfl rfl hd fun H1 e1 z1 oq => ?_
    rw [v2] at e1 ⊢
    refine hk _ _ _ _ _ _ hi p l e s m args below meth c g hc H1 _ ls (hP.upd hq z1 oq ?_ ⟨hty, hN⟩) (hS.put z1 oq (Nat.le_add_right _ _)) hL
    show H1[g.1.1 + q]? = some (arrV (g.2.2.2 .long) n (fun i => .long ((vp_updL f j x) i)))
    rw [e1]
    skip
    rw [arrV_store]
    congr 2
    funext i
    by_cases hi2 : i = j
    · subst hi2; simp [updV, upd, vp_updL, va_up]
    · simp [updV, upd, vp_updL, va_up, hi2]
  · exact hi.elim
def ji_fald (nx : Nat) : jI := fun k lv st h a b => match st with
  | .int i :: .ref r :: st => ∃ n f j, h[r]? = some (.inl (.float, n, .inr (.inr (.inl f)))) ∧ i = nI j ∧ j < n ∧ k nx lv (.float (f j) :: st) h a b
  | _ => False
theorem jS_fald (hd : decode Y.2.1 pc = .ok (.faload, 1)) (hn : pc + 1 = nx) : jS Y Φ pc (ji_fald nx) := by
  intro k hk lv st h a b hi
  unfold ji_fald at hi
  split at hi
  · obtain ⟨n, f, j, hr, rfl, hj, hi⟩ := hi
    intro p l e s m args below meth c g hc H locs ls hP hS hL
    subst hn
    obtain ⟨q, rfl, hq, hty, hN⟩ := hP.arr (by omega) (by decide) hr
    have hK := hc.2.2.2.2.2.2.2
    obtain ⟨t0, ht⟩ := hK.ty hty
    obtain ⟨v1, v2⟩ := vp_nI hj hN
    refine va_fald hc.1 hc.2.1 hK.2.1 hP.2.2.2.1 q t0 (jws_at hq) ht v1 hd ?_
    rw [v2]
    exact (hk _ _ _ _ _ _ hi p l e s m args below meth c g hc H locs ls hP hS hL)
  · exact hi.elim
def ji_fast (nx : Nat) : jI := fun k lv st h a b => match st with
  | .float x :: .int i :: .ref r :: st => ∃ n f j, h[r]? = some (.inl (.float, n, .inr (.inr (.inl f)))) ∧ i = nI j ∧ j < n ∧ k nx lv st (h.set r (.inl (.float, n, .inr (.inr (.inl (va_up f j x)))))) a b
  | _ => False
theorem jS_fast (hd : decode Y.2.1 pc = .ok (.fastore, 1)) (hn : pc + 1 = nx) : jS Y Φ pc (ji_fast nx) := by
  intro k hk lv st h a b hi
  unfold ji_fast at hi
  split at hi
  · rename_i x _ _ _
    obtain ⟨n, f, j, hr, rfl, hj, hi⟩ := hi
    skip
    intro p l e s m args below meth c g hc H locs ls hP hS hL
    subst hn
    obtain ⟨q, rfl, hq, hty, hN⟩ := hP.arr (by omega) (by decide) hr
    have hK := hc.2.2.2.2.2.2.2
    obtain ⟨v1, v2⟩ := vp_nI hj hN
    have hat : H[g.1.1 + q]? = some (arrV (g.2.2.2 .float) n (fun j => .float (f j))) := hP.2.2.2.1 q _ (jws_at hq)
    refine W.fast hc.1 hc.2.1 hat ((hK.arrOf hty).1 n _) (fun z => by cases z) (by rw [arrV_size]; exact v1) rfl rfl hd fun H1 e1 z1 oq => ?_
    rw [v2] at e1 ⊢
    refine hk _ _ _ _ _ _ hi p l e s m args below meth c g hc H1 _ ls (hP.upd hq z1 oq ?_ ⟨hty, hN⟩) (hS.put z1 oq (Nat.le_add_right _ _)) hL
    show H1[g.1.1 + q]? = some (arrV (g.2.2.2 .float) n (fun i => .float ((va_up f j x) i)))
    rw [e1]
    skip
    rw [arrV_store]
    congr 2
    funext i
    by_cases hi2 : i = j
    · subst hi2; simp [updV, upd, vp_updL, va_up]
    · simp [updV, upd, vp_updL, va_up, hi2]
  · exact hi.elim
def ji_aald (nx : Nat) : jI := fun k lv st h a b => match st with
  | .int i :: .ref r :: st => ∃ C n f j o, h[r]? = some (.inl (.object C, n, .inr (.inr (.inr (.inr f))))) ∧ i = nI j ∧ j < n ∧ f j = o ∧ k nx lv (va_rf o :: st) h a b
  | _ => False
theorem jS_aald (hd : decode Y.2.1 pc = .ok (.aaload, 1)) (hn : pc + 1 = nx) : jS Y Φ pc (ji_aald nx) := by
  intro k hk lv st h a b hi
  unfold ji_aald at hi
  split at hi
  · obtain ⟨C, n, f, j, o, hr, rfl, hj, rfl, hi⟩ := hi
    intro p l e s m args below meth c g hc H locs ls hP hS hL
    subst hn
    obtain ⟨q, rfl, hq, hty, hN⟩ := hP.arr (by omega) (fun z => by cases z) hr
    have hK := hc.2.2.2.2.2.2.2
    obtain ⟨t0, ht⟩ := hK.ty hty
    obtain ⟨v1, v2⟩ := vp_nI hj hN
    refine va_aldq hc.1 hc.2.1 hK.2.1 hP.2.2.2.1 q t0 (jws_at hq) ht v1 hd ?_
    have := (hk _ _ _ _ _ _ hi p l e s m args below meth c g hc H locs ls hP hS hL)
    rw [List.map_cons, jtr_rf] at this
    rw [v2]
    exact this
  · exact hi.elim
def jcl : List (String × String) := [("QuasiSums$Sum", "QuasiSums$Item"), ("QuasiSums$Row", "QuasiSums$Item"), ("QuasiSums$Step", "java/lang/Object"), ("QuasiSums$Term", "java/lang/Object")]
theorem jcl_ok : ∀ q ∈ jcl, Cond.castable q.1 q.2 ∈ lw_tbl := by decide +kernel
/-- which made classes go where: into rows of a class, through casts to it -/
def jcst (ci : Nat) (C : String) : Bool := match vwCl[ci]? with
  | some r => r.1 == C || (jcl.any fun q => q.1 == r.1 && q.2 == C)
  | none => false
def ji_aast (nx : Nat) : jI := fun k lv st h a b => match st with
  | .ref v :: .int i :: .ref r :: st => ∃ C n f j ci vs, h[r]? = some (.inl (.object C, n, .inr (.inr (.inr (.inr f))))) ∧ i = nI j ∧ j < n ∧ h[v]? = some (.inr (ci, vs)) ∧ jcst ci C = true ∧ k nx lv st (h.set r (.inl (.object C, n, .inr (.inr (.inr (.inr (va_up f j (some v)))))))) a b
  | .null :: .int i :: .ref r :: st => ∃ C n f j, h[r]? = some (.inl (.object C, n, .inr (.inr (.inr (.inr f))))) ∧ i = nI j ∧ j < n ∧ k nx lv st (h.set r (.inl (.object C, n, .inr (.inr (.inr (.inr (va_up f j none))))))) a b
  | _ => False
theorem jcst_ok {g : jg} {s : State} (hK : jK g s) {ci : Nat} {C : String} (h : jcst ci C = true) {r : vw_C} (hr : vwCl[ci]? = some r) : r.1 = C ∨ va_Nw (.castable r.1 C) s := by
  unfold jcst at h
  rw [hr] at h
  simp only [Bool.or_eq_true, beq_iff_eq, List.any_eq_true, Bool.and_eq_true] at h
  rcases h with h | ⟨q, hq, h1, h2⟩
  · exact Or.inl h
  · right
    have hm := jcl_ok q hq
    rw [h1, h2] at hm
    exact hK.1 _ (List.mem_filter.mpr ⟨hm, rfl⟩)
theorem jP.cl {g : jg} {h : List jC} {H : Heap} (hP : jP g h H) {q ci : Nat} {vs : List Value} (hq : h[q + 2]? = some (.inr (ci, vs))) : ∃ r, vwCl[ci]? = some r := by
  obtain ⟨r, h1, -⟩ := hP.2.2.2.1 q _ (jws_at hq)
  exact ⟨r, h1⟩
theorem jS_aast (hd : decode Y.2.1 pc = .ok (.aastore, 1)) (hn : pc + 1 = nx) : jS Y Φ pc (ji_aast nx) := by
  intro k hk lv st h a b hi
  unfold ji_aast at hi
  split at hi
  · rename_i v _ _ _
    obtain ⟨C, n, f, j, ci, vs, hr, rfl, hj, hv, hcs, hi⟩ := hi
    intro p l e s m args below meth c g hc H locs ls hP hS hL
    subst hn
    obtain ⟨q, rfl, hq, hty, hN⟩ := hP.arr (by omega) (fun z => by cases z) hr
    obtain ⟨q2, rfl, hq2⟩ := hP.obj hv
    have hK := hc.2.2.2.2.2.2.2
    obtain ⟨rc, hrc⟩ := hP.cl hq2
    obtain ⟨v1, v2⟩ := vp_nI hj hN
    obtain ⟨cell, c1, c2, c3⟩ := va_recv hK.2.1 hP.2.2.2.1 hrc (jws_at hq2)
    obtain ⟨kC, hkC, -⟩ := Vm.findClass_spec c3
    obtain ⟨kA, comp, k1, k2, k3, -⟩ := (hK.arrOf hty).2
    obtain ⟨kE, hkE, -⟩ := Vm.findClass_spec k3
    have hasg : s.vm.assignable cell.cls comp = true := by
      rcases jcst_ok hK hcs hrc with e | e
      · rw [e] at c3
        cases c3.symm.trans k3
        exact va_asg _ _
      · obtain ⟨c0, t0, f1, f2, f3⟩ := Cond.castable_spec (va_Nw.use (A := args) rfl e)
        cases c3.symm.trans f1
        cases k3.symm.trans f2
        exact f3
    have hat : H[g.1.1 + q]? = some (arrV (g.2.2.2 (.object C)) n (fun j => va_rf ((f j).map (jad g)))) := hP.2.2.2.1 q _ (jws_at hq)
    refine W.aast hc.1 hc.2.1 hat (fun q h => by cases h) (fun h => by cases h) k1 k2 rfl hkE ⟨fun z => v1 (Or.inl z), by rw [arrV_size, v2]; exact hj⟩ c1 (fun q h => by rw [h] at c2; cases c2) hkC hasg rfl rfl hd fun H1 e1 z1 oq => ?_
    rw [v2] at e1 ⊢
    refine hk _ _ _ _ _ _ hi p l e s m args below meth c g hc H1 _ ls (hP.upd hq z1 oq ?_ ⟨hty, hN⟩) (hS.put z1 oq (Nat.le_add_right _ _)) hL
    show H1[g.1.1 + q]? = some (arrV (g.2.2.2 (.object C)) n (fun i => va_rf ((va_up f j (some (q2 + 2)) i).map (jad g))))
    rw [e1, arrV_store]
    congr 2
    funext i
    by_cases hi2 : i = j
    · subst hi2; simp [updV, va_up, va_rf, jad]
    · simp [updV, va_up, hi2]
  · obtain ⟨C, n, f, j, hr, rfl, hj, hi⟩ := hi
    intro p l e s m args below meth c g hc H locs ls hP hS hL
    subst hn
    obtain ⟨q, rfl, hq, hty, hN⟩ := hP.arr (by omega) (fun z => by cases z) hr
    have hK := hc.2.2.2.2.2.2.2
    obtain ⟨v1, v2⟩ := vp_nI hj hN
    obtain ⟨kA, comp, k1, k2, k3, -⟩ := (hK.arrOf hty).2
    have hat : H[g.1.1 + q]? = some (arrV (g.2.2.2 (.object C)) n (fun j => va_rf ((f j).map (jad g)))) := hP.2.2.2.1 q _ (jws_at hq)
    refine va_WaastN (C := C) hc.1 hc.2.1 hat ((hK.arrOf hty).1 n _) (fun z => by cases z) (by rw [arrV_size]; exact v1) rfl rfl hd fun H1 e1 z1 oq => ?_
    rw [v2] at e1 ⊢
    refine hk _ _ _ _ _ _ hi p l e s m args below meth c g hc H1 _ ls (hP.upd hq z1 oq ?_ ⟨hty, hN⟩) (hS.put z1 oq (Nat.le_add_right _ _)) hL
    show H1[g.1.1 + q]? = some (arrV (g.2.2.2 (.object C)) n (fun i => va_rf ((va_up f j none i).map (jad g))))
    rw [e1, arrV_store]
    congr 2
    funext i
    by_cases hi2 : i = j
    · subst hi2; simp [updV, va_up, va_rf]
    · simp [updV, va_up, hi2]
  · exact hi.elim
def ji_alen (nx : Nat) : jI := fun k lv st h a b => match st with
  | .ref r :: st => ∃ ty n x, h[r]? = some (.inl (ty, n, x)) ∧ k nx lv (.int (nI n) :: st) h a b
  | _ => False
theorem jE_size (g : jg) (ty : FieldType) (n : Nat) (x : jZ) : ∃ y : vp_A, jE g (.inl (ty, n, x)) = .inl (g.2.2.2 ty, y) ∧ y.1 = n := by
  rcases x with f | f | f | f | f <;> exact ⟨_, rfl, rfl⟩
theorem jS_alen (hd : decode Y.2.1 pc = .ok (.arraylength, 1)) (hn : pc + 1 = nx) : jS Y Φ pc (ji_alen nx) := by
  intro k hk lv st h a b hi
  unfold ji_alen at hi
  split at hi
  · rename_i r _
    obtain ⟨ty, n, x, hr, hi⟩ := hi
    intro p l e s m args below meth c g hc H locs ls hP hS hL
    subst hn
    have hK := hc.2.2.2.2.2.2.2
    match r, hr with
    | 0, hr =>
      rw [hP.2.1] at hr
      cases hr
      obtain ⟨cell, d1, d2, d3⟩ := hK.2.2.2.2.2.2.2.2.1
      have hdq : H[g.1.2.2.1]? = some cell := by rw [hS.2.1 _ (Nat.lt_of_lt_of_le hK.2.2.2.2.2.2.1 hK.2.2.2.2.2.2.2.1) (Nat.not_le.mpr hK.2.2.2.2.2.2.1)]; exact d1
      exact W.alen hc.1 hc.2.1 hdq d2 (by rw [d3]; rfl) rfl rfl hd (hk _ _ _ _ _ _ hi p l e s m args below meth c g hc H locs ls hP hS hL)
    | 1, hr =>
      rw [hP.2.2.1] at hr
      cases hr
      exact va_slen hc.1 hc.2.1 hK.2.2.2.1 (Nat.lt_of_lt_of_le hK.2.2.2.2.2.1 hK.2.2.2.2.2.2.2.1) (Nat.not_le.mpr hK.2.2.2.2.2.1) hS hd (hk _ _ _ _ _ _ hi p l e s m args below meth c g hc H locs ls hP hS hL)
    | q + 2, hr =>
      obtain ⟨y, hy, rfl⟩ := jE_size g ty n x
      obtain ⟨t0, ht⟩ := hK.ty (hP.2.2.2.2 q _ hr).1
      have hat := jws_at (g := g) hr
      rw [hy] at hat
      exact va_alen hc.1 hc.2.1 hK.2.1 hP.2.2.2.1 q t0 hat ht rfl hd (hk _ _ _ _ _ _ hi p l e s m args below meth c g hc H locs ls hP hS hL)
  · exact hi.elim
/-- the script's row is read -/
def ji_script (nx : Nat) : jI := fun k lv st h a b => match st with
  | .int i :: .ref r :: st => ∃ n f j, h[r]? = some (.inl (.byte, n, .inl f)) ∧ i = nI j ∧ j < n ∧ k nx lv (.int (f j) :: st) h a b
  | _ => False
theorem jS_script (hd : decode Y.2.1 pc = .ok (.iaload, 1)) (hn : pc + 1 = nx) : jS Y Φ pc (ji_script nx) := by
  intro k hk lv st h a b hi
  unfold ji_script at hi
  split at hi
  · rename_i r _
    obtain ⟨n, f, j, hr, rfl, hj, hi⟩ := hi
    intro p l e s m args below meth c g hc H locs ls hP hS hL
    subst hn
    have hK := hc.2.2.2.2.2.2.2
    match r, hr with
    | 0, hr => rw [hP.2.1] at hr; cases hr
    | 1, hr =>
      rw [hP.2.2.1] at hr
      cases hr
      have hL3 := hK.2.2.2.2.1
      have v1 : vp_in (nI j) g.1.2.2.2 := vp_in_nI hj (by omega)
      refine va_sld hc.1 hc.2.1 hK.2.2.2.1 (Nat.lt_of_lt_of_le hK.2.2.2.2.2.1 hK.2.2.2.2.2.2.2.1) (Nat.not_le.mpr hK.2.2.2.2.2.1) hS v1 hd ?_
      rw [nI_clamp (by omega)]
      exact (hk _ _ _ _ _ _ hi p l e s m args below meth c g hc H locs ls hP hS hL)
    | q + 2, hr => exact absurd (hP.2.2.2.2 q _ hr).1 (by decide)
  · exact hi.elim
/-- the JDK's empty row -/
def ji_empty (nx : Nat) : jI := fun k lv st h a b => k nx lv (.ref 0 :: st) h a b
theorem jS_empty {index : Nat} (hl : Cond.fieldLink Y.1.cls index "java/util/ArrayList" "DEFAULTCAPACITY_EMPTY_ELEMENTDATA" "[Ljava/lang/Object;" ∈ lw_tbl) (hd : decode Y.2.1 pc = .ok (.getstatic index, 3)) (hn : pc + 3 = nx) : jS Y Φ pc (ji_empty nx) := by
  intro k hk lv st h a b hi
  intro p l e s m args below meth c g hc H locs ls hP hS hL
  subst hn
  have hK := hc.2.2.2.2.2.2.2
  exact va_gets hc.1 hc.2.1 hK.2.2.2.2.2.2.2.2.2 hS hc.2.2.2.1 (hK.word hl rfl rfl) (fun _ h => h) hd (hk _ _ _ _ _ _ hi p l e s m args below meth c g hc H locs ls hP hS hL)
def ji_ccast (nm : String) (nx : Nat) : jI := fun k lv st h a b => match st with
  | .ref r :: st => ∃ ci vs, h[r]? = some (.inr (ci, vs)) ∧ jcst ci nm = true ∧ k nx lv (.ref r :: st) h a b
  | .null :: st => k nx lv (.null :: st) h a b
  | _ => False
theorem jS_ccast {index : Nat} {nm : String} {ck : Nat} (hl : Cond.classLink Y.1.cls index nm ∈ lw_tbl) (hd : decode Y.2.1 pc = .ok (.checkcast index, 3)) (hn : pc + 3 = nx) : jS Y Φ pc (ji_ccast nm nx) := by
  intro k hk lv st h a b hi
  unfold ji_ccast at hi
  split at hi
  · obtain ⟨ci, vs, hr, hcs, hi⟩ := hi
    intro p l e s m args below meth c g hc H locs ls hP hS hL
    subst hn
    have hK := hc.2.2.2.2.2.2.2
    obtain ⟨q, rfl, hq⟩ := hP.obj hr
    obtain ⟨rc, hrc⟩ := hP.cl hq
    have hrv := va_recv hK.2.1 hP.2.2.2.1 hrc (jws_at hq)
    rcases jcst_ok hK hcs hrc with ec | ec
    · rw [ec] at hrv
      have hca : ClassAt s nm (g.2.2.1.1 ci) := by rw [← ec]; exact (hK.2.1.1 ci _ hrc).2
      exact va_castS hc.1 hc.2.1 hc.2.2.2.1 (hK.word hl rfl rfl) hca hrv hd (hk _ _ _ _ _ _ hi p l e s m args below meth c g hc H locs ls hP hS hL)
    · exact va_castY hc.1 hc.2.1 hc.2.2.2.1 (hK.word hl rfl rfl) ec hrv hd (hk _ _ _ _ _ _ hi p l e s m args below meth c g hc H locs ls hP hS hL)
  · intro p l e s m args below meth c g hc H locs ls hP hS hL
    subst hn
    exact lv_castN hc.1 hc.2.1 hd (hk _ _ _ _ _ _ hi p l e s m args below meth c g hc H locs ls hP hS hL)
  · exact hi.elim
def ji_ccastA (ty : FieldType) (nx : Nat) : jI := fun k lv st h a b => match st with
  | .ref r :: st => ∃ n x, Nat.le 2 r ∧ h[r]? = some (.inl (ty, n, x)) ∧ k nx lv (.ref r :: st) h a b
  | _ => False
theorem jRA_name {U : State} {cA : ClassId} {ty : FieldType} (h : va_RA U cA ty) : U.vm.findClass ("[" ++ ty.toString) = some cA := by
  cases ty with
  | object C => obtain ⟨_, _, _, _, _, h4⟩ := h; exact h4
  | _ => exact h
theorem jS_ccastA {index : Nat} {ty : FieldType} (hl : Cond.classLink Y.1.cls index ("[" ++ ty.toString) ∈ lw_tbl) (hd : decode Y.2.1 pc = .ok (.checkcast index, 3)) (hn : pc + 3 = nx) : jS Y Φ pc (ji_ccastA ty nx) := by
  intro k hk lv st h a b hi
  unfold ji_ccastA at hi
  split at hi
  · rename_i r _
    obtain ⟨n, x, h2, hr, hi⟩ := hi
    intro p l e s m args below meth c g hc H locs ls hP hS hL
    subst hn
    have hK := hc.2.2.2.2.2.2.2
    obtain ⟨q, rfl⟩ : ∃ q, r = q + 2 := ⟨r - 2, (Nat.sub_add_cancel h2).symm⟩
    obtain ⟨y, hy, -⟩ := jE_size g ty n x
    have hat := jws_at (g := g) hr
    rw [hy] at hat
    exact va_castA hc.1 hc.2.1 hc.2.2.2.1 (hK.word hl rfl rfl) hP.2.2.2.1 q hat (jRA_name (hK.arrOf (hP.2.2.2.2 q _ hr).1).2) hd (hk _ _ _ _ _ _ hi p l e s m args below meth c g hc H locs ls hP hS hL)
  · exact hi.elim
def jis (ci : Nat) (C : String) : Option Bool := if jcst ci C = true then some true else match vwCl[ci]? with
  | some r => if jNc.any (fun q => q.1 == r.1 && q.2 == C) then some false else none
  | none => none
def ji_inst (nm : String) (nx : Nat) : jI := fun k lv st h a b => match st with
  | .ref r :: st => ∃ ci vs, h[r]? = some (.inr (ci, vs)) ∧ (match jis ci nm with
    | some true => k nx lv (.int (nI 1) :: st) h a b
    | some false => k nx lv (.int (nI 0) :: st) h a b
    | none => False)
  | .null :: st => k nx lv (.int (nI 0) :: st) h a b
  | _ => False
theorem jS_inst {index : Nat} {nm : String} (hl : Cond.classLink Y.1.cls index nm ∈ lw_tbl) (hd : decode Y.2.1 pc = .ok (.instanceof index, 3)) (hn : pc + 3 = nx) : jS Y Φ pc (ji_inst nm nx) := by
  intro k hk lv st h a b hi
  unfold ji_inst at hi
  split at hi
  · obtain ⟨ci, vs, hr, hi⟩ := hi
    intro p l e s m args below meth c g hc H locs ls hP hS hL
    subst hn
    have hK := hc.2.2.2.2.2.2.2
    obtain ⟨q, rfl, hq⟩ := hP.obj hr
    obtain ⟨rc, hrc⟩ := hP.cl hq
    have hrv := va_recv hK.2.1 hP.2.2.2.1 hrc (jws_at hq)
    split at hi
    · rename_i hj
      unfold jis at hj
      split at hj
      · rename_i hcs
        rcases jcst_ok hK hcs hrc with ec | ec
        · rw [ec] at hrv
          have hca : ClassAt s nm (g.2.2.1.1 ci) := by rw [← ec]; exact (hK.2.1.1 ci _ hrc).2
          exact va_instS hc.1 hc.2.1 hc.2.2.2.1 (hK.word hl rfl rfl) hca hrv hd (hk _ _ _ _ _ _ hi p l e s m args below meth c g hc H locs ls hP hS hL)
        · exact va_instY hc.1 hc.2.1 hc.2.2.2.1 (hK.word hl rfl rfl) ec hrv hd (hk _ _ _ _ _ _ hi p l e s m args below meth c g hc H locs ls hP hS hL)
      · rw [hrc] at hj
        dsimp only at hj
        split at hj <;> cases hj
    · rename_i hj
      unfold jis at hj
      split at hj
      · cases hj
      · rw [hrc] at hj
        dsimp only at hj
        split at hj
        · rename_i hn
          simp only [List.any_eq_true, Bool.and_eq_true, beq_iff_eq] at hn
          obtain ⟨q3, h3, h4, h5⟩ := hn
          have hnc := hK.2.2.1.1 q3 h3
          rw [h4, h5] at hnc
          exact va_instNo hc.1 hc.2.1 hc.2.2.2.1 (hK.word hl rfl rfl) hnc hrv hd (hk _ _ _ _ _ _ hi p l e s m args below meth c g hc H locs ls hP hS hL)
        · cases hj
    · exact hi.elim
  · intro p l e s m args below meth c g hc H locs ls hP hS hL
    subst hn
    exact lv_instN hc.1 hc.2.1 hd (hk _ _ _ _ _ _ hi p l e s m args below meth c g hc H locs ls hP hS hL)
  · exact hi.elim
def ji_acmpeq (tgt nx : Nat) : jI := fun k lv st h a b => match st with
  | .ref y :: .ref x :: st => x ≠ 1 ∧ y ≠ 1 ∧ (x = y → k tgt lv st h a b) ∧ (¬ x = y → k nx lv st h a b)
  | _ => False
theorem jS_acmpeq {off : Int} {tgt : Nat} (hd : decode Y.2.1 pc = .ok (.if_acmp .eq off, 3)) (ht : (pc : Int) + off = (tgt : Int)) (hn : pc + 3 = nx) : jS Y Φ pc (ji_acmpeq tgt nx) := by
  intro k hk lv st h a b hi
  unfold ji_acmpeq at hi
  split at hi
  · rename_i y x st
    obtain ⟨hx, hy, h1, h2⟩ := hi
    intro p l e s m args below meth c g hc H locs ls hP hS hL
    subst hn
    have hK := hc.2.2.2.2.2.2.2
    have hd0 := hK.2.2.2.2.2.2.1
    have hinj : jad g x = jad g y → x = y := by
      intro e
      match x, y, hx, hy, e with
      | 0, 0, _, _, _ => rfl
      | 0, y + 2, _, _, e => exact absurd (show g.1.2.2.1 = g.1.1 + y from e) (Nat.ne_of_lt (Nat.lt_of_lt_of_le hd0 (Nat.le_add_right _ _)))
      | x + 2, 0, _, _, e => exact absurd (show g.1.1 + x = g.1.2.2.1 from e) (Nat.ne_of_gt (Nat.lt_of_lt_of_le hd0 (Nat.le_add_right _ _)))
      | x + 2, y + 2, _, _, e => exact congrArg (fun z => z + 2) (Nat.add_left_cancel (show g.1.1 + x = g.1.1 + y from e))
      | 1, _, hx, _, _ => exact absurd rfl hx
      | _, 1, _, hy, _ => exact absurd rfl hy
    have t1 : some (jad g x) = some (jad g y) → x = y := fun q => hinj (Option.some.inj q)
    have t2 : ¬ some (jad g x) = some (jad g y) → ¬ x = y := fun q q2 => q (by rw [q2])
    exact lv_acmp_eq (rx := some (jad g x)) (ry := some (jad g y)) hc.1 hc.2.1 hd ht (fun q => hk _ _ _ _ _ _ (h1 (t1 q)) p l e s m args below meth c g hc H locs ls hP hS hL) (fun q => hk _ _ _ _ _ _ (h2 (t2 q)) p l e s m args below meth c g hc H locs ls hP hS hL)
  · exact hi.elim
def ji_acmpne (tgt nx : Nat) : jI := fun k lv st h a b => match st with
  | .ref y :: .ref x :: st => x ≠ 1 ∧ y ≠ 1 ∧ (x = y → k nx lv st h a b) ∧ (¬ x = y → k tgt lv st h a b)
  | _ => False
theorem jS_acmpne {off : Int} {tgt : Nat} (hd : decode Y.2.1 pc = .ok (.if_acmp .ne off, 3)) (ht : (pc : Int) + off = (tgt : Int)) (hn : pc + 3 = nx) : jS Y Φ pc (ji_acmpne tgt nx) := by
  intro k hk lv st h a b hi
  unfold ji_acmpne at hi
  split at hi
  · rename_i y x st
    obtain ⟨hx, hy, h1, h2⟩ := hi
    intro p l e s m args below meth c g hc H locs ls hP hS hL
    subst hn
    have hK := hc.2.2.2.2.2.2.2
    have hd0 := hK.2.2.2.2.2.2.1
    have hinj : jad g x = jad g y → x = y := by
      intro e
      match x, y, hx, hy, e with
      | 0, 0, _, _, _ => rfl
      | 0, y + 2, _, _, e => exact absurd (show g.1.2.2.1 = g.1.1 + y from e) (Nat.ne_of_lt (Nat.lt_of_lt_of_le hd0 (Nat.le_add_right _ _)))
      | x + 2, 0, _, _, e => exact absurd (show g.1.1 + x = g.1.2.2.1 from e) (Nat.ne_of_gt (Nat.lt_of_lt_of_le hd0 (Nat.le_add_right _ _)))
      | x + 2, y + 2, _, _, e => exact congrArg (fun z => z + 2) (Nat.add_left_cancel (show g.1.1 + x = g.1.1 + y from e))
      | 1, _, hx, _, _ => exact absurd rfl hx
      | _, 1, _, hy, _ => exact absurd rfl hy
    have t1 : some (jad g x) = some (jad g y) → x = y := fun q => hinj (Option.some.inj q)
    have t2 : ¬ some (jad g x) = some (jad g y) → ¬ x = y := fun q q2 => q (by rw [q2])
    exact lv_acmp_ne (rx := some (jad g x)) (ry := some (jad g y)) hc.1 hc.2.1 hd ht (fun q => hk _ _ _ _ _ _ (h2 (t2 q)) p l e s m args below meth c g hc H locs ls hP hS hL) (fun q => hk _ _ _ _ _ _ (h1 (t1 q)) p l e s m args below meth c g hc H locs ls hP hS hL)
  · exact hi.elim
def jsw (x : Int32) (K : Nat → Prop) (dflt : Nat) : List Nat → Nat → Prop
  | [], i => (x.toInt < 0 ∨ (i : Int) ≤ x.toInt) → K dflt
  | t :: ts, i => (x = nI i → K t) ∧ jsw x K dflt ts (i + 1)
/-- a switch over 0, 1, 2 .. -/
def ji_switch (tgts : List Nat) (dflt : Nat) : jI := fun k lv st h a b => match st with
  | .int x :: st => jsw x (fun t => k t lv st h a b) dflt tgts 0
  | _ => False
theorem jsw_in {x : Int32} {K : Nat → Prop} {dflt : Nat} : ∀ (ts : List Nat) (i j t : Nat), jsw x K dflt ts i → ts[j]? = some t → x = nI (i + j) → K t
  | [], _, _, _, _, h, _ => by simp at h
  | t0 :: ts, i, 0, t, hj, h, hx => by simp at h; subst h; exact hj.1 hx
  | t0 :: ts, i, j + 1, t, hj, h, hx => jsw_in ts (i + 1) j t hj.2 (by simpa using h) (by rw [hx]; congr 1; omega)
theorem jsw_out {x : Int32} {K : Nat → Prop} {dflt : Nat} : ∀ (ts : List Nat) (i : Nat), jsw x K dflt ts i → (x.toInt < 0 ∨ ((i + ts.length : Nat) : Int) ≤ x.toInt) → K dflt
  | [], i, hj, h => hj (by simpa using h)
  | t0 :: ts, i, hj, h => jsw_out ts (i + 1) hj.2 (by rcases h with h | h; exact Or.inl h; right; simp at h ⊢; omega)
theorem jS_switch {dflt hi : Int} {offs : Array Int} {len : Nat} {tgts : List Nat} {td : Nat} (hd : decode Y.2.1 pc = .ok (.tableswitch dflt 0 hi offs, len)) (h1 : tgts.length < 2 ^ 31 ∧ hi + 1 = (tgts.length : Int)) (h2 : offs.toList.map (fun o => (pc : Int) + o) = tgts.map (fun (t : Nat) => (t : Int))) (h3 : (pc : Int) + dflt = (td : Int)) : jS Y Φ pc (ji_switch tgts td) := by
  intro k hk lv st h a b hj
  unfold ji_switch at hj
  split at hj
  · rename_i x st
    intro p l e s m args below meth c g hc H locs ls hP hS hL
    by_cases hlo : x.toInt < 0
    · exact lv_tableOut hc.1 hc.2.1 hd (Or.inl hlo) h3 (hk _ _ _ _ _ _ (jsw_out (K := fun t => k t lv st h a b) (dflt := td) tgts 0 hj (Or.inl hlo)) p l e s m args below meth c g hc H locs ls hP hS hL)
    by_cases hhi : hi < x.toInt
    · exact lv_tableOut hc.1 hc.2.1 hd (Or.inr hhi) h3 (hk _ _ _ _ _ _ (jsw_out (K := fun t => k t lv st h a b) (dflt := td) tgts 0 hj (Or.inr (by omega))) p l e s m args below meth c g hc H locs ls hP hS hL)
    obtain ⟨j, hjx⟩ : ∃ j : Nat, x.toInt = (j : Int) := ⟨x.toInt.toNat, by omega⟩
    have hjl : j < tgts.length := by omega
    have hlen : offs.toList.length = tgts.length := by have := congrArg List.length h2; simpa using this
    have hx : x = nI j := by
      apply Int32.toInt_inj.mp
      rw [hjx, nI_toInt (by omega)]
    have ho : offs[j]? = some (offs.toList[j]'(by omega)) := by
      rw [← Array.getElem?_toList]; exact List.getElem?_eq_getElem (by omega)
    have ht : (pc : Int) + (offs.toList[j]'(by omega)) = ((tgts[j]'hjl : Nat) : Int) := by
      have e := congrArg (fun l => l[j]?) h2
      simp only [List.getElem?_map, List.getElem?_eq_getElem (show j < offs.toList.length by omega), List.getElem?_eq_getElem hjl, Option.map_some] at e
      exact Option.some.inj e
    refine lv_tableIn hc.1 hc.2.1 hd hlo hhi (off := offs.toList[j]'(by omega)) ?_ ht (hk _ _ _ _ _ _ (jsw_in (K := fun t => k t lv st h a b) (dflt := td) tgts 0 j _ hj (List.getElem?_eq_getElem hjl) (by rw [hx, Nat.zero_add])) p l e s m args below meth c g hc H locs ls hP hS hL)
    rw [show (x.toInt - 0).toNat = j by omega]
    exact ho
  · exact hj.elim
/-! calls -/
def jcs : List Value → Nat
  | [] => 0
  | v :: vs => v.category + jcs vs
theorem jcs_sum (g : jg) : ∀ vs : List Value, ((vs.map (jtr g)).map fun v => v.category).sum = jcs vs
  | [] => rfl
  | v :: vs => by simp only [List.map_cons, List.sum_cons, jcs, jtr_cat, jcs_sum g vs]
def jYok (Y : jY) (n : Nat) : Prop := Cond.code Y.1 Y.2.1 Y.2.2.1 Y.2.2.2.1 ∈ lw_tbl ∧ Cond.initialized Y.1.cls ∈ lw_tbl ∧ (Y.1.cls ≠ "java/lang/invoke/MethodHandle" ∧ Y.1.cls ≠ "java/lang/invoke/VarHandle") ∧ (parseMethodDescriptor Y.1.desc).map (fun d => d.parameters.length) = some n
theorem jcallB {Y Z : jY} {n : Nat} (hz : jYok Z n) {g : jg} {s : State} {args : Array Value} (hK : jK g s) {index : Nat} {own : String} (hl : (Cond.methodLink own index Z.1).before args s = true) (hdp : Z.2.2.2.2.1 + 1 ≤ Y.2.2.2.2.1) (hnl : Z.2.2.1 ≤ 29) : CallB (jrm Y) s args own index Z.1 Z.2.1 Z.2.2.1 Z.2.2.2.1 (jww Z) (jrm Z) Z.2.2.2.2.2.1 Z.2.2.2.2.2.2 n := by
  refine ⟨rfl, rfl, hdp, ?_, fun w hw a' U hW => ?_, List.mem_cons_self, hK.word hz.1 rfl rfl, hK.word hz.2.1 rfl rfl, hz.2.2.1, fun sig h => ?_, hl⟩
  · show 8 + (Z.2.2.1 + 11) + 48 * Z.2.2.2.2.1 ≤ 48 * Y.2.2.2.2.1
    omega
  · rw [List.mem_singleton.mp hw]
    exact word_at hW (Or.inl rfl) (hK.word (args := args) hz.1 rfl rfl)
  · have h2 := hz.2.2.2
    rw [h] at h2
    exact (Option.some.inj h2).symm
theorem jback {Y Z : jY} {Φ Ψ : jPost} {p : Program} {l : Launch} {e : Env} {s : State} {m : MethodId} {args av : Array Value} {below : List Frame} {meth : Method} {c : Code} {g : jg} {H : Heap} {locs : List Loc} {a b pc nx : Nat} {ls : Array Slot} {st0 rest : List Value} {lv : List (Option Value)}
    (hr : va_Run p l e (jrm Y) s m args below meth c H locs a b Z.2.2.2.2.2.1 Z.2.2.2.2.2.2 (F0 m pc ls st0) (rest.map (jtr g)) (jQ g Ψ av) (jA g)) (hc : jctx Y g p s m meth c) (hS : va_S (jA g) s.heap H locs) (hn : pc + 3 = nx) (hL : jL g ls Y.2.2.1 lv)
    (kk : ∀ r h', Ψ r h' → jG Y Φ nx lv (r.toList ++ rest) h' (a + Z.2.2.2.2.2.1) (b + Z.2.2.2.2.2.2)) : W p l e (jrm Y) s m args below meth c H locs a b (MQ below (jQ g Φ) args s Y.2.2.2.2.2.1 Y.2.2.2.2.2.2 (jA g)) (F0 m pc ls st0) := by
  intro T hT X
  subst hn
  obtain ⟨v, st₀, t, T', L, h0, X', hLq, e1, e2, ⟨⟨r, h', hψ, hv, hP'⟩, hz, hk⟩, stp⟩ := hr T hT X
  cases hv
  rw [h0] at hz hk
  have hS' : va_S (jA g) s.heap T'.heap (locs ++ L) := ⟨Nat.le_trans hS.1 (by rw [e1]; exact hz), fun q h1 h2 => by rw [e1, hk q (Nat.lt_of_lt_of_le h1 hS.1) h2]; exact hS.2.1 q h1 h2, fun q hq => by
      rcases List.mem_append.mp hq with h | h
      · exact hS.2.2 q h
      · exact hLq q h⟩
  have e3 : (r.toList ++ rest).map (jtr g) = (r.map (jtr g)).toList ++ rest.map (jtr g) := by cases r <;> rfl
  have K := kk r h' hψ p l e s m args below meth c g hc T'.heap (locs ++ L) ls (by rw [e1]; exact hP') hS' hL
  rw [e3] at K
  obtain ⟨t2, a1, b1⟩ := K T' rfl X'
  exact ⟨t2, stp t2 a1, b1⟩
theorem jpre {g : jg} {s : State} (hK : jK g s) {H : Heap} {locs : List Loc} (hS : va_S (jA g) s.heap H locs) {h : List jC} (hP : jP g h H) (As : List Value) : ∀ U : State, U.heap = H → s.WarmedH U.vm → jPc g As h ((As.map (jtr g)).toArray) U := by
  intro U hU hW
  exact ⟨rfl, by rw [hU]; exact hP, hK.warm hW (by rw [hU]; exact hS.1) (fun q h1 h2 => by rw [hU]; exact hS.2.1 q h1 h2)⟩
theorem jargs {g : jg} {n : Nat} {st : List Value} (h : n ≤ st.length) : ((st.take n).reverse.map (jtr g)).length = n ∧ st.map (jtr g) = ((st.take n).reverse.map (jtr g)).reverse ++ (st.drop n).map (jtr g) := by
  refine ⟨by simp; omega, ?_⟩
  rw [← List.map_reverse, List.reverse_reverse, ← List.map_append, List.take_append_drop]
def jchk (Z : jY) (n MC MS : Nat) (st : List Value) (a b : Nat) : Bool := Nat.ble (a + Z.2.2.2.2.2.1) MC && Nat.ble (b + Z.2.2.2.2.2.2) MS && Nat.ble (jcs (st.drop n)) 8 && Nat.ble n st.length
theorem jchk_ok {Z : jY} {n MC MS : Nat} {st : List Value} {a b : Nat} {P : Prop} (h : cond (jchk Z n MC MS st a b) P False) : (a + Z.2.2.2.2.2.1 ≤ MC ∧ b + Z.2.2.2.2.2.2 ≤ MS) ∧ jcs (st.drop n) ≤ 8 ∧ n ≤ st.length ∧ P := by
  obtain ⟨h1, h2⟩ := jb1 h
  unfold jchk at h1
  simp only [Bool.and_eq_true] at h1
  exact ⟨⟨Nat.le_of_ble_eq_true h1.1.1.1, Nat.le_of_ble_eq_true h1.1.1.2⟩, Nat.le_of_ble_eq_true h1.1.2, Nat.le_of_ble_eq_true h1.2, h2⟩
/-- a call of a static method, or of a constructor (n counts the object) -/
def ji_call (Z : jY) (n MC MS nx : Nat) : jI := fun k lv st h a b => cond (jchk Z n MC MS st a b) (∃ Ψ, jCt Z (st.take n).reverse h Ψ ∧ ∀ r h', Ψ r h' → k nx lv (r.toList ++ st.drop n) h' (a + Z.2.2.2.2.2.1) (b + Z.2.2.2.2.2.2)) False
theorem jS_scall {Z : jY} {n index : Nat} (hz : jYok Z n) (hst : Cond.static Z.1 ∈ lw_tbl) (hl : Cond.methodLink Y.1.cls index Z.1 ∈ lw_tbl) (hdp : Z.2.2.2.2.1 + 1 ≤ Y.2.2.2.2.1) (hnl : Z.2.2.1 ≤ 29) (hd : decode Y.2.1 pc = .ok (.invokestatic index, 3)) (hn : pc + 3 = nx) : jS Y Φ pc (ji_call Z n Y.2.2.2.2.2.1 Y.2.2.2.2.2.2 nx) := by
  intro k hk lv st h a b hi
  obtain ⟨hf, hcat, hlen, Ψ, hCt, hi⟩ := jchk_ok hi
  intro p l e s m args below meth c g hc H locs ls hP hS hL
  have hK := hc.2.2.2.2.2.2.2
  obtain ⟨n1, n2⟩ := jargs (g := g) hlen
  refine jback (Z := Z) (va_runS (Ts := []) ⟨hc.1, hc.2.1, hc.2.2.1, hc.2.2.2.1, fun _ h => by cases h⟩ (hCt l g) ⟨jcallB hz hK (hK.word hl rfl rfl) hdp hnl, hK.word hst rfl rfl⟩ ⟨jcall_blind g _ h, jpre hK hS hP _⟩ rfl n1 hL.1 n2 (lv_room (st := (st.drop n).map (jtr g)) (by rw [jcs_sum]; exact hcat)) hd hf) hc hS hn hL (fun r h' hψ => hk _ _ _ _ _ _ (hi r h' hψ))
/-- a call of a method of an object (whose class must be ci where it is known: ci = 999 for a constructor) -/
def ji_vcall (Z : jY) (n ci MC MS nx : Nat) : jI := fun k lv st h a b => cond (jchk Z n MC MS st a b) (match st.drop n with
  | .ref r :: rest => (∃ vs, h[r]? = some (.inr (ci, vs))) ∧ ∃ Ψ, jCt Z (.ref r :: (st.take n).reverse) h Ψ ∧ ∀ r h', Ψ r h' → k nx lv (r.toList ++ rest) h' (a + Z.2.2.2.2.2.1) (b + Z.2.2.2.2.2.2)
  | _ => False) False
def ji_icall (Z : jY) (n MC MS nx : Nat) : jI := fun k lv st h a b => cond (jchk Z n MC MS st a b) (match st.drop n with
  | .ref r :: rest => ∃ Ψ, jCt Z (.ref r :: (st.take n).reverse) h Ψ ∧ ∀ r h', Ψ r h' → k nx lv (r.toList ++ rest) h' (a + Z.2.2.2.2.2.1) (b + Z.2.2.2.2.2.2)
  | _ => False) False
theorem jargs2 {g : jg} {n r : Nat} {st rest : List Value} (h : n ≤ st.length) (he : st.drop n = .ref r :: rest) : ((st.take n).reverse.map (jtr g)).length = n ∧ st.map (jtr g) = ((st.take n).reverse.map (jtr g)).reverse ++ .ref (jad g r) :: rest.map (jtr g) ∧ jcs rest ≤ jcs (st.drop n) := by
  obtain ⟨h1, h2⟩ := jargs (g := g) h
  rw [he] at h2
  exact ⟨h1, h2, by rw [he]; simp [jcs]⟩
theorem jS_icall {Z : jY} {n index : Nat} {nm : MethodName} {cc : ByteArray} {nL d mc ms : Nat} (e : Z = (nm, cc, nL, none, d, mc, ms)) (hz : jYok Z n) (hin : Cond.instanceMethod Z.1 ∈ lw_tbl) (hnm : Z.1.name = "<init>") (hl : Cond.methodLink Y.1.cls index Z.1 ∈ lw_tbl) (hdp : Z.2.2.2.2.1 + 1 ≤ Y.2.2.2.2.1) (hnl : Z.2.2.1 ≤ 29) (hd : decode Y.2.1 pc = .ok (.invokespecial index, 3)) (hn : pc + 3 = nx) : jS Y Φ pc (ji_icall Z n Y.2.2.2.2.2.1 Y.2.2.2.2.2.2 nx) := by
  subst e
  intro k hk lv st h a b hi
  obtain ⟨hf, hcat, hlen, hi⟩ := jchk_ok hi
  split at hi
  · rename_i r rest he
    obtain ⟨Ψ, hCt, hi⟩ := hi
    intro p l e s m args below meth c g hc H locs ls hP hS hL
    have hK := hc.2.2.2.2.2.2.2
    obtain ⟨n1, n2, n3⟩ := jargs2 (g := g) hlen he
    exact jback (Z := (nm, cc, nL, none, d, mc, ms)) (va_runI (Ts := []) ⟨hc.1, hc.2.1, hc.2.2.1, hc.2.2.2.1, fun _ h => by cases h⟩ (hCt l g) ⟨jcallB hz hK (hK.word hl rfl rfl) hdp hnl, hnm, hK.word hin rfl rfl⟩ ⟨jcall_blind g _ h, jpre hK hS hP (.ref r :: (st.take n).reverse)⟩ rfl n1 hL.1 n2 (lv_room (st := rest.map (jtr g)) (by rw [jcs_sum]; omega)) hd hf) hc hS hn hL (fun r h' hψ => hk _ _ _ _ _ _ (hi r h' hψ))
  · exact hi.elim
theorem jS_vcall {Z : jY} {n index ci : Nat} (hz : jYok Z n) (hin : Cond.instanceMethod Z.1 ∈ lw_tbl) (hsel : Cond.selects Z.1.cls Z.1 Z.1 ∈ lw_tbl) (hci : (vwCl[ci]?).map (fun r => r.1) = some Z.1.cls) (hl : Cond.methodLink Y.1.cls index Z.1 ∈ lw_tbl) (hdp : Z.2.2.2.2.1 + 1 ≤ Y.2.2.2.2.1) (hnl : Z.2.2.1 ≤ 29) (hd : decode Y.2.1 pc = .ok (.invokevirtual index, 3)) (hn : pc + 3 = nx) : jS Y Φ pc (ji_vcall Z n ci Y.2.2.2.2.2.1 Y.2.2.2.2.2.2 nx) := by
  intro k hk lv st h a b hi
  obtain ⟨hf, hcat, hlen, hi⟩ := jchk_ok hi
  split at hi
  · rename_i r rest he
    obtain ⟨⟨vs, hr⟩, Ψ, hCt, hi⟩ := hi
    intro p l e s m args below meth c g hc H locs ls hP hS hL
    have hK := hc.2.2.2.2.2.2.2
    obtain ⟨n1, n2, n3⟩ := jargs2 (g := g) hlen he
    obtain ⟨q, rfl, hq⟩ := hP.obj hr
    obtain ⟨rc, hrc⟩ := hP.cl hq
    have hrv := va_recv hK.2.1 hP.2.2.2.1 hrc (jws_at hq)
    rw [hrc] at hci
    rw [show rc.1 = Z.1.cls from Option.some.inj hci] at hrv
    exact jback (Z := Z) (va_runV (Ts := []) (C := Z.1.cls) ⟨hc.1, hc.2.1, hc.2.2.1, hc.2.2.2.1, fun _ h => by cases h⟩ (hCt l g) ⟨jcallB hz hK (hK.word hl rfl rfl) hdp hnl, hK.word hin rfl rfl, hK.word hsel rfl rfl⟩ ⟨jcall_blind g _ h, hrv, jpre hK hS hP (.ref (q + 2) :: (st.take n).reverse)⟩ rfl n1 hL.1 n2 (lv_room (st := rest.map (jtr g)) (by rw [jcs_sum]; omega)) hd hf) hc hS hn hL (fun r h' hψ => hk _ _ _ _ _ _ (hi r h' hψ))
  · exact hi.elim
end jsound
end
section
/-! THE ENGINE, fifth part: calls among nest mates, clones, copies, bits of floats -/
theorem jP.row {g : jg} {h : List jC} {H : Heap} (hP : jP g h H) {r n : Nat} {ty : FieldType} {x : jZ} (ho : ty ≠ .object "java/lang/Object") (hb : ty ≠ .byte) (hr : h[r]? = some (.inl (ty, n, x))) : ∃ k, r = k + 2 ∧ h[k + 2]? = some (.inl (ty, n, x)) ∧ ty ∈ jtys ∧ n ≤ 100000 := by
  match r, hr with
  | 0, hr => rw [hP.2.1] at hr; cases hr; exact absurd rfl ho
  | 1, hr => rw [hP.2.2.1] at hr; cases hr; exact absurd rfl hb
  | k + 2, hr => exact ⟨k, rfl, hr, hP.2.2.2.2 k _ hr⟩
theorem jpushS {g : jg} {s : State} {H : Heap} {locs : List Loc} (hS : va_S (jA g) s.heap H locs) (x : Cell) : va_S (jA g) s.heap (H.push x) locs ∧ (H.push x).size = H.size + 1 ∧ (H.push x)[H.size]? = some x ∧ ∀ q : Nat, q < H.size → (H.push x)[q]? = H[q]? := by
  have o1 : ∀ q : Nat, q < H.size → (H.push x)[q]? = H[q]? := fun q hq => by rw [Array.getElem?_push, if_neg (Nat.ne_of_lt hq)]
  exact ⟨⟨Nat.le_trans hS.1 (by rw [Array.size_push]; omega), fun y h1 h2 => (o1 y (Nat.lt_of_lt_of_le h1 hS.1)).trans (hS.2.1 y h1 h2), hS.2.2⟩, Array.size_push .., Array.getElem?_push_size, o1⟩
section jsound
variable {Y : jY} {Φ : jPost} {pc nx : Nat}
theorem jcallN {Y Z : jY} {n : Nat} (hz : jYok Z n) {g : jg} {s : State} {args : Array Value} (hK : jK g s) {index : Nat} {own host : String} (hl : Cond.methodLinkNest own index Z.1 host ∈ lw_tbl) (hdp : Z.2.2.2.2.1 + 1 ≤ Y.2.2.2.2.1) (hnl : Z.2.2.1 ≤ 29) : va_CN (jrm Y) s args own index Z.1 host Z.2.1 Z.2.2.1 Z.2.2.2.1 (jww Z) (jrm Z) Z.2.2.2.2.2.1 Z.2.2.2.2.2.2 n := by
  refine ⟨⟨rfl, rfl, hdp, ?_, fun w hw a' U hW => ?_, List.mem_cons_self⟩, hK.word hz.1 rfl rfl, hK.word hz.2.1 rfl rfl, hz.2.2.1, fun sig h => ?_, hK.word hl rfl rfl⟩
  · show 8 + (Z.2.2.1 + 11) + 48 * Z.2.2.2.2.1 ≤ 48 * Y.2.2.2.2.1
    omega
  · rw [List.mem_singleton.mp hw]
    exact word_at hW (Or.inl rfl) (hK.word (args := args) hz.1 rfl rfl)
  · have h2 := hz.2.2.2
    rw [h] at h2
    exact (Option.some.inj h2).symm
theorem jS_scallN {Z : jY} {n index : Nat} {host : String} (hz : jYok Z n) (hst : Cond.static Z.1 ∈ lw_tbl) (hl : Cond.methodLinkNest Y.1.cls index Z.1 host ∈ lw_tbl) (hdp : Z.2.2.2.2.1 + 1 ≤ Y.2.2.2.2.1) (hnl : Z.2.2.1 ≤ 29) (hd : decode Y.2.1 pc = .ok (.invokestatic index, 3)) (hn : pc + 3 = nx) : jS Y Φ pc (ji_call Z n Y.2.2.2.2.2.1 Y.2.2.2.2.2.2 nx) := by
  intro k hk lv st h a b hi
  obtain ⟨hf, hcat, hlen, Ψ, hCt, hi⟩ := jchk_ok hi
  intro p l e s m args below meth c g hc H locs ls hP hS hL
  have hK := hc.2.2.2.2.2.2.2
  obtain ⟨n1, n2⟩ := jargs (g := g) hlen
  exact jback (Z := Z) (va_runSN (Ts := []) ⟨hc.1, hc.2.1, hc.2.2.1, hc.2.2.2.1, fun _ h => by cases h⟩ (hCt l g) ⟨jcallN hz hK hl hdp hnl, hK.word hst rfl rfl, trivial⟩ ⟨jcall_blind g _ h, jpre hK hS hP _⟩ rfl n1 hL.1 n2 (lv_room (st := (st.drop n).map (jtr g)) (by rw [jcs_sum]; exact hcat)) hd hf) hc hS hn hL (fun r h' hψ => hk _ _ _ _ _ _ (hi r h' hψ))
theorem jS_icallN {Z : jY} {n index : Nat} {host : String} {nm : MethodName} {cc : ByteArray} {nL d mc ms : Nat} (e : Z = (nm, cc, nL, none, d, mc, ms)) (hz : jYok Z n) (hin : Cond.instanceMethod Z.1 ∈ lw_tbl) (hnm : Z.1.name = "<init>") (hl : Cond.methodLinkNest Y.1.cls index Z.1 host ∈ lw_tbl) (hdp : Z.2.2.2.2.1 + 1 ≤ Y.2.2.2.2.1) (hnl : Z.2.2.1 ≤ 29) (hd : decode Y.2.1 pc = .ok (.invokespecial index, 3)) (hn : pc + 3 = nx) : jS Y Φ pc (ji_icall Z n Y.2.2.2.2.2.1 Y.2.2.2.2.2.2 nx) := by
  subst e
  intro k hk lv st h a b hi
  obtain ⟨hf, hcat, hlen, hi⟩ := jchk_ok hi
  split at hi
  · rename_i r rest he
    obtain ⟨Ψ, hCt, hi⟩ := hi
    intro p l e s m args below meth c g hc H locs ls hP hS hL
    have hK := hc.2.2.2.2.2.2.2
    obtain ⟨n1, n2, n3⟩ := jargs2 (g := g) hlen he
    exact jback (Z := (nm, cc, nL, none, d, mc, ms)) (va_runIN (Ts := []) ⟨hc.1, hc.2.1, hc.2.2.1, hc.2.2.2.1, fun _ h => by cases h⟩ (hCt l g) ⟨jcallN hz hK hl hdp hnl, hnm, hK.word hin rfl rfl⟩ ⟨jcall_blind g _ h, jpre hK hS hP (.ref r :: (st.take n).reverse)⟩ rfl n1 hL.1 n2 (lv_room (st := rest.map (jtr g)) (by rw [jcs_sum]; omega)) hd hf) hc hS hn hL (fun r h' hψ => hk _ _ _ _ _ _ (hi r h' hψ))
  · exact hi.elim
theorem jS_vcallN {Z : jY} {n index ci : Nat} {host : String} (hz : jYok Z n) (hin : Cond.instanceMethod Z.1 ∈ lw_tbl) (hsel : Cond.selects Z.1.cls Z.1 Z.1 ∈ lw_tbl) (hci : (vwCl[ci]?).map (fun r => r.1) = some Z.1.cls) (hl : Cond.methodLinkNest Y.1.cls index Z.1 host ∈ lw_tbl) (hdp : Z.2.2.2.2.1 + 1 ≤ Y.2.2.2.2.1) (hnl : Z.2.2.1 ≤ 29) (hd : decode Y.2.1 pc = .ok (.invokevirtual index, 3)) (hn : pc + 3 = nx) : jS Y Φ pc (ji_vcall Z n ci Y.2.2.2.2.2.1 Y.2.2.2.2.2.2 nx) := by
  intro k hk lv st h a b hi
  obtain ⟨hf, hcat, hlen, hi⟩ := jchk_ok hi
  split at hi
  · rename_i r rest he
    obtain ⟨⟨vs, hr⟩, Ψ, hCt, hi⟩ := hi
    intro p l e s m args below meth c g hc H locs ls hP hS hL
    have hK := hc.2.2.2.2.2.2.2
    obtain ⟨n1, n2, n3⟩ := jargs2 (g := g) hlen he
    obtain ⟨q, rfl, hq⟩ := hP.obj hr
    obtain ⟨rc, hrc⟩ := hP.cl hq
    have hrv := va_recv hK.2.1 hP.2.2.2.1 hrc (jws_at hq)
    rw [hrc] at hci
    rw [show rc.1 = Z.1.cls from Option.some.inj hci] at hrv
    exact jback (Z := Z) (va_runVN (Ts := []) (C := Z.1.cls) ⟨hc.1, hc.2.1, hc.2.2.1, hc.2.2.2.1, fun _ h => by cases h⟩ (hCt l g) ⟨jcallN hz hK hl hdp hnl, hK.word hin rfl rfl, hK.word hsel rfl rfl⟩ ⟨jcall_blind g _ h, hrv, jpre hK hS hP (.ref (q + 2) :: (st.take n).reverse)⟩ rfl n1 hL.1 n2 (lv_room (st := rest.map (jtr g)) (by rw [jcs_sum]; omega)) hd hf) hc hS hn hL (fun r h' hψ => hk _ _ _ _ _ _ (hi r h' hψ))
  · exact hi.elim
theorem jrfl {g : jg} {h : List jC} {H : Heap} (hP : jP g h H) : jtr g (.ref h.length) = .ref H.size := congrArg Value.ref hP.ref
/-- a row of references is made -/
def ji_anew (C : String) (MC MS nx : Nat) : jI := fun k lv st h a b => match st with
  | .int n :: st => ∃ N, n = nI N ∧ N ≤ 100000 ∧ b + N ≤ MS ∧ cond (Nat.ble (a + 1) MC) (k nx lv (.ref h.length :: st) (h ++ [.inl (.object C, N, .inr (.inr (.inr (.inr (fun _ => none)))))]) (a + 1) (b + N)) False
  | _ => False
theorem jS_anew {index : Nat} {C : String} (hty : FieldType.object C ∈ jtys) (hl : Cond.classLink Y.1.cls index C ∈ lw_tbl) (ho : C ∈ jAO) (hd : decode Y.2.1 pc = .ok (.anewarray index, 3)) (hn : pc + 3 = nx) : jS Y Φ pc (ji_anew C Y.2.2.2.2.2.1 Y.2.2.2.2.2.2 nx) := by
  intro k hk lv st h a b hi
  unfold ji_anew at hi
  split at hi
  · obtain ⟨N, rfl, hN, hms, hi⟩ := hi
    obtain ⟨hmc, hi⟩ := jb1 hi
    intro p l e s m args below meth c g hc H locs ls hP hS hL
    subst hn
    have hK := hc.2.2.2.2.2.2.2
    have hN2 : (nI N).toNatClampNeg = N := nI_clamp (by omega)
    refine W.anew hc.1 hc.2.1 hc.2.2.2.1 (hK.word hl rfl rfl) ((hK.2.2.1.2 C ho).use) rfl hd rfl (nI_pos (by omega)) (by rw [hN2]; omega) (Nat.le_of_ble_eq_true hmc) (by rw [hN2]; exact hms) fun cA kA comp f1 f2 f3 f4 => ?_
    rw [hN2, arrV_new]
    have hcA : cA = g.2.2.2 (.object C) := Option.some.inj (f1.symm.trans (jRA_name (hK.arrOf hty).2))
    subst hcA
    obtain ⟨s1, z1, e1, o1⟩ := jpushS hS (arrV (g.2.2.2 (.object C)) N (fun _ => .null))
    have := hk _ _ _ _ _ _ hi p l e s m args below meth c g hc _ locs ls (hP.new z1 o1 e1 ⟨hty, hN⟩) s1 hL
    rw [List.map_cons, jrfl hP] at this
    exact this
  · exact hi.elim
def ji_clonei (MC MS nx : Nat) : jI := fun k lv st h a b => match st with
  | .ref r :: st => ∃ n f, h[r]? = some (.inl (.int, n, .inl f)) ∧ b + n ≤ MS ∧ cond (Nat.ble (a + 1) MC) (k nx lv (.ref h.length :: st) (h ++ [.inl (.int, n, .inl f)]) (a + 1) (b + n)) False
  | _ => False
theorem jS_clonei {index : Nat} (hl : Cond.methodLink Y.1.cls index ⟨"[" ++ FieldType.toString .int, "clone", "()Ljava/lang/Object;"⟩ ∈ lw_tbl) (hsm : Cond.sameMethod ("[" ++ FieldType.toString .int) "java/lang/Object" "clone" "()Ljava/lang/Object;" ∈ lw_tbl) (hnat : Cond.native ⟨"java/lang/Object", "clone", "()Ljava/lang/Object;"⟩ ∈ lw_tbl) (hin : Cond.instanceMethod ⟨"java/lang/Object", "clone", "()Ljava/lang/Object;"⟩ ∈ lw_tbl)
    (hsel : Cond.selects ("[" ++ FieldType.toString .int) ⟨"[" ++ FieldType.toString .int, "clone", "()Ljava/lang/Object;"⟩ ⟨"java/lang/Object", "clone", "()Ljava/lang/Object;"⟩ ∈ lw_tbl) (hcl : Cond.castable ("[" ++ FieldType.toString .int) "java/lang/Cloneable" ∈ lw_tbl) (hdp : 1 ≤ Y.2.2.2.2.1) (hcat : ∀ st : List Value, True) (hd : decode Y.2.1 pc = .ok (.invokevirtual index, 3)) (hn : pc + 3 = nx) : jS Y Φ pc (fun k lv st h a b => cond (Nat.ble (jcs st) 9) (ji_clonei Y.2.2.2.2.2.1 Y.2.2.2.2.2.2 nx k lv st h a b) False) := by
  intro k hk lv st h a b hi
  replace hi := jb1 hi
  obtain ⟨hcs, hi⟩ := hi
  replace hcs := Nat.le_of_ble_eq_true hcs
  unfold ji_clonei at hi
  split at hi
  · rename_i r st
    obtain ⟨n, f, hr, hms, hi⟩ := hi
    obtain ⟨hmc, hi⟩ := jb1 hi
    intro p l e s m args below meth c g hc H locs ls hP hS hL
    subst hn
    obtain ⟨q, rfl, hq, hty, hN⟩ := hP.row (fun z => by cases z) (fun z => by cases z) hr
    have hK := hc.2.2.2.2.2.2.2
    have hat : H[g.1.1 + q]? = some (arrV (g.2.2.2 .int) n (fun j => .int (f j))) := hP.2.2.2.1 q _ (jws_at hq)
    obtain ⟨-, kS, hkS, compS, hkindS⟩ := (hK.arrOf hty).1 0 (fun _ => .null)
    have hnm := jRA_name (hK.arrOf hty).2
    obtain ⟨c0, t0, f1, f2, f3⟩ := Cond.castable_spec (hK.word (args := args) hcl rfl rfl)
    cases hnm.symm.trans f1
    obtain ⟨s1, z1, e1, o1⟩ := jpushS hS (arrV (g.2.2.2 .int) n (fun j => .int (f j)))
    refine W.of (H' := H.push (arrV (g.2.2.2 .int) n (fun j => .int (f j)))) (locs' := locs) (cells' := a + 1) (slots' := b + n) (g2 := F0 m (pc + 3) ls (.ref H.size :: st.map (jtr g))) (fun T hT X => ?_) ?_
    · obtain ⟨-, kA, hkA, comp, hkind⟩ := State.isArrayOf_alike X.warmed.alike ((hK.arrOf hty).1 0 (fun _ => .null))
      obtain ⟨vm', X', stp⟩ := X.cloneArray hc.1 hc.2.2.2.1 (hK.word hl rfl rfl) (hK.word hsm rfl rfl) (hK.word hnat rfl rfl) (hK.word hin rfl rfl) (hK.word hsel rfl rfl) (a := g.1.1 + q) (cell := arrV (g.2.2.2 .int) n (fun j => .int (f j))) (by rw [hT]; exact hat) (fun k h => by cases h) (fun h => by cases h) hnm f2 f3
        (fun i v hv => by
          have hk' : T.vm.classes[g.2.2.2 .int]? = some kA := hkA
          have hv2 : fits .int v = true := va_fit (cA := g.2.2.2 .int) (n := n) (fun i _ => rfl) i v hv
          show T.fitsSlot (g.2.2.2 .int) .none i v = true
          simpa [State.fitsSlot, State.slotType?, hk', hkind] using hv2)
        (g := F0 m pc ls (.ref (g.1.1 + q) :: st.map (jtr g))) rfl (by rw [hc.2.2.1]; exact hL.1) rfl (by rw [hc.2.1]; exact hd) hdp (by
          show 2 * 0 + ((st.map (jtr g)).map fun v => v.category).sum + 14 ≤ 48 * Y.2.2.2.2.1
          rw [jcs_sum]
          have : jcs (Value.ref (q + 2) :: st) = 1 + jcs st := rfl
          have h9 : jcs (Value.ref (q + 2) :: st) ≤ 9 := hcs
          omega) (Nat.le_of_ble_eq_true hmc) (by rw [arrV_size]; exact hms) (hloader := Vm.clonesLoader_of_array hkS hkindS)
      rw [arrV_size] at X'
      exact ⟨(T.setVm vm').pushCell (arrV (g.2.2.2 .int) n (fun j => .int (f j))), by rw [← hT]; rfl, X', fun tg hs => stp tg (by rw [hT]; exact hs)⟩
    · have := hk _ _ _ _ _ _ hi p l e s m args below meth c g hc _ locs ls (hP.new z1 o1 e1 ⟨hty, hN⟩) s1 hL
      rw [List.map_cons, jrfl hP] at this
      exact this
  · exact hi.elim
def ji_clonef (MC MS nx : Nat) : jI := fun k lv st h a b => match st with
  | .ref r :: st => ∃ n f, h[r]? = some (.inl (.float, n, .inr (.inr (.inl f)))) ∧ b + n ≤ MS ∧ cond (Nat.ble (a + 1) MC) (k nx lv (.ref h.length :: st) (h ++ [.inl (.float, n, .inr (.inr (.inl f)))]) (a + 1) (b + n)) False
  | _ => False
theorem jS_clonef {index : Nat} (hl : Cond.methodLink Y.1.cls index ⟨"[" ++ FieldType.toString .float, "clone", "()Ljava/lang/Object;"⟩ ∈ lw_tbl) (hsm : Cond.sameMethod ("[" ++ FieldType.toString .float) "java/lang/Object" "clone" "()Ljava/lang/Object;" ∈ lw_tbl) (hnat : Cond.native ⟨"java/lang/Object", "clone", "()Ljava/lang/Object;"⟩ ∈ lw_tbl) (hin : Cond.instanceMethod ⟨"java/lang/Object", "clone", "()Ljava/lang/Object;"⟩ ∈ lw_tbl)
    (hsel : Cond.selects ("[" ++ FieldType.toString .float) ⟨"[" ++ FieldType.toString .float, "clone", "()Ljava/lang/Object;"⟩ ⟨"java/lang/Object", "clone", "()Ljava/lang/Object;"⟩ ∈ lw_tbl) (hcl : Cond.castable ("[" ++ FieldType.toString .float) "java/lang/Cloneable" ∈ lw_tbl) (hdp : 1 ≤ Y.2.2.2.2.1) (hcat : ∀ st : List Value, True) (hd : decode Y.2.1 pc = .ok (.invokevirtual index, 3)) (hn : pc + 3 = nx) : jS Y Φ pc (fun k lv st h a b => cond (Nat.ble (jcs st) 9) (ji_clonef Y.2.2.2.2.2.1 Y.2.2.2.2.2.2 nx k lv st h a b) False) := by
  intro k hk lv st h a b hi
  replace hi := jb1 hi
  obtain ⟨hcs, hi⟩ := hi
  replace hcs := Nat.le_of_ble_eq_true hcs
  unfold ji_clonef at hi
  split at hi
  · rename_i r st
    obtain ⟨n, f, hr, hms, hi⟩ := hi
    obtain ⟨hmc, hi⟩ := jb1 hi
    intro p l e s m args below meth c g hc H locs ls hP hS hL
    subst hn
    obtain ⟨q, rfl, hq, hty, hN⟩ := hP.row (fun z => by cases z) (fun z => by cases z) hr
    have hK := hc.2.2.2.2.2.2.2
    have hat : H[g.1.1 + q]? = some (arrV (g.2.2.2 .float) n (fun j => .float (f j))) := hP.2.2.2.1 q _ (jws_at hq)
    obtain ⟨-, kS, hkS, compS, hkindS⟩ := (hK.arrOf hty).1 0 (fun _ => .null)
    have hnm := jRA_name (hK.arrOf hty).2
    obtain ⟨c0, t0, f1, f2, f3⟩ := Cond.castable_spec (hK.word (args := args) hcl rfl rfl)
    cases hnm.symm.trans f1
    obtain ⟨s1, z1, e1, o1⟩ := jpushS hS (arrV (g.2.2.2 .float) n (fun j => .float (f j)))
    refine W.of (H' := H.push (arrV (g.2.2.2 .float) n (fun j => .float (f j)))) (locs' := locs) (cells' := a + 1) (slots' := b + n) (g2 := F0 m (pc + 3) ls (.ref H.size :: st.map (jtr g))) (fun T hT X => ?_) ?_
    · obtain ⟨-, kA, hkA, comp, hkind⟩ := State.isArrayOf_alike X.warmed.alike ((hK.arrOf hty).1 0 (fun _ => .null))
      obtain ⟨vm', X', stp⟩ := X.cloneArray hc.1 hc.2.2.2.1 (hK.word hl rfl rfl) (hK.word hsm rfl rfl) (hK.word hnat rfl rfl) (hK.word hin rfl rfl) (hK.word hsel rfl rfl) (a := g.1.1 + q) (cell := arrV (g.2.2.2 .float) n (fun j => .float (f j))) (by rw [hT]; exact hat) (fun k h => by cases h) (fun h => by cases h) hnm f2 f3
        (fun i v hv => by
          have hk' : T.vm.classes[g.2.2.2 .float]? = some kA := hkA
          have hv2 : fits .float v = true := va_fit (cA := g.2.2.2 .float) (n := n) (fun i _ => rfl) i v hv
          show T.fitsSlot (g.2.2.2 .float) .none i v = true
          simpa [State.fitsSlot, State.slotType?, hk', hkind] using hv2)
        (g := F0 m pc ls (.ref (g.1.1 + q) :: st.map (jtr g))) rfl (by rw [hc.2.2.1]; exact hL.1) rfl (by rw [hc.2.1]; exact hd) hdp (by
          show 2 * 0 + ((st.map (jtr g)).map fun v => v.category).sum + 14 ≤ 48 * Y.2.2.2.2.1
          rw [jcs_sum]
          have : jcs (Value.ref (q + 2) :: st) = 1 + jcs st := rfl
          have h9 : jcs (Value.ref (q + 2) :: st) ≤ 9 := hcs
          omega) (Nat.le_of_ble_eq_true hmc) (by rw [arrV_size]; exact hms) (hloader := Vm.clonesLoader_of_array hkS hkindS)
      rw [arrV_size] at X'
      exact ⟨(T.setVm vm').pushCell (arrV (g.2.2.2 .float) n (fun j => .float (f j))), by rw [← hT]; rfl, X', fun tg hs => stp tg (by rw [hT]; exact hs)⟩
    · have := hk _ _ _ _ _ _ hi p l e s m args below meth c g hc _ locs ls (hP.new z1 o1 e1 ⟨hty, hN⟩) s1 hL
      rw [List.map_cons, jrfl hP] at this
      exact this
  · exact hi.elim
def ji_cloneq (C : String) (MC MS nx : Nat) : jI := fun k lv st h a b => match st with
  | .ref r :: st => ∃ n f, h[r]? = some (.inl (.object C, n, .inr (.inr (.inr (.inr f))))) ∧ b + n ≤ MS ∧ cond (Nat.ble (a + 1) MC) (k nx lv (.ref h.length :: st) (h ++ [.inl (.object C, n, .inr (.inr (.inr (.inr f))))]) (a + 1) (b + n)) False
  | _ => False
theorem jS_cloneq {C : String} (hC : C ≠ "java/lang/Object") {index : Nat} (hl : Cond.methodLink Y.1.cls index ⟨"[" ++ FieldType.toString (.object C), "clone", "()Ljava/lang/Object;"⟩ ∈ lw_tbl) (hsm : Cond.sameMethod ("[" ++ FieldType.toString (.object C)) "java/lang/Object" "clone" "()Ljava/lang/Object;" ∈ lw_tbl) (hnat : Cond.native ⟨"java/lang/Object", "clone", "()Ljava/lang/Object;"⟩ ∈ lw_tbl) (hin : Cond.instanceMethod ⟨"java/lang/Object", "clone", "()Ljava/lang/Object;"⟩ ∈ lw_tbl)
    (hsel : Cond.selects ("[" ++ FieldType.toString (.object C)) ⟨"[" ++ FieldType.toString (.object C), "clone", "()Ljava/lang/Object;"⟩ ⟨"java/lang/Object", "clone", "()Ljava/lang/Object;"⟩ ∈ lw_tbl) (hcl : Cond.castable ("[" ++ FieldType.toString (.object C)) "java/lang/Cloneable" ∈ lw_tbl) (hdp : 1 ≤ Y.2.2.2.2.1) (hcat : ∀ st : List Value, True) (hd : decode Y.2.1 pc = .ok (.invokevirtual index, 3)) (hn : pc + 3 = nx) : jS Y Φ pc (fun k lv st h a b => cond (Nat.ble (jcs st) 9) (ji_cloneq C Y.2.2.2.2.2.1 Y.2.2.2.2.2.2 nx k lv st h a b) False) := by
  intro k hk lv st h a b hi
  replace hi := jb1 hi
  obtain ⟨hcs, hi⟩ := hi
  replace hcs := Nat.le_of_ble_eq_true hcs
  unfold ji_cloneq at hi
  split at hi
  · rename_i r st
    obtain ⟨n, f, hr, hms, hi⟩ := hi
    obtain ⟨hmc, hi⟩ := jb1 hi
    intro p l e s m args below meth c g hc H locs ls hP hS hL
    subst hn
    obtain ⟨q, rfl, hq, hty, hN⟩ := hP.row (fun z => by cases z; exact hC rfl) (fun z => by cases z) hr
    have hK := hc.2.2.2.2.2.2.2
    have hat : H[g.1.1 + q]? = some (arrV (g.2.2.2 (.object C)) n (fun j => va_rf ((f j).map (jad g)))) := hP.2.2.2.1 q _ (jws_at hq)
    obtain ⟨-, kS, hkS, compS, hkindS⟩ := (hK.arrOf hty).1 0 (fun _ => .null)
    have hnm := jRA_name (hK.arrOf hty).2
    obtain ⟨c0, t0, f1, f2, f3⟩ := Cond.castable_spec (hK.word (args := args) hcl rfl rfl)
    cases hnm.symm.trans f1
    obtain ⟨s1, z1, e1, o1⟩ := jpushS hS (arrV (g.2.2.2 (.object C)) n (fun j => va_rf ((f j).map (jad g))))
    refine W.of (H' := H.push (arrV (g.2.2.2 (.object C)) n (fun j => va_rf ((f j).map (jad g))))) (locs' := locs) (cells' := a + 1) (slots' := b + n) (g2 := F0 m (pc + 3) ls (.ref H.size :: st.map (jtr g))) (fun T hT X => ?_) ?_
    · obtain ⟨-, kA, hkA, comp, hkind⟩ := State.isArrayOf_alike X.warmed.alike ((hK.arrOf hty).1 0 (fun _ => .null))
      obtain ⟨vm', X', stp⟩ := X.cloneArray hc.1 hc.2.2.2.1 (hK.word hl rfl rfl) (hK.word hsm rfl rfl) (hK.word hnat rfl rfl) (hK.word hin rfl rfl) (hK.word hsel rfl rfl) (a := g.1.1 + q) (cell := arrV (g.2.2.2 (.object C)) n (fun j => va_rf ((f j).map (jad g)))) (by rw [hT]; exact hat) (fun k h => by cases h) (fun h => by cases h) hnm f2 f3
        (fun i v hv => by
          have hk' : T.vm.classes[g.2.2.2 (.object C)]? = some kA := hkA
          have hv2 : fits (.object C) v = true := va_fit (cA := g.2.2.2 (.object C)) (n := n) (fun i _ => by cases f i <;> rfl) i v hv
          show T.fitsSlot (g.2.2.2 (.object C)) .none i v = true
          simpa [State.fitsSlot, State.slotType?, hk', hkind] using hv2)
        (g := F0 m pc ls (.ref (g.1.1 + q) :: st.map (jtr g))) rfl (by rw [hc.2.2.1]; exact hL.1) rfl (by rw [hc.2.1]; exact hd) hdp (by
          show 2 * 0 + ((st.map (jtr g)).map fun v => v.category).sum + 14 ≤ 48 * Y.2.2.2.2.1
          rw [jcs_sum]
          have : jcs (Value.ref (q + 2) :: st) = 1 + jcs st := rfl
          have h9 : jcs (Value.ref (q + 2) :: st) ≤ 9 := hcs
          omega) (Nat.le_of_ble_eq_true hmc) (by rw [arrV_size]; exact hms) (hloader := Vm.clonesLoader_of_array hkS hkindS)
      rw [arrV_size] at X'
      exact ⟨(T.setVm vm').pushCell (arrV (g.2.2.2 (.object C)) n (fun j => va_rf ((f j).map (jad g)))), by rw [← hT]; rfl, X', fun tg hs => stp tg (by rw [hT]; exact hs)⟩
    · have := hk _ _ _ _ _ _ hi p l e s m args below meth c g hc _ locs ls (hP.new z1 o1 e1 ⟨hty, hN⟩) s1 hL
      rw [List.map_cons, jrfl hP] at this
      exact this
  · exact hi.elim
def ji_copyi (nx : Nat) : jI := fun k lv st h a b => match st with
  | .int n' :: .int dp' :: .ref r1 :: .int sp' :: .ref r0 :: st => ∃ n0 f n1 f1 sp dp n, h[r0]? = some (.inl (.int, n0, .inl f)) ∧ h[r1]? = some (.inl (.int, n1, .inl f1)) ∧ n' = nI n ∧ dp' = nI dp ∧ sp' = nI sp ∧ sp + n ≤ n0 ∧ dp + n ≤ n1 ∧ Nat.le (jcs st) 4 ∧ k nx lv st (h.set r1 (.inl (.int, n1, .inl (va_cpy f f1 sp dp n)))) a b
  | _ => False
theorem jS_copyi {index : Nat} (hl : Cond.methodLink Y.1.cls index arraycopyName ∈ lw_tbl) (hnat : Cond.native arraycopyName ∈ lw_tbl) (hst : Cond.static arraycopyName ∈ lw_tbl) (hini : Cond.initialized "java/lang/System" ∈ lw_tbl) (hdp : 1 ≤ Y.2.2.2.2.1) (hd : decode Y.2.1 pc = .ok (.invokestatic index, 3)) (hn : pc + 3 = nx) : jS Y Φ pc (ji_copyi nx) := by
  intro k hk lv st h a b hi
  unfold ji_copyi at hi
  split at hi
  · rename_i r1 _ r0 st
    obtain ⟨n0, f, n1, f1, sp, dp, n, hr0, hr1, rfl, rfl, rfl, hb0, hb1, hcs, hi⟩ := hi
    intro p l e s m args below meth c g hc H locs ls hP hS hL
    subst hn
    obtain ⟨q0, rfl, hq0, hty, hN0⟩ := hP.row (fun z => by cases z) (fun z => by cases z) hr0
    obtain ⟨q1, rfl, hq1, -, hN1⟩ := hP.row (fun z => by cases z) (fun z => by cases z) hr1
    have hK := hc.2.2.2.2.2.2.2
    have hat0 : H[g.1.1 + q0]? = some (arrV (g.2.2.2 .int) n0 (fun j => .int (f j))) := hP.2.2.2.1 q0 _ (jws_at hq0)
    have hat1 : H[g.1.1 + q1]? = some (arrV (g.2.2.2 .int) n1 (fun j => .int (f1 j))) := hP.2.2.2.1 q1 _ (jws_at hq1)
    obtain ⟨-, k0, hk0, cm0, hkk0⟩ := (hK.arrOf hty).1 n0 (fun _ => .null)
    have en : (nI n).toNatClampNeg = n := nI_clamp (by omega)
    have es : (nI sp).toNatClampNeg = sp := nI_clamp (by omega)
    have ed : (nI dp).toNatClampNeg = dp := nI_clamp (by omega)
    have ecp : copied (arrV (g.2.2.2 .int) n0 (fun j => .int (f j))) (arrV (g.2.2.2 .int) n1 (fun j => .int (f1 j))) (nI sp) (nI dp) (nI n) = arrV (g.2.2.2 .int) n1 (fun j => .int ((va_cpy f f1 sp dp n) j)) := by
      have := va_copied Value.int (g.2.2.2 .int) (g.2.2.2 .int) (n1 := n1) (dp := dp) f f1 hb0
      unfold copied
      rw [en, es, ed]
      rw [this]
      done
    have hl1 : g.1.1 + q1 < H.size := (Array.getElem?_eq_some_iff.mp hat1).1
    refine W.of (H' := H.setIfInBounds (g.1.1 + q1) (arrV (g.2.2.2 .int) n1 (fun j => .int ((va_cpy f f1 sp dp n) j)))) (locs' := locs ++ ((arrV (g.2.2.2 .int) n0 (fun j => .int (f j)) : Cell).stretch sp n).zipIdx.map fun q => ⟨g.1.1 + q1, dp + q.2⟩) (cells' := a) (slots' := b) (g2 := F0 m (pc + 3) ls (st.map (jtr g))) (fun T hT X => ?_) ?_
    · obtain ⟨vm', X', stp⟩ := X.arraycopy hc.1 hc.2.2.2.1 (hK.word hl rfl rfl) (hK.word hnat rfl rfl) (hK.word hst rfl rfl) (hK.word hini rfl rfl) (src := g.1.1 + q0) (dst := g.1.1 + q1) (cs := arrV (g.2.2.2 .int) n0 (fun j => .int (f j))) (cd := arrV (g.2.2.2 .int) n1 (fun j => .int (f1 j))) (srcPos := nI sp) (destPos := nI dp) (n := nI n) (by rw [hT]; exact hat0) (by rw [hT]; exact hat1) (fun _ h => by cases h) (fun _ h => by cases h) (fun h => by cases h) (fun h => by cases h) hk0 hk0 hkk0 hkk0 (by simp) (nI_pos (by omega)) (nI_pos (by omega)) (nI_pos (by omega))
        (by rw [arrV_size, nI_toInt (by omega), nI_toInt (by omega)]; omega) (by rw [arrV_size, nI_toInt (by omega), nI_toInt (by omega)]; omega)
        (fun vm₁ hvm i hi => by
          rw [en] at hi
          rw [es]
          have eg : (arrV (g.2.2.2 .int) n0 (fun j => .int (f j)) : Cell).slots.getD (sp + i) .null = .int (f (sp + i)) := by
            rw [Array.getD_eq_getD_getElem?, arrV_read _ _ (by omega)]; rfl
          rw [eg]
          exact ⟨rfl, trivial⟩)
        (g := F0 m pc ls (.int (nI n) :: .int (nI dp) :: .ref (g.1.1 + q1) :: .int (nI sp) :: .ref (g.1.1 + q0) :: st.map (jtr g))) rfl (by rw [hc.2.2.1]; exact hL.1) (rest := st.map (jtr g)) rfl (by rw [hc.2.1]; exact hd) hdp (by
          have hw : nativeFrameWords "java/lang/System" "arraycopy" 5 ≤ 20 := by decide
          show 2 * 0 + ((st.map (jtr g)).map fun v => v.category).sum + _ ≤ 48 * Y.2.2.2.2.1
          rw [jcs_sum]
          have h9 : jcs st ≤ 4 := hcs
          omega)
      rw [ecp, en, es, ed] at X'
      rw [ecp] at stp
      exact ⟨_, by rw [← hT]; rfl, X', stp⟩
    · have oq : ∀ q : Nat, q ≠ g.1.1 + q1 → (H.setIfInBounds (g.1.1 + q1) (arrV (g.2.2.2 .int) n1 (fun j => .int ((va_cpy f f1 sp dp n) j))))[q]? = H[q]? := fun q hq => by simp [Array.getElem?_setIfInBounds, Ne.symm hq]
      refine hk _ _ _ _ _ _ hi p l e s m args below meth c g hc _ _ ls (hP.upd hq1 (by simp) oq (show (H.setIfInBounds (g.1.1 + q1) _)[g.1.1 + q1]? = some _ by simp [Array.getElem?_setIfInBounds, hl1]; rfl) ⟨hty, hN1⟩) ⟨by simp; exact hS.1, fun q g1 g2 => by rw [oq q (fun e => g2 (by rw [e]; exact Nat.le_add_right _ _))]; exact hS.2.1 q g1 g2, fun q hq => ?_⟩ hL
      rcases List.mem_append.mp hq with h | h
      · exact hS.2.2 q h
      · obtain ⟨z, -, hz⟩ := List.mem_map.mp h
        rw [← hz]
        exact Nat.le_add_right _ _
  · exact hi.elim
def ji_copyo (nx : Nat) : jI := fun k lv st h a b => match st with
  | .int n' :: .int dp' :: .ref r1 :: .int sp' :: .ref r0 :: st => ∃ n0 f n1 f1 sp dp n, h[r0]? = some (.inl (.object "java/lang/Object", n0, .inr (.inr (.inr (.inr f))))) ∧ h[r1]? = some (.inl (.object "java/lang/Object", n1, .inr (.inr (.inr (.inr f1))))) ∧ 0 < n0 ∧ 0 < n1 ∧ n' = nI n ∧ dp' = nI dp ∧ sp' = nI sp ∧ sp + n ≤ n0 ∧ dp + n ≤ n1 ∧ (∀ i, i < n → ∀ y, f (sp + i) = some y → ∃ ci vs, h[y]? = some (.inr (ci, vs)) ∧ jcst ci "java/lang/Object" = true) ∧ Nat.le (jcs st) 4 ∧ k nx lv st (h.set r1 (.inl (.object "java/lang/Object", n1, .inr (.inr (.inr (.inr (va_cpy f f1 sp dp n))))))) a b
  | _ => False
theorem jS_copyo {index : Nat} (hl : Cond.methodLink Y.1.cls index arraycopyName ∈ lw_tbl) (hnat : Cond.native arraycopyName ∈ lw_tbl) (hst : Cond.static arraycopyName ∈ lw_tbl) (hini : Cond.initialized "java/lang/System" ∈ lw_tbl) (hdp : 1 ≤ Y.2.2.2.2.1) (hd : decode Y.2.1 pc = .ok (.invokestatic index, 3)) (hn : pc + 3 = nx) : jS Y Φ pc (ji_copyo nx) := by
  intro k hk lv st h a b hi
  unfold ji_copyo at hi
  split at hi
  · rename_i r1 _ r0 st
    obtain ⟨n0, f, n1, f1, sp, dp, n, hr0, hr1, hp0, hp1, rfl, rfl, rfl, hb0, hb1, hel, hcs, hi⟩ := hi
    intro p l e s m args below meth c g hc H locs ls hP hS hL
    subst hn
    obtain ⟨q0, rfl, hq0, hty, hN0⟩ := hP.arr (by omega) (fun z => by cases z) hr0
    obtain ⟨q1, rfl, hq1, -, hN1⟩ := hP.arr (by omega) (fun z => by cases z) hr1
    have hK := hc.2.2.2.2.2.2.2
    have hat0 : H[g.1.1 + q0]? = some (arrV (g.2.2.2 (.object "java/lang/Object")) n0 (fun j => va_rf ((f j).map (jad g)))) := hP.2.2.2.1 q0 _ (jws_at hq0)
    have hat1 : H[g.1.1 + q1]? = some (arrV (g.2.2.2 (.object "java/lang/Object")) n1 (fun j => va_rf ((f1 j).map (jad g)))) := hP.2.2.2.1 q1 _ (jws_at hq1)
    obtain ⟨-, k0, hk0, cm0, hkk0⟩ := (hK.arrOf hty).1 n0 (fun _ => .null)
    have en : (nI n).toNatClampNeg = n := nI_clamp (by omega)
    have es : (nI sp).toNatClampNeg = sp := nI_clamp (by omega)
    have ed : (nI dp).toNatClampNeg = dp := nI_clamp (by omega)
    have ecp : copied (arrV (g.2.2.2 (.object "java/lang/Object")) n0 (fun j => va_rf ((f j).map (jad g)))) (arrV (g.2.2.2 (.object "java/lang/Object")) n1 (fun j => va_rf ((f1 j).map (jad g)))) (nI sp) (nI dp) (nI n) = arrV (g.2.2.2 (.object "java/lang/Object")) n1 (fun j => va_rf (((va_cpy f f1 sp dp n) j).map (jad g))) := by
      have := va_copied (fun x => va_rf x) (g.2.2.2 (.object "java/lang/Object")) (g.2.2.2 (.object "java/lang/Object")) (n1 := n1) (dp := dp) (fun j => (f j).map (jad g)) (fun j => (f1 j).map (jad g)) hb0
      unfold copied
      rw [en, es, ed]
      rw [this]
      congr 1; funext j; simp only [va_cpy]; split <;> rfl
    have hl1 : g.1.1 + q1 < H.size := (Array.getElem?_eq_some_iff.mp hat1).1
    refine W.of (H' := H.setIfInBounds (g.1.1 + q1) (arrV (g.2.2.2 (.object "java/lang/Object")) n1 (fun j => va_rf (((va_cpy f f1 sp dp n) j).map (jad g))))) (locs' := locs ++ ((arrV (g.2.2.2 (.object "java/lang/Object")) n0 (fun j => va_rf ((f j).map (jad g))) : Cell).stretch sp n).zipIdx.map fun q => ⟨g.1.1 + q1, dp + q.2⟩) (cells' := a) (slots' := b) (g2 := F0 m (pc + 3) ls (st.map (jtr g))) (fun T hT X => ?_) ?_
    · obtain ⟨vm', X', stp⟩ := X.arraycopy hc.1 hc.2.2.2.1 (hK.word hl rfl rfl) (hK.word hnat rfl rfl) (hK.word hst rfl rfl) (hK.word hini rfl rfl) (src := g.1.1 + q0) (dst := g.1.1 + q1) (cs := arrV (g.2.2.2 (.object "java/lang/Object")) n0 (fun j => va_rf ((f j).map (jad g)))) (cd := arrV (g.2.2.2 (.object "java/lang/Object")) n1 (fun j => va_rf ((f1 j).map (jad g)))) (srcPos := nI sp) (destPos := nI dp) (n := nI n) (by rw [hT]; exact hat0) (by rw [hT]; exact hat1) (fun _ h => by cases h) (fun _ h => by cases h) (fun h => by cases h) (fun h => by cases h) hk0 hk0 hkk0 hkk0 (by simp) (nI_pos (by omega)) (nI_pos (by omega)) (nI_pos (by omega))
        (by rw [arrV_size, nI_toInt (by omega), nI_toInt (by omega)]; omega) (by rw [arrV_size, nI_toInt (by omega), nI_toInt (by omega)]; omega)
        (fun vm₁ hvm i hi => by
          rw [en] at hi
          rw [es]
          have eg : (arrV (g.2.2.2 (.object "java/lang/Object")) n0 (fun j => va_rf ((f j).map (jad g))) : Cell).slots.getD (sp + i) .null = va_rf ((f (sp + i)).map (jad g)) := by
            rw [Array.getD_eq_getD_getElem?, arrV_read _ _ (by omega)]; rfl
          rw [eg]
          refine ⟨by cases f (sp + i) <;> rfl, ?_⟩
          cases hfy : f (sp + i) with
          | none => trivial
          | some y =>
            obtain ⟨ci, vs, hy, hcs⟩ := hel i hi y hfy
            obtain ⟨qy, rfl, hqy⟩ := hP.obj hy
            obtain ⟨rc, hrc⟩ := hP.cl hqy
            obtain ⟨cell, c1, c2, c3⟩ := va_recv hK.2.1 hP.2.2.2.1 hrc (jws_at hqy)
            obtain ⟨kC, hkC, -⟩ := Vm.findClass_spec c3
            obtain ⟨kA, comp, r1, r2, r3, -⟩ := (hK.arrOf hty).2
            cases hk0.symm.trans r1
            cases hkk0.symm.trans r2
            obtain ⟨kE, hkE, -⟩ := Vm.findClass_spec r3
            obtain ⟨kC', hkC', -⟩ := hvm.2.2 _ _ hkC
            obtain ⟨kE', hkE', -⟩ := hvm.2.2 _ _ hkE
            have hasg : s.vm.assignable cell.cls cm0 = true := by
              rcases jcst_ok hK hcs hrc with e | e
              · rw [e] at c3
                cases c3.symm.trans r3
                exact va_asg _ _
              · obtain ⟨c0, t0, f1, f2, f3⟩ := Cond.castable_spec (va_Nw.use (A := args) rfl e)
                cases c3.symm.trans f1
                cases r3.symm.trans f2
                exact f3
            refine ⟨cell, (show T.heap[g.1.1 + qy]? = some cell by rw [hT]; exact c1), (fun q h => by rw [h] at c2; cases c2), ⟨kC', hkC'⟩, ⟨kE', hkE'⟩, ?_⟩
            show vm₁.assignable _ _ = true
            rw [hvm.assignable]
            exact hasg)
        (g := F0 m pc ls (.int (nI n) :: .int (nI dp) :: .ref (g.1.1 + q1) :: .int (nI sp) :: .ref (g.1.1 + q0) :: st.map (jtr g))) rfl (by rw [hc.2.2.1]; exact hL.1) (rest := st.map (jtr g)) rfl (by rw [hc.2.1]; exact hd) hdp (by
          have hw : nativeFrameWords "java/lang/System" "arraycopy" 5 ≤ 20 := by decide
          show 2 * 0 + ((st.map (jtr g)).map fun v => v.category).sum + _ ≤ 48 * Y.2.2.2.2.1
          rw [jcs_sum]
          have h9 : jcs st ≤ 4 := hcs
          omega)
      rw [ecp, en, es, ed] at X'
      rw [ecp] at stp
      exact ⟨_, by rw [← hT]; rfl, X', stp⟩
    · have oq : ∀ q : Nat, q ≠ g.1.1 + q1 → (H.setIfInBounds (g.1.1 + q1) (arrV (g.2.2.2 (.object "java/lang/Object")) n1 (fun j => va_rf (((va_cpy f f1 sp dp n) j).map (jad g)))))[q]? = H[q]? := fun q hq => by simp [Array.getElem?_setIfInBounds, Ne.symm hq]
      refine hk _ _ _ _ _ _ hi p l e s m args below meth c g hc _ _ ls (hP.upd hq1 (by simp) oq (show (H.setIfInBounds (g.1.1 + q1) _)[g.1.1 + q1]? = some _ by simp [Array.getElem?_setIfInBounds, hl1]; rfl) ⟨hty, hN1⟩) ⟨by simp; exact hS.1, fun q g1 g2 => by rw [oq q (fun e => g2 (by rw [e]; exact Nat.le_add_right _ _))]; exact hS.2.1 q g1 g2, fun q hq => ?_⟩ hL
      rcases List.mem_append.mp hq with h | h
      · exact hS.2.2 q h
      · obtain ⟨z, -, hz⟩ := List.mem_map.mp h
        rw [← hz]
        exact Nat.le_add_right _ _
  · exact hi.elim
def ji_f2bits (nx : Nat) : jI := fun k lv st h a b => match st with
  | .float x :: st => Nat.le (jcs st) 8 ∧ k nx lv (.int x.toInt32 :: st) h a b
  | _ => False
theorem jS_f2bits {index : Nat} (hl : Cond.methodLink Y.1.cls index ⟨"java/lang/Float", "floatToRawIntBits", "(F)I"⟩ ∈ lw_tbl) (hnat : Cond.native ⟨"java/lang/Float", "floatToRawIntBits", "(F)I"⟩ ∈ lw_tbl) (hst : Cond.static ⟨"java/lang/Float", "floatToRawIntBits", "(F)I"⟩ ∈ lw_tbl) (hini : Cond.initialized "java/lang/Float" ∈ lw_tbl) (hdp : 1 ≤ Y.2.2.2.2.1) (hd : decode Y.2.1 pc = .ok (.invokestatic index, 3)) (hn : pc + 3 = nx) : jS Y Φ pc (ji_f2bits nx) := by
  intro k hk lv st h a b hi
  unfold ji_f2bits at hi
  split at hi
  · obtain ⟨hcs, hi⟩ := hi
    intro p l e s m args below meth c g hc H locs ls hP hS hL
    subst hn
    have hK := hc.2.2.2.2.2.2.2
    exact vn_f2i hc.1 hc.2.1 (hc.2.2.1.trans hL.1.symm) hc.2.2.2.1 (hK.word hl rfl rfl) (hK.word hnat rfl rfl) (hK.word hst rfl rfl) (hK.word hini rfl rfl) hdp (by rw [jcs_sum]; show _ ≤ 48 * Y.2.2.2.2.1; have h9 : jcs _ ≤ 8 := hcs; omega) hd (hk _ _ _ _ _ _ hi p l e s m args below meth c g hc H locs ls hP hS hL)
  · exact hi.elim
def ji_bits2f (nx : Nat) : jI := fun k lv st h a b => match st with
  | .int x :: st => Nat.le (jcs st) 8 ∧ vn_sni2f x = false ∧ k nx lv (.float x.toUInt32 :: st) h a b
  | _ => False
theorem jS_bits2f {index : Nat} (hl : Cond.methodLink Y.1.cls index ⟨"java/lang/Float", "intBitsToFloat", "(I)F"⟩ ∈ lw_tbl) (hnat : Cond.native ⟨"java/lang/Float", "intBitsToFloat", "(I)F"⟩ ∈ lw_tbl) (hst : Cond.static ⟨"java/lang/Float", "intBitsToFloat", "(I)F"⟩ ∈ lw_tbl) (hini : Cond.initialized "java/lang/Float" ∈ lw_tbl) (hdp : 1 ≤ Y.2.2.2.2.1) (hd : decode Y.2.1 pc = .ok (.invokestatic index, 3)) (hn : pc + 3 = nx) : jS Y Φ pc (ji_bits2f nx) := by
  intro k hk lv st h a b hi
  unfold ji_bits2f at hi
  split at hi
  · obtain ⟨hcs, hv, hi⟩ := hi
    intro p l e s m args below meth c g hc H locs ls hP hS hL
    subst hn
    have hK := hc.2.2.2.2.2.2.2
    exact vn_i2f hc.1 hc.2.1 (hc.2.2.1.trans hL.1.symm) hc.2.2.2.1 (hK.word hl rfl rfl) (hK.word hnat rfl rfl) (hK.word hst rfl rfl) (hK.word hini rfl rfl) hv hdp (by rw [jcs_sum]; show _ ≤ 48 * Y.2.2.2.2.1; have h9 : jcs _ ≤ 8 := hcs; omega) hd (hk _ _ _ _ _ _ hi p l e s m args below meth c g hc H locs ls hP hS hL)
  · exact hi.elim
def ji_d2bits (nx : Nat) : jI := fun k lv st h a b => match st with
  | .double x :: st => Nat.le (jcs st) 8 ∧ k nx lv (.long x.toInt64 :: st) h a b
  | _ => False
theorem jS_d2bits {index : Nat} (hl : Cond.methodLink Y.1.cls index ⟨"java/lang/Double", "doubleToRawLongBits", "(D)J"⟩ ∈ lw_tbl) (hnat : Cond.native ⟨"java/lang/Double", "doubleToRawLongBits", "(D)J"⟩ ∈ lw_tbl) (hst : Cond.static ⟨"java/lang/Double", "doubleToRawLongBits", "(D)J"⟩ ∈ lw_tbl) (hini : Cond.initialized "java/lang/Double" ∈ lw_tbl) (hdp : 1 ≤ Y.2.2.2.2.1) (hd : decode Y.2.1 pc = .ok (.invokestatic index, 3)) (hn : pc + 3 = nx) : jS Y Φ pc (ji_d2bits nx) := by
  intro k hk lv st h a b hi
  unfold ji_d2bits at hi
  split at hi
  · obtain ⟨hcs, hi⟩ := hi
    intro p l e s m args below meth c g hc H locs ls hP hS hL
    subst hn
    have hK := hc.2.2.2.2.2.2.2
    exact vn_d2l hc.1 hc.2.1 (hc.2.2.1.trans hL.1.symm) hc.2.2.2.1 (hK.word hl rfl rfl) (hK.word hnat rfl rfl) (hK.word hst rfl rfl) (hK.word hini rfl rfl) hdp (by rw [jcs_sum]; show _ ≤ 48 * Y.2.2.2.2.1; have h9 : jcs _ ≤ 8 := hcs; omega) hd (hk _ _ _ _ _ _ hi p l e s m args below meth c g hc H locs ls hP hS hL)
  · exact hi.elim
def ji_objinit (nx : Nat) : jI := fun k lv st h a b => match st with
  | .ref _ :: st => cond (Nat.ble (jcs st) 8) (k nx lv st h a b) False
  | _ => False
theorem jS_objinit {index : Nat} (hl : Cond.methodLink Y.1.cls index objectInit ∈ lw_tbl) (hin : Cond.instanceMethod objectInit ∈ lw_tbl) (hcode : Cond.code objectInit ⟨#[0xb1]⟩ 1 none ∈ lw_tbl) (hdp : 1 ≤ Y.2.2.2.2.1) (hd : decode Y.2.1 pc = .ok (.invokespecial index, 3)) (hn : pc + 3 = nx) : jS Y Φ pc (ji_objinit nx) := by
  intro k hk lv st h a b hi
  unfold ji_objinit at hi
  split at hi
  · obtain ⟨hcs, hi⟩ := jb1 hi
    intro p l e s m args below meth c g hc H locs ls hP hS hL
    subst hn
    have hK := hc.2.2.2.2.2.2.2
    have h9 := Nat.le_of_ble_eq_true hcs
    refine W.objInit hc.1 hc.2.1 hc.2.2.2.1 (hK.word hl rfl rfl) (hK.word hin rfl rfl) (hK.word hcode rfl rfl) rfl (by rw [hc.2.2.1]; exact hL.1) rfl hd hdp ?_ (hk _ _ _ _ _ _ hi p l e s m args below meth c g hc H locs ls hP hS hL)
    show 2 * 0 + _ + 12 ≤ 48 * Y.2.2.2.2.1
    rw [jcs_sum]
    omega
  · exact hi.elim
end jsound
end
section
/-! programs by table: each instruction with the row that says that the machine does so; printed by wip/whole/genp.py -/
theorem jmem {w : Cond} (i : Nat) (h : lw_tbl[i]? = some w) : w ∈ lw_tbl := List.mem_of_getElem? h
theorem jz_int : ∀ (g : jg) (N : Nat) (cA : ClassId), va_at g.2.2.1 vwCl = va_at g.2.2.1 vwCl ∧ ∀ q (H : Heap), H[q]? = some (arrV (g.2.2.2 .int) N (fun _ => defaultValue .int)) → va_at g.2.2.1 vwCl (q, jE g (.inl (.int, N, .inl (fun _ => nI 0)))) H := fun _ _ _ => ⟨rfl, fun _ _ h => h⟩
theorem jz_boolean : ∀ (g : jg) (N : Nat) (cA : ClassId), va_at g.2.2.1 vwCl = va_at g.2.2.1 vwCl ∧ ∀ q (H : Heap), H[q]? = some (arrV (g.2.2.2 .boolean) N (fun _ => defaultValue .boolean)) → va_at g.2.2.1 vwCl (q, jE g (.inl (.boolean, N, .inl (fun _ => nI 0)))) H := fun _ _ _ => ⟨rfl, fun _ _ h => h⟩
theorem jz_long : ∀ (g : jg) (N : Nat) (cA : ClassId), va_at g.2.2.1 vwCl = va_at g.2.2.1 vwCl ∧ ∀ q (H : Heap), H[q]? = some (arrV (g.2.2.2 .long) N (fun _ => defaultValue .long)) → va_at g.2.2.1 vwCl (q, jE g (.inl (.long, N, .inr (.inl (fun _ => 0))))) H := fun _ _ _ => ⟨rfl, fun _ _ h => h⟩
theorem jz_float : ∀ (g : jg) (N : Nat) (cA : ClassId), va_at g.2.2.1 vwCl = va_at g.2.2.1 vwCl ∧ ∀ q (H : Heap), H[q]? = some (arrV (g.2.2.2 .float) N (fun _ => defaultValue .float)) → va_at g.2.2.1 vwCl (q, jE g (.inl (.float, N, .inr (.inr (.inl (fun _ => 0)))))) H := fun _ _ _ => ⟨rfl, fun _ _ h => h⟩
theorem jdf0 : ∀ j, j < 3 → defaultValue (tyJx4a65c j) = vp_V [.int (nI 0), .null, .int (nI 0)] j := by decide +kernel
theorem jdf1 : ∀ j, j < 4 → defaultValue (tyX1 j) = vp_V [.null, .null, .null, .null] j := by decide +kernel
theorem jdf2 : ∀ j, j < 2 → defaultValue (tyX3 j) = vp_V [.int (nI 0), .int (nI 0)] j := by decide +kernel
theorem jdf3 : ∀ j, j < 3 → defaultValue (tyX4 j) = vp_V [.int (nI 0), .null, .null] j := by decide +kernel
theorem jdf4 : ∀ j, j < 5 → defaultValue (tyX5 j) = vp_V [.null, .int (nI 0), .null, .int (nI 0), .int (nI 0)] j := by decide +kernel
theorem jdf5 : ∀ j, j < 1 → defaultValue (tyX6 j) = vp_V [.null] j := by decide +kernel
theorem jdf6 : ∀ j, j < 2 → defaultValue (tyX7 j) = vp_V [.int (nI 0), .null] j := by decide +kernel
theorem jdf7 : ∀ j, j < 2 → defaultValue (tyX8 j) = vp_V [.int (nI 0), .null] j := by decide +kernel
theorem jdf8 : ∀ j, j < 4 → defaultValue (tyX9 j) = vp_V [.int (nI 0), .int (nI 0), .int (nI 0), .int (nI 0)] j := by decide +kernel
theorem jdf9 : ∀ j, j < 3 → defaultValue (tyX10 j) = vp_V [.int (nI 0), .int (nI 0), .null] j := by decide +kernel
theorem jdf10 : ∀ j, j < 10 → defaultValue (tyX11 j) = vp_V [.null, .null, .null, .null, .null, .null, .int (nI 0), .null, .null, .null] j := by decide +kernel
theorem jdf11 : ∀ j, j < 42 → defaultValue (tyX12 j) = vp_V [.int (nI 0), .null, .null, .int (nI 0), .null, .null, .null, .null, .null, .null, .int (nI 0), .null, .int (nI 0), .null, .null, .int (nI 0), .null, .null, .null, .null, .null, .null, .null, .null, .null, .null, .int (nI 0), .int (nI 0), .int (nI 0), .int (nI 0), .null, .null, .null, .null, .null, .null, .int (nI 0), .null, .null, .null, .null, .null] j := by decide +kernel
def jy_X0_howMany : jY := (yX0_howMany, cX0_howMany, 1, some .int, 1, 0, 0)
theorem jok_X0_howMany : jYok jy_X0_howMany 1 := ⟨(jmem 179 (by decide +kernel)), (jmem 62 (by decide +kernel)), ⟨by decide +kernel, by decide +kernel⟩, by decide +kernel⟩
def jp_X0_howMany (Φ : jPost) : Nat → jI := (jN 9 (jN 2 (jN 1 (jlf 0 (ji_iload 0 1)) (jlf 1 (ji_push (.int (nI 1)) 2))) (jN 5 (jlf 2 (ji_icmpge 9 5)) (jN 6 (jlf 5 (ji_push (.int (nI 1)) 6)) (jlf 6 (ji_goto 14))))) (jN 12 (jN 10 (jlf 9 (ji_push (.int (nI 1)) 10)) (jN 11 (jlf 10 (ji_iload 0 11)) (jlf 11 (ji_push (.int (nI 1)) 12)))) (jN 13 (jlf 12 (ji_isub 13)) (jN 14 (jlf 13 (ji_ishl 14)) (jlf 14 (ji_iret Φ 0 0))))))
set_option maxRecDepth 20000 in
theorem js_X0_howMany (Φ : jPost) : ∀ pc, jS jy_X0_howMany Φ pc (jp_X0_howMany Φ pc) := (jSN (jSN (jSN (jSl (jS_iloadn (q := 0) rfl (by decide +kernel) rfl)) (jSl (jS_iconst (n := 1) (v := (nI 1)) (by decide +kernel) (by decide +kernel) rfl))) (jSN (jSl (jS_icmpge (off := 7) (by decide +kernel) (by decide) rfl)) (jSN (jSl (jS_iconst (n := 1) (v := (nI 1)) (by decide +kernel) (by decide +kernel) rfl)) (jSl (jS_goto (off := 8) (by decide +kernel) (by decide)))))) (jSN (jSN (jSl (jS_iconst (n := 1) (v := (nI 1)) (by decide +kernel) (by decide +kernel) rfl)) (jSN (jSl (jS_iloadn (q := 0) rfl (by decide +kernel) rfl)) (jSl (jS_iconst (n := 1) (v := (nI 1)) (by decide +kernel) (by decide +kernel) rfl)))) (jSN (jSl (jS_isub (by decide +kernel) rfl)) (jSN (jSl (jS_ishl (by decide +kernel) rfl)) (jSl (jS_iret rfl (by decide +kernel)))))))
def jy_J6_bitCount_0f7a4 : jY := (yJ6_bitCount_0f7a4, cJ6_bitCount_0f7a4, 1, some .int, 1, 0, 0)
theorem jok_J6_bitCount_0f7a4 : jYok jy_J6_bitCount_0f7a4 1 := ⟨(jmem 433 (by decide +kernel)), (jmem 73 (by decide +kernel)), ⟨by decide +kernel, by decide +kernel⟩, by decide +kernel⟩
def jp_J6_bitCount_0f7a4 (Φ : jPost) : Nat → jI := (jN 27 (jN 14 (jN 7 (jN 2 (jN 1 (jlf 0 (ji_iload 0 1)) (jlf 1 (ji_iload 0 2))) (jN 3 (jlf 2 (ji_push (.int (nI 1)) 3)) (jN 4 (jlf 3 (ji_iushr 4)) (jlf 4 (ji_push (.int (nI 1431655765)) 7))))) (jN 9 (jN 8 (jlf 7 (ji_iand 8)) (jlf 8 (ji_isub 9))) (jN 10 (jlf 9 (ji_istore 0 10)) (jN 11 (jlf 10 (ji_iload 0 11)) (jlf 11 (ji_push (.int (nI 858993459)) 14)))))) (jN 21 (jN 16 (jN 15 (jlf 14 (ji_iand 15)) (jlf 15 (ji_iload 0 16))) (jN 17 (jlf 16 (ji_push (.int (nI 2)) 17)) (jN 18 (jlf 17 (ji_iushr 18)) (jlf 18 (ji_push (.int (nI 858993459)) 21))))) (jN 24 (jN 22 (jlf 21 (ji_iand 22)) (jN 23 (jlf 22 (ji_iadd 23)) (jlf 23 (ji_istore 0 24)))) (jN 25 (jlf 24 (ji_iload 0 25)) (jN 26 (jlf 25 (ji_iload 0 26)) (jlf 26 (ji_push (.int (nI 4)) 27))))))) (jN 40 (jN 34 (jN 29 (jN 28 (jlf 27 (ji_iushr 28)) (jlf 28 (ji_iadd 29))) (jN 32 (jlf 29 (ji_push (.int (nI 252645135)) 32)) (jN 33 (jlf 32 (ji_iand 33)) (jlf 33 (ji_istore 0 34))))) (jN 36 (jN 35 (jlf 34 (ji_iload 0 35)) (jlf 35 (ji_iload 0 36))) (jN 38 (jlf 36 (ji_push (.int (nI 8)) 38)) (jN 39 (jlf 38 (ji_iushr 39)) (jlf 39 (ji_iadd 40)))))) (jN 46 (jN 42 (jN 41 (jlf 40 (ji_istore 0 41)) (jlf 41 (ji_iload 0 42))) (jN 43 (jlf 42 (ji_iload 0 43)) (jN 45 (jlf 43 (ji_push (.int (nI 16)) 45)) (jlf 45 (ji_iushr 46))))) (jN 49 (jN 47 (jlf 46 (ji_iadd 47)) (jN 48 (jlf 47 (ji_istore 0 48)) (jlf 48 (ji_iload 0 49)))) (jN 51 (jlf 49 (ji_push (.int (nI 63)) 51)) (jN 52 (jlf 51 (ji_iand 52)) (jlf 52 (ji_iret Φ 0 0))))))))
set_option maxRecDepth 20000 in
theorem js_J6_bitCount_0f7a4 (Φ : jPost) : ∀ pc, jS jy_J6_bitCount_0f7a4 Φ pc (jp_J6_bitCount_0f7a4 Φ pc) := (jSN (jSN (jSN (jSN (jSN (jSl (jS_iloadn (q := 0) rfl (by decide +kernel) rfl)) (jSl (jS_iloadn (q := 0) rfl (by decide +kernel) rfl))) (jSN (jSl (jS_iconst (n := 1) (v := (nI 1)) (by decide +kernel) (by decide +kernel) rfl)) (jSN (jSl (jS_iushr (by decide +kernel) rfl)) (jSl (jS_ldcwi (index := 265) (v := nI 1431655765) (jmem 434 (by decide +kernel)) (by decide +kernel) rfl))))) (jSN (jSN (jSl (jS_iand (by decide +kernel) rfl)) (jSl (jS_isub (by decide +kernel) rfl))) (jSN (jSl (jS_istoren (q := 0) rfl (by decide +kernel) rfl (by decide))) (jSN (jSl (jS_iloadn (q := 0) rfl (by decide +kernel) rfl)) (jSl (jS_ldcwi (index := 266) (v := nI 858993459) (jmem 435 (by decide +kernel)) (by decide +kernel) rfl)))))) (jSN (jSN (jSN (jSl (jS_iand (by decide +kernel) rfl)) (jSl (jS_iloadn (q := 0) rfl (by decide +kernel) rfl))) (jSN (jSl (jS_iconst (n := 2) (v := (nI 2)) (by decide +kernel) (by decide +kernel) rfl)) (jSN (jSl (jS_iushr (by decide +kernel) rfl)) (jSl (jS_ldcwi (index := 266) (v := nI 858993459) (jmem 435 (by decide +kernel)) (by decide +kernel) rfl))))) (jSN (jSN (jSl (jS_iand (by decide +kernel) rfl)) (jSN (jSl (jS_iadd (by decide +kernel) rfl)) (jSl (jS_istoren (q := 0) rfl (by decide +kernel) rfl (by decide))))) (jSN (jSl (jS_iloadn (q := 0) rfl (by decide +kernel) rfl)) (jSN (jSl (jS_iloadn (q := 0) rfl (by decide +kernel) rfl)) (jSl (jS_iconst (n := 4) (v := (nI 4)) (by decide +kernel) (by decide +kernel) rfl))))))) (jSN (jSN (jSN (jSN (jSl (jS_iushr (by decide +kernel) rfl)) (jSl (jS_iadd (by decide +kernel) rfl))) (jSN (jSl (jS_ldcwi (index := 267) (v := nI 252645135) (jmem 436 (by decide +kernel)) (by decide +kernel) rfl)) (jSN (jSl (jS_iand (by decide +kernel) rfl)) (jSl (jS_istoren (q := 0) rfl (by decide +kernel) rfl (by decide)))))) (jSN (jSN (jSl (jS_iloadn (q := 0) rfl (by decide +kernel) rfl)) (jSl (jS_iloadn (q := 0) rfl (by decide +kernel) rfl))) (jSN (jSl (jS_bipush (n := 8) (v := (nI 8)) (by decide +kernel) (by decide +kernel) rfl)) (jSN (jSl (jS_iushr (by decide +kernel) rfl)) (jSl (jS_iadd (by decide +kernel) rfl)))))) (jSN (jSN (jSN (jSl (jS_istoren (q := 0) rfl (by decide +kernel) rfl (by decide))) (jSl (jS_iloadn (q := 0) rfl (by decide +kernel) rfl))) (jSN (jSl (jS_iloadn (q := 0) rfl (by decide +kernel) rfl)) (jSN (jSl (jS_bipush (n := 16) (v := (nI 16)) (by decide +kernel) (by decide +kernel) rfl)) (jSl (jS_iushr (by decide +kernel) rfl))))) (jSN (jSN (jSl (jS_iadd (by decide +kernel) rfl)) (jSN (jSl (jS_istoren (q := 0) rfl (by decide +kernel) rfl (by decide))) (jSl (jS_iloadn (q := 0) rfl (by decide +kernel) rfl)))) (jSN (jSl (jS_bipush (n := 63) (v := (nI 63)) (by decide +kernel) (by decide +kernel) rfl)) (jSN (jSl (jS_iand (by decide +kernel) rfl)) (jSl (jS_iret rfl (by decide +kernel)))))))))
def jy_X0_lengthOf : jY := (yX0_lengthOf, cX0_lengthOf, 2, some .int, 2, 0, 0)
theorem jok_X0_lengthOf : jYok jy_X0_lengthOf 2 := ⟨(jmem 430 (by decide +kernel)), (jmem 62 (by decide +kernel)), ⟨by decide +kernel, by decide +kernel⟩, by decide +kernel⟩
def jp_X0_lengthOf (Φ : jPost) : Nat → jI := (jN 9 (jN 2 (jN 1 (jlf 0 (ji_iload 0 1)) (jlf 1 (ji_push (.int (nI 1)) 2))) (jN 5 (jlf 2 (ji_icmpge 9 5)) (jN 6 (jlf 5 (ji_push (.int (nI 0)) 6)) (jlf 6 (ji_goto 15))))) (jN 11 (jN 10 (jlf 9 (ji_push (.int (nI 1)) 10)) (jlf 10 (ji_iload 1 11))) (jN 14 (jlf 11 (ji_call jy_J6_bitCount_0f7a4 1 0 0 14)) (jN 15 (jlf 14 (ji_iadd 15)) (jlf 15 (ji_iret Φ 0 0))))))
set_option maxRecDepth 20000 in
theorem js_X0_lengthOf (Φ : jPost) : ∀ pc, jS jy_X0_lengthOf Φ pc (jp_X0_lengthOf Φ pc) := (jSN (jSN (jSN (jSl (jS_iloadn (q := 0) rfl (by decide +kernel) rfl)) (jSl (jS_iconst (n := 1) (v := (nI 1)) (by decide +kernel) (by decide +kernel) rfl))) (jSN (jSl (jS_icmpge (off := 7) (by decide +kernel) (by decide) rfl)) (jSN (jSl (jS_iconst (n := 0) (v := (nI 0)) (by decide +kernel) (by decide +kernel) rfl)) (jSl (jS_goto (off := 9) (by decide +kernel) (by decide)))))) (jSN (jSN (jSl (jS_iconst (n := 1) (v := (nI 1)) (by decide +kernel) (by decide +kernel) rfl)) (jSl (jS_iloadn (q := 1) rfl (by decide +kernel) rfl))) (jSN (jSl (jS_scall (index := 7) (Z := jy_J6_bitCount_0f7a4) jok_J6_bitCount_0f7a4 (jmem 432 (by decide +kernel)) (jmem 431 (by decide +kernel)) (by decide) (by decide) (by decide +kernel) rfl)) (jSN (jSl (jS_iadd (by decide +kernel) rfl)) (jSl (jS_iret rfl (by decide +kernel)))))))
def jy_X0_firstNumber : jY := (yX0_firstNumber, cX0_firstNumber, 3, some .int, 1, 0, 0)
theorem jok_X0_firstNumber : jYok jy_X0_firstNumber 2 := ⟨(jmem 465 (by decide +kernel)), (jmem 62 (by decide +kernel)), ⟨by decide +kernel, by decide +kernel⟩, by decide +kernel⟩
def jp_X0_firstNumber (Φ : jPost) : Nat → jI := (jN 12 (jN 7 (jN 2 (jN 1 (jlf 0 (ji_push (.int (nI 1)) 1)) (jlf 1 (ji_istore 2 2))) (jN 3 (jlf 2 (ji_iload 2 3)) (jN 4 (jlf 3 (ji_iload 0 4)) (jlf 4 (ji_icmpge 26 7))))) (jN 9 (jN 8 (jlf 7 (ji_iload 1 8)) (jlf 8 (ji_iload 2 9))) (jN 10 (jlf 9 (ji_push (.int (nI 1)) 10)) (jN 11 (jlf 10 (ji_isub 11)) (jlf 11 (ji_ishr 12)))))) (jN 19 (jN 14 (jN 13 (jlf 12 (ji_push (.int (nI 1)) 13)) (jlf 13 (ji_iand 14))) (jN 15 (jlf 14 (ji_push (.int (nI 1)) 15)) (jN 18 (jlf 15 (ji_icmpne 20 18)) (jlf 18 (ji_iload 2 19))))) (jN 23 (jN 20 (jlf 19 (ji_iret Φ 0 0)) (jlf 20 (ji_iinc 2 (nI 1) 23))) (jN 26 (jlf 23 (ji_goto 2)) (jN 27 (jlf 26 (ji_iload 0 27)) (jlf 27 (ji_iret Φ 0 0)))))))
set_option maxRecDepth 20000 in
theorem js_X0_firstNumber (Φ : jPost) : ∀ pc, jS jy_X0_firstNumber Φ pc (jp_X0_firstNumber Φ pc) := (jSN (jSN (jSN (jSN (jSl (jS_iconst (n := 1) (v := (nI 1)) (by decide +kernel) (by decide +kernel) rfl)) (jSl (jS_istoren (q := 2) rfl (by decide +kernel) rfl (by decide)))) (jSN (jSl (jS_iloadn (q := 2) rfl (by decide +kernel) rfl)) (jSN (jSl (jS_iloadn (q := 0) rfl (by decide +kernel) rfl)) (jSl (jS_icmpge (off := 22) (by decide +kernel) (by decide) rfl))))) (jSN (jSN (jSl (jS_iloadn (q := 1) rfl (by decide +kernel) rfl)) (jSl (jS_iloadn (q := 2) rfl (by decide +kernel) rfl))) (jSN (jSl (jS_iconst (n := 1) (v := (nI 1)) (by decide +kernel) (by decide +kernel) rfl)) (jSN (jSl (jS_isub (by decide +kernel) rfl)) (jSl (jS_ishr (by decide +kernel) rfl)))))) (jSN (jSN (jSN (jSl (jS_iconst (n := 1) (v := (nI 1)) (by decide +kernel) (by decide +kernel) rfl)) (jSl (jS_iand (by decide +kernel) rfl))) (jSN (jSl (jS_iconst (n := 1) (v := (nI 1)) (by decide +kernel) (by decide +kernel) rfl)) (jSN (jSl (jS_icmpne (off := 5) (by decide +kernel) (by decide) rfl)) (jSl (jS_iloadn (q := 2) rfl (by decide +kernel) rfl))))) (jSN (jSN (jSl (jS_iret rfl (by decide +kernel))) (jSl (jS_iinc (n := 1) (v := (nI 1)) (by decide +kernel) (by decide +kernel) rfl (by decide)))) (jSN (jSl (jS_goto (off := -21) (by decide +kernel) (by decide))) (jSN (jSl (jS_iloadn (q := 0) rfl (by decide +kernel) rfl)) (jSl (jS_iret rfl (by decide +kernel))))))))
def jy_X0_numberAt : jY := (yX0_numberAt, cX0_numberAt, 7, some .int, 2, 0, 0)
theorem jok_X0_numberAt : jYok jy_X0_numberAt 3 := ⟨(jmem 462 (by decide +kernel)), (jmem 62 (by decide +kernel)), ⟨by decide +kernel, by decide +kernel⟩, by decide +kernel⟩
def jp_X0_numberAt (Φ : jPost) : Nat → jI := (jN 22 (jN 8 (jN 3 (jN 1 (jlf 0 (ji_iload 0 1)) (jN 2 (jlf 1 (ji_istore 3 2)) (jlf 2 (ji_iload 1 3)))) (jN 5 (jlf 3 (ji_istore 4 5)) (jN 6 (jlf 5 (ji_push (.int (nI 0)) 6)) (jlf 6 (ji_istore 5 8))))) (jN 14 (jN 10 (jlf 8 (ji_iload 5 10)) (jN 11 (jlf 10 (ji_iload 2 11)) (jlf 11 (ji_icmpge 40 14)))) (jN 17 (jN 15 (jlf 14 (ji_iload 3 15)) (jlf 15 (ji_iload 4 17))) (jN 20 (jlf 17 (ji_call jy_X0_firstNumber 2 0 0 20)) (jlf 20 (ji_istore 6 22)))))) (jN 32 (jN 26 (jN 23 (jlf 22 (ji_iload 3 23)) (jN 25 (jlf 23 (ji_iload 6 25)) (jlf 25 (ji_isub 26)))) (jN 29 (jN 27 (jlf 26 (ji_istore 3 27)) (jlf 27 (ji_iload 4 29))) (jN 31 (jlf 29 (ji_iload 6 31)) (jlf 31 (ji_ishr 32))))) (jN 40 (jN 34 (jlf 32 (ji_istore 4 34)) (jN 37 (jlf 34 (ji_iinc 5 (nI 1) 37)) (jlf 37 (ji_goto 8)))) (jN 43 (jN 41 (jlf 40 (ji_iload 3 41)) (jlf 41 (ji_iload 4 43))) (jN 46 (jlf 43 (ji_call jy_X0_firstNumber 2 0 0 46)) (jlf 46 (ji_iret Φ 0 0)))))))
set_option maxRecDepth 20000 in
theorem js_X0_numberAt (Φ : jPost) : ∀ pc, jS jy_X0_numberAt Φ pc (jp_X0_numberAt Φ pc) := (jSN (jSN (jSN (jSN (jSl (jS_iloadn (q := 0) rfl (by decide +kernel) rfl)) (jSN (jSl (jS_istoren (q := 3) rfl (by decide +kernel) rfl (by decide))) (jSl (jS_iloadn (q := 1) rfl (by decide +kernel) rfl)))) (jSN (jSl (jS_istore (by decide +kernel) rfl (by decide))) (jSN (jSl (jS_iconst (n := 0) (v := (nI 0)) (by decide +kernel) (by decide +kernel) rfl)) (jSl (jS_istore (by decide +kernel) rfl (by decide)))))) (jSN (jSN (jSl (jS_iload (by decide +kernel) rfl)) (jSN (jSl (jS_iloadn (q := 2) rfl (by decide +kernel) rfl)) (jSl (jS_icmpge (off := 29) (by decide +kernel) (by decide) rfl)))) (jSN (jSN (jSl (jS_iloadn (q := 3) rfl (by decide +kernel) rfl)) (jSl (jS_iload (by decide +kernel) rfl))) (jSN (jSl (jS_scall (index := 13) (Z := jy_X0_firstNumber) jok_X0_firstNumber (jmem 464 (by decide +kernel)) (jmem 463 (by decide +kernel)) (by decide) (by decide) (by decide +kernel) rfl)) (jSl (jS_istore (by decide +kernel) rfl (by decide))))))) (jSN (jSN (jSN (jSl (jS_iloadn (q := 3) rfl (by decide +kernel) rfl)) (jSN (jSl (jS_iload (by decide +kernel) rfl)) (jSl (jS_isub (by decide +kernel) rfl)))) (jSN (jSN (jSl (jS_istoren (q := 3) rfl (by decide +kernel) rfl (by decide))) (jSl (jS_iload (by decide +kernel) rfl))) (jSN (jSl (jS_iload (by decide +kernel) rfl)) (jSl (jS_ishr (by decide +kernel) rfl))))) (jSN (jSN (jSl (jS_istore (by decide +kernel) rfl (by decide))) (jSN (jSl (jS_iinc (n := 1) (v := (nI 1)) (by decide +kernel) (by decide +kernel) rfl (by decide))) (jSl (jS_goto (off := -29) (by decide +kernel) (by decide))))) (jSN (jSN (jSl (jS_iloadn (q := 3) rfl (by decide +kernel) rfl)) (jSl (jS_iload (by decide +kernel) rfl))) (jSN (jSl (jS_scall (index := 13) (Z := jy_X0_firstNumber) jok_X0_firstNumber (jmem 464 (by decide +kernel)) (jmem 463 (by decide +kernel)) (by decide) (by decide) (by decide +kernel) rfl)) (jSl (jS_iret rfl (by decide +kernel))))))))
def jy_X0_turned : jY := (yX0_turned, cX0_turned, 4, some .int, 1, 0, 0)
theorem jok_X0_turned : jYok jy_X0_turned 2 := ⟨(jmem 468 (by decide +kernel)), (jmem 62 (by decide +kernel)), ⟨by decide +kernel, by decide +kernel⟩, by decide +kernel⟩
def jp_X0_turned (Φ : jPost) : Nat → jI := (jN 17 (jN 9 (jN 3 (jN 1 (jlf 0 (ji_push (.int (nI 0)) 1)) (jN 2 (jlf 1 (ji_istore 2 2)) (jlf 2 (ji_push (.int (nI 1)) 3)))) (jN 5 (jN 4 (jlf 3 (ji_istore 3 4)) (jlf 4 (ji_iload 3 5))) (jN 6 (jlf 5 (ji_iload 0 6)) (jlf 6 (ji_icmpge 36 9))))) (jN 13 (jN 11 (jN 10 (jlf 9 (ji_iload 1 10)) (jlf 10 (ji_iload 3 11))) (jN 12 (jlf 11 (ji_push (.int (nI 1)) 12)) (jlf 12 (ji_isub 13)))) (jN 15 (jN 14 (jlf 13 (ji_ishr 14)) (jlf 14 (ji_push (.int (nI 1)) 15))) (jN 16 (jlf 15 (ji_iand 16)) (jlf 16 (ji_push (.int (nI 1)) 17)))))) (jN 26 (jN 22 (jN 20 (jlf 17 (ji_icmpne 30 20)) (jN 21 (jlf 20 (ji_iload 2 21)) (jlf 21 (ji_push (.int (nI 1)) 22)))) (jN 24 (jN 23 (jlf 22 (ji_iload 0 23)) (jlf 23 (ji_iload 3 24))) (jN 25 (jlf 24 (ji_isub 25)) (jlf 25 (ji_push (.int (nI 1)) 26))))) (jN 30 (jN 28 (jN 27 (jlf 26 (ji_isub 27)) (jlf 27 (ji_ishl 28))) (jN 29 (jlf 28 (ji_ior 29)) (jlf 29 (ji_istore 2 30)))) (jN 36 (jN 33 (jlf 30 (ji_iinc 3 (nI 1) 33)) (jlf 33 (ji_goto 4))) (jN 37 (jlf 36 (ji_iload 2 37)) (jlf 37 (ji_iret Φ 0 0)))))))
set_option maxRecDepth 20000 in
theorem js_X0_turned (Φ : jPost) : ∀ pc, jS jy_X0_turned Φ pc (jp_X0_turned Φ pc) := (jSN (jSN (jSN (jSN (jSl (jS_iconst (n := 0) (v := (nI 0)) (by decide +kernel) (by decide +kernel) rfl)) (jSN (jSl (jS_istoren (q := 2) rfl (by decide +kernel) rfl (by decide))) (jSl (jS_iconst (n := 1) (v := (nI 1)) (by decide +kernel) (by decide +kernel) rfl)))) (jSN (jSN (jSl (jS_istoren (q := 3) rfl (by decide +kernel) rfl (by decide))) (jSl (jS_iloadn (q := 3) rfl (by decide +kernel) rfl))) (jSN (jSl (jS_iloadn (q := 0) rfl (by decide +kernel) rfl)) (jSl (jS_icmpge (off := 30) (by decide +kernel) (by decide) rfl))))) (jSN (jSN (jSN (jSl (jS_iloadn (q := 1) rfl (by decide +kernel) rfl)) (jSl (jS_iloadn (q := 3) rfl (by decide +kernel) rfl))) (jSN (jSl (jS_iconst (n := 1) (v := (nI 1)) (by decide +kernel) (by decide +kernel) rfl)) (jSl (jS_isub (by decide +kernel) rfl)))) (jSN (jSN (jSl (jS_ishr (by decide +kernel) rfl)) (jSl (jS_iconst (n := 1) (v := (nI 1)) (by decide +kernel) (by decide +kernel) rfl))) (jSN (jSl (jS_iand (by decide +kernel) rfl)) (jSl (jS_iconst (n := 1) (v := (nI 1)) (by decide +kernel) (by decide +kernel) rfl)))))) (jSN (jSN (jSN (jSl (jS_icmpne (off := 13) (by decide +kernel) (by decide) rfl)) (jSN (jSl (jS_iloadn (q := 2) rfl (by decide +kernel) rfl)) (jSl (jS_iconst (n := 1) (v := (nI 1)) (by decide +kernel) (by decide +kernel) rfl)))) (jSN (jSN (jSl (jS_iloadn (q := 0) rfl (by decide +kernel) rfl)) (jSl (jS_iloadn (q := 3) rfl (by decide +kernel) rfl))) (jSN (jSl (jS_isub (by decide +kernel) rfl)) (jSl (jS_iconst (n := 1) (v := (nI 1)) (by decide +kernel) (by decide +kernel) rfl))))) (jSN (jSN (jSN (jSl (jS_isub (by decide +kernel) rfl)) (jSl (jS_ishl (by decide +kernel) rfl))) (jSN (jSl (jS_ior (by decide +kernel) rfl)) (jSl (jS_istoren (q := 2) rfl (by decide +kernel) rfl (by decide))))) (jSN (jSN (jSl (jS_iinc (n := 1) (v := (nI 1)) (by decide +kernel) (by decide +kernel) rfl (by decide))) (jSl (jS_goto (off := -29) (by decide +kernel) (by decide)))) (jSN (jSl (jS_iloadn (q := 2) rfl (by decide +kernel) rfl)) (jSl (jS_iret rfl (by decide +kernel))))))))
def jy_X0_rest : jY := (yX0_rest, cX0_rest, 2, some .int, 2, 0, 0)
theorem jok_X0_rest : jYok jy_X0_rest 2 := ⟨(jmem 471 (by decide +kernel)), (jmem 62 (by decide +kernel)), ⟨by decide +kernel, by decide +kernel⟩, by decide +kernel⟩
def jp_X0_rest (Φ : jPost) : Nat → jI := (jN 5 (jN 1 (jlf 0 (ji_iload 0 1)) (jN 4 (jlf 1 (ji_call jy_X0_howMany 1 0 0 4)) (jlf 4 (ji_push (.int (nI 1)) 5)))) (jN 7 (jN 6 (jlf 5 (ji_isub 6)) (jlf 6 (ji_iload 1 7))) (jN 8 (jlf 7 (ji_isub 8)) (jlf 8 (ji_iret Φ 0 0)))))
set_option maxRecDepth 20000 in
theorem js_X0_rest (Φ : jPost) : ∀ pc, jS jy_X0_rest Φ pc (jp_X0_rest Φ pc) := (jSN (jSN (jSl (jS_iloadn (q := 0) rfl (by decide +kernel) rfl)) (jSN (jSl (jS_scall (index := 19) (Z := jy_X0_howMany) jok_X0_howMany (jmem 178 (by decide +kernel)) (jmem 472 (by decide +kernel)) (by decide) (by decide) (by decide +kernel) rfl)) (jSl (jS_iconst (n := 1) (v := (nI 1)) (by decide +kernel) (by decide +kernel) rfl)))) (jSN (jSN (jSl (jS_isub (by decide +kernel) rfl)) (jSl (jS_iloadn (q := 1) rfl (by decide +kernel) rfl))) (jSN (jSl (jS_isub (by decide +kernel) rfl)) (jSl (jS_iret rfl (by decide +kernel))))))
def jy_X0_howManyFiner : jY := (yX0_howManyFiner, cX0_howManyFiner, 2, some .int, 3, 0, 0)
theorem jok_X0_howManyFiner : jYok jy_X0_howManyFiner 2 := ⟨(jmem 475 (by decide +kernel)), (jmem 62 (by decide +kernel)), ⟨by decide +kernel, by decide +kernel⟩, by decide +kernel⟩
def jp_X0_howManyFiner (Φ : jPost) : Nat → jI := (jN 3 (jN 1 (jlf 0 (ji_push (.int (nI 1)) 1)) (jN 2 (jlf 1 (ji_iload 0 2)) (jlf 2 (ji_iload 1 3)))) (jN 9 (jN 6 (jlf 3 (ji_call jy_X0_rest 2 0 0 6)) (jlf 6 (ji_call jy_J6_bitCount_0f7a4 1 0 0 9))) (jN 10 (jlf 9 (ji_ishl 10)) (jlf 10 (ji_iret Φ 0 0)))))
set_option maxRecDepth 20000 in
theorem js_X0_howManyFiner (Φ : jPost) : ∀ pc, jS jy_X0_howManyFiner Φ pc (jp_X0_howManyFiner Φ pc) := (jSN (jSN (jSl (jS_iconst (n := 1) (v := (nI 1)) (by decide +kernel) (by decide +kernel) rfl)) (jSN (jSl (jS_iloadn (q := 0) rfl (by decide +kernel) rfl)) (jSl (jS_iloadn (q := 1) rfl (by decide +kernel) rfl)))) (jSN (jSN (jSl (jS_scall (index := 22) (Z := jy_X0_rest) jok_X0_rest (jmem 470 (by decide +kernel)) (jmem 476 (by decide +kernel)) (by decide) (by decide) (by decide +kernel) rfl)) (jSl (jS_scall (index := 7) (Z := jy_J6_bitCount_0f7a4) jok_J6_bitCount_0f7a4 (jmem 432 (by decide +kernel)) (jmem 431 (by decide +kernel)) (by decide) (by decide) (by decide +kernel) rfl))) (jSN (jSl (jS_ishl (by decide +kernel) rfl)) (jSl (jS_iret rfl (by decide +kernel))))))
def jy_X0_isFiner : jY := (yX0_isFiner, cX0_isFiner, 2, some .boolean, 1, 0, 0)
theorem jok_X0_isFiner : jYok jy_X0_isFiner 2 := ⟨(jmem 380 (by decide +kernel)), (jmem 62 (by decide +kernel)), ⟨by decide +kernel, by decide +kernel⟩, by decide +kernel⟩
def jp_X0_isFiner (Φ : jPost) : Nat → jI := (jN 4 (jN 2 (jN 1 (jlf 0 (ji_iload 0 1)) (jlf 1 (ji_iload 1 2))) (jN 3 (jlf 2 (ji_iand 3)) (jlf 3 (ji_iload 1 4)))) (jN 8 (jN 7 (jlf 4 (ji_icmpne 11 7)) (jlf 7 (ji_push (.int (nI 1)) 8))) (jN 11 (jlf 8 (ji_goto 12)) (jN 12 (jlf 11 (ji_push (.int (nI 0)) 12)) (jlf 12 (ji_zret Φ 0 0))))))
set_option maxRecDepth 20000 in
theorem js_X0_isFiner (Φ : jPost) : ∀ pc, jS jy_X0_isFiner Φ pc (jp_X0_isFiner Φ pc) := (jSN (jSN (jSN (jSl (jS_iloadn (q := 0) rfl (by decide +kernel) rfl)) (jSl (jS_iloadn (q := 1) rfl (by decide +kernel) rfl))) (jSN (jSl (jS_iand (by decide +kernel) rfl)) (jSl (jS_iloadn (q := 1) rfl (by decide +kernel) rfl)))) (jSN (jSN (jSl (jS_icmpne (off := 7) (by decide +kernel) (by decide) rfl)) (jSl (jS_iconst (n := 1) (v := (nI 1)) (by decide +kernel) (by decide +kernel) rfl))) (jSN (jSl (jS_goto (off := 4) (by decide +kernel) (by decide))) (jSN (jSl (jS_iconst (n := 0) (v := (nI 0)) (by decide +kernel) (by decide +kernel) rfl)) (jSl (jS_zret rfl (by decide +kernel)))))))
def jy_X0_joined : jY := (yX0_joined, cX0_joined, 4, some .int, 1, 0, 0)
theorem jok_X0_joined : jYok jy_X0_joined 4 := ⟨(jmem 521 (by decide +kernel)), (jmem 62 (by decide +kernel)), ⟨by decide +kernel, by decide +kernel⟩, by decide +kernel⟩
def jp_X0_joined (Φ : jPost) : Nat → jI := (jN 16 (jN 7 (jN 4 (jN 1 (jlf 0 (ji_iload 0 1)) (jlf 1 (ji_ifne 6 4))) (jN 5 (jlf 4 (ji_iload 3 5)) (jN 6 (jlf 5 (ji_iret Φ 0 0)) (jlf 6 (ji_iload 2 7))))) (jN 11 (jN 10 (jlf 7 (ji_ifne 14 10)) (jlf 10 (ji_iload 1 11))) (jN 14 (jlf 11 (ji_goto 25)) (jN 15 (jlf 14 (ji_iload 1 15)) (jlf 15 (ji_push (.int (nI 1)) 16)))))) (jN 21 (jN 18 (jN 17 (jlf 16 (ji_iload 0 17)) (jlf 17 (ji_push (.int (nI 1)) 18))) (jN 19 (jlf 18 (ji_isub 19)) (jN 20 (jlf 19 (ji_ishl 20)) (jlf 20 (ji_ior 21))))) (jN 23 (jN 22 (jlf 21 (ji_iload 3 22)) (jlf 22 (ji_iload 0 23))) (jN 24 (jlf 23 (ji_ishl 24)) (jN 25 (jlf 24 (ji_ior 25)) (jlf 25 (ji_iret Φ 0 0)))))))
set_option maxRecDepth 20000 in
theorem js_X0_joined (Φ : jPost) : ∀ pc, jS jy_X0_joined Φ pc (jp_X0_joined Φ pc) := (jSN (jSN (jSN (jSN (jSl (jS_iloadn (q := 0) rfl (by decide +kernel) rfl)) (jSl (jS_ifne (off := 5) (by decide +kernel) (by decide) rfl))) (jSN (jSl (jS_iloadn (q := 3) rfl (by decide +kernel) rfl)) (jSN (jSl (jS_iret rfl (by decide +kernel))) (jSl (jS_iloadn (q := 2) rfl (by decide +kernel) rfl))))) (jSN (jSN (jSl (jS_ifne (off := 7) (by decide +kernel) (by decide) rfl)) (jSl (jS_iloadn (q := 1) rfl (by decide +kernel) rfl))) (jSN (jSl (jS_goto (off := 14) (by decide +kernel) (by decide))) (jSN (jSl (jS_iloadn (q := 1) rfl (by decide +kernel) rfl)) (jSl (jS_iconst (n := 1) (v := (nI 1)) (by decide +kernel) (by decide +kernel) rfl)))))) (jSN (jSN (jSN (jSl (jS_iloadn (q := 0) rfl (by decide +kernel) rfl)) (jSl (jS_iconst (n := 1) (v := (nI 1)) (by decide +kernel) (by decide +kernel) rfl))) (jSN (jSl (jS_isub (by decide +kernel) rfl)) (jSN (jSl (jS_ishl (by decide +kernel) rfl)) (jSl (jS_ior (by decide +kernel) rfl))))) (jSN (jSN (jSl (jS_iloadn (q := 3) rfl (by decide +kernel) rfl)) (jSl (jS_iloadn (q := 0) rfl (by decide +kernel) rfl))) (jSN (jSl (jS_ishl (by decide +kernel) rfl)) (jSN (jSl (jS_ior (by decide +kernel) rfl)) (jSl (jS_iret rfl (by decide +kernel))))))))
def jy_X0_waysToPick : jY := (yX0_waysToPick, cX0_waysToPick, 5, some .long, 1, 0, 0)
theorem jok_X0_waysToPick : jYok jy_X0_waysToPick 2 := ⟨(jmem 532 (by decide +kernel)), (jmem 62 (by decide +kernel)), ⟨by decide +kernel, by decide +kernel⟩, by decide +kernel⟩
def jp_X0_waysToPick (Φ : jPost) : Nat → jI := (jN 16 (jN 7 (jN 2 (jN 1 (jlf 0 (ji_push (.long 1) 1)) (jlf 1 (ji_lstore 2 2))) (jN 3 (jlf 2 (ji_push (.int (nI 0)) 3)) (jN 5 (jlf 3 (ji_istore 4 5)) (jlf 5 (ji_iload 4 7))))) (jN 12 (jN 8 (jlf 7 (ji_iload 0 8)) (jN 11 (jlf 8 (ji_icmpge 31 11)) (jlf 11 (ji_lload 2 12)))) (jN 13 (jlf 12 (ji_iload 1 13)) (jN 15 (jlf 13 (ji_iload 4 15)) (jlf 15 (ji_isub 16)))))) (jN 23 (jN 20 (jN 17 (jlf 16 (ji_i2l 17)) (jN 18 (jlf 17 (ji_lmul 18)) (jlf 18 (ji_iload 4 20)))) (jN 21 (jlf 20 (ji_push (.int (nI 1)) 21)) (jN 22 (jlf 21 (ji_iadd 22)) (jlf 22 (ji_i2l 23))))) (jN 28 (jN 24 (jlf 23 (ji_ldiv 24)) (jN 25 (jlf 24 (ji_lstore 2 25)) (jlf 25 (ji_iinc 4 (nI 1) 28)))) (jN 31 (jlf 28 (ji_goto 5)) (jN 32 (jlf 31 (ji_lload 2 32)) (jlf 32 (ji_lret Φ 0 0)))))))
set_option maxRecDepth 20000 in
theorem js_X0_waysToPick (Φ : jPost) : ∀ pc, jS jy_X0_waysToPick Φ pc (jp_X0_waysToPick Φ pc) := (jSN (jSN (jSN (jSN (jSl (jS_lconst (n := 1) (v := 1) (by decide +kernel) (by decide +kernel) rfl)) (jSl (jS_lstoren (q := 2) rfl (by decide +kernel) rfl (by decide)))) (jSN (jSl (jS_iconst (n := 0) (v := (nI 0)) (by decide +kernel) (by decide +kernel) rfl)) (jSN (jSl (jS_istore (by decide +kernel) rfl (by decide))) (jSl (jS_iload (by decide +kernel) rfl))))) (jSN (jSN (jSl (jS_iloadn (q := 0) rfl (by decide +kernel) rfl)) (jSN (jSl (jS_icmpge (off := 23) (by decide +kernel) (by decide) rfl)) (jSl (jS_lloadn (q := 2) rfl (by decide +kernel) rfl)))) (jSN (jSl (jS_iloadn (q := 1) rfl (by decide +kernel) rfl)) (jSN (jSl (jS_iload (by decide +kernel) rfl)) (jSl (jS_isub (by decide +kernel) rfl)))))) (jSN (jSN (jSN (jSl (jS_i2l (by decide +kernel) rfl)) (jSN (jSl (jS_lmul (by decide +kernel) rfl)) (jSl (jS_iload (by decide +kernel) rfl)))) (jSN (jSl (jS_iconst (n := 1) (v := (nI 1)) (by decide +kernel) (by decide +kernel) rfl)) (jSN (jSl (jS_iadd (by decide +kernel) rfl)) (jSl (jS_i2l (by decide +kernel) rfl))))) (jSN (jSN (jSl (jS_ldiv (by decide +kernel) rfl)) (jSN (jSl (jS_lstoren (q := 2) rfl (by decide +kernel) rfl (by decide))) (jSl (jS_iinc (n := 1) (v := (nI 1)) (by decide +kernel) (by decide +kernel) rfl (by decide))))) (jSN (jSl (jS_goto (off := -23) (by decide +kernel) (by decide))) (jSN (jSl (jS_lloadn (q := 2) rfl (by decide +kernel) rfl)) (jSl (jS_lret rfl (by decide +kernel))))))))
def jy_OBJ : jY := (⟨"java/lang/Object", "<init>", "()V"⟩, object_method_1_code, 1, none, 1, 0, 0)
def jp_OBJ (Φ : jPost) : Nat → jI := (jlf 0 (ji_ret Φ 0 0))
set_option maxRecDepth 20000 in
theorem js_OBJ (Φ : jPost) : ∀ pc, jS jy_OBJ Φ pc (jp_OBJ Φ pc) := (jSl (jS_ret rfl (by decide +kernel)))
def jy_J9_max_7cf53 : jY := (yJ9_max_7cf53, cJ9_max_7cf53, 2, some .int, 1, 0, 0)
theorem jok_J9_max_7cf53 : jYok jy_J9_max_7cf53 2 := ⟨(jmem 101 (by decide +kernel)), (jmem 56 (by decide +kernel)), ⟨by decide +kernel, by decide +kernel⟩, by decide +kernel⟩
def jp_J9_max_7cf53 (Φ : jPost) : Nat → jI := (jN 5 (jN 1 (jlf 0 (ji_iload 0 1)) (jN 2 (jlf 1 (ji_iload 1 2)) (jlf 2 (ji_icmplt 9 5)))) (jN 9 (jN 6 (jlf 5 (ji_iload 0 6)) (jlf 6 (ji_goto 10))) (jN 10 (jlf 9 (ji_iload 1 10)) (jlf 10 (ji_iret Φ 0 0)))))
set_option maxRecDepth 20000 in
theorem js_J9_max_7cf53 (Φ : jPost) : ∀ pc, jS jy_J9_max_7cf53 Φ pc (jp_J9_max_7cf53 Φ pc) := (jSN (jSN (jSl (jS_iloadn (q := 0) rfl (by decide +kernel) rfl)) (jSN (jSl (jS_iloadn (q := 1) rfl (by decide +kernel) rfl)) (jSl (jS_icmplt (off := 7) (by decide +kernel) (by decide) rfl)))) (jSN (jSN (jSl (jS_iloadn (q := 0) rfl (by decide +kernel) rfl)) (jSl (jS_goto (off := 4) (by decide +kernel) (by decide)))) (jSN (jSl (jS_iloadn (q := 1) rfl (by decide +kernel) rfl)) (jSl (jS_iret rfl (by decide +kernel))))))
def jy_J9_min_7cf53 : jY := (yJ9_min_7cf53, cJ9_min_7cf53, 2, some .int, 1, 0, 0)
theorem jok_J9_min_7cf53 : jYok jy_J9_min_7cf53 2 := ⟨(jmem 104 (by decide +kernel)), (jmem 56 (by decide +kernel)), ⟨by decide +kernel, by decide +kernel⟩, by decide +kernel⟩
def jp_J9_min_7cf53 (Φ : jPost) : Nat → jI := (jN 5 (jN 1 (jlf 0 (ji_iload 0 1)) (jN 2 (jlf 1 (ji_iload 1 2)) (jlf 2 (ji_icmpgt 9 5)))) (jN 9 (jN 6 (jlf 5 (ji_iload 0 6)) (jlf 6 (ji_goto 10))) (jN 10 (jlf 9 (ji_iload 1 10)) (jlf 10 (ji_iret Φ 0 0)))))
set_option maxRecDepth 20000 in
theorem js_J9_min_7cf53 (Φ : jPost) : ∀ pc, jS jy_J9_min_7cf53 Φ pc (jp_J9_min_7cf53 Φ pc) := (jSN (jSN (jSl (jS_iloadn (q := 0) rfl (by decide +kernel) rfl)) (jSN (jSl (jS_iloadn (q := 1) rfl (by decide +kernel) rfl)) (jSl (jS_icmpgt (off := 7) (by decide +kernel) (by decide) rfl)))) (jSN (jSN (jSl (jS_iloadn (q := 0) rfl (by decide +kernel) rfl)) (jSl (jS_goto (off := 4) (by decide +kernel) (by decide)))) (jSN (jSl (jS_iloadn (q := 1) rfl (by decide +kernel) rfl)) (jSl (jS_iret rfl (by decide +kernel))))))
def jy_X11_within : jY := (yX11_within, cX11_within, 2, some .boolean, 1, 0, 0)
theorem jok_X11_within : jYok jy_X11_within 2 := ⟨(jmem 123 (by decide +kernel)), (jmem 54 (by decide +kernel)), ⟨by decide +kernel, by decide +kernel⟩, by decide +kernel⟩
def jp_X11_within (Φ : jPost) : Nat → jI := (jN 6 (jN 4 (jN 1 (jlf 0 (ji_iload 0 1)) (jlf 1 (ji_iflt 13 4))) (jN 5 (jlf 4 (ji_iload 0 5)) (jlf 5 (ji_iload 1 6)))) (jN 10 (jN 9 (jlf 6 (ji_icmpge 13 9)) (jlf 9 (ji_push (.int (nI 1)) 10))) (jN 13 (jlf 10 (ji_goto 14)) (jN 14 (jlf 13 (ji_push (.int (nI 0)) 14)) (jlf 14 (ji_zret Φ 0 0))))))
set_option maxRecDepth 20000 in
theorem js_X11_within (Φ : jPost) : ∀ pc, jS jy_X11_within Φ pc (jp_X11_within Φ pc) := (jSN (jSN (jSN (jSl (jS_iloadn (q := 0) rfl (by decide +kernel) rfl)) (jSl (jS_iflt (off := 12) (by decide +kernel) (by decide) rfl))) (jSN (jSl (jS_iloadn (q := 0) rfl (by decide +kernel) rfl)) (jSl (jS_iloadn (q := 1) rfl (by decide +kernel) rfl)))) (jSN (jSN (jSl (jS_icmpge (off := 7) (by decide +kernel) (by decide) rfl)) (jSl (jS_iconst (n := 1) (v := (nI 1)) (by decide +kernel) (by decide +kernel) rfl))) (jSN (jSl (jS_goto (off := 4) (by decide +kernel) (by decide))) (jSN (jSl (jS_iconst (n := 0) (v := (nI 0)) (by decide +kernel) (by decide +kernel) rfl)) (jSl (jS_zret rfl (by decide +kernel)))))))
def jy_Jxa1e45_init_da8c8 : jY := (yJxa1e45_init_da8c8, cJxa1e45_init_da8c8, 1, none, 2, 0, 0)
theorem jok_Jxa1e45_init_da8c8 : jYok jy_Jxa1e45_init_da8c8 0 := ⟨(jmem 150 (by decide +kernel)), (jmem 57 (by decide +kernel)), ⟨by decide +kernel, by decide +kernel⟩, by decide +kernel⟩
def jp_Jxa1e45_init_da8c8 (Φ : jPost) : Nat → jI := (jN 1 (jlf 0 (ji_aload 0 1)) (jN 4 (jlf 1 (ji_objinit 4)) (jlf 4 (ji_ret Φ 0 0))))
set_option maxRecDepth 20000 in
theorem js_Jxa1e45_init_da8c8 (Φ : jPost) : ∀ pc, jS jy_Jxa1e45_init_da8c8 Φ pc (jp_Jxa1e45_init_da8c8 Φ pc) := (jSN (jSl (jS_aloadn (q := 0) rfl (by decide +kernel) rfl)) (jSN (jSl (jS_objinit (index := 1) (jmem 151 (by decide +kernel)) (jmem 86 (by decide +kernel)) (jmem 87 (by decide +kernel)) (by decide) (by decide +kernel) rfl)) (jSl (jS_ret rfl (by decide +kernel)))))
def jy_Jxc12de_init_da8c8 : jY := (yJxc12de_init_da8c8, cJxc12de_init_da8c8, 1, none, 3, 0, 0)
theorem jok_Jxc12de_init_da8c8 : jYok jy_Jxc12de_init_da8c8 0 := ⟨(jmem 147 (by decide +kernel)), (jmem 58 (by decide +kernel)), ⟨by decide +kernel, by decide +kernel⟩, by decide +kernel⟩
def jp_Jxc12de_init_da8c8 (Φ : jPost) : Nat → jI := (jN 5 (jN 1 (jlf 0 (ji_aload 0 1)) (jN 4 (jlf 1 (ji_icall jy_Jxa1e45_init_da8c8 0 0 0 4)) (jlf 4 (ji_aload 0 5)))) (jN 6 (jlf 5 (ji_push (.int (nI 0)) 6)) (jN 9 (jlf 6 (ji_putf 0 0 .int 9)) (jlf 9 (ji_ret Φ 0 0)))))
set_option maxRecDepth 20000 in
theorem js_Jxc12de_init_da8c8 (Φ : jPost) : ∀ pc, jS jy_Jxc12de_init_da8c8 Φ pc (jp_Jxc12de_init_da8c8 Φ pc) := (jSN (jSN (jSl (jS_aloadn (q := 0) rfl (by decide +kernel) rfl)) (jSN (jSl (jS_icall (index := 1) (Z := jy_Jxa1e45_init_da8c8) rfl jok_Jxa1e45_init_da8c8 (jmem 149 (by decide +kernel)) rfl (jmem 148 (by decide +kernel)) (by decide) (by decide) (by decide +kernel) rfl)) (jSl (jS_aloadn (q := 0) rfl (by decide +kernel) rfl)))) (jSN (jSl (jS_iconst (n := 0) (v := (nI 0)) (by decide +kernel) (by decide +kernel) rfl)) (jSN (jSl (jS_putf (ci := 0) (index := 7) (f := 0) (ref := "java/util/AbstractList") jin0 rfl tyJx4a65c_ok nmJx4a65c (by decide) (jmem 156 (by decide +kernel)) (Or.inl rfl) rfl (by decide +kernel) rfl)) (jSl (jS_ret rfl (by decide +kernel))))))
def jy_Jx4a65c_init_da8c8 : jY := (yJx4a65c_init_da8c8, cJx4a65c_init_da8c8, 1, none, 4, 0, 0)
theorem jok_Jx4a65c_init_da8c8 : jYok jy_Jx4a65c_init_da8c8 0 := ⟨(jmem 144 (by decide +kernel)), (jmem 59 (by decide +kernel)), ⟨by decide +kernel, by decide +kernel⟩, by decide +kernel⟩
def jp_Jx4a65c_init_da8c8 (Φ : jPost) : Nat → jI := (jN 5 (jN 1 (jlf 0 (ji_aload 0 1)) (jN 4 (jlf 1 (ji_icall jy_Jxc12de_init_da8c8 0 0 0 4)) (jlf 4 (ji_aload 0 5)))) (jN 8 (jlf 5 (ji_empty 8)) (jN 11 (jlf 8 (ji_putf 0 1 (.array (.object "java/lang/Object")) 11)) (jlf 11 (ji_ret Φ 0 0)))))
set_option maxRecDepth 20000 in
theorem js_Jx4a65c_init_da8c8 (Φ : jPost) : ∀ pc, jS jy_Jx4a65c_init_da8c8 Φ pc (jp_Jx4a65c_init_da8c8 Φ pc) := (jSN (jSN (jSl (jS_aloadn (q := 0) rfl (by decide +kernel) rfl)) (jSN (jSl (jS_icall (index := 1) (Z := jy_Jxc12de_init_da8c8) rfl jok_Jxc12de_init_da8c8 (jmem 146 (by decide +kernel)) rfl (jmem 145 (by decide +kernel)) (by decide) (by decide) (by decide +kernel) rfl)) (jSl (jS_aloadn (q := 0) rfl (by decide +kernel) rfl)))) (jSN (jSl (jS_empty (index := 39) (jmem 152 (by decide +kernel)) (by decide +kernel) rfl)) (jSN (jSl (jS_putf (ci := 0) (index := 9) (f := 1) (ref := "java/util/ArrayList") jin0 rfl tyJx4a65c_ok nmJx4a65c (by decide) (jmem 154 (by decide +kernel)) (Or.inl rfl) rfl (by decide +kernel) rfl)) (jSl (jS_ret rfl (by decide +kernel))))))
def jy_J8_hugeLength_7cf53 : jY := (yJ8_hugeLength_7cf53, cJ8_hugeLength_7cf53, 3, some .int, 1, 0, 0)
theorem jok_J8_hugeLength_7cf53 : jYok jy_J8_hugeLength_7cf53 2 := ⟨(jmem 272 (by decide +kernel)), (jmem 65 (by decide +kernel)), ⟨by decide +kernel, by decide +kernel⟩, by decide +kernel⟩
def jp_J8_hugeLength_7cf53 (Φ : jPost) : Nat → jI := (jN 28 (jN 11 (jN 3 (jN 1 (jlf 0 (ji_iload 0 1)) (jN 2 (jlf 1 (ji_iload 1 2)) (jlf 2 (ji_iadd 3)))) (jN 5 (jN 4 (jlf 3 (ji_istore 2 4)) (jlf 4 (ji_iload 2 5))) (jN 8 (jlf 5 (ji_ifge 49 8)) (jlf 8 (jbad))))) (jN 19 (jN 15 (jN 12 (jlf 11 (ji_dup 12)) (jlf 12 (jbad))) (jN 16 (jlf 15 (ji_dup 16)) (jlf 16 (jbad)))) (jN 24 (jN 21 (jlf 19 (jbad)) (jlf 21 (jbad))) (jN 25 (jlf 24 (ji_iload 0 25)) (jlf 25 (jbad)))))) (jN 48 (jN 37 (jN 33 (jN 30 (jlf 28 (jbad)) (jlf 30 (jbad))) (jN 34 (jlf 33 (ji_iload 1 34)) (jlf 34 (jbad)))) (jN 42 (jN 39 (jlf 37 (jbad)) (jlf 39 (jbad))) (jN 45 (jlf 42 (jbad)) (jlf 45 (jbad))))) (jN 55 (jN 50 (jN 49 (jlf 48 (jbad)) (jlf 49 (ji_iload 2 50))) (jN 52 (jlf 50 (ji_push (.int (nI 2147483639)) 52)) (jlf 52 (ji_icmpgt 58 55)))) (jN 58 (jN 57 (jlf 55 (ji_push (.int (nI 2147483639)) 57)) (jlf 57 (ji_iret Φ 0 0))) (jN 59 (jlf 58 (ji_iload 2 59)) (jlf 59 (ji_iret Φ 0 0)))))))
set_option maxRecDepth 20000 in
theorem js_J8_hugeLength_7cf53 (Φ : jPost) : ∀ pc, jS jy_J8_hugeLength_7cf53 Φ pc (jp_J8_hugeLength_7cf53 Φ pc) := (jSN (jSN (jSN (jSN (jSl (jS_iloadn (q := 0) rfl (by decide +kernel) rfl)) (jSN (jSl (jS_iloadn (q := 1) rfl (by decide +kernel) rfl)) (jSl (jS_iadd (by decide +kernel) rfl)))) (jSN (jSN (jSl (jS_istoren (q := 2) rfl (by decide +kernel) rfl (by decide))) (jSl (jS_iloadn (q := 2) rfl (by decide +kernel) rfl))) (jSN (jSl (jS_ifge (off := 44) (by decide +kernel) (by decide) rfl)) (jSl (jS_bad))))) (jSN (jSN (jSN (jSl (jS_dup (by decide +kernel) rfl)) (jSl (jS_bad))) (jSN (jSl (jS_dup (by decide +kernel) rfl)) (jSl (jS_bad)))) (jSN (jSN (jSl (jS_bad)) (jSl (jS_bad))) (jSN (jSl (jS_iloadn (q := 0) rfl (by decide +kernel) rfl)) (jSl (jS_bad)))))) (jSN (jSN (jSN (jSN (jSl (jS_bad)) (jSl (jS_bad))) (jSN (jSl (jS_iloadn (q := 1) rfl (by decide +kernel) rfl)) (jSl (jS_bad)))) (jSN (jSN (jSl (jS_bad)) (jSl (jS_bad))) (jSN (jSl (jS_bad)) (jSl (jS_bad))))) (jSN (jSN (jSN (jSl (jS_bad)) (jSl (jS_iloadn (q := 2) rfl (by decide +kernel) rfl))) (jSN (jSl (jS_ldci (index := 200) (v := nI 2147483639) (jmem 269 (by decide +kernel)) (by decide +kernel) rfl)) (jSl (jS_icmpgt (off := 6) (by decide +kernel) (by decide) rfl)))) (jSN (jSN (jSl (jS_ldci (index := 200) (v := nI 2147483639) (jmem 269 (by decide +kernel)) (by decide +kernel) rfl)) (jSl (jS_iret rfl (by decide +kernel)))) (jSN (jSl (jS_iloadn (q := 2) rfl (by decide +kernel) rfl)) (jSl (jS_iret rfl (by decide +kernel))))))))
def jy_J8_newLength_cabcc : jY := (yJ8_newLength_cabcc, cJ8_newLength_cabcc, 4, some .int, 2, 0, 0)
theorem jok_J8_newLength_cabcc : jYok jy_J8_newLength_cabcc 3 := ⟨(jmem 267 (by decide +kernel)), (jmem 65 (by decide +kernel)), ⟨by decide +kernel, by decide +kernel⟩, by decide +kernel⟩
def jp_J8_newLength_cabcc (Φ : jPost) : Nat → jI := (jN 13 (jN 6 (jN 2 (jN 1 (jlf 0 (ji_iload 0 1)) (jlf 1 (ji_iload 1 2))) (jN 3 (jlf 2 (ji_iload 2 3)) (jlf 3 (ji_call jy_J9_max_7cf53 2 0 0 6)))) (jN 8 (jN 7 (jlf 6 (ji_iadd 7)) (jlf 7 (ji_istore 3 8))) (jN 9 (jlf 8 (ji_push (.int (nI 0)) 9)) (jN 10 (jlf 9 (ji_iload 3 10)) (jlf 10 (ji_icmpge 21 13)))))) (jN 20 (jN 16 (jN 14 (jlf 13 (ji_iload 3 14)) (jlf 14 (ji_push (.int (nI 2147483639)) 16))) (jN 19 (jlf 16 (ji_icmpgt 21 19)) (jlf 19 (ji_iload 3 20)))) (jN 22 (jN 21 (jlf 20 (ji_iret Φ 0 0)) (jlf 21 (ji_iload 0 22))) (jN 23 (jlf 22 (ji_iload 1 23)) (jN 26 (jlf 23 (ji_call jy_J8_hugeLength_7cf53 2 0 0 26)) (jlf 26 (ji_iret Φ 0 0)))))))
set_option maxRecDepth 20000 in
theorem js_J8_newLength_cabcc (Φ : jPost) : ∀ pc, jS jy_J8_newLength_cabcc Φ pc (jp_J8_newLength_cabcc Φ pc) := (jSN (jSN (jSN (jSN (jSl (jS_iloadn (q := 0) rfl (by decide +kernel) rfl)) (jSl (jS_iloadn (q := 1) rfl (by decide +kernel) rfl))) (jSN (jSl (jS_iloadn (q := 2) rfl (by decide +kernel) rfl)) (jSl (jS_scall (index := 194) (Z := jy_J9_max_7cf53) jok_J9_max_7cf53 (jmem 100 (by decide +kernel)) (jmem 268 (by decide +kernel)) (by decide) (by decide) (by decide +kernel) rfl)))) (jSN (jSN (jSl (jS_iadd (by decide +kernel) rfl)) (jSl (jS_istoren (q := 3) rfl (by decide +kernel) rfl (by decide)))) (jSN (jSl (jS_iconst (n := 0) (v := (nI 0)) (by decide +kernel) (by decide +kernel) rfl)) (jSN (jSl (jS_iloadn (q := 3) rfl (by decide +kernel) rfl)) (jSl (jS_icmpge (off := 11) (by decide +kernel) (by decide) rfl)))))) (jSN (jSN (jSN (jSl (jS_iloadn (q := 3) rfl (by decide +kernel) rfl)) (jSl (jS_ldci (index := 200) (v := nI 2147483639) (jmem 269 (by decide +kernel)) (by decide +kernel) rfl))) (jSN (jSl (jS_icmpgt (off := 5) (by decide +kernel) (by decide) rfl)) (jSl (jS_iloadn (q := 3) rfl (by decide +kernel) rfl)))) (jSN (jSN (jSl (jS_iret rfl (by decide +kernel))) (jSl (jS_iloadn (q := 0) rfl (by decide +kernel) rfl))) (jSN (jSl (jS_iloadn (q := 1) rfl (by decide +kernel) rfl)) (jSN (jSl (jS_scall (index := 201) (Z := jy_J8_hugeLength_7cf53) jok_J8_hugeLength_7cf53 (jmem 271 (by decide +kernel)) (jmem 270 (by decide +kernel)) (by decide) (by decide) (by decide +kernel) rfl)) (jSl (jS_iret rfl (by decide +kernel))))))))
def jy_J7_copyOf_6403c : jY := (yJ7_copyOf_6403c, cJ7_copyOf_6403c, 4, some (.array (.object "java/lang/Object")), 2, 1, 40)
theorem jok_J7_copyOf_6403c : jYok jy_J7_copyOf_6403c 3 := ⟨(jmem 294 (by decide +kernel)), (jmem 66 (by decide +kernel)), ⟨by decide +kernel, by decide +kernel⟩, by decide +kernel⟩
def jp_J7_copyOf_6403c (Φ : jPost) : Nat → jI := (jN 24 (jN 10 (jN 3 (jN 1 (jlf 0 (ji_aload 2 1)) (jlf 1 (jbad))) (jN 6 (jlf 3 (ji_acmpne 13 6)) (jN 7 (jlf 6 (ji_iload 1 7)) (jlf 7 (ji_anew "java/lang/Object" 1 40 10))))) (jN 17 (jN 13 (jlf 10 (ji_goto 24)) (jN 14 (jlf 13 (ji_aload 2 14)) (jlf 14 (jbad)))) (jN 18 (jlf 17 (ji_iload 1 18)) (jN 21 (jlf 18 (jbad)) (jlf 21 (ji_ccastA (.object "java/lang/Object") 24)))))) (jN 30 (jN 27 (jN 25 (jlf 24 (ji_astore 3 25)) (jN 26 (jlf 25 (ji_aload 0 26)) (jlf 26 (ji_push (.int (nI 0)) 27)))) (jN 28 (jlf 27 (ji_aload 3 28)) (jN 29 (jlf 28 (ji_push (.int (nI 0)) 29)) (jlf 29 (ji_aload 0 30))))) (jN 35 (jN 31 (jlf 30 (ji_alen 31)) (jN 32 (jlf 31 (ji_iload 1 32)) (jlf 32 (ji_call jy_J9_min_7cf53 2 1 40 35)))) (jN 38 (jlf 35 (ji_copyo 38)) (jN 39 (jlf 38 (ji_aload 3 39)) (jlf 39 (ji_aret Φ 1 40)))))))
set_option maxRecDepth 20000 in
theorem js_J7_copyOf_6403c (Φ : jPost) : ∀ pc, jS jy_J7_copyOf_6403c Φ pc (jp_J7_copyOf_6403c Φ pc) := (jSN (jSN (jSN (jSN (jSl (jS_aloadn (q := 2) rfl (by decide +kernel) rfl)) (jSl (jS_bad))) (jSN (jSl (jS_acmpne (off := 10) (by decide +kernel) (by decide) rfl)) (jSN (jSl (jS_iloadn (q := 1) rfl (by decide +kernel) rfl)) (jSl (jS_anew (index := 2) (by decide) (jmem 297 (by decide +kernel)) (by decide) (by decide +kernel) rfl))))) (jSN (jSN (jSl (jS_goto (off := 14) (by decide +kernel) (by decide))) (jSN (jSl (jS_aloadn (q := 2) rfl (by decide +kernel) rfl)) (jSl (jS_bad)))) (jSN (jSl (jS_iloadn (q := 1) rfl (by decide +kernel) rfl)) (jSN (jSl (jS_bad)) (jSl (jS_ccastA (index := 110) (jmem 295 (by decide +kernel)) (by decide +kernel) rfl)))))) (jSN (jSN (jSN (jSl (jS_astoren (q := 3) rfl (by decide +kernel) rfl (by decide))) (jSN (jSl (jS_aloadn (q := 0) rfl (by decide +kernel) rfl)) (jSl (jS_iconst (n := 0) (v := (nI 0)) (by decide +kernel) (by decide +kernel) rfl)))) (jSN (jSl (jS_aloadn (q := 3) rfl (by decide +kernel) rfl)) (jSN (jSl (jS_iconst (n := 0) (v := (nI 0)) (by decide +kernel) (by decide +kernel) rfl)) (jSl (jS_aloadn (q := 0) rfl (by decide +kernel) rfl))))) (jSN (jSN (jSl (jS_alen (by decide +kernel) rfl)) (jSN (jSl (jS_iloadn (q := 1) rfl (by decide +kernel) rfl)) (jSl (jS_scall (index := 304) (Z := jy_J9_min_7cf53) jok_J9_min_7cf53 (jmem 103 (by decide +kernel)) (jmem 298 (by decide +kernel)) (by decide) (by decide) (by decide +kernel) rfl)))) (jSN (jSl (jS_copyo (index := 150) (jmem 299 (by decide +kernel)) (jmem 301 (by decide +kernel)) (jmem 300 (by decide +kernel)) (jmem 67 (by decide +kernel)) (by decide) (by decide +kernel) rfl)) (jSN (jSl (jS_aloadn (q := 3) rfl (by decide +kernel) rfl)) (jSl (jS_aret rfl (Or.inr ⟨_, rfl⟩) (by decide +kernel))))))))
def jy_J7_copyOf_1904c : jY := (yJ7_copyOf_1904c, cJ7_copyOf_1904c, 2, some (.array (.object "java/lang/Object")), 3, 1, 40)
theorem jok_J7_copyOf_1904c : jYok jy_J7_copyOf_1904c 2 := ⟨(jmem 275 (by decide +kernel)), (jmem 66 (by decide +kernel)), ⟨by decide +kernel, by decide +kernel⟩, by decide +kernel⟩
def jp_J7_copyOf_1904c (Φ : jPost) : Nat → jI := (jN 3 (jN 1 (jlf 0 (ji_aload 0 1)) (jN 2 (jlf 1 (ji_iload 1 2)) (jlf 2 (ji_aload 0 3)))) (jN 6 (jlf 3 (jbad)) (jN 9 (jlf 6 (ji_call jy_J7_copyOf_6403c 3 1 40 9)) (jlf 9 (ji_aret Φ 1 40)))))
set_option maxRecDepth 20000 in
theorem js_J7_copyOf_1904c (Φ : jPost) : ∀ pc, jS jy_J7_copyOf_1904c Φ pc (jp_J7_copyOf_1904c Φ pc) := (jSN (jSN (jSl (jS_aloadn (q := 0) rfl (by decide +kernel) rfl)) (jSN (jSl (jS_iloadn (q := 1) rfl (by decide +kernel) rfl)) (jSl (jS_aloadn (q := 0) rfl (by decide +kernel) rfl)))) (jSN (jSl (jS_bad)) (jSN (jSl (jS_scall (index := 300) (Z := jy_J7_copyOf_6403c) jok_J7_copyOf_6403c (jmem 293 (by decide +kernel)) (jmem 292 (by decide +kernel)) (by decide) (by decide) (by decide +kernel) rfl)) (jSl (jS_aret rfl (Or.inr ⟨_, rfl⟩) (by decide +kernel))))))
def jy_Jx4a65c_grow_92f84 : jY := (yJx4a65c_grow_92f84, cJx4a65c_grow_92f84, 4, some (.array (.object "java/lang/Object")), 4, 1, 40)
theorem jok_Jx4a65c_grow_92f84 : jYok jy_Jx4a65c_grow_92f84 1 := ⟨(jmem 264 (by decide +kernel)), (jmem 59 (by decide +kernel)), ⟨by decide +kernel, by decide +kernel⟩, by decide +kernel⟩
def jp_Jx4a65c_grow_92f84 (Φ : jPost) : Nat → jI := (jN 27 (jN 14 (jN 6 (jN 4 (jN 1 (jlf 0 (ji_aload 0 1)) (jlf 1 (ji_getf 0 1 4))) (jN 5 (jlf 4 (ji_alen 5)) (jlf 5 (ji_istore 2 6)))) (jN 10 (jN 7 (jlf 6 (ji_iload 2 7)) (jlf 7 (ji_ifgt 20 10))) (jN 11 (jlf 10 (ji_aload 0 11)) (jlf 11 (ji_getf 0 1 14))))) (jN 22 (jN 20 (jN 17 (jlf 14 (ji_empty 17)) (jlf 17 (ji_acmpeq 45 20))) (jN 21 (jlf 20 (ji_iload 2 21)) (jlf 21 (ji_iload 1 22)))) (jN 24 (jN 23 (jlf 22 (ji_iload 2 23)) (jlf 23 (ji_isub 24))) (jN 25 (jlf 24 (ji_iload 2 25)) (jN 26 (jlf 25 (ji_push (.int (nI 1)) 26)) (jlf 26 (ji_ishr 27))))))) (jN 44 (jN 33 (jN 31 (jN 30 (jlf 27 (ji_call jy_J8_newLength_cabcc 3 1 40 30)) (jlf 30 (ji_istore 3 31))) (jN 32 (jlf 31 (ji_aload 0 32)) (jlf 32 (ji_aload 0 33)))) (jN 37 (jN 36 (jlf 33 (ji_getf 0 1 36)) (jlf 36 (ji_iload 3 37))) (jN 40 (jlf 37 (ji_call jy_J7_copyOf_1904c 2 1 40 40)) (jN 41 (jlf 40 (ji_dup_x1 41)) (jlf 41 (ji_putf 0 1 (.array (.object "java/lang/Object")) 44)))))) (jN 49 (jN 46 (jN 45 (jlf 44 (ji_aret Φ 1 40)) (jlf 45 (ji_aload 0 46))) (jN 48 (jlf 46 (ji_push (.int (nI 10)) 48)) (jlf 48 (ji_iload 1 49)))) (jN 55 (jN 52 (jlf 49 (ji_call jy_J9_max_7cf53 2 1 40 52)) (jlf 52 (ji_anew "java/lang/Object" 1 40 55))) (jN 56 (jlf 55 (ji_dup_x1 56)) (jN 59 (jlf 56 (ji_putf 0 1 (.array (.object "java/lang/Object")) 59)) (jlf 59 (ji_aret Φ 1 40))))))))
set_option maxRecDepth 20000 in
theorem js_Jx4a65c_grow_92f84 (Φ : jPost) : ∀ pc, jS jy_Jx4a65c_grow_92f84 Φ pc (jp_Jx4a65c_grow_92f84 Φ pc) := (jSN (jSN (jSN (jSN (jSN (jSl (jS_aloadn (q := 0) rfl (by decide +kernel) rfl)) (jSl (jS_getf (ci := 0) (index := 9) (f := 1) (ref := "java/util/ArrayList") jin0 rfl (by decide) (jmem 154 (by decide +kernel)) (Or.inl rfl) (by decide +kernel) rfl))) (jSN (jSl (jS_alen (by decide +kernel) rfl)) (jSl (jS_istoren (q := 2) rfl (by decide +kernel) rfl (by decide))))) (jSN (jSN (jSl (jS_iloadn (q := 2) rfl (by decide +kernel) rfl)) (jSl (jS_ifgt (off := 13) (by decide +kernel) (by decide) rfl))) (jSN (jSl (jS_aloadn (q := 0) rfl (by decide +kernel) rfl)) (jSl (jS_getf (ci := 0) (index := 9) (f := 1) (ref := "java/util/ArrayList") jin0 rfl (by decide) (jmem 154 (by decide +kernel)) (Or.inl rfl) (by decide +kernel) rfl))))) (jSN (jSN (jSN (jSl (jS_empty (index := 39) (jmem 152 (by decide +kernel)) (by decide +kernel) rfl)) (jSl (jS_acmpeq (off := 28) (by decide +kernel) (by decide) rfl))) (jSN (jSl (jS_iloadn (q := 2) rfl (by decide +kernel) rfl)) (jSl (jS_iloadn (q := 1) rfl (by decide +kernel) rfl)))) (jSN (jSN (jSl (jS_iloadn (q := 2) rfl (by decide +kernel) rfl)) (jSl (jS_isub (by decide +kernel) rfl))) (jSN (jSl (jS_iloadn (q := 2) rfl (by decide +kernel) rfl)) (jSN (jSl (jS_iconst (n := 1) (v := (nI 1)) (by decide +kernel) (by decide +kernel) rfl)) (jSl (jS_ishr (by decide +kernel) rfl))))))) (jSN (jSN (jSN (jSN (jSl (jS_scall (index := 73) (Z := jy_J8_newLength_cabcc) jok_J8_newLength_cabcc (jmem 266 (by decide +kernel)) (jmem 265 (by decide +kernel)) (by decide) (by decide) (by decide +kernel) rfl)) (jSl (jS_istoren (q := 3) rfl (by decide +kernel) rfl (by decide)))) (jSN (jSl (jS_aloadn (q := 0) rfl (by decide +kernel) rfl)) (jSl (jS_aloadn (q := 0) rfl (by decide +kernel) rfl)))) (jSN (jSN (jSl (jS_getf (ci := 0) (index := 9) (f := 1) (ref := "java/util/ArrayList") jin0 rfl (by decide) (jmem 154 (by decide +kernel)) (Or.inl rfl) (by decide +kernel) rfl)) (jSl (jS_iloadn (q := 3) rfl (by decide +kernel) rfl))) (jSN (jSl (jS_scall (index := 66) (Z := jy_J7_copyOf_1904c) jok_J7_copyOf_1904c (jmem 274 (by decide +kernel)) (jmem 273 (by decide +kernel)) (by decide) (by decide) (by decide +kernel) rfl)) (jSN (jSl (jS_dup_x1 (by decide +kernel) rfl)) (jSl (jS_putf (ci := 0) (index := 9) (f := 1) (ref := "java/util/ArrayList") jin0 rfl tyJx4a65c_ok nmJx4a65c (by decide) (jmem 154 (by decide +kernel)) (Or.inl rfl) rfl (by decide +kernel) rfl)))))) (jSN (jSN (jSN (jSl (jS_aret rfl (Or.inr ⟨_, rfl⟩) (by decide +kernel))) (jSl (jS_aloadn (q := 0) rfl (by decide +kernel) rfl))) (jSN (jSl (jS_bipush (n := 10) (v := (nI 10)) (by decide +kernel) (by decide +kernel) rfl)) (jSl (jS_iloadn (q := 1) rfl (by decide +kernel) rfl)))) (jSN (jSN (jSl (jS_scall (index := 79) (Z := jy_J9_max_7cf53) jok_J9_max_7cf53 (jmem 100 (by decide +kernel)) (jmem 302 (by decide +kernel)) (by decide) (by decide) (by decide +kernel) rfl)) (jSl (jS_anew (index := 7) (by decide) (jmem 303 (by decide +kernel)) (by decide) (by decide +kernel) rfl))) (jSN (jSl (jS_dup_x1 (by decide +kernel) rfl)) (jSN (jSl (jS_putf (ci := 0) (index := 9) (f := 1) (ref := "java/util/ArrayList") jin0 rfl tyJx4a65c_ok nmJx4a65c (by decide) (jmem 154 (by decide +kernel)) (Or.inl rfl) rfl (by decide +kernel) rfl)) (jSl (jS_aret rfl (Or.inr ⟨_, rfl⟩) (by decide +kernel)))))))))
def jy_Jx4a65c_grow_d5877 : jY := (yJx4a65c_grow_d5877, cJx4a65c_grow_d5877, 1, some (.array (.object "java/lang/Object")), 5, 1, 40)
theorem jok_Jx4a65c_grow_d5877 : jYok jy_Jx4a65c_grow_d5877 0 := ⟨(jmem 260 (by decide +kernel)), (jmem 59 (by decide +kernel)), ⟨by decide +kernel, by decide +kernel⟩, by decide +kernel⟩
def jp_Jx4a65c_grow_d5877 (Φ : jPost) : Nat → jI := (jN 5 (jN 1 (jlf 0 (ji_aload 0 1)) (jN 2 (jlf 1 (ji_aload 0 2)) (jlf 2 (ji_getf 0 2 5)))) (jN 7 (jN 6 (jlf 5 (ji_push (.int (nI 1)) 6)) (jlf 6 (ji_iadd 7))) (jN 10 (jlf 7 (ji_vcall jy_Jx4a65c_grow_92f84 1 0 1 40 10)) (jlf 10 (ji_aret Φ 1 40)))))
set_option maxRecDepth 20000 in
theorem js_Jx4a65c_grow_d5877 (Φ : jPost) : ∀ pc, jS jy_Jx4a65c_grow_d5877 Φ pc (jp_Jx4a65c_grow_d5877 Φ pc) := (jSN (jSN (jSl (jS_aloadn (q := 0) rfl (by decide +kernel) rfl)) (jSN (jSl (jS_aloadn (q := 0) rfl (by decide +kernel) rfl)) (jSl (jS_getf (ci := 0) (index := 48) (f := 2) (ref := "java/util/ArrayList") jin0 rfl (by decide) (jmem 155 (by decide +kernel)) (Or.inl rfl) (by decide +kernel) rfl)))) (jSN (jSN (jSl (jS_iconst (n := 1) (v := (nI 1)) (by decide +kernel) (by decide +kernel) rfl)) (jSl (jS_iadd (by decide +kernel) rfl))) (jSN (jSl (jS_vcall (index := 69) (Z := jy_Jx4a65c_grow_92f84) (ci := 0) jok_Jx4a65c_grow_92f84 (jmem 263 (by decide +kernel)) (jmem 5 (by decide +kernel)) rfl (jmem 261 (by decide +kernel)) (by decide) (by decide) (by decide +kernel) rfl)) (jSl (jS_aret rfl (Or.inr ⟨_, rfl⟩) (by decide +kernel))))))
def jy_Jx4a65c_add_72be8 : jY := (yJx4a65c_add_72be8, cJx4a65c_add_72be8, 4, none, 6, 1, 40)
theorem jok_Jx4a65c_add_72be8 : jYok jy_Jx4a65c_add_72be8 3 := ⟨(jmem 256 (by decide +kernel)), (jmem 59 (by decide +kernel)), ⟨by decide +kernel, by decide +kernel⟩, by decide +kernel⟩
def jp_Jx4a65c_add_72be8 (Φ : jPost) : Nat → jI := (jN 12 (jN 6 (jN 2 (jN 1 (jlf 0 (ji_iload 3 1)) (jlf 1 (ji_aload 2 2))) (jN 3 (jlf 2 (ji_alen 3)) (jlf 3 (ji_icmpne 11 6)))) (jN 10 (jN 7 (jlf 6 (ji_aload 0 7)) (jlf 7 (ji_vcall jy_Jx4a65c_grow_d5877 0 0 1 40 10))) (jN 11 (jlf 10 (ji_astore 2 11)) (jlf 11 (ji_aload 2 12))))) (jN 16 (jN 14 (jN 13 (jlf 12 (ji_iload 3 13)) (jlf 13 (ji_aload 1 14))) (jN 15 (jlf 14 (ji_aast 15)) (jlf 15 (ji_aload 0 16)))) (jN 18 (jN 17 (jlf 16 (ji_iload 3 17)) (jlf 17 (ji_push (.int (nI 1)) 18))) (jN 19 (jlf 18 (ji_iadd 19)) (jN 22 (jlf 19 (ji_putf 0 2 .int 22)) (jlf 22 (ji_ret Φ 1 40)))))))
set_option maxRecDepth 20000 in
theorem js_Jx4a65c_add_72be8 (Φ : jPost) : ∀ pc, jS jy_Jx4a65c_add_72be8 Φ pc (jp_Jx4a65c_add_72be8 Φ pc) := (jSN (jSN (jSN (jSN (jSl (jS_iloadn (q := 3) rfl (by decide +kernel) rfl)) (jSl (jS_aloadn (q := 2) rfl (by decide +kernel) rfl))) (jSN (jSl (jS_alen (by decide +kernel) rfl)) (jSl (jS_icmpne (off := 8) (by decide +kernel) (by decide) rfl)))) (jSN (jSN (jSl (jS_aloadn (q := 0) rfl (by decide +kernel) rfl)) (jSl (jS_vcall (index := 129) (Z := jy_Jx4a65c_grow_d5877) (ci := 0) jok_Jx4a65c_grow_d5877 (jmem 259 (by decide +kernel)) (jmem 4 (by decide +kernel)) rfl (jmem 257 (by decide +kernel)) (by decide) (by decide) (by decide +kernel) rfl))) (jSN (jSl (jS_astoren (q := 2) rfl (by decide +kernel) rfl (by decide))) (jSl (jS_aloadn (q := 2) rfl (by decide +kernel) rfl))))) (jSN (jSN (jSN (jSl (jS_iloadn (q := 3) rfl (by decide +kernel) rfl)) (jSl (jS_aloadn (q := 1) rfl (by decide +kernel) rfl))) (jSN (jSl (jS_aast (by decide +kernel) rfl)) (jSl (jS_aloadn (q := 0) rfl (by decide +kernel) rfl)))) (jSN (jSN (jSl (jS_iloadn (q := 3) rfl (by decide +kernel) rfl)) (jSl (jS_iconst (n := 1) (v := (nI 1)) (by decide +kernel) (by decide +kernel) rfl))) (jSN (jSl (jS_iadd (by decide +kernel) rfl)) (jSN (jSl (jS_putf (ci := 0) (index := 48) (f := 2) (ref := "java/util/ArrayList") jin0 rfl tyJx4a65c_ok nmJx4a65c (by decide) (jmem 155 (by decide +kernel)) (Or.inl rfl) rfl (by decide +kernel) rfl)) (jSl (jS_ret rfl (by decide +kernel))))))))
def jy_Jx4a65c_add_9ea2d : jY := (yJx4a65c_add_9ea2d, cJx4a65c_add_9ea2d, 2, some .boolean, 7, 1, 40)
theorem jok_Jx4a65c_add_9ea2d : jYok jy_Jx4a65c_add_9ea2d 1 := ⟨(jmem 252 (by decide +kernel)), (jmem 59 (by decide +kernel)), ⟨by decide +kernel, by decide +kernel⟩, by decide +kernel⟩
def jp_Jx4a65c_add_9ea2d (Φ : jPost) : Nat → jI := (jN 11 (jN 5 (jN 1 (jlf 0 (ji_aload 0 1)) (jN 2 (jlf 1 (ji_dup 2)) (jlf 2 (ji_getf 0 0 5)))) (jN 7 (jN 6 (jlf 5 (ji_push (.int (nI 1)) 6)) (jlf 6 (ji_iadd 7))) (jN 10 (jlf 7 (ji_putf 0 0 .int 10)) (jlf 10 (ji_aload 0 11))))) (jN 17 (jN 13 (jN 12 (jlf 11 (ji_aload 1 12)) (jlf 12 (ji_aload 0 13))) (jN 16 (jlf 13 (ji_getf 0 1 16)) (jlf 16 (ji_aload 0 17)))) (jN 23 (jN 20 (jlf 17 (ji_getf 0 2 20)) (jlf 20 (ji_vcall jy_Jx4a65c_add_72be8 3 0 1 40 23))) (jN 24 (jlf 23 (ji_push (.int (nI 1)) 24)) (jlf 24 (ji_zret Φ 1 40))))))
set_option maxRecDepth 20000 in
theorem js_Jx4a65c_add_9ea2d (Φ : jPost) : ∀ pc, jS jy_Jx4a65c_add_9ea2d Φ pc (jp_Jx4a65c_add_9ea2d Φ pc) := (jSN (jSN (jSN (jSl (jS_aloadn (q := 0) rfl (by decide +kernel) rfl)) (jSN (jSl (jS_dup (by decide +kernel) rfl)) (jSl (jS_getf (ci := 0) (index := 63) (f := 0) (ref := "java/util/ArrayList") jin0 rfl (by decide) (jmem 157 (by decide +kernel)) (Or.inr (jmem 158 (by decide +kernel))) (by decide +kernel) rfl)))) (jSN (jSN (jSl (jS_iconst (n := 1) (v := (nI 1)) (by decide +kernel) (by decide +kernel) rfl)) (jSl (jS_iadd (by decide +kernel) rfl))) (jSN (jSl (jS_putf (ci := 0) (index := 63) (f := 0) (ref := "java/util/ArrayList") jin0 rfl tyJx4a65c_ok nmJx4a65c (by decide) (jmem 157 (by decide +kernel)) (Or.inr (jmem 158 (by decide +kernel))) rfl (by decide +kernel) rfl)) (jSl (jS_aloadn (q := 0) rfl (by decide +kernel) rfl))))) (jSN (jSN (jSN (jSl (jS_aloadn (q := 1) rfl (by decide +kernel) rfl)) (jSl (jS_aloadn (q := 0) rfl (by decide +kernel) rfl))) (jSN (jSl (jS_getf (ci := 0) (index := 9) (f := 1) (ref := "java/util/ArrayList") jin0 rfl (by decide) (jmem 154 (by decide +kernel)) (Or.inl rfl) (by decide +kernel) rfl)) (jSl (jS_aloadn (q := 0) rfl (by decide +kernel) rfl)))) (jSN (jSN (jSl (jS_getf (ci := 0) (index := 48) (f := 2) (ref := "java/util/ArrayList") jin0 rfl (by decide) (jmem 155 (by decide +kernel)) (Or.inl rfl) (by decide +kernel) rfl)) (jSl (jS_vcall (index := 131) (Z := jy_Jx4a65c_add_72be8) (ci := 0) jok_Jx4a65c_add_72be8 (jmem 255 (by decide +kernel)) (jmem 3 (by decide +kernel)) rfl (jmem 253 (by decide +kernel)) (by decide) (by decide) (by decide +kernel) rfl))) (jSN (jSl (jS_iconst (n := 1) (v := (nI 1)) (by decide +kernel) (by decide +kernel) rfl)) (jSl (jS_zret rfl (by decide +kernel)))))))
def jy_J7_fill_53178 : jY := (yJ7_fill_53178, cJ7_fill_53178, 4, none, 1, 0, 0)
theorem jok_J7_fill_53178 : jYok jy_J7_fill_53178 2 := ⟨(jmem 501 (by decide +kernel)), (jmem 66 (by decide +kernel)), ⟨by decide +kernel, by decide +kernel⟩, by decide +kernel⟩
def jp_J7_fill_53178 (Φ : jPost) : Nat → jI := (jN 7 (jN 3 (jN 1 (jlf 0 (ji_push (.int (nI 0)) 1)) (jN 2 (jlf 1 (ji_istore 2 2)) (jlf 2 (ji_aload 0 3)))) (jN 5 (jN 4 (jlf 3 (ji_alen 4)) (jlf 4 (ji_istore 3 5))) (jN 6 (jlf 5 (ji_iload 2 6)) (jlf 6 (ji_iload 3 7))))) (jN 13 (jN 11 (jN 10 (jlf 7 (ji_icmpge 20 10)) (jlf 10 (ji_aload 0 11))) (jN 12 (jlf 11 (ji_iload 2 12)) (jlf 12 (ji_iload 1 13)))) (jN 17 (jN 14 (jlf 13 (ji_iast 14)) (jlf 14 (ji_iinc 2 (nI 1) 17))) (jN 20 (jlf 17 (ji_goto 5)) (jlf 20 (ji_ret Φ 0 0))))))
set_option maxRecDepth 20000 in
theorem js_J7_fill_53178 (Φ : jPost) : ∀ pc, jS jy_J7_fill_53178 Φ pc (jp_J7_fill_53178 Φ pc) := (jSN (jSN (jSN (jSl (jS_iconst (n := 0) (v := (nI 0)) (by decide +kernel) (by decide +kernel) rfl)) (jSN (jSl (jS_istoren (q := 2) rfl (by decide +kernel) rfl (by decide))) (jSl (jS_aloadn (q := 0) rfl (by decide +kernel) rfl)))) (jSN (jSN (jSl (jS_alen (by decide +kernel) rfl)) (jSl (jS_istoren (q := 3) rfl (by decide +kernel) rfl (by decide)))) (jSN (jSl (jS_iloadn (q := 2) rfl (by decide +kernel) rfl)) (jSl (jS_iloadn (q := 3) rfl (by decide +kernel) rfl))))) (jSN (jSN (jSN (jSl (jS_icmpge (off := 13) (by decide +kernel) (by decide) rfl)) (jSl (jS_aloadn (q := 0) rfl (by decide +kernel) rfl))) (jSN (jSl (jS_iloadn (q := 2) rfl (by decide +kernel) rfl)) (jSl (jS_iloadn (q := 1) rfl (by decide +kernel) rfl)))) (jSN (jSN (jSl (jS_iast (by decide +kernel) rfl)) (jSl (jS_iinc (n := 1) (v := (nI 1)) (by decide +kernel) (by decide +kernel) rfl (by decide)))) (jSN (jSl (jS_goto (off := -12) (by decide +kernel) (by decide))) (jSl (jS_ret rfl (by decide +kernel)))))))
def jy_Jx4a65c_size_8abf5 : jY := (yJx4a65c_size_8abf5, cJx4a65c_size_8abf5, 1, some .int, 1, 0, 0)
theorem jok_Jx4a65c_size_8abf5 : jYok jy_Jx4a65c_size_8abf5 0 := ⟨(jmem 307 (by decide +kernel)), (jmem 59 (by decide +kernel)), ⟨by decide +kernel, by decide +kernel⟩, by decide +kernel⟩
def jp_Jx4a65c_size_8abf5 (Φ : jPost) : Nat → jI := (jN 1 (jlf 0 (ji_aload 0 1)) (jN 4 (jlf 1 (ji_getf 0 2 4)) (jlf 4 (ji_iret Φ 0 0))))
set_option maxRecDepth 20000 in
theorem js_Jx4a65c_size_8abf5 (Φ : jPost) : ∀ pc, jS jy_Jx4a65c_size_8abf5 Φ pc (jp_Jx4a65c_size_8abf5 Φ pc) := (jSN (jSl (jS_aloadn (q := 0) rfl (by decide +kernel) rfl)) (jSN (jSl (jS_getf (ci := 0) (index := 48) (f := 2) (ref := "java/util/ArrayList") jin0 rfl (by decide) (jmem 155 (by decide +kernel)) (Or.inl rfl) (by decide +kernel) rfl)) (jSl (jS_iret rfl (by decide +kernel)))))
def jy_J3_checkIndex_8e157 : jY := (yJ3_checkIndex_8e157, cJ3_checkIndex_8e157, 3, some .int, 1, 0, 0)
theorem jok_J3_checkIndex_8e157 : jYok jy_J3_checkIndex_8e157 3 := ⟨(jmem 317 (by decide +kernel)), (jmem 69 (by decide +kernel)), ⟨by decide +kernel, by decide +kernel⟩, by decide +kernel⟩
def jp_J3_checkIndex_8e157 (Φ : jPost) : Nat → jI := (jN 10 (jN 5 (jN 1 (jlf 0 (ji_iload 0 1)) (jN 4 (jlf 1 (ji_iflt 9 4)) (jlf 4 (ji_iload 0 5)))) (jN 6 (jlf 5 (ji_iload 1 6)) (jN 9 (jlf 6 (ji_icmplt 16 9)) (jlf 9 (ji_aload 2 10))))) (jN 15 (jN 11 (jlf 10 (ji_iload 0 11)) (jN 12 (jlf 11 (ji_iload 1 12)) (jlf 12 (jbad)))) (jN 16 (jlf 15 (jbad)) (jN 17 (jlf 16 (ji_iload 0 17)) (jlf 17 (ji_iret Φ 0 0))))))
set_option maxRecDepth 20000 in
theorem js_J3_checkIndex_8e157 (Φ : jPost) : ∀ pc, jS jy_J3_checkIndex_8e157 Φ pc (jp_J3_checkIndex_8e157 Φ pc) := (jSN (jSN (jSN (jSl (jS_iloadn (q := 0) rfl (by decide +kernel) rfl)) (jSN (jSl (jS_iflt (off := 8) (by decide +kernel) (by decide) rfl)) (jSl (jS_iloadn (q := 0) rfl (by decide +kernel) rfl)))) (jSN (jSl (jS_iloadn (q := 1) rfl (by decide +kernel) rfl)) (jSN (jSl (jS_icmplt (off := 10) (by decide +kernel) (by decide) rfl)) (jSl (jS_aloadn (q := 2) rfl (by decide +kernel) rfl))))) (jSN (jSN (jSl (jS_iloadn (q := 0) rfl (by decide +kernel) rfl)) (jSN (jSl (jS_iloadn (q := 1) rfl (by decide +kernel) rfl)) (jSl (jS_bad)))) (jSN (jSl (jS_bad)) (jSN (jSl (jS_iloadn (q := 0) rfl (by decide +kernel) rfl)) (jSl (jS_iret rfl (by decide +kernel)))))))
def jy_J15_checkIndex_7cf53 : jY := (yJ15_checkIndex_7cf53, cJ15_checkIndex_7cf53, 2, some .int, 2, 0, 0)
theorem jok_J15_checkIndex_7cf53 : jYok jy_J15_checkIndex_7cf53 2 := ⟨(jmem 314 (by decide +kernel)), (jmem 68 (by decide +kernel)), ⟨by decide +kernel, by decide +kernel⟩, by decide +kernel⟩
def jp_J15_checkIndex_7cf53 (Φ : jPost) : Nat → jI := (jN 2 (jN 1 (jlf 0 (ji_iload 0 1)) (jlf 1 (ji_iload 1 2))) (jN 3 (jlf 2 (ji_push .null 3)) (jN 6 (jlf 3 (ji_call jy_J3_checkIndex_8e157 3 0 0 6)) (jlf 6 (ji_iret Φ 0 0)))))
set_option maxRecDepth 20000 in
theorem js_J15_checkIndex_7cf53 (Φ : jPost) : ∀ pc, jS jy_J15_checkIndex_7cf53 Φ pc (jp_J15_checkIndex_7cf53 Φ pc) := (jSN (jSN (jSl (jS_iloadn (q := 0) rfl (by decide +kernel) rfl)) (jSl (jS_iloadn (q := 1) rfl (by decide +kernel) rfl))) (jSN (jSl (jS_null (by decide +kernel) rfl)) (jSN (jSl (jS_scall (index := 105) (Z := jy_J3_checkIndex_8e157) jok_J3_checkIndex_8e157 (jmem 316 (by decide +kernel)) (jmem 315 (by decide +kernel)) (by decide) (by decide) (by decide +kernel) rfl)) (jSl (jS_iret rfl (by decide +kernel))))))
def jy_Jx4a65c_fastRemove_b59b0 : jY := (yJx4a65c_fastRemove_b59b0, cJx4a65c_fastRemove_b59b0, 4, none, 1, 0, 0)
theorem jok_Jx4a65c_fastRemove_b59b0 : jYok jy_Jx4a65c_fastRemove_b59b0 2 := ⟨(jmem 321 (by decide +kernel)), (jmem 59 (by decide +kernel)), ⟨by decide +kernel, by decide +kernel⟩, by decide +kernel⟩
def jp_Jx4a65c_fastRemove_b59b0 (Φ : jPost) : Nat → jI := (jN 24 (jN 14 (jN 6 (jN 2 (jN 1 (jlf 0 (ji_aload 0 1)) (jlf 1 (ji_dup 2))) (jN 5 (jlf 2 (ji_getf 0 0 5)) (jlf 5 (ji_push (.int (nI 1)) 6)))) (jN 10 (jN 7 (jlf 6 (ji_iadd 7)) (jlf 7 (ji_putf 0 0 .int 10))) (jN 11 (jlf 10 (ji_aload 0 11)) (jlf 11 (ji_getf 0 2 14))))) (jN 18 (jN 16 (jN 15 (jlf 14 (ji_push (.int (nI 1)) 15)) (jlf 15 (ji_isub 16))) (jN 17 (jlf 16 (ji_dup 17)) (jlf 17 (ji_istore 3 18)))) (jN 22 (jN 19 (jlf 18 (ji_iload 2 19)) (jlf 19 (ji_icmple 34 22))) (jN 23 (jlf 22 (ji_aload 1 23)) (jlf 23 (ji_iload 2 24)))))) (jN 34 (jN 28 (jN 26 (jN 25 (jlf 24 (ji_push (.int (nI 1)) 25)) (jlf 25 (ji_iadd 26))) (jN 27 (jlf 26 (ji_aload 1 27)) (jlf 27 (ji_iload 2 28)))) (jN 30 (jN 29 (jlf 28 (ji_iload 3 29)) (jlf 29 (ji_iload 2 30))) (jN 31 (jlf 30 (ji_isub 31)) (jlf 31 (ji_copyo 34))))) (jN 38 (jN 36 (jN 35 (jlf 34 (ji_aload 1 35)) (jlf 35 (ji_aload 0 36))) (jN 37 (jlf 36 (ji_iload 3 37)) (jlf 37 (ji_dup_x1 38)))) (jN 42 (jN 41 (jlf 38 (ji_putf 0 2 .int 41)) (jlf 41 (ji_push .null 42))) (jN 43 (jlf 42 (ji_aast 43)) (jlf 43 (ji_ret Φ 0 0)))))))
set_option maxRecDepth 20000 in
theorem js_Jx4a65c_fastRemove_b59b0 (Φ : jPost) : ∀ pc, jS jy_Jx4a65c_fastRemove_b59b0 Φ pc (jp_Jx4a65c_fastRemove_b59b0 Φ pc) := (jSN (jSN (jSN (jSN (jSN (jSl (jS_aloadn (q := 0) rfl (by decide +kernel) rfl)) (jSl (jS_dup (by decide +kernel) rfl))) (jSN (jSl (jS_getf (ci := 0) (index := 63) (f := 0) (ref := "java/util/ArrayList") jin0 rfl (by decide) (jmem 157 (by decide +kernel)) (Or.inr (jmem 158 (by decide +kernel))) (by decide +kernel) rfl)) (jSl (jS_iconst (n := 1) (v := (nI 1)) (by decide +kernel) (by decide +kernel) rfl)))) (jSN (jSN (jSl (jS_iadd (by decide +kernel) rfl)) (jSl (jS_putf (ci := 0) (index := 63) (f := 0) (ref := "java/util/ArrayList") jin0 rfl tyJx4a65c_ok nmJx4a65c (by decide) (jmem 157 (by decide +kernel)) (Or.inr (jmem 158 (by decide +kernel))) rfl (by decide +kernel) rfl))) (jSN (jSl (jS_aloadn (q := 0) rfl (by decide +kernel) rfl)) (jSl (jS_getf (ci := 0) (index := 48) (f := 2) (ref := "java/util/ArrayList") jin0 rfl (by decide) (jmem 155 (by decide +kernel)) (Or.inl rfl) (by decide +kernel) rfl))))) (jSN (jSN (jSN (jSl (jS_iconst (n := 1) (v := (nI 1)) (by decide +kernel) (by decide +kernel) rfl)) (jSl (jS_isub (by decide +kernel) rfl))) (jSN (jSl (jS_dup (by decide +kernel) rfl)) (jSl (jS_istoren (q := 3) rfl (by decide +kernel) rfl (by decide))))) (jSN (jSN (jSl (jS_iloadn (q := 2) rfl (by decide +kernel) rfl)) (jSl (jS_icmple (off := 15) (by decide +kernel) (by decide) rfl))) (jSN (jSl (jS_aloadn (q := 1) rfl (by decide +kernel) rfl)) (jSl (jS_iloadn (q := 2) rfl (by decide +kernel) rfl)))))) (jSN (jSN (jSN (jSN (jSl (jS_iconst (n := 1) (v := (nI 1)) (by decide +kernel) (by decide +kernel) rfl)) (jSl (jS_iadd (by decide +kernel) rfl))) (jSN (jSl (jS_aloadn (q := 1) rfl (by decide +kernel) rfl)) (jSl (jS_iloadn (q := 2) rfl (by decide +kernel) rfl)))) (jSN (jSN (jSl (jS_iloadn (q := 3) rfl (by decide +kernel) rfl)) (jSl (jS_iloadn (q := 2) rfl (by decide +kernel) rfl))) (jSN (jSl (jS_isub (by decide +kernel) rfl)) (jSl (jS_copyo (index := 112) (jmem 322 (by decide +kernel)) (jmem 301 (by decide +kernel)) (jmem 300 (by decide +kernel)) (jmem 67 (by decide +kernel)) (by decide) (by decide +kernel) rfl))))) (jSN (jSN (jSN (jSl (jS_aloadn (q := 1) rfl (by decide +kernel) rfl)) (jSl (jS_aloadn (q := 0) rfl (by decide +kernel) rfl))) (jSN (jSl (jS_iloadn (q := 3) rfl (by decide +kernel) rfl)) (jSl (jS_dup_x1 (by decide +kernel) rfl)))) (jSN (jSN (jSl (jS_putf (ci := 0) (index := 48) (f := 2) (ref := "java/util/ArrayList") jin0 rfl tyJx4a65c_ok nmJx4a65c (by decide) (jmem 155 (by decide +kernel)) (Or.inl rfl) rfl (by decide +kernel) rfl)) (jSl (jS_null (by decide +kernel) rfl))) (jSN (jSl (jS_aast (by decide +kernel) rfl)) (jSl (jS_ret rfl (by decide +kernel))))))))
def jy_Jx4a65c_remove_915e3 : jY := (yJx4a65c_remove_915e3, cJx4a65c_remove_915e3, 4, some (.object "java/lang/Object"), 3, 0, 0)
theorem jok_Jx4a65c_remove_915e3 : jYok jy_Jx4a65c_remove_915e3 1 := ⟨(jmem 311 (by decide +kernel)), (jmem 59 (by decide +kernel)), ⟨by decide +kernel, by decide +kernel⟩, by decide +kernel⟩
def jp_Jx4a65c_remove_915e3 (Φ : jPost) : Nat → jI := (jN 15 (jN 8 (jN 2 (jN 1 (jlf 0 (ji_iload 1 1)) (jlf 1 (ji_aload 0 2))) (jN 5 (jlf 2 (ji_getf 0 2 5)) (jlf 5 (ji_call jy_J15_checkIndex_7cf53 2 0 0 8)))) (jN 10 (jN 9 (jlf 8 (ji_pop 9)) (jlf 9 (ji_aload 0 10))) (jN 13 (jlf 10 (ji_getf 0 1 13)) (jN 14 (jlf 13 (ji_astore 2 14)) (jlf 14 (ji_aload 2 15)))))) (jN 19 (jN 17 (jN 16 (jlf 15 (ji_iload 1 16)) (jlf 16 (ji_aald 17))) (jN 18 (jlf 17 (ji_astore 3 18)) (jlf 18 (ji_aload 0 19)))) (jN 21 (jN 20 (jlf 19 (ji_aload 2 20)) (jlf 20 (ji_iload 1 21))) (jN 24 (jlf 21 (ji_vcall jy_Jx4a65c_fastRemove_b59b0 2 0 0 0 24)) (jN 25 (jlf 24 (ji_aload 3 25)) (jlf 25 (ji_aret Φ 0 0)))))))
set_option maxRecDepth 20000 in
theorem js_Jx4a65c_remove_915e3 (Φ : jPost) : ∀ pc, jS jy_Jx4a65c_remove_915e3 Φ pc (jp_Jx4a65c_remove_915e3 Φ pc) := (jSN (jSN (jSN (jSN (jSl (jS_iloadn (q := 1) rfl (by decide +kernel) rfl)) (jSl (jS_aloadn (q := 0) rfl (by decide +kernel) rfl))) (jSN (jSl (jS_getf (ci := 0) (index := 48) (f := 2) (ref := "java/util/ArrayList") jin0 rfl (by decide) (jmem 155 (by decide +kernel)) (Or.inl rfl) (by decide +kernel) rfl)) (jSl (jS_scall (index := 118) (Z := jy_J15_checkIndex_7cf53) jok_J15_checkIndex_7cf53 (jmem 313 (by decide +kernel)) (jmem 312 (by decide +kernel)) (by decide) (by decide) (by decide +kernel) rfl)))) (jSN (jSN (jSl (jS_pop (by decide +kernel) rfl)) (jSl (jS_aloadn (q := 0) rfl (by decide +kernel) rfl))) (jSN (jSl (jS_getf (ci := 0) (index := 9) (f := 1) (ref := "java/util/ArrayList") jin0 rfl (by decide) (jmem 154 (by decide +kernel)) (Or.inl rfl) (by decide +kernel) rfl)) (jSN (jSl (jS_astoren (q := 2) rfl (by decide +kernel) rfl (by decide))) (jSl (jS_aloadn (q := 2) rfl (by decide +kernel) rfl)))))) (jSN (jSN (jSN (jSl (jS_iloadn (q := 1) rfl (by decide +kernel) rfl)) (jSl (jS_aald (by decide +kernel) rfl))) (jSN (jSl (jS_astoren (q := 3) rfl (by decide +kernel) rfl (by decide))) (jSl (jS_aloadn (q := 0) rfl (by decide +kernel) rfl)))) (jSN (jSN (jSl (jS_aloadn (q := 2) rfl (by decide +kernel) rfl)) (jSl (jS_iloadn (q := 1) rfl (by decide +kernel) rfl))) (jSN (jSl (jS_vcall (index := 144) (Z := jy_Jx4a65c_fastRemove_b59b0) (ci := 0) jok_Jx4a65c_fastRemove_b59b0 (jmem 320 (by decide +kernel)) (jmem 6 (by decide +kernel)) rfl (jmem 318 (by decide +kernel)) (by decide) (by decide) (by decide +kernel) rfl)) (jSN (jSl (jS_aloadn (q := 3) rfl (by decide +kernel) rfl)) (jSl (jS_aret rfl (Or.inl ⟨_, rfl⟩) (by decide +kernel))))))))
def jy_Jx4a65c_isEmpty_aae02 : jY := (yJx4a65c_isEmpty_aae02, cJx4a65c_isEmpty_aae02, 1, some .boolean, 1, 0, 0)
theorem jok_Jx4a65c_isEmpty_aae02 : jYok jy_Jx4a65c_isEmpty_aae02 0 := ⟨(jmem 718 (by decide +kernel)), (jmem 59 (by decide +kernel)), ⟨by decide +kernel, by decide +kernel⟩, by decide +kernel⟩
def jp_Jx4a65c_isEmpty_aae02 (Φ : jPost) : Nat → jI := (jN 7 (jN 1 (jlf 0 (ji_aload 0 1)) (jN 4 (jlf 1 (ji_getf 0 2 4)) (jlf 4 (ji_ifne 11 7)))) (jN 11 (jN 8 (jlf 7 (ji_push (.int (nI 1)) 8)) (jlf 8 (ji_goto 12))) (jN 12 (jlf 11 (ji_push (.int (nI 0)) 12)) (jlf 12 (ji_zret Φ 0 0)))))
set_option maxRecDepth 20000 in
theorem js_Jx4a65c_isEmpty_aae02 (Φ : jPost) : ∀ pc, jS jy_Jx4a65c_isEmpty_aae02 Φ pc (jp_Jx4a65c_isEmpty_aae02 Φ pc) := (jSN (jSN (jSl (jS_aloadn (q := 0) rfl (by decide +kernel) rfl)) (jSN (jSl (jS_getf (ci := 0) (index := 48) (f := 2) (ref := "java/util/ArrayList") jin0 rfl (by decide) (jmem 155 (by decide +kernel)) (Or.inl rfl) (by decide +kernel) rfl)) (jSl (jS_ifne (off := 7) (by decide +kernel) (by decide) rfl)))) (jSN (jSN (jSl (jS_iconst (n := 1) (v := (nI 1)) (by decide +kernel) (by decide +kernel) rfl)) (jSl (jS_goto (off := 4) (by decide +kernel) (by decide)))) (jSN (jSl (jS_iconst (n := 0) (v := (nI 0)) (by decide +kernel) (by decide +kernel) rfl)) (jSl (jS_zret rfl (by decide +kernel))))))
def jy_Jx4a65c_elementData_915e3 : jY := (yJx4a65c_elementData_915e3, cJx4a65c_elementData_915e3, 2, some (.object "java/lang/Object"), 1, 0, 0)
theorem jok_Jx4a65c_elementData_915e3 : jYok jy_Jx4a65c_elementData_915e3 1 := ⟨(jmem 824 (by decide +kernel)), (jmem 59 (by decide +kernel)), ⟨by decide +kernel, by decide +kernel⟩, by decide +kernel⟩
def jp_Jx4a65c_elementData_915e3 (Φ : jPost) : Nat → jI := (jN 4 (jN 1 (jlf 0 (ji_aload 0 1)) (jlf 1 (ji_getf 0 1 4))) (jN 5 (jlf 4 (ji_iload 1 5)) (jN 6 (jlf 5 (ji_aald 6)) (jlf 6 (ji_aret Φ 0 0)))))
set_option maxRecDepth 20000 in
theorem js_Jx4a65c_elementData_915e3 (Φ : jPost) : ∀ pc, jS jy_Jx4a65c_elementData_915e3 Φ pc (jp_Jx4a65c_elementData_915e3 Φ pc) := (jSN (jSN (jSl (jS_aloadn (q := 0) rfl (by decide +kernel) rfl)) (jSl (jS_getf (ci := 0) (index := 9) (f := 1) (ref := "java/util/ArrayList") jin0 rfl (by decide) (jmem 154 (by decide +kernel)) (Or.inl rfl) (by decide +kernel) rfl))) (jSN (jSl (jS_iloadn (q := 1) rfl (by decide +kernel) rfl)) (jSN (jSl (jS_aald (by decide +kernel) rfl)) (jSl (jS_aret rfl (Or.inl ⟨_, rfl⟩) (by decide +kernel))))))
def jy_Jx4a65c_get_915e3 : jY := (yJx4a65c_get_915e3, cJx4a65c_get_915e3, 2, some (.object "java/lang/Object"), 3, 0, 0)
theorem jok_Jx4a65c_get_915e3 : jYok jy_Jx4a65c_get_915e3 1 := ⟨(jmem 820 (by decide +kernel)), (jmem 59 (by decide +kernel)), ⟨by decide +kernel, by decide +kernel⟩, by decide +kernel⟩
def jp_Jx4a65c_get_915e3 (Φ : jPost) : Nat → jI := (jN 8 (jN 2 (jN 1 (jlf 0 (ji_iload 1 1)) (jlf 1 (ji_aload 0 2))) (jN 5 (jlf 2 (ji_getf 0 2 5)) (jlf 5 (ji_call jy_J15_checkIndex_7cf53 2 0 0 8)))) (jN 10 (jN 9 (jlf 8 (ji_pop 9)) (jlf 9 (ji_aload 0 10))) (jN 11 (jlf 10 (ji_iload 1 11)) (jN 14 (jlf 11 (ji_vcall jy_Jx4a65c_elementData_915e3 1 0 0 0 14)) (jlf 14 (ji_aret Φ 0 0))))))
set_option maxRecDepth 20000 in
theorem js_Jx4a65c_get_915e3 (Φ : jPost) : ∀ pc, jS jy_Jx4a65c_get_915e3 Φ pc (jp_Jx4a65c_get_915e3 Φ pc) := (jSN (jSN (jSN (jSl (jS_iloadn (q := 1) rfl (by decide +kernel) rfl)) (jSl (jS_aloadn (q := 0) rfl (by decide +kernel) rfl))) (jSN (jSl (jS_getf (ci := 0) (index := 48) (f := 2) (ref := "java/util/ArrayList") jin0 rfl (by decide) (jmem 155 (by decide +kernel)) (Or.inl rfl) (by decide +kernel) rfl)) (jSl (jS_scall (index := 118) (Z := jy_J15_checkIndex_7cf53) jok_J15_checkIndex_7cf53 (jmem 313 (by decide +kernel)) (jmem 312 (by decide +kernel)) (by decide) (by decide) (by decide +kernel) rfl)))) (jSN (jSN (jSl (jS_pop (by decide +kernel) rfl)) (jSl (jS_aloadn (q := 0) rfl (by decide +kernel) rfl))) (jSN (jSl (jS_iloadn (q := 1) rfl (by decide +kernel) rfl)) (jSN (jSl (jS_vcall (index := 123) (Z := jy_Jx4a65c_elementData_915e3) (ci := 0) jok_Jx4a65c_elementData_915e3 (jmem 822 (by decide +kernel)) (jmem 823 (by decide +kernel)) rfl (jmem 821 (by decide +kernel)) (by decide) (by decide) (by decide +kernel) rfl)) (jSl (jS_aret rfl (Or.inl ⟨_, rfl⟩) (by decide +kernel)))))))
def jy_Jx4a65c_clear_da8c8 : jY := (yJx4a65c_clear_da8c8, cJx4a65c_clear_da8c8, 4, none, 1, 0, 0)
theorem jok_Jx4a65c_clear_da8c8 : jYok jy_Jx4a65c_clear_da8c8 0 := ⟨(jmem 889 (by decide +kernel)), (jmem 59 (by decide +kernel)), ⟨by decide +kernel, by decide +kernel⟩, by decide +kernel⟩
def jp_Jx4a65c_clear_da8c8 (Φ : jPost) : Nat → jI := (jN 21 (jN 10 (jN 5 (jN 1 (jlf 0 (ji_aload 0 1)) (jN 2 (jlf 1 (ji_dup 2)) (jlf 2 (ji_getf 0 0 5)))) (jN 6 (jlf 5 (ji_push (.int (nI 1)) 6)) (jN 7 (jlf 6 (ji_iadd 7)) (jlf 7 (ji_putf 0 0 .int 10))))) (jN 15 (jN 11 (jlf 10 (ji_aload 0 11)) (jN 14 (jlf 11 (ji_getf 0 1 14)) (jlf 14 (ji_astore 1 15)))) (jN 19 (jN 16 (jlf 15 (ji_aload 0 16)) (jlf 16 (ji_getf 0 2 19))) (jN 20 (jlf 19 (ji_istore 2 20)) (jlf 20 (ji_aload 0 21)))))) (jN 32 (jN 26 (jN 22 (jlf 21 (ji_push (.int (nI 0)) 22)) (jN 23 (jlf 22 (ji_dup_x1 23)) (jlf 23 (ji_putf 0 2 .int 26)))) (jN 28 (jN 27 (jlf 26 (ji_istore 3 27)) (jlf 27 (ji_iload 3 28))) (jN 29 (jlf 28 (ji_iload 2 29)) (jlf 29 (ji_icmpge 42 32))))) (jN 35 (jN 33 (jlf 32 (ji_aload 1 33)) (jN 34 (jlf 33 (ji_iload 3 34)) (jlf 34 (ji_push .null 35)))) (jN 39 (jN 36 (jlf 35 (ji_aast 36)) (jlf 36 (ji_iinc 3 (nI 1) 39))) (jN 42 (jlf 39 (ji_goto 27)) (jlf 42 (ji_ret Φ 0 0)))))))
set_option maxRecDepth 20000 in
theorem js_Jx4a65c_clear_da8c8 (Φ : jPost) : ∀ pc, jS jy_Jx4a65c_clear_da8c8 Φ pc (jp_Jx4a65c_clear_da8c8 Φ pc) := (jSN (jSN (jSN (jSN (jSl (jS_aloadn (q := 0) rfl (by decide +kernel) rfl)) (jSN (jSl (jS_dup (by decide +kernel) rfl)) (jSl (jS_getf (ci := 0) (index := 63) (f := 0) (ref := "java/util/ArrayList") jin0 rfl (by decide) (jmem 157 (by decide +kernel)) (Or.inr (jmem 158 (by decide +kernel))) (by decide +kernel) rfl)))) (jSN (jSl (jS_iconst (n := 1) (v := (nI 1)) (by decide +kernel) (by decide +kernel) rfl)) (jSN (jSl (jS_iadd (by decide +kernel) rfl)) (jSl (jS_putf (ci := 0) (index := 63) (f := 0) (ref := "java/util/ArrayList") jin0 rfl tyJx4a65c_ok nmJx4a65c (by decide) (jmem 157 (by decide +kernel)) (Or.inr (jmem 158 (by decide +kernel))) rfl (by decide +kernel) rfl))))) (jSN (jSN (jSl (jS_aloadn (q := 0) rfl (by decide +kernel) rfl)) (jSN (jSl (jS_getf (ci := 0) (index := 9) (f := 1) (ref := "java/util/ArrayList") jin0 rfl (by decide) (jmem 154 (by decide +kernel)) (Or.inl rfl) (by decide +kernel) rfl)) (jSl (jS_astoren (q := 1) rfl (by decide +kernel) rfl (by decide))))) (jSN (jSN (jSl (jS_aloadn (q := 0) rfl (by decide +kernel) rfl)) (jSl (jS_getf (ci := 0) (index := 48) (f := 2) (ref := "java/util/ArrayList") jin0 rfl (by decide) (jmem 155 (by decide +kernel)) (Or.inl rfl) (by decide +kernel) rfl))) (jSN (jSl (jS_istoren (q := 2) rfl (by decide +kernel) rfl (by decide))) (jSl (jS_aloadn (q := 0) rfl (by decide +kernel) rfl)))))) (jSN (jSN (jSN (jSl (jS_iconst (n := 0) (v := (nI 0)) (by decide +kernel) (by decide +kernel) rfl)) (jSN (jSl (jS_dup_x1 (by decide +kernel) rfl)) (jSl (jS_putf (ci := 0) (index := 48) (f := 2) (ref := "java/util/ArrayList") jin0 rfl tyJx4a65c_ok nmJx4a65c (by decide) (jmem 155 (by decide +kernel)) (Or.inl rfl) rfl (by decide +kernel) rfl)))) (jSN (jSN (jSl (jS_istoren (q := 3) rfl (by decide +kernel) rfl (by decide))) (jSl (jS_iloadn (q := 3) rfl (by decide +kernel) rfl))) (jSN (jSl (jS_iloadn (q := 2) rfl (by decide +kernel) rfl)) (jSl (jS_icmpge (off := 13) (by decide +kernel) (by decide) rfl))))) (jSN (jSN (jSl (jS_aloadn (q := 1) rfl (by decide +kernel) rfl)) (jSN (jSl (jS_iloadn (q := 3) rfl (by decide +kernel) rfl)) (jSl (jS_null (by decide +kernel) rfl)))) (jSN (jSN (jSl (jS_aast (by decide +kernel) rfl)) (jSl (jS_iinc (n := 1) (v := (nI 1)) (by decide +kernel) (by decide +kernel) rfl (by decide)))) (jSN (jSl (jS_goto (off := -12) (by decide +kernel) (by decide))) (jSl (jS_ret rfl (by decide +kernel))))))))
def jy_J9_abs_f6c48 : jY := (yJ9_abs_f6c48, cJ9_abs_f6c48, 1, some .float, 1, 0, 0)
theorem jok_J9_abs_f6c48 : jYok jy_J9_abs_f6c48 1 := ⟨(jmem 1226 (by decide +kernel)), (jmem 56 (by decide +kernel)), ⟨by decide +kernel, by decide +kernel⟩, by decide +kernel⟩
def jp_J9_abs_f6c48 (Φ : jPost) : Nat → jI := (jN 6 (jN 1 (jlf 0 (ji_fload 0 1)) (jN 4 (jlf 1 (ji_f2bits 4)) (jlf 4 (ji_push (.int (nI 2147483647)) 6)))) (jN 7 (jlf 6 (ji_iand 7)) (jN 10 (jlf 7 (ji_bits2f 10)) (jlf 10 (ji_fret Φ 0 0)))))
set_option maxRecDepth 20000 in
theorem js_J9_abs_f6c48 (Φ : jPost) : ∀ pc, jS jy_J9_abs_f6c48 Φ pc (jp_J9_abs_f6c48 Φ pc) := (jSN (jSN (jSl (jS_floadn (q := 0) rfl (by decide +kernel) rfl)) (jSN (jSl (jS_f2bits (index := 68) (jmem 1227 (by decide +kernel)) (jmem 1229 (by decide +kernel)) (jmem 1228 (by decide +kernel)) (jmem 74 (by decide +kernel)) (by decide) (by decide +kernel) rfl)) (jSl (jS_ldci (index := 134) (v := nI 2147483647) (jmem 1230 (by decide +kernel)) (by decide +kernel) rfl)))) (jSN (jSl (jS_iand (by decide +kernel) rfl)) (jSN (jSl (jS_bits2f (index := 162) (jmem 1231 (by decide +kernel)) (jmem 1233 (by decide +kernel)) (jmem 1232 (by decide +kernel)) (jmem 74 (by decide +kernel)) (by decide) (by decide +kernel) rfl)) (jSl (jS_fret rfl (by decide +kernel))))))
def jy_Jxf58ca_isNaN_12338 : jY := (yJxf58ca_isNaN_12338, cJxf58ca_isNaN_12338, 1, some .boolean, 1, 0, 0)
theorem jok_Jxf58ca_isNaN_12338 : jYok jy_Jxf58ca_isNaN_12338 1 := ⟨(jmem 1239 (by decide +kernel)), (jmem 74 (by decide +kernel)), ⟨by decide +kernel, by decide +kernel⟩, by decide +kernel⟩
def jp_Jxf58ca_isNaN_12338 (Φ : jPost) : Nat → jI := (jN 6 (jN 2 (jN 1 (jlf 0 (ji_fload 0 1)) (jlf 1 (ji_fload 0 2))) (jN 3 (jlf 2 (ji_fcmp .l 3)) (jlf 3 (ji_ifeq 10 6)))) (jN 10 (jN 7 (jlf 6 (ji_push (.int (nI 1)) 7)) (jlf 7 (ji_goto 11))) (jN 11 (jlf 10 (ji_push (.int (nI 0)) 11)) (jlf 11 (ji_zret Φ 0 0)))))
set_option maxRecDepth 20000 in
theorem js_Jxf58ca_isNaN_12338 (Φ : jPost) : ∀ pc, jS jy_Jxf58ca_isNaN_12338 Φ pc (jp_Jxf58ca_isNaN_12338 Φ pc) := (jSN (jSN (jSN (jSl (jS_floadn (q := 0) rfl (by decide +kernel) rfl)) (jSl (jS_floadn (q := 0) rfl (by decide +kernel) rfl))) (jSN (jSl (jS_fcmp (by decide +kernel) rfl)) (jSl (jS_ifeq (off := 7) (by decide +kernel) (by decide) rfl)))) (jSN (jSN (jSl (jS_iconst (n := 1) (v := (nI 1)) (by decide +kernel) (by decide +kernel) rfl)) (jSl (jS_goto (off := 4) (by decide +kernel) (by decide)))) (jSN (jSl (jS_iconst (n := 0) (v := (nI 0)) (by decide +kernel) (by decide +kernel) rfl)) (jSl (jS_zret rfl (by decide +kernel))))))
def jy_Jxf58ca_floatToIntBits_5c35a : jY := (yJxf58ca_floatToIntBits_5c35a, cJxf58ca_floatToIntBits_5c35a, 1, some .int, 2, 0, 0)
theorem jok_Jxf58ca_floatToIntBits_5c35a : jYok jy_Jxf58ca_floatToIntBits_5c35a 1 := ⟨(jmem 1236 (by decide +kernel)), (jmem 74 (by decide +kernel)), ⟨by decide +kernel, by decide +kernel⟩, by decide +kernel⟩
def jp_Jxf58ca_floatToIntBits_5c35a (Φ : jPost) : Nat → jI := (jN 8 (jN 4 (jN 1 (jlf 0 (ji_fload 0 1)) (jlf 1 (ji_call jy_Jxf58ca_isNaN_12338 1 0 0 4))) (jN 7 (jlf 4 (ji_ifne 12 7)) (jlf 7 (ji_fload 0 8)))) (jN 12 (jN 11 (jlf 8 (ji_f2bits 11)) (jlf 11 (ji_iret Φ 0 0))) (jN 14 (jlf 12 (ji_push (.int (nI 2143289344)) 14)) (jlf 14 (ji_iret Φ 0 0)))))
set_option maxRecDepth 20000 in
theorem js_Jxf58ca_floatToIntBits_5c35a (Φ : jPost) : ∀ pc, jS jy_Jxf58ca_floatToIntBits_5c35a Φ pc (jp_Jxf58ca_floatToIntBits_5c35a Φ pc) := (jSN (jSN (jSN (jSl (jS_floadn (q := 0) rfl (by decide +kernel) rfl)) (jSl (jS_scall (index := 59) (Z := jy_Jxf58ca_isNaN_12338) jok_Jxf58ca_isNaN_12338 (jmem 1238 (by decide +kernel)) (jmem 1237 (by decide +kernel)) (by decide) (by decide) (by decide +kernel) rfl))) (jSN (jSl (jS_ifne (off := 8) (by decide +kernel) (by decide) rfl)) (jSl (jS_floadn (q := 0) rfl (by decide +kernel) rfl)))) (jSN (jSN (jSl (jS_f2bits (index := 74) (jmem 1240 (by decide +kernel)) (jmem 1229 (by decide +kernel)) (jmem 1228 (by decide +kernel)) (jmem 74 (by decide +kernel)) (by decide) (by decide +kernel) rfl)) (jSl (jS_iret rfl (by decide +kernel)))) (jSN (jSl (jS_ldci (index := 77) (v := nI 2143289344) (jmem 1241 (by decide +kernel)) (by decide +kernel) rfl)) (jSl (jS_iret rfl (by decide +kernel))))))
def jy_Jxe99ae_isNaN_b9ae7 : jY := (yJxe99ae_isNaN_b9ae7, cJxe99ae_isNaN_b9ae7, 2, some .boolean, 1, 0, 0)
theorem jok_Jxe99ae_isNaN_b9ae7 : jYok jy_Jxe99ae_isNaN_b9ae7 1 := ⟨(jmem 1256 (by decide +kernel)), (jmem 75 (by decide +kernel)), ⟨by decide +kernel, by decide +kernel⟩, by decide +kernel⟩
def jp_Jxe99ae_isNaN_b9ae7 (Φ : jPost) : Nat → jI := (jN 6 (jN 2 (jN 1 (jlf 0 (ji_dload 0 1)) (jlf 1 (ji_dload 0 2))) (jN 3 (jlf 2 (ji_dcmp .l 3)) (jlf 3 (ji_ifeq 10 6)))) (jN 10 (jN 7 (jlf 6 (ji_push (.int (nI 1)) 7)) (jlf 7 (ji_goto 11))) (jN 11 (jlf 10 (ji_push (.int (nI 0)) 11)) (jlf 11 (ji_zret Φ 0 0)))))
set_option maxRecDepth 20000 in
theorem js_Jxe99ae_isNaN_b9ae7 (Φ : jPost) : ∀ pc, jS jy_Jxe99ae_isNaN_b9ae7 Φ pc (jp_Jxe99ae_isNaN_b9ae7 Φ pc) := (jSN (jSN (jSN (jSl (jS_dloadn (q := 0) rfl (by decide +kernel) rfl)) (jSl (jS_dloadn (q := 0) rfl (by decide +kernel) rfl))) (jSN (jSl (jS_dcmp (by decide +kernel) rfl)) (jSl (jS_ifeq (off := 7) (by decide +kernel) (by decide) rfl)))) (jSN (jSN (jSl (jS_iconst (n := 1) (v := (nI 1)) (by decide +kernel) (by decide +kernel) rfl)) (jSl (jS_goto (off := 4) (by decide +kernel) (by decide)))) (jSN (jSl (jS_iconst (n := 0) (v := (nI 0)) (by decide +kernel) (by decide +kernel) rfl)) (jSl (jS_zret rfl (by decide +kernel))))))
def jy_Jxe99ae_doubleToLongBits_ccdee : jY := (yJxe99ae_doubleToLongBits_ccdee, cJxe99ae_doubleToLongBits_ccdee, 2, some .long, 2, 0, 0)
theorem jok_Jxe99ae_doubleToLongBits_ccdee : jYok jy_Jxe99ae_doubleToLongBits_ccdee 1 := ⟨(jmem 1253 (by decide +kernel)), (jmem 75 (by decide +kernel)), ⟨by decide +kernel, by decide +kernel⟩, by decide +kernel⟩
def jp_Jxe99ae_doubleToLongBits_ccdee (Φ : jPost) : Nat → jI := (jN 8 (jN 4 (jN 1 (jlf 0 (ji_dload 0 1)) (jlf 1 (ji_call jy_Jxe99ae_isNaN_b9ae7 1 0 0 4))) (jN 7 (jlf 4 (ji_ifne 12 7)) (jlf 7 (ji_dload 0 8)))) (jN 12 (jN 11 (jlf 8 (ji_d2bits 11)) (jlf 11 (ji_lret Φ 0 0))) (jN 15 (jlf 12 (ji_push (.long (9221120237041090560)) 15)) (jlf 15 (ji_lret Φ 0 0)))))
set_option maxRecDepth 20000 in
theorem js_Jxe99ae_doubleToLongBits_ccdee (Φ : jPost) : ∀ pc, jS jy_Jxe99ae_doubleToLongBits_ccdee Φ pc (jp_Jxe99ae_doubleToLongBits_ccdee Φ pc) := (jSN (jSN (jSN (jSl (jS_dloadn (q := 0) rfl (by decide +kernel) rfl)) (jSl (jS_scall (index := 122) (Z := jy_Jxe99ae_isNaN_b9ae7) jok_Jxe99ae_isNaN_b9ae7 (jmem 1255 (by decide +kernel)) (jmem 1254 (by decide +kernel)) (by decide) (by decide) (by decide +kernel) rfl))) (jSN (jSl (jS_ifne (off := 8) (by decide +kernel) (by decide) rfl)) (jSl (jS_dloadn (q := 0) rfl (by decide +kernel) rfl)))) (jSN (jSN (jSl (jS_d2bits (index := 134) (jmem 1257 (by decide +kernel)) (jmem 1259 (by decide +kernel)) (jmem 1258 (by decide +kernel)) (jmem 75 (by decide +kernel)) (by decide) (by decide +kernel) rfl)) (jSl (jS_lret rfl (by decide +kernel)))) (jSN (jSl (jS_ldc2l (index := 137) (v := 9221120237041090560) (jmem 1260 (by decide +kernel)) (by decide +kernel) rfl)) (jSl (jS_lret rfl (by decide +kernel))))))
end
section
/-! programs by table (wip/whole/genp.py) -/
def jy_X1_init : jY := (yX1_init, cX1_init, 5, none, 2, 0, 0)
theorem jok_X1_init : jYok jy_X1_init 4 := ⟨(jmem 859 (by decide +kernel)), (jmem 79 (by decide +kernel)), ⟨by decide +kernel, by decide +kernel⟩, by decide +kernel⟩
def jp_X1_init (Φ : jPost) : Nat → jI := (jN 11 (jN 5 (jN 1 (jlf 0 (ji_aload 0 1)) (jN 4 (jlf 1 (ji_objinit 4)) (jlf 4 (ji_aload 0 5)))) (jN 9 (jN 6 (jlf 5 (ji_aload 1 6)) (jlf 6 (ji_putf 1 0 (.array (.object "QuasiSums$Sum")) 9))) (jN 10 (jlf 9 (ji_aload 0 10)) (jlf 10 (ji_aload 2 11))))) (jN 19 (jN 15 (jN 14 (jlf 11 (ji_putf 1 1 (.object "QuasiSums$Order") 14)) (jlf 14 (ji_aload 0 15))) (jN 16 (jlf 15 (ji_aload 3 16)) (jlf 16 (ji_putf 1 2 (.array .float) 19)))) (jN 22 (jN 20 (jlf 19 (ji_aload 0 20)) (jlf 20 (ji_aload 4 22))) (jN 25 (jlf 22 (ji_putf 1 3 (.array (.object "QuasiSums$Item")) 25)) (jlf 25 (ji_ret Φ 0 0))))))
set_option maxRecDepth 20000 in
theorem js_X1_init (Φ : jPost) : ∀ pc, jS jy_X1_init Φ pc (jp_X1_init Φ pc) := (jSN (jSN (jSN (jSl (jS_aloadn (q := 0) rfl (by decide +kernel) rfl)) (jSN (jSl (jS_objinit (index := 1) (jmem 860 (by decide +kernel)) (jmem 86 (by decide +kernel)) (jmem 87 (by decide +kernel)) (by decide) (by decide +kernel) rfl)) (jSl (jS_aloadn (q := 0) rfl (by decide +kernel) rfl)))) (jSN (jSN (jSl (jS_aloadn (q := 1) rfl (by decide +kernel) rfl)) (jSl (jS_putF (ci := 1) (index := 7) (f := 0) (ref := "QuasiSums$Image") jin1 rfl tyX1_ok nmX1 (by decide) (jmem 861 (by decide +kernel)) rfl rfl rfl rfl (by decide +kernel) rfl))) (jSN (jSl (jS_aloadn (q := 0) rfl (by decide +kernel) rfl)) (jSl (jS_aloadn (q := 2) rfl (by decide +kernel) rfl))))) (jSN (jSN (jSN (jSl (jS_putF (ci := 1) (index := 13) (f := 1) (ref := "QuasiSums$Image") jin1 rfl tyX1_ok nmX1 (by decide) (jmem 863 (by decide +kernel)) rfl rfl rfl rfl (by decide +kernel) rfl)) (jSl (jS_aloadn (q := 0) rfl (by decide +kernel) rfl))) (jSN (jSl (jS_aloadn (q := 3) rfl (by decide +kernel) rfl)) (jSl (jS_putF (ci := 1) (index := 17) (f := 2) (ref := "QuasiSums$Image") jin1 rfl tyX1_ok nmX1 (by decide) (jmem 865 (by decide +kernel)) rfl rfl rfl rfl (by decide +kernel) rfl)))) (jSN (jSN (jSl (jS_aloadn (q := 0) rfl (by decide +kernel) rfl)) (jSl (jS_aload (by decide +kernel) rfl))) (jSN (jSl (jS_putF (ci := 1) (index := 21) (f := 3) (ref := "QuasiSums$Image") jin1 rfl tyX1_ok nmX1 (by decide) (jmem 867 (by decide +kernel)) rfl rfl rfl rfl (by decide +kernel) rfl)) (jSl (jS_ret rfl (by decide +kernel)))))))
def jy_X2_init : jY := (yX2_init, cX2_init, 1, none, 2, 0, 0)
theorem jok_X2_init : jYok jy_X2_init 0 := ⟨(jmem 173 (by decide +kernel)), (jmem 60 (by decide +kernel)), ⟨by decide +kernel, by decide +kernel⟩, by decide +kernel⟩
def jp_X2_init (Φ : jPost) : Nat → jI := (jN 1 (jlf 0 (ji_aload 0 1)) (jN 4 (jlf 1 (ji_objinit 4)) (jlf 4 (ji_ret Φ 0 0))))
set_option maxRecDepth 20000 in
theorem js_X2_init (Φ : jPost) : ∀ pc, jS jy_X2_init Φ pc (jp_X2_init Φ pc) := (jSN (jSl (jS_aloadn (q := 0) rfl (by decide +kernel) rfl)) (jSN (jSl (jS_objinit (index := 1) (jmem 174 (by decide +kernel)) (jmem 86 (by decide +kernel)) (jmem 87 (by decide +kernel)) (by decide) (by decide +kernel) rfl)) (jSl (jS_ret rfl (by decide +kernel)))))
def jy_X3_init : jY := (yX3_init, cX3_init, 1, none, 2, 0, 0)
theorem jok_X3_init : jYok jy_X3_init 0 := ⟨(jmem 359 (by decide +kernel)), (jmem 70 (by decide +kernel)), ⟨by decide +kernel, by decide +kernel⟩, by decide +kernel⟩
def jp_X3_init (Φ : jPost) : Nat → jI := (jN 6 (jN 4 (jN 1 (jlf 0 (ji_aload 0 1)) (jlf 1 (ji_objinit 4))) (jN 5 (jlf 4 (ji_aload 0 5)) (jlf 5 (ji_push (.int (nI 0)) 6)))) (jN 10 (jN 9 (jlf 6 (ji_putf 2 0 .boolean 9)) (jlf 9 (ji_aload 0 10))) (jN 11 (jlf 10 (ji_push (.int (nI 0)) 11)) (jN 14 (jlf 11 (ji_putf 2 1 .int 14)) (jlf 14 (ji_ret Φ 0 0))))))
set_option maxRecDepth 20000 in
theorem js_X3_init (Φ : jPost) : ∀ pc, jS jy_X3_init Φ pc (jp_X3_init Φ pc) := (jSN (jSN (jSN (jSl (jS_aloadn (q := 0) rfl (by decide +kernel) rfl)) (jSl (jS_objinit (index := 1) (jmem 360 (by decide +kernel)) (jmem 86 (by decide +kernel)) (jmem 87 (by decide +kernel)) (by decide) (by decide +kernel) rfl))) (jSN (jSl (jS_aloadn (q := 0) rfl (by decide +kernel) rfl)) (jSl (jS_iconst (n := 0) (v := (nI 0)) (by decide +kernel) (by decide +kernel) rfl)))) (jSN (jSN (jSl (jS_putf (ci := 2) (index := 7) (f := 0) (ref := "QuasiSums$Longs") jin2 rfl tyX3_ok nmX3 (by decide) (jmem 361 (by decide +kernel)) (Or.inl rfl) rfl (by decide +kernel) rfl)) (jSl (jS_aloadn (q := 0) rfl (by decide +kernel) rfl))) (jSN (jSl (jS_iconst (n := 0) (v := (nI 0)) (by decide +kernel) (by decide +kernel) rfl)) (jSN (jSl (jS_putf (ci := 2) (index := 13) (f := 1) (ref := "QuasiSums$Longs") jin2 rfl tyX3_ok nmX3 (by decide) (jmem 363 (by decide +kernel)) (Or.inl rfl) rfl (by decide +kernel) rfl)) (jSl (jS_ret rfl (by decide +kernel)))))))
def jy_X3_tooGreat : jY := (yX3_tooGreat, cX3_tooGreat, 2, none, 1, 0, 0)
theorem jok_X3_tooGreat : jYok jy_X3_tooGreat 1 := ⟨(jmem 392 (by decide +kernel)), (jmem 70 (by decide +kernel)), ⟨by decide +kernel, by decide +kernel⟩, by decide +kernel⟩
def jp_X3_tooGreat (Φ : jPost) : Nat → jI := (jN 9 (jN 4 (jN 1 (jlf 0 (ji_aload 0 1)) (jlf 1 (ji_getf 2 0 4))) (jN 7 (jlf 4 (ji_ifne 17 7)) (jN 8 (jlf 7 (ji_aload 0 8)) (jlf 8 (ji_push (.int (nI 1)) 9))))) (jN 13 (jN 12 (jlf 9 (ji_putf 2 0 .boolean 12)) (jlf 12 (ji_aload 0 13))) (jN 14 (jlf 13 (ji_iload 1 14)) (jN 17 (jlf 14 (ji_putf 2 1 .int 17)) (jlf 17 (ji_ret Φ 0 0))))))
set_option maxRecDepth 20000 in
theorem js_X3_tooGreat (Φ : jPost) : ∀ pc, jS jy_X3_tooGreat Φ pc (jp_X3_tooGreat Φ pc) := (jSN (jSN (jSN (jSl (jS_aloadn (q := 0) rfl (by decide +kernel) rfl)) (jSl (jS_getf (ci := 2) (index := 7) (f := 0) (ref := "QuasiSums$Longs") jin2 rfl (by decide) (jmem 361 (by decide +kernel)) (Or.inl rfl) (by decide +kernel) rfl))) (jSN (jSl (jS_ifne (off := 13) (by decide +kernel) (by decide) rfl)) (jSN (jSl (jS_aloadn (q := 0) rfl (by decide +kernel) rfl)) (jSl (jS_iconst (n := 1) (v := (nI 1)) (by decide +kernel) (by decide +kernel) rfl))))) (jSN (jSN (jSl (jS_putf (ci := 2) (index := 7) (f := 0) (ref := "QuasiSums$Longs") jin2 rfl tyX3_ok nmX3 (by decide) (jmem 361 (by decide +kernel)) (Or.inl rfl) rfl (by decide +kernel) rfl)) (jSl (jS_aloadn (q := 0) rfl (by decide +kernel) rfl))) (jSN (jSl (jS_iloadn (q := 1) rfl (by decide +kernel) rfl)) (jSN (jSl (jS_putf (ci := 2) (index := 13) (f := 1) (ref := "QuasiSums$Longs") jin2 rfl tyX3_ok nmX3 (by decide) (jmem 363 (by decide +kernel)) (Or.inl rfl) rfl (by decide +kernel) rfl)) (jSl (jS_ret rfl (by decide +kernel)))))))
def jy_X3_plus : jY := (yX3_plus, cX3_plus, 8, some .long, 2, 0, 0)
theorem jok_X3_plus : jYok jy_X3_plus 3 := ⟨(jmem 388 (by decide +kernel)), (jmem 70 (by decide +kernel)), ⟨by decide +kernel, by decide +kernel⟩, by decide +kernel⟩
def jp_X3_plus (Φ : jPost) : Nat → jI := (jN 12 (jN 5 (jN 2 (jN 1 (jlf 0 (ji_lload 1 1)) (jlf 1 (ji_lload 3 2))) (jN 3 (jlf 2 (ji_ladd 3)) (jlf 3 (ji_lstore 6 5)))) (jN 8 (jN 6 (jlf 5 (ji_lload 1 6)) (jlf 6 (ji_lload 6 8))) (jN 9 (jlf 8 (ji_lxor 9)) (jN 10 (jlf 9 (ji_lload 3 10)) (jlf 10 (ji_lload 6 12)))))) (jN 19 (jN 14 (jN 13 (jlf 12 (ji_lxor 13)) (jlf 13 (ji_land 14))) (jN 15 (jlf 14 (ji_push (.long 0) 15)) (jN 16 (jlf 15 (ji_lcmp 16)) (jlf 16 (ji_ifge 25 19))))) (jN 22 (jN 20 (jlf 19 (ji_aload 0 20)) (jlf 20 (ji_iload 5 22))) (jN 25 (jlf 22 (ji_vcall jy_X3_tooGreat 1 2 0 0 25)) (jN 27 (jlf 25 (ji_lload 6 27)) (jlf 27 (ji_lret Φ 0 0)))))))
set_option maxRecDepth 20000 in
theorem js_X3_plus (Φ : jPost) : ∀ pc, jS jy_X3_plus Φ pc (jp_X3_plus Φ pc) := (jSN (jSN (jSN (jSN (jSl (jS_lloadn (q := 1) rfl (by decide +kernel) rfl)) (jSl (jS_lloadn (q := 3) rfl (by decide +kernel) rfl))) (jSN (jSl (jS_ladd (by decide +kernel) rfl)) (jSl (jS_lstore (by decide +kernel) rfl (by decide))))) (jSN (jSN (jSl (jS_lloadn (q := 1) rfl (by decide +kernel) rfl)) (jSl (jS_lload (by decide +kernel) rfl))) (jSN (jSl (jS_lxor (by decide +kernel) rfl)) (jSN (jSl (jS_lloadn (q := 3) rfl (by decide +kernel) rfl)) (jSl (jS_lload (by decide +kernel) rfl)))))) (jSN (jSN (jSN (jSl (jS_lxor (by decide +kernel) rfl)) (jSl (jS_land (by decide +kernel) rfl))) (jSN (jSl (jS_lconst (n := 0) (v := 0) (by decide +kernel) (by decide +kernel) rfl)) (jSN (jSl (jS_lcmp (by decide +kernel) rfl)) (jSl (jS_ifge (off := 9) (by decide +kernel) (by decide) rfl))))) (jSN (jSN (jSl (jS_aloadn (q := 0) rfl (by decide +kernel) rfl)) (jSl (jS_iload (by decide +kernel) rfl))) (jSN (jSl (jS_vcall (index := 17) (Z := jy_X3_tooGreat) (ci := 2) jok_X3_tooGreat (jmem 391 (by decide +kernel)) (jmem 11 (by decide +kernel)) rfl (jmem 389 (by decide +kernel)) (by decide) (by decide) (by decide +kernel) rfl)) (jSN (jSl (jS_lload (by decide +kernel) rfl)) (jSl (jS_lret rfl (by decide +kernel))))))))
def jy_X3_otherSign : jY := (yX3_otherSign, cX3_otherSign, 4, some .long, 2, 0, 0)
theorem jok_X3_otherSign : jYok jy_X3_otherSign 2 := ⟨(jmem 440 (by decide +kernel)), (jmem 70 (by decide +kernel)), ⟨by decide +kernel, by decide +kernel⟩, by decide +kernel⟩
def jp_X3_otherSign (Φ : jPost) : Nat → jI := (jN 9 (jN 4 (jN 1 (jlf 0 (ji_lload 1 1)) (jlf 1 (ji_push (.long (-9223372036854775808)) 4))) (jN 5 (jlf 4 (ji_lcmp 5)) (jN 8 (jlf 5 (ji_ifne 13 8)) (jlf 8 (ji_aload 0 9))))) (jN 13 (jN 10 (jlf 9 (ji_iload 3 10)) (jlf 10 (ji_vcall jy_X3_tooGreat 1 2 0 0 13))) (jN 14 (jlf 13 (ji_lload 1 14)) (jN 15 (jlf 14 (ji_lneg 15)) (jlf 15 (ji_lret Φ 0 0))))))
set_option maxRecDepth 20000 in
theorem js_X3_otherSign (Φ : jPost) : ∀ pc, jS jy_X3_otherSign Φ pc (jp_X3_otherSign Φ pc) := (jSN (jSN (jSN (jSl (jS_lloadn (q := 1) rfl (by decide +kernel) rfl)) (jSl (jS_ldc2l (index := 29) (v := -9223372036854775808) (jmem 441 (by decide +kernel)) (by decide +kernel) rfl))) (jSN (jSl (jS_lcmp (by decide +kernel) rfl)) (jSN (jSl (jS_ifne (off := 8) (by decide +kernel) (by decide) rfl)) (jSl (jS_aloadn (q := 0) rfl (by decide +kernel) rfl))))) (jSN (jSN (jSl (jS_iloadn (q := 3) rfl (by decide +kernel) rfl)) (jSl (jS_vcall (index := 17) (Z := jy_X3_tooGreat) (ci := 2) jok_X3_tooGreat (jmem 391 (by decide +kernel)) (jmem 11 (by decide +kernel)) rfl (jmem 389 (by decide +kernel)) (by decide) (by decide) (by decide +kernel) rfl))) (jSN (jSl (jS_lloadn (q := 1) rfl (by decide +kernel) rfl)) (jSN (jSl (jS_lneg (by decide +kernel) rfl)) (jSl (jS_lret rfl (by decide +kernel)))))))
def jy_X3_times : jY := (yX3_times, cX3_times, 8, some .long, 3, 0, 0)
theorem jok_X3_times : jYok jy_X3_times 3 := ⟨(jmem 496 (by decide +kernel)), (jmem 70 (by decide +kernel)), ⟨by decide +kernel, by decide +kernel⟩, by decide +kernel⟩
def jp_X3_times (Φ : jPost) : Nat → jI := (jN 22 (jN 12 (jN 5 (jN 1 (jlf 0 (ji_lload 1 1)) (jN 4 (jlf 1 (ji_push (.long (-1)) 4)) (jlf 4 (ji_lcmp 5)))) (jN 9 (jN 8 (jlf 5 (ji_ifne 16 8)) (jlf 8 (ji_aload 0 9))) (jN 10 (jlf 9 (ji_lload 3 10)) (jlf 10 (ji_iload 5 12))))) (jN 17 (jN 15 (jlf 12 (ji_vcall jy_X3_otherSign 2 2 0 0 15)) (jN 16 (jlf 15 (ji_lret Φ 0 0)) (jlf 16 (ji_lload 1 17)))) (jN 19 (jN 18 (jlf 17 (ji_lload 3 18)) (jlf 18 (ji_lmul 19))) (jN 21 (jlf 19 (ji_lstore 6 21)) (jlf 21 (ji_lload 1 22)))))) (jN 32 (jN 27 (jN 23 (jlf 22 (ji_push (.long 0) 23)) (jN 24 (jlf 23 (ji_lcmp 24)) (jlf 24 (ji_ifeq 42 27)))) (jN 30 (jN 29 (jlf 27 (ji_lload 6 29)) (jlf 29 (ji_lload 1 30))) (jN 31 (jlf 30 (ji_ldiv 31)) (jlf 31 (ji_lload 3 32))))) (jN 37 (jN 33 (jlf 32 (ji_lcmp 33)) (jN 36 (jlf 33 (ji_ifeq 42 36)) (jlf 36 (ji_aload 0 37)))) (jN 42 (jN 39 (jlf 37 (ji_iload 5 39)) (jlf 39 (ji_vcall jy_X3_tooGreat 1 2 0 0 42))) (jN 44 (jlf 42 (ji_lload 6 44)) (jlf 44 (ji_lret Φ 0 0)))))))
set_option maxRecDepth 20000 in
theorem js_X3_times (Φ : jPost) : ∀ pc, jS jy_X3_times Φ pc (jp_X3_times Φ pc) := (jSN (jSN (jSN (jSN (jSl (jS_lloadn (q := 1) rfl (by decide +kernel) rfl)) (jSN (jSl (jS_ldc2l (index := 21) (v := -1) (jmem 497 (by decide +kernel)) (by decide +kernel) rfl)) (jSl (jS_lcmp (by decide +kernel) rfl)))) (jSN (jSN (jSl (jS_ifne (off := 11) (by decide +kernel) (by decide) rfl)) (jSl (jS_aloadn (q := 0) rfl (by decide +kernel) rfl))) (jSN (jSl (jS_lloadn (q := 3) rfl (by decide +kernel) rfl)) (jSl (jS_iload (by decide +kernel) rfl))))) (jSN (jSN (jSl (jS_vcall (index := 23) (Z := jy_X3_otherSign) (ci := 2) jok_X3_otherSign (jmem 438 (by decide +kernel)) (jmem 439 (by decide +kernel)) rfl (jmem 498 (by decide +kernel)) (by decide) (by decide) (by decide +kernel) rfl)) (jSN (jSl (jS_lret rfl (by decide +kernel))) (jSl (jS_lloadn (q := 1) rfl (by decide +kernel) rfl)))) (jSN (jSN (jSl (jS_lloadn (q := 3) rfl (by decide +kernel) rfl)) (jSl (jS_lmul (by decide +kernel) rfl))) (jSN (jSl (jS_lstore (by decide +kernel) rfl (by decide))) (jSl (jS_lloadn (q := 1) rfl (by decide +kernel) rfl)))))) (jSN (jSN (jSN (jSl (jS_lconst (n := 0) (v := 0) (by decide +kernel) (by decide +kernel) rfl)) (jSN (jSl (jS_lcmp (by decide +kernel) rfl)) (jSl (jS_ifeq (off := 18) (by decide +kernel) (by decide) rfl)))) (jSN (jSN (jSl (jS_lload (by decide +kernel) rfl)) (jSl (jS_lloadn (q := 1) rfl (by decide +kernel) rfl))) (jSN (jSl (jS_ldiv (by decide +kernel) rfl)) (jSl (jS_lloadn (q := 3) rfl (by decide +kernel) rfl))))) (jSN (jSN (jSl (jS_lcmp (by decide +kernel) rfl)) (jSN (jSl (jS_ifeq (off := 9) (by decide +kernel) (by decide) rfl)) (jSl (jS_aloadn (q := 0) rfl (by decide +kernel) rfl)))) (jSN (jSN (jSl (jS_iload (by decide +kernel) rfl)) (jSl (jS_vcall (index := 17) (Z := jy_X3_tooGreat) (ci := 2) jok_X3_tooGreat (jmem 391 (by decide +kernel)) (jmem 11 (by decide +kernel)) rfl (jmem 389 (by decide +kernel)) (by decide) (by decide) (by decide +kernel) rfl))) (jSN (jSl (jS_lload (by decide +kernel) rfl)) (jSl (jS_lret rfl (by decide +kernel))))))))
def jy_X4_has : jY := (yX4_has, cX4_has, 2, some .boolean, 1, 0, 0)
theorem jok_X4_has : jYok jy_X4_has 1 := ⟨(jmem 120 (by decide +kernel)), (jmem 55 (by decide +kernel)), ⟨by decide +kernel, by decide +kernel⟩, by decide +kernel⟩
def jp_X4_has (Φ : jPost) : Nat → jI := (jN 14 (jN 6 (jN 2 (jN 1 (jlf 0 (ji_iload 1 1)) (jlf 1 (ji_push (.int (nI 1)) 2))) (jN 5 (jlf 2 (ji_icmplt 26 5)) (jlf 5 (ji_iload 1 6)))) (jN 10 (jN 7 (jlf 6 (ji_aload 0 7)) (jlf 7 (ji_getf 3 0 10))) (jN 13 (jlf 10 (ji_icmpgt 26 13)) (jlf 13 (ji_iload 1 14))))) (jN 22 (jN 18 (jN 15 (jlf 14 (ji_aload 0 15)) (jlf 15 (ji_getf 3 1 18))) (jN 19 (jlf 18 (ji_alen 19)) (jlf 19 (ji_icmpge 26 22)))) (jN 26 (jN 23 (jlf 22 (ji_push (.int (nI 1)) 23)) (jlf 23 (ji_goto 27))) (jN 27 (jlf 26 (ji_push (.int (nI 0)) 27)) (jlf 27 (ji_zret Φ 0 0))))))
set_option maxRecDepth 20000 in
theorem js_X4_has (Φ : jPost) : ∀ pc, jS jy_X4_has Φ pc (jp_X4_has Φ pc) := (jSN (jSN (jSN (jSN (jSl (jS_iloadn (q := 1) rfl (by decide +kernel) rfl)) (jSl (jS_iconst (n := 1) (v := (nI 1)) (by decide +kernel) (by decide +kernel) rfl))) (jSN (jSl (jS_icmplt (off := 24) (by decide +kernel) (by decide) rfl)) (jSl (jS_iloadn (q := 1) rfl (by decide +kernel) rfl)))) (jSN (jSN (jSl (jS_aloadn (q := 0) rfl (by decide +kernel) rfl)) (jSl (jS_getf (ci := 3) (index := 23) (f := 0) (ref := "QuasiSums$Order") jin3 rfl (by decide) (jmem 124 (by decide +kernel)) (Or.inl rfl) (by decide +kernel) rfl))) (jSN (jSl (jS_icmpgt (off := 16) (by decide +kernel) (by decide) rfl)) (jSl (jS_iloadn (q := 1) rfl (by decide +kernel) rfl))))) (jSN (jSN (jSN (jSl (jS_aloadn (q := 0) rfl (by decide +kernel) rfl)) (jSl (jS_getf (ci := 3) (index := 27) (f := 1) (ref := "QuasiSums$Order") jin3 rfl (by decide) (jmem 126 (by decide +kernel)) (Or.inl rfl) (by decide +kernel) rfl))) (jSN (jSl (jS_alen (by decide +kernel) rfl)) (jSl (jS_icmpge (off := 7) (by decide +kernel) (by decide) rfl)))) (jSN (jSN (jSl (jS_iconst (n := 1) (v := (nI 1)) (by decide +kernel) (by decide +kernel) rfl)) (jSl (jS_goto (off := 4) (by decide +kernel) (by decide)))) (jSN (jSl (jS_iconst (n := 0) (v := (nI 0)) (by decide +kernel) (by decide +kernel) rfl)) (jSl (jS_zret rfl (by decide +kernel)))))))
def jy_X4_canCome : jY := (yX4_canCome, cX4_canCome, 3, some .boolean, 2, 0, 0)
theorem jok_X4_canCome : jYok jy_X4_canCome 2 := ⟨(jmem 116 (by decide +kernel)), (jmem 55 (by decide +kernel)), ⟨by decide +kernel, by decide +kernel⟩, by decide +kernel⟩
def jp_X4_canCome (Φ : jPost) : Nat → jI := (jN 18 (jN 10 (jN 5 (jN 1 (jlf 0 (ji_aload 0 1)) (jN 2 (jlf 1 (ji_iload 1 2)) (jlf 2 (ji_vcall jy_X4_has 1 3 0 0 5)))) (jN 8 (jlf 5 (ji_ifeq 35 8)) (jN 9 (jlf 8 (ji_iload 2 9)) (jlf 9 (ji_iload 1 10))))) (jN 13 (jN 11 (jlf 10 (ji_push (.int (nI 1)) 11)) (jN 12 (jlf 11 (ji_isub 12)) (jlf 12 (ji_ishr 13)))) (jN 14 (jlf 13 (ji_push (.int (nI 1)) 14)) (jN 15 (jlf 14 (ji_iand 15)) (jlf 15 (ji_ifne 35 18)))))) (jN 26 (jN 23 (jN 19 (jlf 18 (ji_aload 0 19)) (jN 22 (jlf 19 (ji_getf 3 1 22)) (jlf 22 (ji_iload 1 23)))) (jN 24 (jlf 23 (ji_iald 24)) (jN 25 (jlf 24 (ji_iload 2 25)) (jlf 25 (ji_push (.int (-1)) 26))))) (jN 31 (jN 27 (jlf 26 (ji_ixor 27)) (jN 28 (jlf 27 (ji_iand 28)) (jlf 28 (ji_ifne 35 31)))) (jN 35 (jN 32 (jlf 31 (ji_push (.int (nI 1)) 32)) (jlf 32 (ji_goto 36))) (jN 36 (jlf 35 (ji_push (.int (nI 0)) 36)) (jlf 36 (ji_zret Φ 0 0)))))))
set_option maxRecDepth 20000 in
theorem js_X4_canCome (Φ : jPost) : ∀ pc, jS jy_X4_canCome Φ pc (jp_X4_canCome Φ pc) := (jSN (jSN (jSN (jSN (jSl (jS_aloadn (q := 0) rfl (by decide +kernel) rfl)) (jSN (jSl (jS_iloadn (q := 1) rfl (by decide +kernel) rfl)) (jSl (jS_vcall (index := 47) (Z := jy_X4_has) (ci := 3) jok_X4_has (jmem 118 (by decide +kernel)) (jmem 119 (by decide +kernel)) rfl (jmem 117 (by decide +kernel)) (by decide) (by decide) (by decide +kernel) rfl)))) (jSN (jSl (jS_ifeq (off := 30) (by decide +kernel) (by decide) rfl)) (jSN (jSl (jS_iloadn (q := 2) rfl (by decide +kernel) rfl)) (jSl (jS_iloadn (q := 1) rfl (by decide +kernel) rfl))))) (jSN (jSN (jSl (jS_iconst (n := 1) (v := (nI 1)) (by decide +kernel) (by decide +kernel) rfl)) (jSN (jSl (jS_isub (by decide +kernel) rfl)) (jSl (jS_ishr (by decide +kernel) rfl)))) (jSN (jSl (jS_iconst (n := 1) (v := (nI 1)) (by decide +kernel) (by decide +kernel) rfl)) (jSN (jSl (jS_iand (by decide +kernel) rfl)) (jSl (jS_ifne (off := 20) (by decide +kernel) (by decide) rfl)))))) (jSN (jSN (jSN (jSl (jS_aloadn (q := 0) rfl (by decide +kernel) rfl)) (jSN (jSl (jS_getf (ci := 3) (index := 27) (f := 1) (ref := "QuasiSums$Order") jin3 rfl (by decide) (jmem 126 (by decide +kernel)) (Or.inl rfl) (by decide +kernel) rfl)) (jSl (jS_iloadn (q := 1) rfl (by decide +kernel) rfl)))) (jSN (jSl (jS_iald (by decide +kernel) rfl)) (jSN (jSl (jS_iloadn (q := 2) rfl (by decide +kernel) rfl)) (jSl (jS_iconst (n := -1) (v := (-1)) (by decide +kernel) (by decide +kernel) rfl))))) (jSN (jSN (jSl (jS_ixor (by decide +kernel) rfl)) (jSN (jSl (jS_iand (by decide +kernel) rfl)) (jSl (jS_ifne (off := 7) (by decide +kernel) (by decide) rfl)))) (jSN (jSN (jSl (jS_iconst (n := 1) (v := (nI 1)) (by decide +kernel) (by decide +kernel) rfl)) (jSl (jS_goto (off := 4) (by decide +kernel) (by decide)))) (jSN (jSl (jS_iconst (n := 0) (v := (nI 0)) (by decide +kernel) (by decide +kernel) rfl)) (jSl (jS_zret rfl (by decide +kernel))))))))
def jy_X4_waysBehind : jY := (yX4_waysBehind, cX4_waysBehind, 4, some .int, 3, 0, 0)
theorem jok_X4_waysBehind : jYok jy_X4_waysBehind 2 := ⟨(jmem 112 (by decide +kernel)), (jmem 55 (by decide +kernel)), ⟨by decide +kernel, by decide +kernel⟩, by decide +kernel⟩
def jp_X4_waysBehind (Φ : jPost) : Nat → jI := (jN 17 (jN 6 (jN 3 (jN 1 (jlf 0 (ji_iload 1 1)) (jN 2 (jlf 1 (ji_push (.int (nI 1)) 2)) (jlf 2 (ji_iload 2 3)))) (jN 4 (jlf 3 (ji_push (.int (nI 1)) 4)) (jN 5 (jlf 4 (ji_isub 5)) (jlf 5 (ji_ishl 6))))) (jN 9 (jN 7 (jlf 6 (ji_ior 7)) (jN 8 (jlf 7 (ji_istore 3 8)) (jlf 8 (ji_aload 0 9)))) (jN 11 (jN 10 (jlf 9 (ji_iload 2 10)) (jlf 10 (ji_iload 1 11))) (jN 14 (jlf 11 (ji_vcall jy_X4_canCome 2 3 0 0 14)) (jlf 14 (ji_ifeq 38 17)))))) (jN 29 (jN 22 (jN 18 (jlf 17 (ji_iload 3 18)) (jN 19 (jlf 18 (ji_aload 0 19)) (jlf 19 (ji_getf 3 2 22)))) (jN 23 (jlf 22 (ji_alen 23)) (jN 26 (jlf 23 (ji_call jy_X11_within 2 0 0 26)) (jlf 26 (ji_ifeq 38 29))))) (jN 34 (jN 30 (jlf 29 (ji_aload 0 30)) (jN 33 (jlf 30 (ji_getf 3 2 33)) (jlf 33 (ji_iload 3 34)))) (jN 38 (jN 35 (jlf 34 (ji_iald 35)) (jlf 35 (ji_goto 39))) (jN 39 (jlf 38 (ji_push (.int (nI 0)) 39)) (jlf 39 (ji_iret Φ 0 0)))))))
set_option maxRecDepth 20000 in
theorem js_X4_waysBehind (Φ : jPost) : ∀ pc, jS jy_X4_waysBehind Φ pc (jp_X4_waysBehind Φ pc) := (jSN (jSN (jSN (jSN (jSl (jS_iloadn (q := 1) rfl (by decide +kernel) rfl)) (jSN (jSl (jS_iconst (n := 1) (v := (nI 1)) (by decide +kernel) (by decide +kernel) rfl)) (jSl (jS_iloadn (q := 2) rfl (by decide +kernel) rfl)))) (jSN (jSl (jS_iconst (n := 1) (v := (nI 1)) (by decide +kernel) (by decide +kernel) rfl)) (jSN (jSl (jS_isub (by decide +kernel) rfl)) (jSl (jS_ishl (by decide +kernel) rfl))))) (jSN (jSN (jSl (jS_ior (by decide +kernel) rfl)) (jSN (jSl (jS_istoren (q := 3) rfl (by decide +kernel) rfl (by decide))) (jSl (jS_aloadn (q := 0) rfl (by decide +kernel) rfl)))) (jSN (jSN (jSl (jS_iloadn (q := 2) rfl (by decide +kernel) rfl)) (jSl (jS_iloadn (q := 1) rfl (by decide +kernel) rfl))) (jSN (jSl (jS_vcall (index := 40) (Z := jy_X4_canCome) (ci := 3) jok_X4_canCome (jmem 114 (by decide +kernel)) (jmem 115 (by decide +kernel)) rfl (jmem 113 (by decide +kernel)) (by decide) (by decide) (by decide +kernel) rfl)) (jSl (jS_ifeq (off := 24) (by decide +kernel) (by decide) rfl)))))) (jSN (jSN (jSN (jSl (jS_iloadn (q := 3) rfl (by decide +kernel) rfl)) (jSN (jSl (jS_aloadn (q := 0) rfl (by decide +kernel) rfl)) (jSl (jS_getf (ci := 3) (index := 31) (f := 2) (ref := "QuasiSums$Order") jin3 rfl (by decide) (jmem 127 (by decide +kernel)) (Or.inl rfl) (by decide +kernel) rfl)))) (jSN (jSl (jS_alen (by decide +kernel) rfl)) (jSN (jSl (jS_scallN (index := 44) (host := "QuasiSums") (Z := jy_X11_within) jok_X11_within (jmem 122 (by decide +kernel)) (jmem 121 (by decide +kernel)) (by decide) (by decide) (by decide +kernel) rfl)) (jSl (jS_ifeq (off := 12) (by decide +kernel) (by decide) rfl))))) (jSN (jSN (jSl (jS_aloadn (q := 0) rfl (by decide +kernel) rfl)) (jSN (jSl (jS_getf (ci := 3) (index := 31) (f := 2) (ref := "QuasiSums$Order") jin3 rfl (by decide) (jmem 127 (by decide +kernel)) (Or.inl rfl) (by decide +kernel) rfl)) (jSl (jS_iloadn (q := 3) rfl (by decide +kernel) rfl)))) (jSN (jSN (jSl (jS_iald (by decide +kernel) rfl)) (jSl (jS_goto (off := 4) (by decide +kernel) (by decide)))) (jSN (jSl (jS_iconst (n := 0) (v := (nI 0)) (by decide +kernel) (by decide +kernel) rfl)) (jSl (jS_iret rfl (by decide +kernel))))))))
def jy_X4_countEndings : jY := (yX4_countEndings, cX4_countEndings, 5, none, 4, 0, 0)
theorem jok_X4_countEndings : jYok jy_X4_countEndings 0 := ⟨(jmem 108 (by decide +kernel)), (jmem 55 (by decide +kernel)), ⟨by decide +kernel, by decide +kernel⟩, by decide +kernel⟩
def jp_X4_countEndings (Φ : jPost) : Nat → jI := (jN 30 (jN 14 (jN 7 (jN 4 (jN 1 (jlf 0 (ji_aload 0 1)) (jlf 1 (ji_getf 3 2 4))) (jN 5 (jlf 4 (ji_alen 5)) (jN 6 (jlf 5 (ji_push (.int (nI 1)) 6)) (jlf 6 (ji_isub 7))))) (jN 9 (jN 8 (jlf 7 (ji_istore 1 8)) (jlf 8 (ji_iload 1 9))) (jN 10 (jlf 9 (ji_istore 2 10)) (jN 11 (jlf 10 (ji_iload 2 11)) (jlf 11 (ji_iflt 66 14)))))) (jN 23 (jN 16 (jN 15 (jlf 14 (ji_iload 2 15)) (jlf 15 (ji_iload 1 16))) (jN 19 (jlf 16 (ji_icmpne 23 19)) (jN 20 (jlf 19 (ji_push (.int (nI 1)) 20)) (jlf 20 (ji_goto 24))))) (jN 25 (jN 24 (jlf 23 (ji_push (.int (nI 0)) 24)) (jlf 24 (ji_istore 3 25))) (jN 26 (jlf 25 (ji_push (.int (nI 1)) 26)) (jN 28 (jlf 26 (ji_istore 4 28)) (jlf 28 (ji_iload 4 30))))))) (jN 47 (jN 39 (jN 34 (jN 31 (jlf 30 (ji_aload 0 31)) (jlf 31 (ji_getf 3 0 34))) (jN 37 (jlf 34 (ji_icmpgt 53 37)) (jN 38 (jlf 37 (ji_iload 3 38)) (jlf 38 (ji_aload 0 39))))) (jN 42 (jN 40 (jlf 39 (ji_iload 2 40)) (jlf 40 (ji_iload 4 42))) (jN 45 (jlf 42 (ji_vcall jy_X4_waysBehind 2 3 0 0 45)) (jN 46 (jlf 45 (ji_iadd 46)) (jlf 46 (ji_istore 3 47)))))) (jN 58 (jN 53 (jN 50 (jlf 47 (ji_iinc 4 (nI 1) 50)) (jlf 50 (ji_goto 28))) (jN 54 (jlf 53 (ji_aload 0 54)) (jN 57 (jlf 54 (ji_getf 3 2 57)) (jlf 57 (ji_iload 2 58))))) (jN 60 (jN 59 (jlf 58 (ji_iload 3 59)) (jlf 59 (ji_iast 60))) (jN 63 (jlf 60 (ji_iinc 2 (-1) 63)) (jN 66 (jlf 63 (ji_goto 10)) (jlf 66 (ji_ret Φ 0 0))))))))
set_option maxRecDepth 20000 in
theorem js_X4_countEndings (Φ : jPost) : ∀ pc, jS jy_X4_countEndings Φ pc (jp_X4_countEndings Φ pc) := (jSN (jSN (jSN (jSN (jSN (jSl (jS_aloadn (q := 0) rfl (by decide +kernel) rfl)) (jSl (jS_getf (ci := 3) (index := 31) (f := 2) (ref := "QuasiSums$Order") jin3 rfl (by decide) (jmem 127 (by decide +kernel)) (Or.inl rfl) (by decide +kernel) rfl))) (jSN (jSl (jS_alen (by decide +kernel) rfl)) (jSN (jSl (jS_iconst (n := 1) (v := (nI 1)) (by decide +kernel) (by decide +kernel) rfl)) (jSl (jS_isub (by decide +kernel) rfl))))) (jSN (jSN (jSl (jS_istoren (q := 1) rfl (by decide +kernel) rfl (by decide))) (jSl (jS_iloadn (q := 1) rfl (by decide +kernel) rfl))) (jSN (jSl (jS_istoren (q := 2) rfl (by decide +kernel) rfl (by decide))) (jSN (jSl (jS_iloadn (q := 2) rfl (by decide +kernel) rfl)) (jSl (jS_iflt (off := 55) (by decide +kernel) (by decide) rfl)))))) (jSN (jSN (jSN (jSl (jS_iloadn (q := 2) rfl (by decide +kernel) rfl)) (jSl (jS_iloadn (q := 1) rfl (by decide +kernel) rfl))) (jSN (jSl (jS_icmpne (off := 7) (by decide +kernel) (by decide) rfl)) (jSN (jSl (jS_iconst (n := 1) (v := (nI 1)) (by decide +kernel) (by decide +kernel) rfl)) (jSl (jS_goto (off := 4) (by decide +kernel) (by decide)))))) (jSN (jSN (jSl (jS_iconst (n := 0) (v := (nI 0)) (by decide +kernel) (by decide +kernel) rfl)) (jSl (jS_istoren (q := 3) rfl (by decide +kernel) rfl (by decide)))) (jSN (jSl (jS_iconst (n := 1) (v := (nI 1)) (by decide +kernel) (by decide +kernel) rfl)) (jSN (jSl (jS_istore (by decide +kernel) rfl (by decide))) (jSl (jS_iload (by decide +kernel) rfl))))))) (jSN (jSN (jSN (jSN (jSl (jS_aloadn (q := 0) rfl (by decide +kernel) rfl)) (jSl (jS_getf (ci := 3) (index := 23) (f := 0) (ref := "QuasiSums$Order") jin3 rfl (by decide) (jmem 124 (by decide +kernel)) (Or.inl rfl) (by decide +kernel) rfl))) (jSN (jSl (jS_icmpgt (off := 19) (by decide +kernel) (by decide) rfl)) (jSN (jSl (jS_iloadn (q := 3) rfl (by decide +kernel) rfl)) (jSl (jS_aloadn (q := 0) rfl (by decide +kernel) rfl))))) (jSN (jSN (jSl (jS_iloadn (q := 2) rfl (by decide +kernel) rfl)) (jSl (jS_iload (by decide +kernel) rfl))) (jSN (jSl (jS_vcall (index := 37) (Z := jy_X4_waysBehind) (ci := 3) jok_X4_waysBehind (jmem 111 (by decide +kernel)) (jmem 1 (by decide +kernel)) rfl (jmem 109 (by decide +kernel)) (by decide) (by decide) (by decide +kernel) rfl)) (jSN (jSl (jS_iadd (by decide +kernel) rfl)) (jSl (jS_istoren (q := 3) rfl (by decide +kernel) rfl (by decide))))))) (jSN (jSN (jSN (jSl (jS_iinc (n := 1) (v := (nI 1)) (by decide +kernel) (by decide +kernel) rfl (by decide))) (jSl (jS_goto (off := -22) (by decide +kernel) (by decide)))) (jSN (jSl (jS_aloadn (q := 0) rfl (by decide +kernel) rfl)) (jSN (jSl (jS_getf (ci := 3) (index := 31) (f := 2) (ref := "QuasiSums$Order") jin3 rfl (by decide) (jmem 127 (by decide +kernel)) (Or.inl rfl) (by decide +kernel) rfl)) (jSl (jS_iloadn (q := 2) rfl (by decide +kernel) rfl))))) (jSN (jSN (jSl (jS_iloadn (q := 3) rfl (by decide +kernel) rfl)) (jSl (jS_iast (by decide +kernel) rfl))) (jSN (jSl (jS_iinc (n := -1) (v := (-1)) (by decide +kernel) (by decide +kernel) rfl (by decide))) (jSN (jSl (jS_goto (off := -53) (by decide +kernel) (by decide))) (jSl (jS_ret rfl (by decide +kernel)))))))))
def jy_X4_init_ : jY := (yX4_init_, cX4_init_, 3, none, 5, 1, 64)
theorem jok_X4_init_ : jYok jy_X4_init_ 2 := ⟨(jmem 97 (by decide +kernel)), (jmem 55 (by decide +kernel)), ⟨by decide +kernel, by decide +kernel⟩, by decide +kernel⟩
def jp_X4_init_ (Φ : jPost) : Nat → jI := (jN 20 (jN 7 (jN 4 (jN 1 (jlf 0 (ji_aload 0 1)) (jlf 1 (ji_objinit 4))) (jN 5 (jlf 4 (ji_aload 0 5)) (jN 6 (jlf 5 (ji_iload 1 6)) (jlf 6 (ji_push (.int (nI 0)) 7))))) (jN 15 (jN 10 (jlf 7 (ji_call jy_J9_max_7cf53 2 1 64 10)) (jN 12 (jlf 10 (ji_push (.int (nI 6)) 12)) (jlf 12 (ji_call jy_J9_min_7cf53 2 1 64 15)))) (jN 18 (jlf 15 (ji_putf 3 0 .int 18)) (jN 19 (jlf 18 (ji_aload 0 19)) (jlf 19 (ji_aload 2 20)))))) (jN 29 (jN 24 (jN 23 (jlf 20 (ji_putf 3 1 (.array .int) 23)) (jlf 23 (ji_aload 0 24))) (jN 25 (jlf 24 (ji_push (.int (nI 1)) 25)) (jN 26 (jlf 25 (ji_aload 0 26)) (jlf 26 (ji_getf 3 0 29))))) (jN 35 (jN 30 (jlf 29 (ji_ishl 30)) (jN 32 (jlf 30 (ji_newarr .int (.inl (fun _ => nI 0)) 1 64 32)) (jlf 32 (ji_putf 3 2 (.array .int) 35)))) (jN 36 (jlf 35 (ji_aload 0 36)) (jN 39 (jlf 36 (ji_vcall jy_X4_countEndings 0 3 1 64 39)) (jlf 39 (ji_ret Φ 1 64)))))))
set_option maxRecDepth 20000 in
theorem js_X4_init_ (Φ : jPost) : ∀ pc, jS jy_X4_init_ Φ pc (jp_X4_init_ Φ pc) := (jSN (jSN (jSN (jSN (jSl (jS_aloadn (q := 0) rfl (by decide +kernel) rfl)) (jSl (jS_objinit (index := 9) (jmem 98 (by decide +kernel)) (jmem 86 (by decide +kernel)) (jmem 87 (by decide +kernel)) (by decide) (by decide +kernel) rfl))) (jSN (jSl (jS_aloadn (q := 0) rfl (by decide +kernel) rfl)) (jSN (jSl (jS_iloadn (q := 1) rfl (by decide +kernel) rfl)) (jSl (jS_iconst (n := 0) (v := (nI 0)) (by decide +kernel) (by decide +kernel) rfl))))) (jSN (jSN (jSl (jS_scall (index := 14) (Z := jy_J9_max_7cf53) jok_J9_max_7cf53 (jmem 100 (by decide +kernel)) (jmem 99 (by decide +kernel)) (by decide) (by decide) (by decide +kernel) rfl)) (jSN (jSl (jS_bipush (n := 6) (v := (nI 6)) (by decide +kernel) (by decide +kernel) rfl)) (jSl (jS_scall (index := 20) (Z := jy_J9_min_7cf53) jok_J9_min_7cf53 (jmem 103 (by decide +kernel)) (jmem 102 (by decide +kernel)) (by decide) (by decide) (by decide +kernel) rfl)))) (jSN (jSl (jS_putF (ci := 3) (index := 23) (f := 0) (ref := "QuasiSums$Order") jin3 rfl tyX4_ok nmX4 (by decide) (jmem 124 (by decide +kernel)) rfl rfl rfl rfl (by decide +kernel) rfl)) (jSN (jSl (jS_aloadn (q := 0) rfl (by decide +kernel) rfl)) (jSl (jS_aloadn (q := 2) rfl (by decide +kernel) rfl)))))) (jSN (jSN (jSN (jSl (jS_putF (ci := 3) (index := 27) (f := 1) (ref := "QuasiSums$Order") jin3 rfl tyX4_ok nmX4 (by decide) (jmem 126 (by decide +kernel)) rfl rfl rfl rfl (by decide +kernel) rfl)) (jSl (jS_aloadn (q := 0) rfl (by decide +kernel) rfl))) (jSN (jSl (jS_iconst (n := 1) (v := (nI 1)) (by decide +kernel) (by decide +kernel) rfl)) (jSN (jSl (jS_aloadn (q := 0) rfl (by decide +kernel) rfl)) (jSl (jS_getf (ci := 3) (index := 23) (f := 0) (ref := "QuasiSums$Order") jin3 rfl (by decide) (jmem 124 (by decide +kernel)) (Or.inl rfl) (by decide +kernel) rfl))))) (jSN (jSN (jSl (jS_ishl (by decide +kernel) rfl)) (jSN (jSl (jS_newarr (at_ := .int) rfl (by decide) jz_int (by decide) (fun _ _ => rfl) (jmem 135 (by decide +kernel)) (by decide +kernel) rfl)) (jSl (jS_putF (ci := 3) (index := 31) (f := 2) (ref := "QuasiSums$Order") jin3 rfl tyX4_ok nmX4 (by decide) (jmem 127 (by decide +kernel)) rfl rfl rfl rfl (by decide +kernel) rfl)))) (jSN (jSl (jS_aloadn (q := 0) rfl (by decide +kernel) rfl)) (jSN (jSl (jS_vcall (index := 34) (Z := jy_X4_countEndings) (ci := 3) jok_X4_countEndings (jmem 107 (by decide +kernel)) (jmem 0 (by decide +kernel)) rfl (jmem 105 (by decide +kernel)) (by decide) (by decide) (by decide +kernel) rfl)) (jSl (jS_ret rfl (by decide +kernel))))))))
def jy_X4_init : jY := (yX4_init, cX4_init, 2, none, 6, 2, 71)
theorem jok_X4_init : jYok jy_X4_init 1 := ⟨(jmem 94 (by decide +kernel)), (jmem 55 (by decide +kernel)), ⟨by decide +kernel, by decide +kernel⟩, by decide +kernel⟩
def jp_X4_init (Φ : jPost) : Nat → jI := (jN 4 (jN 1 (jlf 0 (ji_aload 0 1)) (jN 2 (jlf 1 (ji_iload 1 2)) (jlf 2 (ji_push (.int (nI 7)) 4)))) (jN 6 (jlf 4 (ji_newarr .int (.inl (fun _ => nI 0)) 2 71 6)) (jN 9 (jlf 6 (ji_icall jy_X4_init_ 2 2 71 9)) (jlf 9 (ji_ret Φ 2 71)))))
set_option maxRecDepth 20000 in
theorem js_X4_init (Φ : jPost) : ∀ pc, jS jy_X4_init Φ pc (jp_X4_init Φ pc) := (jSN (jSN (jSl (jS_aloadn (q := 0) rfl (by decide +kernel) rfl)) (jSN (jSl (jS_iloadn (q := 1) rfl (by decide +kernel) rfl)) (jSl (jS_bipush (n := 7) (v := (nI 7)) (by decide +kernel) (by decide +kernel) rfl)))) (jSN (jSl (jS_newarr (at_ := .int) rfl (by decide) jz_int (by decide) (fun _ _ => rfl) (jmem 135 (by decide +kernel)) (by decide +kernel) rfl)) (jSN (jSl (jS_icall (index := 3) (Z := jy_X4_init_) rfl jok_X4_init_ (jmem 96 (by decide +kernel)) rfl (jmem 95 (by decide +kernel)) (by decide) (by decide) (by decide +kernel) rfl)) (jSl (jS_ret rfl (by decide +kernel))))))
def jy_X4_stands : jY := (yX4_stands, cX4_stands, 3, some .boolean, 2, 0, 0)
theorem jok_X4_stands : jYok jy_X4_stands 2 := ⟨(jmem 545 (by decide +kernel)), (jmem 55 (by decide +kernel)), ⟨by decide +kernel, by decide +kernel⟩, by decide +kernel⟩
def jp_X4_stands (Φ : jPost) : Nat → jI := (jN 22 (jN 10 (jN 5 (jN 1 (jlf 0 (ji_aload 0 1)) (jN 2 (jlf 1 (ji_iload 1 2)) (jlf 2 (ji_vcall jy_X4_has 1 3 0 0 5)))) (jN 8 (jlf 5 (ji_ifeq 36 8)) (jN 9 (jlf 8 (ji_aload 0 9)) (jlf 9 (ji_iload 2 10))))) (jN 17 (jN 13 (jlf 10 (ji_vcall jy_X4_has 1 3 0 0 13)) (jN 16 (jlf 13 (ji_ifeq 36 16)) (jlf 16 (ji_aload 0 17)))) (jN 20 (jlf 17 (ji_getf 3 1 20)) (jN 21 (jlf 20 (ji_iload 2 21)) (jlf 21 (ji_iald 22)))))) (jN 28 (jN 25 (jN 23 (jlf 22 (ji_iload 1 23)) (jN 24 (jlf 23 (ji_push (.int (nI 1)) 24)) (jlf 24 (ji_isub 25)))) (jN 26 (jlf 25 (ji_ishr 26)) (jN 27 (jlf 26 (ji_push (.int (nI 1)) 27)) (jlf 27 (ji_iand 28))))) (jN 33 (jN 29 (jlf 28 (ji_push (.int (nI 1)) 29)) (jN 32 (jlf 29 (ji_icmpne 36 32)) (jlf 32 (ji_push (.int (nI 1)) 33)))) (jN 36 (jlf 33 (ji_goto 37)) (jN 37 (jlf 36 (ji_push (.int (nI 0)) 37)) (jlf 37 (ji_zret Φ 0 0)))))))
set_option maxRecDepth 20000 in
theorem js_X4_stands (Φ : jPost) : ∀ pc, jS jy_X4_stands Φ pc (jp_X4_stands Φ pc) := (jSN (jSN (jSN (jSN (jSl (jS_aloadn (q := 0) rfl (by decide +kernel) rfl)) (jSN (jSl (jS_iloadn (q := 1) rfl (by decide +kernel) rfl)) (jSl (jS_vcall (index := 47) (Z := jy_X4_has) (ci := 3) jok_X4_has (jmem 118 (by decide +kernel)) (jmem 119 (by decide +kernel)) rfl (jmem 117 (by decide +kernel)) (by decide) (by decide) (by decide +kernel) rfl)))) (jSN (jSl (jS_ifeq (off := 31) (by decide +kernel) (by decide) rfl)) (jSN (jSl (jS_aloadn (q := 0) rfl (by decide +kernel) rfl)) (jSl (jS_iloadn (q := 2) rfl (by decide +kernel) rfl))))) (jSN (jSN (jSl (jS_vcall (index := 47) (Z := jy_X4_has) (ci := 3) jok_X4_has (jmem 118 (by decide +kernel)) (jmem 119 (by decide +kernel)) rfl (jmem 117 (by decide +kernel)) (by decide) (by decide) (by decide +kernel) rfl)) (jSN (jSl (jS_ifeq (off := 23) (by decide +kernel) (by decide) rfl)) (jSl (jS_aloadn (q := 0) rfl (by decide +kernel) rfl)))) (jSN (jSl (jS_getf (ci := 3) (index := 27) (f := 1) (ref := "QuasiSums$Order") jin3 rfl (by decide) (jmem 126 (by decide +kernel)) (Or.inl rfl) (by decide +kernel) rfl)) (jSN (jSl (jS_iloadn (q := 2) rfl (by decide +kernel) rfl)) (jSl (jS_iald (by decide +kernel) rfl)))))) (jSN (jSN (jSN (jSl (jS_iloadn (q := 1) rfl (by decide +kernel) rfl)) (jSN (jSl (jS_iconst (n := 1) (v := (nI 1)) (by decide +kernel) (by decide +kernel) rfl)) (jSl (jS_isub (by decide +kernel) rfl)))) (jSN (jSl (jS_ishr (by decide +kernel) rfl)) (jSN (jSl (jS_iconst (n := 1) (v := (nI 1)) (by decide +kernel) (by decide +kernel) rfl)) (jSl (jS_iand (by decide +kernel) rfl))))) (jSN (jSN (jSl (jS_iconst (n := 1) (v := (nI 1)) (by decide +kernel) (by decide +kernel) rfl)) (jSN (jSl (jS_icmpne (off := 7) (by decide +kernel) (by decide) rfl)) (jSl (jS_iconst (n := 1) (v := (nI 1)) (by decide +kernel) (by decide +kernel) rfl)))) (jSN (jSl (jS_goto (off := 4) (by decide +kernel) (by decide))) (jSN (jSl (jS_iconst (n := 0) (v := (nI 0)) (by decide +kernel) (by decide +kernel) rfl)) (jSl (jS_zret rfl (by decide +kernel))))))))
def jy_X4_withBelow : jY := (yX4_withBelow, cX4_withBelow, 6, some (.object "QuasiSums$Order"), 6, 3, 74)
theorem jok_X4_withBelow : jYok jy_X4_withBelow 2 := ⟨(jmem 549 (by decide +kernel)), (jmem 55 (by decide +kernel)), ⟨by decide +kernel, by decide +kernel⟩, by decide +kernel⟩
def jp_X4_withBelow (Φ : jPost) : Nat → jI := (jN 47 (jN 25 (jN 12 (jN 7 (jN 1 (jlf 0 (ji_aload 0 1)) (jN 4 (jlf 1 (ji_getf 3 1 4)) (jlf 4 ((fun k lv st h a b => cond (Nat.ble (jcs st) 9) (ji_clonei  3 74 7 k lv st h a b) False))))) (jN 10 (jlf 7 (ji_ccastA .int 10)) (jN 11 (jlf 10 (ji_astore 3 11)) (jlf 11 (ji_aload 0 12))))) (jN 19 (jN 13 (jlf 12 (ji_iload 1 13)) (jN 16 (jlf 13 (ji_vcall jy_X4_has 1 3 3 74 16)) (jlf 16 (ji_ifeq 83 19)))) (jN 23 (jN 20 (jlf 19 (ji_aload 0 20)) (jlf 20 (ji_getf 3 1 23))) (jN 24 (jlf 23 (ji_iload 1 24)) (jlf 24 (ji_iald 25)))))) (jN 33 (jN 28 (jN 26 (jlf 25 (ji_push (.int (nI 1)) 26)) (jN 27 (jlf 26 (ji_iload 1 27)) (jlf 27 (ji_push (.int (nI 1)) 28)))) (jN 30 (jN 29 (jlf 28 (ji_isub 29)) (jlf 29 (ji_ishl 30))) (jN 31 (jlf 30 (ji_ior 31)) (jlf 31 (ji_istore 4 33))))) (jN 38 (jN 34 (jlf 33 (ji_push (.int (nI 1)) 34)) (jN 36 (jlf 34 (ji_istore 5 36)) (jlf 36 (ji_iload 5 38)))) (jN 42 (jN 39 (jlf 38 (ji_aload 0 39)) (jlf 39 (ji_getf 3 0 42))) (jN 45 (jlf 42 (ji_icmpgt 83 45)) (jlf 45 (ji_iload 5 47))))))) (jN 71 (jN 58 (jN 52 (jN 48 (jlf 47 (ji_aload 3 48)) (jN 49 (jlf 48 (ji_alen 49)) (jlf 49 (ji_icmpge 83 52)))) (jN 54 (jlf 52 (ji_iload 5 54)) (jN 55 (jlf 54 (ji_iload 2 55)) (jlf 55 (ji_icmpeq 68 58))))) (jN 62 (jN 59 (jlf 58 (ji_aload 0 59)) (jN 60 (jlf 59 (ji_iload 2 60)) (jlf 60 (ji_iload 5 62)))) (jN 68 (jN 65 (jlf 62 (ji_vcall jy_X4_stands 2 3 3 74 65)) (jlf 65 (ji_ifeq 77 68))) (jN 69 (jlf 68 (ji_aload 3 69)) (jlf 69 (ji_iload 5 71)))))) (jN 83 (jN 75 (jN 72 (jlf 71 (ji_dup2 72)) (jN 73 (jlf 72 (ji_iald 73)) (jlf 73 (ji_iload 4 75)))) (jN 77 (jN 76 (jlf 75 (ji_ior 76)) (jlf 76 (ji_iast 77))) (jN 80 (jlf 77 (ji_iinc 5 (nI 1) 80)) (jlf 80 (ji_goto 36))))) (jN 88 (jN 86 (jlf 83 (ji_new 3 3 [.int (nI 0), .null, .null] 3 74 86)) (jN 87 (jlf 86 (ji_dup 87)) (jlf 87 (ji_aload 0 88)))) (jN 92 (jN 91 (jlf 88 (ji_getf 3 0 91)) (jlf 91 (ji_aload 3 92))) (jN 95 (jlf 92 (ji_icall jy_X4_init_ 2 3 74 95)) (jlf 95 (ji_aret Φ 3 74))))))))
set_option maxRecDepth 20000 in
theorem js_X4_withBelow (Φ : jPost) : ∀ pc, jS jy_X4_withBelow Φ pc (jp_X4_withBelow Φ pc) := (jSN (jSN (jSN (jSN (jSN (jSl (jS_aloadn (q := 0) rfl (by decide +kernel) rfl)) (jSN (jSl (jS_getf (ci := 3) (index := 27) (f := 1) (ref := "QuasiSums$Order") jin3 rfl (by decide) (jmem 126 (by decide +kernel)) (Or.inl rfl) (by decide +kernel) rfl)) (jSl (jS_clonei (index := 51) (jmem 550 (by decide +kernel)) (jmem 551 (by decide +kernel)) (jmem 552 (by decide +kernel)) (jmem 553 (by decide +kernel)) (jmem 554 (by decide +kernel)) (jmem 555 (by decide +kernel)) (by decide) (fun _ => trivial) (by decide +kernel) rfl)))) (jSN (jSl (jS_ccastA (index := 52) (jmem 556 (by decide +kernel)) (by decide +kernel) rfl)) (jSN (jSl (jS_astoren (q := 3) rfl (by decide +kernel) rfl (by decide))) (jSl (jS_aloadn (q := 0) rfl (by decide +kernel) rfl))))) (jSN (jSN (jSl (jS_iloadn (q := 1) rfl (by decide +kernel) rfl)) (jSN (jSl (jS_vcall (index := 47) (Z := jy_X4_has) (ci := 3) jok_X4_has (jmem 118 (by decide +kernel)) (jmem 119 (by decide +kernel)) rfl (jmem 117 (by decide +kernel)) (by decide) (by decide) (by decide +kernel) rfl)) (jSl (jS_ifeq (off := 67) (by decide +kernel) (by decide) rfl)))) (jSN (jSN (jSl (jS_aloadn (q := 0) rfl (by decide +kernel) rfl)) (jSl (jS_getf (ci := 3) (index := 27) (f := 1) (ref := "QuasiSums$Order") jin3 rfl (by decide) (jmem 126 (by decide +kernel)) (Or.inl rfl) (by decide +kernel) rfl))) (jSN (jSl (jS_iloadn (q := 1) rfl (by decide +kernel) rfl)) (jSl (jS_iald (by decide +kernel) rfl)))))) (jSN (jSN (jSN (jSl (jS_iconst (n := 1) (v := (nI 1)) (by decide +kernel) (by decide +kernel) rfl)) (jSN (jSl (jS_iloadn (q := 1) rfl (by decide +kernel) rfl)) (jSl (jS_iconst (n := 1) (v := (nI 1)) (by decide +kernel) (by decide +kernel) rfl)))) (jSN (jSN (jSl (jS_isub (by decide +kernel) rfl)) (jSl (jS_ishl (by decide +kernel) rfl))) (jSN (jSl (jS_ior (by decide +kernel) rfl)) (jSl (jS_istore (by decide +kernel) rfl (by decide)))))) (jSN (jSN (jSl (jS_iconst (n := 1) (v := (nI 1)) (by decide +kernel) (by decide +kernel) rfl)) (jSN (jSl (jS_istore (by decide +kernel) rfl (by decide))) (jSl (jS_iload (by decide +kernel) rfl)))) (jSN (jSN (jSl (jS_aloadn (q := 0) rfl (by decide +kernel) rfl)) (jSl (jS_getf (ci := 3) (index := 23) (f := 0) (ref := "QuasiSums$Order") jin3 rfl (by decide) (jmem 124 (by decide +kernel)) (Or.inl rfl) (by decide +kernel) rfl))) (jSN (jSl (jS_icmpgt (off := 41) (by decide +kernel) (by decide) rfl)) (jSl (jS_iload (by decide +kernel) rfl))))))) (jSN (jSN (jSN (jSN (jSl (jS_aloadn (q := 3) rfl (by decide +kernel) rfl)) (jSN (jSl (jS_alen (by decide +kernel) rfl)) (jSl (jS_icmpge (off := 34) (by decide +kernel) (by decide) rfl)))) (jSN (jSl (jS_iload (by decide +kernel) rfl)) (jSN (jSl (jS_iloadn (q := 2) rfl (by decide +kernel) rfl)) (jSl (jS_icmpeq (off := 13) (by decide +kernel) (by decide) rfl))))) (jSN (jSN (jSl (jS_aloadn (q := 0) rfl (by decide +kernel) rfl)) (jSN (jSl (jS_iloadn (q := 2) rfl (by decide +kernel) rfl)) (jSl (jS_iload (by decide +kernel) rfl)))) (jSN (jSN (jSl (jS_vcall (index := 56) (Z := jy_X4_stands) (ci := 3) jok_X4_stands (jmem 543 (by decide +kernel)) (jmem 544 (by decide +kernel)) rfl (jmem 557 (by decide +kernel)) (by decide) (by decide) (by decide +kernel) rfl)) (jSl (jS_ifeq (off := 12) (by decide +kernel) (by decide) rfl))) (jSN (jSl (jS_aloadn (q := 3) rfl (by decide +kernel) rfl)) (jSl (jS_iload (by decide +kernel) rfl)))))) (jSN (jSN (jSN (jSl (jS_dup2 (by decide +kernel) rfl)) (jSN (jSl (jS_iald (by decide +kernel) rfl)) (jSl (jS_iload (by decide +kernel) rfl)))) (jSN (jSN (jSl (jS_ior (by decide +kernel) rfl)) (jSl (jS_iast (by decide +kernel) rfl))) (jSN (jSl (jS_iinc (n := 1) (v := (nI 1)) (by decide +kernel) (by decide +kernel) rfl (by decide))) (jSl (jS_goto (off := -44) (by decide +kernel) (by decide)))))) (jSN (jSN (jSl (jS_new (index := 4) (ci := 3) jin3 rfl tyX4_ok jdf3 (fun _ => rfl) (jmem 558 (by decide +kernel)) (jmem 91 (by decide +kernel)) (jmem 55 (by decide +kernel)) (by decide +kernel) rfl)) (jSN (jSl (jS_dup (by decide +kernel) rfl)) (jSl (jS_aloadn (q := 0) rfl (by decide +kernel) rfl)))) (jSN (jSN (jSl (jS_getf (ci := 3) (index := 23) (f := 0) (ref := "QuasiSums$Order") jin3 rfl (by decide) (jmem 124 (by decide +kernel)) (Or.inl rfl) (by decide +kernel) rfl)) (jSl (jS_aloadn (q := 3) rfl (by decide +kernel) rfl))) (jSN (jSl (jS_icall (index := 3) (Z := jy_X4_init_) rfl jok_X4_init_ (jmem 96 (by decide +kernel)) rfl (jmem 95 (by decide +kernel)) (by decide) (by decide) (by decide +kernel) rfl)) (jSl (jS_aret rfl (Or.inl ⟨_, rfl⟩) (by decide +kernel)))))))))
def jy_X4_pairs : jY := (yX4_pairs, cX4_pairs, 3, some .int, 2, 0, 0)
theorem jok_X4_pairs : jYok jy_X4_pairs 0 := ⟨(jmem 562 (by decide +kernel)), (jmem 55 (by decide +kernel)), ⟨by decide +kernel, by decide +kernel⟩, by decide +kernel⟩
def jp_X4_pairs (Φ : jPost) : Nat → jI := (jN 14 (jN 5 (jN 2 (jN 1 (jlf 0 (ji_push (.int (nI 0)) 1)) (jlf 1 (ji_istore 1 2))) (jN 3 (jlf 2 (ji_push (.int (nI 0)) 3)) (jN 4 (jlf 3 (ji_istore 2 4)) (jlf 4 (ji_iload 2 5))))) (jN 9 (jN 6 (jlf 5 (ji_aload 0 6)) (jlf 6 (ji_getf 3 1 9))) (jN 10 (jlf 9 (ji_alen 10)) (jN 13 (jlf 10 (ji_icmpge 31 13)) (jlf 13 (ji_iload 1 14)))))) (jN 23 (jN 18 (jN 15 (jlf 14 (ji_aload 0 15)) (jlf 15 (ji_getf 3 1 18))) (jN 19 (jlf 18 (ji_iload 2 19)) (jN 20 (jlf 19 (ji_iald 20)) (jlf 20 (ji_call jy_J6_bitCount_0f7a4 1 0 0 23))))) (jN 28 (jN 24 (jlf 23 (ji_iadd 24)) (jN 25 (jlf 24 (ji_istore 1 25)) (jlf 25 (ji_iinc 2 (nI 1) 28)))) (jN 31 (jlf 28 (ji_goto 4)) (jN 32 (jlf 31 (ji_iload 1 32)) (jlf 32 (ji_iret Φ 0 0)))))))
set_option maxRecDepth 20000 in
theorem js_X4_pairs (Φ : jPost) : ∀ pc, jS jy_X4_pairs Φ pc (jp_X4_pairs Φ pc) := (jSN (jSN (jSN (jSN (jSl (jS_iconst (n := 0) (v := (nI 0)) (by decide +kernel) (by decide +kernel) rfl)) (jSl (jS_istoren (q := 1) rfl (by decide +kernel) rfl (by decide)))) (jSN (jSl (jS_iconst (n := 0) (v := (nI 0)) (by decide +kernel) (by decide +kernel) rfl)) (jSN (jSl (jS_istoren (q := 2) rfl (by decide +kernel) rfl (by decide))) (jSl (jS_iloadn (q := 2) rfl (by decide +kernel) rfl))))) (jSN (jSN (jSl (jS_aloadn (q := 0) rfl (by decide +kernel) rfl)) (jSl (jS_getf (ci := 3) (index := 27) (f := 1) (ref := "QuasiSums$Order") jin3 rfl (by decide) (jmem 126 (by decide +kernel)) (Or.inl rfl) (by decide +kernel) rfl))) (jSN (jSl (jS_alen (by decide +kernel) rfl)) (jSN (jSl (jS_icmpge (off := 21) (by decide +kernel) (by decide) rfl)) (jSl (jS_iloadn (q := 1) rfl (by decide +kernel) rfl)))))) (jSN (jSN (jSN (jSl (jS_aloadn (q := 0) rfl (by decide +kernel) rfl)) (jSl (jS_getf (ci := 3) (index := 27) (f := 1) (ref := "QuasiSums$Order") jin3 rfl (by decide) (jmem 126 (by decide +kernel)) (Or.inl rfl) (by decide +kernel) rfl))) (jSN (jSl (jS_iloadn (q := 2) rfl (by decide +kernel) rfl)) (jSN (jSl (jS_iald (by decide +kernel) rfl)) (jSl (jS_scall (index := 59) (Z := jy_J6_bitCount_0f7a4) jok_J6_bitCount_0f7a4 (jmem 432 (by decide +kernel)) (jmem 563 (by decide +kernel)) (by decide) (by decide) (by decide +kernel) rfl))))) (jSN (jSN (jSl (jS_iadd (by decide +kernel) rfl)) (jSN (jSl (jS_istoren (q := 1) rfl (by decide +kernel) rfl (by decide))) (jSl (jS_iinc (n := 1) (v := (nI 1)) (by decide +kernel) (by decide +kernel) rfl (by decide))))) (jSN (jSl (jS_goto (off := -24) (by decide +kernel) (by decide))) (jSN (jSl (jS_iloadn (q := 1) rfl (by decide +kernel) rfl)) (jSl (jS_iret rfl (by decide +kernel))))))))
def jy_X4_howManyRows : jY := (yX4_howManyRows, cX4_howManyRows, 1, some .int, 1, 0, 0)
theorem jok_X4_howManyRows : jYok jy_X4_howManyRows 0 := ⟨(jmem 575 (by decide +kernel)), (jmem 55 (by decide +kernel)), ⟨by decide +kernel, by decide +kernel⟩, by decide +kernel⟩
def jp_X4_howManyRows (Φ : jPost) : Nat → jI := (jN 9 (jN 4 (jN 1 (jlf 0 (ji_aload 0 1)) (jlf 1 (ji_getf 3 2 4))) (jN 5 (jlf 4 (ji_alen 5)) (jN 8 (jlf 5 (ji_ifle 17 8)) (jlf 8 (ji_aload 0 9))))) (jN 14 (jN 12 (jlf 9 (ji_getf 3 2 12)) (jN 13 (jlf 12 (ji_push (.int (nI 0)) 13)) (jlf 13 (ji_iald 14)))) (jN 17 (jlf 14 (ji_goto 18)) (jN 18 (jlf 17 (ji_push (.int (nI 0)) 18)) (jlf 18 (ji_iret Φ 0 0))))))
set_option maxRecDepth 20000 in
theorem js_X4_howManyRows (Φ : jPost) : ∀ pc, jS jy_X4_howManyRows Φ pc (jp_X4_howManyRows Φ pc) := (jSN (jSN (jSN (jSl (jS_aloadn (q := 0) rfl (by decide +kernel) rfl)) (jSl (jS_getf (ci := 3) (index := 31) (f := 2) (ref := "QuasiSums$Order") jin3 rfl (by decide) (jmem 127 (by decide +kernel)) (Or.inl rfl) (by decide +kernel) rfl))) (jSN (jSl (jS_alen (by decide +kernel) rfl)) (jSN (jSl (jS_ifle (off := 12) (by decide +kernel) (by decide) rfl)) (jSl (jS_aloadn (q := 0) rfl (by decide +kernel) rfl))))) (jSN (jSN (jSl (jS_getf (ci := 3) (index := 31) (f := 2) (ref := "QuasiSums$Order") jin3 rfl (by decide) (jmem 127 (by decide +kernel)) (Or.inl rfl) (by decide +kernel) rfl)) (jSN (jSl (jS_iconst (n := 0) (v := (nI 0)) (by decide +kernel) (by decide +kernel) rfl)) (jSl (jS_iald (by decide +kernel) rfl)))) (jSN (jSl (jS_goto (off := 4) (by decide +kernel) (by decide))) (jSN (jSl (jS_iconst (n := 0) (v := (nI 0)) (by decide +kernel) (by decide +kernel) rfl)) (jSl (jS_iret rfl (by decide +kernel)))))))
def jy_X4_tellRow : jY := (yX4_tellRow, cX4_tellRow, 8, none, 4, 0, 0)
theorem jok_X4_tellRow : jYok jy_X4_tellRow 2 := ⟨(jmem 579 (by decide +kernel)), (jmem 55 (by decide +kernel)), ⟨by decide +kernel, by decide +kernel⟩, by decide +kernel⟩
def jp_X4_tellRow (Φ : jPost) : Nat → jI := (jN 40 (jN 16 (jN 6 (jN 2 (jN 1 (jlf 0 (ji_push (.int (nI 0)) 1)) (jlf 1 (ji_istore 3 2))) (jN 3 (jlf 2 (ji_iload 1 3)) (jN 5 (jlf 3 (ji_istore 4 5)) (jlf 5 (ji_push (.int (nI 0)) 6))))) (jN 11 (jN 8 (jlf 6 (ji_istore 5 8)) (jN 10 (jlf 8 (ji_iload 5 10)) (jlf 10 (ji_aload 2 11)))) (jN 12 (jlf 11 (ji_alen 12)) (jN 15 (jlf 12 (ji_icmpge 80 15)) (jlf 15 (ji_push (.int (nI 1)) 16)))))) (jN 28 (jN 21 (jN 18 (jlf 16 (ji_istore 6 18)) (jN 20 (jlf 18 (ji_iload 6 20)) (jlf 20 (ji_aload 0 21)))) (jN 24 (jlf 21 (ji_getf 3 0 24)) (jN 27 (jlf 24 (ji_icmpgt 74 27)) (jlf 27 (ji_aload 0 28))))) (jN 34 (jN 29 (jlf 28 (ji_iload 3 29)) (jN 31 (jlf 29 (ji_iload 6 31)) (jlf 31 (ji_vcall jy_X4_waysBehind 2 3 0 0 34)))) (jN 36 (jlf 34 (ji_istore 7 36)) (jN 38 (jlf 36 (ji_iload 4 38)) (jlf 38 (ji_iload 7 40))))))) (jN 56 (jN 49 (jN 44 (jN 43 (jlf 40 (ji_icmpge 61 43)) (jlf 43 (ji_aload 2 44))) (jN 46 (jlf 44 (ji_iload 5 46)) (jN 48 (jlf 46 (ji_iload 6 48)) (jlf 48 (ji_iast 49))))) (jN 53 (jN 50 (jlf 49 (ji_iload 3 50)) (jN 51 (jlf 50 (ji_push (.int (nI 1)) 51)) (jlf 51 (ji_iload 6 53)))) (jN 54 (jlf 53 (ji_push (.int (nI 1)) 54)) (jN 55 (jlf 54 (ji_isub 55)) (jlf 55 (ji_ishl 56)))))) (jN 66 (jN 61 (jN 57 (jlf 56 (ji_ior 57)) (jN 58 (jlf 57 (ji_istore 3 58)) (jlf 58 (ji_goto 74)))) (jN 63 (jlf 61 (ji_iload 4 63)) (jN 65 (jlf 63 (ji_iload 7 65)) (jlf 65 (ji_isub 66))))) (jN 74 (jN 68 (jlf 66 (ji_istore 4 68)) (jN 71 (jlf 68 (ji_iinc 6 (nI 1) 71)) (jlf 71 (ji_goto 18)))) (jN 77 (jlf 74 (ji_iinc 5 (nI 1) 77)) (jN 80 (jlf 77 (ji_goto 8)) (jlf 80 (ji_ret Φ 0 0))))))))
set_option maxRecDepth 20000 in
theorem js_X4_tellRow (Φ : jPost) : ∀ pc, jS jy_X4_tellRow Φ pc (jp_X4_tellRow Φ pc) := (jSN (jSN (jSN (jSN (jSN (jSl (jS_iconst (n := 0) (v := (nI 0)) (by decide +kernel) (by decide +kernel) rfl)) (jSl (jS_istoren (q := 3) rfl (by decide +kernel) rfl (by decide)))) (jSN (jSl (jS_iloadn (q := 1) rfl (by decide +kernel) rfl)) (jSN (jSl (jS_istore (by decide +kernel) rfl (by decide))) (jSl (jS_iconst (n := 0) (v := (nI 0)) (by decide +kernel) (by decide +kernel) rfl))))) (jSN (jSN (jSl (jS_istore (by decide +kernel) rfl (by decide))) (jSN (jSl (jS_iload (by decide +kernel) rfl)) (jSl (jS_aloadn (q := 2) rfl (by decide +kernel) rfl)))) (jSN (jSl (jS_alen (by decide +kernel) rfl)) (jSN (jSl (jS_icmpge (off := 68) (by decide +kernel) (by decide) rfl)) (jSl (jS_iconst (n := 1) (v := (nI 1)) (by decide +kernel) (by decide +kernel) rfl)))))) (jSN (jSN (jSN (jSl (jS_istore (by decide +kernel) rfl (by decide))) (jSN (jSl (jS_iload (by decide +kernel) rfl)) (jSl (jS_aloadn (q := 0) rfl (by decide +kernel) rfl)))) (jSN (jSl (jS_getf (ci := 3) (index := 23) (f := 0) (ref := "QuasiSums$Order") jin3 rfl (by decide) (jmem 124 (by decide +kernel)) (Or.inl rfl) (by decide +kernel) rfl)) (jSN (jSl (jS_icmpgt (off := 50) (by decide +kernel) (by decide) rfl)) (jSl (jS_aloadn (q := 0) rfl (by decide +kernel) rfl))))) (jSN (jSN (jSl (jS_iloadn (q := 3) rfl (by decide +kernel) rfl)) (jSN (jSl (jS_iload (by decide +kernel) rfl)) (jSl (jS_vcall (index := 37) (Z := jy_X4_waysBehind) (ci := 3) jok_X4_waysBehind (jmem 111 (by decide +kernel)) (jmem 1 (by decide +kernel)) rfl (jmem 109 (by decide +kernel)) (by decide) (by decide) (by decide +kernel) rfl)))) (jSN (jSl (jS_istore (by decide +kernel) rfl (by decide))) (jSN (jSl (jS_iload (by decide +kernel) rfl)) (jSl (jS_iload (by decide +kernel) rfl))))))) (jSN (jSN (jSN (jSN (jSl (jS_icmpge (off := 21) (by decide +kernel) (by decide) rfl)) (jSl (jS_aloadn (q := 2) rfl (by decide +kernel) rfl))) (jSN (jSl (jS_iload (by decide +kernel) rfl)) (jSN (jSl (jS_iload (by decide +kernel) rfl)) (jSl (jS_iast (by decide +kernel) rfl))))) (jSN (jSN (jSl (jS_iloadn (q := 3) rfl (by decide +kernel) rfl)) (jSN (jSl (jS_iconst (n := 1) (v := (nI 1)) (by decide +kernel) (by decide +kernel) rfl)) (jSl (jS_iload (by decide +kernel) rfl)))) (jSN (jSl (jS_iconst (n := 1) (v := (nI 1)) (by decide +kernel) (by decide +kernel) rfl)) (jSN (jSl (jS_isub (by decide +kernel) rfl)) (jSl (jS_ishl (by decide +kernel) rfl)))))) (jSN (jSN (jSN (jSl (jS_ior (by decide +kernel) rfl)) (jSN (jSl (jS_istoren (q := 3) rfl (by decide +kernel) rfl (by decide))) (jSl (jS_goto (off := 16) (by decide +kernel) (by decide))))) (jSN (jSl (jS_iload (by decide +kernel) rfl)) (jSN (jSl (jS_iload (by decide +kernel) rfl)) (jSl (jS_isub (by decide +kernel) rfl))))) (jSN (jSN (jSl (jS_istore (by decide +kernel) rfl (by decide))) (jSN (jSl (jS_iinc (n := 1) (v := (nI 1)) (by decide +kernel) (by decide +kernel) rfl (by decide))) (jSl (jS_goto (off := -53) (by decide +kernel) (by decide))))) (jSN (jSl (jS_iinc (n := 1) (v := (nI 1)) (by decide +kernel) (by decide +kernel) rfl (by decide))) (jSN (jSl (jS_goto (off := -69) (by decide +kernel) (by decide))) (jSl (jS_ret rfl (by decide +kernel)))))))))
def jy_X4_descents : jY := (yX4_descents, cX4_descents, 3, some .int, 1, 0, 0)
theorem jok_X4_descents : jYok jy_X4_descents 1 := ⟨(jmem 586 (by decide +kernel)), (jmem 55 (by decide +kernel)), ⟨by decide +kernel, by decide +kernel⟩, by decide +kernel⟩
def jp_X4_descents (Φ : jPost) : Nat → jI := (jN 16 (jN 7 (jN 3 (jN 1 (jlf 0 (ji_push (.int (nI 0)) 1)) (jN 2 (jlf 1 (ji_istore 1 2)) (jlf 2 (ji_push (.int (nI 1)) 3)))) (jN 5 (jN 4 (jlf 3 (ji_istore 2 4)) (jlf 4 (ji_iload 2 5))) (jN 6 (jlf 5 (ji_aload 0 6)) (jlf 6 (ji_alen 7))))) (jN 12 (jN 10 (jlf 7 (ji_icmpge 35 10)) (jN 11 (jlf 10 (ji_aload 0 11)) (jlf 11 (ji_iload 2 12)))) (jN 14 (jN 13 (jlf 12 (ji_push (.int (nI 1)) 13)) (jlf 13 (ji_isub 14))) (jN 15 (jlf 14 (ji_iald 15)) (jlf 15 (ji_aload 0 16)))))) (jN 25 (jN 21 (jN 17 (jlf 16 (ji_iload 2 17)) (jN 18 (jlf 17 (ji_iald 18)) (jlf 18 (ji_icmple 29 21)))) (jN 23 (jN 22 (jlf 21 (ji_iload 1 22)) (jlf 22 (ji_push (.int (nI 1)) 23))) (jN 24 (jlf 23 (ji_iload 2 24)) (jlf 24 (ji_push (.int (nI 1)) 25))))) (jN 29 (jN 27 (jN 26 (jlf 25 (ji_isub 26)) (jlf 26 (ji_ishl 27))) (jN 28 (jlf 27 (ji_ior 28)) (jlf 28 (ji_istore 1 29)))) (jN 35 (jN 32 (jlf 29 (ji_iinc 2 (nI 1) 32)) (jlf 32 (ji_goto 4))) (jN 36 (jlf 35 (ji_iload 1 36)) (jlf 36 (ji_iret Φ 0 0)))))))
set_option maxRecDepth 20000 in
theorem js_X4_descents (Φ : jPost) : ∀ pc, jS jy_X4_descents Φ pc (jp_X4_descents Φ pc) := (jSN (jSN (jSN (jSN (jSl (jS_iconst (n := 0) (v := (nI 0)) (by decide +kernel) (by decide +kernel) rfl)) (jSN (jSl (jS_istoren (q := 1) rfl (by decide +kernel) rfl (by decide))) (jSl (jS_iconst (n := 1) (v := (nI 1)) (by decide +kernel) (by decide +kernel) rfl)))) (jSN (jSN (jSl (jS_istoren (q := 2) rfl (by decide +kernel) rfl (by decide))) (jSl (jS_iloadn (q := 2) rfl (by decide +kernel) rfl))) (jSN (jSl (jS_aloadn (q := 0) rfl (by decide +kernel) rfl)) (jSl (jS_alen (by decide +kernel) rfl))))) (jSN (jSN (jSl (jS_icmpge (off := 28) (by decide +kernel) (by decide) rfl)) (jSN (jSl (jS_aloadn (q := 0) rfl (by decide +kernel) rfl)) (jSl (jS_iloadn (q := 2) rfl (by decide +kernel) rfl)))) (jSN (jSN (jSl (jS_iconst (n := 1) (v := (nI 1)) (by decide +kernel) (by decide +kernel) rfl)) (jSl (jS_isub (by decide +kernel) rfl))) (jSN (jSl (jS_iald (by decide +kernel) rfl)) (jSl (jS_aloadn (q := 0) rfl (by decide +kernel) rfl)))))) (jSN (jSN (jSN (jSl (jS_iloadn (q := 2) rfl (by decide +kernel) rfl)) (jSN (jSl (jS_iald (by decide +kernel) rfl)) (jSl (jS_icmple (off := 11) (by decide +kernel) (by decide) rfl)))) (jSN (jSN (jSl (jS_iloadn (q := 1) rfl (by decide +kernel) rfl)) (jSl (jS_iconst (n := 1) (v := (nI 1)) (by decide +kernel) (by decide +kernel) rfl))) (jSN (jSl (jS_iloadn (q := 2) rfl (by decide +kernel) rfl)) (jSl (jS_iconst (n := 1) (v := (nI 1)) (by decide +kernel) (by decide +kernel) rfl))))) (jSN (jSN (jSN (jSl (jS_isub (by decide +kernel) rfl)) (jSl (jS_ishl (by decide +kernel) rfl))) (jSN (jSl (jS_ior (by decide +kernel) rfl)) (jSl (jS_istoren (q := 1) rfl (by decide +kernel) rfl (by decide))))) (jSN (jSN (jSl (jS_iinc (n := 1) (v := (nI 1)) (by decide +kernel) (by decide +kernel) rfl (by decide))) (jSl (jS_goto (off := -28) (by decide +kernel) (by decide)))) (jSN (jSl (jS_iloadn (q := 1) rfl (by decide +kernel) rfl)) (jSl (jS_iret rfl (by decide +kernel))))))))
def jy_X4_peaks : jY := (yX4_peaks, cX4_peaks, 3, some .int, 1, 0, 0)
theorem jok_X4_peaks : jYok jy_X4_peaks 1 := ⟨(jmem 589 (by decide +kernel)), (jmem 55 (by decide +kernel)), ⟨by decide +kernel, by decide +kernel⟩, by decide +kernel⟩
def jp_X4_peaks (Φ : jPost) : Nat → jI := (jN 24 (jN 12 (jN 5 (jN 2 (jN 1 (jlf 0 (ji_push (.int (nI 0)) 1)) (jlf 1 (ji_istore 1 2))) (jN 3 (jlf 2 (ji_push (.int (nI 2)) 3)) (jN 4 (jlf 3 (ji_istore 2 4)) (jlf 4 (ji_iload 2 5))))) (jN 7 (jN 6 (jlf 5 (ji_aload 0 6)) (jlf 6 (ji_alen 7))) (jN 10 (jlf 7 (ji_icmpge 48 10)) (jN 11 (jlf 10 (ji_aload 0 11)) (jlf 11 (ji_iload 2 12)))))) (jN 17 (jN 14 (jN 13 (jlf 12 (ji_push (.int (nI 1)) 13)) (jlf 13 (ji_isub 14))) (jN 15 (jlf 14 (ji_iald 15)) (jN 16 (jlf 15 (ji_aload 0 16)) (jlf 16 (ji_iload 2 17))))) (jN 19 (jN 18 (jlf 17 (ji_push (.int (nI 2)) 18)) (jlf 18 (ji_isub 19))) (jN 20 (jlf 19 (ji_iald 20)) (jN 23 (jlf 20 (ji_icmple 42 23)) (jlf 23 (ji_aload 0 24))))))) (jN 36 (jN 29 (jN 26 (jN 25 (jlf 24 (ji_iload 2 25)) (jlf 25 (ji_push (.int (nI 1)) 26))) (jN 27 (jlf 26 (ji_isub 27)) (jN 28 (jlf 27 (ji_iald 28)) (jlf 28 (ji_aload 0 29))))) (jN 31 (jN 30 (jlf 29 (ji_iload 2 30)) (jlf 30 (ji_iald 31))) (jN 34 (jlf 31 (ji_icmple 42 34)) (jN 35 (jlf 34 (ji_iload 1 35)) (jlf 35 (ji_push (.int (nI 1)) 36)))))) (jN 41 (jN 38 (jN 37 (jlf 36 (ji_iload 2 37)) (jlf 37 (ji_push (.int (nI 1)) 38))) (jN 39 (jlf 38 (ji_isub 39)) (jN 40 (jlf 39 (ji_ishl 40)) (jlf 40 (ji_ior 41))))) (jN 45 (jN 42 (jlf 41 (ji_istore 1 42)) (jlf 42 (ji_iinc 2 (nI 1) 45))) (jN 48 (jlf 45 (ji_goto 4)) (jN 49 (jlf 48 (ji_iload 1 49)) (jlf 49 (ji_iret Φ 0 0))))))))
set_option maxRecDepth 20000 in
theorem js_X4_peaks (Φ : jPost) : ∀ pc, jS jy_X4_peaks Φ pc (jp_X4_peaks Φ pc) := (jSN (jSN (jSN (jSN (jSN (jSl (jS_iconst (n := 0) (v := (nI 0)) (by decide +kernel) (by decide +kernel) rfl)) (jSl (jS_istoren (q := 1) rfl (by decide +kernel) rfl (by decide)))) (jSN (jSl (jS_iconst (n := 2) (v := (nI 2)) (by decide +kernel) (by decide +kernel) rfl)) (jSN (jSl (jS_istoren (q := 2) rfl (by decide +kernel) rfl (by decide))) (jSl (jS_iloadn (q := 2) rfl (by decide +kernel) rfl))))) (jSN (jSN (jSl (jS_aloadn (q := 0) rfl (by decide +kernel) rfl)) (jSl (jS_alen (by decide +kernel) rfl))) (jSN (jSl (jS_icmpge (off := 41) (by decide +kernel) (by decide) rfl)) (jSN (jSl (jS_aloadn (q := 0) rfl (by decide +kernel) rfl)) (jSl (jS_iloadn (q := 2) rfl (by decide +kernel) rfl)))))) (jSN (jSN (jSN (jSl (jS_iconst (n := 1) (v := (nI 1)) (by decide +kernel) (by decide +kernel) rfl)) (jSl (jS_isub (by decide +kernel) rfl))) (jSN (jSl (jS_iald (by decide +kernel) rfl)) (jSN (jSl (jS_aloadn (q := 0) rfl (by decide +kernel) rfl)) (jSl (jS_iloadn (q := 2) rfl (by decide +kernel) rfl))))) (jSN (jSN (jSl (jS_iconst (n := 2) (v := (nI 2)) (by decide +kernel) (by decide +kernel) rfl)) (jSl (jS_isub (by decide +kernel) rfl))) (jSN (jSl (jS_iald (by decide +kernel) rfl)) (jSN (jSl (jS_icmple (off := 22) (by decide +kernel) (by decide) rfl)) (jSl (jS_aloadn (q := 0) rfl (by decide +kernel) rfl))))))) (jSN (jSN (jSN (jSN (jSl (jS_iloadn (q := 2) rfl (by decide +kernel) rfl)) (jSl (jS_iconst (n := 1) (v := (nI 1)) (by decide +kernel) (by decide +kernel) rfl))) (jSN (jSl (jS_isub (by decide +kernel) rfl)) (jSN (jSl (jS_iald (by decide +kernel) rfl)) (jSl (jS_aloadn (q := 0) rfl (by decide +kernel) rfl))))) (jSN (jSN (jSl (jS_iloadn (q := 2) rfl (by decide +kernel) rfl)) (jSl (jS_iald (by decide +kernel) rfl))) (jSN (jSl (jS_icmple (off := 11) (by decide +kernel) (by decide) rfl)) (jSN (jSl (jS_iloadn (q := 1) rfl (by decide +kernel) rfl)) (jSl (jS_iconst (n := 1) (v := (nI 1)) (by decide +kernel) (by decide +kernel) rfl)))))) (jSN (jSN (jSN (jSl (jS_iloadn (q := 2) rfl (by decide +kernel) rfl)) (jSl (jS_iconst (n := 1) (v := (nI 1)) (by decide +kernel) (by decide +kernel) rfl))) (jSN (jSl (jS_isub (by decide +kernel) rfl)) (jSN (jSl (jS_ishl (by decide +kernel) rfl)) (jSl (jS_ior (by decide +kernel) rfl))))) (jSN (jSN (jSl (jS_istoren (q := 1) rfl (by decide +kernel) rfl (by decide))) (jSl (jS_iinc (n := 1) (v := (nI 1)) (by decide +kernel) (by decide +kernel) rfl (by decide)))) (jSN (jSl (jS_goto (off := -41) (by decide +kernel) (by decide))) (jSN (jSl (jS_iloadn (q := 1) rfl (by decide +kernel) rfl)) (jSl (jS_iret rfl (by decide +kernel)))))))))
def jy_X8_init : jY := (yX8_init, cX8_init, 2, none, 3, 1, 32)
theorem jok_X8_init : jYok jy_X8_init 1 := ⟨(jmem 170 (by decide +kernel)), (jmem 61 (by decide +kernel)), ⟨by decide +kernel, by decide +kernel⟩, by decide +kernel⟩
def jp_X8_init (Φ : jPost) : Nat → jI := (jN 15 (jN 6 (jN 4 (jN 1 (jlf 0 (ji_aload 0 1)) (jlf 1 (ji_icall jy_X2_init 0 1 32 4))) (jN 5 (jlf 4 (ji_aload 0 5)) (jlf 5 (ji_iload 1 6)))) (jN 10 (jN 7 (jlf 6 (ji_push (.int (nI 0)) 7)) (jlf 7 (ji_call jy_J9_max_7cf53 2 1 32 10))) (jN 12 (jlf 10 (ji_push (.int (nI 6)) 12)) (jlf 12 (ji_call jy_J9_min_7cf53 2 1 32 15))))) (jN 23 (jN 19 (jN 18 (jlf 15 (ji_putf 7 0 .int 18)) (jlf 18 (ji_aload 0 19))) (jN 20 (jlf 19 (ji_aload 0 20)) (jlf 20 (ji_getf 7 0 23)))) (jN 28 (jN 26 (jlf 23 (ji_call jy_X0_howMany 1 1 32 26)) (jlf 26 (ji_newarr .long (.inr (.inl (fun _ => 0))) 1 32 28))) (jN 31 (jlf 28 (ji_putf 7 1 (.array .long) 31)) (jlf 31 (ji_ret Φ 1 32))))))
set_option maxRecDepth 20000 in
theorem js_X8_init (Φ : jPost) : ∀ pc, jS jy_X8_init Φ pc (jp_X8_init Φ pc) := (jSN (jSN (jSN (jSN (jSl (jS_aloadn (q := 0) rfl (by decide +kernel) rfl)) (jSl (jS_icallN (index := 3) (host := "QuasiSums") (Z := jy_X2_init) rfl jok_X2_init (jmem 172 (by decide +kernel)) rfl (jmem 171 (by decide +kernel)) (by decide) (by decide) (by decide +kernel) rfl))) (jSN (jSl (jS_aloadn (q := 0) rfl (by decide +kernel) rfl)) (jSl (jS_iloadn (q := 1) rfl (by decide +kernel) rfl)))) (jSN (jSN (jSl (jS_iconst (n := 0) (v := (nI 0)) (by decide +kernel) (by decide +kernel) rfl)) (jSl (jS_scall (index := 9) (Z := jy_J9_max_7cf53) jok_J9_max_7cf53 (jmem 100 (by decide +kernel)) (jmem 175 (by decide +kernel)) (by decide) (by decide) (by decide +kernel) rfl))) (jSN (jSl (jS_bipush (n := 6) (v := (nI 6)) (by decide +kernel) (by decide +kernel) rfl)) (jSl (jS_scall (index := 15) (Z := jy_J9_min_7cf53) jok_J9_min_7cf53 (jmem 103 (by decide +kernel)) (jmem 176 (by decide +kernel)) (by decide) (by decide) (by decide +kernel) rfl))))) (jSN (jSN (jSN (jSl (jS_putF (ci := 7) (index := 18) (f := 0) (ref := "QuasiSums$Sum") jin7 rfl tyX8_ok nmX8 (by decide) (jmem 180 (by decide +kernel)) rfl rfl rfl rfl (by decide +kernel) rfl)) (jSl (jS_aloadn (q := 0) rfl (by decide +kernel) rfl))) (jSN (jSl (jS_aloadn (q := 0) rfl (by decide +kernel) rfl)) (jSl (jS_getf (ci := 7) (index := 18) (f := 0) (ref := "QuasiSums$Sum") jin7 rfl (by decide) (jmem 180 (by decide +kernel)) (Or.inl rfl) (by decide +kernel) rfl)))) (jSN (jSN (jSl (jS_scall (index := 24) (Z := jy_X0_howMany) jok_X0_howMany (jmem 178 (by decide +kernel)) (jmem 177 (by decide +kernel)) (by decide) (by decide) (by decide +kernel) rfl)) (jSl (jS_newarr (at_ := .long) rfl (by decide) jz_long (by decide) (fun _ _ => rfl) (jmem 189 (by decide +kernel)) (by decide +kernel) rfl))) (jSN (jSl (jS_putF (ci := 7) (index := 30) (f := 1) (ref := "QuasiSums$Sum") jin7 rfl tyX8_ok nmX8 (by decide) (jmem 182 (by decide +kernel)) rfl rfl rfl rfl (by decide +kernel) rfl)) (jSl (jS_ret rfl (by decide +kernel)))))))
def jy_X8_comes : jY := (yX8_comes, cX8_comes, 5, none, 3, 0, 0)
theorem jok_X8_comes : jYok jy_X8_comes 3 := ⟨(jmem 384 (by decide +kernel)), (jmem 61 (by decide +kernel)), ⟨by decide +kernel, by decide +kernel⟩, by decide +kernel⟩
def jp_X8_comes (Φ : jPost) : Nat → jI := (jN 17 (jN 6 (jN 2 (jN 1 (jlf 0 (ji_iload 1 1)) (jlf 1 (ji_aload 0 2))) (jN 5 (jlf 2 (ji_getf 7 1 5)) (jlf 5 (ji_alen 6)))) (jN 12 (jN 9 (jlf 6 (ji_call jy_X11_within 2 0 0 9)) (jlf 9 (ji_ifeq 31 12))) (jN 13 (jlf 12 (ji_aload 0 13)) (jN 16 (jlf 13 (ji_getf 7 1 16)) (jlf 16 (ji_iload 1 17)))))) (jN 25 (jN 20 (jN 19 (jlf 17 (ji_aload 4 19)) (jlf 19 (ji_aload 0 20))) (jN 23 (jlf 20 (ji_getf 7 1 23)) (jN 24 (jlf 23 (ji_iload 1 24)) (jlf 24 (ji_lald 25))))) (jN 27 (jN 26 (jlf 25 (ji_lload 2 26)) (jlf 26 (ji_iload 1 27))) (jN 30 (jlf 27 (ji_vcall jy_X3_plus 3 2 0 0 30)) (jN 31 (jlf 30 (ji_last 31)) (jlf 31 (ji_ret Φ 0 0)))))))
set_option maxRecDepth 20000 in
theorem js_X8_comes (Φ : jPost) : ∀ pc, jS jy_X8_comes Φ pc (jp_X8_comes Φ pc) := (jSN (jSN (jSN (jSN (jSl (jS_iloadn (q := 1) rfl (by decide +kernel) rfl)) (jSl (jS_aloadn (q := 0) rfl (by decide +kernel) rfl))) (jSN (jSl (jS_getf (ci := 7) (index := 30) (f := 1) (ref := "QuasiSums$Sum") jin7 rfl (by decide) (jmem 182 (by decide +kernel)) (Or.inl rfl) (by decide +kernel) rfl)) (jSl (jS_alen (by decide +kernel) rfl)))) (jSN (jSN (jSl (jS_scallN (index := 34) (host := "QuasiSums") (Z := jy_X11_within) jok_X11_within (jmem 122 (by decide +kernel)) (jmem 341 (by decide +kernel)) (by decide) (by decide) (by decide +kernel) rfl)) (jSl (jS_ifeq (off := 22) (by decide +kernel) (by decide) rfl))) (jSN (jSl (jS_aloadn (q := 0) rfl (by decide +kernel) rfl)) (jSN (jSl (jS_getf (ci := 7) (index := 30) (f := 1) (ref := "QuasiSums$Sum") jin7 rfl (by decide) (jmem 182 (by decide +kernel)) (Or.inl rfl) (by decide +kernel) rfl)) (jSl (jS_iloadn (q := 1) rfl (by decide +kernel) rfl)))))) (jSN (jSN (jSN (jSl (jS_aload (by decide +kernel) rfl)) (jSl (jS_aloadn (q := 0) rfl (by decide +kernel) rfl))) (jSN (jSl (jS_getf (ci := 7) (index := 30) (f := 1) (ref := "QuasiSums$Sum") jin7 rfl (by decide) (jmem 182 (by decide +kernel)) (Or.inl rfl) (by decide +kernel) rfl)) (jSN (jSl (jS_iloadn (q := 1) rfl (by decide +kernel) rfl)) (jSl (jS_lald (by decide +kernel) rfl))))) (jSN (jSN (jSl (jS_lloadn (q := 2) rfl (by decide +kernel) rfl)) (jSl (jS_iloadn (q := 1) rfl (by decide +kernel) rfl))) (jSN (jSl (jS_vcall (index := 38) (Z := jy_X3_plus) (ci := 2) jok_X3_plus (jmem 386 (by decide +kernel)) (jmem 387 (by decide +kernel)) rfl (jmem 385 (by decide +kernel)) (by decide) (by decide) (by decide +kernel) rfl)) (jSN (jSl (jS_last (by decide +kernel) rfl)) (jSl (jS_ret rfl (by decide +kernel))))))))
def jy_X8_comesToFiner : jY := (yX8_comesToFiner, cX8_comesToFiner, 6, none, 4, 0, 0)
theorem jok_X8_comesToFiner : jYok jy_X8_comesToFiner 3 := ⟨(jmem 377 (by decide +kernel)), (jmem 61 (by decide +kernel)), ⟨by decide +kernel, by decide +kernel⟩, by decide +kernel⟩
def jp_X8_comesToFiner (Φ : jPost) : Nat → jI := (jN 16 (jN 6 (jN 3 (jN 1 (jlf 0 (ji_push (.int (nI 0)) 1)) (jlf 1 (ji_istore 5 3))) (jN 5 (jlf 3 (ji_iload 5 5)) (jlf 5 (ji_aload 0 6)))) (jN 10 (jN 9 (jlf 6 (ji_getf 7 1 9)) (jlf 9 (ji_alen 10))) (jN 13 (jlf 10 (ji_icmpge 37 13)) (jN 15 (jlf 13 (ji_iload 5 15)) (jlf 15 (ji_iload 1 16)))))) (jN 26 (jN 22 (jN 19 (jlf 16 (ji_call jy_X0_isFiner 2 0 0 19)) (jlf 19 (ji_ifeq 31 22))) (jN 23 (jlf 22 (ji_aload 0 23)) (jN 25 (jlf 23 (ji_iload 5 25)) (jlf 25 (ji_lload 2 26))))) (jN 31 (jN 28 (jlf 26 (ji_aload 4 28)) (jlf 28 (ji_vcall jy_X8_comes 3 7 0 0 31))) (jN 34 (jlf 31 (ji_iinc 5 (nI 1) 34)) (jN 37 (jlf 34 (ji_goto 3)) (jlf 37 (ji_ret Φ 0 0)))))))
set_option maxRecDepth 20000 in
theorem js_X8_comesToFiner (Φ : jPost) : ∀ pc, jS jy_X8_comesToFiner Φ pc (jp_X8_comesToFiner Φ pc) := (jSN (jSN (jSN (jSN (jSl (jS_iconst (n := 0) (v := (nI 0)) (by decide +kernel) (by decide +kernel) rfl)) (jSl (jS_istore (by decide +kernel) rfl (by decide)))) (jSN (jSl (jS_iload (by decide +kernel) rfl)) (jSl (jS_aloadn (q := 0) rfl (by decide +kernel) rfl)))) (jSN (jSN (jSl (jS_getf (ci := 7) (index := 30) (f := 1) (ref := "QuasiSums$Sum") jin7 rfl (by decide) (jmem 182 (by decide +kernel)) (Or.inl rfl) (by decide +kernel) rfl)) (jSl (jS_alen (by decide +kernel) rfl))) (jSN (jSl (jS_icmpge (off := 27) (by decide +kernel) (by decide) rfl)) (jSN (jSl (jS_iload (by decide +kernel) rfl)) (jSl (jS_iloadn (q := 1) rfl (by decide +kernel) rfl)))))) (jSN (jSN (jSN (jSl (jS_scall (index := 44) (Z := jy_X0_isFiner) jok_X0_isFiner (jmem 379 (by decide +kernel)) (jmem 378 (by decide +kernel)) (by decide) (by decide) (by decide +kernel) rfl)) (jSl (jS_ifeq (off := 12) (by decide +kernel) (by decide) rfl))) (jSN (jSl (jS_aloadn (q := 0) rfl (by decide +kernel) rfl)) (jSN (jSl (jS_iload (by decide +kernel) rfl)) (jSl (jS_lloadn (q := 2) rfl (by decide +kernel) rfl))))) (jSN (jSN (jSl (jS_aload (by decide +kernel) rfl)) (jSl (jS_vcall (index := 47) (Z := jy_X8_comes) (ci := 7) jok_X8_comes (jmem 383 (by decide +kernel)) (jmem 10 (by decide +kernel)) rfl (jmem 381 (by decide +kernel)) (by decide) (by decide) (by decide +kernel) rfl))) (jSN (jSl (jS_iinc (n := 1) (v := (nI 1)) (by decide +kernel) (by decide +kernel) rfl (by decide))) (jSN (jSl (jS_goto (off := -31) (by decide +kernel) (by decide))) (jSl (jS_ret rfl (by decide +kernel))))))))
def jy_X4_makes : jY := (yX4_makes, cX4_makes, 6, some (.object "QuasiSums$Sum"), 5, 5, 76)
theorem jok_X4_makes : jYok jy_X4_makes 0 := ⟨(jmem 597 (by decide +kernel)), (jmem 55 (by decide +kernel)), ⟨by decide +kernel, by decide +kernel⟩, by decide +kernel⟩
def jp_X4_makes (Φ : jPost) : Nat → jI := (jN 54 (jN 27 (jN 14 (jN 7 (jN 1 (jlf 0 (ji_aload 0 1)) (jN 4 (jlf 1 (ji_getf 3 0 4)) (jlf 4 (ji_call jy_X0_howMany 1 5 76 7)))) (jN 10 (jN 9 (jlf 7 (ji_newarr .long (.inr (.inl (fun _ => 0))) 5 76 9)) (jlf 9 (ji_astore 1 10))) (jN 11 (jlf 10 (ji_aload 0 11)) (jlf 11 (ji_getf 3 0 14))))) (jN 19 (jN 17 (jN 16 (jlf 14 (ji_newarr .int (.inl (fun _ => nI 0)) 5 76 16)) (jlf 16 (ji_astore 2 17))) (jN 18 (jlf 17 (ji_push (.int (nI 0)) 18)) (jlf 18 (ji_istore 3 19)))) (jN 21 (jN 20 (jlf 19 (ji_iload 3 20)) (jlf 20 (ji_aload 0 21))) (jN 24 (jlf 21 (ji_vcall jy_X4_howManyRows 0 3 5 76 24)) (jlf 24 (ji_icmpge 63 27)))))) (jN 41 (jN 33 (jN 29 (jN 28 (jlf 27 (ji_aload 0 28)) (jlf 28 (ji_iload 3 29))) (jN 30 (jlf 29 (ji_aload 2 30)) (jlf 30 (ji_vcall jy_X4_tellRow 2 3 5 76 33)))) (jN 37 (jN 34 (jlf 33 (ji_aload 2 34)) (jlf 34 (ji_call jy_X4_descents 1 5 76 37))) (jN 39 (jlf 37 (ji_istore 4 39)) (jlf 39 (ji_iload 4 41))))) (jN 49 (jN 43 (jN 42 (jlf 41 (ji_aload 1 42)) (jlf 42 (ji_alen 43))) (jN 46 (jlf 43 (ji_call jy_X11_within 2 5 76 46)) (jlf 46 (ji_ifeq 57 49)))) (jN 52 (jN 50 (jlf 49 (ji_aload 1 50)) (jlf 50 (ji_iload 4 52))) (jN 53 (jlf 52 (ji_dup2 53)) (jlf 53 (ji_lald 54))))))) (jN 85 (jN 68 (jN 60 (jN 56 (jN 55 (jlf 54 (ji_push (.long 1) 55)) (jlf 55 (ji_ladd 56))) (jN 57 (jlf 56 (ji_last 57)) (jlf 57 (ji_iinc 3 (nI 1) 60)))) (jN 66 (jN 63 (jlf 60 (ji_goto 19)) (jlf 63 (ji_new 7 2 [.int (nI 0), .null] 5 76 66))) (jN 67 (jlf 66 (ji_dup 67)) (jlf 67 (ji_aload 0 68))))) (jN 78 (jN 74 (jN 71 (jlf 68 (ji_getf 3 0 71)) (jlf 71 (ji_icall jy_X8_init 1 5 76 74))) (jN 75 (jlf 74 (ji_astore 3 75)) (jlf 75 (ji_new 2 2 [.int (nI 0), .int (nI 0)] 5 76 78)))) (jN 82 (jN 79 (jlf 78 (ji_dup 79)) (jlf 79 (ji_icall jy_X3_init 0 5 76 82))) (jN 84 (jlf 82 (ji_astore 4 84)) (jlf 84 (ji_push (.int (nI 0)) 85)))))) (jN 98 (jN 91 (jN 89 (jN 87 (jlf 85 (ji_istore 5 87)) (jlf 87 (ji_iload 5 89))) (jN 90 (jlf 89 (ji_aload 1 90)) (jlf 90 (ji_alen 91)))) (jN 95 (jN 94 (jlf 91 (ji_icmpge 112 94)) (jlf 94 (ji_aload 3 95))) (jN 97 (jlf 95 (ji_iload 5 97)) (jlf 97 (ji_aload 1 98))))) (jN 106 (jN 101 (jN 100 (jlf 98 (ji_iload 5 100)) (jlf 100 (ji_lald 101))) (jN 103 (jlf 101 (ji_aload 4 103)) (jlf 103 (ji_vcall jy_X8_comesToFiner 3 7 5 76 106)))) (jN 112 (jN 109 (jlf 106 (ji_iinc 5 (nI 1) 109)) (jlf 109 (ji_goto 87))) (jN 113 (jlf 112 (ji_aload 3 113)) (jlf 113 (ji_aret Φ 5 76))))))))
set_option maxRecDepth 20000 in
theorem js_X4_makes (Φ : jPost) : ∀ pc, jS jy_X4_makes Φ pc (jp_X4_makes Φ pc) := (jSN (jSN (jSN (jSN (jSN (jSl (jS_aloadn (q := 0) rfl (by decide +kernel) rfl)) (jSN (jSl (jS_getf (ci := 3) (index := 23) (f := 0) (ref := "QuasiSums$Order") jin3 rfl (by decide) (jmem 124 (by decide +kernel)) (Or.inl rfl) (by decide +kernel) rfl)) (jSl (jS_scall (index := 65) (Z := jy_X0_howMany) jok_X0_howMany (jmem 178 (by decide +kernel)) (jmem 598 (by decide +kernel)) (by decide) (by decide) (by decide +kernel) rfl)))) (jSN (jSN (jSl (jS_newarr (at_ := .long) rfl (by decide) jz_long (by decide) (fun _ _ => rfl) (jmem 189 (by decide +kernel)) (by decide +kernel) rfl)) (jSl (jS_astoren (q := 1) rfl (by decide +kernel) rfl (by decide)))) (jSN (jSl (jS_aloadn (q := 0) rfl (by decide +kernel) rfl)) (jSl (jS_getf (ci := 3) (index := 23) (f := 0) (ref := "QuasiSums$Order") jin3 rfl (by decide) (jmem 124 (by decide +kernel)) (Or.inl rfl) (by decide +kernel) rfl))))) (jSN (jSN (jSN (jSl (jS_newarr (at_ := .int) rfl (by decide) jz_int (by decide) (fun _ _ => rfl) (jmem 135 (by decide +kernel)) (by decide +kernel) rfl)) (jSl (jS_astoren (q := 2) rfl (by decide +kernel) rfl (by decide)))) (jSN (jSl (jS_iconst (n := 0) (v := (nI 0)) (by decide +kernel) (by decide +kernel) rfl)) (jSl (jS_istoren (q := 3) rfl (by decide +kernel) rfl (by decide))))) (jSN (jSN (jSl (jS_iloadn (q := 3) rfl (by decide +kernel) rfl)) (jSl (jS_aloadn (q := 0) rfl (by decide +kernel) rfl))) (jSN (jSl (jS_vcall (index := 70) (Z := jy_X4_howManyRows) (ci := 3) jok_X4_howManyRows (jmem 573 (by decide +kernel)) (jmem 574 (by decide +kernel)) rfl (jmem 599 (by decide +kernel)) (by decide) (by decide) (by decide +kernel) rfl)) (jSl (jS_icmpge (off := 39) (by decide +kernel) (by decide) rfl)))))) (jSN (jSN (jSN (jSN (jSl (jS_aloadn (q := 0) rfl (by decide +kernel) rfl)) (jSl (jS_iloadn (q := 3) rfl (by decide +kernel) rfl))) (jSN (jSl (jS_aloadn (q := 2) rfl (by decide +kernel) rfl)) (jSl (jS_vcall (index := 74) (Z := jy_X4_tellRow) (ci := 3) jok_X4_tellRow (jmem 577 (by decide +kernel)) (jmem 578 (by decide +kernel)) rfl (jmem 600 (by decide +kernel)) (by decide) (by decide) (by decide +kernel) rfl)))) (jSN (jSN (jSl (jS_aloadn (q := 2) rfl (by decide +kernel) rfl)) (jSl (jS_scall (index := 77) (Z := jy_X4_descents) jok_X4_descents (jmem 585 (by decide +kernel)) (jmem 601 (by decide +kernel)) (by decide) (by decide) (by decide +kernel) rfl))) (jSN (jSl (jS_istore (by decide +kernel) rfl (by decide))) (jSl (jS_iload (by decide +kernel) rfl))))) (jSN (jSN (jSN (jSl (jS_aloadn (q := 1) rfl (by decide +kernel) rfl)) (jSl (jS_alen (by decide +kernel) rfl))) (jSN (jSl (jS_scallN (index := 44) (host := "QuasiSums") (Z := jy_X11_within) jok_X11_within (jmem 122 (by decide +kernel)) (jmem 121 (by decide +kernel)) (by decide) (by decide) (by decide +kernel) rfl)) (jSl (jS_ifeq (off := 11) (by decide +kernel) (by decide) rfl)))) (jSN (jSN (jSl (jS_aloadn (q := 1) rfl (by decide +kernel) rfl)) (jSl (jS_iload (by decide +kernel) rfl))) (jSN (jSl (jS_dup2 (by decide +kernel) rfl)) (jSl (jS_lald (by decide +kernel) rfl))))))) (jSN (jSN (jSN (jSN (jSN (jSl (jS_lconst (n := 1) (v := 1) (by decide +kernel) (by decide +kernel) rfl)) (jSl (jS_ladd (by decide +kernel) rfl))) (jSN (jSl (jS_last (by decide +kernel) rfl)) (jSl (jS_iinc (n := 1) (v := (nI 1)) (by decide +kernel) (by decide +kernel) rfl (by decide))))) (jSN (jSN (jSl (jS_goto (off := -41) (by decide +kernel) (by decide))) (jSl (jS_new (index := 81) (ci := 7) jin7 rfl tyX8_ok jdf7 (fun _ => rfl) (jmem 602 (by decide +kernel)) (jmem 167 (by decide +kernel)) (jmem 61 (by decide +kernel)) (by decide +kernel) rfl))) (jSN (jSl (jS_dup (by decide +kernel) rfl)) (jSl (jS_aloadn (q := 0) rfl (by decide +kernel) rfl))))) (jSN (jSN (jSN (jSl (jS_getf (ci := 3) (index := 23) (f := 0) (ref := "QuasiSums$Order") jin3 rfl (by decide) (jmem 124 (by decide +kernel)) (Or.inl rfl) (by decide +kernel) rfl)) (jSl (jS_icall (index := 83) (Z := jy_X8_init) rfl jok_X8_init (jmem 169 (by decide +kernel)) rfl (jmem 603 (by decide +kernel)) (by decide) (by decide) (by decide +kernel) rfl))) (jSN (jSl (jS_astoren (q := 3) rfl (by decide +kernel) rfl (by decide))) (jSl (jS_new (index := 86) (ci := 2) jin2 rfl tyX3_ok jdf2 (fun _ => rfl) (jmem 604 (by decide +kernel)) (jmem 356 (by decide +kernel)) (jmem 70 (by decide +kernel)) (by decide +kernel) rfl)))) (jSN (jSN (jSl (jS_dup (by decide +kernel) rfl)) (jSl (jS_icallN (index := 88) (host := "QuasiSums") (Z := jy_X3_init) rfl jok_X3_init (jmem 358 (by decide +kernel)) rfl (jmem 605 (by decide +kernel)) (by decide) (by decide) (by decide +kernel) rfl))) (jSN (jSl (jS_astore (by decide +kernel) rfl (by decide))) (jSl (jS_iconst (n := 0) (v := (nI 0)) (by decide +kernel) (by decide +kernel) rfl)))))) (jSN (jSN (jSN (jSN (jSl (jS_istore (by decide +kernel) rfl (by decide))) (jSl (jS_iload (by decide +kernel) rfl))) (jSN (jSl (jS_aloadn (q := 1) rfl (by decide +kernel) rfl)) (jSl (jS_alen (by decide +kernel) rfl)))) (jSN (jSN (jSl (jS_icmpge (off := 21) (by decide +kernel) (by decide) rfl)) (jSl (jS_aloadn (q := 3) rfl (by decide +kernel) rfl))) (jSN (jSl (jS_iload (by decide +kernel) rfl)) (jSl (jS_aloadn (q := 1) rfl (by decide +kernel) rfl))))) (jSN (jSN (jSN (jSl (jS_iload (by decide +kernel) rfl)) (jSl (jS_lald (by decide +kernel) rfl))) (jSN (jSl (jS_aload (by decide +kernel) rfl)) (jSl (jS_vcallN (index := 89) (host := "QuasiSums") (Z := jy_X8_comesToFiner) (ci := 7) jok_X8_comesToFiner (jmem 376 (by decide +kernel)) (jmem 9 (by decide +kernel)) rfl (jmem 606 (by decide +kernel)) (by decide) (by decide) (by decide +kernel) rfl)))) (jSN (jSN (jSl (jS_iinc (n := 1) (v := (nI 1)) (by decide +kernel) (by decide +kernel) rfl (by decide))) (jSl (jS_goto (off := -22) (by decide +kernel) (by decide)))) (jSN (jSl (jS_aloadn (q := 3) rfl (by decide +kernel) rfl)) (jSl (jS_aret rfl (Or.inl ⟨_, rfl⟩) (by decide +kernel)))))))))
def jy_X4_firstWrong : jY := (yX4_firstWrong, cX4_firstWrong, 4, some .int, 3, 0, 0)
theorem jok_X4_firstWrong : jYok jy_X4_firstWrong 1 := ⟨(jmem 710 (by decide +kernel)), (jmem 55 (by decide +kernel)), ⟨by decide +kernel, by decide +kernel⟩, by decide +kernel⟩
def jp_X4_firstWrong (Φ : jPost) : Nat → jI := (jN 23 (jN 10 (jN 4 (jN 2 (jN 1 (jlf 0 (ji_push (.int (nI 0)) 1)) (jlf 1 (ji_istore 2 2))) (jN 3 (jlf 2 (ji_push (.int (nI 0)) 3)) (jlf 3 (ji_istore 3 4)))) (jN 6 (jN 5 (jlf 4 (ji_iload 3 5)) (jlf 5 (ji_aload 1 6))) (jN 7 (jlf 6 (ji_alen 7)) (jlf 7 (ji_icmpge 47 10))))) (jN 18 (jN 12 (jN 11 (jlf 10 (ji_iload 3 11)) (jlf 11 (ji_aload 0 12))) (jN 15 (jlf 12 (ji_getf 3 0 15)) (jlf 15 (ji_icmpge 47 18)))) (jN 20 (jN 19 (jlf 18 (ji_aload 0 19)) (jlf 19 (ji_aload 1 20))) (jN 21 (jlf 20 (ji_iload 3 21)) (jN 22 (jlf 21 (ji_iald 22)) (jlf 22 (ji_iload 2 23))))))) (jN 36 (jN 31 (jN 29 (jN 26 (jlf 23 (ji_vcall jy_X4_canCome 2 3 0 0 26)) (jlf 26 (ji_ifne 31 29))) (jN 30 (jlf 29 (ji_iload 3 30)) (jlf 30 (ji_iret Φ 0 0)))) (jN 33 (jN 32 (jlf 31 (ji_iload 2 32)) (jlf 32 (ji_push (.int (nI 1)) 33))) (jN 34 (jlf 33 (ji_aload 1 34)) (jN 35 (jlf 34 (ji_iload 3 35)) (jlf 35 (ji_iald 36)))))) (jN 40 (jN 38 (jN 37 (jlf 36 (ji_push (.int (nI 1)) 37)) (jlf 37 (ji_isub 38))) (jN 39 (jlf 38 (ji_ishl 39)) (jlf 39 (ji_ior 40)))) (jN 44 (jN 41 (jlf 40 (ji_istore 2 41)) (jlf 41 (ji_iinc 3 (nI 1) 44))) (jN 47 (jlf 44 (ji_goto 4)) (jN 48 (jlf 47 (ji_push (.int (-1)) 48)) (jlf 48 (ji_iret Φ 0 0))))))))
set_option maxRecDepth 20000 in
theorem js_X4_firstWrong (Φ : jPost) : ∀ pc, jS jy_X4_firstWrong Φ pc (jp_X4_firstWrong Φ pc) := (jSN (jSN (jSN (jSN (jSN (jSl (jS_iconst (n := 0) (v := (nI 0)) (by decide +kernel) (by decide +kernel) rfl)) (jSl (jS_istoren (q := 2) rfl (by decide +kernel) rfl (by decide)))) (jSN (jSl (jS_iconst (n := 0) (v := (nI 0)) (by decide +kernel) (by decide +kernel) rfl)) (jSl (jS_istoren (q := 3) rfl (by decide +kernel) rfl (by decide))))) (jSN (jSN (jSl (jS_iloadn (q := 3) rfl (by decide +kernel) rfl)) (jSl (jS_aloadn (q := 1) rfl (by decide +kernel) rfl))) (jSN (jSl (jS_alen (by decide +kernel) rfl)) (jSl (jS_icmpge (off := 40) (by decide +kernel) (by decide) rfl))))) (jSN (jSN (jSN (jSl (jS_iloadn (q := 3) rfl (by decide +kernel) rfl)) (jSl (jS_aloadn (q := 0) rfl (by decide +kernel) rfl))) (jSN (jSl (jS_getf (ci := 3) (index := 23) (f := 0) (ref := "QuasiSums$Order") jin3 rfl (by decide) (jmem 124 (by decide +kernel)) (Or.inl rfl) (by decide +kernel) rfl)) (jSl (jS_icmpge (off := 32) (by decide +kernel) (by decide) rfl)))) (jSN (jSN (jSl (jS_aloadn (q := 0) rfl (by decide +kernel) rfl)) (jSl (jS_aloadn (q := 1) rfl (by decide +kernel) rfl))) (jSN (jSl (jS_iloadn (q := 3) rfl (by decide +kernel) rfl)) (jSN (jSl (jS_iald (by decide +kernel) rfl)) (jSl (jS_iloadn (q := 2) rfl (by decide +kernel) rfl))))))) (jSN (jSN (jSN (jSN (jSl (jS_vcall (index := 40) (Z := jy_X4_canCome) (ci := 3) jok_X4_canCome (jmem 114 (by decide +kernel)) (jmem 115 (by decide +kernel)) rfl (jmem 113 (by decide +kernel)) (by decide) (by decide) (by decide +kernel) rfl)) (jSl (jS_ifne (off := 5) (by decide +kernel) (by decide) rfl))) (jSN (jSl (jS_iloadn (q := 3) rfl (by decide +kernel) rfl)) (jSl (jS_iret rfl (by decide +kernel))))) (jSN (jSN (jSl (jS_iloadn (q := 2) rfl (by decide +kernel) rfl)) (jSl (jS_iconst (n := 1) (v := (nI 1)) (by decide +kernel) (by decide +kernel) rfl))) (jSN (jSl (jS_aloadn (q := 1) rfl (by decide +kernel) rfl)) (jSN (jSl (jS_iloadn (q := 3) rfl (by decide +kernel) rfl)) (jSl (jS_iald (by decide +kernel) rfl)))))) (jSN (jSN (jSN (jSl (jS_iconst (n := 1) (v := (nI 1)) (by decide +kernel) (by decide +kernel) rfl)) (jSl (jS_isub (by decide +kernel) rfl))) (jSN (jSl (jS_ishl (by decide +kernel) rfl)) (jSl (jS_ior (by decide +kernel) rfl)))) (jSN (jSN (jSl (jS_istoren (q := 2) rfl (by decide +kernel) rfl (by decide))) (jSl (jS_iinc (n := 1) (v := (nI 1)) (by decide +kernel) (by decide +kernel) rfl (by decide)))) (jSN (jSl (jS_goto (off := -40) (by decide +kernel) (by decide))) (jSN (jSl (jS_iconst (n := -1) (v := (-1)) (by decide +kernel) (by decide +kernel) rfl)) (jSl (jS_iret rfl (by decide +kernel)))))))))
def jy_X5_init : jY := (yX5_init, cX5_init, 3, none, 5, 1, 3)
theorem jok_X5_init : jYok jy_X5_init 2 := ⟨(jmem 735 (by decide +kernel)), (jmem 77 (by decide +kernel)), ⟨by decide +kernel, by decide +kernel⟩, by decide +kernel⟩
def jp_X5_init (Φ : jPost) : Nat → jI := (jN 21 (jN 9 (jN 4 (jN 1 (jlf 0 (ji_aload 0 1)) (jlf 1 (ji_objinit 4))) (jN 5 (jlf 4 (ji_aload 0 5)) (jN 8 (jlf 5 (ji_new 0 3 [.int (nI 0), .null, .int (nI 0)] 1 3 8)) (jlf 8 (ji_dup 9))))) (jN 16 (jN 12 (jlf 9 (ji_icall jy_Jx4a65c_init_da8c8 0 1 3 12)) (jN 15 (jlf 12 (ji_putf 4 2 (.object "java/util/ArrayList") 15)) (jlf 15 (ji_aload 0 16)))) (jN 17 (jlf 16 (ji_push (.int (nI 0)) 17)) (jN 20 (jlf 17 (ji_putf 4 3 .int 20)) (jlf 20 (ji_aload 0 21)))))) (jN 31 (jN 26 (jN 22 (jlf 21 (ji_push (.int (nI 0)) 22)) (jN 25 (jlf 22 (ji_putf 4 4 .int 25)) (jlf 25 (ji_aload 0 26)))) (jN 27 (jlf 26 (ji_aload 1 27)) (jN 30 (jlf 27 (ji_putf 4 0 (.array .int) 30)) (jlf 30 (ji_aload 0 31))))) (jN 34 (jN 32 (jlf 31 (ji_iload 2 32)) (jN 33 (jlf 32 (ji_aload 1 33)) (jlf 33 (ji_alen 34)))) (jN 37 (jlf 34 (ji_call jy_J9_min_7cf53 2 1 3 37)) (jN 40 (jlf 37 (ji_putf 4 1 .int 40)) (jlf 40 (ji_ret Φ 1 3)))))))
set_option maxRecDepth 20000 in
theorem js_X5_init (Φ : jPost) : ∀ pc, jS jy_X5_init Φ pc (jp_X5_init Φ pc) := (jSN (jSN (jSN (jSN (jSl (jS_aloadn (q := 0) rfl (by decide +kernel) rfl)) (jSl (jS_objinit (index := 1) (jmem 736 (by decide +kernel)) (jmem 86 (by decide +kernel)) (jmem 87 (by decide +kernel)) (by decide) (by decide +kernel) rfl))) (jSN (jSl (jS_aloadn (q := 0) rfl (by decide +kernel) rfl)) (jSN (jSl (jS_new (index := 7) (ci := 0) jin0 rfl tyJx4a65c_ok jdf0 (fun _ => rfl) (jmem 737 (by decide +kernel)) (jmem 141 (by decide +kernel)) (jmem 59 (by decide +kernel)) (by decide +kernel) rfl)) (jSl (jS_dup (by decide +kernel) rfl))))) (jSN (jSN (jSl (jS_icall (index := 9) (Z := jy_Jx4a65c_init_da8c8) rfl jok_Jx4a65c_init_da8c8 (jmem 143 (by decide +kernel)) rfl (jmem 738 (by decide +kernel)) (by decide) (by decide) (by decide +kernel) rfl)) (jSN (jSl (jS_putF (ci := 4) (index := 10) (f := 2) (ref := "QuasiSums$Reader") jin4 rfl tyX5_ok nmX5 (by decide) (jmem 742 (by decide +kernel)) rfl rfl rfl rfl (by decide +kernel) rfl)) (jSl (jS_aloadn (q := 0) rfl (by decide +kernel) rfl)))) (jSN (jSl (jS_iconst (n := 0) (v := (nI 0)) (by decide +kernel) (by decide +kernel) rfl)) (jSN (jSl (jS_putf (ci := 4) (index := 16) (f := 3) (ref := "QuasiSums$Reader") jin4 rfl tyX5_ok nmX5 (by decide) (jmem 744 (by decide +kernel)) (Or.inl rfl) rfl (by decide +kernel) rfl)) (jSl (jS_aloadn (q := 0) rfl (by decide +kernel) rfl)))))) (jSN (jSN (jSN (jSl (jS_iconst (n := 0) (v := (nI 0)) (by decide +kernel) (by decide +kernel) rfl)) (jSN (jSl (jS_putf (ci := 4) (index := 20) (f := 4) (ref := "QuasiSums$Reader") jin4 rfl tyX5_ok nmX5 (by decide) (jmem 746 (by decide +kernel)) (Or.inl rfl) rfl (by decide +kernel) rfl)) (jSl (jS_aloadn (q := 0) rfl (by decide +kernel) rfl)))) (jSN (jSl (jS_aloadn (q := 1) rfl (by decide +kernel) rfl)) (jSN (jSl (jS_putF (ci := 4) (index := 23) (f := 0) (ref := "QuasiSums$Reader") jin4 rfl tyX5_ok nmX5 (by decide) (jmem 740 (by decide +kernel)) rfl rfl rfl rfl (by decide +kernel) rfl)) (jSl (jS_aloadn (q := 0) rfl (by decide +kernel) rfl))))) (jSN (jSN (jSl (jS_iloadn (q := 2) rfl (by decide +kernel) rfl)) (jSN (jSl (jS_aloadn (q := 1) rfl (by decide +kernel) rfl)) (jSl (jS_alen (by decide +kernel) rfl)))) (jSN (jSl (jS_scall (index := 27) (Z := jy_J9_min_7cf53) jok_J9_min_7cf53 (jmem 103 (by decide +kernel)) (jmem 739 (by decide +kernel)) (by decide) (by decide) (by decide +kernel) rfl)) (jSN (jSl (jS_putF (ci := 4) (index := 33) (f := 1) (ref := "QuasiSums$Reader") jin4 rfl tyX5_ok nmX5 (by decide) (jmem 741 (by decide +kernel)) rfl rfl rfl rfl (by decide +kernel) rfl)) (jSl (jS_ret rfl (by decide +kernel))))))))
def jy_X5_figure : jY := (yX5_figure, cX5_figure, 1, some .int, 2, 0, 0)
theorem jok_X5_figure : jYok jy_X5_figure 0 := ⟨(jmem 774 (by decide +kernel)), (jmem 77 (by decide +kernel)), ⟨by decide +kernel, by decide +kernel⟩, by decide +kernel⟩
def jp_X5_figure (Φ : jPost) : Nat → jI := (jN 32 (jN 15 (jN 5 (jN 1 (jlf 0 (ji_aload 0 1)) (jN 4 (jlf 1 (ji_getf 4 3 4)) (jlf 4 (ji_aload 0 5)))) (jN 11 (jN 8 (jlf 5 (ji_getf 4 1 8)) (jlf 8 (ji_call jy_X11_within 2 0 0 11))) (jN 14 (jlf 11 (ji_ifeq 42 14)) (jlf 14 (ji_aload 0 15))))) (jN 23 (jN 19 (jN 18 (jlf 15 (ji_getf 4 0 18)) (jlf 18 (ji_aload 0 19))) (jN 22 (jlf 19 (ji_getf 4 3 22)) (jlf 22 (ji_iald 23)))) (jN 28 (jN 25 (jlf 23 (ji_push (.int (nI 48)) 25)) (jlf 25 (ji_icmplt 42 28))) (jN 29 (jlf 28 (ji_aload 0 29)) (jlf 29 (ji_getf 4 0 32)))))) (jN 44 (jN 37 (jN 33 (jlf 32 (ji_aload 0 33)) (jN 36 (jlf 33 (ji_getf 4 3 36)) (jlf 36 (ji_iald 37)))) (jN 42 (jN 39 (jlf 37 (ji_push (.int (nI 57)) 39)) (jlf 39 (ji_icmple 44 42))) (jN 43 (jlf 42 (ji_push (.int (-1)) 43)) (jlf 43 (ji_iret Φ 0 0))))) (jN 52 (jN 48 (jN 45 (jlf 44 (ji_aload 0 45)) (jlf 45 (ji_getf 4 0 48))) (jN 49 (jlf 48 (ji_aload 0 49)) (jlf 49 (ji_getf 4 3 52)))) (jN 55 (jN 53 (jlf 52 (ji_iald 53)) (jlf 53 (ji_push (.int (nI 48)) 55))) (jN 56 (jlf 55 (ji_isub 56)) (jlf 56 (ji_iret Φ 0 0)))))))
set_option maxRecDepth 20000 in
theorem js_X5_figure (Φ : jPost) : ∀ pc, jS jy_X5_figure Φ pc (jp_X5_figure Φ pc) := (jSN (jSN (jSN (jSN (jSl (jS_aloadn (q := 0) rfl (by decide +kernel) rfl)) (jSN (jSl (jS_getf (ci := 4) (index := 16) (f := 3) (ref := "QuasiSums$Reader") jin4 rfl (by decide) (jmem 744 (by decide +kernel)) (Or.inl rfl) (by decide +kernel) rfl)) (jSl (jS_aloadn (q := 0) rfl (by decide +kernel) rfl)))) (jSN (jSN (jSl (jS_getf (ci := 4) (index := 33) (f := 1) (ref := "QuasiSums$Reader") jin4 rfl (by decide) (jmem 741 (by decide +kernel)) (Or.inl rfl) (by decide +kernel) rfl)) (jSl (jS_scallN (index := 68) (host := "QuasiSums") (Z := jy_X11_within) jok_X11_within (jmem 122 (by decide +kernel)) (jmem 775 (by decide +kernel)) (by decide) (by decide) (by decide +kernel) rfl))) (jSN (jSl (jS_ifeq (off := 31) (by decide +kernel) (by decide) rfl)) (jSl (jS_aloadn (q := 0) rfl (by decide +kernel) rfl))))) (jSN (jSN (jSN (jSl (jS_getf (ci := 4) (index := 23) (f := 0) (ref := "QuasiSums$Reader") jin4 rfl (by decide) (jmem 740 (by decide +kernel)) (Or.inl rfl) (by decide +kernel) rfl)) (jSl (jS_aloadn (q := 0) rfl (by decide +kernel) rfl))) (jSN (jSl (jS_getf (ci := 4) (index := 16) (f := 3) (ref := "QuasiSums$Reader") jin4 rfl (by decide) (jmem 744 (by decide +kernel)) (Or.inl rfl) (by decide +kernel) rfl)) (jSl (jS_iald (by decide +kernel) rfl)))) (jSN (jSN (jSl (jS_bipush (n := 48) (v := (nI 48)) (by decide +kernel) (by decide +kernel) rfl)) (jSl (jS_icmplt (off := 17) (by decide +kernel) (by decide) rfl))) (jSN (jSl (jS_aloadn (q := 0) rfl (by decide +kernel) rfl)) (jSl (jS_getf (ci := 4) (index := 23) (f := 0) (ref := "QuasiSums$Reader") jin4 rfl (by decide) (jmem 740 (by decide +kernel)) (Or.inl rfl) (by decide +kernel) rfl)))))) (jSN (jSN (jSN (jSl (jS_aloadn (q := 0) rfl (by decide +kernel) rfl)) (jSN (jSl (jS_getf (ci := 4) (index := 16) (f := 3) (ref := "QuasiSums$Reader") jin4 rfl (by decide) (jmem 744 (by decide +kernel)) (Or.inl rfl) (by decide +kernel) rfl)) (jSl (jS_iald (by decide +kernel) rfl)))) (jSN (jSN (jSl (jS_bipush (n := 57) (v := (nI 57)) (by decide +kernel) (by decide +kernel) rfl)) (jSl (jS_icmple (off := 5) (by decide +kernel) (by decide) rfl))) (jSN (jSl (jS_iconst (n := -1) (v := (-1)) (by decide +kernel) (by decide +kernel) rfl)) (jSl (jS_iret rfl (by decide +kernel)))))) (jSN (jSN (jSN (jSl (jS_aloadn (q := 0) rfl (by decide +kernel) rfl)) (jSl (jS_getf (ci := 4) (index := 23) (f := 0) (ref := "QuasiSums$Reader") jin4 rfl (by decide) (jmem 740 (by decide +kernel)) (Or.inl rfl) (by decide +kernel) rfl))) (jSN (jSl (jS_aloadn (q := 0) rfl (by decide +kernel) rfl)) (jSl (jS_getf (ci := 4) (index := 16) (f := 3) (ref := "QuasiSums$Reader") jin4 rfl (by decide) (jmem 744 (by decide +kernel)) (Or.inl rfl) (by decide +kernel) rfl)))) (jSN (jSN (jSl (jS_iald (by decide +kernel) rfl)) (jSl (jS_bipush (n := 48) (v := (nI 48)) (by decide +kernel) (by decide +kernel) rfl))) (jSN (jSl (jS_isub (by decide +kernel) rfl)) (jSl (jS_iret rfl (by decide +kernel))))))))
def jy_X5_readTimes : jY := (yX5_readTimes, cX5_readTimes, 3, some .int, 3, 0, 0)
theorem jok_X5_readTimes : jYok jy_X5_readTimes 0 := ⟨(jmem 770 (by decide +kernel)), (jmem 77 (by decide +kernel)), ⟨by decide +kernel, by decide +kernel⟩, by decide +kernel⟩
def jp_X5_readTimes (Φ : jPost) : Nat → jI := (jN 24 (jN 9 (jN 3 (jN 1 (jlf 0 (ji_push (.int (nI 0)) 1)) (jN 2 (jlf 1 (ji_istore 1 2)) (jlf 2 (ji_push (.int (nI 0)) 3)))) (jN 5 (jN 4 (jlf 3 (ji_istore 2 4)) (jlf 4 (ji_iload 2 5))) (jN 6 (jlf 5 (ji_push (.int (nI 4)) 6)) (jlf 6 (ji_icmpge 42 9))))) (jN 17 (jN 13 (jN 10 (jlf 9 (ji_aload 0 10)) (jlf 10 (ji_vcall jy_X5_figure 0 4 0 0 13))) (jN 16 (jlf 13 (ji_iflt 42 16)) (jlf 16 (ji_iload 1 17)))) (jN 20 (jN 19 (jlf 17 (ji_push (.int (nI 10)) 19)) (jlf 19 (ji_imul 20))) (jN 21 (jlf 20 (ji_aload 0 21)) (jlf 21 (ji_vcall jy_X5_figure 0 4 0 0 24)))))) (jN 36 (jN 30 (jN 26 (jN 25 (jlf 24 (ji_iadd 25)) (jlf 25 (ji_istore 1 26))) (jN 29 (jlf 26 (ji_iinc 2 (nI 1) 29)) (jlf 29 (ji_aload 0 30)))) (jN 34 (jN 31 (jlf 30 (ji_dup 31)) (jlf 31 (ji_getf 4 3 34))) (jN 35 (jlf 34 (ji_push (.int (nI 1)) 35)) (jlf 35 (ji_iadd 36))))) (jN 46 (jN 42 (jN 39 (jlf 36 (ji_putf 4 3 .int 39)) (jlf 39 (ji_goto 4))) (jN 43 (jlf 42 (ji_iload 2 43)) (jlf 43 (ji_ifne 50 46)))) (jN 50 (jN 47 (jlf 46 (ji_push (.int (nI 1)) 47)) (jlf 47 (ji_goto 51))) (jN 51 (jlf 50 (ji_iload 1 51)) (jlf 51 (ji_iret Φ 0 0)))))))
set_option maxRecDepth 20000 in
theorem js_X5_readTimes (Φ : jPost) : ∀ pc, jS jy_X5_readTimes Φ pc (jp_X5_readTimes Φ pc) := (jSN (jSN (jSN (jSN (jSl (jS_iconst (n := 0) (v := (nI 0)) (by decide +kernel) (by decide +kernel) rfl)) (jSN (jSl (jS_istoren (q := 1) rfl (by decide +kernel) rfl (by decide))) (jSl (jS_iconst (n := 0) (v := (nI 0)) (by decide +kernel) (by decide +kernel) rfl)))) (jSN (jSN (jSl (jS_istoren (q := 2) rfl (by decide +kernel) rfl (by decide))) (jSl (jS_iloadn (q := 2) rfl (by decide +kernel) rfl))) (jSN (jSl (jS_iconst (n := 4) (v := (nI 4)) (by decide +kernel) (by decide +kernel) rfl)) (jSl (jS_icmpge (off := 36) (by decide +kernel) (by decide) rfl))))) (jSN (jSN (jSN (jSl (jS_aloadn (q := 0) rfl (by decide +kernel) rfl)) (jSl (jS_vcall (index := 61) (Z := jy_X5_figure) (ci := 4) jok_X5_figure (jmem 773 (by decide +kernel)) (jmem 21 (by decide +kernel)) rfl (jmem 771 (by decide +kernel)) (by decide) (by decide) (by decide +kernel) rfl))) (jSN (jSl (jS_iflt (off := 29) (by decide +kernel) (by decide) rfl)) (jSl (jS_iloadn (q := 1) rfl (by decide +kernel) rfl)))) (jSN (jSN (jSl (jS_bipush (n := 10) (v := (nI 10)) (by decide +kernel) (by decide +kernel) rfl)) (jSl (jS_imul (by decide +kernel) rfl))) (jSN (jSl (jS_aloadn (q := 0) rfl (by decide +kernel) rfl)) (jSl (jS_vcall (index := 61) (Z := jy_X5_figure) (ci := 4) jok_X5_figure (jmem 773 (by decide +kernel)) (jmem 21 (by decide +kernel)) rfl (jmem 771 (by decide +kernel)) (by decide) (by decide) (by decide +kernel) rfl)))))) (jSN (jSN (jSN (jSN (jSl (jS_iadd (by decide +kernel) rfl)) (jSl (jS_istoren (q := 1) rfl (by decide +kernel) rfl (by decide)))) (jSN (jSl (jS_iinc (n := 1) (v := (nI 1)) (by decide +kernel) (by decide +kernel) rfl (by decide))) (jSl (jS_aloadn (q := 0) rfl (by decide +kernel) rfl)))) (jSN (jSN (jSl (jS_dup (by decide +kernel) rfl)) (jSl (jS_getf (ci := 4) (index := 16) (f := 3) (ref := "QuasiSums$Reader") jin4 rfl (by decide) (jmem 744 (by decide +kernel)) (Or.inl rfl) (by decide +kernel) rfl))) (jSN (jSl (jS_iconst (n := 1) (v := (nI 1)) (by decide +kernel) (by decide +kernel) rfl)) (jSl (jS_iadd (by decide +kernel) rfl))))) (jSN (jSN (jSN (jSl (jS_putf (ci := 4) (index := 16) (f := 3) (ref := "QuasiSums$Reader") jin4 rfl tyX5_ok nmX5 (by decide) (jmem 744 (by decide +kernel)) (Or.inl rfl) rfl (by decide +kernel) rfl)) (jSl (jS_goto (off := -35) (by decide +kernel) (by decide)))) (jSN (jSl (jS_iloadn (q := 2) rfl (by decide +kernel) rfl)) (jSl (jS_ifne (off := 7) (by decide +kernel) (by decide) rfl)))) (jSN (jSN (jSl (jS_iconst (n := 1) (v := (nI 1)) (by decide +kernel) (by decide +kernel) rfl)) (jSl (jS_goto (off := 4) (by decide +kernel) (by decide)))) (jSN (jSl (jS_iloadn (q := 1) rfl (by decide +kernel) rfl)) (jSl (jS_iret rfl (by decide +kernel))))))))
def jy_X5_sees : jY := (yX5_sees, cX5_sees, 2, some .boolean, 2, 0, 0)
theorem jok_X5_sees : jYok jy_X5_sees 1 := ⟨(jmem 779 (by decide +kernel)), (jmem 77 (by decide +kernel)), ⟨by decide +kernel, by decide +kernel⟩, by decide +kernel⟩
def jp_X5_sees (Φ : jPost) : Nat → jI := (jN 18 (jN 8 (jN 4 (jN 1 (jlf 0 (ji_aload 0 1)) (jlf 1 (ji_getf 4 3 4))) (jN 5 (jlf 4 (ji_aload 0 5)) (jlf 5 (ji_getf 4 1 8)))) (jN 14 (jN 11 (jlf 8 (ji_call jy_X11_within 2 0 0 11)) (jlf 11 (ji_ifeq 31 14))) (jN 15 (jlf 14 (ji_aload 0 15)) (jlf 15 (ji_getf 4 0 18))))) (jN 24 (jN 22 (jN 19 (jlf 18 (ji_aload 0 19)) (jlf 19 (ji_getf 4 3 22))) (jN 23 (jlf 22 (ji_iald 23)) (jlf 23 (ji_iload 1 24)))) (jN 28 (jN 27 (jlf 24 (ji_icmpne 31 27)) (jlf 27 (ji_push (.int (nI 1)) 28))) (jN 31 (jlf 28 (ji_goto 32)) (jN 32 (jlf 31 (ji_push (.int (nI 0)) 32)) (jlf 32 (ji_zret Φ 0 0)))))))
set_option maxRecDepth 20000 in
theorem js_X5_sees (Φ : jPost) : ∀ pc, jS jy_X5_sees Φ pc (jp_X5_sees Φ pc) := (jSN (jSN (jSN (jSN (jSl (jS_aloadn (q := 0) rfl (by decide +kernel) rfl)) (jSl (jS_getf (ci := 4) (index := 16) (f := 3) (ref := "QuasiSums$Reader") jin4 rfl (by decide) (jmem 744 (by decide +kernel)) (Or.inl rfl) (by decide +kernel) rfl))) (jSN (jSl (jS_aloadn (q := 0) rfl (by decide +kernel) rfl)) (jSl (jS_getf (ci := 4) (index := 33) (f := 1) (ref := "QuasiSums$Reader") jin4 rfl (by decide) (jmem 741 (by decide +kernel)) (Or.inl rfl) (by decide +kernel) rfl)))) (jSN (jSN (jSl (jS_scallN (index := 68) (host := "QuasiSums") (Z := jy_X11_within) jok_X11_within (jmem 122 (by decide +kernel)) (jmem 775 (by decide +kernel)) (by decide) (by decide) (by decide +kernel) rfl)) (jSl (jS_ifeq (off := 20) (by decide +kernel) (by decide) rfl))) (jSN (jSl (jS_aloadn (q := 0) rfl (by decide +kernel) rfl)) (jSl (jS_getf (ci := 4) (index := 23) (f := 0) (ref := "QuasiSums$Reader") jin4 rfl (by decide) (jmem 740 (by decide +kernel)) (Or.inl rfl) (by decide +kernel) rfl))))) (jSN (jSN (jSN (jSl (jS_aloadn (q := 0) rfl (by decide +kernel) rfl)) (jSl (jS_getf (ci := 4) (index := 16) (f := 3) (ref := "QuasiSums$Reader") jin4 rfl (by decide) (jmem 744 (by decide +kernel)) (Or.inl rfl) (by decide +kernel) rfl))) (jSN (jSl (jS_iald (by decide +kernel) rfl)) (jSl (jS_iloadn (q := 1) rfl (by decide +kernel) rfl)))) (jSN (jSN (jSl (jS_icmpne (off := 7) (by decide +kernel) (by decide) rfl)) (jSl (jS_iconst (n := 1) (v := (nI 1)) (by decide +kernel) (by decide +kernel) rfl))) (jSN (jSl (jS_goto (off := 4) (by decide +kernel) (by decide))) (jSN (jSl (jS_iconst (n := 0) (v := (nI 0)) (by decide +kernel) (by decide +kernel) rfl)) (jSl (jS_zret rfl (by decide +kernel))))))))
def jy_X9_init : jY := (yX9_init, cX9_init, 3, none, 2, 0, 0)
theorem jok_X9_init : jYok jy_X9_init 2 := ⟨(jmem 784 (by decide +kernel)), (jmem 78 (by decide +kernel)), ⟨by decide +kernel, by decide +kernel⟩, by decide +kernel⟩
def jp_X9_init (Φ : jPost) : Nat → jI := (jN 11 (jN 5 (jN 1 (jlf 0 (ji_aload 0 1)) (jN 4 (jlf 1 (ji_objinit 4)) (jlf 4 (ji_aload 0 5)))) (jN 9 (jN 6 (jlf 5 (ji_push (.int (nI 0)) 6)) (jlf 6 (ji_putf 8 2 .int 9))) (jN 10 (jlf 9 (ji_aload 0 10)) (jlf 10 (ji_push (.int (nI 0)) 11))))) (jN 19 (jN 15 (jN 14 (jlf 11 (ji_putf 8 3 .int 14)) (jlf 14 (ji_aload 0 15))) (jN 16 (jlf 15 (ji_iload 1 16)) (jlf 16 (ji_putf 8 0 .boolean 19)))) (jN 21 (jN 20 (jlf 19 (ji_aload 0 20)) (jlf 20 (ji_iload 2 21))) (jN 24 (jlf 21 (ji_putf 8 1 .int 24)) (jlf 24 (ji_ret Φ 0 0))))))
set_option maxRecDepth 20000 in
theorem js_X9_init (Φ : jPost) : ∀ pc, jS jy_X9_init Φ pc (jp_X9_init Φ pc) := (jSN (jSN (jSN (jSl (jS_aloadn (q := 0) rfl (by decide +kernel) rfl)) (jSN (jSl (jS_objinit (index := 3) (jmem 785 (by decide +kernel)) (jmem 86 (by decide +kernel)) (jmem 87 (by decide +kernel)) (by decide) (by decide +kernel) rfl)) (jSl (jS_aloadn (q := 0) rfl (by decide +kernel) rfl)))) (jSN (jSN (jSl (jS_iconst (n := 0) (v := (nI 0)) (by decide +kernel) (by decide +kernel) rfl)) (jSl (jS_putf (ci := 8) (index := 9) (f := 2) (ref := "QuasiSums$Term") jin8 rfl tyX9_ok nmX9 (by decide) (jmem 788 (by decide +kernel)) (Or.inl rfl) rfl (by decide +kernel) rfl))) (jSN (jSl (jS_aloadn (q := 0) rfl (by decide +kernel) rfl)) (jSl (jS_iconst (n := 0) (v := (nI 0)) (by decide +kernel) (by decide +kernel) rfl))))) (jSN (jSN (jSN (jSl (jS_putf (ci := 8) (index := 15) (f := 3) (ref := "QuasiSums$Term") jin8 rfl tyX9_ok nmX9 (by decide) (jmem 790 (by decide +kernel)) (Or.inl rfl) rfl (by decide +kernel) rfl)) (jSl (jS_aloadn (q := 0) rfl (by decide +kernel) rfl))) (jSN (jSl (jS_iloadn (q := 1) rfl (by decide +kernel) rfl)) (jSl (jS_putF (ci := 8) (index := 18) (f := 0) (ref := "QuasiSums$Term") jin8 rfl tyX9_ok nmX9 (by decide) (jmem 786 (by decide +kernel)) rfl rfl rfl rfl (by decide +kernel) rfl)))) (jSN (jSN (jSl (jS_aloadn (q := 0) rfl (by decide +kernel) rfl)) (jSl (jS_iloadn (q := 2) rfl (by decide +kernel) rfl))) (jSN (jSl (jS_putF (ci := 8) (index := 22) (f := 1) (ref := "QuasiSums$Term") jin8 rfl tyX9_ok nmX9 (by decide) (jmem 787 (by decide +kernel)) rfl rfl rfl rfl (by decide +kernel) rfl)) (jSl (jS_ret rfl (by decide +kernel)))))))
def jy_X9_goesOn : jY := (yX9_goesOn, cX9_goesOn, 2, none, 1, 0, 0)
theorem jok_X9_goesOn : jYok jy_X9_goesOn 1 := ⟨(jmem 807 (by decide +kernel)), (jmem 78 (by decide +kernel)), ⟨by decide +kernel, by decide +kernel⟩, by decide +kernel⟩
def jp_X9_goesOn (Φ : jPost) : Nat → jI := (jN 23 (jN 13 (jN 7 (jN 1 (jlf 0 (ji_aload 0 1)) (jN 4 (jlf 1 (ji_getf 8 2 4)) (jlf 4 (ji_ifle 33 7)))) (jN 8 (jlf 7 (ji_aload 0 8)) (jN 11 (jlf 8 (ji_getf 8 2 11)) (jlf 11 (ji_push (.int (nI 6)) 13))))) (jN 18 (jN 16 (jlf 13 (ji_icmpge 33 16)) (jN 17 (jlf 16 (ji_aload 0 17)) (jlf 17 (ji_dup 18)))) (jN 21 (jlf 18 (ji_getf 8 3 21)) (jN 22 (jlf 21 (ji_push (.int (nI 1)) 22)) (jlf 22 (ji_aload 0 23)))))) (jN 33 (jN 28 (jN 26 (jlf 23 (ji_getf 8 2 26)) (jN 27 (jlf 26 (ji_push (.int (nI 1)) 27)) (jlf 27 (ji_isub 28)))) (jN 29 (jlf 28 (ji_ishl 29)) (jN 30 (jlf 29 (ji_ior 30)) (jlf 30 (ji_putf 8 3 .int 33))))) (jN 38 (jN 34 (jlf 33 (ji_aload 0 34)) (jN 35 (jlf 34 (ji_dup 35)) (jlf 35 (ji_getf 8 2 38)))) (jN 40 (jN 39 (jlf 38 (ji_iload 1 39)) (jlf 39 (ji_iadd 40))) (jN 43 (jlf 40 (ji_putf 8 2 .int 43)) (jlf 43 (ji_ret Φ 0 0)))))))
set_option maxRecDepth 20000 in
theorem js_X9_goesOn (Φ : jPost) : ∀ pc, jS jy_X9_goesOn Φ pc (jp_X9_goesOn Φ pc) := (jSN (jSN (jSN (jSN (jSl (jS_aloadn (q := 0) rfl (by decide +kernel) rfl)) (jSN (jSl (jS_getf (ci := 8) (index := 9) (f := 2) (ref := "QuasiSums$Term") jin8 rfl (by decide) (jmem 788 (by decide +kernel)) (Or.inl rfl) (by decide +kernel) rfl)) (jSl (jS_ifle (off := 29) (by decide +kernel) (by decide) rfl)))) (jSN (jSl (jS_aloadn (q := 0) rfl (by decide +kernel) rfl)) (jSN (jSl (jS_getf (ci := 8) (index := 9) (f := 2) (ref := "QuasiSums$Term") jin8 rfl (by decide) (jmem 788 (by decide +kernel)) (Or.inl rfl) (by decide +kernel) rfl)) (jSl (jS_bipush (n := 6) (v := (nI 6)) (by decide +kernel) (by decide +kernel) rfl))))) (jSN (jSN (jSl (jS_icmpge (off := 20) (by decide +kernel) (by decide) rfl)) (jSN (jSl (jS_aloadn (q := 0) rfl (by decide +kernel) rfl)) (jSl (jS_dup (by decide +kernel) rfl)))) (jSN (jSl (jS_getf (ci := 8) (index := 15) (f := 3) (ref := "QuasiSums$Term") jin8 rfl (by decide) (jmem 790 (by decide +kernel)) (Or.inl rfl) (by decide +kernel) rfl)) (jSN (jSl (jS_iconst (n := 1) (v := (nI 1)) (by decide +kernel) (by decide +kernel) rfl)) (jSl (jS_aloadn (q := 0) rfl (by decide +kernel) rfl)))))) (jSN (jSN (jSN (jSl (jS_getf (ci := 8) (index := 9) (f := 2) (ref := "QuasiSums$Term") jin8 rfl (by decide) (jmem 788 (by decide +kernel)) (Or.inl rfl) (by decide +kernel) rfl)) (jSN (jSl (jS_iconst (n := 1) (v := (nI 1)) (by decide +kernel) (by decide +kernel) rfl)) (jSl (jS_isub (by decide +kernel) rfl)))) (jSN (jSl (jS_ishl (by decide +kernel) rfl)) (jSN (jSl (jS_ior (by decide +kernel) rfl)) (jSl (jS_putf (ci := 8) (index := 15) (f := 3) (ref := "QuasiSums$Term") jin8 rfl tyX9_ok nmX9 (by decide) (jmem 790 (by decide +kernel)) (Or.inl rfl) rfl (by decide +kernel) rfl))))) (jSN (jSN (jSl (jS_aloadn (q := 0) rfl (by decide +kernel) rfl)) (jSN (jSl (jS_dup (by decide +kernel) rfl)) (jSl (jS_getf (ci := 8) (index := 9) (f := 2) (ref := "QuasiSums$Term") jin8 rfl (by decide) (jmem 788 (by decide +kernel)) (Or.inl rfl) (by decide +kernel) rfl)))) (jSN (jSN (jSl (jS_iloadn (q := 1) rfl (by decide +kernel) rfl)) (jSl (jS_iadd (by decide +kernel) rfl))) (jSN (jSl (jS_putf (ci := 8) (index := 9) (f := 2) (ref := "QuasiSums$Term") jin8 rfl tyX9_ok nmX9 (by decide) (jmem 788 (by decide +kernel)) (Or.inl rfl) rfl (by decide +kernel) rfl)) (jSl (jS_ret rfl (by decide +kernel))))))))
def jy_X5_readNumbers : jY := (yX5_readNumbers, cX5_readNumbers, 4, some .boolean, 3, 0, 0)
theorem jok_X5_readNumbers : jYok jy_X5_readNumbers 1 := ⟨(jmem 803 (by decide +kernel)), (jmem 77 (by decide +kernel)), ⟨by decide +kernel, by decide +kernel⟩, by decide +kernel⟩
def jp_X5_readNumbers (Φ : jPost) : Nat → jI := (jN 34 (jN 16 (jN 7 (jN 2 (jN 1 (jlf 0 (ji_push (.int (nI 0)) 1)) (jlf 1 (ji_istore 2 2))) (jN 3 (jlf 2 (ji_iload 2 3)) (jN 4 (jlf 3 (ji_aload 0 4)) (jlf 4 (ji_getf 4 1 7))))) (jN 11 (jN 10 (jlf 7 (ji_icmpge 70 10)) (jlf 10 (ji_aload 0 11))) (jN 14 (jlf 11 (ji_vcall jy_X5_figure 0 4 0 0 14)) (jN 15 (jlf 14 (ji_istore 3 15)) (jlf 15 (ji_iload 3 16)))))) (jN 26 (jN 20 (jN 17 (jlf 16 (ji_push (.int (nI 1)) 17)) (jlf 17 (ji_icmplt 26 20))) (jN 21 (jlf 20 (ji_iload 3 21)) (jN 23 (jlf 21 (ji_push (.int (nI 6)) 23)) (jlf 23 (ji_icmple 28 26))))) (jN 29 (jN 27 (jlf 26 (ji_push (.int (nI 0)) 27)) (jN 28 (jlf 27 (ji_zret Φ 0 0)) (jlf 28 (ji_aload 1 29)))) (jN 30 (jlf 29 (ji_iload 3 30)) (jN 33 (jlf 30 (ji_vcall jy_X9_goesOn 1 8 0 0 33)) (jlf 33 (ji_aload 0 34))))))) (jN 53 (jN 43 (jN 38 (jN 35 (jlf 34 (ji_dup 35)) (jlf 35 (ji_getf 4 3 38))) (jN 39 (jlf 38 (ji_push (.int (nI 1)) 39)) (jN 40 (jlf 39 (ji_iadd 40)) (jlf 40 (ji_putf 4 3 .int 43))))) (jN 46 (jN 44 (jlf 43 (ji_aload 0 44)) (jlf 44 (ji_push (.int (nI 44)) 46))) (jN 49 (jlf 46 (ji_vcall jy_X5_sees 1 4 0 0 49)) (jN 52 (jlf 49 (ji_ifne 54 52)) (jlf 52 (ji_push (.int (nI 1)) 53)))))) (jN 60 (jN 55 (jN 54 (jlf 53 (ji_zret Φ 0 0)) (jlf 54 (ji_aload 0 55))) (jN 56 (jlf 55 (ji_dup 56)) (jN 59 (jlf 56 (ji_getf 4 3 59)) (jlf 59 (ji_push (.int (nI 1)) 60))))) (jN 67 (jN 61 (jlf 60 (ji_iadd 61)) (jN 64 (jlf 61 (ji_putf 4 3 .int 64)) (jlf 64 (ji_iinc 2 (nI 1) 67)))) (jN 70 (jlf 67 (ji_goto 2)) (jN 71 (jlf 70 (ji_push (.int (nI 0)) 71)) (jlf 71 (ji_zret Φ 0 0))))))))
set_option maxRecDepth 20000 in
theorem js_X5_readNumbers (Φ : jPost) : ∀ pc, jS jy_X5_readNumbers Φ pc (jp_X5_readNumbers Φ pc) := (jSN (jSN (jSN (jSN (jSN (jSl (jS_iconst (n := 0) (v := (nI 0)) (by decide +kernel) (by decide +kernel) rfl)) (jSl (jS_istoren (q := 2) rfl (by decide +kernel) rfl (by decide)))) (jSN (jSl (jS_iloadn (q := 2) rfl (by decide +kernel) rfl)) (jSN (jSl (jS_aloadn (q := 0) rfl (by decide +kernel) rfl)) (jSl (jS_getf (ci := 4) (index := 33) (f := 1) (ref := "QuasiSums$Reader") jin4 rfl (by decide) (jmem 741 (by decide +kernel)) (Or.inl rfl) (by decide +kernel) rfl))))) (jSN (jSN (jSl (jS_icmpge (off := 63) (by decide +kernel) (by decide) rfl)) (jSl (jS_aloadn (q := 0) rfl (by decide +kernel) rfl))) (jSN (jSl (jS_vcall (index := 61) (Z := jy_X5_figure) (ci := 4) jok_X5_figure (jmem 773 (by decide +kernel)) (jmem 21 (by decide +kernel)) rfl (jmem 771 (by decide +kernel)) (by decide) (by decide) (by decide +kernel) rfl)) (jSN (jSl (jS_istoren (q := 3) rfl (by decide +kernel) rfl (by decide))) (jSl (jS_iloadn (q := 3) rfl (by decide +kernel) rfl)))))) (jSN (jSN (jSN (jSl (jS_iconst (n := 1) (v := (nI 1)) (by decide +kernel) (by decide +kernel) rfl)) (jSl (jS_icmplt (off := 9) (by decide +kernel) (by decide) rfl))) (jSN (jSl (jS_iloadn (q := 3) rfl (by decide +kernel) rfl)) (jSN (jSl (jS_bipush (n := 6) (v := (nI 6)) (by decide +kernel) (by decide +kernel) rfl)) (jSl (jS_icmple (off := 5) (by decide +kernel) (by decide) rfl))))) (jSN (jSN (jSl (jS_iconst (n := 0) (v := (nI 0)) (by decide +kernel) (by decide +kernel) rfl)) (jSN (jSl (jS_zret rfl (by decide +kernel))) (jSl (jS_aloadn (q := 1) rfl (by decide +kernel) rfl)))) (jSN (jSl (jS_iloadn (q := 3) rfl (by decide +kernel) rfl)) (jSN (jSl (jS_vcall (index := 64) (Z := jy_X9_goesOn) (ci := 8) jok_X9_goesOn (jmem 805 (by decide +kernel)) (jmem 806 (by decide +kernel)) rfl (jmem 804 (by decide +kernel)) (by decide) (by decide) (by decide +kernel) rfl)) (jSl (jS_aloadn (q := 0) rfl (by decide +kernel) rfl))))))) (jSN (jSN (jSN (jSN (jSl (jS_dup (by decide +kernel) rfl)) (jSl (jS_getf (ci := 4) (index := 16) (f := 3) (ref := "QuasiSums$Reader") jin4 rfl (by decide) (jmem 744 (by decide +kernel)) (Or.inl rfl) (by decide +kernel) rfl))) (jSN (jSl (jS_iconst (n := 1) (v := (nI 1)) (by decide +kernel) (by decide +kernel) rfl)) (jSN (jSl (jS_iadd (by decide +kernel) rfl)) (jSl (jS_putf (ci := 4) (index := 16) (f := 3) (ref := "QuasiSums$Reader") jin4 rfl tyX5_ok nmX5 (by decide) (jmem 744 (by decide +kernel)) (Or.inl rfl) rfl (by decide +kernel) rfl))))) (jSN (jSN (jSl (jS_aloadn (q := 0) rfl (by decide +kernel) rfl)) (jSl (jS_bipush (n := 44) (v := (nI 44)) (by decide +kernel) (by decide +kernel) rfl))) (jSN (jSl (jS_vcall (index := 40) (Z := jy_X5_sees) (ci := 4) jok_X5_sees (jmem 778 (by decide +kernel)) (jmem 22 (by decide +kernel)) rfl (jmem 776 (by decide +kernel)) (by decide) (by decide) (by decide +kernel) rfl)) (jSN (jSl (jS_ifne (off := 5) (by decide +kernel) (by decide) rfl)) (jSl (jS_iconst (n := 1) (v := (nI 1)) (by decide +kernel) (by decide +kernel) rfl)))))) (jSN (jSN (jSN (jSl (jS_zret rfl (by decide +kernel))) (jSl (jS_aloadn (q := 0) rfl (by decide +kernel) rfl))) (jSN (jSl (jS_dup (by decide +kernel) rfl)) (jSN (jSl (jS_getf (ci := 4) (index := 16) (f := 3) (ref := "QuasiSums$Reader") jin4 rfl (by decide) (jmem 744 (by decide +kernel)) (Or.inl rfl) (by decide +kernel) rfl)) (jSl (jS_iconst (n := 1) (v := (nI 1)) (by decide +kernel) (by decide +kernel) rfl))))) (jSN (jSN (jSl (jS_iadd (by decide +kernel) rfl)) (jSN (jSl (jS_putf (ci := 4) (index := 16) (f := 3) (ref := "QuasiSums$Reader") jin4 rfl tyX5_ok nmX5 (by decide) (jmem 744 (by decide +kernel)) (Or.inl rfl) rfl (by decide +kernel) rfl)) (jSl (jS_iinc (n := 1) (v := (nI 1)) (by decide +kernel) (by decide +kernel) rfl (by decide))))) (jSN (jSl (jS_goto (off := -65) (by decide +kernel) (by decide))) (jSN (jSl (jS_iconst (n := 0) (v := (nI 0)) (by decide +kernel) (by decide +kernel) rfl)) (jSl (jS_zret rfl (by decide +kernel)))))))))
def jy_X5_readTerm : jY := (yX5_readTerm, cX5_readTerm, 5, some .boolean, 8, 2, 44)
theorem jok_X5_readTerm : jYok jy_X5_readTerm 1 := ⟨(jmem 766 (by decide +kernel)), (jmem 77 (by decide +kernel)), ⟨by decide +kernel, by decide +kernel⟩, by decide +kernel⟩
def jp_X5_readTerm (Φ : jPost) : Nat → jI := (jN 63 (jN 32 (jN 16 (jN 6 (jN 4 (jN 1 (jlf 0 (ji_aload 0 1)) (jlf 1 (ji_vcall jy_X5_readTimes 0 4 2 44 4))) (jN 5 (jlf 4 (ji_istore 2 5)) (jlf 5 (ji_aload 0 6)))) (jN 11 (jN 8 (jlf 6 (ji_push (.int (nI 70)) 8)) (jlf 8 (ji_vcall jy_X5_sees 1 4 2 44 11))) (jN 12 (jlf 11 (ji_istore 3 12)) (jN 13 (jlf 12 (ji_iload 3 13)) (jlf 13 (ji_ifne 27 16)))))) (jN 25 (jN 19 (jN 17 (jlf 16 (ji_aload 0 17)) (jlf 17 (ji_push (.int (nI 77)) 19))) (jN 22 (jlf 19 (ji_vcall jy_X5_sees 1 4 2 44 22)) (jlf 22 (ji_ifne 27 25)))) (jN 27 (jN 26 (jlf 25 (ji_push (.int (nI 0)) 26)) (jlf 26 (ji_zret Φ 2 44))) (jN 28 (jlf 27 (ji_aload 0 28)) (jN 29 (jlf 28 (ji_dup 29)) (jlf 29 (ji_getf 4 3 32))))))) (jN 48 (jN 38 (jN 34 (jN 33 (jlf 32 (ji_push (.int (nI 1)) 33)) (jlf 33 (ji_iadd 34))) (jN 37 (jlf 34 (ji_putf 4 3 .int 37)) (jlf 37 (ji_aload 0 38)))) (jN 43 (jN 40 (jlf 38 (ji_push (.int (nI 40)) 40)) (jlf 40 (ji_vcall jy_X5_sees 1 4 2 44 43))) (jN 46 (jlf 43 (ji_ifne 48 46)) (jN 47 (jlf 46 (ji_push (.int (nI 0)) 47)) (jlf 47 (ji_zret Φ 2 44)))))) (jN 54 (jN 50 (jN 49 (jlf 48 (ji_aload 0 49)) (jlf 49 (ji_dup 50))) (jN 53 (jlf 50 (ji_getf 4 3 53)) (jlf 53 (ji_push (.int (nI 1)) 54)))) (jN 58 (jN 55 (jlf 54 (ji_iadd 55)) (jlf 55 (ji_putf 4 3 .int 58))) (jN 61 (jlf 58 (ji_new 8 4 [.int (nI 0), .int (nI 0), .int (nI 0), .int (nI 0)] 2 44 61)) (jN 62 (jlf 61 (ji_dup 62)) (jlf 62 (ji_iload 3 63)))))))) (jN 98 (jN 79 (jN 69 (jN 67 (jN 64 (jlf 63 (ji_iload 1 64)) (jlf 64 (ji_ifeq 72 67))) (jN 68 (jlf 67 (ji_iload 2 68)) (jlf 68 (ji_ineg 69)))) (jN 73 (jN 72 (jlf 69 (ji_goto 73)) (jlf 72 (ji_iload 2 73))) (jN 76 (jlf 73 (ji_icall jy_X9_init 2 2 44 76)) (jN 78 (jlf 76 (ji_astore 4 78)) (jlf 78 (ji_aload 0 79)))))) (jN 88 (jN 84 (jN 81 (jlf 79 (ji_push (.int (nI 41)) 81)) (jlf 81 (ji_vcall jy_X5_sees 1 4 2 44 84))) (jN 87 (jlf 84 (ji_ifne 98 87)) (jlf 87 (ji_aload 0 88)))) (jN 93 (jN 90 (jlf 88 (ji_aload 4 90)) (jlf 90 (ji_vcall jy_X5_readNumbers 1 4 2 44 93))) (jN 96 (jlf 93 (ji_ifne 98 96)) (jN 97 (jlf 96 (ji_push (.int (nI 0)) 97)) (jlf 97 (ji_zret Φ 2 44))))))) (jN 114 (jN 107 (jN 101 (jN 99 (jlf 98 (ji_aload 0 99)) (jlf 99 (ji_push (.int (nI 41)) 101))) (jN 104 (jlf 101 (ji_vcall jy_X5_sees 1 4 2 44 104)) (jlf 104 (ji_ifne 109 107)))) (jN 109 (jN 108 (jlf 107 (ji_push (.int (nI 0)) 108)) (jlf 108 (ji_zret Φ 2 44))) (jN 110 (jlf 109 (ji_aload 0 110)) (jN 111 (jlf 110 (ji_dup 111)) (jlf 111 (ji_getf 4 3 114)))))) (jN 123 (jN 116 (jN 115 (jlf 114 (ji_push (.int (nI 1)) 115)) (jlf 115 (ji_iadd 116))) (jN 119 (jlf 116 (ji_putf 4 3 .int 119)) (jN 120 (jlf 119 (ji_aload 0 120)) (jlf 120 (ji_getf 4 2 123))))) (jN 128 (jN 125 (jlf 123 (ji_aload 4 125)) (jlf 125 (ji_vcall jy_Jx4a65c_add_9ea2d 1 0 2 44 128))) (jN 129 (jlf 128 (ji_pop 129)) (jN 130 (jlf 129 (ji_push (.int (nI 1)) 130)) (jlf 130 (ji_zret Φ 2 44)))))))))
set_option maxRecDepth 20000 in
theorem js_X5_readTerm (Φ : jPost) : ∀ pc, jS jy_X5_readTerm Φ pc (jp_X5_readTerm Φ pc) := (jSN (jSN (jSN (jSN (jSN (jSN (jSl (jS_aloadn (q := 0) rfl (by decide +kernel) rfl)) (jSl (jS_vcall (index := 44) (Z := jy_X5_readTimes) (ci := 4) jok_X5_readTimes (jmem 769 (by decide +kernel)) (jmem 20 (by decide +kernel)) rfl (jmem 767 (by decide +kernel)) (by decide) (by decide) (by decide +kernel) rfl))) (jSN (jSl (jS_istoren (q := 2) rfl (by decide +kernel) rfl (by decide))) (jSl (jS_aloadn (q := 0) rfl (by decide +kernel) rfl)))) (jSN (jSN (jSl (jS_bipush (n := 70) (v := (nI 70)) (by decide +kernel) (by decide +kernel) rfl)) (jSl (jS_vcall (index := 40) (Z := jy_X5_sees) (ci := 4) jok_X5_sees (jmem 778 (by decide +kernel)) (jmem 22 (by decide +kernel)) rfl (jmem 776 (by decide +kernel)) (by decide) (by decide) (by decide +kernel) rfl))) (jSN (jSl (jS_istoren (q := 3) rfl (by decide +kernel) rfl (by decide))) (jSN (jSl (jS_iloadn (q := 3) rfl (by decide +kernel) rfl)) (jSl (jS_ifne (off := 14) (by decide +kernel) (by decide) rfl)))))) (jSN (jSN (jSN (jSl (jS_aloadn (q := 0) rfl (by decide +kernel) rfl)) (jSl (jS_bipush (n := 77) (v := (nI 77)) (by decide +kernel) (by decide +kernel) rfl))) (jSN (jSl (jS_vcall (index := 40) (Z := jy_X5_sees) (ci := 4) jok_X5_sees (jmem 778 (by decide +kernel)) (jmem 22 (by decide +kernel)) rfl (jmem 776 (by decide +kernel)) (by decide) (by decide) (by decide +kernel) rfl)) (jSl (jS_ifne (off := 5) (by decide +kernel) (by decide) rfl)))) (jSN (jSN (jSl (jS_iconst (n := 0) (v := (nI 0)) (by decide +kernel) (by decide +kernel) rfl)) (jSl (jS_zret rfl (by decide +kernel)))) (jSN (jSl (jS_aloadn (q := 0) rfl (by decide +kernel) rfl)) (jSN (jSl (jS_dup (by decide +kernel) rfl)) (jSl (jS_getf (ci := 4) (index := 16) (f := 3) (ref := "QuasiSums$Reader") jin4 rfl (by decide) (jmem 744 (by decide +kernel)) (Or.inl rfl) (by decide +kernel) rfl))))))) (jSN (jSN (jSN (jSN (jSl (jS_iconst (n := 1) (v := (nI 1)) (by decide +kernel) (by decide +kernel) rfl)) (jSl (jS_iadd (by decide +kernel) rfl))) (jSN (jSl (jS_putf (ci := 4) (index := 16) (f := 3) (ref := "QuasiSums$Reader") jin4 rfl tyX5_ok nmX5 (by decide) (jmem 744 (by decide +kernel)) (Or.inl rfl) rfl (by decide +kernel) rfl)) (jSl (jS_aloadn (q := 0) rfl (by decide +kernel) rfl)))) (jSN (jSN (jSl (jS_bipush (n := 40) (v := (nI 40)) (by decide +kernel) (by decide +kernel) rfl)) (jSl (jS_vcall (index := 40) (Z := jy_X5_sees) (ci := 4) jok_X5_sees (jmem 778 (by decide +kernel)) (jmem 22 (by decide +kernel)) rfl (jmem 776 (by decide +kernel)) (by decide) (by decide) (by decide +kernel) rfl))) (jSN (jSl (jS_ifne (off := 5) (by decide +kernel) (by decide) rfl)) (jSN (jSl (jS_iconst (n := 0) (v := (nI 0)) (by decide +kernel) (by decide +kernel) rfl)) (jSl (jS_zret rfl (by decide +kernel))))))) (jSN (jSN (jSN (jSl (jS_aloadn (q := 0) rfl (by decide +kernel) rfl)) (jSl (jS_dup (by decide +kernel) rfl))) (jSN (jSl (jS_getf (ci := 4) (index := 16) (f := 3) (ref := "QuasiSums$Reader") jin4 rfl (by decide) (jmem 744 (by decide +kernel)) (Or.inl rfl) (by decide +kernel) rfl)) (jSl (jS_iconst (n := 1) (v := (nI 1)) (by decide +kernel) (by decide +kernel) rfl)))) (jSN (jSN (jSl (jS_iadd (by decide +kernel) rfl)) (jSl (jS_putf (ci := 4) (index := 16) (f := 3) (ref := "QuasiSums$Reader") jin4 rfl tyX5_ok nmX5 (by decide) (jmem 744 (by decide +kernel)) (Or.inl rfl) rfl (by decide +kernel) rfl))) (jSN (jSl (jS_new (index := 48) (ci := 8) jin8 rfl tyX9_ok jdf8 (fun _ => rfl) (jmem 780 (by decide +kernel)) (jmem 781 (by decide +kernel)) (jmem 78 (by decide +kernel)) (by decide +kernel) rfl)) (jSN (jSl (jS_dup (by decide +kernel) rfl)) (jSl (jS_iloadn (q := 3) rfl (by decide +kernel) rfl)))))))) (jSN (jSN (jSN (jSN (jSN (jSl (jS_iloadn (q := 1) rfl (by decide +kernel) rfl)) (jSl (jS_ifeq (off := 8) (by decide +kernel) (by decide) rfl))) (jSN (jSl (jS_iloadn (q := 2) rfl (by decide +kernel) rfl)) (jSl (jS_ineg (by decide +kernel) rfl)))) (jSN (jSN (jSl (jS_goto (off := 4) (by decide +kernel) (by decide))) (jSl (jS_iloadn (q := 2) rfl (by decide +kernel) rfl))) (jSN (jSl (jS_icall (index := 50) (Z := jy_X9_init) rfl jok_X9_init (jmem 783 (by decide +kernel)) rfl (jmem 782 (by decide +kernel)) (by decide) (by decide) (by decide +kernel) rfl)) (jSN (jSl (jS_astore (by decide +kernel) rfl (by decide))) (jSl (jS_aloadn (q := 0) rfl (by decide +kernel) rfl)))))) (jSN (jSN (jSN (jSl (jS_bipush (n := 41) (v := (nI 41)) (by decide +kernel) (by decide +kernel) rfl)) (jSl (jS_vcall (index := 40) (Z := jy_X5_sees) (ci := 4) jok_X5_sees (jmem 778 (by decide +kernel)) (jmem 22 (by decide +kernel)) rfl (jmem 776 (by decide +kernel)) (by decide) (by decide) (by decide +kernel) rfl))) (jSN (jSl (jS_ifne (off := 14) (by decide +kernel) (by decide) rfl)) (jSl (jS_aloadn (q := 0) rfl (by decide +kernel) rfl)))) (jSN (jSN (jSl (jS_aload (by decide +kernel) rfl)) (jSl (jS_vcall (index := 53) (Z := jy_X5_readNumbers) (ci := 4) jok_X5_readNumbers (jmem 802 (by decide +kernel)) (jmem 23 (by decide +kernel)) rfl (jmem 800 (by decide +kernel)) (by decide) (by decide) (by decide +kernel) rfl))) (jSN (jSl (jS_ifne (off := 5) (by decide +kernel) (by decide) rfl)) (jSN (jSl (jS_iconst (n := 0) (v := (nI 0)) (by decide +kernel) (by decide +kernel) rfl)) (jSl (jS_zret rfl (by decide +kernel)))))))) (jSN (jSN (jSN (jSN (jSl (jS_aloadn (q := 0) rfl (by decide +kernel) rfl)) (jSl (jS_bipush (n := 41) (v := (nI 41)) (by decide +kernel) (by decide +kernel) rfl))) (jSN (jSl (jS_vcall (index := 40) (Z := jy_X5_sees) (ci := 4) jok_X5_sees (jmem 778 (by decide +kernel)) (jmem 22 (by decide +kernel)) rfl (jmem 776 (by decide +kernel)) (by decide) (by decide) (by decide +kernel) rfl)) (jSl (jS_ifne (off := 5) (by decide +kernel) (by decide) rfl)))) (jSN (jSN (jSl (jS_iconst (n := 0) (v := (nI 0)) (by decide +kernel) (by decide +kernel) rfl)) (jSl (jS_zret rfl (by decide +kernel)))) (jSN (jSl (jS_aloadn (q := 0) rfl (by decide +kernel) rfl)) (jSN (jSl (jS_dup (by decide +kernel) rfl)) (jSl (jS_getf (ci := 4) (index := 16) (f := 3) (ref := "QuasiSums$Reader") jin4 rfl (by decide) (jmem 744 (by decide +kernel)) (Or.inl rfl) (by decide +kernel) rfl)))))) (jSN (jSN (jSN (jSl (jS_iconst (n := 1) (v := (nI 1)) (by decide +kernel) (by decide +kernel) rfl)) (jSl (jS_iadd (by decide +kernel) rfl))) (jSN (jSl (jS_putf (ci := 4) (index := 16) (f := 3) (ref := "QuasiSums$Reader") jin4 rfl tyX5_ok nmX5 (by decide) (jmem 744 (by decide +kernel)) (Or.inl rfl) rfl (by decide +kernel) rfl)) (jSN (jSl (jS_aloadn (q := 0) rfl (by decide +kernel) rfl)) (jSl (jS_getf (ci := 4) (index := 10) (f := 2) (ref := "QuasiSums$Reader") jin4 rfl (by decide) (jmem 742 (by decide +kernel)) (Or.inl rfl) (by decide +kernel) rfl))))) (jSN (jSN (jSl (jS_aload (by decide +kernel) rfl)) (jSl (jS_vcall (index := 57) (Z := jy_Jx4a65c_add_9ea2d) (ci := 0) jok_Jx4a65c_add_9ea2d (jmem 250 (by decide +kernel)) (jmem 251 (by decide +kernel)) rfl (jmem 808 (by decide +kernel)) (by decide) (by decide) (by decide +kernel) rfl))) (jSN (jSl (jS_pop (by decide +kernel) rfl)) (jSN (jSl (jS_iconst (n := 1) (v := (nI 1)) (by decide +kernel) (by decide +kernel) rfl)) (jSl (jS_zret rfl (by decide +kernel))))))))))
def jy_X5_readText : jY := (yX5_readText, cX5_readText, 3, some .boolean, 9, 164, 3608)
theorem jok_X5_readText : jYok jy_X5_readText 0 := ⟨(jmem 762 (by decide +kernel)), (jmem 77 (by decide +kernel)), ⟨by decide +kernel, by decide +kernel⟩, by decide +kernel⟩
def jp_X5_readText (Φ : jPost) : Nat → jI := (jN 39 (jN 17 (jN 5 (jN 2 (jN 1 (jlf 0 (ji_push (.int (nI 0)) 1)) (jlf 1 (ji_istore 1 2))) (jN 3 (jlf 2 (ji_push (.int (nI 0)) 3)) (jN 4 (jlf 3 (ji_istore 2 4)) (jlf 4 (ji_iload 2 5))))) (jN 12 (jN 6 (jlf 5 (ji_aload 0 6)) (jN 9 (jlf 6 (ji_getf 4 1 9)) (jlf 9 (ji_icmpgt 78 12)))) (jN 13 (jlf 12 (ji_aload 0 13)) (jN 14 (jlf 13 (ji_iload 2 14)) (jlf 14 (ji_putf 4 4 .int 17)))))) (jN 27 (jN 22 (jN 18 (jlf 17 (ji_aload 0 18)) (jN 19 (jlf 18 (ji_iload 1 19)) (jlf 19 (ji_vcall jy_X5_readTerm 1 4 164 3608 22)))) (jN 25 (jlf 22 (ji_ifne 27 25)) (jN 26 (jlf 25 (ji_push (.int (nI 0)) 26)) (jlf 26 (ji_zret Φ 164 3608))))) (jN 32 (jN 28 (jlf 27 (ji_aload 0 28)) (jN 31 (jlf 28 (ji_getf 4 3 31)) (jlf 31 (ji_aload 0 32)))) (jN 35 (jlf 32 (ji_getf 4 1 35)) (jN 38 (jlf 35 (ji_icmplt 40 38)) (jlf 38 (ji_push (.int (nI 1)) 39))))))) (jN 60 (jN 47 (jN 41 (jN 40 (jlf 39 (ji_zret Φ 164 3608)) (jlf 40 (ji_aload 0 41))) (jN 43 (jlf 41 (ji_push (.int (nI 45)) 43)) (jN 46 (jlf 43 (ji_vcall jy_X5_sees 1 4 164 3608 46)) (jlf 46 (ji_istore 1 47))))) (jN 52 (jN 48 (jlf 47 (ji_iload 1 48)) (jN 51 (jlf 48 (ji_ifne 62 51)) (jlf 51 (ji_aload 0 52)))) (jN 54 (jlf 52 (ji_push (.int (nI 43)) 54)) (jN 57 (jlf 54 (ji_vcall jy_X5_sees 1 4 164 3608 57)) (jlf 57 (ji_ifne 62 60)))))) (jN 68 (jN 63 (jN 61 (jlf 60 (ji_push (.int (nI 0)) 61)) (jN 62 (jlf 61 (ji_zret Φ 164 3608)) (jlf 62 (ji_aload 0 63)))) (jN 64 (jlf 63 (ji_dup 64)) (jN 67 (jlf 64 (ji_getf 4 3 67)) (jlf 67 (ji_push (.int (nI 1)) 68))))) (jN 75 (jN 69 (jlf 68 (ji_iadd 69)) (jN 72 (jlf 69 (ji_putf 4 3 .int 72)) (jlf 72 (ji_iinc 2 (nI 1) 75)))) (jN 78 (jlf 75 (ji_goto 4)) (jN 79 (jlf 78 (ji_push (.int (nI 0)) 79)) (jlf 79 (ji_zret Φ 164 3608))))))))
set_option maxRecDepth 20000 in
theorem js_X5_readText (Φ : jPost) : ∀ pc, jS jy_X5_readText Φ pc (jp_X5_readText Φ pc) := (jSN (jSN (jSN (jSN (jSN (jSl (jS_iconst (n := 0) (v := (nI 0)) (by decide +kernel) (by decide +kernel) rfl)) (jSl (jS_istoren (q := 1) rfl (by decide +kernel) rfl (by decide)))) (jSN (jSl (jS_iconst (n := 0) (v := (nI 0)) (by decide +kernel) (by decide +kernel) rfl)) (jSN (jSl (jS_istoren (q := 2) rfl (by decide +kernel) rfl (by decide))) (jSl (jS_iloadn (q := 2) rfl (by decide +kernel) rfl))))) (jSN (jSN (jSl (jS_aloadn (q := 0) rfl (by decide +kernel) rfl)) (jSN (jSl (jS_getf (ci := 4) (index := 33) (f := 1) (ref := "QuasiSums$Reader") jin4 rfl (by decide) (jmem 741 (by decide +kernel)) (Or.inl rfl) (by decide +kernel) rfl)) (jSl (jS_icmpgt (off := 69) (by decide +kernel) (by decide) rfl)))) (jSN (jSl (jS_aloadn (q := 0) rfl (by decide +kernel) rfl)) (jSN (jSl (jS_iloadn (q := 2) rfl (by decide +kernel) rfl)) (jSl (jS_putf (ci := 4) (index := 20) (f := 4) (ref := "QuasiSums$Reader") jin4 rfl tyX5_ok nmX5 (by decide) (jmem 746 (by decide +kernel)) (Or.inl rfl) rfl (by decide +kernel) rfl)))))) (jSN (jSN (jSN (jSl (jS_aloadn (q := 0) rfl (by decide +kernel) rfl)) (jSN (jSl (jS_iloadn (q := 1) rfl (by decide +kernel) rfl)) (jSl (jS_vcall (index := 36) (Z := jy_X5_readTerm) (ci := 4) jok_X5_readTerm (jmem 765 (by decide +kernel)) (jmem 19 (by decide +kernel)) rfl (jmem 763 (by decide +kernel)) (by decide) (by decide) (by decide +kernel) rfl)))) (jSN (jSl (jS_ifne (off := 5) (by decide +kernel) (by decide) rfl)) (jSN (jSl (jS_iconst (n := 0) (v := (nI 0)) (by decide +kernel) (by decide +kernel) rfl)) (jSl (jS_zret rfl (by decide +kernel)))))) (jSN (jSN (jSl (jS_aloadn (q := 0) rfl (by decide +kernel) rfl)) (jSN (jSl (jS_getf (ci := 4) (index := 16) (f := 3) (ref := "QuasiSums$Reader") jin4 rfl (by decide) (jmem 744 (by decide +kernel)) (Or.inl rfl) (by decide +kernel) rfl)) (jSl (jS_aloadn (q := 0) rfl (by decide +kernel) rfl)))) (jSN (jSl (jS_getf (ci := 4) (index := 33) (f := 1) (ref := "QuasiSums$Reader") jin4 rfl (by decide) (jmem 741 (by decide +kernel)) (Or.inl rfl) (by decide +kernel) rfl)) (jSN (jSl (jS_icmplt (off := 5) (by decide +kernel) (by decide) rfl)) (jSl (jS_iconst (n := 1) (v := (nI 1)) (by decide +kernel) (by decide +kernel) rfl))))))) (jSN (jSN (jSN (jSN (jSl (jS_zret rfl (by decide +kernel))) (jSl (jS_aloadn (q := 0) rfl (by decide +kernel) rfl))) (jSN (jSl (jS_bipush (n := 45) (v := (nI 45)) (by decide +kernel) (by decide +kernel) rfl)) (jSN (jSl (jS_vcall (index := 40) (Z := jy_X5_sees) (ci := 4) jok_X5_sees (jmem 778 (by decide +kernel)) (jmem 22 (by decide +kernel)) rfl (jmem 776 (by decide +kernel)) (by decide) (by decide) (by decide +kernel) rfl)) (jSl (jS_istoren (q := 1) rfl (by decide +kernel) rfl (by decide)))))) (jSN (jSN (jSl (jS_iloadn (q := 1) rfl (by decide +kernel) rfl)) (jSN (jSl (jS_ifne (off := 14) (by decide +kernel) (by decide) rfl)) (jSl (jS_aloadn (q := 0) rfl (by decide +kernel) rfl)))) (jSN (jSl (jS_bipush (n := 43) (v := (nI 43)) (by decide +kernel) (by decide +kernel) rfl)) (jSN (jSl (jS_vcall (index := 40) (Z := jy_X5_sees) (ci := 4) jok_X5_sees (jmem 778 (by decide +kernel)) (jmem 22 (by decide +kernel)) rfl (jmem 776 (by decide +kernel)) (by decide) (by decide) (by decide +kernel) rfl)) (jSl (jS_ifne (off := 5) (by decide +kernel) (by decide) rfl)))))) (jSN (jSN (jSN (jSl (jS_iconst (n := 0) (v := (nI 0)) (by decide +kernel) (by decide +kernel) rfl)) (jSN (jSl (jS_zret rfl (by decide +kernel))) (jSl (jS_aloadn (q := 0) rfl (by decide +kernel) rfl)))) (jSN (jSl (jS_dup (by decide +kernel) rfl)) (jSN (jSl (jS_getf (ci := 4) (index := 16) (f := 3) (ref := "QuasiSums$Reader") jin4 rfl (by decide) (jmem 744 (by decide +kernel)) (Or.inl rfl) (by decide +kernel) rfl)) (jSl (jS_iconst (n := 1) (v := (nI 1)) (by decide +kernel) (by decide +kernel) rfl))))) (jSN (jSN (jSl (jS_iadd (by decide +kernel) rfl)) (jSN (jSl (jS_putf (ci := 4) (index := 16) (f := 3) (ref := "QuasiSums$Reader") jin4 rfl tyX5_ok nmX5 (by decide) (jmem 744 (by decide +kernel)) (Or.inl rfl) rfl (by decide +kernel) rfl)) (jSl (jS_iinc (n := 1) (v := (nI 1)) (by decide +kernel) (by decide +kernel) rfl (by decide))))) (jSN (jSl (jS_goto (off := -71) (by decide +kernel) (by decide))) (jSN (jSl (jS_iconst (n := 0) (v := (nI 0)) (by decide +kernel) (by decide +kernel) rfl)) (jSl (jS_zret rfl (by decide +kernel)))))))))
def jy_X6_init : jY := (yX6_init, cX6_init, 2, none, 3, 0, 0)
theorem jok_X6_init : jYok jy_X6_init 1 := ⟨(jmem 658 (by decide +kernel)), (jmem 76 (by decide +kernel)), ⟨by decide +kernel, by decide +kernel⟩, by decide +kernel⟩
def jp_X6_init (Φ : jPost) : Nat → jI := (jN 5 (jN 1 (jlf 0 (ji_aload 0 1)) (jN 4 (jlf 1 (ji_icall jy_X2_init 0 0 0 4)) (jlf 4 (ji_aload 0 5)))) (jN 6 (jlf 5 (ji_aload 1 6)) (jN 9 (jlf 6 (ji_putf 5 0 (.array .int) 9)) (jlf 9 (ji_ret Φ 0 0)))))
set_option maxRecDepth 20000 in
theorem js_X6_init (Φ : jPost) : ∀ pc, jS jy_X6_init Φ pc (jp_X6_init Φ pc) := (jSN (jSN (jSl (jS_aloadn (q := 0) rfl (by decide +kernel) rfl)) (jSN (jSl (jS_icallN (index := 1) (host := "QuasiSums") (Z := jy_X2_init) rfl jok_X2_init (jmem 172 (by decide +kernel)) rfl (jmem 659 (by decide +kernel)) (by decide) (by decide) (by decide +kernel) rfl)) (jSl (jS_aloadn (q := 0) rfl (by decide +kernel) rfl)))) (jSN (jSl (jS_aloadn (q := 1) rfl (by decide +kernel) rfl)) (jSN (jSl (jS_putF (ci := 5) (index := 7) (f := 0) (ref := "QuasiSums$Row") jin5 rfl tyX6_ok nmX6 (by decide) (jmem 660 (by decide +kernel)) rfl rfl rfl rfl (by decide +kernel) rfl)) (jSl (jS_ret rfl (by decide +kernel))))))
def jy_X7_init : jY := (yX7_init, cX7_init, 3, none, 2, 0, 0)
theorem jok_X7_init : jYok jy_X7_init 2 := ⟨(jmem 238 (by decide +kernel)), (jmem 64 (by decide +kernel)), ⟨by decide +kernel, by decide +kernel⟩, by decide +kernel⟩
def jp_X7_init (Φ : jPost) : Nat → jI := (jN 6 (jN 4 (jN 1 (jlf 0 (ji_aload 0 1)) (jlf 1 (ji_objinit 4))) (jN 5 (jlf 4 (ji_aload 0 5)) (jlf 5 (ji_iload 1 6)))) (jN 10 (jN 9 (jlf 6 (ji_putf 6 0 .int 9)) (jlf 9 (ji_aload 0 10))) (jN 11 (jlf 10 (ji_aload 2 11)) (jN 14 (jlf 11 (ji_putf 6 1 (.object "QuasiSums$Sum") 14)) (jlf 14 (ji_ret Φ 0 0))))))
set_option maxRecDepth 20000 in
theorem js_X7_init (Φ : jPost) : ∀ pc, jS jy_X7_init Φ pc (jp_X7_init Φ pc) := (jSN (jSN (jSN (jSl (jS_aloadn (q := 0) rfl (by decide +kernel) rfl)) (jSl (jS_objinit (index := 1) (jmem 239 (by decide +kernel)) (jmem 86 (by decide +kernel)) (jmem 87 (by decide +kernel)) (by decide) (by decide +kernel) rfl))) (jSN (jSl (jS_aloadn (q := 0) rfl (by decide +kernel) rfl)) (jSl (jS_iloadn (q := 1) rfl (by decide +kernel) rfl)))) (jSN (jSN (jSl (jS_putF (ci := 6) (index := 7) (f := 0) (ref := "QuasiSums$Step") jin6 rfl tyX7_ok nmX7 (by decide) (jmem 240 (by decide +kernel)) rfl rfl rfl rfl (by decide +kernel) rfl)) (jSl (jS_aloadn (q := 0) rfl (by decide +kernel) rfl))) (jSN (jSl (jS_aloadn (q := 2) rfl (by decide +kernel) rfl)) (jSN (jSl (jS_putF (ci := 6) (index := 13) (f := 1) (ref := "QuasiSums$Step") jin6 rfl tyX7_ok nmX7 (by decide) (jmem 242 (by decide +kernel)) rfl rfl rfl rfl (by decide +kernel) rfl)) (jSl (jS_ret rfl (by decide +kernel)))))))
def jy_X8_at : jY := (yX8_at, cX8_at, 2, some .long, 2, 0, 0)
theorem jok_X8_at : jYok jy_X8_at 1 := ⟨(jmem 349 (by decide +kernel)), (jmem 61 (by decide +kernel)), ⟨by decide +kernel, by decide +kernel⟩, by decide +kernel⟩
def jp_X8_at (Φ : jPost) : Nat → jI := (jN 12 (jN 5 (jN 1 (jlf 0 (ji_iload 1 1)) (jN 2 (jlf 1 (ji_aload 0 2)) (jlf 2 (ji_getf 7 1 5)))) (jN 6 (jlf 5 (ji_alen 6)) (jN 9 (jlf 6 (ji_call jy_X11_within 2 0 0 9)) (jlf 9 (ji_ifeq 21 12))))) (jN 17 (jN 13 (jlf 12 (ji_aload 0 13)) (jN 16 (jlf 13 (ji_getf 7 1 16)) (jlf 16 (ji_iload 1 17)))) (jN 21 (jN 18 (jlf 17 (ji_lald 18)) (jlf 18 (ji_goto 22))) (jN 22 (jlf 21 (ji_push (.long 0) 22)) (jlf 22 (ji_lret Φ 0 0))))))
set_option maxRecDepth 20000 in
theorem js_X8_at (Φ : jPost) : ∀ pc, jS jy_X8_at Φ pc (jp_X8_at Φ pc) := (jSN (jSN (jSN (jSl (jS_iloadn (q := 1) rfl (by decide +kernel) rfl)) (jSN (jSl (jS_aloadn (q := 0) rfl (by decide +kernel) rfl)) (jSl (jS_getf (ci := 7) (index := 30) (f := 1) (ref := "QuasiSums$Sum") jin7 rfl (by decide) (jmem 182 (by decide +kernel)) (Or.inl rfl) (by decide +kernel) rfl)))) (jSN (jSl (jS_alen (by decide +kernel) rfl)) (jSN (jSl (jS_scallN (index := 34) (host := "QuasiSums") (Z := jy_X11_within) jok_X11_within (jmem 122 (by decide +kernel)) (jmem 341 (by decide +kernel)) (by decide) (by decide) (by decide +kernel) rfl)) (jSl (jS_ifeq (off := 12) (by decide +kernel) (by decide) rfl))))) (jSN (jSN (jSl (jS_aloadn (q := 0) rfl (by decide +kernel) rfl)) (jSN (jSl (jS_getf (ci := 7) (index := 30) (f := 1) (ref := "QuasiSums$Sum") jin7 rfl (by decide) (jmem 182 (by decide +kernel)) (Or.inl rfl) (by decide +kernel) rfl)) (jSl (jS_iloadn (q := 1) rfl (by decide +kernel) rfl)))) (jSN (jSN (jSl (jS_lald (by decide +kernel) rfl)) (jSl (jS_goto (off := 4) (by decide +kernel) (by decide)))) (jSN (jSl (jS_lconst (n := 0) (v := 0) (by decide +kernel) (by decide +kernel) rfl)) (jSl (jS_lret rfl (by decide +kernel)))))))
def jy_X8_isLike : jY := (yX8_isLike, cX8_isLike, 3, some .boolean, 1, 0, 0)
theorem jok_X8_isLike : jYok jy_X8_isLike 1 := ⟨(jmem 233 (by decide +kernel)), (jmem 61 (by decide +kernel)), ⟨by decide +kernel, by decide +kernel⟩, by decide +kernel⟩
def jp_X8_isLike (Φ : jPost) : Nat → jI := (jN 30 (jN 17 (jN 8 (jN 4 (jN 1 (jlf 0 (ji_aload 0 1)) (jlf 1 (ji_getf 7 0 4))) (jN 5 (jlf 4 (ji_aload 1 5)) (jlf 5 (ji_getf 7 0 8)))) (jN 12 (jN 11 (jlf 8 (ji_icmpne 24 11)) (jlf 11 (ji_aload 0 12))) (jN 15 (jlf 12 (ji_getf 7 1 15)) (jN 16 (jlf 15 (ji_alen 16)) (jlf 16 (ji_aload 1 17)))))) (jN 25 (jN 21 (jN 20 (jlf 17 (ji_getf 7 1 20)) (jlf 20 (ji_alen 21))) (jN 24 (jlf 21 (ji_icmpeq 26 24)) (jlf 24 (ji_push (.int (nI 0)) 25)))) (jN 27 (jN 26 (jlf 25 (ji_zret Φ 0 0)) (jlf 26 (ji_push (.int (nI 0)) 27))) (jN 28 (jlf 27 (ji_istore 2 28)) (jN 29 (jlf 28 (ji_iload 2 29)) (jlf 29 (ji_aload 0 30))))))) (jN 47 (jN 38 (jN 34 (jN 33 (jlf 30 (ji_getf 7 1 33)) (jlf 33 (ji_alen 34))) (jN 37 (jlf 34 (ji_icmpge 61 37)) (jlf 37 (ji_aload 0 38)))) (jN 42 (jN 41 (jlf 38 (ji_getf 7 1 41)) (jlf 41 (ji_iload 2 42))) (jN 43 (jlf 42 (ji_lald 43)) (jN 44 (jlf 43 (ji_aload 1 44)) (jlf 44 (ji_getf 7 1 47)))))) (jN 54 (jN 49 (jN 48 (jlf 47 (ji_iload 2 48)) (jlf 48 (ji_lald 49))) (jN 50 (jlf 49 (ji_lcmp 50)) (jN 53 (jlf 50 (ji_ifeq 55 53)) (jlf 53 (ji_push (.int (nI 0)) 54))))) (jN 58 (jN 55 (jlf 54 (ji_zret Φ 0 0)) (jlf 55 (ji_iinc 2 (nI 1) 58))) (jN 61 (jlf 58 (ji_goto 28)) (jN 62 (jlf 61 (ji_push (.int (nI 1)) 62)) (jlf 62 (ji_zret Φ 0 0))))))))
set_option maxRecDepth 20000 in
theorem js_X8_isLike (Φ : jPost) : ∀ pc, jS jy_X8_isLike Φ pc (jp_X8_isLike Φ pc) := (jSN (jSN (jSN (jSN (jSN (jSl (jS_aloadn (q := 0) rfl (by decide +kernel) rfl)) (jSl (jS_getf (ci := 7) (index := 18) (f := 0) (ref := "QuasiSums$Sum") jin7 rfl (by decide) (jmem 180 (by decide +kernel)) (Or.inl rfl) (by decide +kernel) rfl))) (jSN (jSl (jS_aloadn (q := 1) rfl (by decide +kernel) rfl)) (jSl (jS_getf (ci := 7) (index := 18) (f := 0) (ref := "QuasiSums$Sum") jin7 rfl (by decide) (jmem 180 (by decide +kernel)) (Or.inl rfl) (by decide +kernel) rfl)))) (jSN (jSN (jSl (jS_icmpne (off := 16) (by decide +kernel) (by decide) rfl)) (jSl (jS_aloadn (q := 0) rfl (by decide +kernel) rfl))) (jSN (jSl (jS_getf (ci := 7) (index := 30) (f := 1) (ref := "QuasiSums$Sum") jin7 rfl (by decide) (jmem 182 (by decide +kernel)) (Or.inl rfl) (by decide +kernel) rfl)) (jSN (jSl (jS_alen (by decide +kernel) rfl)) (jSl (jS_aloadn (q := 1) rfl (by decide +kernel) rfl)))))) (jSN (jSN (jSN (jSl (jS_getf (ci := 7) (index := 30) (f := 1) (ref := "QuasiSums$Sum") jin7 rfl (by decide) (jmem 182 (by decide +kernel)) (Or.inl rfl) (by decide +kernel) rfl)) (jSl (jS_alen (by decide +kernel) rfl))) (jSN (jSl (jS_icmpeq (off := 5) (by decide +kernel) (by decide) rfl)) (jSl (jS_iconst (n := 0) (v := (nI 0)) (by decide +kernel) (by decide +kernel) rfl)))) (jSN (jSN (jSl (jS_zret rfl (by decide +kernel))) (jSl (jS_iconst (n := 0) (v := (nI 0)) (by decide +kernel) (by decide +kernel) rfl))) (jSN (jSl (jS_istoren (q := 2) rfl (by decide +kernel) rfl (by decide))) (jSN (jSl (jS_iloadn (q := 2) rfl (by decide +kernel) rfl)) (jSl (jS_aloadn (q := 0) rfl (by decide +kernel) rfl))))))) (jSN (jSN (jSN (jSN (jSl (jS_getf (ci := 7) (index := 30) (f := 1) (ref := "QuasiSums$Sum") jin7 rfl (by decide) (jmem 182 (by decide +kernel)) (Or.inl rfl) (by decide +kernel) rfl)) (jSl (jS_alen (by decide +kernel) rfl))) (jSN (jSl (jS_icmpge (off := 27) (by decide +kernel) (by decide) rfl)) (jSl (jS_aloadn (q := 0) rfl (by decide +kernel) rfl)))) (jSN (jSN (jSl (jS_getf (ci := 7) (index := 30) (f := 1) (ref := "QuasiSums$Sum") jin7 rfl (by decide) (jmem 182 (by decide +kernel)) (Or.inl rfl) (by decide +kernel) rfl)) (jSl (jS_iloadn (q := 2) rfl (by decide +kernel) rfl))) (jSN (jSl (jS_lald (by decide +kernel) rfl)) (jSN (jSl (jS_aloadn (q := 1) rfl (by decide +kernel) rfl)) (jSl (jS_getf (ci := 7) (index := 30) (f := 1) (ref := "QuasiSums$Sum") jin7 rfl (by decide) (jmem 182 (by decide +kernel)) (Or.inl rfl) (by decide +kernel) rfl)))))) (jSN (jSN (jSN (jSl (jS_iloadn (q := 2) rfl (by decide +kernel) rfl)) (jSl (jS_lald (by decide +kernel) rfl))) (jSN (jSl (jS_lcmp (by decide +kernel) rfl)) (jSN (jSl (jS_ifeq (off := 5) (by decide +kernel) (by decide) rfl)) (jSl (jS_iconst (n := 0) (v := (nI 0)) (by decide +kernel) (by decide +kernel) rfl))))) (jSN (jSN (jSl (jS_zret rfl (by decide +kernel))) (jSl (jS_iinc (n := 1) (v := (nI 1)) (by decide +kernel) (by decide +kernel) rfl (by decide)))) (jSN (jSl (jS_goto (off := -30) (by decide +kernel) (by decide))) (jSN (jSl (jS_iconst (n := 1) (v := (nI 1)) (by decide +kernel) (by decide +kernel) rfl)) (jSl (jS_zret rfl (by decide +kernel)))))))))
def jy_X8_twin : jY := (yX8_twin, cX8_twin, 3, some (.object "QuasiSums$Sum"), 4, 2, 34)
theorem jok_X8_twin : jYok jy_X8_twin 0 := ⟨(jmem 338 (by decide +kernel)), (jmem 61 (by decide +kernel)), ⟨by decide +kernel, by decide +kernel⟩, by decide +kernel⟩
def jp_X8_twin (Φ : jPost) : Nat → jI := (jN 25 (jN 13 (jN 5 (jN 3 (jlf 0 (ji_new 7 2 [.int (nI 0), .null] 2 34 3)) (jN 4 (jlf 3 (ji_dup 4)) (jlf 4 (ji_aload 0 5)))) (jN 11 (jN 8 (jlf 5 (ji_getf 7 0 8)) (jlf 8 (ji_icall jy_X8_init 1 2 34 11))) (jN 12 (jlf 11 (ji_astore 1 12)) (jlf 12 (ji_push (.int (nI 0)) 13))))) (jN 19 (jN 15 (jN 14 (jlf 13 (ji_istore 2 14)) (jlf 14 (ji_iload 2 15))) (jN 16 (jlf 15 (ji_aload 0 16)) (jlf 16 (ji_getf 7 1 19)))) (jN 23 (jN 20 (jlf 19 (ji_alen 20)) (jlf 20 (ji_icmpge 50 23))) (jN 24 (jlf 23 (ji_iload 2 24)) (jlf 24 (ji_aload 1 25)))))) (jN 38 (jN 32 (jN 28 (jlf 25 (ji_getf 7 1 28)) (jN 29 (jlf 28 (ji_alen 29)) (jlf 29 (ji_icmpge 50 32)))) (jN 36 (jN 33 (jlf 32 (ji_aload 1 33)) (jlf 33 (ji_getf 7 1 36))) (jN 37 (jlf 36 (ji_iload 2 37)) (jlf 37 (ji_aload 0 38))))) (jN 44 (jN 42 (jN 41 (jlf 38 (ji_getf 7 1 41)) (jlf 41 (ji_iload 2 42))) (jN 43 (jlf 42 (ji_lald 43)) (jlf 43 (ji_last 44)))) (jN 50 (jN 47 (jlf 44 (ji_iinc 2 (nI 1) 47)) (jlf 47 (ji_goto 14))) (jN 51 (jlf 50 (ji_aload 1 51)) (jlf 51 (ji_aret Φ 2 34)))))))
set_option maxRecDepth 20000 in
theorem js_X8_twin (Φ : jPost) : ∀ pc, jS jy_X8_twin Φ pc (jp_X8_twin Φ pc) := (jSN (jSN (jSN (jSN (jSl (jS_new (index := 19) (ci := 7) jin7 rfl tyX8_ok jdf7 (fun _ => rfl) (jmem 339 (by decide +kernel)) (jmem 167 (by decide +kernel)) (jmem 61 (by decide +kernel)) (by decide +kernel) rfl)) (jSN (jSl (jS_dup (by decide +kernel) rfl)) (jSl (jS_aloadn (q := 0) rfl (by decide +kernel) rfl)))) (jSN (jSN (jSl (jS_getf (ci := 7) (index := 18) (f := 0) (ref := "QuasiSums$Sum") jin7 rfl (by decide) (jmem 180 (by decide +kernel)) (Or.inl rfl) (by decide +kernel) rfl)) (jSl (jS_icall (index := 51) (Z := jy_X8_init) rfl jok_X8_init (jmem 169 (by decide +kernel)) rfl (jmem 340 (by decide +kernel)) (by decide) (by decide) (by decide +kernel) rfl))) (jSN (jSl (jS_astoren (q := 1) rfl (by decide +kernel) rfl (by decide))) (jSl (jS_iconst (n := 0) (v := (nI 0)) (by decide +kernel) (by decide +kernel) rfl))))) (jSN (jSN (jSN (jSl (jS_istoren (q := 2) rfl (by decide +kernel) rfl (by decide))) (jSl (jS_iloadn (q := 2) rfl (by decide +kernel) rfl))) (jSN (jSl (jS_aloadn (q := 0) rfl (by decide +kernel) rfl)) (jSl (jS_getf (ci := 7) (index := 30) (f := 1) (ref := "QuasiSums$Sum") jin7 rfl (by decide) (jmem 182 (by decide +kernel)) (Or.inl rfl) (by decide +kernel) rfl)))) (jSN (jSN (jSl (jS_alen (by decide +kernel) rfl)) (jSl (jS_icmpge (off := 30) (by decide +kernel) (by decide) rfl))) (jSN (jSl (jS_iloadn (q := 2) rfl (by decide +kernel) rfl)) (jSl (jS_aloadn (q := 1) rfl (by decide +kernel) rfl)))))) (jSN (jSN (jSN (jSl (jS_getf (ci := 7) (index := 30) (f := 1) (ref := "QuasiSums$Sum") jin7 rfl (by decide) (jmem 182 (by decide +kernel)) (Or.inl rfl) (by decide +kernel) rfl)) (jSN (jSl (jS_alen (by decide +kernel) rfl)) (jSl (jS_icmpge (off := 21) (by decide +kernel) (by decide) rfl)))) (jSN (jSN (jSl (jS_aloadn (q := 1) rfl (by decide +kernel) rfl)) (jSl (jS_getf (ci := 7) (index := 30) (f := 1) (ref := "QuasiSums$Sum") jin7 rfl (by decide) (jmem 182 (by decide +kernel)) (Or.inl rfl) (by decide +kernel) rfl))) (jSN (jSl (jS_iloadn (q := 2) rfl (by decide +kernel) rfl)) (jSl (jS_aloadn (q := 0) rfl (by decide +kernel) rfl))))) (jSN (jSN (jSN (jSl (jS_getf (ci := 7) (index := 30) (f := 1) (ref := "QuasiSums$Sum") jin7 rfl (by decide) (jmem 182 (by decide +kernel)) (Or.inl rfl) (by decide +kernel) rfl)) (jSl (jS_iloadn (q := 2) rfl (by decide +kernel) rfl))) (jSN (jSl (jS_lald (by decide +kernel) rfl)) (jSl (jS_last (by decide +kernel) rfl)))) (jSN (jSN (jSl (jS_iinc (n := 1) (v := (nI 1)) (by decide +kernel) (by decide +kernel) rfl (by decide))) (jSl (jS_goto (off := -33) (by decide +kernel) (by decide)))) (jSN (jSl (jS_aloadn (q := 1) rfl (by decide +kernel) rfl)) (jSl (jS_aret rfl (Or.inl ⟨_, rfl⟩) (by decide +kernel))))))))
def jy_X8_withNumber : jY := (yX8_withNumber, cX8_withNumber, 5, some (.object "QuasiSums$Sum"), 5, 2, 34)
theorem jok_X8_withNumber : jYok jy_X8_withNumber 2 := ⟨(jmem 334 (by decide +kernel)), (jmem 61 (by decide +kernel)), ⟨by decide +kernel, by decide +kernel⟩, by decide +kernel⟩
def jp_X8_withNumber (Φ : jPost) : Nat → jI := (jN 16 (jN 7 (jN 4 (jN 1 (jlf 0 (ji_aload 0 1)) (jlf 1 (ji_vcall jy_X8_twin 0 7 2 34 4))) (jN 6 (jlf 4 (ji_astore 4 6)) (jlf 6 (ji_iload 1 7)))) (jN 12 (jN 9 (jlf 7 (ji_aload 4 9)) (jlf 9 (ji_getf 7 1 12))) (jN 13 (jlf 12 (ji_alen 13)) (jlf 13 (ji_call jy_X11_within 2 2 34 16))))) (jN 25 (jN 21 (jN 19 (jlf 16 (ji_ifeq 27 19)) (jlf 19 (ji_aload 4 21))) (jN 24 (jlf 21 (ji_getf 7 1 24)) (jlf 24 (ji_iload 1 25)))) (jN 27 (jN 26 (jlf 25 (ji_lload 2 26)) (jlf 26 (ji_last 27))) (jN 29 (jlf 27 (ji_aload 4 29)) (jlf 29 (ji_aret Φ 2 34))))))
set_option maxRecDepth 20000 in
theorem js_X8_withNumber (Φ : jPost) : ∀ pc, jS jy_X8_withNumber Φ pc (jp_X8_withNumber Φ pc) := (jSN (jSN (jSN (jSN (jSl (jS_aloadn (q := 0) rfl (by decide +kernel) rfl)) (jSl (jS_vcall (index := 54) (Z := jy_X8_twin) (ci := 7) jok_X8_twin (jmem 337 (by decide +kernel)) (jmem 8 (by decide +kernel)) rfl (jmem 335 (by decide +kernel)) (by decide) (by decide) (by decide +kernel) rfl))) (jSN (jSl (jS_astore (by decide +kernel) rfl (by decide))) (jSl (jS_iloadn (q := 1) rfl (by decide +kernel) rfl)))) (jSN (jSN (jSl (jS_aload (by decide +kernel) rfl)) (jSl (jS_getf (ci := 7) (index := 30) (f := 1) (ref := "QuasiSums$Sum") jin7 rfl (by decide) (jmem 182 (by decide +kernel)) (Or.inl rfl) (by decide +kernel) rfl))) (jSN (jSl (jS_alen (by decide +kernel) rfl)) (jSl (jS_scallN (index := 34) (host := "QuasiSums") (Z := jy_X11_within) jok_X11_within (jmem 122 (by decide +kernel)) (jmem 341 (by decide +kernel)) (by decide) (by decide) (by decide +kernel) rfl))))) (jSN (jSN (jSN (jSl (jS_ifeq (off := 11) (by decide +kernel) (by decide) rfl)) (jSl (jS_aload (by decide +kernel) rfl))) (jSN (jSl (jS_getf (ci := 7) (index := 30) (f := 1) (ref := "QuasiSums$Sum") jin7 rfl (by decide) (jmem 182 (by decide +kernel)) (Or.inl rfl) (by decide +kernel) rfl)) (jSl (jS_iloadn (q := 1) rfl (by decide +kernel) rfl)))) (jSN (jSN (jSl (jS_lloadn (q := 2) rfl (by decide +kernel) rfl)) (jSl (jS_last (by decide +kernel) rfl))) (jSN (jSl (jS_aload (by decide +kernel) rfl)) (jSl (jS_aret rfl (Or.inl ⟨_, rfl⟩) (by decide +kernel)))))))
def jy_X8_withFundamental : jY := (yX8_withFundamental, cX8_withFundamental, 6, some (.object "QuasiSums$Sum"), 5, 2, 34)
theorem jok_X8_withFundamental : jYok jy_X8_withFundamental 3 := ⟨(jmem 373 (by decide +kernel)), (jmem 61 (by decide +kernel)), ⟨by decide +kernel, by decide +kernel⟩, by decide +kernel⟩
def jp_X8_withFundamental (Φ : jPost) : Nat → jI := (jN 9 (jN 4 (jN 1 (jlf 0 (ji_aload 0 1)) (jlf 1 (ji_vcall jy_X8_twin 0 7 2 34 4))) (jN 6 (jlf 4 (ji_astore 5 6)) (jN 8 (jlf 6 (ji_aload 5 8)) (jlf 8 (ji_iload 1 9))))) (jN 12 (jN 10 (jlf 9 (ji_lload 2 10)) (jlf 10 (ji_aload 4 12))) (jN 15 (jlf 12 (ji_vcall jy_X8_comesToFiner 3 7 2 34 15)) (jN 17 (jlf 15 (ji_aload 5 17)) (jlf 17 (ji_aret Φ 2 34))))))
set_option maxRecDepth 20000 in
theorem js_X8_withFundamental (Φ : jPost) : ∀ pc, jS jy_X8_withFundamental Φ pc (jp_X8_withFundamental Φ pc) := (jSN (jSN (jSN (jSl (jS_aloadn (q := 0) rfl (by decide +kernel) rfl)) (jSl (jS_vcall (index := 54) (Z := jy_X8_twin) (ci := 7) jok_X8_twin (jmem 337 (by decide +kernel)) (jmem 8 (by decide +kernel)) rfl (jmem 335 (by decide +kernel)) (by decide) (by decide) (by decide +kernel) rfl))) (jSN (jSl (jS_astore (by decide +kernel) rfl (by decide))) (jSN (jSl (jS_aload (by decide +kernel) rfl)) (jSl (jS_iloadn (q := 1) rfl (by decide +kernel) rfl))))) (jSN (jSN (jSl (jS_lloadn (q := 2) rfl (by decide +kernel) rfl)) (jSl (jS_aload (by decide +kernel) rfl))) (jSN (jSl (jS_vcall (index := 58) (Z := jy_X8_comesToFiner) (ci := 7) jok_X8_comesToFiner (jmem 376 (by decide +kernel)) (jmem 9 (by decide +kernel)) rfl (jmem 374 (by decide +kernel)) (by decide) (by decide) (by decide +kernel) rfl)) (jSN (jSl (jS_aload (by decide +kernel) rfl)) (jSl (jS_aret rfl (Or.inl ⟨_, rfl⟩) (by decide +kernel)))))))
def jy_X8_fundamentalNumber : jY := (yX8_fundamentalNumber, cX8_fundamentalNumber, 10, some .long, 3, 0, 0)
theorem jok_X8_fundamentalNumber : jYok jy_X8_fundamentalNumber 2 := ⟨(jmem 427 (by decide +kernel)), (jmem 61 (by decide +kernel)), ⟨by decide +kernel, by decide +kernel⟩, by decide +kernel⟩
def jp_X8_fundamentalNumber (Φ : jPost) : Nat → jI := (jN 51 (jN 25 (jN 12 (jN 5 (jN 1 (jlf 0 (ji_aload 0 1)) (jN 4 (jlf 1 (ji_getf 7 0 4)) (jlf 4 (ji_iload 1 5)))) (jN 9 (jN 8 (jlf 5 (ji_call jy_X0_lengthOf 2 0 0 8)) (jlf 8 (ji_istore 3 9))) (jN 10 (jlf 9 (ji_push (.long 0) 10)) (jlf 10 (ji_lstore 4 12))))) (jN 17 (jN 13 (jlf 12 (ji_push (.int (nI 0)) 13)) (jN 15 (jlf 13 (ji_istore 6 15)) (jlf 15 (ji_iload 6 17)))) (jN 21 (jN 18 (jlf 17 (ji_aload 0 18)) (jlf 18 (ji_getf 7 1 21))) (jN 22 (jlf 21 (ji_alen 22)) (jlf 22 (ji_icmpge 103 25)))))) (jN 39 (jN 31 (jN 26 (jlf 25 (ji_iload 1 26)) (jN 28 (jlf 26 (ji_iload 6 28)) (jlf 28 (ji_call jy_X0_isFiner 2 0 0 31)))) (jN 35 (jN 34 (jlf 31 (ji_ifeq 97 34)) (jlf 34 (ji_iload 3 35))) (jN 36 (jlf 35 (ji_aload 0 36)) (jlf 36 (ji_getf 7 0 39))))) (jN 45 (jN 41 (jlf 39 (ji_iload 6 41)) (jN 44 (jlf 41 (ji_call jy_X0_lengthOf 2 0 0 44)) (jlf 44 (ji_isub 45)))) (jN 47 (jN 46 (jlf 45 (ji_push (.int (nI 2)) 46)) (jlf 46 (ji_irem 47))) (jN 50 (jlf 47 (ji_ifeq 54 50)) (jlf 50 (ji_push (.int (nI 1)) 51))))))) (jN 78 (jN 64 (jN 57 (jN 54 (jlf 51 (ji_goto 55)) (jN 55 (jlf 54 (ji_push (.int (nI 0)) 55)) (jlf 55 (ji_istore 7 57)))) (jN 62 (jN 59 (jlf 57 (ji_iload 7 59)) (jlf 59 (ji_ifeq 77 62))) (jN 63 (jlf 62 (ji_aload 2 63)) (jlf 63 (ji_aload 0 64))))) (jN 70 (jN 67 (jlf 64 (ji_getf 7 1 67)) (jN 69 (jlf 67 (ji_iload 6 69)) (jlf 69 (ji_lald 70)))) (jN 74 (jN 71 (jlf 70 (ji_iload 1 71)) (jlf 71 (ji_vcall jy_X3_otherSign 2 2 0 0 74))) (jN 77 (jlf 74 (ji_goto 84)) (jlf 77 (ji_aload 0 78)))))) (jN 91 (jN 84 (jN 81 (jlf 78 (ji_getf 7 1 81)) (jN 83 (jlf 81 (ji_iload 6 83)) (jlf 83 (ji_lald 84)))) (jN 87 (jN 86 (jlf 84 (ji_lstore 8 86)) (jlf 86 (ji_aload 2 87))) (jN 89 (jlf 87 (ji_lload 4 89)) (jlf 89 (ji_lload 8 91))))) (jN 97 (jN 92 (jlf 91 (ji_iload 1 92)) (jN 95 (jlf 92 (ji_vcall jy_X3_plus 3 2 0 0 95)) (jlf 95 (ji_lstore 4 97)))) (jN 103 (jN 100 (jlf 97 (ji_iinc 6 (nI 1) 100)) (jlf 100 (ji_goto 15))) (jN 105 (jlf 103 (ji_lload 4 105)) (jlf 105 (ji_lret Φ 0 0))))))))
set_option maxRecDepth 20000 in
theorem js_X8_fundamentalNumber (Φ : jPost) : ∀ pc, jS jy_X8_fundamentalNumber Φ pc (jp_X8_fundamentalNumber Φ pc) := (jSN (jSN (jSN (jSN (jSN (jSl (jS_aloadn (q := 0) rfl (by decide +kernel) rfl)) (jSN (jSl (jS_getf (ci := 7) (index := 18) (f := 0) (ref := "QuasiSums$Sum") jin7 rfl (by decide) (jmem 180 (by decide +kernel)) (Or.inl rfl) (by decide +kernel) rfl)) (jSl (jS_iloadn (q := 1) rfl (by decide +kernel) rfl)))) (jSN (jSN (jSl (jS_scall (index := 61) (Z := jy_X0_lengthOf) jok_X0_lengthOf (jmem 429 (by decide +kernel)) (jmem 428 (by decide +kernel)) (by decide) (by decide) (by decide +kernel) rfl)) (jSl (jS_istoren (q := 3) rfl (by decide +kernel) rfl (by decide)))) (jSN (jSl (jS_lconst (n := 0) (v := 0) (by decide +kernel) (by decide +kernel) rfl)) (jSl (jS_lstore (by decide +kernel) rfl (by decide)))))) (jSN (jSN (jSl (jS_iconst (n := 0) (v := (nI 0)) (by decide +kernel) (by decide +kernel) rfl)) (jSN (jSl (jS_istore (by decide +kernel) rfl (by decide))) (jSl (jS_iload (by decide +kernel) rfl)))) (jSN (jSN (jSl (jS_aloadn (q := 0) rfl (by decide +kernel) rfl)) (jSl (jS_getf (ci := 7) (index := 30) (f := 1) (ref := "QuasiSums$Sum") jin7 rfl (by decide) (jmem 182 (by decide +kernel)) (Or.inl rfl) (by decide +kernel) rfl))) (jSN (jSl (jS_alen (by decide +kernel) rfl)) (jSl (jS_icmpge (off := 81) (by decide +kernel) (by decide) rfl)))))) (jSN (jSN (jSN (jSl (jS_iloadn (q := 1) rfl (by decide +kernel) rfl)) (jSN (jSl (jS_iload (by decide +kernel) rfl)) (jSl (jS_scall (index := 44) (Z := jy_X0_isFiner) jok_X0_isFiner (jmem 379 (by decide +kernel)) (jmem 378 (by decide +kernel)) (by decide) (by decide) (by decide +kernel) rfl)))) (jSN (jSN (jSl (jS_ifeq (off := 66) (by decide +kernel) (by decide) rfl)) (jSl (jS_iloadn (q := 3) rfl (by decide +kernel) rfl))) (jSN (jSl (jS_aloadn (q := 0) rfl (by decide +kernel) rfl)) (jSl (jS_getf (ci := 7) (index := 18) (f := 0) (ref := "QuasiSums$Sum") jin7 rfl (by decide) (jmem 180 (by decide +kernel)) (Or.inl rfl) (by decide +kernel) rfl))))) (jSN (jSN (jSl (jS_iload (by decide +kernel) rfl)) (jSN (jSl (jS_scall (index := 61) (Z := jy_X0_lengthOf) jok_X0_lengthOf (jmem 429 (by decide +kernel)) (jmem 428 (by decide +kernel)) (by decide) (by decide) (by decide +kernel) rfl)) (jSl (jS_isub (by decide +kernel) rfl)))) (jSN (jSN (jSl (jS_iconst (n := 2) (v := (nI 2)) (by decide +kernel) (by decide +kernel) rfl)) (jSl (jS_irem (by decide +kernel) rfl))) (jSN (jSl (jS_ifeq (off := 7) (by decide +kernel) (by decide) rfl)) (jSl (jS_iconst (n := 1) (v := (nI 1)) (by decide +kernel) (by decide +kernel) rfl))))))) (jSN (jSN (jSN (jSN (jSl (jS_goto (off := 4) (by decide +kernel) (by decide))) (jSN (jSl (jS_iconst (n := 0) (v := (nI 0)) (by decide +kernel) (by decide +kernel) rfl)) (jSl (jS_istore (by decide +kernel) rfl (by decide))))) (jSN (jSN (jSl (jS_iload (by decide +kernel) rfl)) (jSl (jS_ifeq (off := 18) (by decide +kernel) (by decide) rfl))) (jSN (jSl (jS_aloadn (q := 2) rfl (by decide +kernel) rfl)) (jSl (jS_aloadn (q := 0) rfl (by decide +kernel) rfl))))) (jSN (jSN (jSl (jS_getf (ci := 7) (index := 30) (f := 1) (ref := "QuasiSums$Sum") jin7 rfl (by decide) (jmem 182 (by decide +kernel)) (Or.inl rfl) (by decide +kernel) rfl)) (jSN (jSl (jS_iload (by decide +kernel) rfl)) (jSl (jS_lald (by decide +kernel) rfl)))) (jSN (jSN (jSl (jS_iloadn (q := 1) rfl (by decide +kernel) rfl)) (jSl (jS_vcall (index := 64) (Z := jy_X3_otherSign) (ci := 2) jok_X3_otherSign (jmem 438 (by decide +kernel)) (jmem 439 (by decide +kernel)) rfl (jmem 437 (by decide +kernel)) (by decide) (by decide) (by decide +kernel) rfl))) (jSN (jSl (jS_goto (off := 10) (by decide +kernel) (by decide))) (jSl (jS_aloadn (q := 0) rfl (by decide +kernel) rfl)))))) (jSN (jSN (jSN (jSl (jS_getf (ci := 7) (index := 30) (f := 1) (ref := "QuasiSums$Sum") jin7 rfl (by decide) (jmem 182 (by decide +kernel)) (Or.inl rfl) (by decide +kernel) rfl)) (jSN (jSl (jS_iload (by decide +kernel) rfl)) (jSl (jS_lald (by decide +kernel) rfl)))) (jSN (jSN (jSl (jS_lstore (by decide +kernel) rfl (by decide))) (jSl (jS_aloadn (q := 2) rfl (by decide +kernel) rfl))) (jSN (jSl (jS_lload (by decide +kernel) rfl)) (jSl (jS_lload (by decide +kernel) rfl))))) (jSN (jSN (jSl (jS_iloadn (q := 1) rfl (by decide +kernel) rfl)) (jSN (jSl (jS_vcall (index := 38) (Z := jy_X3_plus) (ci := 2) jok_X3_plus (jmem 386 (by decide +kernel)) (jmem 387 (by decide +kernel)) rfl (jmem 385 (by decide +kernel)) (by decide) (by decide) (by decide +kernel) rfl)) (jSl (jS_lstore (by decide +kernel) rfl (by decide))))) (jSN (jSN (jSl (jS_iinc (n := 1) (v := (nI 1)) (by decide +kernel) (by decide +kernel) rfl (by decide))) (jSl (jS_goto (off := -85) (by decide +kernel) (by decide)))) (jSN (jSl (jS_lload (by decide +kernel) rfl)) (jSl (jS_lret rfl (by decide +kernel)))))))))
def jy_X8_notZero : jY := (yX8_notZero, cX8_notZero, 3, some .int, 1, 0, 0)
theorem jok_X8_notZero : jYok jy_X8_notZero 0 := ⟨(jmem 453 (by decide +kernel)), (jmem 61 (by decide +kernel)), ⟨by decide +kernel, by decide +kernel⟩, by decide +kernel⟩
def jp_X8_notZero (Φ : jPost) : Nat → jI := (jN 19 (jN 6 (jN 3 (jN 1 (jlf 0 (ji_push (.int (nI 0)) 1)) (jN 2 (jlf 1 (ji_istore 1 2)) (jlf 2 (ji_push (.int (nI 0)) 3)))) (jN 4 (jlf 3 (ji_istore 2 4)) (jN 5 (jlf 4 (ji_iload 2 5)) (jlf 5 (ji_aload 0 6))))) (jN 13 (jN 9 (jlf 6 (ji_getf 7 1 9)) (jN 10 (jlf 9 (ji_alen 10)) (jlf 10 (ji_icmpge 38 13)))) (jN 15 (jN 14 (jlf 13 (ji_iload 1 14)) (jlf 14 (ji_aload 0 15))) (jN 18 (jlf 15 (ji_getf 7 1 18)) (jlf 18 (ji_iload 2 19)))))) (jN 29 (jN 22 (jN 20 (jlf 19 (ji_lald 20)) (jN 21 (jlf 20 (ji_push (.long 0) 21)) (jlf 21 (ji_lcmp 22)))) (jN 25 (jlf 22 (ji_ifne 29 25)) (jN 26 (jlf 25 (ji_push (.int (nI 0)) 26)) (jlf 26 (ji_goto 30))))) (jN 32 (jN 30 (jlf 29 (ji_push (.int (nI 1)) 30)) (jN 31 (jlf 30 (ji_iadd 31)) (jlf 31 (ji_istore 1 32)))) (jN 38 (jN 35 (jlf 32 (ji_iinc 2 (nI 1) 35)) (jlf 35 (ji_goto 4))) (jN 39 (jlf 38 (ji_iload 1 39)) (jlf 39 (ji_iret Φ 0 0)))))))
set_option maxRecDepth 20000 in
theorem js_X8_notZero (Φ : jPost) : ∀ pc, jS jy_X8_notZero Φ pc (jp_X8_notZero Φ pc) := (jSN (jSN (jSN (jSN (jSl (jS_iconst (n := 0) (v := (nI 0)) (by decide +kernel) (by decide +kernel) rfl)) (jSN (jSl (jS_istoren (q := 1) rfl (by decide +kernel) rfl (by decide))) (jSl (jS_iconst (n := 0) (v := (nI 0)) (by decide +kernel) (by decide +kernel) rfl)))) (jSN (jSl (jS_istoren (q := 2) rfl (by decide +kernel) rfl (by decide))) (jSN (jSl (jS_iloadn (q := 2) rfl (by decide +kernel) rfl)) (jSl (jS_aloadn (q := 0) rfl (by decide +kernel) rfl))))) (jSN (jSN (jSl (jS_getf (ci := 7) (index := 30) (f := 1) (ref := "QuasiSums$Sum") jin7 rfl (by decide) (jmem 182 (by decide +kernel)) (Or.inl rfl) (by decide +kernel) rfl)) (jSN (jSl (jS_alen (by decide +kernel) rfl)) (jSl (jS_icmpge (off := 28) (by decide +kernel) (by decide) rfl)))) (jSN (jSN (jSl (jS_iloadn (q := 1) rfl (by decide +kernel) rfl)) (jSl (jS_aloadn (q := 0) rfl (by decide +kernel) rfl))) (jSN (jSl (jS_getf (ci := 7) (index := 30) (f := 1) (ref := "QuasiSums$Sum") jin7 rfl (by decide) (jmem 182 (by decide +kernel)) (Or.inl rfl) (by decide +kernel) rfl)) (jSl (jS_iloadn (q := 2) rfl (by decide +kernel) rfl)))))) (jSN (jSN (jSN (jSl (jS_lald (by decide +kernel) rfl)) (jSN (jSl (jS_lconst (n := 0) (v := 0) (by decide +kernel) (by decide +kernel) rfl)) (jSl (jS_lcmp (by decide +kernel) rfl)))) (jSN (jSl (jS_ifne (off := 7) (by decide +kernel) (by decide) rfl)) (jSN (jSl (jS_iconst (n := 0) (v := (nI 0)) (by decide +kernel) (by decide +kernel) rfl)) (jSl (jS_goto (off := 4) (by decide +kernel) (by decide)))))) (jSN (jSN (jSl (jS_iconst (n := 1) (v := (nI 1)) (by decide +kernel) (by decide +kernel) rfl)) (jSN (jSl (jS_iadd (by decide +kernel) rfl)) (jSl (jS_istoren (q := 1) rfl (by decide +kernel) rfl (by decide))))) (jSN (jSN (jSl (jS_iinc (n := 1) (v := (nI 1)) (by decide +kernel) (by decide +kernel) rfl (by decide))) (jSl (jS_goto (off := -31) (by decide +kernel) (by decide)))) (jSN (jSl (jS_iloadn (q := 1) rfl (by decide +kernel) rfl)) (jSl (jS_iret rfl (by decide +kernel))))))))
def jy_X8_plus : jY := (yX8_plus, cX8_plus, 5, some (.object "QuasiSums$Sum"), 5, 2, 34)
theorem jok_X8_plus : jYok jy_X8_plus 2 := ⟨(jmem 484 (by decide +kernel)), (jmem 61 (by decide +kernel)), ⟨by decide +kernel, by decide +kernel⟩, by decide +kernel⟩
def jp_X8_plus (Φ : jPost) : Nat → jI := (jN 19 (jN 8 (jN 4 (jN 1 (jlf 0 (ji_aload 0 1)) (jlf 1 (ji_vcall jy_X8_twin 0 7 2 34 4))) (jN 5 (jlf 4 (ji_astore 3 5)) (jN 6 (jlf 5 (ji_push (.int (nI 0)) 6)) (jlf 6 (ji_istore 4 8))))) (jN 14 (jN 10 (jlf 8 (ji_iload 4 10)) (jN 11 (jlf 10 (ji_aload 1 11)) (jlf 11 (ji_getf 7 1 14)))) (jN 15 (jlf 14 (ji_alen 15)) (jN 18 (jlf 15 (ji_icmpge 38 18)) (jlf 18 (ji_aload 3 19)))))) (jN 28 (jN 22 (jN 21 (jlf 19 (ji_iload 4 21)) (jlf 21 (ji_aload 1 22))) (jN 25 (jlf 22 (ji_getf 7 1 25)) (jN 27 (jlf 25 (ji_iload 4 27)) (jlf 27 (ji_lald 28))))) (jN 35 (jN 29 (jlf 28 (ji_aload 2 29)) (jN 32 (jlf 29 (ji_vcall jy_X8_comes 3 7 2 34 32)) (jlf 32 (ji_iinc 4 (nI 1) 35)))) (jN 38 (jlf 35 (ji_goto 8)) (jN 39 (jlf 38 (ji_aload 3 39)) (jlf 39 (ji_aret Φ 2 34)))))))
set_option maxRecDepth 20000 in
theorem js_X8_plus (Φ : jPost) : ∀ pc, jS jy_X8_plus Φ pc (jp_X8_plus Φ pc) := (jSN (jSN (jSN (jSN (jSl (jS_aloadn (q := 0) rfl (by decide +kernel) rfl)) (jSl (jS_vcall (index := 54) (Z := jy_X8_twin) (ci := 7) jok_X8_twin (jmem 337 (by decide +kernel)) (jmem 8 (by decide +kernel)) rfl (jmem 335 (by decide +kernel)) (by decide) (by decide) (by decide +kernel) rfl))) (jSN (jSl (jS_astoren (q := 3) rfl (by decide +kernel) rfl (by decide))) (jSN (jSl (jS_iconst (n := 0) (v := (nI 0)) (by decide +kernel) (by decide +kernel) rfl)) (jSl (jS_istore (by decide +kernel) rfl (by decide)))))) (jSN (jSN (jSl (jS_iload (by decide +kernel) rfl)) (jSN (jSl (jS_aloadn (q := 1) rfl (by decide +kernel) rfl)) (jSl (jS_getf (ci := 7) (index := 30) (f := 1) (ref := "QuasiSums$Sum") jin7 rfl (by decide) (jmem 182 (by decide +kernel)) (Or.inl rfl) (by decide +kernel) rfl)))) (jSN (jSl (jS_alen (by decide +kernel) rfl)) (jSN (jSl (jS_icmpge (off := 23) (by decide +kernel) (by decide) rfl)) (jSl (jS_aloadn (q := 3) rfl (by decide +kernel) rfl)))))) (jSN (jSN (jSN (jSl (jS_iload (by decide +kernel) rfl)) (jSl (jS_aloadn (q := 1) rfl (by decide +kernel) rfl))) (jSN (jSl (jS_getf (ci := 7) (index := 30) (f := 1) (ref := "QuasiSums$Sum") jin7 rfl (by decide) (jmem 182 (by decide +kernel)) (Or.inl rfl) (by decide +kernel) rfl)) (jSN (jSl (jS_iload (by decide +kernel) rfl)) (jSl (jS_lald (by decide +kernel) rfl))))) (jSN (jSN (jSl (jS_aloadn (q := 2) rfl (by decide +kernel) rfl)) (jSN (jSl (jS_vcall (index := 47) (Z := jy_X8_comes) (ci := 7) jok_X8_comes (jmem 383 (by decide +kernel)) (jmem 10 (by decide +kernel)) rfl (jmem 381 (by decide +kernel)) (by decide) (by decide) (by decide +kernel) rfl)) (jSl (jS_iinc (n := 1) (v := (nI 1)) (by decide +kernel) (by decide +kernel) rfl (by decide))))) (jSN (jSl (jS_goto (off := -27) (by decide +kernel) (by decide))) (jSN (jSl (jS_aloadn (q := 3) rfl (by decide +kernel) rfl)) (jSl (jS_aret rfl (Or.inl ⟨_, rfl⟩) (by decide +kernel))))))))
def jy_X8_shuffle (d : Nat) : jY := (yX8_shuffle, cX8_shuffle, 10, none, d + 2, 0, 0)
theorem jok_X8_shuffle (d : Nat) : jYok (jy_X8_shuffle d) 7 := ⟨(jmem 504 (show lw_tbl[504]? = some (Cond.code yX8_shuffle cX8_shuffle 10 (none)) from by decide +kernel)), (jmem 61 (show lw_tbl[61]? = some (Cond.initialized "QuasiSums$Sum") from by decide +kernel)), ⟨(show "QuasiSums$Sum" ≠ "java/lang/invoke/MethodHandle" from by decide +kernel), (show "QuasiSums$Sum" ≠ "java/lang/invoke/VarHandle" from by decide +kernel)⟩, (show (parseMethodDescriptor "(IIIIII[I)V").map (fun d => d.parameters.length) = some 7 from by decide +kernel)⟩
def jp_X8_shuffle (d : Nat) (Φ : jPost) : Nat → jI := (jN 84 (jN 44 (jN 24 (jN 12 (jN 7 (jN 2 (jlf 0 (ji_iload 5 2)) (jN 4 (jlf 2 (ji_push (.int (nI 6)) 4)) (jlf 4 (ji_icmpgt 18 7)))) (jN 9 (jlf 7 (ji_iload 4 9)) (jN 11 (jlf 9 (ji_aload 6 11)) (jlf 11 (ji_alen 12))))) (jN 19 (jN 15 (jlf 12 (ji_call jy_X11_within 2 0 0 15)) (jN 18 (jlf 15 (ji_ifne 19 18)) (jlf 18 (ji_ret Φ 0 0)))) (jN 20 (jlf 19 (ji_iload 1 20)) (jN 23 (jlf 20 (ji_ifgt 37 23)) (jlf 23 (ji_iload 3 24)))))) (jN 34 (jN 31 (jN 27 (jlf 24 (ji_ifgt 37 27)) (jN 29 (jlf 27 (ji_aload 6 29)) (jlf 29 (ji_iload 4 31)))) (jN 32 (jlf 31 (ji_dup2 32)) (jN 33 (jlf 32 (ji_iald 33)) (jlf 33 (ji_push (.int (nI 1)) 34))))) (jN 37 (jN 35 (jlf 34 (ji_iadd 35)) (jN 36 (jlf 35 (ji_iast 36)) (jlf 36 (ji_ret Φ 0 0)))) (jN 39 (jlf 37 (ji_iload 5 39)) (jN 42 (jlf 39 (ji_ifle 54 42)) (jlf 42 (ji_iload 4 44))))))) (jN 63 (jN 51 (jN 48 (jN 45 (jlf 44 (ji_push (.int (nI 1)) 45)) (jN 47 (jlf 45 (ji_iload 5 47)) (jlf 47 (ji_push (.int (nI 1)) 48)))) (jN 49 (jlf 48 (ji_isub 49)) (jN 50 (jlf 49 (ji_ishl 50)) (jlf 50 (ji_ior 51))))) (jN 58 (jN 54 (jlf 51 (ji_goto 56)) (jN 56 (jlf 54 (ji_iload 4 56)) (jlf 56 (ji_istore 7 58)))) (jN 59 (jlf 58 (ji_iload 1 59)) (jN 60 (jlf 59 (ji_iload 0 60)) (jlf 60 (ji_call jy_X0_firstNumber 2 0 0 63)))))) (jN 73 (jN 67 (jN 65 (jlf 63 (ji_istore 8 65)) (jN 66 (jlf 65 (ji_iload 3 66)) (jlf 66 (ji_iload 2 67)))) (jN 70 (jlf 67 (ji_call jy_X0_firstNumber 2 0 0 70)) (jN 72 (jlf 70 (ji_istore 9 72)) (jlf 72 (ji_iload 1 73))))) (jN 79 (jN 76 (jlf 73 (ji_ifle 98 76)) (jN 77 (jlf 76 (ji_iload 0 77)) (jlf 77 (ji_iload 8 79)))) (jN 81 (jN 80 (jlf 79 (ji_ishr 80)) (jlf 80 (ji_iload 1 81))) (jN 83 (jlf 81 (ji_iload 8 83)) (jlf 83 (ji_isub 84)))))))) (jN 124 (jN 104 (jN 93 (jN 88 (jN 85 (jlf 84 (ji_iload 2 85)) (jN 86 (jlf 85 (ji_iload 3 86)) (jlf 86 (ji_iload 7 88)))) (jN 90 (jlf 88 (ji_iload 5 90)) (jN 92 (jlf 90 (ji_iload 8 92)) (jlf 92 (ji_iadd 93))))) (jN 99 (jN 95 (jlf 93 (ji_aload 6 95)) (jN 98 (jlf 95 (ji_call (jy_X8_shuffle d) 7 0 0 98)) (jlf 98 (ji_iload 3 99)))) (jN 102 (jlf 99 (ji_ifle 124 102)) (jN 103 (jlf 102 (ji_iload 0 103)) (jlf 103 (ji_iload 1 104)))))) (jN 112 (jN 108 (jN 105 (jlf 104 (ji_iload 2 105)) (jN 107 (jlf 105 (ji_iload 9 107)) (jlf 107 (ji_ishr 108)))) (jN 109 (jlf 108 (ji_iload 3 109)) (jN 111 (jlf 109 (ji_iload 9 111)) (jlf 111 (ji_isub 112))))) (jN 118 (jN 114 (jlf 112 (ji_iload 7 114)) (jN 116 (jlf 114 (ji_iload 5 116)) (jlf 116 (ji_iload 9 118)))) (jN 119 (jlf 118 (ji_iadd 119)) (jN 121 (jlf 119 (ji_aload 6 121)) (jlf 121 (ji_call (jy_X8_shuffle d) 7 0 0 124))))))) (jN 143 (jN 135 (jN 129 (jN 125 (jlf 124 (ji_iload 1 125)) (jN 128 (jlf 125 (ji_ifle 163 128)) (jlf 128 (ji_iload 3 129)))) (jN 132 (jlf 129 (ji_ifle 163 132)) (jN 133 (jlf 132 (ji_iload 0 133)) (jlf 133 (ji_iload 8 135))))) (jN 139 (jN 136 (jlf 135 (ji_ishr 136)) (jN 137 (jlf 136 (ji_iload 1 137)) (jlf 137 (ji_iload 8 139)))) (jN 140 (jlf 139 (ji_isub 140)) (jN 141 (jlf 140 (ji_iload 2 141)) (jlf 141 (ji_iload 9 143)))))) (jN 152 (jN 147 (jN 144 (jlf 143 (ji_ishr 144)) (jN 145 (jlf 144 (ji_iload 3 145)) (jlf 145 (ji_iload 9 147)))) (jN 148 (jlf 147 (ji_isub 148)) (jN 150 (jlf 148 (ji_iload 7 150)) (jlf 150 (ji_iload 5 152))))) (jN 157 (jN 154 (jlf 152 (ji_iload 8 154)) (jN 155 (jlf 154 (ji_iadd 155)) (jlf 155 (ji_iload 9 157)))) (jN 160 (jN 158 (jlf 157 (ji_iadd 158)) (jlf 158 (ji_aload 6 160))) (jN 163 (jlf 160 (ji_call (jy_X8_shuffle d) 7 0 0 163)) (jlf 163 (ji_ret Φ 0 0)))))))))
set_option maxRecDepth 20000 in
theorem js_X8_shuffle (d : Nat) (Φ : jPost) : ∀ pc, jS (jy_X8_shuffle (d + 1)) Φ pc (jp_X8_shuffle d Φ pc) := (jSN (jSN (jSN (jSN (jSN (jSN (jSl (jS_iload (show decode cX8_shuffle 0 = .ok (.iload 5, 2) from by decide +kernel) rfl)) (jSN (jSl (jS_bipush (n := 6) (v := (nI 6)) (by decide +kernel) (show decode cX8_shuffle 2 = .ok (.bipush 6, 2) from by decide +kernel) rfl)) (jSl (jS_icmpgt (off := 14) (show decode cX8_shuffle 4 = .ok (.if_icmp .gt 14, 3) from by decide +kernel) (by decide) rfl)))) (jSN (jSl (jS_iload (show decode cX8_shuffle 7 = .ok (.iload 4, 2) from by decide +kernel) rfl)) (jSN (jSl (jS_aload (show decode cX8_shuffle 9 = .ok (.aload 6, 2) from by decide +kernel) rfl)) (jSl (jS_alen (show decode cX8_shuffle 11 = .ok (.arraylength, 1) from by decide +kernel) rfl))))) (jSN (jSN (jSl (jS_scallN (index := 34) (host := "QuasiSums") (Z := jy_X11_within) jok_X11_within (jmem 122 (show lw_tbl[122]? = some (Cond.static ⟨"QuasiSums", "within", "(II)Z"⟩) from by decide +kernel)) (jmem 341 (show lw_tbl[341]? = some (Cond.methodLinkNest "QuasiSums$Sum" 34 ⟨"QuasiSums", "within", "(II)Z"⟩ "QuasiSums") from by decide +kernel)) (show 1 + 1 ≤ d + 1 + 2 from by omega) (by decide) (show decode cX8_shuffle 12 = .ok (.invokestatic 34, 3) from by decide +kernel) rfl)) (jSN (jSl (jS_ifne (off := 4) (show decode cX8_shuffle 15 = .ok (.ifCond .ne 4, 3) from by decide +kernel) (by decide) rfl)) (jSl (jS_ret rfl (show decode cX8_shuffle 18 = .ok (.return_, 1) from by decide +kernel))))) (jSN (jSl (jS_iloadn (q := 1) rfl (show decode cX8_shuffle 19 = .ok (.iload_n 1, 1) from by decide +kernel) rfl)) (jSN (jSl (jS_ifgt (off := 17) (show decode cX8_shuffle 20 = .ok (.ifCond .gt 17, 3) from by decide +kernel) (by decide) rfl)) (jSl (jS_iloadn (q := 3) rfl (show decode cX8_shuffle 23 = .ok (.iload_n 3, 1) from by decide +kernel) rfl)))))) (jSN (jSN (jSN (jSl (jS_ifgt (off := 13) (show decode cX8_shuffle 24 = .ok (.ifCond .gt 13, 3) from by decide +kernel) (by decide) rfl)) (jSN (jSl (jS_aload (show decode cX8_shuffle 27 = .ok (.aload 6, 2) from by decide +kernel) rfl)) (jSl (jS_iload (show decode cX8_shuffle 29 = .ok (.iload 4, 2) from by decide +kernel) rfl)))) (jSN (jSl (jS_dup2 (show decode cX8_shuffle 31 = .ok (.dup2, 1) from by decide +kernel) rfl)) (jSN (jSl (jS_iald (show decode cX8_shuffle 32 = .ok (.iaload, 1) from by decide +kernel) rfl)) (jSl (jS_iconst (n := 1) (v := (nI 1)) (by decide +kernel) (show decode cX8_shuffle 33 = .ok (.iconst 1, 1) from by decide +kernel) rfl))))) (jSN (jSN (jSl (jS_iadd (show decode cX8_shuffle 34 = .ok (.iadd, 1) from by decide +kernel) rfl)) (jSN (jSl (jS_iast (show decode cX8_shuffle 35 = .ok (.iastore, 1) from by decide +kernel) rfl)) (jSl (jS_ret rfl (show decode cX8_shuffle 36 = .ok (.return_, 1) from by decide +kernel))))) (jSN (jSl (jS_iload (show decode cX8_shuffle 37 = .ok (.iload 5, 2) from by decide +kernel) rfl)) (jSN (jSl (jS_ifle (off := 15) (show decode cX8_shuffle 39 = .ok (.ifCond .le 15, 3) from by decide +kernel) (by decide) rfl)) (jSl (jS_iload (show decode cX8_shuffle 42 = .ok (.iload 4, 2) from by decide +kernel) rfl))))))) (jSN (jSN (jSN (jSN (jSl (jS_iconst (n := 1) (v := (nI 1)) (by decide +kernel) (show decode cX8_shuffle 44 = .ok (.iconst 1, 1) from by decide +kernel) rfl)) (jSN (jSl (jS_iload (show decode cX8_shuffle 45 = .ok (.iload 5, 2) from by decide +kernel) rfl)) (jSl (jS_iconst (n := 1) (v := (nI 1)) (by decide +kernel) (show decode cX8_shuffle 47 = .ok (.iconst 1, 1) from by decide +kernel) rfl)))) (jSN (jSl (jS_isub (show decode cX8_shuffle 48 = .ok (.isub, 1) from by decide +kernel) rfl)) (jSN (jSl (jS_ishl (show decode cX8_shuffle 49 = .ok (.ishl, 1) from by decide +kernel) rfl)) (jSl (jS_ior (show decode cX8_shuffle 50 = .ok (.ior, 1) from by decide +kernel) rfl))))) (jSN (jSN (jSl (jS_goto (off := 5) (show decode cX8_shuffle 51 = .ok (.goto 5, 3) from by decide +kernel) (by decide))) (jSN (jSl (jS_iload (show decode cX8_shuffle 54 = .ok (.iload 4, 2) from by decide +kernel) rfl)) (jSl (jS_istore (show decode cX8_shuffle 56 = .ok (.istore 7, 2) from by decide +kernel) rfl (show 7 < 10 from by decide))))) (jSN (jSl (jS_iloadn (q := 1) rfl (show decode cX8_shuffle 58 = .ok (.iload_n 1, 1) from by decide +kernel) rfl)) (jSN (jSl (jS_iloadn (q := 0) rfl (show decode cX8_shuffle 59 = .ok (.iload_n 0, 1) from by decide +kernel) rfl)) (jSl (jS_scall (index := 81) (Z := jy_X0_firstNumber) jok_X0_firstNumber (jmem 464 (show lw_tbl[464]? = some (Cond.static ⟨"QuasiSums$Bits", "firstNumber", "(II)I"⟩) from by decide +kernel)) (jmem 505 (show lw_tbl[505]? = some (Cond.methodLink "QuasiSums$Sum" 81 ⟨"QuasiSums$Bits", "firstNumber", "(II)I"⟩) from by decide +kernel)) (show 1 + 1 ≤ d + 1 + 2 from by omega) (by decide) (show decode cX8_shuffle 60 = .ok (.invokestatic 81, 3) from by decide +kernel) rfl)))))) (jSN (jSN (jSN (jSl (jS_istore (show decode cX8_shuffle 63 = .ok (.istore 8, 2) from by decide +kernel) rfl (show 8 < 10 from by decide))) (jSN (jSl (jS_iloadn (q := 3) rfl (show decode cX8_shuffle 65 = .ok (.iload_n 3, 1) from by decide +kernel) rfl)) (jSl (jS_iloadn (q := 2) rfl (show decode cX8_shuffle 66 = .ok (.iload_n 2, 1) from by decide +kernel) rfl)))) (jSN (jSl (jS_scall (index := 81) (Z := jy_X0_firstNumber) jok_X0_firstNumber (jmem 464 (show lw_tbl[464]? = some (Cond.static ⟨"QuasiSums$Bits", "firstNumber", "(II)I"⟩) from by decide +kernel)) (jmem 505 (show lw_tbl[505]? = some (Cond.methodLink "QuasiSums$Sum" 81 ⟨"QuasiSums$Bits", "firstNumber", "(II)I"⟩) from by decide +kernel)) (show 1 + 1 ≤ d + 1 + 2 from by omega) (by decide) (show decode cX8_shuffle 67 = .ok (.invokestatic 81, 3) from by decide +kernel) rfl)) (jSN (jSl (jS_istore (show decode cX8_shuffle 70 = .ok (.istore 9, 2) from by decide +kernel) rfl (show 9 < 10 from by decide))) (jSl (jS_iloadn (q := 1) rfl (show decode cX8_shuffle 72 = .ok (.iload_n 1, 1) from by decide +kernel) rfl))))) (jSN (jSN (jSl (jS_ifle (off := 25) (show decode cX8_shuffle 73 = .ok (.ifCond .le 25, 3) from by decide +kernel) (by decide) rfl)) (jSN (jSl (jS_iloadn (q := 0) rfl (show decode cX8_shuffle 76 = .ok (.iload_n 0, 1) from by decide +kernel) rfl)) (jSl (jS_iload (show decode cX8_shuffle 77 = .ok (.iload 8, 2) from by decide +kernel) rfl)))) (jSN (jSN (jSl (jS_ishr (show decode cX8_shuffle 79 = .ok (.ishr, 1) from by decide +kernel) rfl)) (jSl (jS_iloadn (q := 1) rfl (show decode cX8_shuffle 80 = .ok (.iload_n 1, 1) from by decide +kernel) rfl))) (jSN (jSl (jS_iload (show decode cX8_shuffle 81 = .ok (.iload 8, 2) from by decide +kernel) rfl)) (jSl (jS_isub (show decode cX8_shuffle 83 = .ok (.isub, 1) from by decide +kernel) rfl)))))))) (jSN (jSN (jSN (jSN (jSN (jSl (jS_iloadn (q := 2) rfl (show decode cX8_shuffle 84 = .ok (.iload_n 2, 1) from by decide +kernel) rfl)) (jSN (jSl (jS_iloadn (q := 3) rfl (show decode cX8_shuffle 85 = .ok (.iload_n 3, 1) from by decide +kernel) rfl)) (jSl (jS_iload (show decode cX8_shuffle 86 = .ok (.iload 7, 2) from by decide +kernel) rfl)))) (jSN (jSl (jS_iload (show decode cX8_shuffle 88 = .ok (.iload 5, 2) from by decide +kernel) rfl)) (jSN (jSl (jS_iload (show decode cX8_shuffle 90 = .ok (.iload 8, 2) from by decide +kernel) rfl)) (jSl (jS_iadd (show decode cX8_shuffle 92 = .ok (.iadd, 1) from by decide +kernel) rfl))))) (jSN (jSN (jSl (jS_aload (show decode cX8_shuffle 93 = .ok (.aload 6, 2) from by decide +kernel) rfl)) (jSN (jSl (jS_scall (index := 77) (Z := (jy_X8_shuffle d)) (jok_X8_shuffle _) (jmem 503 (show lw_tbl[503]? = some (Cond.static ⟨"QuasiSums$Sum", "shuffle", "(IIIIII[I)V"⟩) from by decide +kernel)) (jmem 502 (show lw_tbl[502]? = some (Cond.methodLink "QuasiSums$Sum" 77 ⟨"QuasiSums$Sum", "shuffle", "(IIIIII[I)V"⟩) from by decide +kernel)) (show d + 2 + 1 ≤ d + 1 + 2 from by omega) (show 10 ≤ 29 from by decide) (show decode cX8_shuffle 95 = .ok (.invokestatic 77, 3) from by decide +kernel) rfl)) (jSl (jS_iloadn (q := 3) rfl (show decode cX8_shuffle 98 = .ok (.iload_n 3, 1) from by decide +kernel) rfl)))) (jSN (jSl (jS_ifle (off := 25) (show decode cX8_shuffle 99 = .ok (.ifCond .le 25, 3) from by decide +kernel) (by decide) rfl)) (jSN (jSl (jS_iloadn (q := 0) rfl (show decode cX8_shuffle 102 = .ok (.iload_n 0, 1) from by decide +kernel) rfl)) (jSl (jS_iloadn (q := 1) rfl (show decode cX8_shuffle 103 = .ok (.iload_n 1, 1) from by decide +kernel) rfl)))))) (jSN (jSN (jSN (jSl (jS_iloadn (q := 2) rfl (show decode cX8_shuffle 104 = .ok (.iload_n 2, 1) from by decide +kernel) rfl)) (jSN (jSl (jS_iload (show decode cX8_shuffle 105 = .ok (.iload 9, 2) from by decide +kernel) rfl)) (jSl (jS_ishr (show decode cX8_shuffle 107 = .ok (.ishr, 1) from by decide +kernel) rfl)))) (jSN (jSl (jS_iloadn (q := 3) rfl (show decode cX8_shuffle 108 = .ok (.iload_n 3, 1) from by decide +kernel) rfl)) (jSN (jSl (jS_iload (show decode cX8_shuffle 109 = .ok (.iload 9, 2) from by decide +kernel) rfl)) (jSl (jS_isub (show decode cX8_shuffle 111 = .ok (.isub, 1) from by decide +kernel) rfl))))) (jSN (jSN (jSl (jS_iload (show decode cX8_shuffle 112 = .ok (.iload 7, 2) from by decide +kernel) rfl)) (jSN (jSl (jS_iload (show decode cX8_shuffle 114 = .ok (.iload 5, 2) from by decide +kernel) rfl)) (jSl (jS_iload (show decode cX8_shuffle 116 = .ok (.iload 9, 2) from by decide +kernel) rfl)))) (jSN (jSl (jS_iadd (show decode cX8_shuffle 118 = .ok (.iadd, 1) from by decide +kernel) rfl)) (jSN (jSl (jS_aload (show decode cX8_shuffle 119 = .ok (.aload 6, 2) from by decide +kernel) rfl)) (jSl (jS_scall (index := 77) (Z := (jy_X8_shuffle d)) (jok_X8_shuffle _) (jmem 503 (show lw_tbl[503]? = some (Cond.static ⟨"QuasiSums$Sum", "shuffle", "(IIIIII[I)V"⟩) from by decide +kernel)) (jmem 502 (show lw_tbl[502]? = some (Cond.methodLink "QuasiSums$Sum" 77 ⟨"QuasiSums$Sum", "shuffle", "(IIIIII[I)V"⟩) from by decide +kernel)) (show d + 2 + 1 ≤ d + 1 + 2 from by omega) (show 10 ≤ 29 from by decide) (show decode cX8_shuffle 121 = .ok (.invokestatic 77, 3) from by decide +kernel) rfl))))))) (jSN (jSN (jSN (jSN (jSl (jS_iloadn (q := 1) rfl (show decode cX8_shuffle 124 = .ok (.iload_n 1, 1) from by decide +kernel) rfl)) (jSN (jSl (jS_ifle (off := 38) (show decode cX8_shuffle 125 = .ok (.ifCond .le 38, 3) from by decide +kernel) (by decide) rfl)) (jSl (jS_iloadn (q := 3) rfl (show decode cX8_shuffle 128 = .ok (.iload_n 3, 1) from by decide +kernel) rfl)))) (jSN (jSl (jS_ifle (off := 34) (show decode cX8_shuffle 129 = .ok (.ifCond .le 34, 3) from by decide +kernel) (by decide) rfl)) (jSN (jSl (jS_iloadn (q := 0) rfl (show decode cX8_shuffle 132 = .ok (.iload_n 0, 1) from by decide +kernel) rfl)) (jSl (jS_iload (show decode cX8_shuffle 133 = .ok (.iload 8, 2) from by decide +kernel) rfl))))) (jSN (jSN (jSl (jS_ishr (show decode cX8_shuffle 135 = .ok (.ishr, 1) from by decide +kernel) rfl)) (jSN (jSl (jS_iloadn (q := 1) rfl (show decode cX8_shuffle 136 = .ok (.iload_n 1, 1) from by decide +kernel) rfl)) (jSl (jS_iload (show decode cX8_shuffle 137 = .ok (.iload 8, 2) from by decide +kernel) rfl)))) (jSN (jSl (jS_isub (show decode cX8_shuffle 139 = .ok (.isub, 1) from by decide +kernel) rfl)) (jSN (jSl (jS_iloadn (q := 2) rfl (show decode cX8_shuffle 140 = .ok (.iload_n 2, 1) from by decide +kernel) rfl)) (jSl (jS_iload (show decode cX8_shuffle 141 = .ok (.iload 9, 2) from by decide +kernel) rfl)))))) (jSN (jSN (jSN (jSl (jS_ishr (show decode cX8_shuffle 143 = .ok (.ishr, 1) from by decide +kernel) rfl)) (jSN (jSl (jS_iloadn (q := 3) rfl (show decode cX8_shuffle 144 = .ok (.iload_n 3, 1) from by decide +kernel) rfl)) (jSl (jS_iload (show decode cX8_shuffle 145 = .ok (.iload 9, 2) from by decide +kernel) rfl)))) (jSN (jSl (jS_isub (show decode cX8_shuffle 147 = .ok (.isub, 1) from by decide +kernel) rfl)) (jSN (jSl (jS_iload (show decode cX8_shuffle 148 = .ok (.iload 7, 2) from by decide +kernel) rfl)) (jSl (jS_iload (show decode cX8_shuffle 150 = .ok (.iload 5, 2) from by decide +kernel) rfl))))) (jSN (jSN (jSl (jS_iload (show decode cX8_shuffle 152 = .ok (.iload 8, 2) from by decide +kernel) rfl)) (jSN (jSl (jS_iadd (show decode cX8_shuffle 154 = .ok (.iadd, 1) from by decide +kernel) rfl)) (jSl (jS_iload (show decode cX8_shuffle 155 = .ok (.iload 9, 2) from by decide +kernel) rfl)))) (jSN (jSN (jSl (jS_iadd (show decode cX8_shuffle 157 = .ok (.iadd, 1) from by decide +kernel) rfl)) (jSl (jS_aload (show decode cX8_shuffle 158 = .ok (.aload 6, 2) from by decide +kernel) rfl))) (jSN (jSl (jS_scall (index := 77) (Z := (jy_X8_shuffle d)) (jok_X8_shuffle _) (jmem 503 (show lw_tbl[503]? = some (Cond.static ⟨"QuasiSums$Sum", "shuffle", "(IIIIII[I)V"⟩) from by decide +kernel)) (jmem 502 (show lw_tbl[502]? = some (Cond.methodLink "QuasiSums$Sum" 77 ⟨"QuasiSums$Sum", "shuffle", "(IIIIII[I)V"⟩) from by decide +kernel)) (show d + 2 + 1 ≤ d + 1 + 2 from by omega) (show 10 ≤ 29 from by decide) (show decode cX8_shuffle 160 = .ok (.invokestatic 77, 3) from by decide +kernel) rfl)) (jSl (jS_ret rfl (show decode cX8_shuffle 163 = .ok (.return_, 1) from by decide +kernel))))))))))
def jy_X8_times : jY := (yX8_times, cX8_times, 10, some (.object "QuasiSums$Sum"), 17, 3, 66)
theorem jok_X8_times : jYok jy_X8_times 2 := ⟨(jmem 492 (by decide +kernel)), (jmem 61 (by decide +kernel)), ⟨by decide +kernel, by decide +kernel⟩, by decide +kernel⟩
def jp_X8_times (Φ : jPost) : Nat → jI := (jN 72 (jN 36 (jN 18 (jN 9 (jN 4 (jN 3 (jlf 0 (ji_new 7 2 [.int (nI 0), .null] 3 66 3)) (jlf 3 (ji_dup 4))) (jN 5 (jlf 4 (ji_aload 0 5)) (jN 8 (jlf 5 (ji_getf 7 0 8)) (jlf 8 (ji_aload 1 9))))) (jN 13 (jN 12 (jlf 9 (ji_getf 7 0 12)) (jlf 12 (ji_iadd 13))) (jN 16 (jlf 13 (ji_icall jy_X8_init 1 3 66 16)) (jN 17 (jlf 16 (ji_astore 3 17)) (jlf 17 (ji_aload 3 18)))))) (jN 27 (jN 22 (jN 21 (jlf 18 (ji_getf 7 1 21)) (jlf 21 (ji_alen 22))) (jN 24 (jlf 22 (ji_newarr .int (.inl (fun _ => nI 0)) 3 66 24)) (jN 26 (jlf 24 (ji_astore 4 26)) (jlf 26 (ji_push (.int (nI 0)) 27))))) (jN 31 (jN 29 (jlf 27 (ji_istore 5 29)) (jlf 29 (ji_iload 5 31))) (jN 32 (jlf 31 (ji_aload 0 32)) (jN 35 (jlf 32 (ji_getf 7 1 35)) (jlf 35 (ji_alen 36))))))) (jN 54 (jN 45 (jN 40 (jN 39 (jlf 36 (ji_icmpge 152 39)) (jlf 39 (ji_push (.int (nI 0)) 40))) (jN 42 (jlf 40 (ji_istore 6 42)) (jN 44 (jlf 42 (ji_iload 6 44)) (jlf 44 (ji_aload 1 45))))) (jN 49 (jN 48 (jlf 45 (ji_getf 7 1 48)) (jlf 48 (ji_alen 49))) (jN 52 (jlf 49 (ji_icmpge 146 52)) (jN 53 (jlf 52 (ji_aload 2 53)) (jlf 53 (ji_aload 0 54)))))) (jN 64 (jN 59 (jN 57 (jlf 54 (ji_getf 7 1 57)) (jlf 57 (ji_iload 5 59))) (jN 60 (jlf 59 (ji_lald 60)) (jN 61 (jlf 60 (ji_aload 1 61)) (jlf 61 (ji_getf 7 1 64))))) (jN 67 (jN 66 (jlf 64 (ji_iload 6 66)) (jlf 66 (ji_lald 67))) (jN 69 (jlf 67 (ji_push (.int (nI 100)) 69)) (jN 71 (jlf 69 (ji_iload 5 71)) (jlf 71 (ji_iadd 72)))))))) (jN 110 (jN 92 (jN 83 (jN 77 (jN 75 (jlf 72 (ji_vcall jy_X3_times 3 2 3 66 75)) (jlf 75 (ji_lstore 7 77))) (jN 79 (jlf 77 (ji_aload 4 79)) (jN 80 (jlf 79 (ji_push (.int (nI 0)) 80)) (jlf 80 (ji_call jy_J7_fill_53178 2 3 66 83))))) (jN 86 (jN 85 (jlf 83 (ji_iload 5 85)) (jlf 85 (ji_aload 0 86))) (jN 89 (jlf 86 (ji_getf 7 0 89)) (jN 91 (jlf 89 (ji_iload 6 91)) (jlf 91 (ji_aload 1 92)))))) (jN 102 (jN 96 (jN 95 (jlf 92 (ji_getf 7 0 95)) (jlf 95 (ji_push (.int (nI 0)) 96))) (jN 97 (jlf 96 (ji_push (.int (nI 0)) 97)) (jN 99 (jlf 97 (ji_aload 4 99)) (jlf 99 (ji_call (jy_X8_shuffle 14) 7 3 66 102))))) (jN 105 (jN 103 (jlf 102 (ji_push (.int (nI 0)) 103)) (jlf 103 (ji_istore 9 105))) (jN 107 (jlf 105 (ji_iload 9 107)) (jN 109 (jlf 107 (ji_aload 4 109)) (jlf 109 (ji_alen 110))))))) (jN 127 (jN 119 (jN 114 (jN 113 (jlf 110 (ji_icmpge 140 113)) (jlf 113 (ji_aload 3 114))) (jN 116 (jlf 114 (ji_iload 9 116)) (jN 117 (jlf 116 (ji_aload 2 117)) (jlf 117 (ji_lload 7 119))))) (jN 123 (jN 121 (jlf 119 (ji_aload 4 121)) (jlf 121 (ji_iload 9 123))) (jN 124 (jlf 123 (ji_iald 124)) (jN 125 (jlf 124 (ji_i2l 125)) (jlf 125 (ji_iload 9 127)))))) (jN 140 (jN 131 (jN 130 (jlf 127 (ji_vcall jy_X3_times 3 2 3 66 130)) (jlf 130 (ji_aload 2 131))) (jN 134 (jlf 131 (ji_vcall jy_X8_comes 3 7 3 66 134)) (jN 137 (jlf 134 (ji_iinc 9 (nI 1) 137)) (jlf 137 (ji_goto 105))))) (jN 149 (jN 143 (jlf 140 (ji_iinc 6 (nI 1) 143)) (jN 146 (jlf 143 (ji_goto 42)) (jlf 146 (ji_iinc 5 (nI 1) 149)))) (jN 152 (jlf 149 (ji_goto 29)) (jN 153 (jlf 152 (ji_aload 3 153)) (jlf 153 (ji_aret Φ 3 66)))))))))
set_option maxRecDepth 20000 in
theorem js_X8_times (Φ : jPost) : ∀ pc, jS jy_X8_times Φ pc (jp_X8_times Φ pc) := (jSN (jSN (jSN (jSN (jSN (jSN (jSl (jS_new (index := 19) (ci := 7) jin7 rfl tyX8_ok jdf7 (fun _ => rfl) (jmem 339 (by decide +kernel)) (jmem 167 (by decide +kernel)) (jmem 61 (by decide +kernel)) (by decide +kernel) rfl)) (jSl (jS_dup (by decide +kernel) rfl))) (jSN (jSl (jS_aloadn (q := 0) rfl (by decide +kernel) rfl)) (jSN (jSl (jS_getf (ci := 7) (index := 18) (f := 0) (ref := "QuasiSums$Sum") jin7 rfl (by decide) (jmem 180 (by decide +kernel)) (Or.inl rfl) (by decide +kernel) rfl)) (jSl (jS_aloadn (q := 1) rfl (by decide +kernel) rfl))))) (jSN (jSN (jSl (jS_getf (ci := 7) (index := 18) (f := 0) (ref := "QuasiSums$Sum") jin7 rfl (by decide) (jmem 180 (by decide +kernel)) (Or.inl rfl) (by decide +kernel) rfl)) (jSl (jS_iadd (by decide +kernel) rfl))) (jSN (jSl (jS_icall (index := 51) (Z := jy_X8_init) rfl jok_X8_init (jmem 169 (by decide +kernel)) rfl (jmem 340 (by decide +kernel)) (by decide) (by decide) (by decide +kernel) rfl)) (jSN (jSl (jS_astoren (q := 3) rfl (by decide +kernel) rfl (by decide))) (jSl (jS_aloadn (q := 3) rfl (by decide +kernel) rfl)))))) (jSN (jSN (jSN (jSl (jS_getf (ci := 7) (index := 30) (f := 1) (ref := "QuasiSums$Sum") jin7 rfl (by decide) (jmem 182 (by decide +kernel)) (Or.inl rfl) (by decide +kernel) rfl)) (jSl (jS_alen (by decide +kernel) rfl))) (jSN (jSl (jS_newarr (at_ := .int) rfl (by decide) jz_int (by decide) (fun _ _ => rfl) (jmem 135 (by decide +kernel)) (by decide +kernel) rfl)) (jSN (jSl (jS_astore (by decide +kernel) rfl (by decide))) (jSl (jS_iconst (n := 0) (v := (nI 0)) (by decide +kernel) (by decide +kernel) rfl))))) (jSN (jSN (jSl (jS_istore (by decide +kernel) rfl (by decide))) (jSl (jS_iload (by decide +kernel) rfl))) (jSN (jSl (jS_aloadn (q := 0) rfl (by decide +kernel) rfl)) (jSN (jSl (jS_getf (ci := 7) (index := 30) (f := 1) (ref := "QuasiSums$Sum") jin7 rfl (by decide) (jmem 182 (by decide +kernel)) (Or.inl rfl) (by decide +kernel) rfl)) (jSl (jS_alen (by decide +kernel) rfl))))))) (jSN (jSN (jSN (jSN (jSl (jS_icmpge (off := 116) (by decide +kernel) (by decide) rfl)) (jSl (jS_iconst (n := 0) (v := (nI 0)) (by decide +kernel) (by decide +kernel) rfl))) (jSN (jSl (jS_istore (by decide +kernel) rfl (by decide))) (jSN (jSl (jS_iload (by decide +kernel) rfl)) (jSl (jS_aloadn (q := 1) rfl (by decide +kernel) rfl))))) (jSN (jSN (jSl (jS_getf (ci := 7) (index := 30) (f := 1) (ref := "QuasiSums$Sum") jin7 rfl (by decide) (jmem 182 (by decide +kernel)) (Or.inl rfl) (by decide +kernel) rfl)) (jSl (jS_alen (by decide +kernel) rfl))) (jSN (jSl (jS_icmpge (off := 97) (by decide +kernel) (by decide) rfl)) (jSN (jSl (jS_aloadn (q := 2) rfl (by decide +kernel) rfl)) (jSl (jS_aloadn (q := 0) rfl (by decide +kernel) rfl)))))) (jSN (jSN (jSN (jSl (jS_getf (ci := 7) (index := 30) (f := 1) (ref := "QuasiSums$Sum") jin7 rfl (by decide) (jmem 182 (by decide +kernel)) (Or.inl rfl) (by decide +kernel) rfl)) (jSl (jS_iload (by decide +kernel) rfl))) (jSN (jSl (jS_lald (by decide +kernel) rfl)) (jSN (jSl (jS_aloadn (q := 1) rfl (by decide +kernel) rfl)) (jSl (jS_getf (ci := 7) (index := 30) (f := 1) (ref := "QuasiSums$Sum") jin7 rfl (by decide) (jmem 182 (by decide +kernel)) (Or.inl rfl) (by decide +kernel) rfl))))) (jSN (jSN (jSl (jS_iload (by decide +kernel) rfl)) (jSl (jS_lald (by decide +kernel) rfl))) (jSN (jSl (jS_bipush (n := 100) (v := (nI 100)) (by decide +kernel) (by decide +kernel) rfl)) (jSN (jSl (jS_iload (by decide +kernel) rfl)) (jSl (jS_iadd (by decide +kernel) rfl)))))))) (jSN (jSN (jSN (jSN (jSN (jSl (jS_vcall (index := 68) (Z := jy_X3_times) (ci := 2) jok_X3_times (jmem 494 (by decide +kernel)) (jmem 495 (by decide +kernel)) rfl (jmem 493 (by decide +kernel)) (by decide) (by decide) (by decide +kernel) rfl)) (jSl (jS_lstore (by decide +kernel) rfl (by decide)))) (jSN (jSl (jS_aload (by decide +kernel) rfl)) (jSN (jSl (jS_iconst (n := 0) (v := (nI 0)) (by decide +kernel) (by decide +kernel) rfl)) (jSl (jS_scall (index := 71) (Z := jy_J7_fill_53178) jok_J7_fill_53178 (jmem 500 (by decide +kernel)) (jmem 499 (by decide +kernel)) (by decide) (by decide) (by decide +kernel) rfl))))) (jSN (jSN (jSl (jS_iload (by decide +kernel) rfl)) (jSl (jS_aloadn (q := 0) rfl (by decide +kernel) rfl))) (jSN (jSl (jS_getf (ci := 7) (index := 18) (f := 0) (ref := "QuasiSums$Sum") jin7 rfl (by decide) (jmem 180 (by decide +kernel)) (Or.inl rfl) (by decide +kernel) rfl)) (jSN (jSl (jS_iload (by decide +kernel) rfl)) (jSl (jS_aloadn (q := 1) rfl (by decide +kernel) rfl)))))) (jSN (jSN (jSN (jSl (jS_getf (ci := 7) (index := 18) (f := 0) (ref := "QuasiSums$Sum") jin7 rfl (by decide) (jmem 180 (by decide +kernel)) (Or.inl rfl) (by decide +kernel) rfl)) (jSl (jS_iconst (n := 0) (v := (nI 0)) (by decide +kernel) (by decide +kernel) rfl))) (jSN (jSl (jS_iconst (n := 0) (v := (nI 0)) (by decide +kernel) (by decide +kernel) rfl)) (jSN (jSl (jS_aload (by decide +kernel) rfl)) (jSl (jS_scall (index := 77) (Z := (jy_X8_shuffle 14)) (jok_X8_shuffle _) (jmem 503 (by decide +kernel)) (jmem 502 (by decide +kernel)) (show 14 + 2 + 1 ≤ 17 from by decide) (show 10 ≤ 29 from by decide) (by decide +kernel) rfl))))) (jSN (jSN (jSl (jS_iconst (n := 0) (v := (nI 0)) (by decide +kernel) (by decide +kernel) rfl)) (jSl (jS_istore (by decide +kernel) rfl (by decide)))) (jSN (jSl (jS_iload (by decide +kernel) rfl)) (jSN (jSl (jS_aload (by decide +kernel) rfl)) (jSl (jS_alen (by decide +kernel) rfl))))))) (jSN (jSN (jSN (jSN (jSl (jS_icmpge (off := 30) (by decide +kernel) (by decide) rfl)) (jSl (jS_aloadn (q := 3) rfl (by decide +kernel) rfl))) (jSN (jSl (jS_iload (by decide +kernel) rfl)) (jSN (jSl (jS_aloadn (q := 2) rfl (by decide +kernel) rfl)) (jSl (jS_lload (by decide +kernel) rfl))))) (jSN (jSN (jSl (jS_aload (by decide +kernel) rfl)) (jSl (jS_iload (by decide +kernel) rfl))) (jSN (jSl (jS_iald (by decide +kernel) rfl)) (jSN (jSl (jS_i2l (by decide +kernel) rfl)) (jSl (jS_iload (by decide +kernel) rfl)))))) (jSN (jSN (jSN (jSl (jS_vcall (index := 68) (Z := jy_X3_times) (ci := 2) jok_X3_times (jmem 494 (by decide +kernel)) (jmem 495 (by decide +kernel)) rfl (jmem 493 (by decide +kernel)) (by decide) (by decide) (by decide +kernel) rfl)) (jSl (jS_aloadn (q := 2) rfl (by decide +kernel) rfl))) (jSN (jSl (jS_vcall (index := 47) (Z := jy_X8_comes) (ci := 7) jok_X8_comes (jmem 383 (by decide +kernel)) (jmem 10 (by decide +kernel)) rfl (jmem 381 (by decide +kernel)) (by decide) (by decide) (by decide +kernel) rfl)) (jSN (jSl (jS_iinc (n := 1) (v := (nI 1)) (by decide +kernel) (by decide +kernel) rfl (by decide))) (jSl (jS_goto (off := -32) (by decide +kernel) (by decide)))))) (jSN (jSN (jSl (jS_iinc (n := 1) (v := (nI 1)) (by decide +kernel) (by decide +kernel) rfl (by decide))) (jSN (jSl (jS_goto (off := -101) (by decide +kernel) (by decide))) (jSl (jS_iinc (n := 1) (v := (nI 1)) (by decide +kernel) (by decide +kernel) rfl (by decide))))) (jSN (jSl (jS_goto (off := -120) (by decide +kernel) (by decide))) (jSN (jSl (jS_aloadn (q := 3) rfl (by decide +kernel) rfl)) (jSl (jS_aret rfl (Or.inl ⟨_, rfl⟩) (by decide +kernel))))))))))
def jy_X8_antipodal : jY := (yX8_antipodal, cX8_antipodal, 9, some (.object "QuasiSums$Sum"), 4, 2, 34)
theorem jok_X8_antipodal : jYok jy_X8_antipodal 1 := ⟨(jmem 513 (by decide +kernel)), (jmem 61 (by decide +kernel)), ⟨by decide +kernel, by decide +kernel⟩, by decide +kernel⟩
def jp_X8_antipodal (Φ : jPost) : Nat → jI := (jN 59 (jN 28 (jN 14 (jN 8 (jN 4 (jN 3 (jlf 0 (ji_new 7 2 [.int (nI 0), .null] 2 34 3)) (jlf 3 (ji_dup 4))) (jN 5 (jlf 4 (ji_aload 0 5)) (jlf 5 (ji_getf 7 0 8)))) (jN 12 (jN 11 (jlf 8 (ji_icall jy_X8_init 1 2 34 11)) (jlf 11 (ji_astore 2 12))) (jN 13 (jlf 12 (ji_push (.int (nI 0)) 13)) (jlf 13 (ji_istore 3 14))))) (jN 20 (jN 16 (jN 15 (jlf 14 (ji_iload 3 15)) (jlf 15 (ji_aload 0 16))) (jN 19 (jlf 16 (ji_getf 7 1 19)) (jlf 19 (ji_alen 20)))) (jN 24 (jN 23 (jlf 20 (ji_icmpge 124 23)) (jlf 23 (ji_aload 0 24))) (jN 27 (jlf 24 (ji_getf 7 0 27)) (jlf 27 (ji_iload 3 28)))))) (jN 43 (jN 36 (jN 32 (jN 31 (jlf 28 (ji_call jy_X0_lengthOf 2 2 34 31)) (jlf 31 (ji_push (.int (nI 2)) 32))) (jN 33 (jlf 32 (ji_irem 33)) (jlf 33 (ji_ifeq 40 36)))) (jN 40 (jN 37 (jlf 36 (ji_push (.int (nI 1)) 37)) (jlf 37 (ji_goto 41))) (jN 41 (jlf 40 (ji_push (.int (nI 0)) 41)) (jlf 41 (ji_istore 4 43))))) (jN 50 (jN 48 (jN 45 (jlf 43 (ji_iload 4 45)) (jlf 45 (ji_ifeq 62 48))) (jN 49 (jlf 48 (ji_aload 1 49)) (jlf 49 (ji_aload 0 50)))) (jN 54 (jN 53 (jlf 50 (ji_getf 7 1 53)) (jlf 53 (ji_iload 3 54))) (jN 55 (jlf 54 (ji_lald 55)) (jN 56 (jlf 55 (ji_iload 3 56)) (jlf 56 (ji_vcall jy_X3_otherSign 2 2 2 34 59)))))))) (jN 89 (jN 74 (jN 67 (jN 63 (jN 62 (jlf 59 (ji_goto 68)) (jlf 62 (ji_aload 0 63))) (jN 66 (jlf 63 (ji_getf 7 1 66)) (jlf 66 (ji_iload 3 67)))) (jN 70 (jN 68 (jlf 67 (ji_lald 68)) (jlf 68 (ji_lstore 5 70))) (jN 71 (jlf 70 (ji_aload 0 71)) (jlf 71 (ji_getf 7 0 74))))) (jN 81 (jN 78 (jN 75 (jlf 74 (ji_iload 3 75)) (jlf 75 (ji_call jy_X0_turned 2 2 34 78))) (jN 80 (jlf 78 (ji_istore 7 80)) (jlf 80 (ji_push (.int (nI 0)) 81)))) (jN 85 (jN 83 (jlf 81 (ji_istore 8 83)) (jlf 83 (ji_iload 8 85))) (jN 86 (jlf 85 (ji_aload 0 86)) (jlf 86 (ji_getf 7 1 89)))))) (jN 106 (jN 97 (jN 93 (jN 90 (jlf 89 (ji_alen 90)) (jlf 90 (ji_icmpge 118 93))) (jN 95 (jlf 93 (ji_iload 7 95)) (jlf 95 (ji_iload 8 97)))) (jN 103 (jN 100 (jlf 97 (ji_call jy_X0_isFiner 2 2 34 100)) (jlf 100 (ji_ifeq 112 103))) (jN 104 (jlf 103 (ji_aload 2 104)) (jlf 104 (ji_iload 8 106))))) (jN 115 (jN 109 (jN 108 (jlf 106 (ji_lload 5 108)) (jlf 108 (ji_aload 1 109))) (jN 112 (jlf 109 (ji_vcall jy_X8_comes 3 7 2 34 112)) (jlf 112 (ji_iinc 8 (nI 1) 115)))) (jN 121 (jN 118 (jlf 115 (ji_goto 83)) (jlf 118 (ji_iinc 3 (nI 1) 121))) (jN 124 (jlf 121 (ji_goto 14)) (jN 125 (jlf 124 (ji_aload 2 125)) (jlf 125 (ji_aret Φ 2 34)))))))))
set_option maxRecDepth 20000 in
theorem js_X8_antipodal (Φ : jPost) : ∀ pc, jS jy_X8_antipodal Φ pc (jp_X8_antipodal Φ pc) := (jSN (jSN (jSN (jSN (jSN (jSN (jSl (jS_new (index := 19) (ci := 7) jin7 rfl tyX8_ok jdf7 (fun _ => rfl) (jmem 339 (by decide +kernel)) (jmem 167 (by decide +kernel)) (jmem 61 (by decide +kernel)) (by decide +kernel) rfl)) (jSl (jS_dup (by decide +kernel) rfl))) (jSN (jSl (jS_aloadn (q := 0) rfl (by decide +kernel) rfl)) (jSl (jS_getf (ci := 7) (index := 18) (f := 0) (ref := "QuasiSums$Sum") jin7 rfl (by decide) (jmem 180 (by decide +kernel)) (Or.inl rfl) (by decide +kernel) rfl)))) (jSN (jSN (jSl (jS_icall (index := 51) (Z := jy_X8_init) rfl jok_X8_init (jmem 169 (by decide +kernel)) rfl (jmem 340 (by decide +kernel)) (by decide) (by decide) (by decide +kernel) rfl)) (jSl (jS_astoren (q := 2) rfl (by decide +kernel) rfl (by decide)))) (jSN (jSl (jS_iconst (n := 0) (v := (nI 0)) (by decide +kernel) (by decide +kernel) rfl)) (jSl (jS_istoren (q := 3) rfl (by decide +kernel) rfl (by decide)))))) (jSN (jSN (jSN (jSl (jS_iloadn (q := 3) rfl (by decide +kernel) rfl)) (jSl (jS_aloadn (q := 0) rfl (by decide +kernel) rfl))) (jSN (jSl (jS_getf (ci := 7) (index := 30) (f := 1) (ref := "QuasiSums$Sum") jin7 rfl (by decide) (jmem 182 (by decide +kernel)) (Or.inl rfl) (by decide +kernel) rfl)) (jSl (jS_alen (by decide +kernel) rfl)))) (jSN (jSN (jSl (jS_icmpge (off := 104) (by decide +kernel) (by decide) rfl)) (jSl (jS_aloadn (q := 0) rfl (by decide +kernel) rfl))) (jSN (jSl (jS_getf (ci := 7) (index := 18) (f := 0) (ref := "QuasiSums$Sum") jin7 rfl (by decide) (jmem 180 (by decide +kernel)) (Or.inl rfl) (by decide +kernel) rfl)) (jSl (jS_iloadn (q := 3) rfl (by decide +kernel) rfl)))))) (jSN (jSN (jSN (jSN (jSl (jS_scall (index := 61) (Z := jy_X0_lengthOf) jok_X0_lengthOf (jmem 429 (by decide +kernel)) (jmem 428 (by decide +kernel)) (by decide) (by decide) (by decide +kernel) rfl)) (jSl (jS_iconst (n := 2) (v := (nI 2)) (by decide +kernel) (by decide +kernel) rfl))) (jSN (jSl (jS_irem (by decide +kernel) rfl)) (jSl (jS_ifeq (off := 7) (by decide +kernel) (by decide) rfl)))) (jSN (jSN (jSl (jS_iconst (n := 1) (v := (nI 1)) (by decide +kernel) (by decide +kernel) rfl)) (jSl (jS_goto (off := 4) (by decide +kernel) (by decide)))) (jSN (jSl (jS_iconst (n := 0) (v := (nI 0)) (by decide +kernel) (by decide +kernel) rfl)) (jSl (jS_istore (by decide +kernel) rfl (by decide)))))) (jSN (jSN (jSN (jSl (jS_iload (by decide +kernel) rfl)) (jSl (jS_ifeq (off := 17) (by decide +kernel) (by decide) rfl))) (jSN (jSl (jS_aloadn (q := 1) rfl (by decide +kernel) rfl)) (jSl (jS_aloadn (q := 0) rfl (by decide +kernel) rfl)))) (jSN (jSN (jSl (jS_getf (ci := 7) (index := 30) (f := 1) (ref := "QuasiSums$Sum") jin7 rfl (by decide) (jmem 182 (by decide +kernel)) (Or.inl rfl) (by decide +kernel) rfl)) (jSl (jS_iloadn (q := 3) rfl (by decide +kernel) rfl))) (jSN (jSl (jS_lald (by decide +kernel) rfl)) (jSN (jSl (jS_iloadn (q := 3) rfl (by decide +kernel) rfl)) (jSl (jS_vcall (index := 64) (Z := jy_X3_otherSign) (ci := 2) jok_X3_otherSign (jmem 438 (by decide +kernel)) (jmem 439 (by decide +kernel)) rfl (jmem 437 (by decide +kernel)) (by decide) (by decide) (by decide +kernel) rfl)))))))) (jSN (jSN (jSN (jSN (jSN (jSl (jS_goto (off := 9) (by decide +kernel) (by decide))) (jSl (jS_aloadn (q := 0) rfl (by decide +kernel) rfl))) (jSN (jSl (jS_getf (ci := 7) (index := 30) (f := 1) (ref := "QuasiSums$Sum") jin7 rfl (by decide) (jmem 182 (by decide +kernel)) (Or.inl rfl) (by decide +kernel) rfl)) (jSl (jS_iloadn (q := 3) rfl (by decide +kernel) rfl)))) (jSN (jSN (jSl (jS_lald (by decide +kernel) rfl)) (jSl (jS_lstore (by decide +kernel) rfl (by decide)))) (jSN (jSl (jS_aloadn (q := 0) rfl (by decide +kernel) rfl)) (jSl (jS_getf (ci := 7) (index := 18) (f := 0) (ref := "QuasiSums$Sum") jin7 rfl (by decide) (jmem 180 (by decide +kernel)) (Or.inl rfl) (by decide +kernel) rfl))))) (jSN (jSN (jSN (jSl (jS_iloadn (q := 3) rfl (by decide +kernel) rfl)) (jSl (jS_scall (index := 84) (Z := jy_X0_turned) jok_X0_turned (jmem 467 (by decide +kernel)) (jmem 514 (by decide +kernel)) (by decide) (by decide) (by decide +kernel) rfl))) (jSN (jSl (jS_istore (by decide +kernel) rfl (by decide))) (jSl (jS_iconst (n := 0) (v := (nI 0)) (by decide +kernel) (by decide +kernel) rfl)))) (jSN (jSN (jSl (jS_istore (by decide +kernel) rfl (by decide))) (jSl (jS_iload (by decide +kernel) rfl))) (jSN (jSl (jS_aloadn (q := 0) rfl (by decide +kernel) rfl)) (jSl (jS_getf (ci := 7) (index := 30) (f := 1) (ref := "QuasiSums$Sum") jin7 rfl (by decide) (jmem 182 (by decide +kernel)) (Or.inl rfl) (by decide +kernel) rfl)))))) (jSN (jSN (jSN (jSN (jSl (jS_alen (by decide +kernel) rfl)) (jSl (jS_icmpge (off := 28) (by decide +kernel) (by decide) rfl))) (jSN (jSl (jS_iload (by decide +kernel) rfl)) (jSl (jS_iload (by decide +kernel) rfl)))) (jSN (jSN (jSl (jS_scall (index := 44) (Z := jy_X0_isFiner) jok_X0_isFiner (jmem 379 (by decide +kernel)) (jmem 378 (by decide +kernel)) (by decide) (by decide) (by decide +kernel) rfl)) (jSl (jS_ifeq (off := 12) (by decide +kernel) (by decide) rfl))) (jSN (jSl (jS_aloadn (q := 2) rfl (by decide +kernel) rfl)) (jSl (jS_iload (by decide +kernel) rfl))))) (jSN (jSN (jSN (jSl (jS_lload (by decide +kernel) rfl)) (jSl (jS_aloadn (q := 1) rfl (by decide +kernel) rfl))) (jSN (jSl (jS_vcall (index := 47) (Z := jy_X8_comes) (ci := 7) jok_X8_comes (jmem 383 (by decide +kernel)) (jmem 10 (by decide +kernel)) rfl (jmem 381 (by decide +kernel)) (by decide) (by decide) (by decide +kernel) rfl)) (jSl (jS_iinc (n := 1) (v := (nI 1)) (by decide +kernel) (by decide +kernel) rfl (by decide))))) (jSN (jSN (jSl (jS_goto (off := -32) (by decide +kernel) (by decide))) (jSl (jS_iinc (n := 1) (v := (nI 1)) (by decide +kernel) (by decide +kernel) rfl (by decide)))) (jSN (jSl (jS_goto (off := -107) (by decide +kernel) (by decide))) (jSN (jSl (jS_aloadn (q := 2) rfl (by decide +kernel) rfl)) (jSl (jS_aret rfl (Or.inl ⟨_, rfl⟩) (by decide +kernel))))))))))
def jy_X8_countsWith : jY := (yX8_countsWith, cX8_countsWith, 8, some .long, 4, 0, 0)
theorem jok_X8_countsWith : jYok jy_X8_countsWith 2 := ⟨(jmem 529 (by decide +kernel)), (jmem 61 (by decide +kernel)), ⟨by decide +kernel, by decide +kernel⟩, by decide +kernel⟩
def jp_X8_countsWith (Φ : jPost) : Nat → jI := (jN 30 (jN 12 (jN 5 (jN 2 (jN 1 (jlf 0 (ji_push (.long 0) 1)) (jlf 1 (ji_lstore 3 2))) (jN 3 (jlf 2 (ji_push (.int (nI 0)) 3)) (jlf 3 (ji_istore 5 5)))) (jN 8 (jN 7 (jlf 5 (ji_iload 5 7)) (jlf 7 (ji_aload 0 8))) (jN 11 (jlf 8 (ji_getf 7 1 11)) (jlf 11 (ji_alen 12))))) (jN 21 (jN 16 (jN 15 (jlf 12 (ji_icmpge 59 15)) (jlf 15 (ji_aload 0 16))) (jN 19 (jlf 16 (ji_getf 7 0 19)) (jlf 19 (ji_iload 5 21)))) (jN 25 (jN 24 (jlf 21 (ji_call jy_X0_lengthOf 2 0 0 24)) (jlf 24 (ji_iload 1 25))) (jN 28 (jlf 25 (ji_call jy_X0_waysToPick 2 0 0 28)) (jlf 28 (ji_lstore 6 30)))))) (jN 42 (jN 34 (jN 32 (jN 31 (jlf 30 (ji_aload 2 31)) (jlf 31 (ji_lload 3 32))) (jN 33 (jlf 32 (ji_aload 2 33)) (jlf 33 (ji_aload 0 34)))) (jN 39 (jN 37 (jlf 34 (ji_getf 7 1 37)) (jlf 37 (ji_iload 5 39))) (jN 40 (jlf 39 (ji_lald 40)) (jlf 40 (ji_lload 6 42))))) (jN 52 (jN 47 (jN 44 (jlf 42 (ji_iload 5 44)) (jlf 44 (ji_vcall jy_X3_times 3 2 0 0 47))) (jN 49 (jlf 47 (ji_iload 5 49)) (jlf 49 (ji_vcall jy_X3_plus 3 2 0 0 52)))) (jN 56 (jN 53 (jlf 52 (ji_lstore 3 53)) (jlf 53 (ji_iinc 5 (nI 1) 56))) (jN 59 (jlf 56 (ji_goto 5)) (jN 60 (jlf 59 (ji_lload 3 60)) (jlf 60 (ji_lret Φ 0 0))))))))
set_option maxRecDepth 20000 in
theorem js_X8_countsWith (Φ : jPost) : ∀ pc, jS jy_X8_countsWith Φ pc (jp_X8_countsWith Φ pc) := (jSN (jSN (jSN (jSN (jSN (jSl (jS_lconst (n := 0) (v := 0) (by decide +kernel) (by decide +kernel) rfl)) (jSl (jS_lstoren (q := 3) rfl (by decide +kernel) rfl (by decide)))) (jSN (jSl (jS_iconst (n := 0) (v := (nI 0)) (by decide +kernel) (by decide +kernel) rfl)) (jSl (jS_istore (by decide +kernel) rfl (by decide))))) (jSN (jSN (jSl (jS_iload (by decide +kernel) rfl)) (jSl (jS_aloadn (q := 0) rfl (by decide +kernel) rfl))) (jSN (jSl (jS_getf (ci := 7) (index := 30) (f := 1) (ref := "QuasiSums$Sum") jin7 rfl (by decide) (jmem 182 (by decide +kernel)) (Or.inl rfl) (by decide +kernel) rfl)) (jSl (jS_alen (by decide +kernel) rfl))))) (jSN (jSN (jSN (jSl (jS_icmpge (off := 47) (by decide +kernel) (by decide) rfl)) (jSl (jS_aloadn (q := 0) rfl (by decide +kernel) rfl))) (jSN (jSl (jS_getf (ci := 7) (index := 18) (f := 0) (ref := "QuasiSums$Sum") jin7 rfl (by decide) (jmem 180 (by decide +kernel)) (Or.inl rfl) (by decide +kernel) rfl)) (jSl (jS_iload (by decide +kernel) rfl)))) (jSN (jSN (jSl (jS_scall (index := 61) (Z := jy_X0_lengthOf) jok_X0_lengthOf (jmem 429 (by decide +kernel)) (jmem 428 (by decide +kernel)) (by decide) (by decide) (by decide +kernel) rfl)) (jSl (jS_iloadn (q := 1) rfl (by decide +kernel) rfl))) (jSN (jSl (jS_scall (index := 87) (Z := jy_X0_waysToPick) jok_X0_waysToPick (jmem 531 (by decide +kernel)) (jmem 530 (by decide +kernel)) (by decide) (by decide) (by decide +kernel) rfl)) (jSl (jS_lstore (by decide +kernel) rfl (by decide))))))) (jSN (jSN (jSN (jSN (jSl (jS_aloadn (q := 2) rfl (by decide +kernel) rfl)) (jSl (jS_lloadn (q := 3) rfl (by decide +kernel) rfl))) (jSN (jSl (jS_aloadn (q := 2) rfl (by decide +kernel) rfl)) (jSl (jS_aloadn (q := 0) rfl (by decide +kernel) rfl)))) (jSN (jSN (jSl (jS_getf (ci := 7) (index := 30) (f := 1) (ref := "QuasiSums$Sum") jin7 rfl (by decide) (jmem 182 (by decide +kernel)) (Or.inl rfl) (by decide +kernel) rfl)) (jSl (jS_iload (by decide +kernel) rfl))) (jSN (jSl (jS_lald (by decide +kernel) rfl)) (jSl (jS_lload (by decide +kernel) rfl))))) (jSN (jSN (jSN (jSl (jS_iload (by decide +kernel) rfl)) (jSl (jS_vcall (index := 68) (Z := jy_X3_times) (ci := 2) jok_X3_times (jmem 494 (by decide +kernel)) (jmem 495 (by decide +kernel)) rfl (jmem 493 (by decide +kernel)) (by decide) (by decide) (by decide +kernel) rfl))) (jSN (jSl (jS_iload (by decide +kernel) rfl)) (jSl (jS_vcall (index := 38) (Z := jy_X3_plus) (ci := 2) jok_X3_plus (jmem 386 (by decide +kernel)) (jmem 387 (by decide +kernel)) rfl (jmem 385 (by decide +kernel)) (by decide) (by decide) (by decide +kernel) rfl)))) (jSN (jSN (jSl (jS_lstoren (q := 3) rfl (by decide +kernel) rfl (by decide))) (jSl (jS_iinc (n := 1) (v := (nI 1)) (by decide +kernel) (by decide +kernel) rfl (by decide)))) (jSN (jSl (jS_goto (off := -51) (by decide +kernel) (by decide))) (jSN (jSl (jS_lloadn (q := 3) rfl (by decide +kernel) rfl)) (jSl (jS_lret rfl (by decide +kernel)))))))))
def jy_X8_shareOf : jY := (yX8_shareOf, cX8_shareOf, 5, some .float, 3, 0, 0)
theorem jok_X8_shareOf : jYok jy_X8_shareOf 1 := ⟨(jmem 618 (by decide +kernel)), (jmem 61 (by decide +kernel)), ⟨by decide +kernel, by decide +kernel⟩, by decide +kernel⟩
def jp_X8_shareOf (Φ : jPost) : Nat → jI := (jN 30 (jN 14 (jN 5 (jN 2 (jN 1 (jlf 0 (ji_push (.float FP.fconst0) 1)) (jlf 1 (ji_fstore 2 2))) (jN 3 (jlf 2 (ji_push (.int (nI 0)) 3)) (jN 4 (jlf 3 (ji_istore 3 4)) (jlf 4 (ji_iload 3 5))))) (jN 9 (jN 6 (jlf 5 (ji_aload 0 6)) (jlf 6 (ji_getf 7 1 9))) (jN 10 (jlf 9 (ji_alen 10)) (jN 13 (jlf 10 (ji_icmpge 46 13)) (jlf 13 (ji_aload 0 14)))))) (jN 22 (jN 18 (jN 17 (jlf 14 (ji_getf 7 1 17)) (jlf 17 (ji_iload 3 18))) (jN 19 (jlf 18 (ji_lald 19)) (jN 20 (jlf 19 (ji_l2f 20)) (jlf 20 (ji_fstore 4 22))))) (jN 25 (jN 23 (jlf 22 (ji_fload 2 23)) (jlf 23 (ji_fload 4 25))) (jN 26 (jlf 25 (ji_push (.float FP.fconst0) 26)) (jN 27 (jlf 26 (ji_fcmp .g 27)) (jlf 27 (ji_ifge 36 30))))))) (jN 48 (jN 39 (jN 33 (jN 32 (jlf 30 (ji_fload 4 32)) (jlf 32 (ji_fneg 33))) (jN 36 (jlf 33 (ji_goto 38)) (jN 38 (jlf 36 (ji_fload 4 38)) (jlf 38 (ji_fadd 39))))) (jN 43 (jN 40 (jlf 39 (ji_fstore 2 40)) (jlf 40 (ji_iinc 3 (nI 1) 43))) (jN 46 (jlf 43 (ji_goto 4)) (jN 47 (jlf 46 (ji_fload 2 47)) (jlf 47 (ji_push (.float FP.fconst0) 48)))))) (jN 57 (jN 52 (jN 49 (jlf 48 (ji_fcmp .l 49)) (jlf 49 (ji_ifne 56 52))) (jN 53 (jlf 52 (ji_push (.float FP.fconst0) 53)) (jN 56 (jlf 53 (ji_goto 64)) (jlf 56 (ji_aload 0 57))))) (jN 62 (jN 58 (jlf 57 (ji_iload 1 58)) (jN 61 (jlf 58 (ji_vcall jy_X8_at 1 7 0 0 61)) (jlf 61 (ji_l2f 62)))) (jN 63 (jlf 62 (ji_fload 2 63)) (jN 64 (jlf 63 (ji_fdiv 64)) (jlf 64 (ji_fret Φ 0 0))))))))
set_option maxRecDepth 20000 in
theorem js_X8_shareOf (Φ : jPost) : ∀ pc, jS jy_X8_shareOf Φ pc (jp_X8_shareOf Φ pc) := (jSN (jSN (jSN (jSN (jSN (jSl (jS_fconst0 (by decide +kernel) rfl)) (jSl (jS_fstoren (q := 2) rfl (by decide +kernel) rfl (by decide)))) (jSN (jSl (jS_iconst (n := 0) (v := (nI 0)) (by decide +kernel) (by decide +kernel) rfl)) (jSN (jSl (jS_istoren (q := 3) rfl (by decide +kernel) rfl (by decide))) (jSl (jS_iloadn (q := 3) rfl (by decide +kernel) rfl))))) (jSN (jSN (jSl (jS_aloadn (q := 0) rfl (by decide +kernel) rfl)) (jSl (jS_getf (ci := 7) (index := 30) (f := 1) (ref := "QuasiSums$Sum") jin7 rfl (by decide) (jmem 182 (by decide +kernel)) (Or.inl rfl) (by decide +kernel) rfl))) (jSN (jSl (jS_alen (by decide +kernel) rfl)) (jSN (jSl (jS_icmpge (off := 36) (by decide +kernel) (by decide) rfl)) (jSl (jS_aloadn (q := 0) rfl (by decide +kernel) rfl)))))) (jSN (jSN (jSN (jSl (jS_getf (ci := 7) (index := 30) (f := 1) (ref := "QuasiSums$Sum") jin7 rfl (by decide) (jmem 182 (by decide +kernel)) (Or.inl rfl) (by decide +kernel) rfl)) (jSl (jS_iloadn (q := 3) rfl (by decide +kernel) rfl))) (jSN (jSl (jS_lald (by decide +kernel) rfl)) (jSN (jSl (jS_l2f (by decide +kernel) rfl)) (jSl (jS_fstore (by decide +kernel) rfl (by decide)))))) (jSN (jSN (jSl (jS_floadn (q := 2) rfl (by decide +kernel) rfl)) (jSl (jS_fload (by decide +kernel) rfl))) (jSN (jSl (jS_fconst0 (by decide +kernel) rfl)) (jSN (jSl (jS_fcmp (by decide +kernel) rfl)) (jSl (jS_ifge (off := 9) (by decide +kernel) (by decide) rfl))))))) (jSN (jSN (jSN (jSN (jSl (jS_fload (by decide +kernel) rfl)) (jSl (jS_fneg (by decide +kernel) rfl))) (jSN (jSl (jS_goto (off := 5) (by decide +kernel) (by decide))) (jSN (jSl (jS_fload (by decide +kernel) rfl)) (jSl (jS_fadd (by decide +kernel) rfl))))) (jSN (jSN (jSl (jS_fstoren (q := 2) rfl (by decide +kernel) rfl (by decide))) (jSl (jS_iinc (n := 1) (v := (nI 1)) (by decide +kernel) (by decide +kernel) rfl (by decide)))) (jSN (jSl (jS_goto (off := -39) (by decide +kernel) (by decide))) (jSN (jSl (jS_floadn (q := 2) rfl (by decide +kernel) rfl)) (jSl (jS_fconst0 (by decide +kernel) rfl)))))) (jSN (jSN (jSN (jSl (jS_fcmp (by decide +kernel) rfl)) (jSl (jS_ifne (off := 7) (by decide +kernel) (by decide) rfl))) (jSN (jSl (jS_fconst0 (by decide +kernel) rfl)) (jSN (jSl (jS_goto (off := 11) (by decide +kernel) (by decide))) (jSl (jS_aloadn (q := 0) rfl (by decide +kernel) rfl))))) (jSN (jSN (jSl (jS_iloadn (q := 1) rfl (by decide +kernel) rfl)) (jSN (jSl (jS_vcall (index := 91) (Z := jy_X8_at) (ci := 7) jok_X8_at (jmem 347 (by decide +kernel)) (jmem 348 (by decide +kernel)) rfl (jmem 619 (by decide +kernel)) (by decide) (by decide) (by decide +kernel) rfl)) (jSl (jS_l2f (by decide +kernel) rfl)))) (jSN (jSl (jS_floadn (q := 2) rfl (by decide +kernel) rfl)) (jSN (jSl (jS_fdiv (by decide +kernel) rfl)) (jSl (jS_fret rfl (by decide +kernel)))))))))
def jy_X9_comesTo : jY := (yX9_comesTo, cX9_comesTo, 3, none, 5, 0, 0)
theorem jok_X9_comesTo : jYok jy_X9_comesTo 2 := ⟨(jmem 829 (by decide +kernel)), (jmem 78 (by decide +kernel)), ⟨by decide +kernel, by decide +kernel⟩, by decide +kernel⟩
def jp_X9_comesTo (Φ : jPost) : Nat → jI := (jN 18 (jN 9 (jN 4 (jN 1 (jlf 0 (ji_aload 0 1)) (jlf 1 (ji_getf 8 0 4))) (jN 7 (jlf 4 (ji_ifeq 24 7)) (jN 8 (jlf 7 (ji_aload 1 8)) (jlf 8 (ji_aload 0 9))))) (jN 13 (jN 12 (jlf 9 (ji_getf 8 3 12)) (jlf 12 (ji_aload 0 13))) (jN 16 (jlf 13 (ji_getf 8 1 16)) (jN 17 (jlf 16 (ji_i2l 17)) (jlf 17 (ji_aload 2 18)))))) (jN 29 (jN 24 (jN 21 (jlf 18 (ji_vcall jy_X8_comesToFiner 3 7 0 0 21)) (jlf 21 (ji_goto 38))) (jN 25 (jlf 24 (ji_aload 1 25)) (jN 26 (jlf 25 (ji_aload 0 26)) (jlf 26 (ji_getf 8 3 29))))) (jN 34 (jN 30 (jlf 29 (ji_aload 0 30)) (jN 33 (jlf 30 (ji_getf 8 1 33)) (jlf 33 (ji_i2l 34)))) (jN 35 (jlf 34 (ji_aload 2 35)) (jN 38 (jlf 35 (ji_vcall jy_X8_comes 3 7 0 0 38)) (jlf 38 (ji_ret Φ 0 0)))))))
set_option maxRecDepth 20000 in
theorem js_X9_comesTo (Φ : jPost) : ∀ pc, jS jy_X9_comesTo Φ pc (jp_X9_comesTo Φ pc) := (jSN (jSN (jSN (jSN (jSl (jS_aloadn (q := 0) rfl (by decide +kernel) rfl)) (jSl (jS_getf (ci := 8) (index := 18) (f := 0) (ref := "QuasiSums$Term") jin8 rfl (by decide) (jmem 786 (by decide +kernel)) (Or.inl rfl) (by decide +kernel) rfl))) (jSN (jSl (jS_ifeq (off := 20) (by decide +kernel) (by decide) rfl)) (jSN (jSl (jS_aloadn (q := 1) rfl (by decide +kernel) rfl)) (jSl (jS_aloadn (q := 0) rfl (by decide +kernel) rfl))))) (jSN (jSN (jSl (jS_getf (ci := 8) (index := 15) (f := 3) (ref := "QuasiSums$Term") jin8 rfl (by decide) (jmem 790 (by decide +kernel)) (Or.inl rfl) (by decide +kernel) rfl)) (jSl (jS_aloadn (q := 0) rfl (by decide +kernel) rfl))) (jSN (jSl (jS_getf (ci := 8) (index := 22) (f := 1) (ref := "QuasiSums$Term") jin8 rfl (by decide) (jmem 787 (by decide +kernel)) (Or.inl rfl) (by decide +kernel) rfl)) (jSN (jSl (jS_i2l (by decide +kernel) rfl)) (jSl (jS_aloadn (q := 2) rfl (by decide +kernel) rfl)))))) (jSN (jSN (jSN (jSl (jS_vcallN (index := 25) (host := "QuasiSums") (Z := jy_X8_comesToFiner) (ci := 7) jok_X8_comesToFiner (jmem 376 (by decide +kernel)) (jmem 9 (by decide +kernel)) rfl (jmem 830 (by decide +kernel)) (by decide) (by decide) (by decide +kernel) rfl)) (jSl (jS_goto (off := 17) (by decide +kernel) (by decide)))) (jSN (jSl (jS_aloadn (q := 1) rfl (by decide +kernel) rfl)) (jSN (jSl (jS_aloadn (q := 0) rfl (by decide +kernel) rfl)) (jSl (jS_getf (ci := 8) (index := 15) (f := 3) (ref := "QuasiSums$Term") jin8 rfl (by decide) (jmem 790 (by decide +kernel)) (Or.inl rfl) (by decide +kernel) rfl))))) (jSN (jSN (jSl (jS_aloadn (q := 0) rfl (by decide +kernel) rfl)) (jSN (jSl (jS_getf (ci := 8) (index := 22) (f := 1) (ref := "QuasiSums$Term") jin8 rfl (by decide) (jmem 787 (by decide +kernel)) (Or.inl rfl) (by decide +kernel) rfl)) (jSl (jS_i2l (by decide +kernel) rfl)))) (jSN (jSl (jS_aloadn (q := 2) rfl (by decide +kernel) rfl)) (jSN (jSl (jS_vcallN (index := 31) (host := "QuasiSums") (Z := jy_X8_comes) (ci := 7) jok_X8_comes (jmem 383 (by decide +kernel)) (jmem 10 (by decide +kernel)) rfl (jmem 831 (by decide +kernel)) (by decide) (by decide) (by decide +kernel) rfl)) (jSl (jS_ret rfl (by decide +kernel))))))))
def jy_X10_init : jY := (yX10_init, cX10_init, 4, none, 2, 0, 0)
theorem jok_X10_init : jYok jy_X10_init 3 := ⟨(jmem 405 (by decide +kernel)), (jmem 71 (by decide +kernel)), ⟨by decide +kernel, by decide +kernel⟩, by decide +kernel⟩
def jp_X10_init (Φ : jPost) : Nat → jI := (jN 10 (jN 5 (jN 1 (jlf 0 (ji_aload 0 1)) (jN 4 (jlf 1 (ji_objinit 4)) (jlf 4 (ji_aload 0 5)))) (jN 6 (jlf 5 (ji_iload 1 6)) (jN 9 (jlf 6 (ji_putf 9 0 .int 9)) (jlf 9 (ji_aload 0 10))))) (jN 15 (jN 11 (jlf 10 (ji_iload 2 11)) (jN 14 (jlf 11 (ji_putf 9 1 .int 14)) (jlf 14 (ji_aload 0 15)))) (jN 16 (jlf 15 (ji_aload 3 16)) (jN 19 (jlf 16 (ji_putf 9 2 (.object "QuasiSums$Trouble") 19)) (jlf 19 (ji_ret Φ 0 0))))))
set_option maxRecDepth 20000 in
theorem js_X10_init (Φ : jPost) : ∀ pc, jS jy_X10_init Φ pc (jp_X10_init Φ pc) := (jSN (jSN (jSN (jSl (jS_aloadn (q := 0) rfl (by decide +kernel) rfl)) (jSN (jSl (jS_objinit (index := 1) (jmem 406 (by decide +kernel)) (jmem 86 (by decide +kernel)) (jmem 87 (by decide +kernel)) (by decide) (by decide +kernel) rfl)) (jSl (jS_aloadn (q := 0) rfl (by decide +kernel) rfl)))) (jSN (jSl (jS_iloadn (q := 1) rfl (by decide +kernel) rfl)) (jSN (jSl (jS_putF (ci := 9) (index := 7) (f := 0) (ref := "QuasiSums$Trouble") jin9 rfl tyX10_ok nmX10 (by decide) (jmem 407 (by decide +kernel)) rfl rfl rfl rfl (by decide +kernel) rfl)) (jSl (jS_aloadn (q := 0) rfl (by decide +kernel) rfl))))) (jSN (jSN (jSl (jS_iloadn (q := 2) rfl (by decide +kernel) rfl)) (jSN (jSl (jS_putF (ci := 9) (index := 13) (f := 1) (ref := "QuasiSums$Trouble") jin9 rfl tyX10_ok nmX10 (by decide) (jmem 409 (by decide +kernel)) rfl rfl rfl rfl (by decide +kernel) rfl)) (jSl (jS_aloadn (q := 0) rfl (by decide +kernel) rfl)))) (jSN (jSl (jS_aloadn (q := 3) rfl (by decide +kernel) rfl)) (jSN (jSl (jS_putF (ci := 9) (index := 16) (f := 2) (ref := "QuasiSums$Trouble") jin9 rfl tyX10_ok nmX10 (by decide) (jmem 411 (by decide +kernel)) rfl rfl rfl rfl (by decide +kernel) rfl)) (jSl (jS_ret rfl (by decide +kernel)))))))
def jy_X10_howMany : jY := (yX10_howMany, cX10_howMany, 3, some .int, 1, 0, 0)
theorem jok_X10_howMany : jYok jy_X10_howMany 1 := ⟨(jmem 896 (by decide +kernel)), (jmem 71 (by decide +kernel)), ⟨by decide +kernel, by decide +kernel⟩, by decide +kernel⟩
def jp_X10_howMany (Φ : jPost) : Nat → jI := (jN 8 (jN 3 (jN 1 (jlf 0 (ji_push (.int (nI 0)) 1)) (jN 2 (jlf 1 (ji_istore 1 2)) (jlf 2 (ji_aload 0 3)))) (jN 4 (jlf 3 (ji_astore 2 4)) (jN 5 (jlf 4 (ji_aload 2 5)) (jlf 5 (ji_ifnull 19 8))))) (jN 15 (jN 11 (jlf 8 (ji_iinc 1 (nI 1) 11)) (jN 12 (jlf 11 (ji_aload 2 12)) (jlf 12 (ji_getf 9 2 15)))) (jN 19 (jN 16 (jlf 15 (ji_astore 2 16)) (jlf 16 (ji_goto 4))) (jN 20 (jlf 19 (ji_iload 1 20)) (jlf 20 (ji_iret Φ 0 0))))))
set_option maxRecDepth 20000 in
theorem js_X10_howMany (Φ : jPost) : ∀ pc, jS jy_X10_howMany Φ pc (jp_X10_howMany Φ pc) := (jSN (jSN (jSN (jSl (jS_iconst (n := 0) (v := (nI 0)) (by decide +kernel) (by decide +kernel) rfl)) (jSN (jSl (jS_istoren (q := 1) rfl (by decide +kernel) rfl (by decide))) (jSl (jS_aloadn (q := 0) rfl (by decide +kernel) rfl)))) (jSN (jSl (jS_astoren (q := 2) rfl (by decide +kernel) rfl (by decide))) (jSN (jSl (jS_aloadn (q := 2) rfl (by decide +kernel) rfl)) (jSl (jS_ifnull (off := 14) (by decide +kernel) (by decide) rfl))))) (jSN (jSN (jSl (jS_iinc (n := 1) (v := (nI 1)) (by decide +kernel) (by decide +kernel) rfl (by decide))) (jSN (jSl (jS_aloadn (q := 2) rfl (by decide +kernel) rfl)) (jSl (jS_getf (ci := 9) (index := 16) (f := 2) (ref := "QuasiSums$Trouble") jin9 rfl (by decide) (jmem 411 (by decide +kernel)) (Or.inl rfl) (by decide +kernel) rfl)))) (jSN (jSN (jSl (jS_astoren (q := 2) rfl (by decide +kernel) rfl (by decide))) (jSl (jS_goto (off := -12) (by decide +kernel) (by decide)))) (jSN (jSl (jS_iloadn (q := 1) rfl (by decide +kernel) rfl)) (jSl (jS_iret rfl (by decide +kernel)))))))
end
section
/-! small tools for the walks -/
theorem jrun2 {Y : jY} {Φ : jPost} {As : List Value} {h : List jC} {P : Nat → jI} {lv : List (Option Value)} (hP : ∀ pc, jS Y Φ pc (P pc)) (hy : plainName Y.1.cls = true) (hn : Nat.ble (jent As).length Y.2.2.1 = true) (hlv : jpad Y.2.2.1 (jent As) = lv)
    (hu : ∀ G : jKt, (∀ (C : List Nat) (n pc : Nat) lv st h a b, jw P G C n pc lv st h a b → G pc lv st h a b) → (∀ (pc : Nat) l1 l2 st h a b, jle l1 l2 → G pc l1 st h a b → G pc l2 st h a b) → G 0 lv [] h 0 0) : jCt Y As h Φ :=
  jrun hP hy (Nat.le_of_ble_eq_true hn) (by rw [hlv]; exact hu)
/-- a truth as the machine has it -/
def jbi (p : Prop) [Decidable p] : Int32 := if p then nI 1 else nI 0
theorem nI_10 : nI 1 ≠ nI 0 := by decide
theorem jbi_0 {p : Prop} [Decidable p] : (jbi p = nI 0) ↔ ¬ p := by
  unfold jbi
  by_cases hp : p
  · simp [hp, nI_10]
  · simp [hp]
theorem jbi_1 {p : Prop} [Decidable p] : (jbi p = nI 1) ↔ p := by
  unfold jbi
  by_cases hp : p
  · simp [hp]
  · simp [hp, Ne.symm nI_10]
theorem jbi_t {p : Prop} [Decidable p] (h : p) : jbi p = nI 1 := if_pos h
theorem jbi_f {p : Prop} [Decidable p] (h : ¬ p) : jbi p = nI 0 := if_neg h
theorem jbi_01 (p : Prop) [Decidable p] : jbi p = nI 0 ∨ jbi p = nI 1 := by
  unfold jbi; split
  · exact Or.inr rfl
  · exact Or.inl rfl
theorem jbi_c {p q : Prop} [Decidable p] [Decidable q] (h : p ↔ q) : jbi p = jbi q := by
  unfold jbi; simp only [h]
theorem jlt (x y : Int32) : x < y ↔ x.toInt < y.toInt := Int32.lt_iff_toInt_lt
theorem jleI (x y : Int32) : x ≤ y ↔ x.toInt ≤ y.toInt := Int32.le_iff_toInt_le
theorem jeq (x y : Int32) : x = y ↔ x.toInt = y.toInt := ⟨fun h => by rw [h], fun h => Int32.toInt_inj.mp h⟩
theorem j0 : (nI 0).toInt = 0 := by decide
theorem j1 : (nI 1).toInt = 1 := by decide
theorem jsh_l : ∀ n, n < 32 → ((nI n &&& 31).toBitVec.smod 32).toNat = n := by decide +kernel
theorem jI_shr {c i : Nat} (hc : c < 2 ^ 31) (hi : i < 32) : nI c >>> (nI i &&& 31) = nI (c / 2 ^ i) := pk_shrN hc _ i (jsh_l i hi)
theorem jI_shl {c i : Nat} (hi : i < 32) (hc : c * 2 ^ i < 2 ^ 32) : nI c <<< (nI i &&& 31) = nI (c * 2 ^ i) := pk_shlN _ i (jsh_l i hi) hc
theorem jI_and (a b : Nat) : nI a &&& nI b = nI (a &&& b) := by
  apply Int32.toBitVec_inj.mp
  show BitVec.ofNat 32 a &&& BitVec.ofNat 32 b = BitVec.ofNat 32 (a &&& b)
  exact BitVec.ofNat_and.symm
theorem jI_or (a b : Nat) : nI a ||| nI b = nI (a ||| b) := by
  apply Int32.toBitVec_inj.mp
  show BitVec.ofNat 32 a ||| BitVec.ofNat 32 b = BitVec.ofNat 32 (a ||| b)
  exact BitVec.ofNat_or.symm
theorem jand1 (a : Nat) : a &&& 1 = a % 2 := Nat.and_one_is_mod a
theorem jI_bit {c i : Nat} (hc : c < 2 ^ 31) (hi : i < 32) : nI c >>> (nI i &&& 31) &&& nI 1 = nI (c / 2 ^ i % 2) := by rw [jI_shr hc hi, jI_and, jand1]
theorem jI_one {i : Nat} (hi : i < 32) : nI 1 <<< (nI i &&& 31) = nI (2 ^ i) := by
  rw [jI_shl hi (by rw [Nat.one_mul]; exact Nat.pow_lt_pow_right (by decide) hi), Nat.one_mul]
theorem jI_m1 {a : Nat} (h : 1 ≤ a) : nI a - nI 1 = nI (a - 1) := pk_sub h
theorem jAI {a b P Q : Prop} (h1 : a → P) (h2 : b → Q) : (a → P) ∧ (b → Q) := ⟨h1, h2⟩
theorem jcall {Z : jY} {As : List Value} {h : List jC} {Q : Option Value → List jC → Prop} {Ψ : jPost} (hc : jCt Z As h Ψ) (k : ∀ r h', Ψ r h' → Q r h') : ∃ Ψ, jCt Z As h Ψ ∧ ∀ r h', Ψ r h' → Q r h' := ⟨Ψ, hc, k⟩
end
section
/-! contracts of the smallest methods -/
theorem c_X11_within (x y : Int32) (h : List jC) : jCt jy_X11_within [.int x, .int y] h (fun r h' => r = some (.int (jbi (0 ≤ x.toInt ∧ x.toInt < y.toInt))) ∧ h' = h) := by
  refine jrun2 (js_X11_within _) rfl rfl rfl (fun G hG hW => ?_)
  refine hG [] 50 _ _ _ _ _ _ ?_
  repeat' ((conv => whnf); with_reducible apply jAI; all_goals intro c)
  all_goals refine ⟨by decide, ?_, rfl⟩
  all_goals (simp only [jlt, jleI, j0] at *)
  · rw [jbi_f (by omega)]
  · rw [jbi_f (by omega)]
  · rw [jbi_t (by omega)]
theorem c_X0_howMany (n : Nat) (hn : n ≤ 6) (h : List jC) : jCt jy_X0_howMany [.int (nI n)] h (fun r h' => r = some (.int (nI (if n = 0 then 1 else 2 ^ (n - 1)))) ∧ h' = h) := by
  refine jrun2 (js_X0_howMany _) rfl rfl rfl (fun G hG hW => ?_)
  refine hG [] 50 _ _ _ _ _ _ ?_
  repeat' ((conv => whnf); with_reducible apply jAI; all_goals intro c)
  all_goals refine ⟨?_, rfl⟩
  all_goals rw [nI_leI (by omega) (by omega)] at c
  · rw [if_neg (by omega), jI_m1 (by omega), jI_one (by omega)]
  · rw [if_pos (by omega)]
/-! compositions as bits, in numbers -/
def jmany (n : Nat) : Nat := if n = 0 then 1 else 2 ^ (n - 1)
def jpop (c : Nat) : Nat := c % 2 + c / 2 % 2 + c / 4 % 2 + c / 8 % 2 + c / 16 % 2 + c / 32 % 2
def jlen (n c : Nat) : Nat := if n = 0 then 0 else 1 + jpop c
def jfstF (n c : Nat) : Nat → Nat → Nat
  | 0, _ => n
  | k + 1, i => if i < n then (if c / 2 ^ (i - 1) % 2 = 1 then i else jfstF n c k (i + 1)) else n
def jfst (n c : Nat) : Nat := jfstF n c 6 1
def jnumF : Nat → Nat → Nat → Nat
  | n, c, 0 => jfst n c
  | n, c, i + 1 => jnumF (n - jfst n c) (c / 2 ^ jfst n c) i
def jturnF (n c : Nat) : Nat → Nat → Nat → Nat
  | 0, _, acc => acc
  | k + 1, i, acc => if i < n then jturnF n c k (i + 1) (if c / 2 ^ (i - 1) % 2 = 1 then acc ||| 2 ^ (n - i - 1) else acc) else acc
def jturn (n c : Nat) : Nat := jturnF n c 6 1 0
def jjoin (a c b d : Nat) : Nat := if a = 0 then d else if b = 0 then c else c ||| 2 ^ (a - 1) ||| d * 2 ^ a
theorem jfstF_le (n c : Nat) : ∀ k i, 1 ≤ i → (1 ≤ n → 1 ≤ jfstF n c k i) ∧ jfstF n c k i ≤ n
  | 0, i, _ => ⟨fun h => h, Nat.le_refl _⟩
  | k + 1, i, hi => by
    unfold jfstF
    split
    · split
      · exact ⟨fun _ => hi, by omega⟩
      · exact jfstF_le n c k (i + 1) (by omega)
    · exact ⟨fun h => h, Nat.le_refl _⟩
theorem jbitc : ∀ c, c < 64 → (let a := nI c; let b := a - ((a.toUInt32 >>> ((nI 1).toUInt32 &&& Int32.toUInt32 31)).toInt32 &&& nI 1431655765); let d := (b &&& nI 858993459) + ((b.toUInt32 >>> ((nI 2).toUInt32 &&& Int32.toUInt32 31)).toInt32 &&& nI 858993459); let e := (d + (d.toUInt32 >>> ((nI 4).toUInt32 &&& Int32.toUInt32 31)).toInt32) &&& nI 252645135; let f := e + (e.toUInt32 >>> ((nI 8).toUInt32 &&& Int32.toUInt32 31)).toInt32; let g := f + (f.toUInt32 >>> ((nI 16).toUInt32 &&& Int32.toUInt32 31)).toInt32; g &&& nI 63) = nI (jpop c) := by decide +kernel
set_option maxRecDepth 100000 in
theorem c_J6_bitCount (c : Nat) (hc : c < 64) (h : List jC) : jCt jy_J6_bitCount_0f7a4 [.int (nI c)] h (fun r h' => r = some (.int (nI (jpop c))) ∧ h' = h) := by
  refine jrun2 (js_J6_bitCount_0f7a4 _) rfl rfl rfl (fun G hG hW => ?_)
  refine hG [] 60 _ _ _ _ _ _ ?_
  conv => whnf
  refine ⟨?_, rfl⟩
  rw [← jbitc c hc]
  rfl
theorem c_X0_lengthOf (n c : Nat) (hn : n ≤ 6) (hc : c < 64) (h : List jC) : jCt jy_X0_lengthOf [.int (nI n), .int (nI c)] h (fun r h' => r = some (.int (nI (jlen n c))) ∧ h' = h) := by
  refine jrun2 (js_X0_lengthOf _) rfl rfl rfl (fun G hG hW => ?_)
  refine hG [] 50 _ _ _ _ _ _ ?_
  conv => whnf
  refine ⟨fun q => ?_, fun q => ?_⟩ <;> rw [nI_leI (by omega) (by omega)] at q
  · conv => whnf
    refine jcall (c_J6_bitCount c hc h) ?_
    rintro r h' ⟨rfl, rfl⟩
    conv => whnf
    refine ⟨?_, rfl⟩
    rw [nI_add, jlen, if_neg (by omega)]
  · conv => whnf
    refine ⟨?_, rfl⟩
    rw [jlen, if_pos (by omega)]
theorem c_X0_firstNumber (n c : Nat) (hn : n ≤ 6) (hc : c < 64) (h : List jC) : jCt jy_X0_firstNumber [.int (nI n), .int (nI c)] h (fun r h' => r = some (.int (nI (jfst n c))) ∧ h' = h) := by
  refine jrun2 (js_X0_firstNumber _) rfl rfl rfl (fun G hG hW => ?_)
  have loop : ∀ k i, 1 ≤ i → i ≤ 7 → n ≤ i + k → jfst n c = jfstF n c k i → G 2 [some (.int (nI n)), some (.int (nI c)), some (.int (nI i))] [] h 0 0 := by
    intro k
    induction k with
    | zero =>
      intro i h1 h7 hk he
      refine hG [2] 50 _ _ _ _ _ _ ?_
      conv => whnf
      refine ⟨fun q => ?_, fun q => ?_⟩ <;> rw [nI_leI (by omega) (by omega)] at q
      · conv => whnf
        refine ⟨?_, rfl⟩
        rw [he]; rfl
      · omega
    | succ k ih =>
      intro i h1 h7 hk he
      rw [jfstF] at he
      refine hG [2] 50 _ _ _ _ _ _ ?_
      conv => whnf
      refine ⟨fun q => ?_, fun q => ?_⟩ <;> rw [nI_leI (by omega) (by omega)] at q
      · conv => whnf
        refine ⟨?_, rfl⟩
        rw [he, if_neg (by omega)]
      · rw [if_pos (by omega)] at he
        conv => whnf
        rw [jI_m1 h1, jI_bit (by omega) (by omega)]
        refine ⟨fun q2 => ?_, fun q2 => ?_⟩ <;> rw [nI_eq (by omega) (by omega)] at q2
        · rw [if_neg q2] at he
          conv => whnf
          rw [nI_add]
          exact ih (i + 1) (by omega) (by omega) (by omega) he
        · rw [if_pos q2] at he
          conv => whnf
          refine ⟨?_, rfl⟩
          rw [he]
  refine hG [2] 50 _ _ _ _ _ _ ?_
  conv => whnf
  exact loop 6 1 (by omega) (by omega) (by omega) rfl
end
