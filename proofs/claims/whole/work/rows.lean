section
-- ===== PART A: goes FIRST, ahead of the names: the tables' words, and 'selects' of the private methods out of them =====
/-- a private method of a class that the tables say can be made, by its rows of tables_1 -/
def lw_okq (q : MethodName × Nat) : Prop := (q.1.cls ≠ "java/lang/invoke/MethodHandle" ∧ q.1.cls ≠ "java/lang/invoke/VarHandle") ∧ Cond.instantiable q.1.cls q.2 ∈ tables_1 ∧ Cond.privateMethod q.1 ∈ tables_1 ∧ Cond.instanceMethod q.1 ∈ tables_1
theorem lw_p0 : lw_okq (⟨"NoisePost$Text", "beginPart", "()V"⟩, 8) := ⟨⟨by decide +kernel, by decide +kernel⟩, List.mem_of_getElem? (i := 95) (by decide +kernel), List.mem_of_getElem? (i := 316) (by decide +kernel), List.mem_of_getElem? (i := 317) (by decide +kernel)⟩
theorem lw_p1 : lw_okq (⟨"NoisePost$Text", "beginNumber", "(I)V"⟩, 8) := ⟨⟨by decide +kernel, by decide +kernel⟩, List.mem_of_getElem? (i := 95) (by decide +kernel), List.mem_of_getElem? (i := 320) (by decide +kernel), List.mem_of_getElem? (i := 321) (by decide +kernel)⟩
theorem lw_p2 : lw_okq (⟨"NoisePost$Text", "takes", "(I)Z"⟩, 8) := ⟨⟨by decide +kernel, by decide +kernel⟩, List.mem_of_getElem? (i := 95) (by decide +kernel), List.mem_of_getElem? (i := 324) (by decide +kernel), List.mem_of_getElem? (i := 325) (by decide +kernel)⟩
theorem lw_p3 : lw_okq (⟨"NoisePost$Text", "takesDigit", "(I)Z"⟩, 8) := ⟨⟨by decide +kernel, by decide +kernel⟩, List.mem_of_getElem? (i := 95) (by decide +kernel), List.mem_of_getElem? (i := 328) (by decide +kernel), List.mem_of_getElem? (i := 329) (by decide +kernel)⟩
theorem lw_p4 : lw_okq (⟨"NoisePost$Text", "numberIsWhole", "()Z"⟩, 8) := ⟨⟨by decide +kernel, by decide +kernel⟩, List.mem_of_getElem? (i := 95) (by decide +kernel), List.mem_of_getElem? (i := 336) (by decide +kernel), List.mem_of_getElem? (i := 337) (by decide +kernel)⟩
theorem lw_p5 : lw_okq (⟨"NoisePost$Text", "endPart", "()V"⟩, 8) := ⟨⟨by decide +kernel, by decide +kernel⟩, List.mem_of_getElem? (i := 95) (by decide +kernel), List.mem_of_getElem? (i := 340) (by decide +kernel), List.mem_of_getElem? (i := 341) (by decide +kernel)⟩
theorem lw_p6 : lw_okq (⟨"NoisePost", "numberOf", "(I)I"⟩, 6) := ⟨⟨by decide +kernel, by decide +kernel⟩, List.mem_of_getElem? (i := 21) (by decide +kernel), List.mem_of_getElem? (i := 357) (by decide +kernel), List.mem_of_getElem? (i := 358) (by decide +kernel)⟩
theorem lw_p7 : lw_okq (⟨"NoisePost", "withMinutes", "(J)J"⟩, 6) := ⟨⟨by decide +kernel, by decide +kernel⟩, List.mem_of_getElem? (i := 21) (by decide +kernel), List.mem_of_getElem? (i := 377) (by decide +kernel), List.mem_of_getElem? (i := 378) (by decide +kernel)⟩
theorem lw_p8 : lw_okq (⟨"NoisePost", "minuteProperty", "(II)I"⟩, 6) := ⟨⟨by decide +kernel, by decide +kernel⟩, List.mem_of_getElem? (i := 21) (by decide +kernel), List.mem_of_getElem? (i := 381) (by decide +kernel), List.mem_of_getElem? (i := 382) (by decide +kernel)⟩
theorem lw_p9 : lw_okq (⟨"NoisePost", "withExceedances", "(J)J"⟩, 6) := ⟨⟨by decide +kernel, by decide +kernel⟩, List.mem_of_getElem? (i := 21) (by decide +kernel), List.mem_of_getElem? (i := 394) (by decide +kernel), List.mem_of_getElem? (i := 395) (by decide +kernel)⟩
theorem lw_p10 : lw_okq (⟨"NoisePost", "exceedanceProperty", "(II)I"⟩, 6) := ⟨⟨by decide +kernel, by decide +kernel⟩, List.mem_of_getElem? (i := 21) (by decide +kernel), List.mem_of_getElem? (i := 398) (by decide +kernel), List.mem_of_getElem? (i := 399) (by decide +kernel)⟩
theorem lw_p11 : lw_okq (⟨"NoisePost", "withComplaints", "(J)J"⟩, 6) := ⟨⟨by decide +kernel, by decide +kernel⟩, List.mem_of_getElem? (i := 21) (by decide +kernel), List.mem_of_getElem? (i := 402) (by decide +kernel), List.mem_of_getElem? (i := 403) (by decide +kernel)⟩
theorem lw_p12 : lw_okq (⟨"NoisePost", "complaintProperty", "(II)I"⟩, 6) := ⟨⟨by decide +kernel, by decide +kernel⟩, List.mem_of_getElem? (i := 21) (by decide +kernel), List.mem_of_getElem? (i := 406) (by decide +kernel), List.mem_of_getElem? (i := 407) (by decide +kernel)⟩
theorem lw_p13 : lw_okq (⟨"NoisePost", "withLevels", "(J)J"⟩, 6) := ⟨⟨by decide +kernel, by decide +kernel⟩, List.mem_of_getElem? (i := 21) (by decide +kernel), List.mem_of_getElem? (i := 410) (by decide +kernel), List.mem_of_getElem? (i := 411) (by decide +kernel)⟩
theorem lw_p14 : lw_okq (⟨"NoisePost$View", "exceedancesWithLimit", "(I)I"⟩, 4) := ⟨⟨by decide +kernel, by decide +kernel⟩, List.mem_of_getElem? (i := 132) (by decide +kernel), List.mem_of_getElem? (i := 422) (by decide +kernel), List.mem_of_getElem? (i := 423) (by decide +kernel)⟩
theorem lw_p15 : lw_okq (⟨"NoisePost$View", "isAboveWithLimit", "(II)Z"⟩, 4) := ⟨⟨by decide +kernel, by decide +kernel⟩, List.mem_of_getElem? (i := 132) (by decide +kernel), List.mem_of_getElem? (i := 426) (by decide +kernel), List.mem_of_getElem? (i := 427) (by decide +kernel)⟩
def lw_privs_1 : List (MethodName × Nat) := [(⟨"NoisePost$Text", "beginPart", "()V"⟩, 8), (⟨"NoisePost$Text", "beginNumber", "(I)V"⟩, 8), (⟨"NoisePost$Text", "takes", "(I)Z"⟩, 8), (⟨"NoisePost$Text", "takesDigit", "(I)Z"⟩, 8), (⟨"NoisePost$Text", "numberIsWhole", "()Z"⟩, 8), (⟨"NoisePost$Text", "endPart", "()V"⟩, 8), (⟨"NoisePost", "numberOf", "(I)I"⟩, 6), (⟨"NoisePost", "withMinutes", "(J)J"⟩, 6), (⟨"NoisePost", "minuteProperty", "(II)I"⟩, 6), (⟨"NoisePost", "withExceedances", "(J)J"⟩, 6), (⟨"NoisePost", "exceedanceProperty", "(II)I"⟩, 6), (⟨"NoisePost", "withComplaints", "(J)J"⟩, 6), (⟨"NoisePost", "complaintProperty", "(II)I"⟩, 6), (⟨"NoisePost", "withLevels", "(J)J"⟩, 6), (⟨"NoisePost$View", "exceedancesWithLimit", "(I)I"⟩, 4), (⟨"NoisePost$View", "isAboveWithLimit", "(II)Z"⟩, 4)]
theorem lw_r1 : ∀ q ∈ lw_privs_1, lw_okq q := List.forall_mem_cons.mpr ⟨lw_p0, List.forall_mem_cons.mpr ⟨lw_p1, List.forall_mem_cons.mpr ⟨lw_p2, List.forall_mem_cons.mpr ⟨lw_p3, List.forall_mem_cons.mpr ⟨lw_p4, List.forall_mem_cons.mpr ⟨lw_p5, List.forall_mem_cons.mpr ⟨lw_p6, List.forall_mem_cons.mpr ⟨lw_p7, List.forall_mem_cons.mpr ⟨lw_p8, List.forall_mem_cons.mpr ⟨lw_p9, List.forall_mem_cons.mpr ⟨lw_p10, List.forall_mem_cons.mpr ⟨lw_p11, List.forall_mem_cons.mpr ⟨lw_p12, List.forall_mem_cons.mpr ⟨lw_p13, List.forall_mem_cons.mpr ⟨lw_p14, List.forall_mem_cons.mpr ⟨lw_p15, fun _ h => absurd h List.not_mem_nil⟩⟩⟩⟩⟩⟩⟩⟩⟩⟩⟩⟩⟩⟩⟩⟩
theorem lw_p16 : lw_okq (⟨"NoisePost", "withBuffer", "(J)J"⟩, 6) := ⟨⟨by decide +kernel, by decide +kernel⟩, List.mem_of_getElem? (i := 21) (by decide +kernel), List.mem_of_getElem? (i := 457) (by decide +kernel), List.mem_of_getElem? (i := 458) (by decide +kernel)⟩
theorem lw_p17 : lw_okq (⟨"java/lang/Throwable", "fillInStackTrace", "(I)Ljava/lang/Throwable;"⟩, 6) := ⟨⟨by decide +kernel, by decide +kernel⟩, List.mem_of_getElem? (i := 511) (by decide +kernel), List.mem_of_getElem? (i := 509) (by decide +kernel), List.mem_of_getElem? (i := 510) (by decide +kernel)⟩
theorem lw_p18 : lw_okq (⟨"NoisePost", "readAgain", "()V"⟩, 6) := ⟨⟨by decide +kernel, by decide +kernel⟩, List.mem_of_getElem? (i := 21) (by decide +kernel), List.mem_of_getElem? (i := 578) (by decide +kernel), List.mem_of_getElem? (i := 579) (by decide +kernel)⟩
theorem lw_p19 : lw_okq (⟨"NoisePost$Exceedances", "begin", "(I)V"⟩, 8) := ⟨⟨by decide +kernel, by decide +kernel⟩, List.mem_of_getElem? (i := 187) (by decide +kernel), List.mem_of_getElem? (i := 612) (by decide +kernel), List.mem_of_getElem? (i := 613) (by decide +kernel)⟩
theorem lw_p20 : lw_okq (⟨"NoisePost$Exceedances", "extend", "(III)V"⟩, 8) := ⟨⟨by decide +kernel, by decide +kernel⟩, List.mem_of_getElem? (i := 187) (by decide +kernel), List.mem_of_getElem? (i := 617) (by decide +kernel), List.mem_of_getElem? (i := 618) (by decide +kernel)⟩
theorem lw_p21 : lw_okq (⟨"NoisePost$Exceedances", "markOwners", "()V"⟩, 8) := ⟨⟨by decide +kernel, by decide +kernel⟩, List.mem_of_getElem? (i := 187) (by decide +kernel), List.mem_of_getElem? (i := 624) (by decide +kernel), List.mem_of_getElem? (i := 625) (by decide +kernel)⟩
theorem lw_p22 : lw_okq (⟨"NoisePost$Matches", "putInOrder", "(LNoisePost$State;)V"⟩, 5) := ⟨⟨by decide +kernel, by decide +kernel⟩, List.mem_of_getElem? (i := 231) (by decide +kernel), List.mem_of_getElem? (i := 632) (by decide +kernel), List.mem_of_getElem? (i := 633) (by decide +kernel)⟩
theorem lw_p23 : lw_okq (⟨"NoisePost$Matches", "bestFor", "(ILNoisePost$Exceedances;I)I"⟩, 5) := ⟨⟨by decide +kernel, by decide +kernel⟩, List.mem_of_getElem? (i := 231) (by decide +kernel), List.mem_of_getElem? (i := 636) (by decide +kernel), List.mem_of_getElem? (i := 637) (by decide +kernel)⟩
theorem lw_p24 : lw_okq (⟨"NoisePostModel", "save", "()V"⟩, 28) := ⟨⟨by decide +kernel, by decide +kernel⟩, List.mem_of_getElem? (i := 858) (by decide +kernel), List.mem_of_getElem? (i := 970) (by decide +kernel), List.mem_of_getElem? (i := 971) (by decide +kernel)⟩
theorem lw_p25 : lw_okq (⟨"NoisePostModel", "of", "(I)I"⟩, 28) := ⟨⟨by decide +kernel, by decide +kernel⟩, List.mem_of_getElem? (i := 858) (by decide +kernel), List.mem_of_getElem? (i := 974) (by decide +kernel), List.mem_of_getElem? (i := 975) (by decide +kernel)⟩
theorem lw_p26 : lw_okq (⟨"NoisePostModel", "bring", "(III)V"⟩, 28) := ⟨⟨by decide +kernel, by decide +kernel⟩, List.mem_of_getElem? (i := 858) (by decide +kernel), List.mem_of_getElem? (i := 985) (by decide +kernel), List.mem_of_getElem? (i := 986) (by decide +kernel)⟩
theorem lw_p27 : lw_okq (⟨"NoisePostModel", "isMinute", "(I)Z"⟩, 28) := ⟨⟨by decide +kernel, by decide +kernel⟩, List.mem_of_getElem? (i := 858) (by decide +kernel), List.mem_of_getElem? (i := 993) (by decide +kernel), List.mem_of_getElem? (i := 994) (by decide +kernel)⟩
theorem lw_p28 : lw_okq (⟨"NoisePostModel", "lay", "(II)V"⟩, 28) := ⟨⟨by decide +kernel, by decide +kernel⟩, List.mem_of_getElem? (i := 858) (by decide +kernel), List.mem_of_getElem? (i := 997) (by decide +kernel), List.mem_of_getElem? (i := 998) (by decide +kernel)⟩
theorem lw_p29 : lw_okq (⟨"NoisePostModel", "layArms", "()V"⟩, 28) := ⟨⟨by decide +kernel, by decide +kernel⟩, List.mem_of_getElem? (i := 858) (by decide +kernel), List.mem_of_getElem? (i := 1001) (by decide +kernel), List.mem_of_getElem? (i := 1002) (by decide +kernel)⟩
theorem lw_p30 : lw_okq (⟨"NoisePostModel", "layExceedances", "()V"⟩, 28) := ⟨⟨by decide +kernel, by decide +kernel⟩, List.mem_of_getElem? (i := 858) (by decide +kernel), List.mem_of_getElem? (i := 1005) (by decide +kernel), List.mem_of_getElem? (i := 1006) (by decide +kernel)⟩
theorem lw_p31 : lw_okq (⟨"NoisePostModel", "whyNot", "(I)I"⟩, 28) := ⟨⟨by decide +kernel, by decide +kernel⟩, List.mem_of_getElem? (i := 858) (by decide +kernel), List.mem_of_getElem? (i := 1009) (by decide +kernel), List.mem_of_getElem? (i := 1010) (by decide +kernel)⟩
def lw_privs_2 : List (MethodName × Nat) := [(⟨"NoisePost", "withBuffer", "(J)J"⟩, 6), (⟨"java/lang/Throwable", "fillInStackTrace", "(I)Ljava/lang/Throwable;"⟩, 6), (⟨"NoisePost", "readAgain", "()V"⟩, 6), (⟨"NoisePost$Exceedances", "begin", "(I)V"⟩, 8), (⟨"NoisePost$Exceedances", "extend", "(III)V"⟩, 8), (⟨"NoisePost$Exceedances", "markOwners", "()V"⟩, 8), (⟨"NoisePost$Matches", "putInOrder", "(LNoisePost$State;)V"⟩, 5), (⟨"NoisePost$Matches", "bestFor", "(ILNoisePost$Exceedances;I)I"⟩, 5), (⟨"NoisePostModel", "save", "()V"⟩, 28), (⟨"NoisePostModel", "of", "(I)I"⟩, 28), (⟨"NoisePostModel", "bring", "(III)V"⟩, 28), (⟨"NoisePostModel", "isMinute", "(I)Z"⟩, 28), (⟨"NoisePostModel", "lay", "(II)V"⟩, 28), (⟨"NoisePostModel", "layArms", "()V"⟩, 28), (⟨"NoisePostModel", "layExceedances", "()V"⟩, 28), (⟨"NoisePostModel", "whyNot", "(I)I"⟩, 28)]
theorem lw_r2 : ∀ q ∈ lw_privs_2, lw_okq q := List.forall_mem_cons.mpr ⟨lw_p16, List.forall_mem_cons.mpr ⟨lw_p17, List.forall_mem_cons.mpr ⟨lw_p18, List.forall_mem_cons.mpr ⟨lw_p19, List.forall_mem_cons.mpr ⟨lw_p20, List.forall_mem_cons.mpr ⟨lw_p21, List.forall_mem_cons.mpr ⟨lw_p22, List.forall_mem_cons.mpr ⟨lw_p23, List.forall_mem_cons.mpr ⟨lw_p24, List.forall_mem_cons.mpr ⟨lw_p25, List.forall_mem_cons.mpr ⟨lw_p26, List.forall_mem_cons.mpr ⟨lw_p27, List.forall_mem_cons.mpr ⟨lw_p28, List.forall_mem_cons.mpr ⟨lw_p29, List.forall_mem_cons.mpr ⟨lw_p30, List.forall_mem_cons.mpr ⟨lw_p31, fun _ h => absurd h List.not_mem_nil⟩⟩⟩⟩⟩⟩⟩⟩⟩⟩⟩⟩⟩⟩⟩⟩
theorem lw_p32 : lw_okq (⟨"NoisePostModel", "limitOf", "(I)I"⟩, 28) := ⟨⟨by decide +kernel, by decide +kernel⟩, List.mem_of_getElem? (i := 858) (by decide +kernel), List.mem_of_getElem? (i := 1013) (by decide +kernel), List.mem_of_getElem? (i := 1014) (by decide +kernel)⟩
theorem lw_p33 : lw_okq (⟨"NoisePostModel", "isRest", "(I)Z"⟩, 28) := ⟨⟨by decide +kernel, by decide +kernel⟩, List.mem_of_getElem? (i := 858) (by decide +kernel), List.mem_of_getElem? (i := 1017) (by decide +kernel), List.mem_of_getElem? (i := 1018) (by decide +kernel)⟩
theorem lw_p34 : lw_okq (⟨"NoisePostModel", "addMinute", "(II)V"⟩, 28) := ⟨⟨by decide +kernel, by decide +kernel⟩, List.mem_of_getElem? (i := 858) (by decide +kernel), List.mem_of_getElem? (i := 1021) (by decide +kernel), List.mem_of_getElem? (i := 1022) (by decide +kernel)⟩
theorem lw_p35 : lw_okq (⟨"NoisePostModel", "isComplaint", "(I)Z"⟩, 28) := ⟨⟨by decide +kernel, by decide +kernel⟩, List.mem_of_getElem? (i := 858) (by decide +kernel), List.mem_of_getElem? (i := 1037) (by decide +kernel), List.mem_of_getElem? (i := 1038) (by decide +kernel)⟩
theorem lw_p36 : lw_okq (⟨"NoisePostModel", "layAll", "()V"⟩, 28) := ⟨⟨by decide +kernel, by decide +kernel⟩, List.mem_of_getElem? (i := 858) (by decide +kernel), List.mem_of_getElem? (i := 1041) (by decide +kernel), List.mem_of_getElem? (i := 1042) (by decide +kernel)⟩
theorem lw_p37 : lw_okq (⟨"NoisePostModel", "layMatches", "()V"⟩, 28) := ⟨⟨by decide +kernel, by decide +kernel⟩, List.mem_of_getElem? (i := 858) (by decide +kernel), List.mem_of_getElem? (i := 1045) (by decide +kernel), List.mem_of_getElem? (i := 1046) (by decide +kernel)⟩
theorem lw_p38 : lw_okq (⟨"NoisePostModel", "matchFor", "(I)I"⟩, 28) := ⟨⟨by decide +kernel, by decide +kernel⟩, List.mem_of_getElem? (i := 858) (by decide +kernel), List.mem_of_getElem? (i := 1049) (by decide +kernel), List.mem_of_getElem? (i := 1050) (by decide +kernel)⟩
theorem lw_p39 : lw_okq (⟨"NoisePostModel", "readText", "()I"⟩, 28) := ⟨⟨by decide +kernel, by decide +kernel⟩, List.mem_of_getElem? (i := 858) (by decide +kernel), List.mem_of_getElem? (i := 1065) (by decide +kernel), List.mem_of_getElem? (i := 1066) (by decide +kernel)⟩
theorem lw_p40 : lw_okq (⟨"NoisePostModel", "beginPart", "()V"⟩, 28) := ⟨⟨by decide +kernel, by decide +kernel⟩, List.mem_of_getElem? (i := 858) (by decide +kernel), List.mem_of_getElem? (i := 1069) (by decide +kernel), List.mem_of_getElem? (i := 1070) (by decide +kernel)⟩
theorem lw_p41 : lw_okq (⟨"NoisePostModel", "takes", "(I)Z"⟩, 28) := ⟨⟨by decide +kernel, by decide +kernel⟩, List.mem_of_getElem? (i := 858) (by decide +kernel), List.mem_of_getElem? (i := 1073) (by decide +kernel), List.mem_of_getElem? (i := 1074) (by decide +kernel)⟩
theorem lw_p42 : lw_okq (⟨"NoisePostModel", "takesDigit", "(I)Z"⟩, 28) := ⟨⟨by decide +kernel, by decide +kernel⟩, List.mem_of_getElem? (i := 858) (by decide +kernel), List.mem_of_getElem? (i := 1077) (by decide +kernel), List.mem_of_getElem? (i := 1078) (by decide +kernel)⟩
theorem lw_p43 : lw_okq (⟨"NoisePostModel", "goTo", "(I)V"⟩, 28) := ⟨⟨by decide +kernel, by decide +kernel⟩, List.mem_of_getElem? (i := 858) (by decide +kernel), List.mem_of_getElem? (i := 1081) (by decide +kernel), List.mem_of_getElem? (i := 1082) (by decide +kernel)⟩
theorem lw_p44 : lw_okq (⟨"NoisePostModel", "isPartOver", "()Z"⟩, 28) := ⟨⟨by decide +kernel, by decide +kernel⟩, List.mem_of_getElem? (i := 858) (by decide +kernel), List.mem_of_getElem? (i := 1085) (by decide +kernel), List.mem_of_getElem? (i := 1086) (by decide +kernel)⟩
theorem lw_p45 : lw_okq (⟨"NoisePostModel", "minuteNow", "(II)I"⟩, 28) := ⟨⟨by decide +kernel, by decide +kernel⟩, List.mem_of_getElem? (i := 858) (by decide +kernel), List.mem_of_getElem? (i := 1097) (by decide +kernel), List.mem_of_getElem? (i := 1098) (by decide +kernel)⟩
theorem lw_p46 : lw_okq (⟨"NoisePostModel", "exceedanceNow", "(II)I"⟩, 28) := ⟨⟨by decide +kernel, by decide +kernel⟩, List.mem_of_getElem? (i := 858) (by decide +kernel), List.mem_of_getElem? (i := 1105) (by decide +kernel), List.mem_of_getElem? (i := 1106) (by decide +kernel)⟩
theorem lw_p47 : lw_okq (⟨"NoisePostModel", "countFrom", "(I)I"⟩, 28) := ⟨⟨by decide +kernel, by decide +kernel⟩, List.mem_of_getElem? (i := 858) (by decide +kernel), List.mem_of_getElem? (i := 1117) (by decide +kernel), List.mem_of_getElem? (i := 1118) (by decide +kernel)⟩
def lw_privs_3 : List (MethodName × Nat) := [(⟨"NoisePostModel", "limitOf", "(I)I"⟩, 28), (⟨"NoisePostModel", "isRest", "(I)Z"⟩, 28), (⟨"NoisePostModel", "addMinute", "(II)V"⟩, 28), (⟨"NoisePostModel", "isComplaint", "(I)Z"⟩, 28), (⟨"NoisePostModel", "layAll", "()V"⟩, 28), (⟨"NoisePostModel", "layMatches", "()V"⟩, 28), (⟨"NoisePostModel", "matchFor", "(I)I"⟩, 28), (⟨"NoisePostModel", "readText", "()I"⟩, 28), (⟨"NoisePostModel", "beginPart", "()V"⟩, 28), (⟨"NoisePostModel", "takes", "(I)Z"⟩, 28), (⟨"NoisePostModel", "takesDigit", "(I)Z"⟩, 28), (⟨"NoisePostModel", "goTo", "(I)V"⟩, 28), (⟨"NoisePostModel", "isPartOver", "()Z"⟩, 28), (⟨"NoisePostModel", "minuteNow", "(II)I"⟩, 28), (⟨"NoisePostModel", "exceedanceNow", "(II)I"⟩, 28), (⟨"NoisePostModel", "countFrom", "(I)I"⟩, 28)]
theorem lw_r3 : ∀ q ∈ lw_privs_3, lw_okq q := List.forall_mem_cons.mpr ⟨lw_p32, List.forall_mem_cons.mpr ⟨lw_p33, List.forall_mem_cons.mpr ⟨lw_p34, List.forall_mem_cons.mpr ⟨lw_p35, List.forall_mem_cons.mpr ⟨lw_p36, List.forall_mem_cons.mpr ⟨lw_p37, List.forall_mem_cons.mpr ⟨lw_p38, List.forall_mem_cons.mpr ⟨lw_p39, List.forall_mem_cons.mpr ⟨lw_p40, List.forall_mem_cons.mpr ⟨lw_p41, List.forall_mem_cons.mpr ⟨lw_p42, List.forall_mem_cons.mpr ⟨lw_p43, List.forall_mem_cons.mpr ⟨lw_p44, List.forall_mem_cons.mpr ⟨lw_p45, List.forall_mem_cons.mpr ⟨lw_p46, List.forall_mem_cons.mpr ⟨lw_p47, fun _ h => absurd h List.not_mem_nil⟩⟩⟩⟩⟩⟩⟩⟩⟩⟩⟩⟩⟩⟩⟩⟩
theorem lw_p48 : lw_okq (⟨"NoisePostModel", "percentNow", "(I)I"⟩, 28) := ⟨⟨by decide +kernel, by decide +kernel⟩, List.mem_of_getElem? (i := 858) (by decide +kernel), List.mem_of_getElem? (i := 1125) (by decide +kernel), List.mem_of_getElem? (i := 1126) (by decide +kernel)⟩
theorem lw_p49 : lw_okq (⟨"NoisePostModel", "counted", "(I)I"⟩, 28) := ⟨⟨by decide +kernel, by decide +kernel⟩, List.mem_of_getElem? (i := 858) (by decide +kernel), List.mem_of_getElem? (i := 1133) (by decide +kernel), List.mem_of_getElem? (i := 1134) (by decide +kernel)⟩
theorem lw_p50 : lw_okq (⟨"NoisePostModel", "minutesBy", "(II)I"⟩, 28) := ⟨⟨by decide +kernel, by decide +kernel⟩, List.mem_of_getElem? (i := 858) (by decide +kernel), List.mem_of_getElem? (i := 1137) (by decide +kernel), List.mem_of_getElem? (i := 1138) (by decide +kernel)⟩
theorem lw_p51 : lw_okq (⟨"NoisePostModel", "restMany", "()I"⟩, 28) := ⟨⟨by decide +kernel, by decide +kernel⟩, List.mem_of_getElem? (i := 858) (by decide +kernel), List.mem_of_getElem? (i := 1141) (by decide +kernel), List.mem_of_getElem? (i := 1142) (by decide +kernel)⟩
theorem lw_p52 : lw_okq (⟨"NoisePostModel", "matchedMany", "()I"⟩, 28) := ⟨⟨by decide +kernel, by decide +kernel⟩, List.mem_of_getElem? (i := 858) (by decide +kernel), List.mem_of_getElem? (i := 1145) (by decide +kernel), List.mem_of_getElem? (i := 1146) (by decide +kernel)⟩
theorem lw_p53 : lw_okq (⟨"NoisePostModel", "weights", "()I"⟩, 28) := ⟨⟨by decide +kernel, by decide +kernel⟩, List.mem_of_getElem? (i := 858) (by decide +kernel), List.mem_of_getElem? (i := 1149) (by decide +kernel), List.mem_of_getElem? (i := 1150) (by decide +kernel)⟩
theorem lw_p54 : lw_okq (⟨"NoisePostModel", "heaviest", "()I"⟩, 28) := ⟨⟨by decide +kernel, by decide +kernel⟩, List.mem_of_getElem? (i := 858) (by decide +kernel), List.mem_of_getElem? (i := 1153) (by decide +kernel), List.mem_of_getElem? (i := 1154) (by decide +kernel)⟩
theorem lw_p55 : lw_okq (⟨"NoisePostModel", "withSetting", "(III)I"⟩, 28) := ⟨⟨by decide +kernel, by decide +kernel⟩, List.mem_of_getElem? (i := 858) (by decide +kernel), List.mem_of_getElem? (i := 1165) (by decide +kernel), List.mem_of_getElem? (i := 1166) (by decide +kernel)⟩
theorem lw_p56 : lw_okq (⟨"NoisePostModel", "leastNow", "(I)I"⟩, 28) := ⟨⟨by decide +kernel, by decide +kernel⟩, List.mem_of_getElem? (i := 858) (by decide +kernel), List.mem_of_getElem? (i := 1173) (by decide +kernel), List.mem_of_getElem? (i := 1174) (by decide +kernel)⟩
theorem lw_p57 : lw_okq (⟨"NoisePostModel", "aboveNow", "(I)I"⟩, 28) := ⟨⟨by decide +kernel, by decide +kernel⟩, List.mem_of_getElem? (i := 858) (by decide +kernel), List.mem_of_getElem? (i := 1181) (by decide +kernel), List.mem_of_getElem? (i := 1182) (by decide +kernel)⟩
theorem lw_p58 : lw_okq (⟨"NoisePostModel", "shareNow", "()D"⟩, 28) := ⟨⟨by decide +kernel, by decide +kernel⟩, List.mem_of_getElem? (i := 858) (by decide +kernel), List.mem_of_getElem? (i := 1189) (by decide +kernel), List.mem_of_getElem? (i := 1190) (by decide +kernel)⟩
theorem lw_p59 : lw_okq (⟨"NoisePostModel", "mixAll", "()V"⟩, 28) := ⟨⟨by decide +kernel, by decide +kernel⟩, List.mem_of_getElem? (i := 858) (by decide +kernel), List.mem_of_getElem? (i := 1198) (by decide +kernel), List.mem_of_getElem? (i := 1199) (by decide +kernel)⟩
theorem lw_p60 : lw_okq (⟨"NoisePostModel", "mix", "(J)V"⟩, 28) := ⟨⟨by decide +kernel, by decide +kernel⟩, List.mem_of_getElem? (i := 858) (by decide +kernel), List.mem_of_getElem? (i := 1202) (by decide +kernel), List.mem_of_getElem? (i := 1203) (by decide +kernel)⟩
def lw_privs_4 : List (MethodName × Nat) := [(⟨"NoisePostModel", "percentNow", "(I)I"⟩, 28), (⟨"NoisePostModel", "counted", "(I)I"⟩, 28), (⟨"NoisePostModel", "minutesBy", "(II)I"⟩, 28), (⟨"NoisePostModel", "restMany", "()I"⟩, 28), (⟨"NoisePostModel", "matchedMany", "()I"⟩, 28), (⟨"NoisePostModel", "weights", "()I"⟩, 28), (⟨"NoisePostModel", "heaviest", "()I"⟩, 28), (⟨"NoisePostModel", "withSetting", "(III)I"⟩, 28), (⟨"NoisePostModel", "leastNow", "(I)I"⟩, 28), (⟨"NoisePostModel", "aboveNow", "(I)I"⟩, 28), (⟨"NoisePostModel", "shareNow", "()D"⟩, 28), (⟨"NoisePostModel", "mixAll", "()V"⟩, 28), (⟨"NoisePostModel", "mix", "(J)V"⟩, 28)]
theorem lw_r4 : ∀ q ∈ lw_privs_4, lw_okq q := List.forall_mem_cons.mpr ⟨lw_p48, List.forall_mem_cons.mpr ⟨lw_p49, List.forall_mem_cons.mpr ⟨lw_p50, List.forall_mem_cons.mpr ⟨lw_p51, List.forall_mem_cons.mpr ⟨lw_p52, List.forall_mem_cons.mpr ⟨lw_p53, List.forall_mem_cons.mpr ⟨lw_p54, List.forall_mem_cons.mpr ⟨lw_p55, List.forall_mem_cons.mpr ⟨lw_p56, List.forall_mem_cons.mpr ⟨lw_p57, List.forall_mem_cons.mpr ⟨lw_p58, List.forall_mem_cons.mpr ⟨lw_p59, List.forall_mem_cons.mpr ⟨lw_p60, fun _ h => absurd h List.not_mem_nil⟩⟩⟩⟩⟩⟩⟩⟩⟩⟩⟩⟩⟩
def lw_privs : List (MethodName × Nat) := lw_privs_1 ++ (lw_privs_2 ++ (lw_privs_3 ++ (lw_privs_4)))
def lw_tbl : List Cond := k2_sels lw_privs ++ tables_1
theorem lw_privs_ok : ∀ q ∈ lw_privs, lw_okq q := by
  show ∀ q ∈ lw_privs_1 ++ (lw_privs_2 ++ (lw_privs_3 ++ (lw_privs_4))), lw_okq q
  exact List.forall_mem_append.mpr ⟨lw_r1, List.forall_mem_append.mpr ⟨lw_r2, List.forall_mem_append.mpr ⟨lw_r3, lw_r4⟩⟩⟩
/-- the streams that the claim lets the run draw from -/
abbrev lw_cs : List Choice := [Jvm.Choice.named "NaN.bits"]
theorem lw_bits : nanBits ∈ lw_cs := by first | decide | exact List.mem_cons_self | simp [lw_cs, nanBits]
end
section
/-! ===== BEGIN words of one list among another's, by their places ===== -/
theorem goodIn_r {big : List Cond} (ws : List Cond) (ps : List Nat) (hp : ws = ps.filterMap (fun i => big[i]?)) (h : ws.all goodWord = true) : GoodIn big ws := by
  intro w hw
  have h1 := List.all_eq_true.mp h w hw
  rw [hp] at hw
  obtain ⟨i, -, hi⟩ := List.mem_filterMap.mp hw
  have hm : w ∈ big := by first | exact List.mem_of_getElem? hi | exact List.getElem?_mem hi
  exact ⟨hm, good_of_word h1⟩
theorem goodIn_app {big a b : List Cond} (ha : GoodIn big a) (hb : GoodIn big b) : GoodIn big (a ++ b) := fun w h => (List.mem_append.mp h).elim (ha w) (hb w)
theorem goodIn_ca {big a b : List Cond} {c : Cond} (ha : GoodIn big (c :: a)) (hb : GoodIn big b) : GoodIn big (c :: (a ++ b)) := fun w h => (List.mem_cons.mp h).elim (fun e => ha w (List.mem_cons.mpr (Or.inl e))) (fun h => (List.mem_append.mp h).elim (fun h => ha w (List.mem_cons.mpr (Or.inr h))) (hb w))
theorem goodIn_sub {big ws : List Cond} (hm : ∀ w ∈ ws, w ∈ big) (h : ws.all goodWord = true) : GoodIn big ws := fun w hw => ⟨hm w hw, good_of_word (List.all_eq_true.mp h w hw)⟩
/-! ===== END ===== -/

/-! ===== BEGIN exceptions that leave a method, and their catching by the caller (launches without stack traces) ===== -/
section VXA
/-! The laws vx_back, vx_callV, vx_callS, vx_callSW, vx_throw0, vx_throwS follow proofs of the library, with one case more: JvmDerived/Free/Laws.lean (Back.of_free), Shelf42/LK1.lean (callV, callS), Shelf/KitTraced.lean (throwNew0V, throwNewS). -/
/-- where a method has thrown q: the class by its name, the cell, what was written, the world -/
def vx_T (XC : String → State → State → Prop) (st : State) (q : Addr) (t : State) (mc ms : Nat) (free : Addr → Prop) : Prop :=
  ∃ (E : String) (ce : Cell) (L : List Loc), XC E st t ∧ t.heap[q]? = some ce ∧ ce.vm = .none ∧ st.vm.findClass E = some ce.cls ∧ st.WarmedH t.vm ∧ st.sameButNew ({ t with vm := st.vm } : State) L mc ms ∧ ∀ z ∈ L, free z.base
def vx_Q (Qc : Array Value → State → Outcome → State → Prop) (XC : String → State → State → Prop) (mc ms : Nat) (free : Addr → Prop) : Array Value → State → Outcome → State → Prop := fun a st o t =>
  (Qc a st o t ∧ ∃ L, FrameEnd st o t L mc ms ∧ ∀ q ∈ L, free q.base) ∨ ∃ q, o = .threw q ∧ vx_T XC st q t mc ms free
/-- a callee that returns or throws -/
def vx_Met (l : Launch) (y : MethodName) (ws : List Cond) (rm : Room) (Pc : Array Value → State → Prop) (Qc : Array Value → State → Outcome → State → Prop) (XC : String → State → State → Prop) (mc ms : Nat) (free : Addr → Prop) : Prop :=
  MetFree l y (headSpec ws rm) Pc (fun _ _ _ _ _ => True) (vx_Q Qc XC mc ms free)
def vx_Post (XC : String → State → State → Prop) (mc ms : Nat) (free : Addr → Prop) : Pt → Array Value → Addr → Pt → Prop := fun A a q B =>
  ∃ (g : JFrame) (mk : MethodId) (t : State) (L : List Loc) (E : String) (ce : Cell), B.U.heap = t.heap ∧ B.U.vm = t.vm ∧ XC E (A.U.calling g mk a) t ∧ t.heap[q]? = some ce ∧ ce.vm = .none ∧ A.U.vm.findClass E = some ce.cls ∧ B.locs = A.locs ++ L ∧ (∀ z ∈ L, free z.base) ∧ B.cells = A.cells + mc ∧ B.slots = A.slots + ms
def vx_Back (l : Launch) (R : Room) (p : Program) (e : Env) (below : List Frame) (s : State) (sargs : Array Value) (y : MethodName) (len W9 : Nat)
    (Pre : Pt → Array Value → Prop) (Post : Pt → Array Value → Option Value → Pt → Prop) (PostX : Pt → Array Value → Addr → Pt → Prop) : Prop :=
  ∀ (m : MethodId) (meth : Method) (c : Code) (A : Pt) (g : JFrame) (ig : Instr) (mk : MethodId) (a : Array Value),
    Stand p l e R s m sargs below meth c A.U A.locs A.cells A.slots → g.method = m → g.locals.size = c.maxLocals → decode c.code g.pc = .ok (ig, len) →
    2 * g.monitorRoom + (g.stack.map fun v => v.category).sum ≤ W9 → A.U.methodNamed? y = some mk → Pre A a →
    (∃ (v : Option Value) (B : Pt), Stand p l e R s m sargs below meth c B.U B.locs B.cells B.slots ∧ Post A a v B ∧
      Steps p.tables e below (doInvoke e (A.U.setTop g) [] mk a).1 (B.U.setTop { g with pc := g.pc + len, stack := v.toList ++ g.stack })) ∨
    (∃ (q : Addr) (B : Pt), Stand p l e R s m sargs below meth c B.U B.locs B.cells B.slots ∧ PostX A a q B ∧
      Steps p.tables e below (doInvoke e (A.U.setTop g) [] mk a).1 ((B.U.setTop g).pushFrame (.throwing q)))
section Payer
variable {l : Launch} {R : Room} {p : Program} {e : Env} {below : List Frame} {s : State} {sargs : Array Value} {y : MethodName} {len W9 : Nat}
theorem vx_back {ws : List Cond} {rm : Room} {Pc : Array Value → State → Prop} {Qc : Array Value → State → Outcome → State → Prop} {XC : String → State → State → Prop} {mc ms : Nat} {free : Addr → Prop} {bytes : ByteArray} {maxL : Nat} {ret : Option FieldType}
    (hM : vx_Met l y ws rm Pc Qc XC mc ms free) (hblind : FrameBlind Pc) (hrc : rm.cells = mc) (hrs : rm.slots = ms)
    (hframes : rm.frames + 1 ≤ R.frames) (hlocals : W9 + (maxL + 11) + rm.locals ≤ R.locals)
    (hws : ∀ w ∈ ws, ∀ a' U, s.WarmedH U.vm → w.before a' U = true) (hcode : Cond.code y bytes maxL ret ∈ ws) (hinit : ∀ a' U, s.WarmedH U.vm → (Cond.initialized y.cls).before a' U = true) :
    vx_Back l R p e below s sargs y len W9 (PreOf R mc ms Pc) (PostOf Qc mc ms free) (vx_Post XC mc ms free) := by
  intro m meth c A g ig mk a X hg hsize hdg hW hn hp
  have h1 : (headSpec ws rm).pre.before a A.U = true := atoms_intro fun w hw => hws w hw _ _ X.warmed
  have h2 : (Cond.code y bytes maxL ret).before a A.U = true := hws _ hcode _ _ X.warmed
  have h3 : (Cond.initialized y.cls).before a A.U = true := hinit _ _ X.warmed
  have h4 : A.cells + (headSpec ws rm).room.cells ≤ R.cells := by rw [show (headSpec ws rm).room.cells = mc from hrc]; exact hp.1
  have h5 : A.slots + (headSpec ws rm).room.slots ≤ R.slots := by rw [show (headSpec ws rm).room.slots = ms from hrs]; exact hp.2.1
  have hPc : Pc a (A.U.calling g mk a) := hblind _ _ _ _ hp.2.2
  obtain ⟨U, Ls, c0, s0⟩ := A
  dsimp only [Pt.U, Pt.locs, Pt.cells, Pt.slots] at h1 h2 h3 h4 h5 X hn hPc ⊢
  obtain ⟨methY, cY, hmY, hcY, -, hlY, -, -, -, -⟩ := Cond.code_spec hn h2
  obtain ⟨kY, hkY, -⟩ := className_of_methodNamed hn
  have hinitY : kY.init = .initialized := Cond.initialized_spec (findClass_of_methodNamed hn) hkY h3
  have h : At U g.method c below := by rw [hg]; exact X.here
  have hlocals9 : W9 + (maxL + 11) + (headSpec ws rm).room.locals ≤ R.locals := hlocals
  have happ : (headSpec ws rm).appliesLoose y e.platform (U.calling g mk a) = true :=
    Spec.appliesLoose_calling (g := g) h hdg hn hkY hinitY
      (X.room_calling (g := g) (R' := (headSpec ws rm).room) hsize hmY hcY hframes (by rw [hlY]; omega) h4 h5) h1
  obtain ⟨mid, hmid⟩ := h.above
  have hfr : (U.setTop g).frames = (.java g :: mid) ++ below := by rw [State.frames_setTop' g h.top, hmid]; rfl
  obtain ⟨o, s₂, hsteps, -, hend, hq⟩ := Steps.callFree hM p X.admits X.cas X.clock (acts := []) hfr happ hPc trivial
  have hq' : vx_Q Qc XC mc ms free a (U.calling g mk a) o s₂ := hq
  rw [State.frames_setTop' g h.top] at hend
  obtain ⟨g₀, hg0⟩ := Option.isSome_iff_exists.mp h.top
  obtain ⟨r, hr⟩ := State.topJava?_eq_some.mp hg0
  have hr' : (({ U with heap := s₂.heap, slotsUsed := s₂.slotsUsed } : State).setVm s₂.vm).frames = .java g₀ :: r := hr
  rcases hq' with ⟨hqc, L, hfe, hL⟩ | ⟨q, rfl, E, ce, L, hx, hce, hcv, hcl, hW₂, hsm, hL⟩
  · obtain ⟨⟨v, rfl⟩, hW₂, e2, q2, q3, q4, q5, q6⟩ := id hfe
    have e3 : s₂ = ({ (U.calling g mk a).setFrames s₂.frames with heap := s₂.heap, slotsUsed := s₂.slotsUsed } : State).setVm s₂.vm := by
      have : s₂ = ({ s₂ with vm := (U.calling g mk a).vm } : State).setVm s₂.vm := rfl
      rw [e2] at this
      exact this
    obtain ⟨c₂, i₂, len₂, hc₂, hd₂, hf₂⟩ := hend
    have hW' : U.WarmedH s₂.vm := hW₂
    have hcc : c₂ = c := by
      have h1 : s₂.code? g.method = U.code? g.method := by
        rw [State.code?_eq, State.code?_eq, hW'.alike.method?]
      exact Option.some.inj (hc₂.symm.trans (h1.trans h.code))
    subst hcc
    have hlen : len₂ = len := by rw [hdg] at hd₂; cases hd₂; rfl
    subst hlen
    have hs₂ : s₂ = (({ U with heap := s₂.heap, slotsUsed := s₂.slotsUsed } : State).setVm s₂.vm).setTop { g with pc := g.pc + len₂, stack := v.toList ++ g.stack } := by
      refine e3.trans ?_
      rw [hf₂, State.calling_eq h.top, State.setFrames_setFrames, State.setTop_of_frames _ hr', hr]
      rfl
    have hsame : U.sameButNew ({ U with heap := s₂.heap, slotsUsed := s₂.slotsUsed } : State) L mc ms := by
      refine ⟨?_, q2, q3, q4, q5, q6⟩
      obtain ⟨t, ht, -⟩ := State.frames_cons hr
      show ({ U with heap := s₂.heap, slotsUsed := s₂.slotsUsed } : State) = { U.setFrames U.frames with heap := s₂.heap, slotsUsed := s₂.slotsUsed }
      rw [State.setFrames_self ht]
    subst hg
    refine Or.inl ⟨v, ⟨(({ U with heap := s₂.heap, slotsUsed := s₂.slotsUsed } : State).setVm s₂.vm), Ls ++ L, c0 + mc, s0 + ms⟩,
      ⟨X.admits, X.cas, X.clock, X.frames, X.room, X.hears, X.method, X.code, (X.here.setHeapUsed s₂.heap s₂.slotsUsed).setVm hW'.alike, X.tail, State.WarmedH.trans X.warmed hW', X.limits, X.bytes, X.same.trans (hsame.setVm s.vm)⟩,
      ⟨g, mk, s₂, L, rfl, rfl, hqc, rfl, hL, rfl, rfl⟩, ?_⟩
    show Steps p.tables e below _ ((({ U with heap := s₂.heap, slotsUsed := s₂.slotsUsed } : State).setVm s₂.vm).setTop { g with pc := g.pc + len₂, stack := v.toList ++ g.stack })
    rw [← hs₂]
    exact hsteps
  · obtain ⟨e2, q2, q3, q4, q5, q6⟩ := id hsm
    have e3 : s₂ = ({ (U.calling g mk a).setFrames s₂.frames with heap := s₂.heap, slotsUsed := s₂.slotsUsed } : State).setVm s₂.vm := by
      have : s₂ = ({ s₂ with vm := (U.calling g mk a).vm } : State).setVm s₂.vm := rfl
      rw [e2] at this
      exact this
    have hf₂ : s₂.frames = .throwing q :: .java g :: U.frames.tail := hend
    have hW' : U.WarmedH s₂.vm := hW₂
    have hs₂ : s₂ = ((({ U with heap := s₂.heap, slotsUsed := s₂.slotsUsed } : State).setVm s₂.vm).setTop g).pushFrame (.throwing q) := by
      refine e3.trans ?_
      rw [hf₂, State.calling_eq h.top, State.setFrames_setFrames, State.pushFrame, State.frames_setTop _ hr', State.setTop_of_frames _ hr', State.setFrames_setFrames, hr]
      rfl
    have hsame : U.sameButNew ({ U with heap := s₂.heap, slotsUsed := s₂.slotsUsed } : State) L mc ms := by
      refine ⟨?_, q2, q3, q4, q5, q6⟩
      obtain ⟨t, ht, -⟩ := State.frames_cons hr
      show ({ U with heap := s₂.heap, slotsUsed := s₂.slotsUsed } : State) = { U.setFrames U.frames with heap := s₂.heap, slotsUsed := s₂.slotsUsed }
      rw [State.setFrames_self ht]
    subst hg
    refine Or.inr ⟨q, ⟨(({ U with heap := s₂.heap, slotsUsed := s₂.slotsUsed } : State).setVm s₂.vm), Ls ++ L, c0 + mc, s0 + ms⟩,
      ⟨X.admits, X.cas, X.clock, X.frames, X.room, X.hears, X.method, X.code, (X.here.setHeapUsed s₂.heap s₂.slotsUsed).setVm hW'.alike, X.tail, State.WarmedH.trans X.warmed hW', X.limits, X.bytes, X.same.trans (hsame.setVm s.vm)⟩,
      ⟨g, mk, s₂, L, E, ce, rfl, rfl, hx, hce, hcv, hcl, rfl, hL, rfl, rfl⟩, ?_⟩
    show Steps p.tables e below _ (((({ U with heap := s₂.heap, slotsUsed := s₂.slotsUsed } : State).setVm s₂.vm).setTop g).pushFrame (.throwing q))
    rw [← hs₂]
    exact hsteps
end Payer
section Calls
variable {p : Program} {l : Launch} {e : Env} {R : Room} {s : State} {m : MethodId} {args : Array Value} {below : List Frame} {meth : Method} {c : Code} {T : State} {locs : List Loc} {cells slots : Nat}
theorem vx_callV (X : Stand p l e R s m args below meth c T locs cells slots) (hexec : p.tables.exec = Jvm.exec) {own C : String} {index : Nat} {y : MethodName} {bytes : ByteArray} {maxL : Nat} {ret : Option FieldType}
    (hown : s.vm.findClass own = some m.cls) (hlink : (Cond.methodLink own index y).before args s = true) (hinst : (Cond.instanceMethod y).before args s = true) (hsel : (Cond.selects C y y).before args s = true)
    (hcode : (Cond.code y bytes maxL ret).before args s = true) (hy : y.cls ≠ "java/lang/invoke/MethodHandle" ∧ y.cls ≠ "java/lang/invoke/VarHandle")
    {W9 : Nat} {Pre : Pt → Array Value → Prop} {Post : Pt → Array Value → Option Value → Pt → Prop} {PostX : Pt → Array Value → Addr → Pt → Prop} (hK : vx_Back l R p e below s args y 3 W9 Pre Post PostX)
    {b : Addr} {cellB : Cell} (hcell : T.heap[b]? = some cellB) (hobj : cellB.vm.isStatics = false) (hcls : s.vm.findClass C = some cellB.cls)
    {g : JFrame} (hg : g.method = m) (hsize : g.locals.size = c.maxLocals) {argsL rest : List Value} (hlen : ∀ sig, parseMethodDescriptor y.desc = some sig → argsL.length = sig.parameters.length)
    (hstack : g.stack = argsL.reverse ++ .ref b :: rest) (hW : 2 * g.monitorRoom + (rest.map fun v => v.category).sum ≤ W9) (hdg : decode c.code g.pc = .ok (.invokevirtual index, 3))
    (hpre : ∀ vm₁, s.WarmedH vm₁ → Pre ⟨T.setVm vm₁, locs, cells, slots⟩ (Value.ref b :: argsL).toArray) :
    (∃ (v : Option Value) (vm₁ : Vm) (B : Pt), s.WarmedH vm₁ ∧ Stand p l e R s m args below meth c B.U B.locs B.cells B.slots ∧ Post ⟨T.setVm vm₁, locs, cells, slots⟩ (Value.ref b :: argsL).toArray v B ∧
      ∀ target, Steps p.tables e below (B.U.setTop { g with pc := g.pc + 3, stack := v.toList ++ rest }) target → Steps p.tables e below (T.setTop g) target) ∨
    (∃ (q : Addr) (vm₁ : Vm) (B : Pt), s.WarmedH vm₁ ∧ Stand p l e R s m args below meth c B.U B.locs B.cells B.slots ∧ PostX ⟨T.setVm vm₁, locs, cells, slots⟩ (Value.ref b :: argsL).toArray q B ∧
      Steps p.tables e below (T.setTop g) ((B.U.setTop { g with stack := rest }).pushFrame (.throwing q))) := by
  obtain ⟨mk, methM, hnamed, hmethM, hstM, habM⟩ := Cond.instanceMethod_spec hinst
  obtain ⟨methM', cM, hmethM', -, -, -, -, -, -, hsigM⟩ := Cond.code_spec hnamed hcode
  cases hmethM.symm.trans hmethM'
  obtain ⟨c2, r2, m2, q1, q2, q3, q4, kP, hkP, hkPi⟩ := Cond.selects_spec hsel
  cases hcls.symm.trans q1
  cases (State.methodFound?_of_named hnamed hy).symm.trans q2
  cases hnamed.symm.trans q3
  have hselP : selectMethod e.platform s.vm cellB.cls mk = .method mk := by rw [Launch.admits_selectMethod X.admits]; exact q4
  obtain ⟨vm₁, X₁, hstep₁⟩ := X.invokevirtual hexec hown hlink hnamed hmethM hstM hkP hkPi hy (a := b) (cell := cellB) hcell
    (fun z h => by rw [h] at hobj; cases hobj) hselP hmethM habM hkP hkPi (g := g) hg (argsL := argsL) (rest := rest) (hlen _ hsigM) hstack hdg
  rcases hK m meth c ⟨T.setVm vm₁, locs, cells, slots⟩ { g with stack := rest } (.invokevirtual index) mk (Value.ref b :: argsL).toArray X₁ hg hsize hdg hW (X₁.named hnamed) (hpre vm₁ X₁.warmed) with ⟨v, B, X', hpost, hsteps⟩ | ⟨q, B, X', hpost, hsteps⟩
  · exact Or.inl ⟨v, vm₁, B, X₁.warmed, X', hpost, fun target h => hstep₁ _ fun acts => by rw [doInvoke_state]; exact hsteps.trans h⟩
  · exact Or.inr ⟨q, vm₁, B, X₁.warmed, X', hpost, hstep₁ _ fun acts => by rw [doInvoke_state]; exact hsteps⟩
theorem vx_callS (X : Stand p l e R s m args below meth c T locs cells slots) (hexec : p.tables.exec = Jvm.exec) {own : String} {index : Nat} {y : MethodName} {bytes : ByteArray} {maxL : Nat} {ret : Option FieldType}
    (hown : s.vm.findClass own = some m.cls) (hlink : (Cond.methodLink own index y).before args s = true) (hstat : (Cond.static y).before args s = true) (hinit : (Cond.initialized y.cls).before args s = true)
    (hcode : (Cond.code y bytes maxL ret).before args s = true) (hy : y.cls ≠ "java/lang/invoke/MethodHandle" ∧ y.cls ≠ "java/lang/invoke/VarHandle")
    {W9 : Nat} {Pre : Pt → Array Value → Prop} {Post : Pt → Array Value → Option Value → Pt → Prop} {PostX : Pt → Array Value → Addr → Pt → Prop} (hK : vx_Back l R p e below s args y 3 W9 Pre Post PostX)
    {g : JFrame} (hg : g.method = m) (hsize : g.locals.size = c.maxLocals) {argsL rest : List Value} (hlen : ∀ sig, parseMethodDescriptor y.desc = some sig → argsL.length = sig.parameters.length)
    (hstack : g.stack = argsL.reverse ++ rest) (hW : 2 * g.monitorRoom + (rest.map fun v => v.category).sum ≤ W9) (hdg : decode c.code g.pc = .ok (.invokestatic index, 3))
    (hpre : ∀ vm₁, s.WarmedH vm₁ → Pre ⟨T.setVm vm₁, locs, cells, slots⟩ argsL.toArray) :
    (∃ (v : Option Value) (vm₁ : Vm) (B : Pt), s.WarmedH vm₁ ∧ Stand p l e R s m args below meth c B.U B.locs B.cells B.slots ∧ Post ⟨T.setVm vm₁, locs, cells, slots⟩ argsL.toArray v B ∧
      ∀ target, Steps p.tables e below (B.U.setTop { g with pc := g.pc + 3, stack := v.toList ++ rest }) target → Steps p.tables e below (T.setTop g) target) ∨
    (∃ (q : Addr) (vm₁ : Vm) (B : Pt), s.WarmedH vm₁ ∧ Stand p l e R s m args below meth c B.U B.locs B.cells B.slots ∧ PostX ⟨T.setVm vm₁, locs, cells, slots⟩ argsL.toArray q B ∧
      Steps p.tables e below (T.setTop g) ((B.U.setTop { g with stack := rest }).pushFrame (.throwing q))) := by
  obtain ⟨mk, hnamed⟩ := Cond.code_named hcode
  obtain ⟨methM, cM, hmethM, -, -, -, -, -, -, hsigM⟩ := Cond.code_spec hnamed hcode
  have hstatic : methM.isStatic = true := Cond.static_spec hnamed hmethM hstat
  obtain ⟨kP, hkP, -⟩ := className_of_methodNamed hnamed
  have hinitP : kP.init = .initialized := Cond.initialized_spec (findClass_of_methodNamed hnamed) hkP hinit
  obtain ⟨vm₁, X₁, hstep₁⟩ := X.invokestatic hexec hown hlink hnamed hmethM hstatic hkP hinitP hy (g := g) hg (argsL := argsL) (rest := rest) (hlen _ hsigM) hstack hdg
  rcases hK m meth c ⟨T.setVm vm₁, locs, cells, slots⟩ { g with stack := rest } (.invokestatic index) mk argsL.toArray X₁ hg hsize hdg hW (X₁.named hnamed) (hpre vm₁ X₁.warmed) with ⟨v, B, X', hpost, hsteps⟩ | ⟨q, B, X', hpost, hsteps⟩
  · exact Or.inl ⟨v, vm₁, B, X₁.warmed, X', hpost, fun target h => hstep₁ _ fun acts => by rw [doInvoke_state]; exact hsteps.trans h⟩
  · exact Or.inr ⟨q, vm₁, B, X₁.warmed, X', hpost, hstep₁ _ fun acts => by rw [doInvoke_state]; exact hsteps⟩
end Calls
theorem vx_cls {s : State} {T : State} {vm₁ : Vm} {E : String} {k : ClassId} (hW : s.WarmedH vm₁) (h : (T.setVm vm₁).vm.findClass E = some k) : s.vm.findClass E = some k := by
  have h1 : vm₁.findClass E = some k := h
  rw [hW.alike.findClass] at h1
  exact h1
/-- the method's frame g, with q thrown over it -/
def vx_W (p : Program) (l : Launch) (e : Env) (R : Room) (s : State) (m : MethodId) (args : Array Value) (below : List Frame) (meth : Method) (c : Code) (H : Heap) (locs : List Loc) (cells slots : Nat) (Q : State → Prop) (g : JFrame) (q : Addr) : Prop :=
  ∀ T : State, T.heap = H → Stand p l e R s m args below meth c T locs cells slots → ∃ t, Steps p.tables e below ((T.setTop g).pushFrame (.throwing q)) t ∧ Q t
def vx_Run (p : Program) (l : Launch) (e : Env) (R : Room) (s : State) (m : MethodId) (args : Array Value) (below : List Frame) (meth : Method) (c : Code) (H : Heap) (locs : List Loc) (cells slots mc ms : Nat) (g : JFrame) (rest : List Value) (Qa : State → Outcome → State → Prop) (XC : String → State → State → Prop) (free : Addr → Prop) : Prop :=
  ∀ T : State, T.heap = H → Stand p l e R s m args below meth c T locs cells slots →
    (∃ (v : Option Value) (st₀ t T' : State) (L : List Loc), st₀.heap = H ∧ Stand p l e R s m args below meth c T' (locs ++ L) (cells + mc) (slots + ms) ∧ (∀ q ∈ L, free q.base) ∧ T'.heap = t.heap ∧ T'.vm = t.vm ∧ Qa st₀ (.returned v) t ∧
      Goes p e below T g T' { g with pc := g.pc + 3, stack := v.toList ++ rest }) ∨
    (∃ (q : Addr) (st₀ t T' : State) (L : List Loc) (E : String) (ce : Cell), st₀.heap = H ∧ Stand p l e R s m args below meth c T' (locs ++ L) (cells + mc) (slots + ms) ∧ (∀ z ∈ L, free z.base) ∧ T'.heap = t.heap ∧ T'.vm = t.vm ∧ XC E st₀ t ∧ t.heap[q]? = some ce ∧ ce.vm = .none ∧ s.vm.findClass E = some ce.cls ∧
      Steps p.tables e below (T.setTop g) ((T'.setTop { g with stack := rest }).pushFrame (.throwing q)))
def vx_X {S : Type} (px : S → Prop) (B : String → S → State → Prop) (A : Nat → Prop) : String → State → State → Prop := fun E st t => ∃ u : S, px u ∧ B E u t ∧ va_F A st t
section Runs
variable {p : Program} {l : Launch} {e : Env} {R : Room} {s : State} {m : MethodId} {args : Array Value} {below : List Frame} {meth : Method} {c : Code} {H : Heap} {locs : List Loc} {cells slots : Nat}
variable {y : MethodName} {bytes cc : ByteArray} {maxL nL mc ms n index : Nat} {ret : Option FieldType} {ws : List Cond} {rm : Room} {Pc : Array Value → State → Prop} {Qc : Array Value → State → Outcome → State → Prop} {XC : String → State → State → Prop} {free : Addr → Prop} {Ts : List Cond} {own C : String} {b : Addr} {As rest : List Value} {g : JFrame}
theorem vx_callBack (cb : CallB R s args own index y bytes maxL ret ws rm mc ms n) (hM : vx_Met l y ws rm Pc Qc XC mc ms free) (hbl : FrameBlind Pc) : vx_Back l R p e below s args y 3 8 (PreOf R mc ms Pc) (PostOf Qc mc ms free) (vx_Post XC mc ms free) := by
  obtain ⟨hrc, hrs, hfr, hlo, hws, hcw, -, hini, -⟩ := cb
  exact vx_back (bytes := bytes) (maxL := maxL) (ret := ret) hM hbl hrc hrs hfr hlo hws hcw (fun a' U hW => word_at hW (Or.inl (by first | rfl | simp [Cond.onTables, Cond.keeps, Cond.steady])) hini)
theorem vx_runV (S : CallFix p m c cc nL s args Ts own) (hM : vx_Met l y ws rm Pc Qc XC mc ms free) (cw : CallW R s args own C index y bytes maxL ret ws rm mc ms n) (hp : PreV s H C b Pc As)
    (hg : g.method = m) (hn : As.length = n) (hsize : g.locals.size = nL) (hstack : g.stack = As.reverse ++ .ref b :: rest) (hW : 2 * g.monitorRoom + (rest.map fun v => v.category).sum ≤ 8) (hdg : decode cc g.pc = .ok (.invokevirtual index, 3)) (hf : cells + mc ≤ R.cells ∧ slots + ms ≤ R.slots) :
    vx_Run p l e R s m args below meth c H locs cells slots mc ms g rest (Qc (Value.ref b :: As).toArray) XC free := by
  have hK : vx_Back l R p e below s args y 3 8 (PreOf R mc ms Pc) (PostOf Qc mc ms free) (vx_Post XC mc ms free) := vx_callBack cw.1 hM hp.1
  obtain ⟨⟨-, -, -, -, -, -, hcode, -, hy, hlen, hl⟩, hin, hse⟩ := cw
  obtain ⟨hx, hb, hml, ho, -⟩ := S
  obtain ⟨-, ⟨cellB, hcB, hoB, hclB⟩, hPc⟩ := hp
  intro T hT X
  rcases vx_callV X hx (C := C) (bytes := bytes) (maxL := maxL) (ret := ret) ho hl hin hse hcode hy hK (by rw [hT]; exact hcB) hoB hclB hg (hsize.trans hml.symm) (argsL := As) (rest := rest) (fun sig h => hn.trans (hlen sig h)) hstack hW (by rw [hb]; exact hdg)
    (fun vm₁ hW₁ => ⟨hf.1, hf.2, hPc (T.setVm vm₁) hT hW₁⟩) with ⟨v, vm₁, ⟨U', l2, c2, s2⟩, hW₁, X', ⟨g', mk, t, L, e1, e2, hq, h1, hL, h2, h3⟩, st⟩ | ⟨q, vm₁, ⟨U', l2, c2, s2⟩, hW₁, X', ⟨g', mk, t, L, E, ce, e1, e2, hq, hce, hcv, hcl, h1, hL, h2, h3⟩, st⟩
  · dsimp only [Pt.U, Pt.locs, Pt.cells, Pt.slots] at X' e1 e2 h1 h2 h3 st
    subst h1; subst h2; subst h3
    exact Or.inl ⟨v, (T.setVm vm₁).calling g' mk (Value.ref b :: As).toArray, t, U', L, hT, X', hL, e1, e2, hq, st⟩
  · dsimp only [Pt.U, Pt.locs, Pt.cells, Pt.slots] at X' e1 e2 h1 h2 h3 st hcl
    subst h1; subst h2; subst h3
    exact Or.inr ⟨q, (T.setVm vm₁).calling g' mk (Value.ref b :: As).toArray, t, U', L, E, ce, hT, X', hL, e1, e2, hq, hce, hcv, vx_cls hW₁ hcl, st⟩
theorem vx_runS (S : CallFix p m c cc nL s args Ts own) (hM : vx_Met l y ws rm Pc Qc XC mc ms free) (cw : CallB R s args own index y bytes maxL ret ws rm mc ms n ∧ (Cond.static y).before args s = true) (hp : PreS s H Pc As)
    (hg : g.method = m) (hn : As.length = n) (hsize : g.locals.size = nL) (hstack : g.stack = As.reverse ++ rest) (hW : 2 * g.monitorRoom + (rest.map fun v => v.category).sum ≤ 8) (hdg : decode cc g.pc = .ok (.invokestatic index, 3)) (hf : cells + mc ≤ R.cells ∧ slots + ms ≤ R.slots) :
    vx_Run p l e R s m args below meth c H locs cells slots mc ms g rest (Qc As.toArray) XC free := by
  have hK : vx_Back l R p e below s args y 3 8 (PreOf R mc ms Pc) (PostOf Qc mc ms free) (vx_Post XC mc ms free) := vx_callBack cw.1 hM hp.1
  obtain ⟨⟨-, -, -, -, -, -, hcode, hini, hy, hlen, hl⟩, hstt⟩ := cw
  obtain ⟨hx, hb, hml, ho, -⟩ := S
  intro T hT X
  rcases vx_callS X hx (bytes := bytes) (maxL := maxL) (ret := ret) ho hl hstt hini hcode hy hK hg (hsize.trans hml.symm) (argsL := As) (rest := rest) (fun sig h => hn.trans (hlen sig h)) hstack hW (by rw [hb]; exact hdg)
    (fun vm₁ hW₁ => ⟨hf.1, hf.2, hp.2 (T.setVm vm₁) hT hW₁⟩) with ⟨v, vm₁, ⟨U', l2, c2, s2⟩, hW₁, X', ⟨g', mk, t, L, e1, e2, hq, h1, hL, h2, h3⟩, st⟩ | ⟨q, vm₁, ⟨U', l2, c2, s2⟩, hW₁, X', ⟨g', mk, t, L, E, ce, e1, e2, hq, hce, hcv, hcl, h1, hL, h2, h3⟩, st⟩
  · dsimp only [Pt.U, Pt.locs, Pt.cells, Pt.slots] at X' e1 e2 h1 h2 h3 st
    subst h1; subst h2; subst h3
    exact Or.inl ⟨v, (T.setVm vm₁).calling g' mk As.toArray, t, U', L, hT, X', hL, e1, e2, hq, st⟩
  · dsimp only [Pt.U, Pt.locs, Pt.cells, Pt.slots] at X' e1 e2 h1 h2 h3 st hcl
    subst h1; subst h2; subst h3
    exact Or.inr ⟨q, (T.setVm vm₁).calling g' mk As.toArray, t, U', L, E, ce, hT, X', hL, e1, e2, hq, hce, hcv, vx_cls hW₁ hcl, st⟩
end Runs
section Rows
variable {p : Program} {l : Launch} {e : Env} {R : Room} {s : State} {m : MethodId} {args : Array Value} {below : List Frame} {meth : Method} {c : Code} {H : Heap} {locs : List Loc} {cells slots : Nat} {Q : State → Prop}
variable {mc ms : Nat} {free : Addr → Prop} {A0 A1 : Nat → Prop} {H0 : Heap} {a : Array Value} {pc : Nat} {ls : Array Slot} {st0 rest : List Value}
theorem vx_keep {st₀ t T' : State} {L : List Loc} (h0 : st₀.heap = H) (e1 : T'.heap = t.heap) (hS : va_S A0 H0 H locs) (hA : ∀ q, q < H.size → A1 q → A0 q) (hf : ∀ q, free q → A0 q) (hL : ∀ q ∈ L, free q.base) (hF : va_F A1 st₀ t) :
    H.size ≤ T'.heap.size ∧ (∀ q : Nat, q < H.size → ¬ A1 q → T'.heap[q]? = H[q]?) ∧ va_S A0 H0 T'.heap (locs ++ L) := by
  obtain ⟨hz, hk⟩ := hF
  rw [h0] at hz hk
  exact ⟨by rw [e1]; exact hz, fun q h1 h2 => by rw [e1]; exact hk q h1 h2,
    ⟨Nat.le_trans hS.1 (by rw [e1]; exact hz), fun q h1 h2 => by rw [e1, hk q (Nat.lt_of_lt_of_le h1 hS.1) (fun z => h2 (hA q (Nat.lt_of_lt_of_le h1 hS.1) z))]; exact hS.2.1 q h1 h2, fun q hq => by
      rcases List.mem_append.mp hq with h | h
      · exact hS.2.2 q h
      · exact hf _ (hL q h)⟩⟩
theorem vx_calli {S SX : Type} {post : Int32 → S → Prop} {px : SX → Prop} {B : S → State → Prop} {BX : String → SX → State → Prop} {AX : Nat → Prop} (hr : vx_Run p l e R s m args below meth c H locs cells slots mc ms (F0 m pc ls st0) rest (va_Qi post B A1 a) (vx_X px BX AX) free) (hS : va_S A0 H0 H locs) (hA : ∀ q, q < H.size → A1 q → A0 q) (hf : ∀ q, free q → A0 q) (hAX : ∀ q, q < H.size → AX q → A0 q)
    (kx : ∀ (E : String) (ce : Cell) (q9 : Addr) (u : SX) (t : State) (H1 : Heap) (locs1 : List Loc), t.heap = H1 → s.vm.Alike t.vm → px u → BX E u t → H.size ≤ H1.size → (∀ q : Nat, q < H.size → ¬ AX q → H1[q]? = H[q]?) → va_S A0 H0 H1 locs1 → H1[q9]? = some ce → ce.vm = .none → s.vm.findClass E = some ce.cls → vx_W p l e R s m args below meth c H1 locs1 (cells + mc) (slots + ms) Q (F0 m pc ls rest) q9)
    (kk : ∀ (r : Int32) (u : S) (t : State) (H1 : Heap) (locs1 : List Loc), t.heap = H1 → s.vm.Alike t.vm → post r u → B u t → H.size ≤ H1.size → (∀ q : Nat, q < H.size → ¬ A1 q → H1[q]? = H[q]?) → va_S A0 H0 H1 locs1 → W p l e R s m args below meth c H1 locs1 (cells + mc) (slots + ms) Q (F0 m (pc + 3) ls (.int r :: rest))) : W p l e R s m args below meth c H locs cells slots Q (F0 m pc ls st0) := by
  intro T hT X
  rcases hr T hT X with ⟨v, st₀, t, T', L, h0, X', hL, e1, e2, ⟨⟨r, u, hv, hp, hb⟩, hF⟩, st⟩ | ⟨q, st₀, t, T', L, E, ce, h0, X', hL, e1, e2, ⟨u, hp, hb, hF⟩, hce, hcv, hcl, st⟩
  · cases hv
    obtain ⟨k1, k2, k3⟩ := vx_keep h0 e1 hS hA hf hL hF
    obtain ⟨t2, a1, b1⟩ := kk r u t T'.heap (locs ++ L) e1.symm (by rw [← e2]; exact X'.warmed.alike) hp hb k1 k2 k3 T' rfl X'
    exact ⟨t2, st t2 a1, b1⟩
  · obtain ⟨k1, k2, k3⟩ := vx_keep h0 e1 hS hAX hf hL hF
    obtain ⟨t2, a1, b1⟩ := kx E ce q u t T'.heap (locs ++ L) e1.symm (by rw [← e2]; exact X'.warmed.alike) hp hb k1 k2 k3 (by rw [e1]; exact hce) hcv hcl T' rfl X'
    exact ⟨t2, st.trans a1, b1⟩
theorem vx_calll {S SX : Type} {post : Int64 → S → Prop} {px : SX → Prop} {B : S → State → Prop} {BX : String → SX → State → Prop} {AX : Nat → Prop} (hr : vx_Run p l e R s m args below meth c H locs cells slots mc ms (F0 m pc ls st0) rest (va_Ql post B A1 a) (vx_X px BX AX) free) (hS : va_S A0 H0 H locs) (hA : ∀ q, q < H.size → A1 q → A0 q) (hf : ∀ q, free q → A0 q) (hAX : ∀ q, q < H.size → AX q → A0 q)
    (kx : ∀ (E : String) (ce : Cell) (q9 : Addr) (u : SX) (t : State) (H1 : Heap) (locs1 : List Loc), t.heap = H1 → s.vm.Alike t.vm → px u → BX E u t → H.size ≤ H1.size → (∀ q : Nat, q < H.size → ¬ AX q → H1[q]? = H[q]?) → va_S A0 H0 H1 locs1 → H1[q9]? = some ce → ce.vm = .none → s.vm.findClass E = some ce.cls → vx_W p l e R s m args below meth c H1 locs1 (cells + mc) (slots + ms) Q (F0 m pc ls rest) q9)
    (kk : ∀ (r : Int64) (u : S) (t : State) (H1 : Heap) (locs1 : List Loc), t.heap = H1 → s.vm.Alike t.vm → post r u → B u t → H.size ≤ H1.size → (∀ q : Nat, q < H.size → ¬ A1 q → H1[q]? = H[q]?) → va_S A0 H0 H1 locs1 → W p l e R s m args below meth c H1 locs1 (cells + mc) (slots + ms) Q (F0 m (pc + 3) ls (.long r :: rest))) : W p l e R s m args below meth c H locs cells slots Q (F0 m pc ls st0) := by
  intro T hT X
  rcases hr T hT X with ⟨v, st₀, t, T', L, h0, X', hL, e1, e2, ⟨⟨r, u, hv, hp, hb⟩, hF⟩, st⟩ | ⟨q, st₀, t, T', L, E, ce, h0, X', hL, e1, e2, ⟨u, hp, hb, hF⟩, hce, hcv, hcl, st⟩
  · cases hv
    obtain ⟨k1, k2, k3⟩ := vx_keep h0 e1 hS hA hf hL hF
    obtain ⟨t2, a1, b1⟩ := kk r u t T'.heap (locs ++ L) e1.symm (by rw [← e2]; exact X'.warmed.alike) hp hb k1 k2 k3 T' rfl X'
    exact ⟨t2, st t2 a1, b1⟩
  · obtain ⟨k1, k2, k3⟩ := vx_keep h0 e1 hS hAX hf hL hF
    obtain ⟨t2, a1, b1⟩ := kx E ce q u t T'.heap (locs ++ L) e1.symm (by rw [← e2]; exact X'.warmed.alike) hp hb k1 k2 k3 (by rw [e1]; exact hce) hcv hcl T' rfl X'
    exact ⟨t2, st.trans a1, b1⟩
theorem vx_callf {S SX : Type} {post : UInt32 → S → Prop} {px : SX → Prop} {B : S → State → Prop} {BX : String → SX → State → Prop} {AX : Nat → Prop} (hr : vx_Run p l e R s m args below meth c H locs cells slots mc ms (F0 m pc ls st0) rest (va_Qf post B A1 a) (vx_X px BX AX) free) (hS : va_S A0 H0 H locs) (hA : ∀ q, q < H.size → A1 q → A0 q) (hf : ∀ q, free q → A0 q) (hAX : ∀ q, q < H.size → AX q → A0 q)
    (kx : ∀ (E : String) (ce : Cell) (q9 : Addr) (u : SX) (t : State) (H1 : Heap) (locs1 : List Loc), t.heap = H1 → s.vm.Alike t.vm → px u → BX E u t → H.size ≤ H1.size → (∀ q : Nat, q < H.size → ¬ AX q → H1[q]? = H[q]?) → va_S A0 H0 H1 locs1 → H1[q9]? = some ce → ce.vm = .none → s.vm.findClass E = some ce.cls → vx_W p l e R s m args below meth c H1 locs1 (cells + mc) (slots + ms) Q (F0 m pc ls rest) q9)
    (kk : ∀ (r : UInt32) (u : S) (t : State) (H1 : Heap) (locs1 : List Loc), t.heap = H1 → s.vm.Alike t.vm → post r u → B u t → H.size ≤ H1.size → (∀ q : Nat, q < H.size → ¬ A1 q → H1[q]? = H[q]?) → va_S A0 H0 H1 locs1 → W p l e R s m args below meth c H1 locs1 (cells + mc) (slots + ms) Q (F0 m (pc + 3) ls (.float r :: rest))) : W p l e R s m args below meth c H locs cells slots Q (F0 m pc ls st0) := by
  intro T hT X
  rcases hr T hT X with ⟨v, st₀, t, T', L, h0, X', hL, e1, e2, ⟨⟨r, u, hv, hp, hb⟩, hF⟩, st⟩ | ⟨q, st₀, t, T', L, E, ce, h0, X', hL, e1, e2, ⟨u, hp, hb, hF⟩, hce, hcv, hcl, st⟩
  · cases hv
    obtain ⟨k1, k2, k3⟩ := vx_keep h0 e1 hS hA hf hL hF
    obtain ⟨t2, a1, b1⟩ := kk r u t T'.heap (locs ++ L) e1.symm (by rw [← e2]; exact X'.warmed.alike) hp hb k1 k2 k3 T' rfl X'
    exact ⟨t2, st t2 a1, b1⟩
  · obtain ⟨k1, k2, k3⟩ := vx_keep h0 e1 hS hAX hf hL hF
    obtain ⟨t2, a1, b1⟩ := kx E ce q u t T'.heap (locs ++ L) e1.symm (by rw [← e2]; exact X'.warmed.alike) hp hb k1 k2 k3 (by rw [e1]; exact hce) hcv hcl T' rfl X'
    exact ⟨t2, st.trans a1, b1⟩
theorem vx_calld {S SX : Type} {post : UInt64 → S → Prop} {px : SX → Prop} {B : S → State → Prop} {BX : String → SX → State → Prop} {AX : Nat → Prop} (hr : vx_Run p l e R s m args below meth c H locs cells slots mc ms (F0 m pc ls st0) rest (va_Qd post B A1 a) (vx_X px BX AX) free) (hS : va_S A0 H0 H locs) (hA : ∀ q, q < H.size → A1 q → A0 q) (hf : ∀ q, free q → A0 q) (hAX : ∀ q, q < H.size → AX q → A0 q)
    (kx : ∀ (E : String) (ce : Cell) (q9 : Addr) (u : SX) (t : State) (H1 : Heap) (locs1 : List Loc), t.heap = H1 → s.vm.Alike t.vm → px u → BX E u t → H.size ≤ H1.size → (∀ q : Nat, q < H.size → ¬ AX q → H1[q]? = H[q]?) → va_S A0 H0 H1 locs1 → H1[q9]? = some ce → ce.vm = .none → s.vm.findClass E = some ce.cls → vx_W p l e R s m args below meth c H1 locs1 (cells + mc) (slots + ms) Q (F0 m pc ls rest) q9)
    (kk : ∀ (r : UInt64) (u : S) (t : State) (H1 : Heap) (locs1 : List Loc), t.heap = H1 → s.vm.Alike t.vm → post r u → B u t → H.size ≤ H1.size → (∀ q : Nat, q < H.size → ¬ A1 q → H1[q]? = H[q]?) → va_S A0 H0 H1 locs1 → W p l e R s m args below meth c H1 locs1 (cells + mc) (slots + ms) Q (F0 m (pc + 3) ls (.double r :: rest))) : W p l e R s m args below meth c H locs cells slots Q (F0 m pc ls st0) := by
  intro T hT X
  rcases hr T hT X with ⟨v, st₀, t, T', L, h0, X', hL, e1, e2, ⟨⟨r, u, hv, hp, hb⟩, hF⟩, st⟩ | ⟨q, st₀, t, T', L, E, ce, h0, X', hL, e1, e2, ⟨u, hp, hb, hF⟩, hce, hcv, hcl, st⟩
  · cases hv
    obtain ⟨k1, k2, k3⟩ := vx_keep h0 e1 hS hA hf hL hF
    obtain ⟨t2, a1, b1⟩ := kk r u t T'.heap (locs ++ L) e1.symm (by rw [← e2]; exact X'.warmed.alike) hp hb k1 k2 k3 T' rfl X'
    exact ⟨t2, st t2 a1, b1⟩
  · obtain ⟨k1, k2, k3⟩ := vx_keep h0 e1 hS hAX hf hL hF
    obtain ⟨t2, a1, b1⟩ := kx E ce q u t T'.heap (locs ++ L) e1.symm (by rw [← e2]; exact X'.warmed.alike) hp hb k1 k2 k3 (by rw [e1]; exact hce) hcv hcl T' rfl X'
    exact ⟨t2, st.trans a1, b1⟩
theorem vx_callv {S SX : Type} {post : S → Prop} {px : SX → Prop} {B : S → State → Prop} {BX : String → SX → State → Prop} {AX : Nat → Prop} (hr : vx_Run p l e R s m args below meth c H locs cells slots mc ms (F0 m pc ls st0) rest (va_Qv post B A1 a) (vx_X px BX AX) free) (hS : va_S A0 H0 H locs) (hA : ∀ q, q < H.size → A1 q → A0 q) (hf : ∀ q, free q → A0 q) (hAX : ∀ q, q < H.size → AX q → A0 q)
    (kx : ∀ (E : String) (ce : Cell) (q9 : Addr) (u : SX) (t : State) (H1 : Heap) (locs1 : List Loc), t.heap = H1 → s.vm.Alike t.vm → px u → BX E u t → H.size ≤ H1.size → (∀ q : Nat, q < H.size → ¬ AX q → H1[q]? = H[q]?) → va_S A0 H0 H1 locs1 → H1[q9]? = some ce → ce.vm = .none → s.vm.findClass E = some ce.cls → vx_W p l e R s m args below meth c H1 locs1 (cells + mc) (slots + ms) Q (F0 m pc ls rest) q9)
    (kk : ∀ (u : S) (t : State) (H1 : Heap) (locs1 : List Loc), t.heap = H1 → s.vm.Alike t.vm → post u → B u t → H.size ≤ H1.size → (∀ q : Nat, q < H.size → ¬ A1 q → H1[q]? = H[q]?) → va_S A0 H0 H1 locs1 → W p l e R s m args below meth c H1 locs1 (cells + mc) (slots + ms) Q (F0 m (pc + 3) ls (rest))) : W p l e R s m args below meth c H locs cells slots Q (F0 m pc ls st0) := by
  intro T hT X
  rcases hr T hT X with ⟨v, st₀, t, T', L, h0, X', hL, e1, e2, ⟨⟨u, hv, hp, hb⟩, hF⟩, st⟩ | ⟨q, st₀, t, T', L, E, ce, h0, X', hL, e1, e2, ⟨u, hp, hb, hF⟩, hce, hcv, hcl, st⟩
  · cases hv
    obtain ⟨k1, k2, k3⟩ := vx_keep h0 e1 hS hA hf hL hF
    obtain ⟨t2, a1, b1⟩ := kk u t T'.heap (locs ++ L) e1.symm (by rw [← e2]; exact X'.warmed.alike) hp hb k1 k2 k3 T' rfl X'
    exact ⟨t2, st t2 a1, b1⟩
  · obtain ⟨k1, k2, k3⟩ := vx_keep h0 e1 hS hAX hf hL hF
    obtain ⟨t2, a1, b1⟩ := kx E ce q u t T'.heap (locs ++ L) e1.symm (by rw [← e2]; exact X'.warmed.alike) hp hb k1 k2 k3 (by rw [e1]; exact hce) hcv hcl T' rfl X'
    exact ⟨t2, st.trans a1, b1⟩
/-- caught by the row x of this method's table; the rows ahead don't take it -/
theorem vx_catch {own name : String} {E : String} {ce : Cell} {q : Addr} (hown : s.vm.findClass own = some m.cls) (pre : List ExceptionTableEntry) (x : ExceptionTableEntry) (suf : List ExceptionTableEntry) (hsplit : c.exceptionTable.toList = pre ++ x :: suf)
    (hpass : ∀ z ∈ pre, covers z pc = false ∨ (z.catchType ≠ 0 ∧ ∃ nm : String, (Cond.classLink own z.catchType nm).before args s = true ∧ va_Nc E nm s)) (hx : covers x pc = true) (h0 : x.catchType ≠ 0)
    (hlink : (Cond.classLink own x.catchType name).before args s = true) (hcast : (Cond.castable E name).before args s = true) (hcell : H[q]? = some ce) (hv : ce.vm = .none) (hcl : s.vm.findClass E = some ce.cls)
    (kk : W p l e R s m args below meth c H locs cells slots Q (F0 m x.handlerPc ls [.ref q])) : vx_W p l e R s m args below meth c H locs cells slots Q (F0 m pc ls rest) q := by
  intro T hT X
  have hpl : e.platform.magicAccessors = ({} : Platform).magicAccessors := by rw [X.admits.platform]
  obtain ⟨c3, c4, hc3, hc4, hasg⟩ := Cond.castable_spec hcast
  cases Option.some.inj (hc3.symm.trans hcl)
  obtain ⟨c5, hc5, hcl5⟩ := Cond.classLink_spec hown hlink e.platform hpl
  cases Option.some.inj (hc4.symm.trans hc5)
  obtain ⟨vm', X', st⟩ := X.thenCaughtThrough q (g := F0 m pc ls rest) rfl (Steps.refl _) (by rw [hT]; exact hcell) (by rw [hv]; rfl) (by obtain ⟨k9, h9, -⟩ := Vm.findClass_spec hcl; exact ⟨k9, h9⟩) pre x suf hsplit
    (fun z hz => by
      rcases hpass z hz with h | ⟨hz0, nm, hl1, hn1⟩
      · exact Or.inl h
      · obtain ⟨c6, hc6, hcl6⟩ := Cond.classLink_spec hown hl1 e.platform hpl
        obtain ⟨a8, b8, h1, h2, h3⟩ := hn1
        cases Option.some.inj (h1.symm.trans hcl)
        cases Option.some.inj (h2.symm.trans hc6)
        exact Or.inr ⟨hz0, _, hcl6, h3⟩) hx (Or.inr ⟨h0, c4, hcl5, hasg⟩)
  obtain ⟨t, a1, b1⟩ := kk (T.setVm vm') hT X'
  exact ⟨t, st.trans a1, b1⟩
end Rows
section Ends
variable {p : Program} {l : Launch} {e : Env} {R : Room} {s : State} {m : MethodId} {args : Array Value} {below : List Frame} {meth : Method} {c : Code} {H : Heap} {locs : List Loc} {cells slots : Nat} {Q : State → Prop}
variable {mc ms : Nat} {free : Addr → Prop} {A0 A1 : Nat → Prop} {H0 : Heap} {a : Array Value} {ls : Array Slot} {st0 rest : List Value}
variable {Qc : Array Value → State → Outcome → State → Prop} {XC : String → State → State → Prop}
/-- what a body that may throw owes at its end -/
def vx_MQ (below : List Frame) (Qc : Array Value → State → Outcome → State → Prop) (XC : String → State → State → Prop) (a : Array Value) (s : State) (mc ms : Nat) (free : Addr → Prop) : State → Prop := fun t =>
  ∃ o, t.status = .running ∧ Ended t below o ∧ vx_Q Qc XC mc ms free a s o t
theorem vx_ret {g : JFrame} {mc ms : Nat} (k : W p l e R s m args below meth c H locs cells slots (MQ below Qc args s mc ms free) g) : W p l e R s m args below meth c H locs cells slots (vx_MQ below Qc XC args s mc ms free) g := by
  intro T hT X
  obtain ⟨t, a1, o, b1, b2, b3, b4⟩ := k T hT X
  exact ⟨t, a1, o, b1, b2, Or.inl ⟨b3, b4⟩⟩
/-- not caught here: it goes on to the caller -/
theorem vx_widen {g : JFrame} {q : Addr} {k n : Nat} (h1 : cells ≤ k) (h2 : slots ≤ n) (kk : vx_W p l e R s m args below meth c H locs k n Q g q) : vx_W p l e R s m args below meth c H locs cells slots Q g q := fun T hT X => kk T hT (stand_widen X h1 h2)
theorem vx_out {pc : Nat} {E : String} {ce : Cell} {q : Addr} {mc ms : Nat} (hout : ∀ x ∈ c.exceptionTable.toList, covers x pc = false) (hlocks : meth.locks = false) (hcell : H[q]? = some ce) (hv : ce.vm = .none) (hcl : s.vm.findClass E = some ce.cls)
    (hx : ∀ t : State, t.heap = H → s.vm.Alike t.vm → XC E s t) (hf : ∀ z ∈ locs, free z.base) (hc : cells ≤ mc) (hs : slots ≤ ms) :
    vx_W p l e R s m args below meth c H locs cells slots (vx_MQ below Qc XC args s mc ms free) (F0 m pc ls rest) q := by
  intro T hT X
  obtain ⟨st1, hrun, hend, hW, hsm⟩ := X.leaveThrown q (g := F0 m pc ls rest) rfl rfl rfl hout hlocks
  have hcell9 : (T.setFrames (.throwing q :: below)).heap[q]? = some ce := by
    show T.heap[q]? = some ce
    rw [hT]; exact hcell
  exact ⟨_, st1, .threw q, hrun, hend, Or.inr ⟨q, rfl, E, ce, locs, hx _ hT hW.alike, hcell9, hv, hcl, hW, hsm.mono hc hs, hf⟩⟩
theorem vx_frame {U : State} {k n : Nat} (h : s.sameButNew ({ U with vm := s.vm } : State) locs k n) : s.heap.size ≤ U.heap.size ∧ ∀ q : Nat, q < s.heap.size → (∀ z ∈ locs, z.base ≠ q) → U.heap[q]? = s.heap[q]? := by
  obtain ⟨-, h2, -, -, -, h6⟩ := h
  refine ⟨h2, fun q hq hz => ?_⟩
  obtain ⟨c9, e1, e2, e3, e4⟩ := h6 q _ (Array.getElem?_eq_getElem hq)
  have hs : c9.slots = (s.heap[q]).slots := Array.ext_getElem? fun i => e4 i fun hm => hz _ hm rfl
  have h9 : c9 = s.heap[q] := by
    rw [hs] at e2
    exact e2
  have e5 : U.heap[q]? = some c9 := e1
  rw [e5, h9, Array.getElem?_eq_getElem hq]
/-- the words of a throw but the four that speak of the heap -/
def vx_no (w : Cond) : Bool := decide (w ≠ .isRef (.static Bundle.tN "UNASSIGNED_STACK" Bundle.steD)) && decide (w ≠ .isRef (.static Bundle.tN "SUPPRESSED_SENTINEL" Bundle.listD)) && decide (w ≠ .laysStatic Bundle.tN "UNASSIGNED_STACK" Bundle.steD) && decide (w ≠ .laysStatic Bundle.tN "SUPPRESSED_SENTINEL" Bundle.listD)
def vx_at0 (own : String) (ic : Nat) (X : String) (names : List String) : List Cond := (Bundle.ownAtoms0 own ic X names).filter vx_no
def vx_atS (own : String) (ic : Nat) (X : String) (names : List String) : List Cond := (Bundle.ownAtoms own ic X names).filter vx_no
/-- a word that the tables alone decide, or a good one -/
def vx_ot (w : Cond) : Bool := w.onTables || goodWord w
theorem vx_ot_at {args a' : Array Value} {s U : State} {w : Cond} (hW : s.WarmedH U.vm) (hvm : s.vm = U.vm) (hg : vx_ot w = true) (h : w.before args s = true) : w.before a' U = true := by
  simp only [vx_ot, Bool.or_eq_true] at hg
  rcases hg with hg | hg
  · exact va_tabs hg hvm h
  · exact word_at hW (good_of_word hg) h
/-- a list's words: the good ones out of the method's own list, the others by premises of their own -/
theorem vx_hat {args : Array Value} {s : State} {L B : List Cond} (h1 : ∀ w ∈ L.filter goodWord, w.before args s = true) (h2 : ∀ w ∈ L.filter (fun w => !goodWord w), w ∈ B) (h3 : ∀ w ∈ B, w.before args s = true) : ∀ w ∈ L, w.before args s = true := by
  intro w hw
  by_cases g : goodWord w = true
  · exact h1 w (List.mem_filter.mpr ⟨hw, g⟩)
  · refine h3 w (h2 w (List.mem_filter.mpr ⟨hw, ?_⟩))
    show (!goodWord w) = true
    cases hgw : goodWord w
    · rfl
    · exact absurd hgw g
theorem vx_c {args : Array Value} {s : State} {w : Cond} {B : List Cond} (h : w.before args s = true) (t : ∀ w ∈ B, w.before args s = true) : ∀ w' ∈ w :: B, w'.before args s = true := fun w' h' => (List.mem_cons.mp h').elim (fun e => by rw [e]; exact h) (t w')
theorem vx_n {args : Array Value} {s : State} : ∀ w ∈ ([] : List Cond), w.before args s = true := fun _ h => nomatch h
theorem vx_own {args : Array Value} {s : State} {L : List Cond} (h1 : ∀ w ∈ L.filter vx_no, w.before args s = true)
    (hU : (Cond.isRef (.static Bundle.tN "UNASSIGNED_STACK" Bundle.steD)).before args s = true) (hN : (Cond.isRef (.static Bundle.tN "SUPPRESSED_SENTINEL" Bundle.listD)).before args s = true)
    (lU : (Cond.laysStatic Bundle.tN "UNASSIGNED_STACK" Bundle.steD).before args s = true) (lN : (Cond.laysStatic Bundle.tN "SUPPRESSED_SENTINEL" Bundle.listD).before args s = true) : ∀ w ∈ L, w.before args s = true := by
  intro w hw
  by_cases e1 : w = .isRef (.static Bundle.tN "UNASSIGNED_STACK" Bundle.steD)
  · rw [e1]; exact hU
  · by_cases e2 : w = .isRef (.static Bundle.tN "SUPPRESSED_SENTINEL" Bundle.listD)
    · rw [e2]; exact hN
    · by_cases e3 : w = .laysStatic Bundle.tN "UNASSIGNED_STACK" Bundle.steD
      · rw [e3]; exact lU
      · by_cases e4 : w = .laysStatic Bundle.tN "SUPPRESSED_SENTINEL" Bundle.listD
        · rw [e4]; exact lN
        · exact h1 w (List.mem_filter.mpr ⟨hw, by unfold vx_no; rw [decide_eq_true e1, decide_eq_true e2, decide_eq_true e3, decide_eq_true e4]; rfl⟩)
/-- where a static field lies, its class's statics cell in H -/
def vx_L (C n d : String) (A : Nat → Prop) (U : State) (H : Heap) : Prop := ∃ (c : ClassId) (k : Class) (i : Nat) (f : Field) (a : Nat) (cell : Cell), U.vm.findClass C = some c ∧ U.fieldFound? C n d = some (c, k, i, f) ∧ f.isStatic = true ∧ k.statics = some a ∧ H[a]? = some cell ∧ cell.vm.isStatics = true ∧ cell.cls = c ∧ f.slot < cell.slots.size ∧ k.staticTypes[f.slot]? = some f.type ∧ ¬ A a
theorem vx_L.moved {C n d : String} {A : Nat → Prop} {u U : State} {H : Heap} (hvm : u.vm.Alike U.vm) (h : vx_L C n d A u H) : vx_L C n d A U H := by
  obtain ⟨c, k, i, f, a, cell, h1, h2, h3, h4, h5, h6, h7, h8, h9, h10⟩ := h
  obtain ⟨k', hi', he⟩ := State.fieldFound?_setVm hvm h2
  exact ⟨c, k', i, f, a, cell, by rw [hvm.findClass]; exact h1, hi', h3, by rw [he]; exact h4, h5, h6, h7, h8, by rw [he]; exact h9, h10⟩
theorem vx_L.kept {C n d : String} {A : Nat → Prop} {U : State} {H H1 : Heap} (h : vx_L C n d A U H) (hq : ∀ a : Nat, a < H.size → ¬ A a → H1[a]? = H[a]?) : vx_L C n d A U H1 := by
  obtain ⟨c, k, i, f, a, cell, h1, h2, h3, h4, h5, h6, h7, h8, h9, h10⟩ := h
  exact ⟨c, k, i, f, a, cell, h1, h2, h3, h4, by rw [hq a (Array.getElem?_eq_some_iff.mp h5).1 h10]; exact h5, h6, h7, h8, h9, h10⟩
theorem vx_L.narrow {C n d : String} {A B : Nat → Prop} {U : State} {H : Heap} (h : vx_L C n d A U H) (hAB : ∀ q, B q → A q) : vx_L C n d B U H := by
  obtain ⟨c, k, i, f, a, cell, h1, h2, h3, h4, h5, h6, h7, h8, h9, h10⟩ := h
  exact ⟨c, k, i, f, a, cell, h1, h2, h3, h4, h5, h6, h7, h8, h9, fun z => h10 (hAB _ z)⟩
theorem vx_L.word {C n d : String} {A : Nat → Prop} {s : State} {args : Array Value} (h : vx_L C n d A s s.heap) : (Cond.laysStatic C n d).before args s = true := by
  obtain ⟨c, k, i, f, a, cell, h1, h2, h3, h4, h5, h6, h7, h8, h9, -⟩ := h
  show (Cond.laysStatic C n d).holds args s none s [] = true
  exact Cond.laysStatic_of h1 h2 h3 h4 h5 h6 h7 h8 h9
/-- .. and what it holds: null or some reference -/
def vx_Zq (C n d : String) (A : Nat → Prop) (U : State) (H : Heap) : Prop := va_Zq C n d A U H ∧ vx_L C n d A U H
theorem vx_Zq.moved {C n d : String} {A : Nat → Prop} {u U : State} {H : Heap} (hvm : u.vm.Alike U.vm) (h : vx_Zq C n d A u H) : vx_Zq C n d A U H := ⟨va_Zq.moved hvm h.1, vx_L.moved hvm h.2⟩
theorem vx_Zq.kept {C n d : String} {A : Nat → Prop} {U : State} {H H1 : Heap} (h : vx_Zq C n d A U H) (hq : ∀ a : Nat, a < H.size → ¬ A a → H1[a]? = H[a]?) : vx_Zq C n d A U H1 := ⟨va_Zq.kept h.1 hq, vx_L.kept h.2 hq⟩
theorem vx_Zq.narrow {C n d : String} {A B : Nat → Prop} {U : State} {H : Heap} (h : vx_Zq C n d A U H) (hAB : ∀ q, B q → A q) : vx_Zq C n d B U H := ⟨va_Zq.narrow h.1 hAB, vx_L.narrow h.2 hAB⟩
theorem vx_Zqof {args : Array Value} {s : State} {C n d : String} {A : Nat → Prop} (hl : (Cond.laysStatic C n d).before args s = true) (hini : (Cond.initialized C).before args s = true) (h : (Cond.isRef (.static C n d)).before args s = true) (hA : ∀ a : Nat, a < s.heap.size → ¬ A a) : vx_Zq C n d A s s.heap := by
  refine ⟨va_Zqof hl hini h hA, ?_⟩
  obtain ⟨c, k, i, f, a, cell, h1, h2, h3, h4, h5, h6, h7, h8, h9⟩ := Cond.laysStatic_spec hl
  exact ⟨c, k, i, f, a, cell, h1, h2, h3, h4, h5, h6, h7, h8, h9, hA a (Array.getElem?_eq_some_iff.mp h5).1⟩
theorem vx_isRef {C n d : String} {v : Value} {A : Nat → Prop} {s : State} {args : Array Value} (h : va_Z C n d v A s s.heap) (hv : v.isRef = true) : (Cond.isRef (.static C n d)).before args s = true := by
  obtain ⟨cf, kf, fi, f, a, cell, h1, h2, h3, h4, h5, h6, h7, -⟩ := h
  have he : (Term.static C n d).eval args s none [] s = some v := by
    simp [Term.eval, State.fieldNamed?, h1, h2, h4, h5, h6, h7]
  simp only [Cond.before, Cond.holds, Cond.value, he]
  cases v <;> simp_all [Value.isRef]
theorem vx_isRefq {C n d : String} {A : Nat → Prop} {s : State} {args : Array Value} (h : va_Zq C n d A s s.heap) : (Cond.isRef (.static C n d)).before args s = true := by
  rcases h with h | ⟨t, h⟩
  · exact vx_isRef h rfl
  · exact vx_isRef h rfl
/-- the same frame, seen from here: as if the method were called anew in this heap -/
theorem vx_rebase {T : State} (X : Stand p l e R s m args below meth c T locs cells slots) {R' : Room} (hf : R'.frames ≤ R.frames) (hl : R'.locals ≤ R.locals) (hc : cells + R'.cells ≤ R.cells) (hs : slots + R'.slots ≤ R.slots) :
    Stand p l e R' ((T.setVm s.vm).setFrames (.invoking m args :: below)) m args below meth c T [] 0 0 := by
  have htop : (T.setVm s.vm).topJava?.isSome := X.here.top
  have hF : ((T.setVm s.vm).setFrames (.invoking m args :: below)).frames = .invoking m args :: below := State.frames_setFrames _ (State.cur_lt_of_top htop)
  obtain ⟨g₀, hg0⟩ := Option.isSome_iff_exists.mp htop
  obtain ⟨r, hr⟩ := State.topJava?_eq_some.mp hg0
  have hl9 : e.platform.stackLimits (T.setVm s.vm).me = e.platform.stackLimits s.me := X.limits
  have hb9 : (T.setVm s.vm).me.stackBytes = s.me.stackBytes := X.bytes
  refine ⟨X.admits, X.cas, X.clock, hF, ?_, X.hears, X.method, X.code, X.here, X.tail, X.warmed, ?_, ?_, ?_⟩
  · have h := X.room
    have hU : ((T.setVm s.vm).setFrames (.invoking m args :: below)).localsInUse = s.localsInUse := by
      rw [State.localsInUse_invoking hF (meth := meth) (c := c) X.method X.code, State.localsInUse_invoking X.frames X.method X.code]
    simp only [State.hasRoom, Bool.and_eq_true, decide_eq_true_eq] at h ⊢
    obtain ⟨⟨⟨⟨h1, h2, h3, h4, h5, h6⟩, h7⟩, h8⟩, h9⟩ := h
    rw [X.frames, List.length_cons] at h2 h3
    have q1 := X.heapSize
    have q2 := X.used
    simp only [hF, hU, List.length_cons, State.stackLimits_setFrames, State.stackBytes_setFrames, hl9, hb9]
    refine ⟨⟨⟨⟨by omega, by omega, by omega, by omega, by omega, h6⟩, ?_⟩, ?_⟩, X.book⟩
    · show T.heap.size + R'.cells ≤ e.platform.maxCells
      omega
    · show T.slotsUsed + R'.slots ≤ e.platform.maxSlots
      omega
  · rw [State.stackLimits_setFrames]; rfl
  · rw [State.stackBytes_setFrames]; rfl
  · refine ⟨?_, Nat.le_refl _, Nat.le_refl _, ?_, ?_, fun a c9 h9 => ⟨c9, h9, rfl, rfl, fun _ _ => rfl⟩⟩
    · obtain ⟨t, ht, -⟩ := State.frames_cons hr
      show T.setVm s.vm = { ((T.setVm s.vm).setFrames (.invoking m args :: below)).setFrames (T.setVm s.vm).frames with heap := T.heap, slotsUsed := T.slotsUsed }
      rw [State.setFrames_setFrames, State.setFrames_self ht]
      rfl
    · show T.slotsUsed = T.slotsUsed + ((T.heap.toList.drop T.heap.size).map (·.slots.size)).sum
      rw [List.drop_eq_nil_of_le (Nat.le_of_eq Array.length_toList)]
      rfl
    · show ((T.heap.toList.drop T.heap.size).map (·.slots.size)).sum ≤ 0
      rw [List.drop_eq_nil_of_le (Nat.le_of_eq Array.length_toList)]
      exact Nat.le_refl _
/-- 'throw new E()': new; dup; invokespecial; athrow -/
theorem vx_throw0 {cc : ByteArray} {pc : Nat} (hexec : p.tables.exec = Jvm.exec) (hb : c.code = cc) (hl : l.stackTraces = false) {own cls : String} {names : List String} {ik ic mc ms : Nat} {A : Nat → Prop}
    (hown : s.vm.findClass own = some m.cls) (hcls : Bundle.fit cls = true) (hnames : ∀ n ∈ names, Bundle.fit n = true)
    (hk : (Cond.classLink own ik cls).before args s = true) (hini : (Cond.initialized cls).before args s = true) (hat : ∀ w ∈ vx_at0 own ic cls names, w.before args s = true)
    (hgood : ∀ w ∈ Cond.classLink own ik cls :: Cond.initialized cls :: vx_at0 own ic cls names, vx_ot w = true)
    (hU : vx_Zq Bundle.tN "UNASSIGNED_STACK" Bundle.steD A s s.heap) (hN : vx_Zq Bundle.tN "SUPPRESSED_SENTINEL" Bundle.listD A s s.heap) (hS : va_S A s.heap H locs) (hsize : ls.size = c.maxLocals)
    (d0 : decode cc pc = .ok (.new ik, 3)) (d3 : decode cc (pc + 3) = .ok (.dup, 1)) (d4 : decode cc (pc + 4) = .ok (.invokespecial ic, 3)) (d7 : decode cc (pc + 7) = .ok (.athrow, 1))
    (hout : ∀ x ∈ c.exceptionTable.toList, covers x (pc + 7) = false)
    (hRframes : names.length + 3 < R.frames) (hRlocals : (rest.map fun v => v.category).sum + (13 * (names.length + 1) + 42) ≤ R.locals) (hRcells : cells + 1 ≤ R.cells) (hRslots : slots + 6 ≤ R.slots) (hlocks : meth.locks = false)
    (hx : ∀ t : State, s.vm.Alike t.vm → H.size ≤ t.heap.size → (∀ q : Nat, q < H.size → t.heap[q]? = H[q]?) → XC cls s t)
    (hf : ∀ z ∈ locs, free z.base) (hc : cells + 1 ≤ mc) (hs : slots + 6 ≤ ms) :
    W p l e R s m args below meth c H locs cells slots (vx_MQ below Qc XC args s mc ms free) (F0 m pc ls rest) := by
  intro T hT X
  have htr : e.platform.stackTraces = false := (show e.platform.stackTraces = l.stackTraces by rw [X.admits.platform]).trans hl
  have Y := vx_rebase X (R' := { frames := R.frames, locals := R.locals, cells := 1, slots := 6 }) (Nat.le_refl _) (Nat.le_refl _) hRcells hRslots
  obtain ⟨s', hA⟩ : ∃ z, z = (T.setVm s.vm).setFrames (.invoking m args :: below) := ⟨_, rfl⟩
  rw [← hA] at Y
  have hvm : s'.vm = s.vm := by rw [hA]; rfl
  have hhp : s'.heap = H := by rw [hA]; exact hT
  have hW0 : s.WarmedH s'.vm := by rw [hvm]; exact State.WarmedH.refl s
  have hat' : ∀ w ∈ vx_at0 own ic cls names, w.before args s' = true := fun w hw => vx_ot_at hW0 hvm.symm (hgood w (List.mem_cons_of_mem _ (List.mem_cons_of_mem _ hw))) (hat w hw)
  have hk' : (Cond.classLink own ik cls).before args s' = true := vx_ot_at hW0 hvm.symm (hgood _ List.mem_cons_self) hk
  have hini' : (Cond.initialized cls).before args s' = true := vx_ot_at hW0 hvm.symm (hgood _ (List.mem_cons_of_mem _ List.mem_cons_self)) hini
  have hU' : vx_Zq Bundle.tN "UNASSIGNED_STACK" Bundle.steD A s' s'.heap := by rw [hhp]; exact vx_Zq.moved hW0.alike (hU.kept hS.2.1)
  have hN' : vx_Zq Bundle.tN "SUPPRESSED_SENTINEL" Bundle.listD A s' s'.heap := by rw [hhp]; exact vx_Zq.moved hW0.alike (hN.kept hS.2.1)
  have h : ∀ w ∈ Bundle.ownAtoms0 own ic cls names, w.before args s' = true := vx_own hat' (vx_isRefq hU'.1) (vx_isRefq hN'.1) hU'.2.word hN'.2.word
  have hown' : s'.vm.findClass own = some m.cls := by rw [hvm]; exact hown
  have hins : (Cond.instantiable cls 6).before args s' = true := h _ (by simp [Bundle.ownAtoms0])
  obtain ⟨vm₁, cX, kX, hfX, hkX, -, -, X₁, st1⟩ := Y.newCold hexec (own := own) (C := cls) (index := ik) (n := 6) hown' hk' hins hini'
    (g := F0 m pc ls rest) rfl (by rw [hb]; exact d0) (Nat.le_refl _) (Nat.le_refl _)
  generalize hT1 : (T.setVm vm₁).pushCell { cls := cX, slots := kX.instanceTypes.map defaultValue, vm := .none } = T1 at X₁ st1
  have hcat : (Value.ref T.heap.size).category = 1 := rfl
  have hcellA : T1.heap[T.heap.size]? = some (freshCell cX kX) := by rw [← hT1]; exact State.heap_pushCell_size _ _
  have d3' : decode c.code (pc + 3) = .ok (.dup, 1) := by rw [hb]; exact d3
  obtain ⟨U, hsteps, hrun, hend, hW, hsame, ce, hce, hO⟩ := X₁.ctorThrow0 hexec htr (own := own) (cls := cls) (names := names) (ic := ic) hown' hcls hnames h (fun x hx => nomatch hx) hfX hkX hcellA (by rw [hhp, hT]; exact Nat.le_refl _)
    (g := { method := m, pc := pc + 4, locals := ls, stack := .ref T.heap.size :: .ref T.heap.size :: rest, locked := none }) rfl hsize rfl rfl (rest := rest) rfl
    (by rw [hb]; exact d4) (by rw [hb]; exact d7) hout hRframes (by simp only [List.map_cons, List.sum_cons, hcat]; omega) hlocks
  obtain ⟨f1, f2⟩ := vx_frame hsame
  rw [hhp] at f1 f2
  have hWs : s.WarmedH U.vm := State.WarmedH.trans hW0 hW
  have hcl : s.vm.findClass cls = some ce.cls := by
    have h9 := hO.cls
    rw [hvm] at h9
    exact h9
  have hall : s.sameButNew ({ U with vm := s.vm } : State) locs mc ms := by
    subst hA
    obtain ⟨e1, e2⟩ := hsame
    rw [State.setFrames_setFrames] at e1
    have h2 : (T.setVm s.vm).sameButNew ({ U with vm := s.vm } : State) [] (0 + 1) (0 + 6) := ⟨e1, e2⟩
    have h3 := X.same.trans h2
    rw [List.append_nil] at h3
    exact h3.mono hc hs
  refine ⟨U, ?_, .threw T.heap.size, hrun, hend, Or.inr ⟨T.heap.size, rfl, cls, ce, locs, hx U hWs.alike f1 (fun q hq => f2 q hq (fun z hz => nomatch hz)), hce, hO.vm, hcl, hWs, hall, hf⟩⟩
  refine st1 _ ?_
  show Steps p.tables e below (T1.setTop { method := m, pc := pc + 3, locals := ls, stack := .ref T.heap.size :: rest, locked := none }) _
  jvm_step X₁.here [X₁.here.top, hexec, d3', Value.category]
  exact hsteps
/-- 'throw new E("text")': new; dup; ldc; invokespecial; athrow -/
theorem vx_throwS {cc : ByteArray} {pc : Nat} (hexec : p.tables.exec = Jvm.exec) (hb : c.code = cc) (hl : l.stackTraces = false) {own cls text : String} {names : List String} {ik is ic mc ms sa : Nat} {A : Nat → Prop}
    (hown : s.vm.findClass own = some m.cls) (hcls : Bundle.fit cls = true) (hnames : ∀ n ∈ names, Bundle.fit n = true)
    (hk : (Cond.classLink own ik cls).before args s = true) (hini : (Cond.initialized cls).before args s = true) (hstr : vk_R own is text sa s) (hat : ∀ w ∈ vx_atS own ic cls names, w.before args s = true)
    (hgood : ∀ w ∈ Cond.classLink own ik cls :: Cond.initialized cls :: vx_atS own ic cls names, vx_ot w = true)
    (hU : vx_Zq Bundle.tN "UNASSIGNED_STACK" Bundle.steD A s s.heap) (hN : vx_Zq Bundle.tN "SUPPRESSED_SENTINEL" Bundle.listD A s s.heap) (hS : va_S A s.heap H locs) (hsize : ls.size = c.maxLocals)
    (d0 : decode cc pc = .ok (.new ik, 3)) (d3 : decode cc (pc + 3) = .ok (.dup, 1)) (d4 : decode cc (pc + 4) = .ok (.ldc is, 2)) (d6 : decode cc (pc + 6) = .ok (.invokespecial ic, 3)) (d9 : decode cc (pc + 9) = .ok (.athrow, 1))
    (hout : ∀ x ∈ c.exceptionTable.toList, covers x (pc + 9) = false)
    (hRframes : names.length + 3 < R.frames) (hRlocals : (rest.map fun v => v.category).sum + (13 * (names.length + 1) + 43) ≤ R.locals) (hRcells : cells + 1 ≤ R.cells) (hRslots : slots + 6 ≤ R.slots) (hlocks : meth.locks = false)
    (hx : ∀ t : State, s.vm.Alike t.vm → H.size ≤ t.heap.size → (∀ q : Nat, q < H.size → t.heap[q]? = H[q]?) → XC cls s t)
    (hf : ∀ z ∈ locs, free z.base) (hc : cells + 1 ≤ mc) (hs : slots + 6 ≤ ms) :
    W p l e R s m args below meth c H locs cells slots (vx_MQ below Qc XC args s mc ms free) (F0 m pc ls rest) := by
  intro T hT X
  have htr : e.platform.stackTraces = false := (show e.platform.stackTraces = l.stackTraces by rw [X.admits.platform]).trans hl
  have Y := vx_rebase X (R' := { frames := R.frames, locals := R.locals, cells := 1, slots := 6 }) (Nat.le_refl _) (Nat.le_refl _) hRcells hRslots
  obtain ⟨s', hA⟩ : ∃ z, z = (T.setVm s.vm).setFrames (.invoking m args :: below) := ⟨_, rfl⟩
  rw [← hA] at Y
  have hvm : s'.vm = s.vm := by rw [hA]; rfl
  have hhp : s'.heap = H := by rw [hA]; exact hT
  have hW0 : s.WarmedH s'.vm := by rw [hvm]; exact State.WarmedH.refl s
  have hat' : ∀ w ∈ vx_atS own ic cls names, w.before args s' = true := fun w hw => vx_ot_at hW0 hvm.symm (hgood w (List.mem_cons_of_mem _ (List.mem_cons_of_mem _ hw))) (hat w hw)
  have hk' : (Cond.classLink own ik cls).before args s' = true := vx_ot_at hW0 hvm.symm (hgood _ List.mem_cons_self) hk
  have hini' : (Cond.initialized cls).before args s' = true := vx_ot_at hW0 hvm.symm (hgood _ (List.mem_cons_of_mem _ List.mem_cons_self)) hini
  have hU' : vx_Zq Bundle.tN "UNASSIGNED_STACK" Bundle.steD A s' s'.heap := by rw [hhp]; exact vx_Zq.moved hW0.alike (hU.kept hS.2.1)
  have hN' : vx_Zq Bundle.tN "SUPPRESSED_SENTINEL" Bundle.listD A s' s'.heap := by rw [hhp]; exact vx_Zq.moved hW0.alike (hN.kept hS.2.1)
  have h : ∀ w ∈ Bundle.ownAtoms own ic cls names, w.before args s' = true := vx_own hat' (vx_isRefq hU'.1) (vx_isRefq hN'.1) hU'.2.word hN'.2.word
  have hown' : s'.vm.findClass own = some m.cls := by rw [hvm]; exact hown
  have hins : (Cond.instantiable cls 6).before args s' = true := h _ (by simp [Bundle.ownAtoms])
  obtain ⟨vm₁, cX, kX, hfX, hkX, -, -, X₁, st1⟩ := Y.newCold hexec (own := own) (C := cls) (index := ik) (n := 6) hown' hk' hins hini'
    (g := F0 m pc ls rest) rfl (by rw [hb]; exact d0) (Nat.le_refl _) (Nat.le_refl _)
  generalize hT1 : (T.setVm vm₁).pushCell { cls := cX, slots := kX.instanceTypes.map defaultValue, vm := .none } = T1 at X₁ st1
  have hcat : (Value.ref T.heap.size).category = 1 := rfl
  have hcellA : T1.heap[T.heap.size]? = some (freshCell cX kX) := by rw [← hT1]; exact State.heap_pushCell_size _ _
  have d3' : decode c.code (pc + 3) = .ok (.dup, 1) := by rw [hb]; exact d3
  have d4' : decode c.code (pc + 4) = .ok (.ldc is, 2) := by rw [hb]; exact d4
  have hstr' : vk_R own is text sa s' := vk_R.warm hW0 hstr
  obtain ⟨U, hsteps, hrun, hend, hW, hsame, ce, hce, hO⟩ := X₁.ctorThrowS hexec htr (own := own) (cls := cls) (names := names) (ic := ic) hown' hcls hnames h (fun x hx => nomatch hx) hfX hkX hcellA (by rw [hhp, hT]; exact Nat.le_refl _) (msg := .ref sa) rfl
    (g := { method := m, pc := pc + 6, locals := ls, stack := .ref sa :: .ref T.heap.size :: .ref T.heap.size :: rest, locked := none }) rfl hsize rfl rfl (rest := rest) rfl
    (by rw [hb]; exact d6) (by rw [hb]; exact d9) hout hRframes (by simp only [List.map_cons, List.sum_cons, hcat]; omega) hlocks
  obtain ⟨f1, f2⟩ := vx_frame hsame
  rw [hhp] at f1 f2
  have hWs : s.WarmedH U.vm := State.WarmedH.trans hW0 hW
  have hcl : s.vm.findClass cls = some ce.cls := by
    have h9 := hO.cls
    rw [hvm] at h9
    exact h9
  have hall : s.sameButNew ({ U with vm := s.vm } : State) locs mc ms := by
    subst hA
    obtain ⟨e1, e2⟩ := hsame
    rw [State.setFrames_setFrames] at e1
    have h2 : (T.setVm s.vm).sameButNew ({ U with vm := s.vm } : State) [] (0 + 1) (0 + 6) := ⟨e1, e2⟩
    have h3 := X.same.trans h2
    rw [List.append_nil] at h3
    exact h3.mono hc hs
  refine ⟨U, ?_, .threw T.heap.size, hrun, hend, Or.inr ⟨T.heap.size, rfl, cls, ce, locs, hx U hWs.alike f1 (fun q hq => f2 q hq (fun z hz => nomatch hz)), hce, hO.vm, hcl, hWs, hall, hf⟩⟩
  refine st1 _ ?_
  show Steps p.tables e below (T1.setTop { method := m, pc := pc + 3, locals := ls, stack := .ref T.heap.size :: rest, locked := none }) _
  jvm_step X₁.here [X₁.here.top, hexec, d3', Value.category]
  exact X₁.ldcString hexec (own := own) (text := text) (index := is) (a := sa) hown' hstr'.1 hstr'.2
    (g := { method := m, pc := pc + 4, locals := ls, stack := .ref T.heap.size :: .ref T.heap.size :: rest, locked := none }) rfl d4' _ hsteps
/-- 'throw new E("text")', the text by a wide index -/
theorem vx_throwSW {cc : ByteArray} {pc : Nat} (hexec : p.tables.exec = Jvm.exec) (hb : c.code = cc) (hl : l.stackTraces = false) {own cls text : String} {names : List String} {ik is ic mc ms sa : Nat} {A : Nat → Prop}
    (hown : s.vm.findClass own = some m.cls) (hcls : Bundle.fit cls = true) (hnames : ∀ n ∈ names, Bundle.fit n = true)
    (hk : (Cond.classLink own ik cls).before args s = true) (hini : (Cond.initialized cls).before args s = true) (hstr : vk_R own is text sa s) (hat : ∀ w ∈ vx_atS own ic cls names, w.before args s = true)
    (hgood : ∀ w ∈ Cond.classLink own ik cls :: Cond.initialized cls :: vx_atS own ic cls names, vx_ot w = true)
    (hU : vx_Zq Bundle.tN "UNASSIGNED_STACK" Bundle.steD A s s.heap) (hN : vx_Zq Bundle.tN "SUPPRESSED_SENTINEL" Bundle.listD A s s.heap) (hS : va_S A s.heap H locs) (hsize : ls.size = c.maxLocals)
    (d0 : decode cc pc = .ok (.new ik, 3)) (d3 : decode cc (pc + 3) = .ok (.dup, 1)) (d4 : decode cc (pc + 4) = .ok (.ldc_w is, 3)) (d7 : decode cc (pc + 7) = .ok (.invokespecial ic, 3)) (d10 : decode cc (pc + 10) = .ok (.athrow, 1))
    (hout : ∀ x ∈ c.exceptionTable.toList, covers x (pc + 10) = false)
    (hRframes : names.length + 3 < R.frames) (hRlocals : (rest.map fun v => v.category).sum + (13 * (names.length + 1) + 43) ≤ R.locals) (hRcells : cells + 1 ≤ R.cells) (hRslots : slots + 6 ≤ R.slots) (hlocks : meth.locks = false)
    (hx : ∀ t : State, s.vm.Alike t.vm → H.size ≤ t.heap.size → (∀ q : Nat, q < H.size → t.heap[q]? = H[q]?) → XC cls s t)
    (hf : ∀ z ∈ locs, free z.base) (hc : cells + 1 ≤ mc) (hs : slots + 6 ≤ ms) :
    W p l e R s m args below meth c H locs cells slots (vx_MQ below Qc XC args s mc ms free) (F0 m pc ls rest) := by
  intro T hT X
  have htr : e.platform.stackTraces = false := (show e.platform.stackTraces = l.stackTraces by rw [X.admits.platform]).trans hl
  have Y := vx_rebase X (R' := { frames := R.frames, locals := R.locals, cells := 1, slots := 6 }) (Nat.le_refl _) (Nat.le_refl _) hRcells hRslots
  obtain ⟨s', hA⟩ : ∃ z, z = (T.setVm s.vm).setFrames (.invoking m args :: below) := ⟨_, rfl⟩
  rw [← hA] at Y
  have hvm : s'.vm = s.vm := by rw [hA]; rfl
  have hhp : s'.heap = H := by rw [hA]; exact hT
  have hW0 : s.WarmedH s'.vm := by rw [hvm]; exact State.WarmedH.refl s
  have hat' : ∀ w ∈ vx_atS own ic cls names, w.before args s' = true := fun w hw => vx_ot_at hW0 hvm.symm (hgood w (List.mem_cons_of_mem _ (List.mem_cons_of_mem _ hw))) (hat w hw)
  have hk' : (Cond.classLink own ik cls).before args s' = true := vx_ot_at hW0 hvm.symm (hgood _ List.mem_cons_self) hk
  have hini' : (Cond.initialized cls).before args s' = true := vx_ot_at hW0 hvm.symm (hgood _ (List.mem_cons_of_mem _ List.mem_cons_self)) hini
  have hU' : vx_Zq Bundle.tN "UNASSIGNED_STACK" Bundle.steD A s' s'.heap := by rw [hhp]; exact vx_Zq.moved hW0.alike (hU.kept hS.2.1)
  have hN' : vx_Zq Bundle.tN "SUPPRESSED_SENTINEL" Bundle.listD A s' s'.heap := by rw [hhp]; exact vx_Zq.moved hW0.alike (hN.kept hS.2.1)
  have h : ∀ w ∈ Bundle.ownAtoms own ic cls names, w.before args s' = true := vx_own hat' (vx_isRefq hU'.1) (vx_isRefq hN'.1) hU'.2.word hN'.2.word
  have hown' : s'.vm.findClass own = some m.cls := by rw [hvm]; exact hown
  have hins : (Cond.instantiable cls 6).before args s' = true := h _ (by simp [Bundle.ownAtoms])
  obtain ⟨vm₁, cX, kX, hfX, hkX, -, -, X₁, st1⟩ := Y.newCold hexec (own := own) (C := cls) (index := ik) (n := 6) hown' hk' hins hini'
    (g := F0 m pc ls rest) rfl (by rw [hb]; exact d0) (Nat.le_refl _) (Nat.le_refl _)
  generalize hT1 : (T.setVm vm₁).pushCell { cls := cX, slots := kX.instanceTypes.map defaultValue, vm := .none } = T1 at X₁ st1
  have hcat : (Value.ref T.heap.size).category = 1 := rfl
  have hcellA : T1.heap[T.heap.size]? = some (freshCell cX kX) := by rw [← hT1]; exact State.heap_pushCell_size _ _
  have d3' : decode c.code (pc + 3) = .ok (.dup, 1) := by rw [hb]; exact d3
  have d4' : decode c.code (pc + 4) = .ok (.ldc_w is, 3) := by rw [hb]; exact d4
  have hstr' : vk_R own is text sa s' := vk_R.warm hW0 hstr
  obtain ⟨U, hsteps, hrun, hend, hW, hsame, ce, hce, hO⟩ := X₁.ctorThrowS hexec htr (own := own) (cls := cls) (names := names) (ic := ic) hown' hcls hnames h (fun x hx => nomatch hx) hfX hkX hcellA (by rw [hhp, hT]; exact Nat.le_refl _) (msg := .ref sa) rfl
    (g := { method := m, pc := pc + 7, locals := ls, stack := .ref sa :: .ref T.heap.size :: .ref T.heap.size :: rest, locked := none }) rfl hsize rfl rfl (rest := rest) rfl
    (by rw [hb]; exact d7) (by rw [hb]; exact d10) hout hRframes (by simp only [List.map_cons, List.sum_cons, hcat]; omega) hlocks
  obtain ⟨f1, f2⟩ := vx_frame hsame
  rw [hhp] at f1 f2
  have hWs : s.WarmedH U.vm := State.WarmedH.trans hW0 hW
  have hcl : s.vm.findClass cls = some ce.cls := by
    have h9 := hO.cls
    rw [hvm] at h9
    exact h9
  have hall : s.sameButNew ({ U with vm := s.vm } : State) locs mc ms := by
    subst hA
    obtain ⟨e1, e2⟩ := hsame
    rw [State.setFrames_setFrames] at e1
    have h2 : (T.setVm s.vm).sameButNew ({ U with vm := s.vm } : State) [] (0 + 1) (0 + 6) := ⟨e1, e2⟩
    have h3 := X.same.trans h2
    rw [List.append_nil] at h3
    exact h3.mono hc hs
  refine ⟨U, ?_, .threw T.heap.size, hrun, hend, Or.inr ⟨T.heap.size, rfl, cls, ce, locs, hx U hWs.alike f1 (fun q hq => f2 q hq (fun z hz => nomatch hz)), hce, hO.vm, hcl, hWs, hall, hf⟩⟩
  refine st1 _ ?_
  show Steps p.tables e below (T1.setTop { method := m, pc := pc + 3, locals := ls, stack := .ref T.heap.size :: rest, locked := none }) _
  jvm_step X₁.here [X₁.here.top, hexec, d3', Value.category]
  exact X₁.ldcStringW hexec (own := own) (text := text) (index := is) (a := sa) hown' hstr'.1 hstr'.2
    (g := { method := m, pc := pc + 4, locals := ls, stack := .ref T.heap.size :: .ref T.heap.size :: rest, locked := none }) rfl d4' _ hsteps
end Ends
section Bodies
variable {l : Launch}
theorem vx_ofW {y : MethodName} {ws ws' : List Cond} {rm : Room} {Pc : Array Value → State → Prop} {Qc : Array Value → State → Outcome → State → Prop} {XC : String → State → State → Prop} {mc ms : Nat} {free : Addr → Prop} {cc : ByteArray} {maxL : Nat} {ret : Option FieldType}
    (hy : plainName y.cls = true) (hw : ws = Cond.code y cc maxL ret :: ws')
    (body : ∀ p e s m args below meth c s₁, BodyLoose p l y (headSpec ws rm) cc maxL ret e s m args below meth c s₁ → c.maxLocals = maxL → (∀ x ∈ c.exceptionTable.toList, False) → Pc args s →
      W p l e (headSpec ws rm).room s m args below meth c s.heap [] 0 0 (vx_MQ below Qc XC args s mc ms free) (entryFrame m args maxL)) : vx_Met l y ws rm Pc Qc XC mc ms free := by
  refine MetFree.of_bodyS (code := cc) (maxLocals := maxL) (ret := ret) hy ?_ ?_
  · intro args s m h hn
    obtain ⟨meth, c, h1, h2, h3, h4, h5, h6, -, -⟩ := Cond.code_spec hn (atoms_spec (ws := ws) h _ (by rw [hw]; exact List.mem_cons_self))
    exact ⟨meth, c, h1, h2, h3, h4, h5, h6⟩
  · intro p e s m args below meth c s₁ B hml hP _
    have hh0 : s₁.heap = s.heap := by rw [B.state]; rfl
    have ht : ∀ x ∈ c.exceptionTable.toList, False := by
      obtain ⟨meth9, c9, h1, h2, -, -, -, -, h7, -⟩ := Cond.code_spec B.named (atoms_spec (ws := ws) B.pre _ (by rw [hw]; exact List.mem_cons_self))
      cases Option.some.inj (h1.symm.trans B.method)
      cases Option.some.inj (h2.symm.trans (Stand.of_body B).code)
      intro x hx
      rw [Array.isEmpty_iff.mp h7] at hx
      cases hx
    obtain ⟨t, a1, o, b1, b2, b3⟩ := body p e s m args below meth c s₁ B hml ht hP s₁ hh0 (Stand.of_body B)
    exact ⟨t, o, a1, b1, b2, b3⟩
/-- the table of a body with handlers -/
theorem vx_table {p : Program} {x y : MethodName} {S : Spec} {cc bytes : ByteArray} {maxL maxL' : Nat} {ret ret' : Option FieldType} {e : Env} {s s₁ : State} {m : MethodId} {args : Array Value} {below : List Frame} {meth : Method} {c : Code} {hh : List (Nat × Nat × Nat × Nat)}
    (B : BodyLoose p l y S cc maxL ret e s m args below meth c s₁) (h : (Cond.codeWith y bytes maxL' ret' hh).before args s = true) : c.exceptionTable.toList = tableOf hh := by
  obtain ⟨m9, meth9, c9, hn9, h1, h2, -, -, h6, -⟩ := Cond.codeWith_spec h
  cases Option.some.inj (hn9.symm.trans B.named)
  cases Option.some.inj (h1.symm.trans B.method)
  cases Option.some.inj (h2.symm.trans (Stand.of_body B).code)
  rw [← h6, table_eq]
end Bodies
end VXA
/-! ===== END ===== -/
/-! ===== BEGIN a static call of a method with an exception table ===== -/
section VXS
variable {p : Program} {l : Launch} {e : Env} {R : Room} {s : State} {m : MethodId} {args : Array Value} {below : List Frame} {meth : Method} {c : Code} {T : State} {H : Heap} {locs : List Loc} {cells slots : Nat}
abbrev vx_CSW (R : Room) (s : State) (args : Array Value) (own : String) (index : Nat) (y : MethodName) (bytes : ByteArray) (maxL : Nat) (ret : Option FieldType) (hh : List (Nat × Nat × Nat × Nat)) (ws : List Cond) (rm : Room) (mc ms n : Nat) : Prop :=
  (rm.cells = mc ∧ rm.slots = ms ∧ rm.frames + 1 ≤ R.frames ∧ 8 + (maxL + 11) + rm.locals ≤ R.locals ∧ (∀ w ∈ ws, ∀ (a' : Array Value) (U : State), s.WarmedH U.vm → w.before a' U = true) ∧ Cond.codeWith y bytes maxL ret hh ∈ ws) ∧
  (Cond.codeWith y bytes maxL ret hh).before args s = true ∧ (Cond.initialized y.cls).before args s = true ∧ (y.cls ≠ "java/lang/invoke/MethodHandle" ∧ y.cls ≠ "java/lang/invoke/VarHandle") ∧
  (∀ sig, parseMethodDescriptor y.desc = some sig → n = sig.parameters.length) ∧ (Cond.methodLink own index y).before args s = true ∧ (Cond.static y).before args s = true
theorem vx_cwSW {own : String} {index maxL mc ms : Nat} {y : MethodName} {bytes : ByteArray} {ret : Option FieldType} {hh : List (Nat × Nat × Nat × Nat)} {Ts ws ws' : List Cond} {rm : Room} (n : Nat) (ht : ∀ w ∈ Ts, w.before args s = true) (hT : GoodIn Ts (va_wsS own index y ws)) (hw : ws = Cond.codeWith y bytes maxL ret hh :: ws') (hrc : rm.cells = mc) (hrs : rm.slots = ms)
    (hd : y.cls ≠ "java/lang/invoke/MethodHandle" ∧ y.cls ≠ "java/lang/invoke/VarHandle" ∧ (parseMethodDescriptor y.desc).map (fun d => d.parameters.length) = some n) (hR : rm.frames + 1 ≤ R.frames ∧ 8 + (maxL + 11) + rm.locals ≤ R.locals) :
    vx_CSW R s args own index y bytes maxL ret hh ws rm mc ms n := by
  have ok : ∀ w ∈ va_wsS own index y ws, w.before args s = true := fun w h => ht w (hT w h).1
  have hG : GoodIn Ts ws := fun w h => hT w (by unfold va_wsS; exact List.mem_append_right _ h)
  have hc : Cond.codeWith y bytes maxL ret hh ∈ ws := by rw [hw]; exact List.mem_cons_self
  refine ⟨⟨hrc, hrs, hR.1, hR.2, pay_in ht hG, hc⟩, ht _ (hG _ hc).1, ok _ (by simp [va_wsS]), ⟨hd.1, hd.2.1⟩, fun sig h => ?_, ok _ (by simp [va_wsS]), ok _ (by simp [va_wsS])⟩
  have h2 := hd.2.2
  rw [h] at h2
  exact (Option.some.inj h2).symm
theorem vx_callSW (X : Stand p l e R s m args below meth c T locs cells slots) (hexec : p.tables.exec = Jvm.exec) {own : String} {index : Nat} {y : MethodName} {bytes : ByteArray} {maxL : Nat} {ret : Option FieldType} {hh : List (Nat × Nat × Nat × Nat)}
    (hown : s.vm.findClass own = some m.cls) (hlink : (Cond.methodLink own index y).before args s = true) (hstat : (Cond.static y).before args s = true) (hinit : (Cond.initialized y.cls).before args s = true)
    (hcode : (Cond.codeWith y bytes maxL ret hh).before args s = true) (hy : y.cls ≠ "java/lang/invoke/MethodHandle" ∧ y.cls ≠ "java/lang/invoke/VarHandle")
    {W9 : Nat} {Pre : Pt → Array Value → Prop} {Post : Pt → Array Value → Option Value → Pt → Prop} (hK : Back l R p e below s args y 3 W9 Pre Post)
    {g : JFrame} (hg : g.method = m) (hsize : g.locals.size = c.maxLocals) {argsL rest : List Value} (hlen : ∀ sig, parseMethodDescriptor y.desc = some sig → argsL.length = sig.parameters.length)
    (hstack : g.stack = argsL.reverse ++ rest) (hW : 2 * g.monitorRoom + (rest.map fun v => v.category).sum ≤ W9) (hdg : decode c.code g.pc = .ok (.invokestatic index, 3))
    (hpre : ∀ vm₁, s.WarmedH vm₁ → Pre ⟨T.setVm vm₁, locs, cells, slots⟩ argsL.toArray) :
    ∃ (v : Option Value) (vm₁ : Vm) (B : Pt), s.WarmedH vm₁ ∧ Stand p l e R s m args below meth c B.U B.locs B.cells B.slots ∧ Post ⟨T.setVm vm₁, locs, cells, slots⟩ argsL.toArray v B ∧
      ∀ target, Steps p.tables e below (B.U.setTop { g with pc := g.pc + 3, stack := v.toList ++ rest }) target → Steps p.tables e below (T.setTop g) target := by
  obtain ⟨mk, methM, cM, hnamed, hmethM, -, -, -, -, -, -, hsigM⟩ := Cond.codeWith_spec hcode
  have hstatic : methM.isStatic = true := Cond.static_spec hnamed hmethM hstat
  obtain ⟨kP, hkP, -⟩ := className_of_methodNamed hnamed
  have hinitP : kP.init = .initialized := Cond.initialized_spec (findClass_of_methodNamed hnamed) hkP hinit
  obtain ⟨vm₁, X₁, hstep₁⟩ := X.invokestatic hexec hown hlink hnamed hmethM hstatic hkP hinitP hy (g := g) hg (argsL := argsL) (rest := rest) (hlen _ hsigM) hstack hdg
  obtain ⟨v, B, X', hpost, hsteps⟩ := hK m meth c ⟨T.setVm vm₁, locs, cells, slots⟩ { g with stack := rest } (.invokestatic index) mk argsL.toArray X₁ hg hsize hdg hW (X₁.named hnamed) (hpre vm₁ X₁.warmed)
  exact ⟨v, vm₁, B, X₁.warmed, X', hpost, fun target h => hstep₁ _ fun acts => by rw [doInvoke_state]; exact hsteps.trans h⟩
theorem vx_runSW {y : MethodName} {bytes cc : ByteArray} {maxL nL mc ms n index : Nat} {ret : Option FieldType} {hh : List (Nat × Nat × Nat × Nat)} {ws : List Cond} {rm : Room} {Pc : Array Value → State → Prop} {Qc : Array Value → State → Outcome → State → Prop} {free : Addr → Prop} {Ts : List Cond} {own : String} {As rest : List Value} {g : JFrame}
    (S : CallFix p m c cc nL s args Ts own) (hM : Met l y ws rm Pc Qc mc ms free) (cw : vx_CSW R s args own index y bytes maxL ret hh ws rm mc ms n) (hp : PreS s H Pc As)
    (hg : g.method = m) (hn : As.length = n) (hsize : g.locals.size = nL) (hstack : g.stack = As.reverse ++ rest) (hW : 2 * g.monitorRoom + (rest.map fun v => v.category).sum ≤ 8) (hdg : decode cc g.pc = .ok (.invokestatic index, 3)) (hf : cells + mc ≤ R.cells ∧ slots + ms ≤ R.slots) :
    va_Run p l e R s m args below meth c H locs cells slots mc ms g rest (Qc As.toArray) (free) := by
  obtain ⟨⟨hrc, hrs, hfr, hlo, hws, hcw⟩, hcode, hini, hy, hlen, hl, hstt⟩ := cw
  have hK : Back l R p e below s args y 3 8 (PreOf R mc ms Pc) (PostOf Qc mc ms free) := va_backW (hh := hh) (bytes := bytes) (maxL := maxL) (ret := ret) hM hp.1 hrc hrs hfr hlo hws hcw (fun a' U hW => word_at hW (Or.inl (by first | rfl | simp [Cond.onTables, Cond.keeps, Cond.steady])) hini)
  obtain ⟨hx, hb, hml, ho, -⟩ := S
  intro T hT X
  obtain ⟨v, vm₁, ⟨U', l2, c2, s2⟩, hW₁, X', ⟨g', mk, t, L, e1, e2, hq, h1, hL, h2, h3⟩, st⟩ := vx_callSW X hx (hh := hh) (bytes := bytes) (maxL := maxL) (ret := ret) ho hl hstt hini hcode hy hK hg (hsize.trans hml.symm) (argsL := As) (rest := rest) (fun sig h => hn.trans (hlen sig h)) hstack hW (by rw [hb]; exact hdg)
    (fun vm₁ hW₁ => ⟨hf.1, hf.2, hp.2 (T.setVm vm₁) hT hW₁⟩)
  dsimp only [Pt.U, Pt.locs, Pt.cells, Pt.slots] at X' e1 e2 h1 h2 h3 st
  subst h1; subst h2; subst h3
  exact ⟨v, (T.setVm vm₁).calling g' mk As.toArray, t, U', L, hT, X', hL, e1, e2, hq, st⟩
/-- not caught here, past rows that name other classes: it goes on to the caller -/
theorem vx_outP {p : Program} {l : Launch} {e : Env} {R : Room} {s : State} {m : MethodId} {args : Array Value} {below : List Frame} {meth : Method} {c : Code} {H : Heap} {locs : List Loc} {cells slots : Nat} {free : Addr → Prop} {ls : Array Slot} {rest : List Value} {Qc : Array Value → State → Outcome → State → Prop} {XC : String → State → State → Prop}
    {pc : Nat} {own E : String} {ce : Cell} {q : Addr} {mc ms : Nat} (hown : s.vm.findClass own = some m.cls) (hlocks : meth.locks = false)
    (hpass : ∀ z ∈ c.exceptionTable.toList, covers z pc = false ∨ (z.catchType ≠ 0 ∧ ∃ nm : String, (Cond.classLink own z.catchType nm).before args s = true ∧ va_Nc E nm s)) (hcell : H[q]? = some ce) (hv : ce.vm = .none) (hcl : s.vm.findClass E = some ce.cls)
    (hx : ∀ t : State, t.heap = H → s.vm.Alike t.vm → XC E s t) (hf : ∀ z ∈ locs, free z.base) (hc : cells ≤ mc) (hs : slots ≤ ms) :
    vx_W p l e R s m args below meth c H locs cells slots (vx_MQ below Qc XC args s mc ms free) (F0 m pc ls rest) q := by
  intro T hT X
  have hpl : e.platform.magicAccessors = ({} : Platform).magicAccessors := by rw [X.admits.platform]
  obtain ⟨vm', hW', X', st⟩ := X.outThrough hlocks q (g := F0 m pc ls rest) rfl rfl rfl (cell := ce) (by rw [hT]; exact hcell) (by rw [hv]; rfl)
    (by obtain ⟨k9, h9, -⟩ := Vm.findClass_spec hcl; exact ⟨k9, h9⟩) (fun z hz => by
      rcases hpass z hz with h | ⟨hz0, nm, hl1, hn1⟩
      · exact Or.inl h
      · obtain ⟨c6, hc6, hcl6⟩ := Cond.classLink_spec hown hl1 e.platform hpl
        obtain ⟨a8, b8, h1, h2, h3⟩ := hn1
        cases Option.some.inj (h1.symm.trans hcl)
        cases Option.some.inj (h2.symm.trans hc6)
        exact Or.inr ⟨hz0, _, hcl6, h3⟩)
  obtain ⟨g₀, hfr⟩ := X'.frames_eq
  have hcell9 : ((T.setVm vm').setFrames (.throwing q :: below)).heap[q]? = some ce := by
    show T.heap[q]? = some ce
    rw [hT]; exact hcell
  have hend : Ended ((T.setVm vm').setFrames (.throwing q :: below)) below (.threw q) := State.frames_setFrames _ (State.cur_lt_of_frames hfr)
  refine ⟨(T.setVm vm').setFrames (.throwing q :: below), ?_, .threw q, X'.here.running, hend, Or.inr ⟨q, rfl, E, ce, locs, hx _ hT (X'.ends _).1.alike, hcell9, hv, hcl, (X'.ends _).1, (X'.ends _).2.mono hc hs, hf⟩⟩
  rw [X.pushThrowing_eq]
  exact st
/-- a thing of a world lies in the heap -/
theorem vx_lt {D : va_G} {cl : List vw_C} {ws : va_W} {H1 : Heap} (h : va_P D cl ws H1) {k : Nat} {q : Nat × va_E} (hk : ws[k]? = some q) : q.1 < H1.size := (h k q hk).lt
end VXS
/-! ===== END ===== -/
/-! ===== BEGIN methods with a table of their own: called by a name, returning or throwing ===== -/
section VXH
/-! vx_backW, vx_callVX, vx_callSX, vx_callVW, vx_runVW, vx_runVX, vx_runSX, vx_ofWH follow the same proofs as their sisters above (Free/Laws.lean, Shelf42/LK1.lean); vx_outP calls Shelf42/NT130.lean (outThrough). -/
section
variable {l : Launch} {R : Room} {p : Program} {e : Env} {below : List Frame} {s : State} {sargs : Array Value} {y : MethodName} {len W9 : Nat}
theorem vx_backW {ws : List Cond} {rm : Room} {Pc : Array Value → State → Prop} {Qc : Array Value → State → Outcome → State → Prop} {XC : String → State → State → Prop} {mc ms : Nat} {free : Addr → Prop} {bytes : ByteArray} {maxL : Nat} {ret : Option FieldType} {hh : List (Nat × Nat × Nat × Nat)}
    (hM : vx_Met l y ws rm Pc Qc XC mc ms free) (hblind : FrameBlind Pc) (hrc : rm.cells = mc) (hrs : rm.slots = ms)
    (hframes : rm.frames + 1 ≤ R.frames) (hlocals : W9 + (maxL + 11) + rm.locals ≤ R.locals)
    (hws : ∀ w ∈ ws, ∀ a' U, s.WarmedH U.vm → w.before a' U = true) (hcode : Cond.codeWith y bytes maxL ret hh ∈ ws) (hinit : ∀ a' U, s.WarmedH U.vm → (Cond.initialized y.cls).before a' U = true) :
    vx_Back l R p e below s sargs y len W9 (PreOf R mc ms Pc) (PostOf Qc mc ms free) (vx_Post XC mc ms free) := by
  intro m meth c A g ig mk a X hg hsize hdg hW hn hp
  have h1 : (headSpec ws rm).pre.before a A.U = true := atoms_intro fun w hw => hws w hw _ _ X.warmed
  have h2 : (Cond.codeWith y bytes maxL ret hh).before a A.U = true := hws _ hcode _ _ X.warmed
  have h3 : (Cond.initialized y.cls).before a A.U = true := hinit _ _ X.warmed
  have h4 : A.cells + (headSpec ws rm).room.cells ≤ R.cells := by rw [show (headSpec ws rm).room.cells = mc from hrc]; exact hp.1
  have h5 : A.slots + (headSpec ws rm).room.slots ≤ R.slots := by rw [show (headSpec ws rm).room.slots = ms from hrs]; exact hp.2.1
  have hPc : Pc a (A.U.calling g mk a) := hblind _ _ _ _ hp.2.2
  obtain ⟨U, Ls, c0, s0⟩ := A
  dsimp only [Pt.U, Pt.locs, Pt.cells, Pt.slots] at h1 h2 h3 h4 h5 X hn hPc ⊢
  obtain ⟨m9, methY, cY, hn9, hmY, hcY, -, hlY, -⟩ := Cond.codeWith_spec h2
  cases Option.some.inj (hn9.symm.trans hn)
  obtain ⟨kY, hkY, -⟩ := className_of_methodNamed hn
  have hinitY : kY.init = .initialized := Cond.initialized_spec (findClass_of_methodNamed hn) hkY h3
  have h : At U g.method c below := by rw [hg]; exact X.here
  have hlocals9 : W9 + (maxL + 11) + (headSpec ws rm).room.locals ≤ R.locals := hlocals
  have happ : (headSpec ws rm).appliesLoose y e.platform (U.calling g mk a) = true :=
    Spec.appliesLoose_calling (g := g) h hdg hn hkY hinitY
      (X.room_calling (g := g) (R' := (headSpec ws rm).room) hsize hmY hcY hframes (by rw [hlY]; omega) h4 h5) h1
  obtain ⟨mid, hmid⟩ := h.above
  have hfr : (U.setTop g).frames = (.java g :: mid) ++ below := by rw [State.frames_setTop' g h.top, hmid]; rfl
  obtain ⟨o, s₂, hsteps, -, hend, hq⟩ := Steps.callFree hM p X.admits X.cas X.clock (acts := []) hfr happ hPc trivial
  have hq' : vx_Q Qc XC mc ms free a (U.calling g mk a) o s₂ := hq
  rw [State.frames_setTop' g h.top] at hend
  obtain ⟨g₀, hg0⟩ := Option.isSome_iff_exists.mp h.top
  obtain ⟨r, hr⟩ := State.topJava?_eq_some.mp hg0
  have hr' : (({ U with heap := s₂.heap, slotsUsed := s₂.slotsUsed } : State).setVm s₂.vm).frames = .java g₀ :: r := hr
  rcases hq' with ⟨hqc, L, hfe, hL⟩ | ⟨q, rfl, E, ce, L, hx, hce, hcv, hcl, hW₂, hsm, hL⟩
  · obtain ⟨⟨v, rfl⟩, hW₂, e2, q2, q3, q4, q5, q6⟩ := id hfe
    have e3 : s₂ = ({ (U.calling g mk a).setFrames s₂.frames with heap := s₂.heap, slotsUsed := s₂.slotsUsed } : State).setVm s₂.vm := by
      have : s₂ = ({ s₂ with vm := (U.calling g mk a).vm } : State).setVm s₂.vm := rfl
      rw [e2] at this
      exact this
    obtain ⟨c₂, i₂, len₂, hc₂, hd₂, hf₂⟩ := hend
    have hW' : U.WarmedH s₂.vm := hW₂
    have hcc : c₂ = c := by
      have h1 : s₂.code? g.method = U.code? g.method := by
        rw [State.code?_eq, State.code?_eq, hW'.alike.method?]
      exact Option.some.inj (hc₂.symm.trans (h1.trans h.code))
    subst hcc
    have hlen : len₂ = len := by rw [hdg] at hd₂; cases hd₂; rfl
    subst hlen
    have hs₂ : s₂ = (({ U with heap := s₂.heap, slotsUsed := s₂.slotsUsed } : State).setVm s₂.vm).setTop { g with pc := g.pc + len₂, stack := v.toList ++ g.stack } := by
      refine e3.trans ?_
      rw [hf₂, State.calling_eq h.top, State.setFrames_setFrames, State.setTop_of_frames _ hr', hr]
      rfl
    have hsame : U.sameButNew ({ U with heap := s₂.heap, slotsUsed := s₂.slotsUsed } : State) L mc ms := by
      refine ⟨?_, q2, q3, q4, q5, q6⟩
      obtain ⟨t, ht, -⟩ := State.frames_cons hr
      show ({ U with heap := s₂.heap, slotsUsed := s₂.slotsUsed } : State) = { U.setFrames U.frames with heap := s₂.heap, slotsUsed := s₂.slotsUsed }
      rw [State.setFrames_self ht]
    subst hg
    refine Or.inl ⟨v, ⟨(({ U with heap := s₂.heap, slotsUsed := s₂.slotsUsed } : State).setVm s₂.vm), Ls ++ L, c0 + mc, s0 + ms⟩,
      ⟨X.admits, X.cas, X.clock, X.frames, X.room, X.hears, X.method, X.code, (X.here.setHeapUsed s₂.heap s₂.slotsUsed).setVm hW'.alike, X.tail, State.WarmedH.trans X.warmed hW', X.limits, X.bytes, X.same.trans (hsame.setVm s.vm)⟩,
      ⟨g, mk, s₂, L, rfl, rfl, hqc, rfl, hL, rfl, rfl⟩, ?_⟩
    show Steps p.tables e below _ ((({ U with heap := s₂.heap, slotsUsed := s₂.slotsUsed } : State).setVm s₂.vm).setTop { g with pc := g.pc + len₂, stack := v.toList ++ g.stack })
    rw [← hs₂]
    exact hsteps
  · obtain ⟨e2, q2, q3, q4, q5, q6⟩ := id hsm
    have e3 : s₂ = ({ (U.calling g mk a).setFrames s₂.frames with heap := s₂.heap, slotsUsed := s₂.slotsUsed } : State).setVm s₂.vm := by
      have : s₂ = ({ s₂ with vm := (U.calling g mk a).vm } : State).setVm s₂.vm := rfl
      rw [e2] at this
      exact this
    have hf₂ : s₂.frames = .throwing q :: .java g :: U.frames.tail := hend
    have hW' : U.WarmedH s₂.vm := hW₂
    have hs₂ : s₂ = ((({ U with heap := s₂.heap, slotsUsed := s₂.slotsUsed } : State).setVm s₂.vm).setTop g).pushFrame (.throwing q) := by
      refine e3.trans ?_
      rw [hf₂, State.calling_eq h.top, State.setFrames_setFrames, State.pushFrame, State.frames_setTop _ hr', State.setTop_of_frames _ hr', State.setFrames_setFrames, hr]
      rfl
    have hsame : U.sameButNew ({ U with heap := s₂.heap, slotsUsed := s₂.slotsUsed } : State) L mc ms := by
      refine ⟨?_, q2, q3, q4, q5, q6⟩
      obtain ⟨t, ht, -⟩ := State.frames_cons hr
      show ({ U with heap := s₂.heap, slotsUsed := s₂.slotsUsed } : State) = { U.setFrames U.frames with heap := s₂.heap, slotsUsed := s₂.slotsUsed }
      rw [State.setFrames_self ht]
    subst hg
    refine Or.inr ⟨q, ⟨(({ U with heap := s₂.heap, slotsUsed := s₂.slotsUsed } : State).setVm s₂.vm), Ls ++ L, c0 + mc, s0 + ms⟩,
      ⟨X.admits, X.cas, X.clock, X.frames, X.room, X.hears, X.method, X.code, (X.here.setHeapUsed s₂.heap s₂.slotsUsed).setVm hW'.alike, X.tail, State.WarmedH.trans X.warmed hW', X.limits, X.bytes, X.same.trans (hsame.setVm s.vm)⟩,
      ⟨g, mk, s₂, L, E, ce, rfl, rfl, hx, hce, hcv, hcl, rfl, hL, rfl, rfl⟩, ?_⟩
    show Steps p.tables e below _ (((({ U with heap := s₂.heap, slotsUsed := s₂.slotsUsed } : State).setVm s₂.vm).setTop g).pushFrame (.throwing q))
    rw [← hs₂]
    exact hsteps
end
variable {p : Program} {l : Launch} {e : Env} {R : Room} {s : State} {m : MethodId} {args : Array Value} {below : List Frame} {meth : Method} {c : Code} {T : State} {H : Heap} {locs : List Loc} {cells slots : Nat}
theorem vx_callVX (X : Stand p l e R s m args below meth c T locs cells slots) (hexec : p.tables.exec = Jvm.exec) {own C : String} {index : Nat} {y : MethodName} {bytes : ByteArray} {maxL : Nat} {ret : Option FieldType} {hh : List (Nat × Nat × Nat × Nat)}
    (hown : s.vm.findClass own = some m.cls) (hlink : (Cond.methodLink own index y).before args s = true) (hinst : (Cond.instanceMethod y).before args s = true) (hsel : (Cond.selects C y y).before args s = true)
    (hcode : (Cond.codeWith y bytes maxL ret hh).before args s = true) (hy : y.cls ≠ "java/lang/invoke/MethodHandle" ∧ y.cls ≠ "java/lang/invoke/VarHandle")
    {W9 : Nat} {Pre : Pt → Array Value → Prop} {Post : Pt → Array Value → Option Value → Pt → Prop} {PostX : Pt → Array Value → Addr → Pt → Prop} (hK : vx_Back l R p e below s args y 3 W9 Pre Post PostX)
    {b : Addr} {cellB : Cell} (hcell : T.heap[b]? = some cellB) (hobj : cellB.vm.isStatics = false) (hcls : s.vm.findClass C = some cellB.cls)
    {g : JFrame} (hg : g.method = m) (hsize : g.locals.size = c.maxLocals) {argsL rest : List Value} (hlen : ∀ sig, parseMethodDescriptor y.desc = some sig → argsL.length = sig.parameters.length)
    (hstack : g.stack = argsL.reverse ++ .ref b :: rest) (hW : 2 * g.monitorRoom + (rest.map fun v => v.category).sum ≤ W9) (hdg : decode c.code g.pc = .ok (.invokevirtual index, 3))
    (hpre : ∀ vm₁, s.WarmedH vm₁ → Pre ⟨T.setVm vm₁, locs, cells, slots⟩ (Value.ref b :: argsL).toArray) :
    (∃ (v : Option Value) (vm₁ : Vm) (B : Pt), s.WarmedH vm₁ ∧ Stand p l e R s m args below meth c B.U B.locs B.cells B.slots ∧ Post ⟨T.setVm vm₁, locs, cells, slots⟩ (Value.ref b :: argsL).toArray v B ∧
      ∀ target, Steps p.tables e below (B.U.setTop { g with pc := g.pc + 3, stack := v.toList ++ rest }) target → Steps p.tables e below (T.setTop g) target) ∨
    (∃ (q : Addr) (vm₁ : Vm) (B : Pt), s.WarmedH vm₁ ∧ Stand p l e R s m args below meth c B.U B.locs B.cells B.slots ∧ PostX ⟨T.setVm vm₁, locs, cells, slots⟩ (Value.ref b :: argsL).toArray q B ∧
      Steps p.tables e below (T.setTop g) ((B.U.setTop { g with stack := rest }).pushFrame (.throwing q))) := by
  obtain ⟨mk, methM, hnamed, hmethM, hstM, habM⟩ := Cond.instanceMethod_spec hinst
  obtain ⟨m8, methM', cM, hn8, hmethM', -, -, -, -, -, -, hsigM⟩ := Cond.codeWith_spec hcode
  cases Option.some.inj (hn8.symm.trans hnamed)
  cases hmethM.symm.trans hmethM'
  obtain ⟨c2, r2, m2, q1, q2, q3, q4, kP, hkP, hkPi⟩ := Cond.selects_spec hsel
  cases hcls.symm.trans q1
  cases (State.methodFound?_of_named hnamed hy).symm.trans q2
  cases hnamed.symm.trans q3
  have hselP : selectMethod e.platform s.vm cellB.cls mk = .method mk := by rw [Launch.admits_selectMethod X.admits]; exact q4
  obtain ⟨vm₁, X₁, hstep₁⟩ := X.invokevirtual hexec hown hlink hnamed hmethM hstM hkP hkPi hy (a := b) (cell := cellB) hcell
    (fun z h => by rw [h] at hobj; cases hobj) hselP hmethM habM hkP hkPi (g := g) hg (argsL := argsL) (rest := rest) (hlen _ hsigM) hstack hdg
  rcases hK m meth c ⟨T.setVm vm₁, locs, cells, slots⟩ { g with stack := rest } (.invokevirtual index) mk (Value.ref b :: argsL).toArray X₁ hg hsize hdg hW (X₁.named hnamed) (hpre vm₁ X₁.warmed) with ⟨v, B, X', hpost, hsteps⟩ | ⟨q, B, X', hpost, hsteps⟩
  · exact Or.inl ⟨v, vm₁, B, X₁.warmed, X', hpost, fun target h => hstep₁ _ fun acts => by rw [doInvoke_state]; exact hsteps.trans h⟩
  · exact Or.inr ⟨q, vm₁, B, X₁.warmed, X', hpost, hstep₁ _ fun acts => by rw [doInvoke_state]; exact hsteps⟩
theorem vx_callSX (X : Stand p l e R s m args below meth c T locs cells slots) (hexec : p.tables.exec = Jvm.exec) {own : String} {index : Nat} {y : MethodName} {bytes : ByteArray} {maxL : Nat} {ret : Option FieldType} {hh : List (Nat × Nat × Nat × Nat)}
    (hown : s.vm.findClass own = some m.cls) (hlink : (Cond.methodLink own index y).before args s = true) (hstat : (Cond.static y).before args s = true) (hinit : (Cond.initialized y.cls).before args s = true)
    (hcode : (Cond.codeWith y bytes maxL ret hh).before args s = true) (hy : y.cls ≠ "java/lang/invoke/MethodHandle" ∧ y.cls ≠ "java/lang/invoke/VarHandle")
    {W9 : Nat} {Pre : Pt → Array Value → Prop} {Post : Pt → Array Value → Option Value → Pt → Prop} {PostX : Pt → Array Value → Addr → Pt → Prop} (hK : vx_Back l R p e below s args y 3 W9 Pre Post PostX)
    {g : JFrame} (hg : g.method = m) (hsize : g.locals.size = c.maxLocals) {argsL rest : List Value} (hlen : ∀ sig, parseMethodDescriptor y.desc = some sig → argsL.length = sig.parameters.length)
    (hstack : g.stack = argsL.reverse ++ rest) (hW : 2 * g.monitorRoom + (rest.map fun v => v.category).sum ≤ W9) (hdg : decode c.code g.pc = .ok (.invokestatic index, 3))
    (hpre : ∀ vm₁, s.WarmedH vm₁ → Pre ⟨T.setVm vm₁, locs, cells, slots⟩ argsL.toArray) :
    (∃ (v : Option Value) (vm₁ : Vm) (B : Pt), s.WarmedH vm₁ ∧ Stand p l e R s m args below meth c B.U B.locs B.cells B.slots ∧ Post ⟨T.setVm vm₁, locs, cells, slots⟩ argsL.toArray v B ∧
      ∀ target, Steps p.tables e below (B.U.setTop { g with pc := g.pc + 3, stack := v.toList ++ rest }) target → Steps p.tables e below (T.setTop g) target) ∨
    (∃ (q : Addr) (vm₁ : Vm) (B : Pt), s.WarmedH vm₁ ∧ Stand p l e R s m args below meth c B.U B.locs B.cells B.slots ∧ PostX ⟨T.setVm vm₁, locs, cells, slots⟩ argsL.toArray q B ∧
      Steps p.tables e below (T.setTop g) ((B.U.setTop { g with stack := rest }).pushFrame (.throwing q))) := by
  obtain ⟨mk, methM, cM, hnamed, hmethM, -, -, -, -, -, -, hsigM⟩ := Cond.codeWith_spec hcode
  have hstatic : methM.isStatic = true := Cond.static_spec hnamed hmethM hstat
  obtain ⟨kP, hkP, -⟩ := className_of_methodNamed hnamed
  have hinitP : kP.init = .initialized := Cond.initialized_spec (findClass_of_methodNamed hnamed) hkP hinit
  obtain ⟨vm₁, X₁, hstep₁⟩ := X.invokestatic hexec hown hlink hnamed hmethM hstatic hkP hinitP hy (g := g) hg (argsL := argsL) (rest := rest) (hlen _ hsigM) hstack hdg
  rcases hK m meth c ⟨T.setVm vm₁, locs, cells, slots⟩ { g with stack := rest } (.invokestatic index) mk argsL.toArray X₁ hg hsize hdg hW (X₁.named hnamed) (hpre vm₁ X₁.warmed) with ⟨v, B, X', hpost, hsteps⟩ | ⟨q, B, X', hpost, hsteps⟩
  · exact Or.inl ⟨v, vm₁, B, X₁.warmed, X', hpost, fun target h => hstep₁ _ fun acts => by rw [doInvoke_state]; exact hsteps.trans h⟩
  · exact Or.inr ⟨q, vm₁, B, X₁.warmed, X', hpost, hstep₁ _ fun acts => by rw [doInvoke_state]; exact hsteps⟩
theorem vx_callVW (X : Stand p l e R s m args below meth c T locs cells slots) (hexec : p.tables.exec = Jvm.exec) {own C : String} {index : Nat} {y : MethodName} {bytes : ByteArray} {maxL : Nat} {ret : Option FieldType} {hh : List (Nat × Nat × Nat × Nat)}
    (hown : s.vm.findClass own = some m.cls) (hlink : (Cond.methodLink own index y).before args s = true) (hinst : (Cond.instanceMethod y).before args s = true) (hsel : (Cond.selects C y y).before args s = true)
    (hcode : (Cond.codeWith y bytes maxL ret hh).before args s = true) (hy : y.cls ≠ "java/lang/invoke/MethodHandle" ∧ y.cls ≠ "java/lang/invoke/VarHandle")
    {W9 : Nat} {Pre : Pt → Array Value → Prop} {Post : Pt → Array Value → Option Value → Pt → Prop} (hK : Back l R p e below s args y 3 W9 Pre Post)
    {b : Addr} {cellB : Cell} (hcell : T.heap[b]? = some cellB) (hobj : cellB.vm.isStatics = false) (hcls : s.vm.findClass C = some cellB.cls)
    {g : JFrame} (hg : g.method = m) (hsize : g.locals.size = c.maxLocals) {argsL rest : List Value} (hlen : ∀ sig, parseMethodDescriptor y.desc = some sig → argsL.length = sig.parameters.length)
    (hstack : g.stack = argsL.reverse ++ .ref b :: rest) (hW : 2 * g.monitorRoom + (rest.map fun v => v.category).sum ≤ W9) (hdg : decode c.code g.pc = .ok (.invokevirtual index, 3))
    (hpre : ∀ vm₁, s.WarmedH vm₁ → Pre ⟨T.setVm vm₁, locs, cells, slots⟩ (Value.ref b :: argsL).toArray) :
    ∃ (v : Option Value) (vm₁ : Vm) (B : Pt), s.WarmedH vm₁ ∧ Stand p l e R s m args below meth c B.U B.locs B.cells B.slots ∧ Post ⟨T.setVm vm₁, locs, cells, slots⟩ (Value.ref b :: argsL).toArray v B ∧
      ∀ target, Steps p.tables e below (B.U.setTop { g with pc := g.pc + 3, stack := v.toList ++ rest }) target → Steps p.tables e below (T.setTop g) target := by
  obtain ⟨mk, methM, hnamed, hmethM, hstM, habM⟩ := Cond.instanceMethod_spec hinst
  obtain ⟨m8, methM', cM, hn8, hmethM', -, -, -, -, -, -, hsigM⟩ := Cond.codeWith_spec hcode
  cases Option.some.inj (hn8.symm.trans hnamed)
  cases hmethM.symm.trans hmethM'
  obtain ⟨c2, r2, m2, q1, q2, q3, q4, kP, hkP, hkPi⟩ := Cond.selects_spec hsel
  cases hcls.symm.trans q1
  cases (State.methodFound?_of_named hnamed hy).symm.trans q2
  cases hnamed.symm.trans q3
  have hselP : selectMethod e.platform s.vm cellB.cls mk = .method mk := by rw [Launch.admits_selectMethod X.admits]; exact q4
  obtain ⟨vm₁, X₁, hstep₁⟩ := X.invokevirtual hexec hown hlink hnamed hmethM hstM hkP hkPi hy (a := b) (cell := cellB) hcell
    (fun z h => by rw [h] at hobj; cases hobj) hselP hmethM habM hkP hkPi (g := g) hg (argsL := argsL) (rest := rest) (hlen _ hsigM) hstack hdg
  obtain ⟨v, B, X', hpost, hsteps⟩ := hK m meth c ⟨T.setVm vm₁, locs, cells, slots⟩ { g with stack := rest } (.invokevirtual index) mk (Value.ref b :: argsL).toArray X₁ hg hsize hdg hW (X₁.named hnamed) (hpre vm₁ X₁.warmed)
  exact ⟨v, vm₁, B, X₁.warmed, X', hpost, fun target h => hstep₁ _ fun acts => by rw [doInvoke_state]; exact hsteps.trans h⟩
abbrev vx_CVW (R : Room) (s : State) (args : Array Value) (own C : String) (index : Nat) (y : MethodName) (bytes : ByteArray) (maxL : Nat) (ret : Option FieldType) (hh : List (Nat × Nat × Nat × Nat)) (ws : List Cond) (rm : Room) (mc ms n : Nat) : Prop :=
  (rm.cells = mc ∧ rm.slots = ms ∧ rm.frames + 1 ≤ R.frames ∧ 8 + (maxL + 11) + rm.locals ≤ R.locals ∧ (∀ w ∈ ws, ∀ (a' : Array Value) (U : State), s.WarmedH U.vm → w.before a' U = true) ∧ Cond.codeWith y bytes maxL ret hh ∈ ws) ∧
  (Cond.codeWith y bytes maxL ret hh).before args s = true ∧ (Cond.initialized y.cls).before args s = true ∧ (y.cls ≠ "java/lang/invoke/MethodHandle" ∧ y.cls ≠ "java/lang/invoke/VarHandle") ∧
  (∀ sig, parseMethodDescriptor y.desc = some sig → n = sig.parameters.length) ∧ (Cond.methodLink own index y).before args s = true ∧ (Cond.instanceMethod y).before args s = true ∧ (Cond.selects C y y).before args s = true
theorem vx_cwVW {own C : String} {index maxL mc ms : Nat} {y : MethodName} {bytes : ByteArray} {ret : Option FieldType} {hh : List (Nat × Nat × Nat × Nat)} {Ts ws ws' : List Cond} {rm : Room} (n : Nat) (ht : ∀ w ∈ Ts, w.before args s = true) (hT : GoodIn Ts (wsV own index C y ws)) (hw : ws = Cond.codeWith y bytes maxL ret hh :: ws') (hrc : rm.cells = mc) (hrs : rm.slots = ms)
    (hd : y.cls = C ∧ y.cls ≠ "java/lang/invoke/MethodHandle" ∧ y.cls ≠ "java/lang/invoke/VarHandle" ∧ (parseMethodDescriptor y.desc).map (fun d => d.parameters.length) = some n) (hR : rm.frames + 1 ≤ R.frames ∧ 8 + (maxL + 11) + rm.locals ≤ R.locals) :
    vx_CVW R s args own C index y bytes maxL ret hh ws rm mc ms n := by
  obtain ⟨hC, hd⟩ := hd
  subst hC
  have ok : ∀ w ∈ wsV own index y.cls y ws, w.before args s = true := fun w h => ht w (hT w h).1
  have hG : GoodIn Ts ws := fun w h => hT w (by unfold wsV; exact List.mem_append_right _ h)
  have hc : Cond.codeWith y bytes maxL ret hh ∈ ws := by rw [hw]; exact List.mem_cons_self
  refine ⟨⟨hrc, hrs, hR.1, hR.2, pay_in ht hG, hc⟩, ht _ (hG _ hc).1, ok _ (by simp [wsV]), ⟨hd.1, hd.2.1⟩, fun sig h => ?_, ok _ (by simp [wsV]), ok _ (by simp [wsV]), ok _ (by simp [wsV])⟩
  have h2 := hd.2.2
  rw [h] at h2
  exact (Option.some.inj h2).symm
theorem vx_runVW {y : MethodName} {bytes cc : ByteArray} {maxL nL mc ms n index : Nat} {ret : Option FieldType} {hh : List (Nat × Nat × Nat × Nat)} {ws : List Cond} {rm : Room} {Pc : Array Value → State → Prop} {Qc : Array Value → State → Outcome → State → Prop} {free : Addr → Prop} {Ts : List Cond} {own C : String} {b : Addr} {As rest : List Value} {g : JFrame}
    (S : CallFix p m c cc nL s args Ts own) (hM : Met l y ws rm Pc Qc mc ms free) (cw : vx_CVW R s args own C index y bytes maxL ret hh ws rm mc ms n) (hp : PreV s H C b Pc As)
    (hg : g.method = m) (hn : As.length = n) (hsize : g.locals.size = nL) (hstack : g.stack = As.reverse ++ .ref b :: rest) (hW : 2 * g.monitorRoom + (rest.map fun v => v.category).sum ≤ 8) (hdg : decode cc g.pc = .ok (.invokevirtual index, 3)) (hf : cells + mc ≤ R.cells ∧ slots + ms ≤ R.slots) :
    va_Run p l e R s m args below meth c H locs cells slots mc ms g rest (Qc (Value.ref b :: As).toArray) free := by
  obtain ⟨⟨hrc, hrs, hfr, hlo, hws, hcw⟩, hcode, hini, hy, hlen, hl, hin, hse⟩ := cw
  have hK : Back l R p e below s args y 3 8 (PreOf R mc ms Pc) (PostOf Qc mc ms free) := va_backW (hh := hh) (bytes := bytes) (maxL := maxL) (ret := ret) hM hp.1 hrc hrs hfr hlo hws hcw (fun a' U hW => word_at hW (Or.inl (by first | rfl | simp [Cond.onTables, Cond.keeps, Cond.steady])) hini)
  obtain ⟨hx, hb, hml, ho, -⟩ := S
  obtain ⟨-, ⟨cellB, hcB, hoB, hclB⟩, hPc⟩ := hp
  intro T hT X
  obtain ⟨v, vm₁, ⟨U', l2, c2, s2⟩, hW₁, X', ⟨g', mk, t, L, e1, e2, hq, h1, hL, h2, h3⟩, st⟩ := vx_callVW X hx (C := C) (hh := hh) (bytes := bytes) (maxL := maxL) (ret := ret) ho hl hin hse hcode hy hK (by rw [hT]; exact hcB) hoB hclB hg (hsize.trans hml.symm) (argsL := As) (rest := rest) (fun sig h => hn.trans (hlen sig h)) hstack hW (by rw [hb]; exact hdg)
    (fun vm₁ hW₁ => ⟨hf.1, hf.2, hPc (T.setVm vm₁) hT hW₁⟩)
  dsimp only [Pt.U, Pt.locs, Pt.cells, Pt.slots] at X' e1 e2 h1 h2 h3 st
  subst h1; subst h2; subst h3
  exact ⟨v, (T.setVm vm₁).calling g' mk (Value.ref b :: As).toArray, t, U', L, hT, X', hL, e1, e2, hq, st⟩
section
variable {y : MethodName} {bytes cc : ByteArray} {maxL nL mc ms n index : Nat} {ret : Option FieldType} {ws : List Cond} {rm : Room} {Pc : Array Value → State → Prop} {Qc : Array Value → State → Outcome → State → Prop} {XC : String → State → State → Prop} {free : Addr → Prop} {Ts : List Cond} {own C : String} {b : Addr} {As rest : List Value} {g : JFrame}
theorem vx_runVX {hh : List (Nat × Nat × Nat × Nat)} (S : CallFix p m c cc nL s args Ts own) (hM : vx_Met l y ws rm Pc Qc XC mc ms free) (cw : vx_CVW R s args own C index y bytes maxL ret hh ws rm mc ms n) (hp : PreV s H C b Pc As)
    (hg : g.method = m) (hn : As.length = n) (hsize : g.locals.size = nL) (hstack : g.stack = As.reverse ++ .ref b :: rest) (hW : 2 * g.monitorRoom + (rest.map fun v => v.category).sum ≤ 8) (hdg : decode cc g.pc = .ok (.invokevirtual index, 3)) (hf : cells + mc ≤ R.cells ∧ slots + ms ≤ R.slots) :
    vx_Run p l e R s m args below meth c H locs cells slots mc ms g rest (Qc (Value.ref b :: As).toArray) XC free := by
  obtain ⟨⟨hrc, hrs, hfr, hlo, hws, hcw⟩, hcode, hini, hy, hlen, hl, hin, hse⟩ := cw
  have hK : vx_Back l R p e below s args y 3 8 (PreOf R mc ms Pc) (PostOf Qc mc ms free) (vx_Post XC mc ms free) := vx_backW (hh := hh) (bytes := bytes) (maxL := maxL) (ret := ret) hM hp.1 hrc hrs hfr hlo hws hcw (fun a' U hW => word_at hW (Or.inl (by first | rfl | simp [Cond.onTables, Cond.keeps, Cond.steady])) hini)
  obtain ⟨hx, hb, hml, ho, -⟩ := S
  obtain ⟨-, ⟨cellB, hcB, hoB, hclB⟩, hPc⟩ := hp
  intro T hT X
  rcases vx_callVX X hx (C := C) (hh := hh) (bytes := bytes) (maxL := maxL) (ret := ret) ho hl hin hse hcode hy hK (by rw [hT]; exact hcB) hoB hclB hg (hsize.trans hml.symm) (argsL := As) (rest := rest) (fun sig h => hn.trans (hlen sig h)) hstack hW (by rw [hb]; exact hdg)
    (fun vm₁ hW₁ => ⟨hf.1, hf.2, hPc (T.setVm vm₁) hT hW₁⟩) with ⟨v, vm₁, ⟨U', l2, c2, s2⟩, hW₁, X', ⟨g', mk, t, L, e1, e2, hq, h1, hL, h2, h3⟩, st⟩ | ⟨q, vm₁, ⟨U', l2, c2, s2⟩, hW₁, X', ⟨g', mk, t, L, E, ce, e1, e2, hq, hce, hcv, hcl, h1, hL, h2, h3⟩, st⟩
  · dsimp only [Pt.U, Pt.locs, Pt.cells, Pt.slots] at X' e1 e2 h1 h2 h3 st
    subst h1; subst h2; subst h3
    exact Or.inl ⟨v, (T.setVm vm₁).calling g' mk (Value.ref b :: As).toArray, t, U', L, hT, X', hL, e1, e2, hq, st⟩
  · dsimp only [Pt.U, Pt.locs, Pt.cells, Pt.slots] at X' e1 e2 h1 h2 h3 st hcl
    subst h1; subst h2; subst h3
    exact Or.inr ⟨q, (T.setVm vm₁).calling g' mk (Value.ref b :: As).toArray, t, U', L, E, ce, hT, X', hL, e1, e2, hq, hce, hcv, vx_cls hW₁ hcl, st⟩
theorem vx_runSX {hh : List (Nat × Nat × Nat × Nat)} (S : CallFix p m c cc nL s args Ts own) (hM : vx_Met l y ws rm Pc Qc XC mc ms free) (cw : vx_CSW R s args own index y bytes maxL ret hh ws rm mc ms n) (hp : PreS s H Pc As)
    (hg : g.method = m) (hn : As.length = n) (hsize : g.locals.size = nL) (hstack : g.stack = As.reverse ++ rest) (hW : 2 * g.monitorRoom + (rest.map fun v => v.category).sum ≤ 8) (hdg : decode cc g.pc = .ok (.invokestatic index, 3)) (hf : cells + mc ≤ R.cells ∧ slots + ms ≤ R.slots) :
    vx_Run p l e R s m args below meth c H locs cells slots mc ms g rest (Qc As.toArray) XC free := by
  obtain ⟨⟨hrc, hrs, hfr, hlo, hws, hcw⟩, hcode, hini, hy, hlen, hl, hstt⟩ := cw
  have hK : vx_Back l R p e below s args y 3 8 (PreOf R mc ms Pc) (PostOf Qc mc ms free) (vx_Post XC mc ms free) := vx_backW (hh := hh) (bytes := bytes) (maxL := maxL) (ret := ret) hM hp.1 hrc hrs hfr hlo hws hcw (fun a' U hW => word_at hW (Or.inl (by first | rfl | simp [Cond.onTables, Cond.keeps, Cond.steady])) hini)
  obtain ⟨hx, hb, hml, ho, -⟩ := S
  intro T hT X
  rcases vx_callSX X hx (hh := hh) (bytes := bytes) (maxL := maxL) (ret := ret) ho hl hstt hini hcode hy hK hg (hsize.trans hml.symm) (argsL := As) (rest := rest) (fun sig h => hn.trans (hlen sig h)) hstack hW (by rw [hb]; exact hdg)
    (fun vm₁ hW₁ => ⟨hf.1, hf.2, hp.2 (T.setVm vm₁) hT hW₁⟩) with ⟨v, vm₁, ⟨U', l2, c2, s2⟩, hW₁, X', ⟨g', mk, t, L, e1, e2, hq, h1, hL, h2, h3⟩, st⟩ | ⟨q, vm₁, ⟨U', l2, c2, s2⟩, hW₁, X', ⟨g', mk, t, L, E, ce, e1, e2, hq, hce, hcv, hcl, h1, hL, h2, h3⟩, st⟩
  · dsimp only [Pt.U, Pt.locs, Pt.cells, Pt.slots] at X' e1 e2 h1 h2 h3 st
    subst h1; subst h2; subst h3
    exact Or.inl ⟨v, (T.setVm vm₁).calling g' mk As.toArray, t, U', L, hT, X', hL, e1, e2, hq, st⟩
  · dsimp only [Pt.U, Pt.locs, Pt.cells, Pt.slots] at X' e1 e2 h1 h2 h3 st hcl
    subst h1; subst h2; subst h3
    exact Or.inr ⟨q, (T.setVm vm₁).calling g' mk As.toArray, t, U', L, E, ce, hT, X', hL, e1, e2, hq, hce, hcv, vx_cls hW₁ hcl, st⟩
end
end VXH
theorem vx_ofWH {l : Launch} {y : MethodName} {ws ws' : List Cond} {rm : Room} {Pc : Array Value → State → Prop} {Qc : Array Value → State → Outcome → State → Prop} {XC : String → State → State → Prop} {mc ms : Nat} {free : Addr → Prop} {cc : ByteArray} {maxL : Nat} {ret : Option FieldType} {hh : List (Nat × Nat × Nat × Nat)}
    (hy : plainName y.cls = true) (hw : ws = Cond.codeWith y cc maxL ret hh :: ws')
    (body : ∀ p e s m args below meth c s₁, BodyLoose p l y (headSpec ws rm) cc maxL ret e s m args below meth c s₁ → c.maxLocals = maxL → Pc args s →
      W p l e (headSpec ws rm).room s m args below meth c s.heap [] 0 0 (vx_MQ below Qc XC args s mc ms free) (entryFrame m args maxL)) : vx_Met l y ws rm Pc Qc XC mc ms free := by
  refine MetFree.of_bodyS (code := cc) (maxLocals := maxL) (ret := ret) hy ?_ ?_
  · intro args s m h hn
    obtain ⟨m9, meth, c, hn9, h1, h2, h3, h4, -, h5, h6, -⟩ := Cond.codeWith_spec (atoms_spec (ws := ws) h _ (by rw [hw]; exact List.mem_cons_self))
    cases hn.symm.trans hn9
    exact ⟨meth, c, h1, h2, h3, h4, h5, h6⟩
  · intro p e s m args below meth c s₁ B hml hP _
    have hh0 : s₁.heap = s.heap := by rw [B.state]; rfl
    obtain ⟨t, a1, o, b1, b2, b3⟩ := body p e s m args below meth c s₁ B hml hP s₁ hh0 (Stand.of_body B)
    exact ⟨t, o, a1, b1, b2, b3⟩
/-! ===== END ===== -/

/-! ===== BEGIN printed: names, fields, word lists, decode rows ===== -/
def RX0 : String := "NoisePost$Exceedances"
def TX0 : u_T := fun k => match k with
  | 0 => ("NoisePost$Exceedances", "begins", "[I", true)
  | 1 => ("NoisePost$Exceedances", "ends", "[I", true)
  | 2 => ("NoisePost$Exceedances", "aboves", "[I", true)
  | 3 => ("NoisePost$Exceedances", "peaks", "[I", true)
  | 4 => ("NoisePost$Exceedances", "weights", "[I", true)
  | 5 => ("NoisePost$Exceedances", "ownerOf", "[I", true)
  | 6 => ("NoisePost$Exceedances", "found", "I", false)
  | _ => ("NoisePost$Exceedances", "goesOn", "Z", false)
def tyX0 : Nat → FieldType := fun k => match k with
  | 0 => .array .int
  | 1 => .array .int
  | 2 => .array .int
  | 3 => .array .int
  | 4 => .array .int
  | 5 => .array .int
  | 6 => .int
  | _ => .boolean
abbrev wsX00 : List Cond := u_ws RX0 TX0 8
theorem nmX0 : ∀ a, a < 8 → ∀ b, b < 8 → a ≠ b → (TX0 a).2.1 ≠ (TX0 b).2.1 := by decide +kernel
theorem tyX0_ok : ∀ k, k < 8 → parseFieldDescriptor (TX0 k).2.2.1 = some (tyX0 k) := by decide +kernel
abbrev cX0_init : ByteArray := prog_2_method_1_code
def yX0_init : MethodName := ⟨RX0, "<init>", "()V"⟩
abbrev cX0_find : ByteArray := prog_2_method_2_code
def yX0_find : MethodName := ⟨RX0, "find", "(LNoisePost$Minutes;[I)V"⟩
abbrev cX0_begin : ByteArray := prog_2_method_3_code
def yX0_begin : MethodName := ⟨RX0, "begin", "(I)V"⟩
abbrev cX0_extend : ByteArray := prog_2_method_4_code
def yX0_extend : MethodName := ⟨RX0, "extend", "(III)V"⟩
abbrev cX0_markOwners : ByteArray := prog_2_method_5_code
def yX0_markOwners : MethodName := ⟨RX0, "markOwners", "()V"⟩
abbrev cX0_weightOfAll : ByteArray := prog_2_method_6_code
def yX0_weightOfAll : MethodName := ⟨RX0, "weightOfAll", "()I"⟩
abbrev cX0_heaviest : ByteArray := prog_2_method_7_code
def yX0_heaviest : MethodName := ⟨RX0, "heaviest", "()I"⟩
def RX1 : String := "NoisePost$History"
def TX1 : u_T := fun k => match k with
  | 0 => ("NoisePost$History", "ring", "[LNoisePost$State;", true)
  | 1 => ("NoisePost$History", "next", "I", false)
  | _ => ("NoisePost$History", "kept", "I", false)
def tyX1 : Nat → FieldType := fun k => match k with
  | 0 => .array (.object "NoisePost$State")
  | 1 => .int
  | _ => .int
abbrev wsX10 : List Cond := u_ws RX1 TX1 3
theorem nmX1 : ∀ a, a < 3 → ∀ b, b < 3 → a ≠ b → (TX1 a).2.1 ≠ (TX1 b).2.1 := by decide +kernel
theorem tyX1_ok : ∀ k, k < 3 → parseFieldDescriptor (TX1 k).2.2.1 = some (tyX1 k) := by decide +kernel
abbrev cX1_init : ByteArray := prog_3_method_1_code
def yX1_init : MethodName := ⟨RX1, "<init>", "()V"⟩
abbrev cX1_keep : ByteArray := prog_3_method_2_code
def yX1_keep : MethodName := ⟨RX1, "keep", "(LNoisePost$State;)V"⟩
abbrev cX1_giveBack : ByteArray := prog_3_method_3_code
def yX1_giveBack : MethodName := ⟨RX1, "giveBack", "(LNoisePost$State;)V"⟩
def RX2 : String := "NoisePost$LevelCounts"
def TX2 : u_T := fun k => match k with
  | _ => ("NoisePost$LevelCounts", "reached", "[I", true)
def tyX2 : Nat → FieldType := fun k => match k with
  | _ => .array .int
abbrev wsX20 : List Cond := u_ws RX2 TX2 1
theorem nmX2 : ∀ a, a < 1 → ∀ b, b < 1 → a ≠ b → (TX2 a).2.1 ≠ (TX2 b).2.1 := by decide +kernel
theorem tyX2_ok : ∀ k, k < 1 → parseFieldDescriptor (TX2 k).2.2.1 = some (tyX2 k) := by decide +kernel
abbrev cX2_init : ByteArray := prog_4_method_1_code
def yX2_init : MethodName := ⟨RX2, "<init>", "()V"⟩
abbrev cX2_tally : ByteArray := prog_4_method_2_code
def yX2_tally : MethodName := ⟨RX2, "tally", "(LNoisePost$Minutes;)V"⟩
abbrev cX2_highestReached : ByteArray := prog_4_method_3_code
def yX2_highestReached : MethodName := ⟨RX2, "highestReached", "(I)I"⟩
abbrev cX2_levelOfPercent : ByteArray := prog_4_method_4_code
def yX2_levelOfPercent : MethodName := ⟨RX2, "levelOfPercent", "(II)I"⟩
def RX3 : String := "NoisePost$Matches"
def TX3 : u_T := fun k => match k with
  | 0 => ("NoisePost$Matches", "exceedanceOf", "[I", true)
  | 1 => ("NoisePost$Matches", "complaintOf", "[I", true)
  | 2 => ("NoisePost$Matches", "order", "[I", true)
  | 3 => ("NoisePost$Matches", "complaints", "I", false)
  | _ => ("NoisePost$Matches", "matched", "I", false)
def tyX3 : Nat → FieldType := fun k => match k with
  | 0 => .array .int
  | 1 => .array .int
  | 2 => .array .int
  | 3 => .int
  | _ => .int
abbrev wsX30 : List Cond := u_ws RX3 TX3 5
theorem nmX3 : ∀ a, a < 5 → ∀ b, b < 5 → a ≠ b → (TX3 a).2.1 ≠ (TX3 b).2.1 := by decide +kernel
theorem tyX3_ok : ∀ k, k < 5 → parseFieldDescriptor (TX3 k).2.2.1 = some (tyX3 k) := by decide +kernel
abbrev cX3_init : ByteArray := prog_5_method_1_code
def yX3_init : MethodName := ⟨RX3, "<init>", "()V"⟩
abbrev cX3_match : ByteArray := prog_5_method_2_code
def yX3_match : MethodName := ⟨RX3, "match", "(LNoisePost$State;LNoisePost$Exceedances;I)V"⟩
abbrev cX3_putInOrder : ByteArray := prog_5_method_3_code
def yX3_putInOrder : MethodName := ⟨RX3, "putInOrder", "(LNoisePost$State;)V"⟩
abbrev cX3_bestFor : ByteArray := prog_5_method_4_code
def yX3_bestFor : MethodName := ⟨RX3, "bestFor", "(ILNoisePost$Exceedances;I)I"⟩
def RX4 : String := "NoisePost$Minutes"
def TX4 : u_T := fun k => match k with
  | 0 => ("NoisePost$Minutes", "fast", "[I", true)
  | 1 => ("NoisePost$Minutes", "slow", "[I", true)
  | 2 => ("NoisePost$Minutes", "why", "[I", true)
  | 3 => ("NoisePost$Minutes", "told", "I", false)
  | 4 => ("NoisePost$Minutes", "counted", "I", false)
  | 5 => ("NoisePost$Minutes", "resting", "I", false)
  | 6 => ("NoisePost$Minutes", "above", "I", false)
  | _ => ("NoisePost$Minutes", "lastWindy", "I", false)
def tyX4 : Nat → FieldType := fun k => match k with
  | 0 => .array .int
  | 1 => .array .int
  | 2 => .array .int
  | 3 => .int
  | 4 => .int
  | 5 => .int
  | 6 => .int
  | _ => .int
abbrev wsX40 : List Cond := u_ws RX4 TX4 8
theorem nmX4 : ∀ a, a < 8 → ∀ b, b < 8 → a ≠ b → (TX4 a).2.1 ≠ (TX4 b).2.1 := by decide +kernel
theorem tyX4_ok : ∀ k, k < 8 → parseFieldDescriptor (TX4 k).2.2.1 = some (tyX4 k) := by decide +kernel
abbrev cX4_init : ByteArray := prog_6_method_1_code
def yX4_init : MethodName := ⟨RX4, "<init>", "()V"⟩
abbrev cX4_moveArms : ByteArray := prog_6_method_2_code
def yX4_moveArms : MethodName := ⟨RX4, "moveArms", "(LNoisePost$State;[I)V"⟩
abbrev cX4_judge : ByteArray := prog_6_method_3_code
def yX4_judge : MethodName := ⟨RX4, "judge", "(LNoisePost$State;[I)V"⟩
abbrev cX4_tally : ByteArray := prog_6_method_4_code
def yX4_tally : MethodName := ⟨RX4, "tally", "([I)V"⟩
abbrev cX4_isSoonAfterWind : ByteArray := prog_6_method_5_code
def yX4_isSoonAfterWind : MethodName := ⟨RX4, "isSoonAfterWind", "(II)Z"⟩
abbrev cX4_isCounted : ByteArray := prog_6_method_6_code
def yX4_isCounted : MethodName := ⟨RX4, "isCounted", "(I)Z"⟩
abbrev cX4_lastSlowPlace : ByteArray := prog_6_method_7_code
def yX4_lastSlowPlace : MethodName := ⟨RX4, "lastSlowPlace", "()I"⟩
abbrev cX4_shareAbove : ByteArray := prog_6_method_8_code
def yX4_shareAbove : MethodName := ⟨RX4, "shareAbove", "()D"⟩
def RX5 : String := "NoisePost$State"
def TX5 : u_T := fun k => match k with
  | 0 => ("NoisePost$State", "levels", "[I", true)
  | 1 => ("NoisePost$State", "winds", "[I", true)
  | 2 => ("NoisePost$State", "settings", "[I", true)
  | 3 => ("NoisePost$State", "complaintMinutes", "[I", true)
  | 4 => ("NoisePost$State", "minutes", "I", false)
  | _ => ("NoisePost$State", "complaints", "I", false)
def tyX5 : Nat → FieldType := fun k => match k with
  | 0 => .array .int
  | 1 => .array .int
  | 2 => .array .int
  | 3 => .array .int
  | 4 => .int
  | _ => .int
abbrev wsX50 : List Cond := u_ws RX5 TX5 6
theorem nmX5 : ∀ a, a < 6 → ∀ b, b < 6 → a ≠ b → (TX5 a).2.1 ≠ (TX5 b).2.1 := by decide +kernel
theorem tyX5_ok : ∀ k, k < 6 → parseFieldDescriptor (TX5 k).2.2.1 = some (tyX5 k) := by decide +kernel
abbrev cX5_init : ByteArray := prog_7_method_1_code
def yX5_init : MethodName := ⟨RX5, "<init>", "()V"⟩
abbrev cX5_hasMinute : ByteArray := prog_7_method_2_code
def yX5_hasMinute : MethodName := ⟨RX5, "hasMinute", "(I)Z"⟩
abbrev cX5_hasComplaint : ByteArray := prog_7_method_3_code
def yX5_hasComplaint : MethodName := ⟨RX5, "hasComplaint", "(I)Z"⟩
abbrev cX5_addMinutes : ByteArray := prog_7_method_4_code
def yX5_addMinutes : MethodName := ⟨RX5, "addMinutes", "(III)V"⟩
abbrev cX5_dropMinutes : ByteArray := prog_7_method_5_code
def yX5_dropMinutes : MethodName := ⟨RX5, "dropMinutes", "(I)V"⟩
abbrev cX5_addComplaint : ByteArray := prog_7_method_6_code
def yX5_addComplaint : MethodName := ⟨RX5, "addComplaint", "(I)V"⟩
abbrev cX5_dropComplaint : ByteArray := prog_7_method_7_code
def yX5_dropComplaint : MethodName := ⟨RX5, "dropComplaint", "(I)V"⟩
abbrev cX5_takeOver : ByteArray := prog_7_method_8_code
def yX5_takeOver : MethodName := ⟨RX5, "takeOver", "(LNoisePost$State;)V"⟩
def RX6 : String := "NoisePost$Text"
def TX6 : u_T := fun k => match k with
  | 0 => ("NoisePost$Text", "codes", "[I", true)
  | 1 => ("NoisePost$Text", "length", "I", false)
  | 2 => ("NoisePost$Text", "levels", "[I", true)
  | 3 => ("NoisePost$Text", "winds", "[I", true)
  | 4 => ("NoisePost$Text", "times", "[I", true)
  | 5 => ("NoisePost$Text", "parts", "I", false)
  | 6 => ("NoisePost$Text", "numbers", "[I", true)
  | _ => ("NoisePost$Text", "field", "I", false)
def tyX6 : Nat → FieldType := fun k => match k with
  | 0 => .array .int
  | 1 => .int
  | 2 => .array .int
  | 3 => .array .int
  | 4 => .array .int
  | 5 => .int
  | 6 => .array .int
  | _ => .int
abbrev wsX60 : List Cond := u_ws RX6 TX6 8
theorem nmX6 : ∀ a, a < 8 → ∀ b, b < 8 → a ≠ b → (TX6 a).2.1 ≠ (TX6 b).2.1 := by decide +kernel
theorem tyX6_ok : ∀ k, k < 8 → parseFieldDescriptor (TX6 k).2.2.1 = some (tyX6 k) := by decide +kernel
abbrev cX6_init : ByteArray := prog_8_method_1_code
def yX6_init : MethodName := ⟨RX6, "<init>", "()V"⟩
abbrev cX6_addCode : ByteArray := prog_8_method_2_code
def yX6_addCode : MethodName := ⟨RX6, "addCode", "(I)V"⟩
abbrev cX6_read : ByteArray := prog_8_method_3_code
def yX6_read : MethodName := ⟨RX6, "read", "()I"⟩
abbrev cX6_isWhole : ByteArray := prog_8_method_4_code
def yX6_isWhole : MethodName := ⟨RX6, "isWhole", "()Z"⟩
abbrev cX6_minutesInParts : ByteArray := prog_8_method_5_code
def yX6_minutesInParts : MethodName := ⟨RX6, "minutesInParts", "()I"⟩
abbrev cX6_takes : ByteArray := prog_8_method_6_code
def yX6_takes : MethodName := ⟨RX6, "takes", "(I)Z"⟩
abbrev cX6_takesDigit : ByteArray := prog_8_method_7_code
def yX6_takesDigit : MethodName := ⟨RX6, "takesDigit", "(I)Z"⟩
abbrev cX6_numberIsWhole : ByteArray := prog_8_method_8_code
def yX6_numberIsWhole : MethodName := ⟨RX6, "numberIsWhole", "()Z"⟩
abbrev cX6_beginNumber : ByteArray := prog_8_method_9_code
def yX6_beginNumber : MethodName := ⟨RX6, "beginNumber", "(I)V"⟩
abbrev cX6_beginPart : ByteArray := prog_8_method_10_code
def yX6_beginPart : MethodName := ⟨RX6, "beginPart", "()V"⟩
abbrev cX6_endPart : ByteArray := prog_8_method_11_code
def yX6_endPart : MethodName := ⟨RX6, "endPart", "()V"⟩
def RX7 : String := "NoisePost$View"
def TX7 : u_T := fun k => match k with
  | 0 => ("NoisePost$View", "settings", "[I", true)
  | 1 => ("NoisePost$View", "minutes", "LNoisePost$Minutes;", true)
  | 2 => ("NoisePost$View", "exceedances", "LNoisePost$Exceedances;", true)
  | _ => ("NoisePost$View", "matches", "LNoisePost$Matches;", true)
def tyX7 : Nat → FieldType := fun k => match k with
  | 0 => .array .int
  | 1 => .object "NoisePost$Minutes"
  | 2 => .object "NoisePost$Exceedances"
  | _ => .object "NoisePost$Matches"
abbrev wsX70 : List Cond := u_ws RX7 TX7 4
theorem nmX7 : ∀ a, a < 4 → ∀ b, b < 4 → a ≠ b → (TX7 a).2.1 ≠ (TX7 b).2.1 := by decide +kernel
theorem tyX7_ok : ∀ k, k < 4 → parseFieldDescriptor (TX7 k).2.2.1 = some (tyX7 k) := by decide +kernel
abbrev cX7_init : ByteArray := prog_9_method_1_code
def yX7_init : MethodName := ⟨RX7, "<init>", "()V"⟩
abbrev cX7_takeSettings : ByteArray := prog_9_method_2_code
def yX7_takeSettings : MethodName := ⟨RX7, "takeSettings", "([I)V"⟩
abbrev cX7_look : ByteArray := prog_9_method_3_code
def yX7_look : MethodName := ⟨RX7, "look", "(LNoisePost$State;)V"⟩
abbrev cX7_numberOf : ByteArray := prog_9_method_4_code
def yX7_numberOf : MethodName := ⟨RX7, "numberOf", "(I)I"⟩
abbrev cX7_leastLimitFor : ByteArray := prog_9_method_5_code
def yX7_leastLimitFor : MethodName := ⟨RX7, "leastLimitFor", "(I)I"⟩
abbrev cX7_exceedancesWithLimit : ByteArray := prog_9_method_6_code
def yX7_exceedancesWithLimit : MethodName := ⟨RX7, "exceedancesWithLimit", "(I)I"⟩
abbrev cX7_isAboveWithLimit : ByteArray := prog_9_method_7_code
def yX7_isAboveWithLimit : MethodName := ⟨RX7, "isAboveWithLimit", "(II)Z"⟩
abbrev cX7_minutesUntilAbove : ByteArray := prog_9_method_8_code
def yX7_minutesUntilAbove : MethodName := ⟨RX7, "minutesUntilAbove", "(I)I"⟩
def RX8 : String := "NoisePost"
def TX8 : u_T := fun k => match k with
  | 0 => ("NoisePost", "state", "LNoisePost$State;", true)
  | 1 => ("NoisePost", "history", "LNoisePost$History;", true)
  | 2 => ("NoisePost", "text", "LNoisePost$Text;", true)
  | 3 => ("NoisePost", "now", "LNoisePost$View;", true)
  | 4 => ("NoisePost", "tried", "LNoisePost$View;", true)
  | _ => ("NoisePost", "levelCounts", "LNoisePost$LevelCounts;", true)
def tyX8 : Nat → FieldType := fun k => match k with
  | 0 => .object "NoisePost$State"
  | 1 => .object "NoisePost$History"
  | 2 => .object "NoisePost$Text"
  | 3 => .object "NoisePost$View"
  | 4 => .object "NoisePost$View"
  | _ => .object "NoisePost$LevelCounts"
abbrev wsX80 : List Cond := u_ws RX8 TX8 6
theorem nmX8 : ∀ a, a < 6 → ∀ b, b < 6 → a ≠ b → (TX8 a).2.1 ≠ (TX8 b).2.1 := by decide +kernel
theorem tyX8_ok : ∀ k, k < 6 → parseFieldDescriptor (TX8 k).2.2.1 = some (tyX8 k) := by decide +kernel
abbrev cX8_init : ByteArray := prog_1_method_1_code
def yX8_init : MethodName := ⟨RX8, "<init>", "()V"⟩
abbrev cX8_set : ByteArray := prog_1_method_2_code
def yX8_set : MethodName := ⟨RX8, "set", "(II)I"⟩
abbrev cX8_tell : ByteArray := prog_1_method_3_code
def yX8_tell : MethodName := ⟨RX8, "tell", "(III)I"⟩
abbrev cX8_correct : ByteArray := prog_1_method_4_code
def yX8_correct : MethodName := ⟨RX8, "correct", "(III)I"⟩
abbrev cX8_forget : ByteArray := prog_1_method_5_code
def yX8_forget : MethodName := ⟨RX8, "forget", "(I)I"⟩
abbrev cX8_complain : ByteArray := prog_1_method_6_code
def yX8_complain : MethodName := ⟨RX8, "complain", "(I)I"⟩
abbrev cX8_withdraw : ByteArray := prog_1_method_7_code
def yX8_withdraw : MethodName := ⟨RX8, "withdraw", "(I)I"⟩
abbrev cX8_append : ByteArray := prog_1_method_8_code
def yX8_append : MethodName := ⟨RX8, "append", "(I)I"⟩
abbrev cX8_clearBuffer : ByteArray := prog_1_method_9_code
def yX8_clearBuffer : MethodName := ⟨RX8, "clearBuffer", "()I"⟩
abbrev cX8_firstError : ByteArray := prog_1_method_10_code
def yX8_firstError : MethodName := ⟨RX8, "firstError", "()I"⟩
abbrev cX8_load : ByteArray := prog_1_method_11_code
def yX8_load : MethodName := ⟨RX8, "load", "()I"⟩
abbrev cX8_undo : ByteArray := prog_1_method_12_code
def yX8_undo : MethodName := ⟨RX8, "undo", "()I"⟩
abbrev cX8_minute : ByteArray := prog_1_method_13_code
def yX8_minute : MethodName := ⟨RX8, "minute", "(II)I"⟩
abbrev cX8_exceedance : ByteArray := prog_1_method_14_code
def yX8_exceedance : MethodName := ⟨RX8, "exceedance", "(II)I"⟩
abbrev cX8_complaint : ByteArray := prog_1_method_15_code
def yX8_complaint : MethodName := ⟨RX8, "complaint", "(II)I"⟩
abbrev cX8_levelCount : ByteArray := prog_1_method_16_code
def yX8_levelCount : MethodName := ⟨RX8, "levelCount", "(I)I"⟩
abbrev cX8_percentLevel : ByteArray := prog_1_method_17_code
def yX8_percentLevel : MethodName := ⟨RX8, "percentLevel", "(I)I"⟩
abbrev cX8_count : ByteArray := prog_1_method_18_code
def yX8_count : MethodName := ⟨RX8, "count", "(I)I"⟩
abbrev cX8_setting : ByteArray := prog_1_method_19_code
def yX8_setting : MethodName := ⟨RX8, "setting", "(I)I"⟩
abbrev cX8_ifSet : ByteArray := prog_1_method_20_code
def yX8_ifSet : MethodName := ⟨RX8, "ifSet", "(III)I"⟩
abbrev cX8_leastLimit : ByteArray := prog_1_method_21_code
def yX8_leastLimit : MethodName := ⟨RX8, "leastLimit", "(I)I"⟩
abbrev cX8_aboveIn : ByteArray := prog_1_method_22_code
def yX8_aboveIn : MethodName := ⟨RX8, "aboveIn", "(I)I"⟩
abbrev cX8_share : ByteArray := prog_1_method_23_code
def yX8_share : MethodName := ⟨RX8, "share", "()D"⟩
abbrev cX8_digest : ByteArray := prog_1_method_24_code
def yX8_digest : MethodName := ⟨RX8, "digest", "()J"⟩
abbrev cX8_readAgain : ByteArray := prog_1_method_25_code
def yX8_readAgain : MethodName := ⟨RX8, "readAgain", "()V"⟩
abbrev cX8_isSetting : ByteArray := prog_1_method_26_code
def yX8_isSetting : MethodName := ⟨RX8, "isSetting", "(I)Z"⟩
abbrev cX8_fitsSetting : ByteArray := prog_1_method_27_code
def yX8_fitsSetting : MethodName := ⟨RX8, "fitsSetting", "(II)Z"⟩
abbrev cX8_isLevel : ByteArray := prog_1_method_28_code
def yX8_isLevel : MethodName := ⟨RX8, "isLevel", "(I)Z"⟩
abbrev cX8_isWind : ByteArray := prog_1_method_29_code
def yX8_isWind : MethodName := ⟨RX8, "isWind", "(I)Z"⟩
abbrev cX8_numberOf : ByteArray := prog_1_method_30_code
def yX8_numberOf : MethodName := ⟨RX8, "numberOf", "(I)I"⟩
abbrev cX8_minuteProperty : ByteArray := prog_1_method_31_code
def yX8_minuteProperty : MethodName := ⟨RX8, "minuteProperty", "(II)I"⟩
abbrev cX8_exceedanceProperty : ByteArray := prog_1_method_32_code
def yX8_exceedanceProperty : MethodName := ⟨RX8, "exceedanceProperty", "(II)I"⟩
abbrev cX8_complaintProperty : ByteArray := prog_1_method_33_code
def yX8_complaintProperty : MethodName := ⟨RX8, "complaintProperty", "(II)I"⟩
abbrev cX8_isRest : ByteArray := prog_1_method_34_code
def yX8_isRest : MethodName := ⟨RX8, "isRest", "(I[I)Z"⟩
abbrev cX8_limitAt : ByteArray := prog_1_method_35_code
def yX8_limitAt : MethodName := ⟨RX8, "limitAt", "(I[I)I"⟩
abbrev cX8_moved : ByteArray := prog_1_method_36_code
def yX8_moved : MethodName := ⟨RX8, "moved", "(III)I"⟩
abbrev cX8_mixed : ByteArray := prog_1_method_37_code
def yX8_mixed : MethodName := ⟨RX8, "mixed", "(JJ)J"⟩
abbrev cX8_withMinutes : ByteArray := prog_1_method_38_code
def yX8_withMinutes : MethodName := ⟨RX8, "withMinutes", "(J)J"⟩
abbrev cX8_withExceedances : ByteArray := prog_1_method_39_code
def yX8_withExceedances : MethodName := ⟨RX8, "withExceedances", "(J)J"⟩
abbrev cX8_withComplaints : ByteArray := prog_1_method_40_code
def yX8_withComplaints : MethodName := ⟨RX8, "withComplaints", "(J)J"⟩
abbrev cX8_withLevels : ByteArray := prog_1_method_41_code
def yX8_withLevels : MethodName := ⟨RX8, "withLevels", "(J)J"⟩
abbrev cX8_withBuffer : ByteArray := prog_1_method_42_code
def yX8_withBuffer : MethodName := ⟨RX8, "withBuffer", "(J)J"⟩
abbrev cX8_bitsOf : ByteArray := prog_1_method_43_code
def yX8_bitsOf : MethodName := ⟨RX8, "bitsOf", "(D)J"⟩
def RX9 : String := "NoisePostModel"
def TX9 : u_T := fun k => match k with
  | 0 => ("NoisePostModel", "thrown", "I", false)
  | 1 => ("NoisePostModel", "z", "[I", true)
  | 2 => ("NoisePostModel", "saves", "I", false)
  | 3 => ("NoisePostModel", "saved", "[I", true)
  | 4 => ("NoisePostModel", "length", "I", false)
  | 5 => ("NoisePostModel", "text", "[I", true)
  | 6 => ("NoisePostModel", "many", "I", false)
  | 7 => ("NoisePostModel", "level", "[I", true)
  | 8 => ("NoisePostModel", "wind", "[I", true)
  | 9 => ("NoisePostModel", "fast", "[I", true)
  | 10 => ("NoisePostModel", "slow", "[I", true)
  | 11 => ("NoisePostModel", "why", "[I", true)
  | 12 => ("NoisePostModel", "partOf", "[I", true)
  | 13 => ("NoisePostModel", "exceedances", "I", false)
  | 14 => ("NoisePostModel", "first", "[I", true)
  | 15 => ("NoisePostModel", "last", "[I", true)
  | 16 => ("NoisePostModel", "above", "[I", true)
  | 17 => ("NoisePostModel", "peak", "[I", true)
  | 18 => ("NoisePostModel", "weight", "[I", true)
  | 19 => ("NoisePostModel", "goesOn", "Z", false)
  | 20 => ("NoisePostModel", "matched", "[I", true)
  | 21 => ("NoisePostModel", "complaintOf", "[I", true)
  | 22 => ("NoisePostModel", "which", "I", false)
  | 23 => ("NoisePostModel", "digits", "I", false)
  | 24 => ("NoisePostModel", "parts", "I", false)
  | 25 => ("NoisePostModel", "told", "I", false)
  | 26 => ("NoisePostModel", "read", "[I", true)
  | _ => ("NoisePostModel", "h", "J", false)
def tyX9 : Nat → FieldType := fun k => match k with
  | 0 => .int
  | 1 => .array .int
  | 2 => .int
  | 3 => .array .int
  | 4 => .int
  | 5 => .array .int
  | 6 => .int
  | 7 => .array .int
  | 8 => .array .int
  | 9 => .array .int
  | 10 => .array .int
  | 11 => .array .int
  | 12 => .array .int
  | 13 => .int
  | 14 => .array .int
  | 15 => .array .int
  | 16 => .array .int
  | 17 => .array .int
  | 18 => .array .int
  | 19 => .boolean
  | 20 => .array .int
  | 21 => .array .int
  | 22 => .int
  | 23 => .int
  | 24 => .int
  | 25 => .int
  | 26 => .array .int
  | _ => .long
abbrev wsX90 : List Cond := u_ws RX9 TX9 28
theorem nmX9 : ∀ a, a < 28 → ∀ b, b < 28 → a ≠ b → (TX9 a).2.1 ≠ (TX9 b).2.1 := by decide +kernel
theorem tyX9_ok : ∀ k, k < 28 → parseFieldDescriptor (TX9 k).2.2.1 = some (tyX9 k) := by decide +kernel
abbrev cX9_init : ByteArray := prog_11_method_1_code
def yX9_init : MethodName := ⟨RX9, "<init>", "()V"⟩
abbrev cX9_thrown : ByteArray := prog_11_method_2_code
def yX9_thrown : MethodName := ⟨RX9, "thrown", "()I"⟩
abbrev cX9_within : ByteArray := prog_11_method_3_code
def yX9_within : MethodName := ⟨RX9, "within", "(III)Z"⟩
abbrev cX9_of : ByteArray := prog_11_method_4_code
def yX9_of : MethodName := ⟨RX9, "of", "(I)I"⟩
abbrev cX9_isMinute : ByteArray := prog_11_method_5_code
def yX9_isMinute : MethodName := ⟨RX9, "isMinute", "(I)Z"⟩
abbrev cX9_isRest : ByteArray := prog_11_method_6_code
def yX9_isRest : MethodName := ⟨RX9, "isRest", "(I)Z"⟩
abbrev cX9_limitOf : ByteArray := prog_11_method_7_code
def yX9_limitOf : MethodName := ⟨RX9, "limitOf", "(I)I"⟩
abbrev cX9_whyNot : ByteArray := prog_11_method_8_code
def yX9_whyNot : MethodName := ⟨RX9, "whyNot", "(I)I"⟩
abbrev cX9_layArms : ByteArray := prog_11_method_9_code
def yX9_layArms : MethodName := ⟨RX9, "layArms", "()V"⟩
abbrev cX9_addMinute : ByteArray := prog_11_method_10_code
def yX9_addMinute : MethodName := ⟨RX9, "addMinute", "(II)V"⟩
abbrev cX9_layExceedances : ByteArray := prog_11_method_11_code
def yX9_layExceedances : MethodName := ⟨RX9, "layExceedances", "()V"⟩
abbrev cX9_lay : ByteArray := prog_11_method_12_code
def yX9_lay : MethodName := ⟨RX9, "lay", "(II)V"⟩
abbrev cX9_matchFor : ByteArray := prog_11_method_13_code
def yX9_matchFor : MethodName := ⟨RX9, "matchFor", "(I)I"⟩
abbrev cX9_layMatches : ByteArray := prog_11_method_14_code
def yX9_layMatches : MethodName := ⟨RX9, "layMatches", "()V"⟩
abbrev cX9_layAll : ByteArray := prog_11_method_15_code
def yX9_layAll : MethodName := ⟨RX9, "layAll", "()V"⟩
abbrev cX9_save : ByteArray := prog_11_method_16_code
def yX9_save : MethodName := ⟨RX9, "save", "()V"⟩
abbrev cX9_undo : ByteArray := prog_11_method_17_code
def yX9_undo : MethodName := ⟨RX9, "undo", "()I"⟩
abbrev cX9_isSetting : ByteArray := prog_11_method_18_code
def yX9_isSetting : MethodName := ⟨RX9, "isSetting", "(I)Z"⟩
abbrev cX9_isValue : ByteArray := prog_11_method_19_code
def yX9_isValue : MethodName := ⟨RX9, "isValue", "(II)Z"⟩
abbrev cX9_set : ByteArray := prog_11_method_20_code
def yX9_set : MethodName := ⟨RX9, "set", "(II)I"⟩
abbrev cX9_isTold : ByteArray := prog_11_method_21_code
def yX9_isTold : MethodName := ⟨RX9, "isTold", "(II)Z"⟩
abbrev cX9_bring : ByteArray := prog_11_method_22_code
def yX9_bring : MethodName := ⟨RX9, "bring", "(III)V"⟩
abbrev cX9_tell : ByteArray := prog_11_method_23_code
def yX9_tell : MethodName := ⟨RX9, "tell", "(III)I"⟩
abbrev cX9_correct : ByteArray := prog_11_method_24_code
def yX9_correct : MethodName := ⟨RX9, "correct", "(III)I"⟩
abbrev cX9_forget : ByteArray := prog_11_method_25_code
def yX9_forget : MethodName := ⟨RX9, "forget", "(I)I"⟩
abbrev cX9_complain : ByteArray := prog_11_method_26_code
def yX9_complain : MethodName := ⟨RX9, "complain", "(I)I"⟩
abbrev cX9_isComplaint : ByteArray := prog_11_method_27_code
def yX9_isComplaint : MethodName := ⟨RX9, "isComplaint", "(I)Z"⟩
abbrev cX9_withdraw : ByteArray := prog_11_method_28_code
def yX9_withdraw : MethodName := ⟨RX9, "withdraw", "(I)I"⟩
abbrev cX9_append : ByteArray := prog_11_method_29_code
def yX9_append : MethodName := ⟨RX9, "append", "(I)I"⟩
abbrev cX9_clearBuffer : ByteArray := prog_11_method_30_code
def yX9_clearBuffer : MethodName := ⟨RX9, "clearBuffer", "()I"⟩
abbrev cX9_beginPart : ByteArray := prog_11_method_31_code
def yX9_beginPart : MethodName := ⟨RX9, "beginPart", "()V"⟩
abbrev cX9_takesDigit : ByteArray := prog_11_method_32_code
def yX9_takesDigit : MethodName := ⟨RX9, "takesDigit", "(I)Z"⟩
abbrev cX9_isPartOver : ByteArray := prog_11_method_33_code
def yX9_isPartOver : MethodName := ⟨RX9, "isPartOver", "()Z"⟩
abbrev cX9_goTo : ByteArray := prog_11_method_34_code
def yX9_goTo : MethodName := ⟨RX9, "goTo", "(I)V"⟩
abbrev cX9_takes : ByteArray := prog_11_method_35_code
def yX9_takes : MethodName := ⟨RX9, "takes", "(I)Z"⟩
abbrev cX9_readText : ByteArray := prog_11_method_36_code
def yX9_readText : MethodName := ⟨RX9, "readText", "()I"⟩
abbrev cX9_firstError : ByteArray := prog_11_method_37_code
def yX9_firstError : MethodName := ⟨RX9, "firstError", "()I"⟩
abbrev cX9_load : ByteArray := prog_11_method_38_code
def yX9_load : MethodName := ⟨RX9, "load", "()I"⟩
abbrev cX9_minuteNow : ByteArray := prog_11_method_39_code
def yX9_minuteNow : MethodName := ⟨RX9, "minuteNow", "(II)I"⟩
abbrev cX9_minute : ByteArray := prog_11_method_40_code
def yX9_minute : MethodName := ⟨RX9, "minute", "(II)I"⟩
abbrev cX9_exceedanceNow : ByteArray := prog_11_method_41_code
def yX9_exceedanceNow : MethodName := ⟨RX9, "exceedanceNow", "(II)I"⟩
abbrev cX9_exceedance : ByteArray := prog_11_method_42_code
def yX9_exceedance : MethodName := ⟨RX9, "exceedance", "(II)I"⟩
abbrev cX9_complaint : ByteArray := prog_11_method_43_code
def yX9_complaint : MethodName := ⟨RX9, "complaint", "(II)I"⟩
abbrev cX9_countFrom : ByteArray := prog_11_method_44_code
def yX9_countFrom : MethodName := ⟨RX9, "countFrom", "(I)I"⟩
abbrev cX9_levelCount : ByteArray := prog_11_method_45_code
def yX9_levelCount : MethodName := ⟨RX9, "levelCount", "(I)I"⟩
abbrev cX9_percentNow : ByteArray := prog_11_method_46_code
def yX9_percentNow : MethodName := ⟨RX9, "percentNow", "(I)I"⟩
abbrev cX9_percentLevel : ByteArray := prog_11_method_47_code
def yX9_percentLevel : MethodName := ⟨RX9, "percentLevel", "(I)I"⟩
abbrev cX9_minutesBy : ByteArray := prog_11_method_48_code
def yX9_minutesBy : MethodName := ⟨RX9, "minutesBy", "(II)I"⟩
abbrev cX9_restMany : ByteArray := prog_11_method_49_code
def yX9_restMany : MethodName := ⟨RX9, "restMany", "()I"⟩
abbrev cX9_matchedMany : ByteArray := prog_11_method_50_code
def yX9_matchedMany : MethodName := ⟨RX9, "matchedMany", "()I"⟩
abbrev cX9_weights : ByteArray := prog_11_method_51_code
def yX9_weights : MethodName := ⟨RX9, "weights", "()I"⟩
abbrev cX9_heaviest : ByteArray := prog_11_method_52_code
def yX9_heaviest : MethodName := ⟨RX9, "heaviest", "()I"⟩
abbrev cX9_counted : ByteArray := prog_11_method_53_code
def yX9_counted : MethodName := ⟨RX9, "counted", "(I)I"⟩
abbrev cX9_count : ByteArray := prog_11_method_54_code
def yX9_count : MethodName := ⟨RX9, "count", "(I)I"⟩
abbrev cX9_setting : ByteArray := prog_11_method_55_code
def yX9_setting : MethodName := ⟨RX9, "setting", "(I)I"⟩
abbrev cX9_withSetting : ByteArray := prog_11_method_56_code
def yX9_withSetting : MethodName := ⟨RX9, "withSetting", "(III)I"⟩
abbrev cX9_ifSet : ByteArray := prog_11_method_57_code
def yX9_ifSet : MethodName := ⟨RX9, "ifSet", "(III)I"⟩
abbrev cX9_leastNow : ByteArray := prog_11_method_58_code
def yX9_leastNow : MethodName := ⟨RX9, "leastNow", "(I)I"⟩
abbrev cX9_leastLimit : ByteArray := prog_11_method_59_code
def yX9_leastLimit : MethodName := ⟨RX9, "leastLimit", "(I)I"⟩
abbrev cX9_aboveNow : ByteArray := prog_11_method_60_code
def yX9_aboveNow : MethodName := ⟨RX9, "aboveNow", "(I)I"⟩
abbrev cX9_aboveIn : ByteArray := prog_11_method_61_code
def yX9_aboveIn : MethodName := ⟨RX9, "aboveIn", "(I)I"⟩
abbrev cX9_shareNow : ByteArray := prog_11_method_62_code
def yX9_shareNow : MethodName := ⟨RX9, "shareNow", "()D"⟩
abbrev cX9_share : ByteArray := prog_11_method_63_code
def yX9_share : MethodName := ⟨RX9, "share", "()D"⟩
abbrev cX9_mix : ByteArray := prog_11_method_64_code
def yX9_mix : MethodName := ⟨RX9, "mix", "(J)V"⟩
abbrev cX9_mixAll : ByteArray := prog_11_method_65_code
def yX9_mixAll : MethodName := ⟨RX9, "mixAll", "()V"⟩
abbrev cX9_digest : ByteArray := prog_11_method_66_code
def yX9_digest : MethodName := ⟨RX9, "digest", "()J"⟩
def RJx8e188 : String := "java/lang/Cloneable"
def TJx8e188 : u_T := fun k => match k with
  | _ => ("", "", "", false)
def tyJx8e188 : Nat → FieldType := fun k => match k with
  | _ => .int
abbrev wsJx8e1880 : List Cond := u_ws RJx8e188 TJx8e188 0
theorem nmJx8e188 : ∀ a, a < 0 → ∀ b, b < 0 → a ≠ b → (TJx8e188 a).2.1 ≠ (TJx8e188 b).2.1 := by decide +kernel
theorem tyJx8e188_ok : ∀ k, k < 0 → parseFieldDescriptor (TJx8e188 k).2.2.1 = some (tyJx8e188 k) := by decide +kernel
def RJxe99ae : String := "java/lang/Double"
def TJxe99ae : u_T := fun k => match k with
  | _ => ("", "", "", false)
def tyJxe99ae : Nat → FieldType := fun k => match k with
  | _ => .int
abbrev wsJxe99ae0 : List Cond := u_ws RJxe99ae TJxe99ae 0
theorem nmJxe99ae : ∀ a, a < 0 → ∀ b, b < 0 → a ≠ b → (TJxe99ae a).2.1 ≠ (TJxe99ae b).2.1 := by decide +kernel
theorem tyJxe99ae_ok : ∀ k, k < 0 → parseFieldDescriptor (TJxe99ae k).2.2.1 = some (tyJxe99ae k) := by decide +kernel
abbrev cJxe99ae_isNaN_b9ae7 : ByteArray := prog_13_method_6_code
def yJxe99ae_isNaN_b9ae7 : MethodName := ⟨RJxe99ae, "isNaN", "(D)Z"⟩
abbrev cJxe99ae_doubleToLongBits_ccdee : ByteArray := prog_13_method_23_code
def yJxe99ae_doubleToLongBits_ccdee : MethodName := ⟨RJxe99ae, "doubleToLongBits", "(D)J"⟩
def RJ9 : String := "java/lang/Math"
def TJ9 : u_T := fun k => match k with
  | _ => ("", "", "", false)
def tyJ9 : Nat → FieldType := fun k => match k with
  | _ => .int
abbrev wsJ90 : List Cond := u_ws RJ9 TJ9 0
theorem nmJ9 : ∀ a, a < 0 → ∀ b, b < 0 → a ≠ b → (TJ9 a).2.1 ≠ (TJ9 b).2.1 := by decide +kernel
theorem tyJ9_ok : ∀ k, k < 0 → parseFieldDescriptor (TJ9 k).2.2.1 = some (tyJ9 k) := by decide +kernel
abbrev cJ9_floorMod_7cf53 : ByteArray := prog_18_method_50_code
def yJ9_floorMod_7cf53 : MethodName := ⟨RJ9, "floorMod", "(II)I"⟩
abbrev cJ9_max_7cf53 : ByteArray := prog_18_method_65_code
def yJ9_max_7cf53 : MethodName := ⟨RJ9, "max", "(II)I"⟩
abbrev cJ9_min_7cf53 : ByteArray := prog_18_method_69_code
def yJ9_min_7cf53 : MethodName := ⟨RJ9, "min", "(II)I"⟩
def RJ0 : String := "java/lang/String"
def TJ0 : u_T := fun k => match k with
  | _ => ("", "", "", false)
def tyJ0 : Nat → FieldType := fun k => match k with
  | _ => .int
abbrev wsJ00 : List Cond := u_ws RJ0 TJ0 0
theorem nmJ0 : ∀ a, a < 0 → ∀ b, b < 0 → a ≠ b → (TJ0 a).2.1 ≠ (TJ0 b).2.1 := by decide +kernel
theorem tyJ0_ok : ∀ k, k < 0 → parseFieldDescriptor (TJ0 k).2.2.1 = some (tyJ0 k) := by decide +kernel
def RJ10 : String := "java/lang/System"
def TJ10 : u_T := fun k => match k with
  | _ => ("", "", "", false)
def tyJ10 : Nat → FieldType := fun k => match k with
  | _ => .int
abbrev wsJ100 : List Cond := u_ws RJ10 TJ10 0
theorem nmJ10 : ∀ a, a < 0 → ∀ b, b < 0 → a ≠ b → (TJ10 a).2.1 ≠ (TJ10 b).2.1 := by decide +kernel
theorem tyJ10_ok : ∀ k, k < 0 → parseFieldDescriptor (TJ10 k).2.2.1 = some (tyJ10 k) := by decide +kernel
def RL : String := "NoisePostLaw"
abbrev cL_set : ByteArray := method_3_code
def yL_set : MethodName := ⟨RL, "set", "(LNoisePost;II[J)I"⟩
abbrev cL_tell : ByteArray := method_4_code
def yL_tell : MethodName := ⟨RL, "tell", "(LNoisePost;III[J)I"⟩
abbrev cL_correct : ByteArray := method_5_code
def yL_correct : MethodName := ⟨RL, "correct", "(LNoisePost;III[J)I"⟩
abbrev cL_forget : ByteArray := method_6_code
def yL_forget : MethodName := ⟨RL, "forget", "(LNoisePost;I[J)I"⟩
abbrev cL_complain : ByteArray := method_7_code
def yL_complain : MethodName := ⟨RL, "complain", "(LNoisePost;I[J)I"⟩
abbrev cL_withdraw : ByteArray := method_8_code
def yL_withdraw : MethodName := ⟨RL, "withdraw", "(LNoisePost;I[J)I"⟩
abbrev cL_append : ByteArray := method_9_code
def yL_append : MethodName := ⟨RL, "append", "(LNoisePost;I[J)I"⟩
abbrev cL_load : ByteArray := method_10_code
def yL_load : MethodName := ⟨RL, "load", "(LNoisePost;[J)I"⟩
abbrev cL_undo : ByteArray := method_11_code
def yL_undo : MethodName := ⟨RL, "undo", "(LNoisePost;[J)I"⟩
abbrev cL_minute : ByteArray := method_12_code
def yL_minute : MethodName := ⟨RL, "minute", "(LNoisePost;II[J)I"⟩
abbrev cL_exceedance : ByteArray := method_13_code
def yL_exceedance : MethodName := ⟨RL, "exceedance", "(LNoisePost;II[J)I"⟩
abbrev cL_complaint : ByteArray := method_14_code
def yL_complaint : MethodName := ⟨RL, "complaint", "(LNoisePost;II[J)I"⟩
abbrev cL_levelCount : ByteArray := method_15_code
def yL_levelCount : MethodName := ⟨RL, "levelCount", "(LNoisePost;I[J)I"⟩
abbrev cL_percentLevel : ByteArray := method_16_code
def yL_percentLevel : MethodName := ⟨RL, "percentLevel", "(LNoisePost;I[J)I"⟩
abbrev cL_count : ByteArray := method_17_code
def yL_count : MethodName := ⟨RL, "count", "(LNoisePost;I[J)I"⟩
abbrev cL_setting : ByteArray := method_18_code
def yL_setting : MethodName := ⟨RL, "setting", "(LNoisePost;I[J)I"⟩
abbrev cL_ifSet : ByteArray := method_19_code
def yL_ifSet : MethodName := ⟨RL, "ifSet", "(LNoisePost;III[J)I"⟩
abbrev cL_leastLimit : ByteArray := method_20_code
def yL_leastLimit : MethodName := ⟨RL, "leastLimit", "(LNoisePost;I[J)I"⟩
abbrev cL_aboveIn : ByteArray := method_21_code
def yL_aboveIn : MethodName := ⟨RL, "aboveIn", "(LNoisePost;I[J)I"⟩
abbrev cL_law : ByteArray := code
def yL_law : MethodName := ⟨RL, "law", "([I)Z"⟩
theorem inJx8e188 : ∀ w ∈ wsJx8e1880, w ∈ lw_tbl := by decide +kernel
theorem inJxe99ae : ∀ w ∈ wsJxe99ae0, w ∈ lw_tbl := by decide +kernel
theorem inJ9 : ∀ w ∈ wsJ90, w ∈ lw_tbl := by decide +kernel
theorem inJ0 : ∀ w ∈ wsJ00, w ∈ lw_tbl := by decide +kernel
theorem inJ10 : ∀ w ∈ wsJ100, w ∈ lw_tbl := by decide +kernel
abbrev vwCl : List vw_C := [(RX0, TX0, 8), (RX1, TX1, 3), (RX2, TX2, 1), (RX3, TX3, 5), (RX4, TX4, 8), (RX5, TX5, 6), (RX6, TX6, 8), (RX7, TX7, 4), (RX8, TX8, 6), (RX9, TX9, 28)]
end
section
/-! The frame of all contracts: one list of words, one world of 109 cells (class, model, the law's row), its content a function of cell and place. Written by wip/whole/gen/infra.py. -/
def BG : List Cond := lw_tbl.filter goodWord
theorem bg_good : ∀ w ∈ BG, goodWord w = true := fun _ h => (List.mem_filter.mp h).2
theorem bg_in {w : Cond} (h : w ∈ lw_tbl) (g : goodWord w = true) : w ∈ BG := List.mem_filter.mpr ⟨h, g⟩
theorem bg_t {w : Cond} (i : Nat) (h : tables_1[i]? = some w) (g : goodWord w = true) : w ∈ BG := bg_in (List.mem_append_right _ (List.mem_of_getElem? h)) g
theorem bg_p {w : Cond} (i : Nat) (h : (k2_sels lw_privs)[i]? = some w) (g : goodWord w = true) : w ∈ BG := bg_in (List.mem_append_left _ (List.mem_of_getElem? h)) g
theorem bg_tbl : ∀ w ∈ BG, w ∈ lw_tbl := fun _ h => (List.mem_filter.mp h).1
theorem gB {y : MethodName} {b : ByteArray} {n : Nat} {r : Option FieldType} (h : Cond.code y b n r ∈ BG) : GoodIn BG (Cond.code y b n r :: BG) := by
  intro w hw
  rcases List.mem_cons.mp hw with rfl | hw
  · exact ⟨h, good_of_word (bg_good _ h)⟩
  · exact ⟨hw, good_of_word (bg_good _ hw)⟩
theorem gI {big : List Cond} {a : Cond} {ws : List Cond} (h : a ∈ big ∧ ((a.onTables && a.keeps) = true ∨ ∃ ty, a = .arrayClass ty)) (h2 : GoodIn big ws) : GoodIn big (a :: ws) := by
  intro w hw
  rcases List.mem_cons.mp hw with rfl | hw
  · exact h
  · exact h2 w hw
theorem gW {a : Cond} (h : a ∈ BG) : a ∈ BG ∧ ((a.onTables && a.keeps) = true ∨ ∃ ty, a = .arrayClass ty) := ⟨h, good_of_word (bg_good _ h)⟩
theorem gV {own C : String} {idx : Nat} {y : MethodName} {b : ByteArray} {n : Nat} {r : Option FieldType} (h1 : Cond.methodLink own idx y ∈ BG) (h2 : Cond.instanceMethod y ∈ BG) (h3 : Cond.selects C y y ∈ BG) (h4 : Cond.initialized C ∈ BG) (h5 : Cond.code y b n r ∈ BG) :
    GoodIn BG (wsV own idx C y (Cond.code y b n r :: BG)) := by
  unfold wsV
  exact gI (gW h1) (gI (gW h2) (gI (gW h3) (gI (gW h4) (gB h5))))
theorem gS {own : String} {idx : Nat} {y : MethodName} {b : ByteArray} {n : Nat} {r : Option FieldType} (h1 : Cond.methodLink own idx y ∈ BG) (h2 : Cond.static y ∈ BG) (h4 : Cond.initialized y.cls ∈ BG) (h5 : Cond.code y b n r ∈ BG) :
    GoodIn BG (va_wsS own idx y (Cond.code y b n r :: BG)) := by
  unfold va_wsS
  exact gI (gW h1) (gI (gW h2) (gI (gW h4) (gB h5)))
/-! the world -/
abbrev Mem : Type := Nat → Nat → Int32
abbrev Lng : Type := Nat → Int64
def rset (M : Mem) (c : Nat) (f : Nat → Int32) : Mem := fun c' => if c' = c then f else M c'
def mset (M : Mem) (c k : Nat) (v : Int32) : Mem := rset M c (upd (M c) k v)
abbrev WT : Type := va_G × (ClassId × ClassId × ClassId) × (Nat → Nat) × (Nat → Nat) × Nat
def wD (w : WT) : va_G := w.1
def wI (w : WT) : ClassId := w.2.1.1
def wS (w : WT) : ClassId := w.2.1.2.1
def wJ (w : WT) : ClassId := w.2.1.2.2
def wAd (w : WT) : Nat → Nat := w.2.2.1
def wSt (w : WT) : Nat → Nat := w.2.2.2.1
def wSz (w : WT) : Nat := w.2.2.2.2
def wA (w : WT) : Nat → Prop := fun q => wSz w ≤ q
def wTy (w : WT) : List (ClassId × FieldType) := [(wI w, .int), (wS w, .object "NoisePost$State"), (wJ w, .long)]

def lenX : List Nat := [0, 0, 200, 200, 10, 20, 0, 200, 200, 10, 20, 0, 200, 200, 10, 20, 0, 200, 200, 10, 20, 0, 200, 200, 10, 20, 0, 200, 200, 10, 20, 0, 200, 200, 10, 20, 0, 200, 200, 10, 20, 0, 200, 200, 10, 20, 0, 0, 0, 60, 30, 30, 30, 3, 0, 10, 0, 200, 200, 200, 0, 100, 100, 100, 100, 100, 200, 0, 20, 100, 20, 0, 10, 0, 200, 200, 200, 0, 100, 100, 100, 100, 100, 200, 0, 20, 100, 20, 0, 141, 0, 432, 3456, 60, 300, 300, 300, 300, 300, 300, 300, 300, 300, 300, 300, 20, 300, 96, 0]
def fs_NoisePost (w : WT) : List Value := [.ref (wAd w 1), .ref (wAd w 46), .ref (wAd w 48), .ref (wAd w 54), .ref (wAd w 71), .ref (wAd w 88)]
def fs_State (w : WT) (b : Nat) (row : Nat → Int32) : List Value := [.ref (wAd w (b + 1)), .ref (wAd w (b + 2)), .ref (wAd w (b + 3)), .ref (wAd w (b + 4)), .int (row 4), .int (row 5)]
def fs_History (w : WT) (b : Nat) (row : Nat → Int32) : List Value := [.ref (wAd w (b + 1)), .int (row 1), .int (row 2)]
def fs_Text (w : WT) (b : Nat) (row : Nat → Int32) : List Value := [.ref (wAd w (b + 1)), .int (row 1), .ref (wAd w (b + 2)), .ref (wAd w (b + 3)), .ref (wAd w (b + 4)), .int (row 5), .ref (wAd w (b + 5)), .int (row 7)]
def fs_View (w : WT) (b : Nat) (row : Nat → Int32) : List Value := [.ref (wAd w (b + 1)), .ref (wAd w (b + 2)), .ref (wAd w (b + 6)), .ref (wAd w (b + 13))]
def fs_Minutes (w : WT) (b : Nat) (row : Nat → Int32) : List Value := [.ref (wAd w (b + 1)), .ref (wAd w (b + 2)), .ref (wAd w (b + 3)), .int (row 3), .int (row 4), .int (row 5), .int (row 6), .int (row 7)]
def fs_Exceedances (w : WT) (b : Nat) (row : Nat → Int32) : List Value := [.ref (wAd w (b + 1)), .ref (wAd w (b + 2)), .ref (wAd w (b + 3)), .ref (wAd w (b + 4)), .ref (wAd w (b + 5)), .ref (wAd w (b + 6)), .int (row 6), .int (row 7)]
def fs_Matches (w : WT) (b : Nat) (row : Nat → Int32) : List Value := [.ref (wAd w (b + 1)), .ref (wAd w (b + 2)), .ref (wAd w (b + 3)), .int (row 3), .int (row 4)]
def fs_LevelCounts (w : WT) (b : Nat) (row : Nat → Int32) : List Value := [.ref (wAd w (b + 1))]
def fs_Model (w : WT) (L : Lng) (b : Nat) (row : Nat → Int32) : List Value := [.int (row 0), .ref (wAd w (b + 1)), .int (row 2), .ref (wAd w (b + 2)), .int (row 4), .ref (wAd w (b + 3)), .int (row 6), .ref (wAd w (b + 4)), .ref (wAd w (b + 5)), .ref (wAd w (b + 6)), .ref (wAd w (b + 7)), .ref (wAd w (b + 8)), .ref (wAd w (b + 9)), .int (row 13), .ref (wAd w (b + 10)), .ref (wAd w (b + 11)), .ref (wAd w (b + 12)), .ref (wAd w (b + 13)), .ref (wAd w (b + 14)), .int (row 19), .ref (wAd w (b + 15)), .ref (wAd w (b + 16)), .int (row 22), .int (row 23), .int (row 24), .int (row 25), .ref (wAd w (b + 17)), .long (L 0)]
def ringX (w : WT) : Nat → Option Nat := fun i => if i < 8 then some (wAd w (6 + 5 * i)) else none
def objX (w : WT) (L : Lng) (c : Nat) (row : Nat → Int32) : va_E :=
  if c = 0 then .inr (8, fs_NoisePost w)
  else if c = 46 then .inr (1, fs_History w c row)
  else if c = 47 then .inl (wS w, 8, .inr (.inr (.inr (.inr (ringX w)))))
  else if c = 48 then .inr (6, fs_Text w c row)
  else if c = 54 ∨ c = 71 then .inr (7, fs_View w c row)
  else if c = 56 ∨ c = 73 then .inr (4, fs_Minutes w c row)
  else if c = 60 ∨ c = 77 then .inr (0, fs_Exceedances w c row)
  else if c = 67 ∨ c = 84 then .inr (3, fs_Matches w c row)
  else if c = 88 then .inr (2, fs_LevelCounts w c row)
  else if c = 90 then .inr (9, fs_Model w L c row)
  else if c = 108 then .inl (wJ w, 1, .inr (.inl (fun _ => L 1)))
  else .inr (5, fs_State w c row)
def cellX (w : WT) (L : Lng) (c : Nat) (row : Nat → Int32) : va_E := if lenX.getD c 0 = 0 then objX w L c row else .inl (wI w, lenX.getD c 0, .inl row)
def pic (w : WT) (M : Mem) (L : Lng) : va_W := (List.range 109).map (fun c => (wAd w c, cellX w L c (M c)))
theorem pic_at {w : WT} {M : Mem} {L : Lng} {c : Nat} {e : va_E} (h : c < 109) (he : cellX w L c (M c) = e) : (pic w M L)[c]? = some (wAd w c, e) := by
  subst he
  simp [pic, h]
theorem pic_set {w : WT} {M : Mem} {L : Lng} {c : Nat} {e : va_E} (row : Nat → Int32) (h : c < 109) (he : cellX w L c row = e) : (pic w M L).set c (wAd w c, e) = pic w (rset M c row) L := by
  subst he
  apply List.ext_getElem?
  intro i
  by_cases hi : i < 109
  · by_cases hc : c = i
    · subst hc
      rw [List.getElem?_set_self (by simpa [pic] using hi)]
      simp [pic, hi, rset]
    · rw [List.getElem?_set_ne hc]
      simp [pic, hi, rset, Ne.symm hc]
  · rw [List.getElem?_eq_none (by simp [pic]; omega), List.getElem?_eq_none (by simp [pic]; omega)]
/-- the law's own cells, apart and made behind its start -/
def WOK (w : WT) : Prop := (∀ c, c < 109 → wSz w ≤ wAd w c) ∧ ∀ c d, c < 109 → d < 109 → wAd w c = wAd w d → c = d
theorem pic_D {w : WT} (h : WOK w) (M : Mem) (L : Lng) : va_D (wA w) (pic w M L) := by
  have key : ∀ (i : Nat) (p : Nat × va_E), (pic w M L)[i]? = some p → i < 109 ∧ p.1 = wAd w i := by
    intro i p hp
    have hi : i < 109 := by
      have := (List.getElem?_eq_some_iff.mp hp).1
      simpa [pic] using this
    simp [pic, hi] at hp
    exact ⟨hi, by rw [← hp]⟩
  refine ⟨fun i j p q hp hq hpq => ?_, fun k q hq => ?_⟩
  · obtain ⟨h1, e1⟩ := key i p hp
    obtain ⟨h2, e2⟩ := key j q hq
    exact h.2 i j h1 h2 (by rw [← e1, ← e2, hpq])
  · obtain ⟨h1, e1⟩ := key k q hq
    rw [e1]
    exact h.1 k h1

def isNp (b : Nat) : Prop := b = 0
def isSt (b : Nat) : Prop := b = 1 ∨ b = 6 ∨ b = 11 ∨ b = 16 ∨ b = 21 ∨ b = 26 ∨ b = 31 ∨ b = 36 ∨ b = 41
def isHi (b : Nat) : Prop := b = 46
def isTx (b : Nat) : Prop := b = 48
def isVw (b : Nat) : Prop := b = 54 ∨ b = 71
def isMn (b : Nat) : Prop := b = 56 ∨ b = 73
def isEx (b : Nat) : Prop := b = 60 ∨ b = 77
def isMt (b : Nat) : Prop := b = 67 ∨ b = 84
def isLc (b : Nat) : Prop := b = 88
def isMo (b : Nat) : Prop := b = 90
theorem ob_NoisePost {b : Nat} (h : isNp b) (w : WT) (L : Lng) (row : Nat → Int32) : cellX w L b row = .inr (8, fs_NoisePost w) := by
  rcases h with rfl <;> rfl
theorem lt_NoisePost {b : Nat} (h : isNp b) : b < 109 := by unfold isNp at h; omega
theorem to_NoisePost_state : isSt 1 := by unfold isSt; omega
theorem to_NoisePost_history : isHi 46 := by unfold isHi; omega
theorem to_NoisePost_text : isTx 48 := by unfold isTx; omega
theorem to_NoisePost_now : isVw 54 := by unfold isVw; omega
theorem to_NoisePost_tried : isVw 71 := by unfold isVw; omega
theorem to_NoisePost_levelCounts : isLc 88 := by unfold isLc; omega
theorem ob_State {b : Nat} (h : isSt b) (w : WT) (L : Lng) (row : Nat → Int32) : cellX w L b row = .inr (5, fs_State w b row) := by
  rcases h with rfl | rfl | rfl | rfl | rfl | rfl | rfl | rfl | rfl <;> rfl
theorem lt_State {b : Nat} (h : isSt b) : b < 109 := by unfold isSt at h; omega
theorem ar_State_levels {b : Nat} (h : isSt b) (w : WT) (L : Lng) (row : Nat → Int32) : cellX w L (b + 1) row = .inl (wI w, 200, .inl row) := by
  rcases h with rfl | rfl | rfl | rfl | rfl | rfl | rfl | rfl | rfl <;> rfl
theorem la_State_levels {b : Nat} (h : isSt b) : b + 1 < 109 := by unfold isSt at h; omega
theorem ar_State_winds {b : Nat} (h : isSt b) (w : WT) (L : Lng) (row : Nat → Int32) : cellX w L (b + 2) row = .inl (wI w, 200, .inl row) := by
  rcases h with rfl | rfl | rfl | rfl | rfl | rfl | rfl | rfl | rfl <;> rfl
theorem la_State_winds {b : Nat} (h : isSt b) : b + 2 < 109 := by unfold isSt at h; omega
theorem ar_State_settings {b : Nat} (h : isSt b) (w : WT) (L : Lng) (row : Nat → Int32) : cellX w L (b + 3) row = .inl (wI w, 10, .inl row) := by
  rcases h with rfl | rfl | rfl | rfl | rfl | rfl | rfl | rfl | rfl <;> rfl
theorem la_State_settings {b : Nat} (h : isSt b) : b + 3 < 109 := by unfold isSt at h; omega
theorem ar_State_complaintMinutes {b : Nat} (h : isSt b) (w : WT) (L : Lng) (row : Nat → Int32) : cellX w L (b + 4) row = .inl (wI w, 20, .inl row) := by
  rcases h with rfl | rfl | rfl | rfl | rfl | rfl | rfl | rfl | rfl <;> rfl
theorem la_State_complaintMinutes {b : Nat} (h : isSt b) : b + 4 < 109 := by unfold isSt at h; omega
theorem ob_History {b : Nat} (h : isHi b) (w : WT) (L : Lng) (row : Nat → Int32) : cellX w L b row = .inr (1, fs_History w b row) := by
  rcases h with rfl <;> rfl
theorem lt_History {b : Nat} (h : isHi b) : b < 109 := by unfold isHi at h; omega
theorem ob_Text {b : Nat} (h : isTx b) (w : WT) (L : Lng) (row : Nat → Int32) : cellX w L b row = .inr (6, fs_Text w b row) := by
  rcases h with rfl <;> rfl
theorem lt_Text {b : Nat} (h : isTx b) : b < 109 := by unfold isTx at h; omega
theorem ar_Text_codes {b : Nat} (h : isTx b) (w : WT) (L : Lng) (row : Nat → Int32) : cellX w L (b + 1) row = .inl (wI w, 60, .inl row) := by
  rcases h with rfl <;> rfl
theorem la_Text_codes {b : Nat} (h : isTx b) : b + 1 < 109 := by unfold isTx at h; omega
theorem ar_Text_levels {b : Nat} (h : isTx b) (w : WT) (L : Lng) (row : Nat → Int32) : cellX w L (b + 2) row = .inl (wI w, 30, .inl row) := by
  rcases h with rfl <;> rfl
theorem la_Text_levels {b : Nat} (h : isTx b) : b + 2 < 109 := by unfold isTx at h; omega
theorem ar_Text_winds {b : Nat} (h : isTx b) (w : WT) (L : Lng) (row : Nat → Int32) : cellX w L (b + 3) row = .inl (wI w, 30, .inl row) := by
  rcases h with rfl <;> rfl
theorem la_Text_winds {b : Nat} (h : isTx b) : b + 3 < 109 := by unfold isTx at h; omega
theorem ar_Text_times {b : Nat} (h : isTx b) (w : WT) (L : Lng) (row : Nat → Int32) : cellX w L (b + 4) row = .inl (wI w, 30, .inl row) := by
  rcases h with rfl <;> rfl
theorem la_Text_times {b : Nat} (h : isTx b) : b + 4 < 109 := by unfold isTx at h; omega
theorem ar_Text_numbers {b : Nat} (h : isTx b) (w : WT) (L : Lng) (row : Nat → Int32) : cellX w L (b + 5) row = .inl (wI w, 3, .inl row) := by
  rcases h with rfl <;> rfl
theorem la_Text_numbers {b : Nat} (h : isTx b) : b + 5 < 109 := by unfold isTx at h; omega
theorem ob_View {b : Nat} (h : isVw b) (w : WT) (L : Lng) (row : Nat → Int32) : cellX w L b row = .inr (7, fs_View w b row) := by
  rcases h with rfl | rfl <;> rfl
theorem lt_View {b : Nat} (h : isVw b) : b < 109 := by unfold isVw at h; omega
theorem ar_View_settings {b : Nat} (h : isVw b) (w : WT) (L : Lng) (row : Nat → Int32) : cellX w L (b + 1) row = .inl (wI w, 10, .inl row) := by
  rcases h with rfl | rfl <;> rfl
theorem la_View_settings {b : Nat} (h : isVw b) : b + 1 < 109 := by unfold isVw at h; omega
theorem to_View_minutes {b : Nat} (h : isVw b) : isMn (b + 2) := by unfold isVw at h; unfold isMn; omega
theorem to_View_exceedances {b : Nat} (h : isVw b) : isEx (b + 6) := by unfold isVw at h; unfold isEx; omega
theorem to_View_matches {b : Nat} (h : isVw b) : isMt (b + 13) := by unfold isVw at h; unfold isMt; omega
theorem ob_Minutes {b : Nat} (h : isMn b) (w : WT) (L : Lng) (row : Nat → Int32) : cellX w L b row = .inr (4, fs_Minutes w b row) := by
  rcases h with rfl | rfl <;> rfl
theorem lt_Minutes {b : Nat} (h : isMn b) : b < 109 := by unfold isMn at h; omega
theorem ar_Minutes_fast {b : Nat} (h : isMn b) (w : WT) (L : Lng) (row : Nat → Int32) : cellX w L (b + 1) row = .inl (wI w, 200, .inl row) := by
  rcases h with rfl | rfl <;> rfl
theorem la_Minutes_fast {b : Nat} (h : isMn b) : b + 1 < 109 := by unfold isMn at h; omega
theorem ar_Minutes_slow {b : Nat} (h : isMn b) (w : WT) (L : Lng) (row : Nat → Int32) : cellX w L (b + 2) row = .inl (wI w, 200, .inl row) := by
  rcases h with rfl | rfl <;> rfl
theorem la_Minutes_slow {b : Nat} (h : isMn b) : b + 2 < 109 := by unfold isMn at h; omega
theorem ar_Minutes_why {b : Nat} (h : isMn b) (w : WT) (L : Lng) (row : Nat → Int32) : cellX w L (b + 3) row = .inl (wI w, 200, .inl row) := by
  rcases h with rfl | rfl <;> rfl
theorem la_Minutes_why {b : Nat} (h : isMn b) : b + 3 < 109 := by unfold isMn at h; omega
theorem ob_Exceedances {b : Nat} (h : isEx b) (w : WT) (L : Lng) (row : Nat → Int32) : cellX w L b row = .inr (0, fs_Exceedances w b row) := by
  rcases h with rfl | rfl <;> rfl
theorem lt_Exceedances {b : Nat} (h : isEx b) : b < 109 := by unfold isEx at h; omega
theorem ar_Exceedances_begins {b : Nat} (h : isEx b) (w : WT) (L : Lng) (row : Nat → Int32) : cellX w L (b + 1) row = .inl (wI w, 100, .inl row) := by
  rcases h with rfl | rfl <;> rfl
theorem la_Exceedances_begins {b : Nat} (h : isEx b) : b + 1 < 109 := by unfold isEx at h; omega
theorem ar_Exceedances_ends {b : Nat} (h : isEx b) (w : WT) (L : Lng) (row : Nat → Int32) : cellX w L (b + 2) row = .inl (wI w, 100, .inl row) := by
  rcases h with rfl | rfl <;> rfl
theorem la_Exceedances_ends {b : Nat} (h : isEx b) : b + 2 < 109 := by unfold isEx at h; omega
theorem ar_Exceedances_aboves {b : Nat} (h : isEx b) (w : WT) (L : Lng) (row : Nat → Int32) : cellX w L (b + 3) row = .inl (wI w, 100, .inl row) := by
  rcases h with rfl | rfl <;> rfl
theorem la_Exceedances_aboves {b : Nat} (h : isEx b) : b + 3 < 109 := by unfold isEx at h; omega
theorem ar_Exceedances_peaks {b : Nat} (h : isEx b) (w : WT) (L : Lng) (row : Nat → Int32) : cellX w L (b + 4) row = .inl (wI w, 100, .inl row) := by
  rcases h with rfl | rfl <;> rfl
theorem la_Exceedances_peaks {b : Nat} (h : isEx b) : b + 4 < 109 := by unfold isEx at h; omega
theorem ar_Exceedances_weights {b : Nat} (h : isEx b) (w : WT) (L : Lng) (row : Nat → Int32) : cellX w L (b + 5) row = .inl (wI w, 100, .inl row) := by
  rcases h with rfl | rfl <;> rfl
theorem la_Exceedances_weights {b : Nat} (h : isEx b) : b + 5 < 109 := by unfold isEx at h; omega
theorem ar_Exceedances_ownerOf {b : Nat} (h : isEx b) (w : WT) (L : Lng) (row : Nat → Int32) : cellX w L (b + 6) row = .inl (wI w, 200, .inl row) := by
  rcases h with rfl | rfl <;> rfl
theorem la_Exceedances_ownerOf {b : Nat} (h : isEx b) : b + 6 < 109 := by unfold isEx at h; omega
theorem ob_Matches {b : Nat} (h : isMt b) (w : WT) (L : Lng) (row : Nat → Int32) : cellX w L b row = .inr (3, fs_Matches w b row) := by
  rcases h with rfl | rfl <;> rfl
theorem lt_Matches {b : Nat} (h : isMt b) : b < 109 := by unfold isMt at h; omega
theorem ar_Matches_exceedanceOf {b : Nat} (h : isMt b) (w : WT) (L : Lng) (row : Nat → Int32) : cellX w L (b + 1) row = .inl (wI w, 20, .inl row) := by
  rcases h with rfl | rfl <;> rfl
theorem la_Matches_exceedanceOf {b : Nat} (h : isMt b) : b + 1 < 109 := by unfold isMt at h; omega
theorem ar_Matches_complaintOf {b : Nat} (h : isMt b) (w : WT) (L : Lng) (row : Nat → Int32) : cellX w L (b + 2) row = .inl (wI w, 100, .inl row) := by
  rcases h with rfl | rfl <;> rfl
theorem la_Matches_complaintOf {b : Nat} (h : isMt b) : b + 2 < 109 := by unfold isMt at h; omega
theorem ar_Matches_order {b : Nat} (h : isMt b) (w : WT) (L : Lng) (row : Nat → Int32) : cellX w L (b + 3) row = .inl (wI w, 20, .inl row) := by
  rcases h with rfl | rfl <;> rfl
theorem la_Matches_order {b : Nat} (h : isMt b) : b + 3 < 109 := by unfold isMt at h; omega
theorem ob_LevelCounts {b : Nat} (h : isLc b) (w : WT) (L : Lng) (row : Nat → Int32) : cellX w L b row = .inr (2, fs_LevelCounts w b row) := by
  rcases h with rfl <;> rfl
theorem lt_LevelCounts {b : Nat} (h : isLc b) : b < 109 := by unfold isLc at h; omega
theorem ar_LevelCounts_reached {b : Nat} (h : isLc b) (w : WT) (L : Lng) (row : Nat → Int32) : cellX w L (b + 1) row = .inl (wI w, 141, .inl row) := by
  rcases h with rfl <;> rfl
theorem la_LevelCounts_reached {b : Nat} (h : isLc b) : b + 1 < 109 := by unfold isLc at h; omega
theorem ob_Model {b : Nat} (h : isMo b) (w : WT) (L : Lng) (row : Nat → Int32) : cellX w L b row = .inr (9, fs_Model w L b row) := by
  rcases h with rfl <;> rfl
theorem lt_Model {b : Nat} (h : isMo b) : b < 109 := by unfold isMo at h; omega
theorem ar_Model_z {b : Nat} (h : isMo b) (w : WT) (L : Lng) (row : Nat → Int32) : cellX w L (b + 1) row = .inl (wI w, 432, .inl row) := by
  rcases h with rfl <;> rfl
theorem la_Model_z {b : Nat} (h : isMo b) : b + 1 < 109 := by unfold isMo at h; omega
theorem ar_Model_saved {b : Nat} (h : isMo b) (w : WT) (L : Lng) (row : Nat → Int32) : cellX w L (b + 2) row = .inl (wI w, 3456, .inl row) := by
  rcases h with rfl <;> rfl
theorem la_Model_saved {b : Nat} (h : isMo b) : b + 2 < 109 := by unfold isMo at h; omega
theorem ar_Model_text {b : Nat} (h : isMo b) (w : WT) (L : Lng) (row : Nat → Int32) : cellX w L (b + 3) row = .inl (wI w, 60, .inl row) := by
  rcases h with rfl <;> rfl
theorem la_Model_text {b : Nat} (h : isMo b) : b + 3 < 109 := by unfold isMo at h; omega
theorem ar_Model_level {b : Nat} (h : isMo b) (w : WT) (L : Lng) (row : Nat → Int32) : cellX w L (b + 4) row = .inl (wI w, 300, .inl row) := by
  rcases h with rfl <;> rfl
theorem la_Model_level {b : Nat} (h : isMo b) : b + 4 < 109 := by unfold isMo at h; omega
theorem ar_Model_wind {b : Nat} (h : isMo b) (w : WT) (L : Lng) (row : Nat → Int32) : cellX w L (b + 5) row = .inl (wI w, 300, .inl row) := by
  rcases h with rfl <;> rfl
theorem la_Model_wind {b : Nat} (h : isMo b) : b + 5 < 109 := by unfold isMo at h; omega
theorem ar_Model_fast {b : Nat} (h : isMo b) (w : WT) (L : Lng) (row : Nat → Int32) : cellX w L (b + 6) row = .inl (wI w, 300, .inl row) := by
  rcases h with rfl <;> rfl
theorem la_Model_fast {b : Nat} (h : isMo b) : b + 6 < 109 := by unfold isMo at h; omega
theorem ar_Model_slow {b : Nat} (h : isMo b) (w : WT) (L : Lng) (row : Nat → Int32) : cellX w L (b + 7) row = .inl (wI w, 300, .inl row) := by
  rcases h with rfl <;> rfl
theorem la_Model_slow {b : Nat} (h : isMo b) : b + 7 < 109 := by unfold isMo at h; omega
theorem ar_Model_why {b : Nat} (h : isMo b) (w : WT) (L : Lng) (row : Nat → Int32) : cellX w L (b + 8) row = .inl (wI w, 300, .inl row) := by
  rcases h with rfl <;> rfl
theorem la_Model_why {b : Nat} (h : isMo b) : b + 8 < 109 := by unfold isMo at h; omega
theorem ar_Model_partOf {b : Nat} (h : isMo b) (w : WT) (L : Lng) (row : Nat → Int32) : cellX w L (b + 9) row = .inl (wI w, 300, .inl row) := by
  rcases h with rfl <;> rfl
theorem la_Model_partOf {b : Nat} (h : isMo b) : b + 9 < 109 := by unfold isMo at h; omega
theorem ar_Model_first {b : Nat} (h : isMo b) (w : WT) (L : Lng) (row : Nat → Int32) : cellX w L (b + 10) row = .inl (wI w, 300, .inl row) := by
  rcases h with rfl <;> rfl
theorem la_Model_first {b : Nat} (h : isMo b) : b + 10 < 109 := by unfold isMo at h; omega
theorem ar_Model_last {b : Nat} (h : isMo b) (w : WT) (L : Lng) (row : Nat → Int32) : cellX w L (b + 11) row = .inl (wI w, 300, .inl row) := by
  rcases h with rfl <;> rfl
theorem la_Model_last {b : Nat} (h : isMo b) : b + 11 < 109 := by unfold isMo at h; omega
theorem ar_Model_above {b : Nat} (h : isMo b) (w : WT) (L : Lng) (row : Nat → Int32) : cellX w L (b + 12) row = .inl (wI w, 300, .inl row) := by
  rcases h with rfl <;> rfl
theorem la_Model_above {b : Nat} (h : isMo b) : b + 12 < 109 := by unfold isMo at h; omega
theorem ar_Model_peak {b : Nat} (h : isMo b) (w : WT) (L : Lng) (row : Nat → Int32) : cellX w L (b + 13) row = .inl (wI w, 300, .inl row) := by
  rcases h with rfl <;> rfl
theorem la_Model_peak {b : Nat} (h : isMo b) : b + 13 < 109 := by unfold isMo at h; omega
theorem ar_Model_weight {b : Nat} (h : isMo b) (w : WT) (L : Lng) (row : Nat → Int32) : cellX w L (b + 14) row = .inl (wI w, 300, .inl row) := by
  rcases h with rfl <;> rfl
theorem la_Model_weight {b : Nat} (h : isMo b) : b + 14 < 109 := by unfold isMo at h; omega
theorem ar_Model_matched {b : Nat} (h : isMo b) (w : WT) (L : Lng) (row : Nat → Int32) : cellX w L (b + 15) row = .inl (wI w, 20, .inl row) := by
  rcases h with rfl <;> rfl
theorem la_Model_matched {b : Nat} (h : isMo b) : b + 15 < 109 := by unfold isMo at h; omega
theorem ar_Model_complaintOf {b : Nat} (h : isMo b) (w : WT) (L : Lng) (row : Nat → Int32) : cellX w L (b + 16) row = .inl (wI w, 300, .inl row) := by
  rcases h with rfl <;> rfl
theorem la_Model_complaintOf {b : Nat} (h : isMo b) : b + 16 < 109 := by unfold isMo at h; omega
theorem ar_Model_read {b : Nat} (h : isMo b) (w : WT) (L : Lng) (row : Nat → Int32) : cellX w L (b + 17) row = .inl (wI w, 96, .inl row) := by
  rcases h with rfl <;> rfl
theorem la_Model_read {b : Nat} (h : isMo b) : b + 17 < 109 := by unfold isMo at h; omega
def isS (b : Nat) : Prop := b = 4 ∨ b = 55 ∨ b = 72
theorem ar_S {b : Nat} (h : isS b) (w : WT) (L : Lng) (row : Nat → Int32) : cellX w L b row = .inl (wI w, 10, .inl row) := by
  rcases h with rfl | rfl | rfl <;> rfl
theorem la_S {b : Nat} (h : isS b) : b < 109 := by unfold isS at h; omega
theorem s_View {b : Nat} (h : isVw b) : isS (b + 1) := by unfold isVw at h; unfold isS; omega
theorem s_St : isS 4 := by unfold isS; omega
theorem h0_NoisePost : isNp 0 := rfl
theorem h0_History : isHi 46 := rfl
theorem h0_Text : isTx 48 := rfl
theorem h0_LevelCounts : isLc 88 := rfl
theorem h0_Model : isMo 90 := rfl
/-! what the environment gives: the classes, the nest's words, the static rows -/
def SNm : Nat → String := fun k => ["SETTING_LEAST", "SETTING_MOST", "SETTING_AT_FIRST", "FIELD_LEAST", "FIELD_MOST"].getD k ""
def SLn : Nat → Nat := fun k => [10, 10, 10, 3, 3].getD k 0
def STb : Nat → Nat → Int32 := fun k j => ([[0, 0, 0, 0, 1, 0, 1, 0, 1, 1], [140, 140, 59, 60, 41, 20, 20, 60, 20, 50], [70, 60, 40, 20, 15, 2, 3, 10, 2, 8], [0, 0, 2], [140, 40, 60]].getD k []).getD j 0
def NWL : List Cond := [.methodLinkNest RX8 25 yX6_init RX8, .methodLinkNest RX8 32 yX7_init RX8, .methodLinkNest RX8 42 yX2_init RX8, .methodLinkNest RX8 9 yX5_init RX8, .methodLinkNest RX0 49 yX8_limitAt RX8, .methodLinkNest RX1 17 yX5_init RX8, .methodLinkNest RX4 36 yX8_moved RX8, .methodLinkNest RX4 47 yX8_limitAt RX8, .methodLinkNest RX4 64 yX8_isRest RX8, .methodLinkNest RX7 114 yX8_isRest RX8, .methodLinkNest RX7 124 yX8_moved RX8, .methodLinkNest RX7 131 yX8_limitAt RX8, .methodLinkNest RX7 25 yX4_init RX8, .methodLinkNest RX7 32 yX0_init RX8, .methodLinkNest RX7 39 yX3_init RX8, .fieldLinkNest RX5 18 RX8 "SETTING_AT_FIRST" "[I" RX8, .fieldLinkNest RX6 62 RX8 "FIELD_LEAST" "[I" RX8, .fieldLinkNest RX6 65 RX8 "FIELD_MOST" "[I" RX8, .fieldLinkNest RX7 9 RX8 "SETTING_AT_FIRST" "[I" RX8]
def stB (w : WT) (U : State) (H : Heap) : Prop := ∀ k, k < 5 → va_Z RX8 (SNm k) "[I" (.ref (wSt w k)) (wA w) U H ∧ va_T .int (wSt w k) (SLn k) (fun j => .int (STb k j)) (wA w) U H
def EF (w : WT) (U : State) : Prop := va_K (wD w) vwCl (wTy w) U ∧ wSz w ≤ U.heap.size ∧ (∀ x ∈ NWL, va_Nw x U) ∧ stB w U U.heap
theorem nw_warm {s U : State} (hW : s.WarmedH U.vm) (h : ∀ x ∈ NWL, va_Nw x s) : ∀ x ∈ NWL, va_Nw x U := by
  unfold NWL at h ⊢
  simp only [List.forall_mem_cons] at h ⊢
  obtain ⟨h1, h2, h3, h4, h5, h6, h7, h8, h9, h10, h11, h12, h13, h14, h15, h16, h17, h18, h19, -⟩ := h
  exact ⟨h1.warmM hW, h2.warmM hW, h3.warmM hW, h4.warmM hW, h5.warmM hW, h6.warmM hW, h7.warmM hW, h8.warmM hW, h9.warmM hW, h10.warmM hW, h11.warmM hW, h12.warmM hW, h13.warmM hW, h14.warmM hW, h15.warmM hW, h16.warmF hW, h17.warmF hW, h18.warmF hW, h19.warmF hW, fun _ h => nomatch h⟩
theorem nw_same {s U : State} (hv : s.vm = U.vm) (h : ∀ x ∈ NWL, va_Nw x s) : ∀ x ∈ NWL, va_Nw x U := by
  have ho : ∀ x ∈ NWL, x.onTables = true := List.all_eq_true.mp (by decide +kernel : NWL.all (fun x => x.onTables) = true)
  exact fun x hx => (h x hx).same (ho x hx) hv
theorem stB.kept {w : WT} {s U : State} {H H1 : Heap} (h : stB w s H) (hvm : s.vm.Alike U.vm) (hq : ∀ a : Nat, a < H.size → ¬ wA w a → H1[a]? = H[a]?) : stB w U H1 :=
  fun k hk => ⟨((h k hk).1.kept hq).moved hvm, ((h k hk).2.kept hq).moved hvm⟩
theorem EF.warm {w : WT} {s U : State} {locs : List Loc} (h : EF w s) (hW : s.WarmedH U.vm) (hS : va_S (wA w) s.heap U.heap locs) : EF w U :=
  ⟨va_K.moved hW.alike h.1, Nat.le_trans h.2.1 hS.1, nw_warm hW h.2.2.1, h.2.2.2.kept hW.alike hS.2.1⟩
theorem EF.same {w : WT} {s U : State} (h : EF w s) (hv : s.vm = U.vm) (hh : s.heap = U.heap) : EF w U := by
  have ha : s.vm.Alike U.vm := by rw [hv]; exact Vm.Alike.refl _
  refine ⟨va_K.moved ha h.1, by rw [← hh]; exact h.2.1, nw_same hv h.2.2.1, ?_⟩
  rw [← hh]
  exact h.2.2.2.kept ha (fun _ _ _ => rfl)
def PRE (w : WT) (av : List Value) (M : Mem) (L : Lng) : Array Value → State → Prop := va_Pc av (fun U => EF w U ∧ va_P (wD w) vwCl (pic w M L) U.heap)
theorem blindPRE (w : WT) (av : List Value) (M : Mem) (L : Lng) : FrameBlind (PRE w av M L) := by
  intro a U g mk h
  exact ⟨h.1, h.2.1.same rfl rfl, h.2.2⟩
def PW (w : WT) (u : Mem × Lng) (t : State) : Prop := va_P (wD w) vwCl (pic w u.1 u.2) t.heap
def QI (w : WT) (r : Int32) (M : Mem) (L : Lng) : Array Value → State → Outcome → State → Prop := va_Qi (fun (r' : Int32) (u : Mem × Lng) => r' = r ∧ u = (M, L)) (PW w) (wA w)
def QL (w : WT) (r : Int64) (M : Mem) (L : Lng) : Array Value → State → Outcome → State → Prop := va_Ql (fun (r' : Int64) (u : Mem × Lng) => r' = r ∧ u = (M, L)) (PW w) (wA w)
def QD (w : WT) (r : UInt64) (M : Mem) (L : Lng) : Array Value → State → Outcome → State → Prop := va_Qd (fun (r' : UInt64) (u : Mem × Lng) => r' = r ∧ u = (M, L)) (PW w) (wA w)
def QV (w : WT) (M : Mem) (L : Lng) : Array Value → State → Outcome → State → Prop := va_Qv (fun (u : Mem × Lng) => u = (M, L)) (PW w) (wA w)
/-! what a method does, as a function: none where the machine would throw -/
def rd (M : Mem) (c n : Nat) (i : Int32) : Option Int32 := if i < 0 ∨ n ≤ i.toNatClampNeg then none else some (M c i.toNatClampNeg)
def wr (M : Mem) (c n : Nat) (i v : Int32) : Option Mem := if i < 0 ∨ n ≤ i.toNatClampNeg then none else some (mset M c i.toNatClampNeg v)
def stf (M : Mem) (c k : Nat) (v : Int32) : Option Mem := some (mset M c k v)
def stz (M : Mem) (c k : Nat) (v : Int32) : Option Mem := if v = 0 ∨ v = 1 then some (mset M c k v) else none
def bz (v : Int32) : Option Int32 := if v = 0 ∨ v = 1 then some v else none
def dvI (a b : Int32) : Option Int32 := if b = 0 then none else some (a / b)
def rmI (a b : Int32) : Option Int32 := if b = 0 then none else some (a - a / b * b)
def rdS (k : Nat) (i : Int32) : Option Int32 := if i < 0 ∨ SLn k ≤ i.toNatClampNeg then none else some (STb k i.toNatClampNeg)
def cpy (M : Mem) (a na : Nat) (sp : Int32) (b nb : Nat) (dp n : Int32) : Option Mem := if sp < 0 ∨ dp < 0 ∨ n < 0 ∨ na < sp.toNatClampNeg + n.toNatClampNeg ∨ nb < dp.toNatClampNeg + n.toNatClampNeg then none else some (rset M b (va_cpy (M a) (M b) sp.toNatClampNeg dp.toNatClampNeg n.toNatClampNeg))
def ddv (a b : UInt64) : Option UInt64 := if FP.ddiv a b &&& 0x7fffffffffffffff ≤ 0x7ff0000000000000 then some (FP.ddiv a b) else none
def dml (a b : UInt64) : Option UInt64 := if FP.dmul a b &&& 0x7fffffffffffffff ≤ 0x7ff0000000000000 then some (FP.dmul a b) else none
def dsb (a b : UInt64) : Option UInt64 := if FP.dsub a b &&& 0x7fffffffffffffff ≤ 0x7ff0000000000000 then some (FP.dsub a b) else none
def mxI (x y : Int32) : Int32 := if x < y then y else x
def mnI (x y : Int32) : Int32 := if y < x then y else x
def rgI (i : Int32) : Option Nat := if i < 0 ∨ 8 ≤ i.toNatClampNeg then none else some i.toNatClampNeg
def stL (L : Lng) (v : Int64) : Option Lng := some (fun k => if k = 0 then v else L k)
theorem bz0 : bz 0 = some 0 := rfl
theorem bz1 : bz 1 = some 1 := rfl
theorem ne_ti {x k : Int32} {n : Int} (h : ¬ x = k) (hk : k.toInt = n) : x.toInt ≠ n := fun e => h (Int32.toInt_inj.mp (e.trans hk.symm))
theorem rg_lt {i : Int32} {k : Nat} (h : rgI i = some k) : k < 8 := by
  unfold rgI at h
  split at h
  · cases h
  · rename_i hn
    cases h
    omega
theorem rg_eq {i : Int32} {k : Nat} (h : rgI i = some k) : i = nI k := by
  unfold rgI at h
  split at h
  · cases h
  · rename_i hn
    cases h
    obtain ⟨j, hj, rfl⟩ := nI_of (x := i) (fun q => hn (Or.inl q))
    rw [nI_clamp hj]
theorem rg_st {i : Int32} {k : Nat} (h : rgI i = some k) : isSt (6 + 5 * k) := by
  have := rg_lt h
  unfold isSt
  omega
def loopN {σ ρ : Type} (body : σ → Option (σ ⊕ ρ)) : Nat → σ → Option ρ
  | 0, _ => none
  | n + 1, s => match body s with
    | none => none
    | some (.inl s') => loopN body n s'
    | some (.inr r) => some r
def FU : Nat := 20000
theorem ob {α β : Type} {x : Option α} {f : α → Option β} {b : β} (h : x.bind f = some b) : ∃ a, x = some a ∧ f a = some b := Option.bind_eq_some_iff.mp h
theorem loop_at {σ ρ : Type} {body : σ → Option (σ ⊕ ρ)} {A : σ → Prop} {E : ρ → Prop}
    (hs : ∀ s o, body s = some o → (∀ s', o = .inl s' → A s') → (∀ r, o = .inr r → E r) → A s) : ∀ (n : Nat) (s : σ) (r : ρ), loopN body n s = some r → E r → A s := by
  intro n
  induction n with
  | zero => intro s r h; cases h
  | succ n ih =>
    intro s r h hE
    unfold loopN at h
    cases hb : body s with
    | none => rw [hb] at h; cases h
    | some o =>
      rw [hb] at h
      cases o with
      | inl s' => exact hs s _ hb (fun s2 e => by cases e; exact ih s' r h hE) (fun r2 e => by cases e)
      | inr r' =>
        cases h
        exact hs s _ hb (fun s2 e => by cases e) (fun r2 e => by cases e; exact hE)
section RowsK
variable {w : WT} {p : Program} {l : Launch} {e : Env} {R : Room} {s : State} {m : MethodId} {args : Array Value} {below : List Frame} {meth : Method} {c : Code} {H : Heap} {locs : List Loc} {cells slots : Nat} {Q : State → Prop}
variable {cc : ByteArray} {nL pc : Nat} {own : String} {ret : Option FieldType} {ls : Array Slot} {rest : List Value} {M M' : Mem} {L L' : Lng}
/-- what a body stands on -/
def KC (w : WT) (p : Program) (s : State) (m : MethodId) (args : Array Value) (meth : Method) (c : Code) (cc : ByteArray) (nL : Nat) (own : String) (ret : Option FieldType) : Prop :=
  p.tables.exec = Jvm.exec ∧ c.code = cc ∧ c.maxLocals = nL ∧ s.vm.findClass own = some m.cls ∧ (∀ x ∈ BG, x.before args s = true) ∧ meth.sig.returnType = ret ∧ meth.locks = false ∧ EF w s ∧ WOK w
theorem kEnt {y : MethodName} {rm : Room} {av : List Value} {Qc : Array Value → State → Outcome → State → Prop} (hw : WOK w) (hy : plainName y.cls = true) (hc : y.cls = own) (hlen : (lg_sl av).length ≤ nL)
    (body : ∀ (p : Program) (e : Env) (s : State) (m : MethodId) (args : Array Value) (below : List Frame) (meth : Method) (c : Code), KC w p s m args meth c cc nL own ret → ∀ ls : Array Slot, lv_has ls nL (lv_args 0 av) → va_P (wD w) vwCl (pic w M L) s.heap →
      W p l e rm s m args below meth c s.heap [] 0 0 (MQ below Qc args s 0 0 (wA w)) (F0 m 0 ls [])) :
    Met l y (Cond.code y cc nL ret :: BG) rm (PRE w av M L) Qc 0 0 (wA w) := by
  refine Met.ofW (cc := cc) (maxL := nL) (ret := ret) hy rfl ?_
  intro p e s m args below meth c s₁ B hml hv
  obtain ⟨rfl, hE, hP⟩ := hv
  rw [lg_entry_eq]
  have hts := atoms_spec (ws := Cond.code y cc nL ret :: BG) B.pre
  subst hc
  exact body p e s m _ below meth c ⟨B.exec, B.bytes, hml, findClass_of_methodNamed B.named, fun x hx => hts x (List.mem_cons_of_mem _ hx), B.returns, B.notSynchronized, hE, hw⟩ _ (lv_entry av hlen) hP
theorem k_get (C : KC w p s m args meth c cc nL own ret) (hP : va_P (wD w) vwCl (pic w M L) H) {id ci : Nat} {Cn : String} {T : u_T} {N index : Nat} {fs : List Value} (hid : id < 109) (hob : cellX w L id (M id) = .inr (ci, fs)) (hc : vwCl[ci]? = some (Cn, T, N)) (hin : ∀ x ∈ u_ws Cn T N, x ∈ BG) (k : Nat) (hk : k < N)
    (hlink : Cond.fieldLink own index (T k).1 (T k).2.1 (T k).2.2.1 ∈ BG) {v : Value} (hv : fs[k]? = some v) (hdg : decode cc pc = .ok (.getfield index, 3))
    (kk : W p l e R s m args below meth c H locs cells slots Q (F0 m (pc + 3) ls (v :: rest))) : W p l e R s m args below meth c H locs cells slots Q (F0 m pc ls (.ref (wAd w id) :: rest)) :=
  va_get C.1 C.2.1 C.2.2.2.2.1 hin C.2.2.2.1 C.2.2.2.2.2.2.2.1.1 hP id (pic_at hid hob) hc k hk (C.2.2.2.2.1 _ hlink) (fun _ h => h) hv hdg kk
theorem k_put (C : KC w p s m args meth c cc nL own ret) (hP : va_P (wD w) vwCl (pic w M L) H) (hS : va_S (wA w) s.heap H locs) {id ci : Nat} {Cn : String} {T : u_T} {N index : Nat} {fs : List Value} {row : Nat → Int32} (hid : id < 109) (hob : cellX w L id (M id) = .inr (ci, fs)) (hc : vwCl[ci]? = some (Cn, T, N)) (hin : ∀ x ∈ u_ws Cn T N, x ∈ BG)
    (ty0 : Nat → FieldType) (hty : ∀ k, k < N → parseFieldDescriptor (T k).2.2.1 = some (ty0 k)) (hnm : ∀ a, a < N → ∀ b, b < N → a ≠ b → (T a).2.1 ≠ (T b).2.1) (k : Nat) (hk : k < N)
    (hlink : Cond.fieldLink own index (T k).1 (T k).2.1 (T k).2.2.1 ∈ BG) (hfin : (T k).2.2.2 = false) {v : Value} (hn : narrow (ty0 k) v = v) (hfit : fits (ty0 k) v = true) (hl : k < fs.length) (hob2 : cellX w L' id row = .inr (ci, fs.set k v)) (hL : ∀ c, c < 109 → c ≠ id → cellX w L' c (M c) = cellX w L c (M c))
    (hdg : decode cc pc = .ok (.putfield index, 3)) (kk : ∀ (H1 : Heap) (locs1 : List Loc), va_P (wD w) vwCl (pic w (rset M id row) L') H1 → va_S (wA w) s.heap H1 locs1 → W p l e R s m args below meth c H1 locs1 cells slots Q (F0 m (pc + 3) ls rest)) :
    W p l e R s m args below meth c H locs cells slots Q (F0 m pc ls (v :: .ref (wAd w id) :: rest)) := by
  refine va_put C.1 C.2.1 C.2.2.2.2.1 hin ty0 hty hnm C.2.2.2.1 C.2.2.2.2.2.2.2.1.1 hP (pic_D C.2.2.2.2.2.2.2.2 M L) hS id (pic_at hid hob) hc k hk (C.2.2.2.2.1 _ hlink) (fun _ h => h) hfin (hty k hk) hn hfit hl hdg (fun H1 locs1 h1 _ h2 => kk H1 locs1 ?_ h2)
  have e1 : (pic w M L).set id (wAd w id, .inr (ci, fs.set k v)) = pic w (rset M id row) L' := by
    rw [← hob2]
    apply List.ext_getElem?
    intro i
    by_cases hi : i < 109
    · by_cases hc : id = i
      · subst hc
        rw [List.getElem?_set_self (by simpa [pic] using hi)]
        simp [pic, hi, rset]
      · rw [List.getElem?_set_ne hc]
        simp [pic, hi, rset, Ne.symm hc, hL i hi (Ne.symm hc)]
    · rw [List.getElem?_eq_none (by simp [pic]; omega), List.getElem?_eq_none (by simp [pic]; omega)]
  rw [← e1]
  exact h1
theorem k_puti (C : KC w p s m args meth c cc nL own ret) (hP : va_P (wD w) vwCl (pic w M L) H) (hS : va_S (wA w) s.heap H locs) {id ci : Nat} {Cn : String} {T : u_T} {N index : Nat} {fs : (Nat → Int32) → List Value} (hid : id < 109) (hob : ∀ row, cellX w L id row = .inr (ci, fs row)) (hc : vwCl[ci]? = some (Cn, T, N)) (hin : ∀ x ∈ u_ws Cn T N, x ∈ BG)
    (ty0 : Nat → FieldType) (hty : ∀ k, k < N → parseFieldDescriptor (T k).2.2.1 = some (ty0 k)) (hnm : ∀ a, a < N → ∀ b, b < N → a ≠ b → (T a).2.1 ≠ (T b).2.1) (k : Nat) (hk : k < N)
    (hlink : Cond.fieldLink own index (T k).1 (T k).2.1 (T k).2.2.1 ∈ BG) (hfin : (T k).2.2.2 = false) {v : Int32} (hty1 : ty0 k = .int) (hl : k < (fs (M id)).length) (hset : fs (upd (M id) k v) = (fs (M id)).set k (.int v))
    (hf : stf M id k v = some M') (hdg : decode cc pc = .ok (.putfield index, 3)) (kk : ∀ (H1 : Heap) (locs1 : List Loc), va_P (wD w) vwCl (pic w M' L) H1 → va_S (wA w) s.heap H1 locs1 → W p l e R s m args below meth c H1 locs1 cells slots Q (F0 m (pc + 3) ls rest)) :
    W p l e R s m args below meth c H locs cells slots Q (F0 m pc ls (.int v :: .ref (wAd w id) :: rest)) := by
  cases hf
  exact k_put (L' := L) (row := upd (M id) k v) C hP hS hid (hob _) hc hin ty0 hty hnm k hk hlink hfin (by rw [hty1]; rfl) (by rw [hty1]; rfl) hl (by rw [hob, hset]) (fun _ _ _ => rfl) hdg kk
theorem k_putz (C : KC w p s m args meth c cc nL own ret) (hP : va_P (wD w) vwCl (pic w M L) H) (hS : va_S (wA w) s.heap H locs) {id ci : Nat} {Cn : String} {T : u_T} {N index : Nat} {fs : (Nat → Int32) → List Value} (hid : id < 109) (hob : ∀ row, cellX w L id row = .inr (ci, fs row)) (hc : vwCl[ci]? = some (Cn, T, N)) (hin : ∀ x ∈ u_ws Cn T N, x ∈ BG)
    (ty0 : Nat → FieldType) (hty : ∀ k, k < N → parseFieldDescriptor (T k).2.2.1 = some (ty0 k)) (hnm : ∀ a, a < N → ∀ b, b < N → a ≠ b → (T a).2.1 ≠ (T b).2.1) (k : Nat) (hk : k < N)
    (hlink : Cond.fieldLink own index (T k).1 (T k).2.1 (T k).2.2.1 ∈ BG) (hfin : (T k).2.2.2 = false) {v : Int32} (hty1 : ty0 k = .boolean) (hl : k < (fs (M id)).length) (hset : fs (upd (M id) k v) = (fs (M id)).set k (.int v))
    (hf : stz M id k v = some M') (hdg : decode cc pc = .ok (.putfield index, 3)) (kk : ∀ (H1 : Heap) (locs1 : List Loc), va_P (wD w) vwCl (pic w M' L) H1 → va_S (wA w) s.heap H1 locs1 → W p l e R s m args below meth c H1 locs1 cells slots Q (F0 m (pc + 3) ls rest)) :
    W p l e R s m args below meth c H locs cells slots Q (F0 m pc ls (.int v :: .ref (wAd w id) :: rest)) := by
  unfold stz at hf
  split at hf
  · rename_i h01
    cases hf
    refine k_put (L' := L) (row := upd (M id) k v) C hP hS hid (hob _) hc hin ty0 hty hnm k hk hlink hfin ?_ ?_ hl (by rw [hob, hset]) (fun _ _ _ => rfl) hdg kk
    · rw [hty1]; rcases h01 with rfl | rfl <;> rfl
    · rw [hty1]; rcases h01 with rfl | rfl <;> rfl
  · cases hf
theorem k_iald (C : KC w p s m args meth c cc nL own ret) (hP : va_P (wD w) vwCl (pic w M L) H) {id n : Nat} (hid : id < 109) (hob : cellX w L id (M id) = .inl (wI w, n, .inl (M id))) {i x : Int32} (hf : rd M id n i = some x) (hdg : decode cc pc = .ok (.iaload, 1))
    (kk : W p l e R s m args below meth c H locs cells slots Q (F0 m (pc + 1) ls (.int x :: rest))) : W p l e R s m args below meth c H locs cells slots Q (F0 m pc ls (.int i :: .ref (wAd w id) :: rest)) := by
  unfold rd at hf
  split at hf
  · cases hf
  · rename_i hin
    cases hf
    exact va_iald C.1 C.2.1 C.2.2.2.2.2.2.2.1.1 hP id 0 (pic_at hid hob) rfl hin hdg kk
theorem k_iast (C : KC w p s m args meth c cc nL own ret) (hP : va_P (wD w) vwCl (pic w M L) H) (hS : va_S (wA w) s.heap H locs) {id n : Nat} (hid : id < 109) (hob : ∀ row, cellX w L id row = .inl (wI w, n, .inl row)) {i x : Int32} (hf : wr M id n i x = some M') (hdg : decode cc pc = .ok (.iastore, 1))
    (kk : ∀ (H1 : Heap) (locs1 : List Loc), va_P (wD w) vwCl (pic w M' L) H1 → va_S (wA w) s.heap H1 locs1 → W p l e R s m args below meth c H1 locs1 cells slots Q (F0 m (pc + 1) ls rest)) :
    W p l e R s m args below meth c H locs cells slots Q (F0 m pc ls (.int x :: .int i :: .ref (wAd w id) :: rest)) := by
  unfold wr at hf
  split at hf
  · cases hf
  · rename_i hin
    cases hf
    refine va_iast C.1 C.2.1 C.2.2.2.2.2.2.2.1.1 hP (pic_D C.2.2.2.2.2.2.2.2 M L) hS id 0 (pic_at hid (hob _)) rfl hin hdg (fun H1 locs1 h1 _ h2 => kk H1 locs1 ?_ h2)
    rw [pic_set (upd (M id) i.toNatClampNeg x) hid (hob _)] at h1
    exact h1
theorem k_gets (C : KC w p s m args meth c cc nL own ret) (hS : va_S (wA w) s.heap H locs) {k index : Nat} (hk : k < 5) (hlink : Cond.fieldLink own index RX8 (SNm k) "[I" ∈ BG) (hdg : decode cc pc = .ok (.getstatic index, 3))
    (kk : W p l e R s m args below meth c H locs cells slots Q (F0 m (pc + 3) ls (.ref (wSt w k) :: rest))) : W p l e R s m args below meth c H locs cells slots Q (F0 m pc ls rest) :=
  va_gets C.1 C.2.1 (C.2.2.2.2.2.2.2.1.2.2.2 k hk).1 hS C.2.2.2.1 (C.2.2.2.2.1 _ hlink) (fun _ h => h) hdg kk
theorem k_getsN (C : KC w p s m args meth c cc nL own ret) (hS : va_S (wA w) s.heap H locs) {k index : Nat} (hk : k < 5) (hlink : Cond.fieldLinkNest own index RX8 (SNm k) "[I" RX8 ∈ NWL) (hdg : decode cc pc = .ok (.getstatic index, 3))
    (kk : W p l e R s m args below meth c H locs cells slots Q (F0 m (pc + 3) ls (.ref (wSt w k) :: rest))) : W p l e R s m args below meth c H locs cells slots Q (F0 m pc ls rest) :=
  va_getsN C.1 C.2.1 (C.2.2.2.2.2.2.2.1.2.2.2 k hk).1 hS C.2.2.2.1 ((C.2.2.2.2.2.2.2.1.2.2.1 _ hlink).use rfl) (fun _ h => h) hdg kk
theorem k_ti (C : KC w p s m args meth c cc nL own ret) (hS : va_S (wA w) s.heap H locs) {k : Nat} (hk : k < 5) {i x : Int32} (hf : rdS k i = some x) (hdg : decode cc pc = .ok (.iaload, 1))
    (kk : W p l e R s m args below meth c H locs cells slots Q (F0 m (pc + 1) ls (.int x :: rest))) : W p l e R s m args below meth c H locs cells slots Q (F0 m pc ls (.int i :: .ref (wSt w k) :: rest)) := by
  unfold rdS at hf
  split at hf
  · cases hf
  · rename_i hin
    cases hf
    exact va_ti C.1 C.2.1 (C.2.2.2.2.2.2.2.1.2.2.2 k hk).2 hS hin rfl hdg kk
theorem k_aldq (C : KC w p s m args meth c cc nL own ret) (hP : va_P (wD w) vwCl (pic w M L) H) (k : Nat) (hk : k < 8) {i : Int32} (hi : i = nI k) (hdg : decode cc pc = .ok (.aaload, 1))
    (kk : W p l e R s m args below meth c H locs cells slots Q (F0 m (pc + 1) ls (.ref (wAd w (6 + 5 * k)) :: rest))) : W p l e R s m args below meth c H locs cells slots Q (F0 m pc ls (.int i :: .ref (wAd w 47) :: rest)) := by
  subst hi
  refine va_aldq C.1 C.2.1 C.2.2.2.2.2.2.2.1.1 hP 47 1 (pic_at (by decide) (show cellX w L 47 (M 47) = .inl (wS w, 8, .inr (.inr (.inr (.inr (ringX w))))) from rfl)) rfl (vp_in_nI hk (by decide)) hdg ?_
  rw [nI_clamp (by omega)]
  unfold ringX
  rw [if_pos hk]
  exact kk
theorem k_idiv (C : KC w p s m args meth c cc nL own ret) {x y r : Int32} (hf : dvI x y = some r) (hdg : decode cc pc = .ok (.idiv, 1)) (kk : W p l e R s m args below meth c H locs cells slots Q (F0 m (pc + 1) ls (.int r :: rest))) : W p l e R s m args below meth c H locs cells slots Q (F0 m pc ls (.int y :: .int x :: rest)) := by
  unfold dvI at hf
  split at hf
  · cases hf
  · rename_i h
    cases hf
    exact lv_idiv C.1 C.2.1 hdg h kk
theorem k_irem (C : KC w p s m args meth c cc nL own ret) {x y r : Int32} (hf : rmI x y = some r) (hdg : decode cc pc = .ok (.irem, 1)) (kk : W p l e R s m args below meth c H locs cells slots Q (F0 m (pc + 1) ls (.int r :: rest))) : W p l e R s m args below meth c H locs cells slots Q (F0 m pc ls (.int y :: .int x :: rest)) := by
  unfold rmI at hf
  split at hf
  · cases hf
  · rename_i h
    cases hf
    exact lv_irem C.1 C.2.1 hdg h kk
theorem k_cpy (C : KC w p s m args meth c cc nL own ret) (hl : ls.size = nL) (hP : va_P (wD w) vwCl (pic w M L) H) (hS : va_S (wA w) s.heap H locs) {ia na ib nb index : Nat} (hia : ia < 109) (hoa : cellX w L ia (M ia) = .inl (wI w, na, .inl (M ia))) (hib : ib < 109) (hob : ∀ row, cellX w L ib row = .inl (wI w, nb, .inl row))
    (h1 : Cond.methodLink own index arraycopyName ∈ BG) (h2 : Cond.native arraycopyName ∈ BG) (h3 : Cond.static arraycopyName ∈ BG) (h4 : Cond.initialized "java/lang/System" ∈ BG) {sp dp n : Int32} (hf : cpy M ia na sp ib nb dp n = some M')
    (hframes : 1 ≤ R.frames) (hlocals : (rest.map fun v => v.category).sum + (nativeFrameWords "java/lang/System" "arraycopy" 5 + 11) ≤ R.locals) (hdg : decode cc pc = .ok (.invokestatic index, 3))
    (kk : ∀ (H1 : Heap) (locs1 : List Loc), va_P (wD w) vwCl (pic w M' L) H1 → va_S (wA w) s.heap H1 locs1 → W p l e R s m args below meth c H1 locs1 cells slots Q (F0 m (pc + 3) ls rest)) :
    W p l e R s m args below meth c H locs cells slots Q (F0 m pc ls (.int n :: .int dp :: .ref (wAd w ib) :: .int sp :: .ref (wAd w ia) :: rest)) := by
  unfold cpy at hf
  split at hf
  · cases hf
  · rename_i h
    cases hf
    simp only [not_or, Nat.not_lt] at h
    obtain ⟨g1, g2, g3, g4, g5⟩ := h
    refine va_copyi C.1 C.2.1 (C.2.2.1.trans hl.symm) C.2.2.2.1 (C.2.2.2.2.1 _ h1) (C.2.2.2.2.1 _ h2) (C.2.2.2.2.1 _ h3) (C.2.2.2.2.1 _ h4) C.2.2.2.2.2.2.2.1.1 hP (pic_D C.2.2.2.2.2.2.2.2 M L) hS ia ib 0 0 (pic_at hia hoa) (pic_at hib (hob _)) rfl rfl rfl g1 g2 g3 g4 g5 (fun _ _ => rfl) hframes hlocals hdg (fun H1 locs1 h1 _ h2 => kk H1 locs1 ?_ h2)
    rw [pic_set _ hib (hob _)] at h1
    exact h1
theorem k_max (C : KC w p s m args meth c cc nL own ret) (hl : ls.size = nL) {index : Nat} (h1 : Cond.methodLink own index Lib.Math.max.name ∈ BG) (h2 : Cond.static Lib.Math.max.name ∈ BG) (h3 : Cond.initialized "java/lang/Math" ∈ BG) (h4 : Cond.code Lib.Math.max.name Lib.Math.max.code 2 (some .int) ∈ BG)
    (hframes : 1 ≤ R.frames) (hlocals : (rest.map fun v => v.category).sum + 13 ≤ R.locals) (hc : cells ≤ R.cells) (hs : slots ≤ R.slots) {x y : Int32} (hdg : decode cc pc = .ok (.invokestatic index, 3))
    (kk : W p l e R s m args below meth c H locs cells slots Q (F0 m (pc + 3) ls (.int (mxI x y) :: rest))) : W p l e R s m args below meth c H locs cells slots Q (F0 m pc ls (.int y :: .int x :: rest)) :=
  va_mmax C.1 C.2.1 (C.2.2.1.trans hl.symm) C.2.2.2.1 (C.2.2.2.2.1 _ h1) (C.2.2.2.2.1 _ h2) (C.2.2.2.2.1 _ h3) (C.2.2.2.2.1 _ h4) hframes hlocals hc hs hdg kk
theorem k_min (C : KC w p s m args meth c cc nL own ret) (hl : ls.size = nL) {index : Nat} (h1 : Cond.methodLink own index Lib.Math.min.name ∈ BG) (h2 : Cond.static Lib.Math.min.name ∈ BG) (h3 : Cond.initialized "java/lang/Math" ∈ BG) (h4 : Cond.code Lib.Math.min.name Lib.Math.min.code 2 (some .int) ∈ BG)
    (hframes : 1 ≤ R.frames) (hlocals : (rest.map fun v => v.category).sum + 13 ≤ R.locals) (hc : cells ≤ R.cells) (hs : slots ≤ R.slots) {x y : Int32} (hdg : decode cc pc = .ok (.invokestatic index, 3))
    (kk : W p l e R s m args below meth c H locs cells slots Q (F0 m (pc + 3) ls (.int (mnI x y) :: rest))) : W p l e R s m args below meth c H locs cells slots Q (F0 m pc ls (.int y :: .int x :: rest)) :=
  va_mmin C.1 C.2.1 (C.2.2.1.trans hl.symm) C.2.2.2.1 (C.2.2.2.2.1 _ h1) (C.2.2.2.2.1 _ h2) (C.2.2.2.2.1 _ h3) (C.2.2.2.2.1 _ h4) hframes hlocals hc hs hdg kk
variable {y : MethodName} {bytes : ByteArray} {maxL n index : Nat} {rt : Option FieldType} {rm : Room} {Qc : Array Value → State → Outcome → State → Prop} {As st0 : List Value}
theorem kV (C : KC w p s m args meth c cc nL own ret) (hl : ls.size = nL) (hP : va_P (wD w) vwCl (pic w M L) H) (hS : va_S (wA w) s.heap H locs) {id ci : Nat} {q : vw_C} {fs : List Value} (hM : Met l y (Cond.code y bytes maxL rt :: BG) rm (PRE w (.ref (wAd w id) :: As) M L) Qc 0 0 (wA w))
    (hG : GoodIn BG (wsV own index q.1 y (Cond.code y bytes maxL rt :: BG))) (hd : y.cls = q.1 ∧ y.cls ≠ "java/lang/invoke/MethodHandle" ∧ y.cls ≠ "java/lang/invoke/VarHandle" ∧ (parseMethodDescriptor y.desc).map (fun d => d.parameters.length) = some n)
    (hid : id < 109) (hob : cellX w L id (M id) = .inr (ci, fs)) (hci : vwCl[ci]? = some q) (hrm : rm.cells = 0 ∧ rm.slots = 0) (hR : rm.frames + 1 ≤ R.frames ∧ 8 + (maxL + 11) + rm.locals ≤ R.locals)
    (hn : As.length = n) (hst : st0 = As.reverse ++ .ref (wAd w id) :: rest) (hr : (rest.map fun v => v.category).sum ≤ 8) (hdg : decode cc pc = .ok (.invokevirtual index, 3)) (hf : cells ≤ R.cells ∧ slots ≤ R.slots) :
    va_Run p l e R s m args below meth c H locs cells slots 0 0 (F0 m pc ls st0) rest (Qc (Value.ref (wAd w id) :: As).toArray) (wA w) :=
  va_runV ⟨C.1, C.2.1, C.2.2.1, C.2.2.2.1, C.2.2.2.2.1⟩ hM (cwV n C.2.2.2.2.1 hG rfl hrm.1 hrm.2 hd hR) ⟨blindPRE w _ M L, va_recv C.2.2.2.2.2.2.2.1.1 hP hci (pic_at hid hob), fun U hU hW => ⟨rfl, C.2.2.2.2.2.2.2.1.warm hW (by rw [hU]; exact hS), by rw [hU]; exact hP⟩⟩ rfl hn hl hst (lv_room hr) hdg hf
theorem kS (C : KC w p s m args meth c cc nL own ret) (hl : ls.size = nL) (hP : va_P (wD w) vwCl (pic w M L) H) (hS : va_S (wA w) s.heap H locs) (hM : Met l y (Cond.code y bytes maxL rt :: BG) rm (PRE w As M L) Qc 0 0 (wA w))
    (hG : GoodIn BG (va_wsS own index y (Cond.code y bytes maxL rt :: BG))) (hd : y.cls ≠ "java/lang/invoke/MethodHandle" ∧ y.cls ≠ "java/lang/invoke/VarHandle" ∧ (parseMethodDescriptor y.desc).map (fun d => d.parameters.length) = some n)
    (hrm : rm.cells = 0 ∧ rm.slots = 0) (hR : rm.frames + 1 ≤ R.frames ∧ 8 + (maxL + 11) + rm.locals ≤ R.locals)
    (hn : As.length = n) (hst : st0 = As.reverse ++ rest) (hr : (rest.map fun v => v.category).sum ≤ 8) (hdg : decode cc pc = .ok (.invokestatic index, 3)) (hf : cells ≤ R.cells ∧ slots ≤ R.slots) :
    va_Run p l e R s m args below meth c H locs cells slots 0 0 (F0 m pc ls st0) rest (Qc As.toArray) (wA w) :=
  va_runS ⟨C.1, C.2.1, C.2.2.1, C.2.2.2.1, C.2.2.2.2.1⟩ hM (va_cwS n C.2.2.2.2.1 hG rfl hrm.1 hrm.2 hd hR) ⟨blindPRE w _ M L, fun U hU hW => ⟨rfl, C.2.2.2.2.2.2.2.1.warm hW (by rw [hU]; exact hS), by rw [hU]; exact hP⟩⟩ rfl hn hl hst (lv_room hr) hdg hf
theorem kSN (C : KC w p s m args meth c cc nL own ret) (hl : ls.size = nL) (hP : va_P (wD w) vwCl (pic w M L) H) (hS : va_S (wA w) s.heap H locs) (hM : Met l y (Cond.code y bytes maxL rt :: BG) rm (PRE w As M L) Qc 0 0 (wA w))
    (hcd : Cond.code y bytes maxL rt ∈ BG) (hnl : Cond.methodLinkNest own index y RX8 ∈ NWL) (hini : Cond.initialized y.cls ∈ BG) (hstt : Cond.static y ∈ BG) (hd : y.cls ≠ "java/lang/invoke/MethodHandle" ∧ y.cls ≠ "java/lang/invoke/VarHandle" ∧ (parseMethodDescriptor y.desc).map (fun d => d.parameters.length) = some n)
    (hrm : rm.cells = 0 ∧ rm.slots = 0) (hR : rm.frames + 1 ≤ R.frames ∧ 8 + (maxL + 11) + rm.locals ≤ R.locals)
    (hn : As.length = n) (hst : st0 = As.reverse ++ rest) (hr : (rest.map fun v => v.category).sum ≤ 8) (hdg : decode cc pc = .ok (.invokestatic index, 3)) (hf : cells ≤ R.cells ∧ slots ≤ R.slots) :
    va_Run p l e R s m args below meth c H locs cells slots 0 0 (F0 m pc ls st0) rest (Qc As.toArray) (wA w) :=
  va_runSN ⟨C.1, C.2.1, C.2.2.1, C.2.2.2.1, C.2.2.2.2.1⟩ hM ⟨va_cnB n C.2.2.2.2.1 (gB hcd) rfl hrm.1 hrm.2 (C.2.2.2.2.2.2.2.1.2.2.1 _ hnl) (C.2.2.2.2.1 _ hini) hd hR, C.2.2.2.2.1 _ hstt, trivial⟩ ⟨blindPRE w _ M L, fun U hU hW => ⟨rfl, C.2.2.2.2.2.2.2.1.warm hW (by rw [hU]; exact hS), by rw [hU]; exact hP⟩⟩ rfl hn hl hst (lv_room hr) hdg hf
variable {a : Array Value}
theorem kci {r : Int32} (hr : va_Run p l e R s m args below meth c H locs cells slots 0 0 (F0 m pc ls st0) rest (QI w r M' L' a) (wA w)) (hS : va_S (wA w) s.heap H locs)
    (kk : ∀ (H1 : Heap) (locs1 : List Loc), va_P (wD w) vwCl (pic w M' L') H1 → va_S (wA w) s.heap H1 locs1 → W p l e R s m args below meth c H1 locs1 cells slots Q (F0 m (pc + 3) ls (.int r :: rest))) : W p l e R s m args below meth c H locs cells slots Q (F0 m pc ls st0) := by
  refine va_calli hr hS (fun _ _ h => h) (fun _ h => h) (fun r1 u t H1 locs1 ht _ hp hB _ _ hS1 => ?_)
  obtain ⟨rfl, rfl⟩ := hp
  unfold PW at hB
  rw [ht] at hB
  exact kk H1 locs1 hB hS1
theorem kcl {r : Int64} (hr : va_Run p l e R s m args below meth c H locs cells slots 0 0 (F0 m pc ls st0) rest (QL w r M' L' a) (wA w)) (hS : va_S (wA w) s.heap H locs)
    (kk : ∀ (H1 : Heap) (locs1 : List Loc), va_P (wD w) vwCl (pic w M' L') H1 → va_S (wA w) s.heap H1 locs1 → W p l e R s m args below meth c H1 locs1 cells slots Q (F0 m (pc + 3) ls (.long r :: rest))) : W p l e R s m args below meth c H locs cells slots Q (F0 m pc ls st0) := by
  refine va_calll hr hS (fun _ _ h => h) (fun _ h => h) (fun r1 u t H1 locs1 ht _ hp hB _ _ hS1 => ?_)
  obtain ⟨rfl, rfl⟩ := hp
  unfold PW at hB
  rw [ht] at hB
  exact kk H1 locs1 hB hS1
theorem kcd {r : UInt64} (hr : va_Run p l e R s m args below meth c H locs cells slots 0 0 (F0 m pc ls st0) rest (QD w r M' L' a) (wA w)) (hS : va_S (wA w) s.heap H locs)
    (kk : ∀ (H1 : Heap) (locs1 : List Loc), va_P (wD w) vwCl (pic w M' L') H1 → va_S (wA w) s.heap H1 locs1 → W p l e R s m args below meth c H1 locs1 cells slots Q (F0 m (pc + 3) ls (.double r :: rest))) : W p l e R s m args below meth c H locs cells slots Q (F0 m pc ls st0) := by
  refine va_calld hr hS (fun _ _ h => h) (fun _ h => h) (fun r1 u t H1 locs1 ht _ hp hB _ _ hS1 => ?_)
  obtain ⟨rfl, rfl⟩ := hp
  unfold PW at hB
  rw [ht] at hB
  exact kk H1 locs1 hB hS1
theorem kcv (hr : va_Run p l e R s m args below meth c H locs cells slots 0 0 (F0 m pc ls st0) rest (QV w M' L' a) (wA w)) (hS : va_S (wA w) s.heap H locs)
    (kk : ∀ (H1 : Heap) (locs1 : List Loc), va_P (wD w) vwCl (pic w M' L') H1 → va_S (wA w) s.heap H1 locs1 → W p l e R s m args below meth c H1 locs1 cells slots Q (F0 m (pc + 3) ls rest)) : W p l e R s m args below meth c H locs cells slots Q (F0 m pc ls st0) := by
  refine va_callv hr hS (fun _ _ h => h) (fun _ h => h) (fun u t H1 locs1 ht _ hp hB _ _ hS1 => ?_)
  cases hp
  unfold PW at hB
  rw [ht] at hB
  exact kk H1 locs1 hB hS1
theorem kri {r : Int32} (C : KC w p s m args meth c cc nL own (some .int)) (hP : va_P (wD w) vwCl (pic w M L) H) (hS : va_S (wA w) s.heap H locs) (hdg : decode cc pc = .ok (.ireturn, 1)) :
    W p l e R s m args below meth c H locs cells slots (MQ below (QI w r M L) args s cells slots (wA w)) (F0 m pc ls [.int r]) :=
  W.iret C.1 C.2.1 C.2.2.2.2.2.1 (fun t ht _ => ⟨⟨r, (M, L), rfl, ⟨rfl, rfl⟩, by unfold PW; rw [ht]; exact hP⟩, hS.F ht⟩) hS.2.2 hdg C.2.2.2.2.2.2.1
theorem krz {r x : Int32} (C : KC w p s m args meth c cc nL own (some .boolean)) (hP : va_P (wD w) vwCl (pic w M L) H) (hS : va_S (wA w) s.heap H locs) (hf : bz x = some r) (hdg : decode cc pc = .ok (.ireturn, 1)) :
    W p l e R s m args below meth c H locs cells slots (MQ below (QI w r M L) args s cells slots (wA w)) (F0 m pc ls [.int x]) := by
  unfold bz at hf
  split at hf
  · rename_i h
    cases hf
    exact W.zret C.1 C.2.1 C.2.2.2.2.2.1 (by rcases h with rfl | rfl <;> rfl) (fun t ht _ => ⟨⟨_, (M, L), rfl, ⟨rfl, rfl⟩, by unfold PW; rw [ht]; exact hP⟩, hS.F ht⟩) hS.2.2 hdg C.2.2.2.2.2.2.1
  · cases hf
theorem krl {r : Int64} (C : KC w p s m args meth c cc nL own (some .long)) (hP : va_P (wD w) vwCl (pic w M L) H) (hS : va_S (wA w) s.heap H locs) (hdg : decode cc pc = .ok (.lreturn, 1)) :
    W p l e R s m args below meth c H locs cells slots (MQ below (QL w r M L) args s cells slots (wA w)) (F0 m pc ls [.long r]) :=
  W.lret C.1 C.2.1 C.2.2.2.2.2.1 (fun t ht _ => ⟨⟨r, (M, L), rfl, ⟨rfl, rfl⟩, by unfold PW; rw [ht]; exact hP⟩, hS.F ht⟩) hS.2.2 hdg C.2.2.2.2.2.2.1
theorem krd {r : UInt64} (C : KC w p s m args meth c cc nL own (some .double)) (hP : va_P (wD w) vwCl (pic w M L) H) (hS : va_S (wA w) s.heap H locs) (hdg : decode cc pc = .ok (.dreturn, 1)) :
    W p l e R s m args below meth c H locs cells slots (MQ below (QD w r M L) args s cells slots (wA w)) (F0 m pc ls [.double r]) :=
  W.dret C.1 C.2.1 C.2.2.2.2.2.1 (fun t ht _ => ⟨⟨r, (M, L), rfl, ⟨rfl, rfl⟩, by unfold PW; rw [ht]; exact hP⟩, hS.F ht⟩) hS.2.2 hdg C.2.2.2.2.2.2.1
theorem krv (C : KC w p s m args meth c cc nL own none) (hP : va_P (wD w) vwCl (pic w M L) H) (hS : va_S (wA w) s.heap H locs) (hdg : decode cc pc = .ok (.return_, 1)) :
    W p l e R s m args below meth c H locs cells slots (MQ below (QV w M L) args s cells slots (wA w)) (F0 m pc ls []) :=
  W.vret C.1 C.2.1 C.2.2.2.2.2.1 (fun t ht _ => ⟨⟨(M, L), rfl, rfl, by unfold PW; rw [ht]; exact hP⟩, hS.F ht⟩) hS.2.2 hdg C.2.2.2.2.2.2.1
theorem k_ddiv (C : KC w p s m args meth c cc nL own ret) {x y r : UInt64} (hf : ddv x y = some r) (hdg : decode cc pc = .ok (.ddiv, 1)) (kk : W p l e R s m args below meth c H locs cells slots Q (F0 m (pc + 1) ls (.double r :: rest))) : W p l e R s m args below meth c H locs cells slots Q (F0 m pc ls (.double y :: .double x :: rest)) := by
  unfold ddv at hf
  split at hf
  · rename_i h
    cases hf
    exact lv_ddiv C.1 C.2.1 hdg h kk
  · cases hf
theorem k_dmul (C : KC w p s m args meth c cc nL own ret) {x y r : UInt64} (hf : dml x y = some r) (hdg : decode cc pc = .ok (.dmul, 1)) (kk : W p l e R s m args below meth c H locs cells slots Q (F0 m (pc + 1) ls (.double r :: rest))) : W p l e R s m args below meth c H locs cells slots Q (F0 m pc ls (.double y :: .double x :: rest)) := by
  unfold dml at hf
  split at hf
  · rename_i h
    cases hf
    exact lv_dmul C.1 C.2.1 hdg h kk
  · cases hf
theorem k_dsub (C : KC w p s m args meth c cc nL own ret) {x y r : UInt64} (hf : dsb x y = some r) (hdg : decode cc pc = .ok (.dsub, 1)) (kk : W p l e R s m args below meth c H locs cells slots Q (F0 m (pc + 1) ls (.double r :: rest))) : W p l e R s m args below meth c H locs cells slots Q (F0 m pc ls (.double y :: .double x :: rest)) := by
  unfold dsb at hf
  split at hf
  · rename_i h
    cases hf
    exact lv_dsub C.1 C.2.1 hdg h kk
  · cases hf
/-- a block: from every heap and locals that hold what is said, the walk goes on -/
def AtL (w : WT) (p : Program) (l : Launch) (e : Env) (R : Room) (s : State) (m : MethodId) (args : Array Value) (below : List Frame) (meth : Method) (c : Code) (Q : State → Prop) (nL pc : Nat) (M : Mem) (L : Lng) (lv : List (Nat × Value)) (st : List Value) : Prop :=
  ∀ (H : Heap) (locs : List Loc) (ls : Array Slot), va_P (wD w) vwCl (pic w M L) H → va_S (wA w) s.heap H locs → lv_has ls nL lv → W p l e R s m args below meth c H locs 0 0 Q (F0 m pc ls st)
end RowsK
end
section
/-! the words that the walks use, each by its place in the tables -/
theorem qp0 : Cond.selects RX6 yX6_beginPart yX6_beginPart ∈ BG := bg_p 0 (by decide +kernel) (by decide +kernel)
theorem qp1 : Cond.selects RX6 yX6_beginNumber yX6_beginNumber ∈ BG := bg_p 1 (by decide +kernel) (by decide +kernel)
theorem qp2 : Cond.selects RX6 yX6_takes yX6_takes ∈ BG := bg_p 2 (by decide +kernel) (by decide +kernel)
theorem qp3 : Cond.selects RX6 yX6_takesDigit yX6_takesDigit ∈ BG := bg_p 3 (by decide +kernel) (by decide +kernel)
theorem qp4 : Cond.selects RX6 yX6_numberIsWhole yX6_numberIsWhole ∈ BG := bg_p 4 (by decide +kernel) (by decide +kernel)
theorem qp5 : Cond.selects RX6 yX6_endPart yX6_endPart ∈ BG := bg_p 5 (by decide +kernel) (by decide +kernel)
theorem qp6 : Cond.selects RX8 yX8_numberOf yX8_numberOf ∈ BG := bg_p 6 (by decide +kernel) (by decide +kernel)
theorem qp7 : Cond.selects RX8 yX8_withMinutes yX8_withMinutes ∈ BG := bg_p 7 (by decide +kernel) (by decide +kernel)
theorem qp8 : Cond.selects RX8 yX8_minuteProperty yX8_minuteProperty ∈ BG := bg_p 8 (by decide +kernel) (by decide +kernel)
theorem qp9 : Cond.selects RX8 yX8_withExceedances yX8_withExceedances ∈ BG := bg_p 9 (by decide +kernel) (by decide +kernel)
theorem qp10 : Cond.selects RX8 yX8_exceedanceProperty yX8_exceedanceProperty ∈ BG := bg_p 10 (by decide +kernel) (by decide +kernel)
theorem qp11 : Cond.selects RX8 yX8_withComplaints yX8_withComplaints ∈ BG := bg_p 11 (by decide +kernel) (by decide +kernel)
theorem qp12 : Cond.selects RX8 yX8_complaintProperty yX8_complaintProperty ∈ BG := bg_p 12 (by decide +kernel) (by decide +kernel)
theorem qp13 : Cond.selects RX8 yX8_withLevels yX8_withLevels ∈ BG := bg_p 13 (by decide +kernel) (by decide +kernel)
theorem qp14 : Cond.selects RX7 yX7_exceedancesWithLimit yX7_exceedancesWithLimit ∈ BG := bg_p 14 (by decide +kernel) (by decide +kernel)
theorem qp15 : Cond.selects RX7 yX7_isAboveWithLimit yX7_isAboveWithLimit ∈ BG := bg_p 15 (by decide +kernel) (by decide +kernel)
theorem qp16 : Cond.selects RX8 yX8_withBuffer yX8_withBuffer ∈ BG := bg_p 16 (by decide +kernel) (by decide +kernel)
theorem qp19 : Cond.selects RX0 yX0_begin yX0_begin ∈ BG := bg_p 19 (by decide +kernel) (by decide +kernel)
theorem qp20 : Cond.selects RX0 yX0_extend yX0_extend ∈ BG := bg_p 20 (by decide +kernel) (by decide +kernel)
theorem qp21 : Cond.selects RX0 yX0_markOwners yX0_markOwners ∈ BG := bg_p 21 (by decide +kernel) (by decide +kernel)
theorem qp22 : Cond.selects RX3 yX3_putInOrder yX3_putInOrder ∈ BG := bg_p 22 (by decide +kernel) (by decide +kernel)
theorem qp23 : Cond.selects RX3 yX3_bestFor yX3_bestFor ∈ BG := bg_p 23 (by decide +kernel) (by decide +kernel)
theorem qp24 : Cond.selects RX9 yX9_save yX9_save ∈ BG := bg_p 24 (by decide +kernel) (by decide +kernel)
theorem qp25 : Cond.selects RX9 yX9_of yX9_of ∈ BG := bg_p 25 (by decide +kernel) (by decide +kernel)
theorem qp26 : Cond.selects RX9 yX9_bring yX9_bring ∈ BG := bg_p 26 (by decide +kernel) (by decide +kernel)
theorem qp27 : Cond.selects RX9 yX9_isMinute yX9_isMinute ∈ BG := bg_p 27 (by decide +kernel) (by decide +kernel)
theorem qp28 : Cond.selects RX9 yX9_lay yX9_lay ∈ BG := bg_p 28 (by decide +kernel) (by decide +kernel)
theorem qp29 : Cond.selects RX9 yX9_layArms yX9_layArms ∈ BG := bg_p 29 (by decide +kernel) (by decide +kernel)
theorem qp30 : Cond.selects RX9 yX9_layExceedances yX9_layExceedances ∈ BG := bg_p 30 (by decide +kernel) (by decide +kernel)
theorem qp31 : Cond.selects RX9 yX9_whyNot yX9_whyNot ∈ BG := bg_p 31 (by decide +kernel) (by decide +kernel)
theorem qp32 : Cond.selects RX9 yX9_limitOf yX9_limitOf ∈ BG := bg_p 32 (by decide +kernel) (by decide +kernel)
theorem qp33 : Cond.selects RX9 yX9_isRest yX9_isRest ∈ BG := bg_p 33 (by decide +kernel) (by decide +kernel)
theorem qp34 : Cond.selects RX9 yX9_addMinute yX9_addMinute ∈ BG := bg_p 34 (by decide +kernel) (by decide +kernel)
theorem qp35 : Cond.selects RX9 yX9_isComplaint yX9_isComplaint ∈ BG := bg_p 35 (by decide +kernel) (by decide +kernel)
theorem qp36 : Cond.selects RX9 yX9_layAll yX9_layAll ∈ BG := bg_p 36 (by decide +kernel) (by decide +kernel)
theorem qp37 : Cond.selects RX9 yX9_layMatches yX9_layMatches ∈ BG := bg_p 37 (by decide +kernel) (by decide +kernel)
theorem qp38 : Cond.selects RX9 yX9_matchFor yX9_matchFor ∈ BG := bg_p 38 (by decide +kernel) (by decide +kernel)
theorem qp39 : Cond.selects RX9 yX9_readText yX9_readText ∈ BG := bg_p 39 (by decide +kernel) (by decide +kernel)
theorem qp40 : Cond.selects RX9 yX9_beginPart yX9_beginPart ∈ BG := bg_p 40 (by decide +kernel) (by decide +kernel)
theorem qp41 : Cond.selects RX9 yX9_takes yX9_takes ∈ BG := bg_p 41 (by decide +kernel) (by decide +kernel)
theorem qp42 : Cond.selects RX9 yX9_takesDigit yX9_takesDigit ∈ BG := bg_p 42 (by decide +kernel) (by decide +kernel)
theorem qp43 : Cond.selects RX9 yX9_goTo yX9_goTo ∈ BG := bg_p 43 (by decide +kernel) (by decide +kernel)
theorem qp44 : Cond.selects RX9 yX9_isPartOver yX9_isPartOver ∈ BG := bg_p 44 (by decide +kernel) (by decide +kernel)
theorem qp45 : Cond.selects RX9 yX9_minuteNow yX9_minuteNow ∈ BG := bg_p 45 (by decide +kernel) (by decide +kernel)
theorem qp46 : Cond.selects RX9 yX9_exceedanceNow yX9_exceedanceNow ∈ BG := bg_p 46 (by decide +kernel) (by decide +kernel)
theorem qp47 : Cond.selects RX9 yX9_countFrom yX9_countFrom ∈ BG := bg_p 47 (by decide +kernel) (by decide +kernel)
theorem qp48 : Cond.selects RX9 yX9_percentNow yX9_percentNow ∈ BG := bg_p 48 (by decide +kernel) (by decide +kernel)
theorem qp49 : Cond.selects RX9 yX9_counted yX9_counted ∈ BG := bg_p 49 (by decide +kernel) (by decide +kernel)
theorem qp50 : Cond.selects RX9 yX9_minutesBy yX9_minutesBy ∈ BG := bg_p 50 (by decide +kernel) (by decide +kernel)
theorem qp51 : Cond.selects RX9 yX9_restMany yX9_restMany ∈ BG := bg_p 51 (by decide +kernel) (by decide +kernel)
theorem qp52 : Cond.selects RX9 yX9_matchedMany yX9_matchedMany ∈ BG := bg_p 52 (by decide +kernel) (by decide +kernel)
theorem qp53 : Cond.selects RX9 yX9_weights yX9_weights ∈ BG := bg_p 53 (by decide +kernel) (by decide +kernel)
theorem qp54 : Cond.selects RX9 yX9_heaviest yX9_heaviest ∈ BG := bg_p 54 (by decide +kernel) (by decide +kernel)
theorem qp55 : Cond.selects RX9 yX9_withSetting yX9_withSetting ∈ BG := bg_p 55 (by decide +kernel) (by decide +kernel)
theorem qp56 : Cond.selects RX9 yX9_leastNow yX9_leastNow ∈ BG := bg_p 56 (by decide +kernel) (by decide +kernel)
theorem qp57 : Cond.selects RX9 yX9_aboveNow yX9_aboveNow ∈ BG := bg_p 57 (by decide +kernel) (by decide +kernel)
theorem qp58 : Cond.selects RX9 yX9_shareNow yX9_shareNow ∈ BG := bg_p 58 (by decide +kernel) (by decide +kernel)
theorem qp59 : Cond.selects RX9 yX9_mixAll yX9_mixAll ∈ BG := bg_p 59 (by decide +kernel) (by decide +kernel)
theorem qp60 : Cond.selects RX9 yX9_mix yX9_mix ∈ BG := bg_p 60 (by decide +kernel) (by decide +kernel)
theorem q1 : Cond.initialized RX8 ∈ BG := bg_t 1 (by decide +kernel) (by decide +kernel)
theorem q2 : Cond.initialized RX5 ∈ BG := bg_t 2 (by decide +kernel) (by decide +kernel)
theorem q4 : Cond.initialized RX6 ∈ BG := bg_t 4 (by decide +kernel) (by decide +kernel)
theorem q5 : Cond.initialized RX7 ∈ BG := bg_t 5 (by decide +kernel) (by decide +kernel)
theorem q6 : Cond.initialized RX4 ∈ BG := bg_t 6 (by decide +kernel) (by decide +kernel)
theorem q7 : Cond.initialized RX0 ∈ BG := bg_t 7 (by decide +kernel) (by decide +kernel)
theorem q8 : Cond.initialized RX3 ∈ BG := bg_t 8 (by decide +kernel) (by decide +kernel)
theorem q9 : Cond.initialized RX2 ∈ BG := bg_t 9 (by decide +kernel) (by decide +kernel)
theorem q10 : Cond.initialized RX9 ∈ BG := bg_t 10 (by decide +kernel) (by decide +kernel)
theorem q16 : Cond.initialized "java/lang/System" ∈ BG := bg_t 16 (by decide +kernel) (by decide +kernel)
theorem q17 : Cond.initialized "java/lang/Math" ∈ BG := bg_t 17 (by decide +kernel) (by decide +kernel)
theorem q19 : Cond.initialized RJxe99ae ∈ BG := bg_t 19 (by decide +kernel) (by decide +kernel)
theorem q43 : Cond.fieldLink RX5 9 "NoisePost$State" "levels" "[I" ∈ BG := bg_t 43 (by decide +kernel) (by decide +kernel)
theorem q44 : Cond.fieldLink RX4 33 "NoisePost$State" "levels" "[I" ∈ BG := bg_t 44 (by decide +kernel) (by decide +kernel)
theorem q45 : Cond.fieldLink RX8 106 "NoisePost$State" "levels" "[I" ∈ BG := bg_t 45 (by decide +kernel) (by decide +kernel)
theorem q46 : Cond.fieldLink RX5 15 "NoisePost$State" "winds" "[I" ∈ BG := bg_t 46 (by decide +kernel) (by decide +kernel)
theorem q47 : Cond.fieldLink RX4 40 "NoisePost$State" "winds" "[I" ∈ BG := bg_t 47 (by decide +kernel) (by decide +kernel)
theorem q48 : Cond.fieldLink RX8 109 "NoisePost$State" "winds" "[I" ∈ BG := bg_t 48 (by decide +kernel) (by decide +kernel)
theorem q49 : Cond.fieldLink RX5 26 "NoisePost$State" "settings" "[I" ∈ BG := bg_t 49 (by decide +kernel) (by decide +kernel)
theorem q50 : Cond.fieldLink RX8 71 "NoisePost$State" "settings" "[I" ∈ BG := bg_t 50 (by decide +kernel) (by decide +kernel)
theorem q51 : Cond.fieldLink RX5 29 "NoisePost$State" "complaintMinutes" "[I" ∈ BG := bg_t 51 (by decide +kernel) (by decide +kernel)
theorem q52 : Cond.fieldLink RX3 40 "NoisePost$State" "complaintMinutes" "[I" ∈ BG := bg_t 52 (by decide +kernel) (by decide +kernel)
theorem q53 : Cond.fieldLink RX8 326 "NoisePost$State" "complaintMinutes" "[I" ∈ BG := bg_t 53 (by decide +kernel) (by decide +kernel)
theorem q54 : Cond.fieldLink RX4 25 "NoisePost$State" "minutes" "I" ∈ BG := bg_t 54 (by decide +kernel) (by decide +kernel)
theorem q55 : Cond.fieldLink RX5 32 "NoisePost$State" "minutes" "I" ∈ BG := bg_t 55 (by decide +kernel) (by decide +kernel)
theorem q56 : Cond.fieldLink RX8 86 "NoisePost$State" "minutes" "I" ∈ BG := bg_t 56 (by decide +kernel) (by decide +kernel)
theorem q57 : Cond.fieldLink RX3 21 "NoisePost$State" "complaints" "I" ∈ BG := bg_t 57 (by decide +kernel) (by decide +kernel)
theorem q58 : Cond.fieldLink RX5 36 "NoisePost$State" "complaints" "I" ∈ BG := bg_t 58 (by decide +kernel) (by decide +kernel)
theorem q59 : Cond.fieldLink RX8 129 "NoisePost$State" "complaints" "I" ∈ BG := bg_t 59 (by decide +kernel) (by decide +kernel)
theorem q60 : Cond.laysFinal RX5 "NoisePost$State" "levels" "[I" ∈ BG := bg_t 60 (by decide +kernel) (by decide +kernel)
theorem q62 : Cond.laysFinal RX5 "NoisePost$State" "winds" "[I" ∈ BG := bg_t 62 (by decide +kernel) (by decide +kernel)
theorem q64 : Cond.laysFinal RX5 "NoisePost$State" "settings" "[I" ∈ BG := bg_t 64 (by decide +kernel) (by decide +kernel)
theorem q66 : Cond.laysFinal RX5 "NoisePost$State" "complaintMinutes" "[I" ∈ BG := bg_t 66 (by decide +kernel) (by decide +kernel)
theorem q68 : Cond.lays RX5 "NoisePost$State" "minutes" "I" ∈ BG := bg_t 68 (by decide +kernel) (by decide +kernel)
theorem q70 : Cond.lays RX5 "NoisePost$State" "complaints" "I" ∈ BG := bg_t 70 (by decide +kernel) (by decide +kernel)
theorem q83 : Cond.fieldLink RX1 11 "NoisePost$History" "ring" "[LNoisePost$State;" ∈ BG := bg_t 83 (by decide +kernel) (by decide +kernel)
theorem q84 : Cond.fieldLink RX1 18 "NoisePost$History" "next" "I" ∈ BG := bg_t 84 (by decide +kernel) (by decide +kernel)
theorem q85 : Cond.fieldLink RX1 26 "NoisePost$History" "kept" "I" ∈ BG := bg_t 85 (by decide +kernel) (by decide +kernel)
theorem q86 : Cond.fieldLink RX8 185 "NoisePost$History" "kept" "I" ∈ BG := bg_t 86 (by decide +kernel) (by decide +kernel)
theorem q87 : Cond.laysFinal RX1 "NoisePost$History" "ring" "[LNoisePost$State;" ∈ BG := bg_t 87 (by decide +kernel) (by decide +kernel)
theorem q89 : Cond.lays RX1 "NoisePost$History" "next" "I" ∈ BG := bg_t 89 (by decide +kernel) (by decide +kernel)
theorem q91 : Cond.lays RX1 "NoisePost$History" "kept" "I" ∈ BG := bg_t 91 (by decide +kernel) (by decide +kernel)
theorem q100 : Cond.fieldLink RX6 9 "NoisePost$Text" "codes" "[I" ∈ BG := bg_t 100 (by decide +kernel) (by decide +kernel)
theorem q101 : Cond.fieldLink RX8 336 "NoisePost$Text" "codes" "[I" ∈ BG := bg_t 101 (by decide +kernel) (by decide +kernel)
theorem q102 : Cond.fieldLink RX6 27 "NoisePost$Text" "length" "I" ∈ BG := bg_t 102 (by decide +kernel) (by decide +kernel)
theorem q103 : Cond.fieldLink RX8 156 "NoisePost$Text" "length" "I" ∈ BG := bg_t 103 (by decide +kernel) (by decide +kernel)
theorem q104 : Cond.fieldLink RX6 15 "NoisePost$Text" "levels" "[I" ∈ BG := bg_t 104 (by decide +kernel) (by decide +kernel)
theorem q106 : Cond.fieldLink RX6 18 "NoisePost$Text" "winds" "[I" ∈ BG := bg_t 106 (by decide +kernel) (by decide +kernel)
theorem q108 : Cond.fieldLink RX6 21 "NoisePost$Text" "times" "[I" ∈ BG := bg_t 108 (by decide +kernel) (by decide +kernel)
theorem q110 : Cond.fieldLink RX6 31 "NoisePost$Text" "parts" "I" ∈ BG := bg_t 110 (by decide +kernel) (by decide +kernel)
theorem q112 : Cond.fieldLink RX6 24 "NoisePost$Text" "numbers" "[I" ∈ BG := bg_t 112 (by decide +kernel) (by decide +kernel)
theorem q113 : Cond.fieldLink RX6 55 "NoisePost$Text" "field" "I" ∈ BG := bg_t 113 (by decide +kernel) (by decide +kernel)
theorem q114 : Cond.laysFinal RX6 "NoisePost$Text" "codes" "[I" ∈ BG := bg_t 114 (by decide +kernel) (by decide +kernel)
theorem q116 : Cond.lays RX6 "NoisePost$Text" "length" "I" ∈ BG := bg_t 116 (by decide +kernel) (by decide +kernel)
theorem q118 : Cond.laysFinal RX6 "NoisePost$Text" "levels" "[I" ∈ BG := bg_t 118 (by decide +kernel) (by decide +kernel)
theorem q120 : Cond.laysFinal RX6 "NoisePost$Text" "winds" "[I" ∈ BG := bg_t 120 (by decide +kernel) (by decide +kernel)
theorem q122 : Cond.laysFinal RX6 "NoisePost$Text" "times" "[I" ∈ BG := bg_t 122 (by decide +kernel) (by decide +kernel)
theorem q124 : Cond.lays RX6 "NoisePost$Text" "parts" "I" ∈ BG := bg_t 124 (by decide +kernel) (by decide +kernel)
theorem q126 : Cond.laysFinal RX6 "NoisePost$Text" "numbers" "[I" ∈ BG := bg_t 126 (by decide +kernel) (by decide +kernel)
theorem q128 : Cond.lays RX6 "NoisePost$Text" "field" "I" ∈ BG := bg_t 128 (by decide +kernel) (by decide +kernel)
theorem q146 : Cond.fieldLink RX4 9 "NoisePost$Minutes" "fast" "[I" ∈ BG := bg_t 146 (by decide +kernel) (by decide +kernel)
theorem q147 : Cond.fieldLink RX2 25 "NoisePost$Minutes" "fast" "[I" ∈ BG := bg_t 147 (by decide +kernel) (by decide +kernel)
theorem q148 : Cond.fieldLink RX0 53 "NoisePost$Minutes" "fast" "[I" ∈ BG := bg_t 148 (by decide +kernel) (by decide +kernel)
theorem q149 : Cond.fieldLink RX8 288 "NoisePost$Minutes" "fast" "[I" ∈ BG := bg_t 149 (by decide +kernel) (by decide +kernel)
theorem q150 : Cond.fieldLink RX4 15 "NoisePost$Minutes" "slow" "[I" ∈ BG := bg_t 150 (by decide +kernel) (by decide +kernel)
theorem q151 : Cond.fieldLink RX0 46 "NoisePost$Minutes" "slow" "[I" ∈ BG := bg_t 151 (by decide +kernel) (by decide +kernel)
theorem q152 : Cond.fieldLink RX7 118 "NoisePost$Minutes" "slow" "[I" ∈ BG := bg_t 152 (by decide +kernel) (by decide +kernel)
theorem q153 : Cond.fieldLink RX8 291 "NoisePost$Minutes" "slow" "[I" ∈ BG := bg_t 153 (by decide +kernel) (by decide +kernel)
theorem q154 : Cond.fieldLink RX4 18 "NoisePost$Minutes" "why" "[I" ∈ BG := bg_t 154 (by decide +kernel) (by decide +kernel)
theorem q155 : Cond.fieldLink RX0 39 "NoisePost$Minutes" "why" "[I" ∈ BG := bg_t 155 (by decide +kernel) (by decide +kernel)
theorem q156 : Cond.fieldLink RX8 302 "NoisePost$Minutes" "why" "[I" ∈ BG := bg_t 156 (by decide +kernel) (by decide +kernel)
theorem q157 : Cond.fieldLink RX4 30 "NoisePost$Minutes" "told" "I" ∈ BG := bg_t 157 (by decide +kernel) (by decide +kernel)
theorem q158 : Cond.fieldLink RX0 34 "NoisePost$Minutes" "told" "I" ∈ BG := bg_t 158 (by decide +kernel) (by decide +kernel)
theorem q159 : Cond.fieldLink RX2 15 "NoisePost$Minutes" "told" "I" ∈ BG := bg_t 159 (by decide +kernel) (by decide +kernel)
theorem q160 : Cond.fieldLink RX7 69 "NoisePost$Minutes" "told" "I" ∈ BG := bg_t 160 (by decide +kernel) (by decide +kernel)
theorem q161 : Cond.fieldLink RX4 51 "NoisePost$Minutes" "counted" "I" ∈ BG := bg_t 161 (by decide +kernel) (by decide +kernel)
theorem q162 : Cond.fieldLink RX7 73 "NoisePost$Minutes" "counted" "I" ∈ BG := bg_t 162 (by decide +kernel) (by decide +kernel)
theorem q163 : Cond.fieldLink RX8 217 "NoisePost$Minutes" "counted" "I" ∈ BG := bg_t 163 (by decide +kernel) (by decide +kernel)
theorem q164 : Cond.fieldLink RX4 54 "NoisePost$Minutes" "resting" "I" ∈ BG := bg_t 164 (by decide +kernel) (by decide +kernel)
theorem q165 : Cond.fieldLink RX7 76 "NoisePost$Minutes" "resting" "I" ∈ BG := bg_t 165 (by decide +kernel) (by decide +kernel)
theorem q166 : Cond.fieldLink RX4 57 "NoisePost$Minutes" "above" "I" ∈ BG := bg_t 166 (by decide +kernel) (by decide +kernel)
theorem q167 : Cond.fieldLink RX7 79 "NoisePost$Minutes" "above" "I" ∈ BG := bg_t 167 (by decide +kernel) (by decide +kernel)
theorem q168 : Cond.fieldLink RX4 21 "NoisePost$Minutes" "lastWindy" "I" ∈ BG := bg_t 168 (by decide +kernel) (by decide +kernel)
theorem q169 : Cond.laysFinal RX4 "NoisePost$Minutes" "fast" "[I" ∈ BG := bg_t 169 (by decide +kernel) (by decide +kernel)
theorem q171 : Cond.laysFinal RX4 "NoisePost$Minutes" "slow" "[I" ∈ BG := bg_t 171 (by decide +kernel) (by decide +kernel)
theorem q173 : Cond.laysFinal RX4 "NoisePost$Minutes" "why" "[I" ∈ BG := bg_t 173 (by decide +kernel) (by decide +kernel)
theorem q175 : Cond.lays RX4 "NoisePost$Minutes" "told" "I" ∈ BG := bg_t 175 (by decide +kernel) (by decide +kernel)
theorem q177 : Cond.lays RX4 "NoisePost$Minutes" "counted" "I" ∈ BG := bg_t 177 (by decide +kernel) (by decide +kernel)
theorem q179 : Cond.lays RX4 "NoisePost$Minutes" "resting" "I" ∈ BG := bg_t 179 (by decide +kernel) (by decide +kernel)
theorem q181 : Cond.lays RX4 "NoisePost$Minutes" "above" "I" ∈ BG := bg_t 181 (by decide +kernel) (by decide +kernel)
theorem q183 : Cond.lays RX4 "NoisePost$Minutes" "lastWindy" "I" ∈ BG := bg_t 183 (by decide +kernel) (by decide +kernel)
theorem q192 : Cond.fieldLink RX0 9 "NoisePost$Exceedances" "begins" "[I" ∈ BG := bg_t 192 (by decide +kernel) (by decide +kernel)
theorem q193 : Cond.fieldLink RX3 47 "NoisePost$Exceedances" "begins" "[I" ∈ BG := bg_t 193 (by decide +kernel) (by decide +kernel)
theorem q194 : Cond.fieldLink RX8 308 "NoisePost$Exceedances" "begins" "[I" ∈ BG := bg_t 194 (by decide +kernel) (by decide +kernel)
theorem q195 : Cond.fieldLink RX0 15 "NoisePost$Exceedances" "ends" "[I" ∈ BG := bg_t 195 (by decide +kernel) (by decide +kernel)
theorem q196 : Cond.fieldLink RX3 50 "NoisePost$Exceedances" "ends" "[I" ∈ BG := bg_t 196 (by decide +kernel) (by decide +kernel)
theorem q197 : Cond.fieldLink RX8 311 "NoisePost$Exceedances" "ends" "[I" ∈ BG := bg_t 197 (by decide +kernel) (by decide +kernel)
theorem q198 : Cond.fieldLink RX0 18 "NoisePost$Exceedances" "aboves" "[I" ∈ BG := bg_t 198 (by decide +kernel) (by decide +kernel)
theorem q199 : Cond.fieldLink RX8 314 "NoisePost$Exceedances" "aboves" "[I" ∈ BG := bg_t 199 (by decide +kernel) (by decide +kernel)
theorem q200 : Cond.fieldLink RX0 21 "NoisePost$Exceedances" "peaks" "[I" ∈ BG := bg_t 200 (by decide +kernel) (by decide +kernel)
theorem q201 : Cond.fieldLink RX3 53 "NoisePost$Exceedances" "peaks" "[I" ∈ BG := bg_t 201 (by decide +kernel) (by decide +kernel)
theorem q202 : Cond.fieldLink RX8 317 "NoisePost$Exceedances" "peaks" "[I" ∈ BG := bg_t 202 (by decide +kernel) (by decide +kernel)
theorem q203 : Cond.fieldLink RX0 24 "NoisePost$Exceedances" "weights" "[I" ∈ BG := bg_t 203 (by decide +kernel) (by decide +kernel)
theorem q204 : Cond.fieldLink RX8 320 "NoisePost$Exceedances" "weights" "[I" ∈ BG := bg_t 204 (by decide +kernel) (by decide +kernel)
theorem q205 : Cond.fieldLink RX0 27 "NoisePost$Exceedances" "ownerOf" "[I" ∈ BG := bg_t 205 (by decide +kernel) (by decide +kernel)
theorem q206 : Cond.fieldLink RX8 305 "NoisePost$Exceedances" "ownerOf" "[I" ∈ BG := bg_t 206 (by decide +kernel) (by decide +kernel)
theorem q207 : Cond.fieldLink RX0 30 "NoisePost$Exceedances" "found" "I" ∈ BG := bg_t 207 (by decide +kernel) (by decide +kernel)
theorem q208 : Cond.fieldLink RX3 31 "NoisePost$Exceedances" "found" "I" ∈ BG := bg_t 208 (by decide +kernel) (by decide +kernel)
theorem q209 : Cond.fieldLink RX8 116 "NoisePost$Exceedances" "found" "I" ∈ BG := bg_t 209 (by decide +kernel) (by decide +kernel)
theorem q210 : Cond.fieldLink RX7 82 "NoisePost$Exceedances" "found" "I" ∈ BG := bg_t 210 (by decide +kernel) (by decide +kernel)
theorem q211 : Cond.fieldLink RX0 60 "NoisePost$Exceedances" "goesOn" "Z" ∈ BG := bg_t 211 (by decide +kernel) (by decide +kernel)
theorem q212 : Cond.fieldLink RX7 98 "NoisePost$Exceedances" "goesOn" "Z" ∈ BG := bg_t 212 (by decide +kernel) (by decide +kernel)
theorem q213 : Cond.laysFinal RX0 "NoisePost$Exceedances" "begins" "[I" ∈ BG := bg_t 213 (by decide +kernel) (by decide +kernel)
theorem q215 : Cond.laysFinal RX0 "NoisePost$Exceedances" "ends" "[I" ∈ BG := bg_t 215 (by decide +kernel) (by decide +kernel)
theorem q217 : Cond.laysFinal RX0 "NoisePost$Exceedances" "aboves" "[I" ∈ BG := bg_t 217 (by decide +kernel) (by decide +kernel)
theorem q219 : Cond.laysFinal RX0 "NoisePost$Exceedances" "peaks" "[I" ∈ BG := bg_t 219 (by decide +kernel) (by decide +kernel)
theorem q221 : Cond.laysFinal RX0 "NoisePost$Exceedances" "weights" "[I" ∈ BG := bg_t 221 (by decide +kernel) (by decide +kernel)
theorem q223 : Cond.laysFinal RX0 "NoisePost$Exceedances" "ownerOf" "[I" ∈ BG := bg_t 223 (by decide +kernel) (by decide +kernel)
theorem q225 : Cond.lays RX0 "NoisePost$Exceedances" "found" "I" ∈ BG := bg_t 225 (by decide +kernel) (by decide +kernel)
theorem q227 : Cond.lays RX0 "NoisePost$Exceedances" "goesOn" "Z" ∈ BG := bg_t 227 (by decide +kernel) (by decide +kernel)
theorem q236 : Cond.fieldLink RX3 9 "NoisePost$Matches" "exceedanceOf" "[I" ∈ BG := bg_t 236 (by decide +kernel) (by decide +kernel)
theorem q237 : Cond.fieldLink RX8 146 "NoisePost$Matches" "exceedanceOf" "[I" ∈ BG := bg_t 237 (by decide +kernel) (by decide +kernel)
theorem q238 : Cond.fieldLink RX3 15 "NoisePost$Matches" "complaintOf" "[I" ∈ BG := bg_t 238 (by decide +kernel) (by decide +kernel)
theorem q239 : Cond.fieldLink RX8 323 "NoisePost$Matches" "complaintOf" "[I" ∈ BG := bg_t 239 (by decide +kernel) (by decide +kernel)
theorem q240 : Cond.fieldLink RX3 18 "NoisePost$Matches" "order" "[I" ∈ BG := bg_t 240 (by decide +kernel) (by decide +kernel)
theorem q241 : Cond.fieldLink RX3 27 "NoisePost$Matches" "complaints" "I" ∈ BG := bg_t 241 (by decide +kernel) (by decide +kernel)
theorem q242 : Cond.fieldLink RX7 85 "NoisePost$Matches" "complaints" "I" ∈ BG := bg_t 242 (by decide +kernel) (by decide +kernel)
theorem q243 : Cond.fieldLink RX3 28 "NoisePost$Matches" "matched" "I" ∈ BG := bg_t 243 (by decide +kernel) (by decide +kernel)
theorem q244 : Cond.fieldLink RX7 88 "NoisePost$Matches" "matched" "I" ∈ BG := bg_t 244 (by decide +kernel) (by decide +kernel)
theorem q245 : Cond.laysFinal RX3 "NoisePost$Matches" "exceedanceOf" "[I" ∈ BG := bg_t 245 (by decide +kernel) (by decide +kernel)
theorem q247 : Cond.laysFinal RX3 "NoisePost$Matches" "complaintOf" "[I" ∈ BG := bg_t 247 (by decide +kernel) (by decide +kernel)
theorem q249 : Cond.laysFinal RX3 "NoisePost$Matches" "order" "[I" ∈ BG := bg_t 249 (by decide +kernel) (by decide +kernel)
theorem q251 : Cond.lays RX3 "NoisePost$Matches" "complaints" "I" ∈ BG := bg_t 251 (by decide +kernel) (by decide +kernel)
theorem q253 : Cond.lays RX3 "NoisePost$Matches" "matched" "I" ∈ BG := bg_t 253 (by decide +kernel) (by decide +kernel)
theorem q256 : Cond.fieldLink RX7 18 "NoisePost$View" "settings" "[I" ∈ BG := bg_t 256 (by decide +kernel) (by decide +kernel)
theorem q258 : Cond.fieldLink RX7 26 "NoisePost$View" "minutes" "LNoisePost$Minutes;" ∈ BG := bg_t 258 (by decide +kernel) (by decide +kernel)
theorem q259 : Cond.fieldLink RX8 214 "NoisePost$View" "minutes" "LNoisePost$Minutes;" ∈ BG := bg_t 259 (by decide +kernel) (by decide +kernel)
theorem q260 : Cond.fieldLink RX7 33 "NoisePost$View" "exceedances" "LNoisePost$Exceedances;" ∈ BG := bg_t 260 (by decide +kernel) (by decide +kernel)
theorem q261 : Cond.fieldLink RX8 112 "NoisePost$View" "exceedances" "LNoisePost$Exceedances;" ∈ BG := bg_t 261 (by decide +kernel) (by decide +kernel)
theorem q262 : Cond.fieldLink RX7 40 "NoisePost$View" "matches" "LNoisePost$Matches;" ∈ BG := bg_t 262 (by decide +kernel) (by decide +kernel)
theorem q263 : Cond.fieldLink RX8 142 "NoisePost$View" "matches" "LNoisePost$Matches;" ∈ BG := bg_t 263 (by decide +kernel) (by decide +kernel)
theorem q264 : Cond.laysFinal RX7 "NoisePost$View" "settings" "[I" ∈ BG := bg_t 264 (by decide +kernel) (by decide +kernel)
theorem q266 : Cond.laysFinal RX7 "NoisePost$View" "minutes" "LNoisePost$Minutes;" ∈ BG := bg_t 266 (by decide +kernel) (by decide +kernel)
theorem q268 : Cond.laysFinal RX7 "NoisePost$View" "exceedances" "LNoisePost$Exceedances;" ∈ BG := bg_t 268 (by decide +kernel) (by decide +kernel)
theorem q270 : Cond.laysFinal RX7 "NoisePost$View" "matches" "LNoisePost$Matches;" ∈ BG := bg_t 270 (by decide +kernel) (by decide +kernel)
theorem q279 : Cond.fieldLink RX2 9 "NoisePost$LevelCounts" "reached" "[I" ∈ BG := bg_t 279 (by decide +kernel) (by decide +kernel)
theorem q280 : Cond.fieldLink RX8 209 "NoisePost$LevelCounts" "reached" "[I" ∈ BG := bg_t 280 (by decide +kernel) (by decide +kernel)
theorem q281 : Cond.laysFinal RX2 "NoisePost$LevelCounts" "reached" "[I" ∈ BG := bg_t 281 (by decide +kernel) (by decide +kernel)
theorem q284 : Cond.fieldLink RX8 10 "NoisePost" "state" "LNoisePost$State;" ∈ BG := bg_t 284 (by decide +kernel) (by decide +kernel)
theorem q285 : Cond.fieldLink RX8 19 "NoisePost" "history" "LNoisePost$History;" ∈ BG := bg_t 285 (by decide +kernel) (by decide +kernel)
theorem q286 : Cond.fieldLink RX8 26 "NoisePost" "text" "LNoisePost$Text;" ∈ BG := bg_t 286 (by decide +kernel) (by decide +kernel)
theorem q287 : Cond.fieldLink RX8 33 "NoisePost" "now" "LNoisePost$View;" ∈ BG := bg_t 287 (by decide +kernel) (by decide +kernel)
theorem q289 : Cond.fieldLink RX8 43 "NoisePost" "levelCounts" "LNoisePost$LevelCounts;" ∈ BG := bg_t 289 (by decide +kernel) (by decide +kernel)
theorem q290 : Cond.laysFinal RX8 "NoisePost" "state" "LNoisePost$State;" ∈ BG := bg_t 290 (by decide +kernel) (by decide +kernel)
theorem q292 : Cond.laysFinal RX8 "NoisePost" "history" "LNoisePost$History;" ∈ BG := bg_t 292 (by decide +kernel) (by decide +kernel)
theorem q294 : Cond.laysFinal RX8 "NoisePost" "text" "LNoisePost$Text;" ∈ BG := bg_t 294 (by decide +kernel) (by decide +kernel)
theorem q296 : Cond.laysFinal RX8 "NoisePost" "now" "LNoisePost$View;" ∈ BG := bg_t 296 (by decide +kernel) (by decide +kernel)
theorem q298 : Cond.laysFinal RX8 "NoisePost" "tried" "LNoisePost$View;" ∈ BG := bg_t 298 (by decide +kernel) (by decide +kernel)
theorem q300 : Cond.laysFinal RX8 "NoisePost" "levelCounts" "LNoisePost$LevelCounts;" ∈ BG := bg_t 300 (by decide +kernel) (by decide +kernel)
theorem q311 : Cond.methodLink RX8 164 yX6_read ∈ BG := bg_t 311 (by decide +kernel) (by decide +kernel)
theorem q312 : Cond.instanceMethod yX6_read ∈ BG := bg_t 312 (by decide +kernel) (by decide +kernel)
theorem q313 : Cond.selects RX6 yX6_read yX6_read ∈ BG := bg_t 313 (by decide +kernel) (by decide +kernel)
theorem q314 : Cond.code yX6_read cX6_read 2 (some .int) ∈ BG := bg_t 314 (by decide +kernel) (by decide +kernel)
theorem q315 : Cond.methodLink RX6 34 yX6_beginPart ∈ BG := bg_t 315 (by decide +kernel) (by decide +kernel)
theorem q317 : Cond.instanceMethod yX6_beginPart ∈ BG := bg_t 317 (by decide +kernel) (by decide +kernel)
theorem q318 : Cond.code yX6_beginPart cX6_beginPart 1 none ∈ BG := bg_t 318 (by decide +kernel) (by decide +kernel)
theorem q319 : Cond.methodLink RX6 58 yX6_beginNumber ∈ BG := bg_t 319 (by decide +kernel) (by decide +kernel)
theorem q321 : Cond.instanceMethod yX6_beginNumber ∈ BG := bg_t 321 (by decide +kernel) (by decide +kernel)
theorem q322 : Cond.code yX6_beginNumber cX6_beginNumber 2 none ∈ BG := bg_t 322 (by decide +kernel) (by decide +kernel)
theorem q323 : Cond.methodLink RX6 37 yX6_takes ∈ BG := bg_t 323 (by decide +kernel) (by decide +kernel)
theorem q325 : Cond.instanceMethod yX6_takes ∈ BG := bg_t 325 (by decide +kernel) (by decide +kernel)
theorem q326 : Cond.code yX6_takes cX6_takes 2 (some .boolean) ∈ BG := bg_t 326 (by decide +kernel) (by decide +kernel)
theorem q327 : Cond.methodLink RX6 52 yX6_takesDigit ∈ BG := bg_t 327 (by decide +kernel) (by decide +kernel)
theorem q329 : Cond.instanceMethod yX6_takesDigit ∈ BG := bg_t 329 (by decide +kernel) (by decide +kernel)
theorem q330 : Cond.code yX6_takesDigit cX6_takesDigit 4 (some .boolean) ∈ BG := bg_t 330 (by decide +kernel) (by decide +kernel)
theorem q335 : Cond.methodLink RX6 45 yX6_numberIsWhole ∈ BG := bg_t 335 (by decide +kernel) (by decide +kernel)
theorem q337 : Cond.instanceMethod yX6_numberIsWhole ∈ BG := bg_t 337 (by decide +kernel) (by decide +kernel)
theorem q338 : Cond.code yX6_numberIsWhole cX6_numberIsWhole 1 (some .boolean) ∈ BG := bg_t 338 (by decide +kernel) (by decide +kernel)
theorem q339 : Cond.methodLink RX6 49 yX6_endPart ∈ BG := bg_t 339 (by decide +kernel) (by decide +kernel)
theorem q341 : Cond.instanceMethod yX6_endPart ∈ BG := bg_t 341 (by decide +kernel) (by decide +kernel)
theorem q342 : Cond.code yX6_endPart cX6_endPart 1 none ∈ BG := bg_t 342 (by decide +kernel) (by decide +kernel)
theorem q347 : Cond.methodLink RX8 248 yX4_shareAbove ∈ BG := bg_t 347 (by decide +kernel) (by decide +kernel)
theorem q348 : Cond.instanceMethod yX4_shareAbove ∈ BG := bg_t 348 (by decide +kernel) (by decide +kernel)
theorem q349 : Cond.selects RX4 yX4_shareAbove yX4_shareAbove ∈ BG := bg_t 349 (by decide +kernel) (by decide +kernel)
theorem q350 : Cond.code yX4_shareAbove cX4_shareAbove 1 (some .double) ∈ BG := bg_t 350 (by decide +kernel) (by decide +kernel)
theorem q355 : Cond.constantLong RX8 252 (2161) ∈ BG := bg_t 355 (by decide +kernel) (by decide +kernel)
theorem q356 : Cond.methodLink RX8 225 yX8_numberOf ∈ BG := bg_t 356 (by decide +kernel) (by decide +kernel)
theorem q358 : Cond.instanceMethod yX8_numberOf ∈ BG := bg_t 358 (by decide +kernel) (by decide +kernel)
theorem q359 : Cond.code yX8_numberOf cX8_numberOf 2 (some .int) ∈ BG := bg_t 359 (by decide +kernel) (by decide +kernel)
theorem q360 : Cond.methodLink RX8 239 yX7_numberOf ∈ BG := bg_t 360 (by decide +kernel) (by decide +kernel)
theorem q361 : Cond.instanceMethod yX7_numberOf ∈ BG := bg_t 361 (by decide +kernel) (by decide +kernel)
theorem q362 : Cond.selects RX7 yX7_numberOf yX7_numberOf ∈ BG := bg_t 362 (by decide +kernel) (by decide +kernel)
theorem q363 : Cond.code yX7_numberOf cX7_numberOf 2 (some .int) ∈ BG := bg_t 363 (by decide +kernel) (by decide +kernel)
theorem q364 : Cond.methodLink RX7 91 yX0_weightOfAll ∈ BG := bg_t 364 (by decide +kernel) (by decide +kernel)
theorem q365 : Cond.instanceMethod yX0_weightOfAll ∈ BG := bg_t 365 (by decide +kernel) (by decide +kernel)
theorem q366 : Cond.selects RX0 yX0_weightOfAll yX0_weightOfAll ∈ BG := bg_t 366 (by decide +kernel) (by decide +kernel)
theorem q367 : Cond.code yX0_weightOfAll cX0_weightOfAll 3 (some .int) ∈ BG := bg_t 367 (by decide +kernel) (by decide +kernel)
theorem q368 : Cond.methodLink RX7 95 yX0_heaviest ∈ BG := bg_t 368 (by decide +kernel) (by decide +kernel)
theorem q369 : Cond.instanceMethod yX0_heaviest ∈ BG := bg_t 369 (by decide +kernel) (by decide +kernel)
theorem q370 : Cond.selects RX0 yX0_heaviest yX0_heaviest ∈ BG := bg_t 370 (by decide +kernel) (by decide +kernel)
theorem q371 : Cond.code yX0_heaviest cX0_heaviest 3 (some .int) ∈ BG := bg_t 371 (by decide +kernel) (by decide +kernel)
theorem q372 : Cond.methodLink RX8 254 yX8_mixed ∈ BG := bg_t 372 (by decide +kernel) (by decide +kernel)
theorem q373 : Cond.static yX8_mixed ∈ BG := bg_t 373 (by decide +kernel) (by decide +kernel)
theorem q374 : Cond.code yX8_mixed cX8_mixed 4 (some .long) ∈ BG := bg_t 374 (by decide +kernel) (by decide +kernel)
theorem q375 : Cond.constantLong RX8 334 (31) ∈ BG := bg_t 375 (by decide +kernel) (by decide +kernel)
theorem q376 : Cond.methodLink RX8 258 yX8_withMinutes ∈ BG := bg_t 376 (by decide +kernel) (by decide +kernel)
theorem q378 : Cond.instanceMethod yX8_withMinutes ∈ BG := bg_t 378 (by decide +kernel) (by decide +kernel)
theorem q379 : Cond.code yX8_withMinutes cX8_withMinutes 5 (some .long) ∈ BG := bg_t 379 (by decide +kernel) (by decide +kernel)
theorem q380 : Cond.methodLink RX8 195 yX8_minuteProperty ∈ BG := bg_t 380 (by decide +kernel) (by decide +kernel)
theorem q382 : Cond.instanceMethod yX8_minuteProperty ∈ BG := bg_t 382 (by decide +kernel) (by decide +kernel)
theorem q383 : Cond.code yX8_minuteProperty cX8_minuteProperty 3 (some .int) ∈ BG := bg_t 383 (by decide +kernel) (by decide +kernel)
theorem q384 : Cond.methodLink RX8 294 yX8_limitAt ∈ BG := bg_t 384 (by decide +kernel) (by decide +kernel)
theorem q385 : Cond.static yX8_limitAt ∈ BG := bg_t 385 (by decide +kernel) (by decide +kernel)
theorem q386 : Cond.code yX8_limitAt cX8_limitAt 2 (some .int) ∈ BG := bg_t 386 (by decide +kernel) (by decide +kernel)
theorem q387 : Cond.methodLink RX8 298 yX8_isRest ∈ BG := bg_t 387 (by decide +kernel) (by decide +kernel)
theorem q388 : Cond.static yX8_isRest ∈ BG := bg_t 388 (by decide +kernel) (by decide +kernel)
theorem q389 : Cond.code yX8_isRest cX8_isRest 2 (some .boolean) ∈ BG := bg_t 389 (by decide +kernel) (by decide +kernel)
theorem q390 : Cond.methodLink RX8 329 yJ9_floorMod_7cf53 ∈ BG := bg_t 390 (by decide +kernel) (by decide +kernel)
theorem q391 : Cond.static yJ9_floorMod_7cf53 ∈ BG := bg_t 391 (by decide +kernel) (by decide +kernel)
theorem q392 : Cond.code yJ9_floorMod_7cf53 cJ9_floorMod_7cf53 3 (some .int) ∈ BG := bg_t 392 (by decide +kernel) (by decide +kernel)
theorem q393 : Cond.methodLink RX8 262 yX8_withExceedances ∈ BG := bg_t 393 (by decide +kernel) (by decide +kernel)
theorem q395 : Cond.instanceMethod yX8_withExceedances ∈ BG := bg_t 395 (by decide +kernel) (by decide +kernel)
theorem q396 : Cond.code yX8_withExceedances cX8_withExceedances 5 (some .long) ∈ BG := bg_t 396 (by decide +kernel) (by decide +kernel)
theorem q397 : Cond.methodLink RX8 201 yX8_exceedanceProperty ∈ BG := bg_t 397 (by decide +kernel) (by decide +kernel)
theorem q399 : Cond.instanceMethod yX8_exceedanceProperty ∈ BG := bg_t 399 (by decide +kernel) (by decide +kernel)
theorem q400 : Cond.code yX8_exceedanceProperty cX8_exceedanceProperty 3 (some .int) ∈ BG := bg_t 400 (by decide +kernel) (by decide +kernel)
theorem q401 : Cond.methodLink RX8 265 yX8_withComplaints ∈ BG := bg_t 401 (by decide +kernel) (by decide +kernel)
theorem q403 : Cond.instanceMethod yX8_withComplaints ∈ BG := bg_t 403 (by decide +kernel) (by decide +kernel)
theorem q404 : Cond.code yX8_withComplaints cX8_withComplaints 4 (some .long) ∈ BG := bg_t 404 (by decide +kernel) (by decide +kernel)
theorem q405 : Cond.methodLink RX8 204 yX8_complaintProperty ∈ BG := bg_t 405 (by decide +kernel) (by decide +kernel)
theorem q407 : Cond.instanceMethod yX8_complaintProperty ∈ BG := bg_t 407 (by decide +kernel) (by decide +kernel)
theorem q408 : Cond.code yX8_complaintProperty cX8_complaintProperty 3 (some .int) ∈ BG := bg_t 408 (by decide +kernel) (by decide +kernel)
theorem q409 : Cond.methodLink RX8 268 yX8_withLevels ∈ BG := bg_t 409 (by decide +kernel) (by decide +kernel)
theorem q411 : Cond.instanceMethod yX8_withLevels ∈ BG := bg_t 411 (by decide +kernel) (by decide +kernel)
theorem q412 : Cond.code yX8_withLevels cX8_withLevels 4 (some .long) ∈ BG := bg_t 412 (by decide +kernel) (by decide +kernel)
theorem q413 : Cond.methodLink RX8 222 yX2_levelOfPercent ∈ BG := bg_t 413 (by decide +kernel) (by decide +kernel)
theorem q414 : Cond.instanceMethod yX2_levelOfPercent ∈ BG := bg_t 414 (by decide +kernel) (by decide +kernel)
theorem q415 : Cond.selects RX2 yX2_levelOfPercent yX2_levelOfPercent ∈ BG := bg_t 415 (by decide +kernel) (by decide +kernel)
theorem q416 : Cond.code yX2_levelOfPercent cX2_levelOfPercent 4 (some .int) ∈ BG := bg_t 416 (by decide +kernel) (by decide +kernel)
theorem q417 : Cond.methodLink RX8 242 yX7_leastLimitFor ∈ BG := bg_t 417 (by decide +kernel) (by decide +kernel)
theorem q418 : Cond.instanceMethod yX7_leastLimitFor ∈ BG := bg_t 418 (by decide +kernel) (by decide +kernel)
theorem q419 : Cond.selects RX7 yX7_leastLimitFor yX7_leastLimitFor ∈ BG := bg_t 419 (by decide +kernel) (by decide +kernel)
theorem q420 : Cond.code yX7_leastLimitFor cX7_leastLimitFor 3 (some .int) ∈ BG := bg_t 420 (by decide +kernel) (by decide +kernel)
theorem q421 : Cond.methodLink RX7 102 yX7_exceedancesWithLimit ∈ BG := bg_t 421 (by decide +kernel) (by decide +kernel)
theorem q423 : Cond.instanceMethod yX7_exceedancesWithLimit ∈ BG := bg_t 423 (by decide +kernel) (by decide +kernel)
theorem q424 : Cond.code yX7_exceedancesWithLimit cX7_exceedancesWithLimit 6 (some .int) ∈ BG := bg_t 424 (by decide +kernel) (by decide +kernel)
theorem q425 : Cond.methodLink RX7 106 yX7_isAboveWithLimit ∈ BG := bg_t 425 (by decide +kernel) (by decide +kernel)
theorem q427 : Cond.instanceMethod yX7_isAboveWithLimit ∈ BG := bg_t 427 (by decide +kernel) (by decide +kernel)
theorem q428 : Cond.code yX7_isAboveWithLimit cX7_isAboveWithLimit 4 (some .boolean) ∈ BG := bg_t 428 (by decide +kernel) (by decide +kernel)
theorem q429 : Cond.methodLink RX7 110 yX4_isCounted ∈ BG := bg_t 429 (by decide +kernel) (by decide +kernel)
theorem q430 : Cond.instanceMethod yX4_isCounted ∈ BG := bg_t 430 (by decide +kernel) (by decide +kernel)
theorem q431 : Cond.selects RX4 yX4_isCounted yX4_isCounted ∈ BG := bg_t 431 (by decide +kernel) (by decide +kernel)
theorem q432 : Cond.code yX4_isCounted cX4_isCounted 2 (some .boolean) ∈ BG := bg_t 432 (by decide +kernel) (by decide +kernel)
theorem q434 : Cond.methodLink RX8 245 yX7_minutesUntilAbove ∈ BG := bg_t 434 (by decide +kernel) (by decide +kernel)
theorem q435 : Cond.instanceMethod yX7_minutesUntilAbove ∈ BG := bg_t 435 (by decide +kernel) (by decide +kernel)
theorem q436 : Cond.selects RX7 yX7_minutesUntilAbove yX7_minutesUntilAbove ∈ BG := bg_t 436 (by decide +kernel) (by decide +kernel)
theorem q437 : Cond.code yX7_minutesUntilAbove cX7_minutesUntilAbove 6 (some .int) ∈ BG := bg_t 437 (by decide +kernel) (by decide +kernel)
theorem q438 : Cond.methodLink RX7 121 yX4_lastSlowPlace ∈ BG := bg_t 438 (by decide +kernel) (by decide +kernel)
theorem q439 : Cond.instanceMethod yX4_lastSlowPlace ∈ BG := bg_t 439 (by decide +kernel) (by decide +kernel)
theorem q440 : Cond.selects RX4 yX4_lastSlowPlace yX4_lastSlowPlace ∈ BG := bg_t 440 (by decide +kernel) (by decide +kernel)
theorem q441 : Cond.code yX4_lastSlowPlace cX4_lastSlowPlace 1 (some .int) ∈ BG := bg_t 441 (by decide +kernel) (by decide +kernel)
theorem q443 : Cond.static yX8_moved ∈ BG := bg_t 443 (by decide +kernel) (by decide +kernel)
theorem q444 : Cond.code yX8_moved cX8_moved 3 (some .int) ∈ BG := bg_t 444 (by decide +kernel) (by decide +kernel)
theorem q445 : Cond.methodLink RX7 128 yX4_isSoonAfterWind ∈ BG := bg_t 445 (by decide +kernel) (by decide +kernel)
theorem q446 : Cond.instanceMethod yX4_isSoonAfterWind ∈ BG := bg_t 446 (by decide +kernel) (by decide +kernel)
theorem q447 : Cond.selects RX4 yX4_isSoonAfterWind yX4_isSoonAfterWind ∈ BG := bg_t 447 (by decide +kernel) (by decide +kernel)
theorem q448 : Cond.code yX4_isSoonAfterWind cX4_isSoonAfterWind 3 (some .boolean) ∈ BG := bg_t 448 (by decide +kernel) (by decide +kernel)
theorem q450 : Cond.methodLink RX8 271 yX8_bitsOf ∈ BG := bg_t 450 (by decide +kernel) (by decide +kernel)
theorem q451 : Cond.static yX8_bitsOf ∈ BG := bg_t 451 (by decide +kernel) (by decide +kernel)
theorem q452 : Cond.code yX8_bitsOf cX8_bitsOf 8 (some .long) ∈ BG := bg_t 452 (by decide +kernel) (by decide +kernel)
theorem q453 : Cond.constantLong RX8 339 (1023) ∈ BG := bg_t 453 (by decide +kernel) (by decide +kernel)
theorem q454 : Cond.constantDouble RX8 341 (4611686018427387904 : UInt64) ∈ BG := bg_t 454 (by decide +kernel) (by decide +kernel)
theorem q455 : Cond.constantDouble RX8 343 (4841369599423283200 : UInt64) ∈ BG := bg_t 455 (by decide +kernel) (by decide +kernel)
theorem q456 : Cond.methodLink RX8 275 yX8_withBuffer ∈ BG := bg_t 456 (by decide +kernel) (by decide +kernel)
theorem q458 : Cond.instanceMethod yX8_withBuffer ∈ BG := bg_t 458 (by decide +kernel) (by decide +kernel)
theorem q459 : Cond.code yX8_withBuffer cX8_withBuffer 4 (some .long) ∈ BG := bg_t 459 (by decide +kernel) (by decide +kernel)
theorem q469 : Cond.methodLink RX8 47 yX8_isSetting ∈ BG := bg_t 469 (by decide +kernel) (by decide +kernel)
theorem q470 : Cond.static yX8_isSetting ∈ BG := bg_t 470 (by decide +kernel) (by decide +kernel)
theorem q471 : Cond.code yX8_isSetting cX8_isSetting 1 (some .boolean) ∈ BG := bg_t 471 (by decide +kernel) (by decide +kernel)
theorem q543 : Cond.fieldLink RX8 282 "NoisePost" "SETTING_LEAST" "[I" ∈ BG := bg_t 543 (by decide +kernel) (by decide +kernel)
theorem q545 : Cond.fieldLink RX8 285 "NoisePost" "SETTING_MOST" "[I" ∈ BG := bg_t 545 (by decide +kernel) (by decide +kernel)
theorem q567 : Cond.methodLink RX1 22 yX5_takeOver ∈ BG := bg_t 567 (by decide +kernel) (by decide +kernel)
theorem q568 : Cond.instanceMethod yX5_takeOver ∈ BG := bg_t 568 (by decide +kernel) (by decide +kernel)
theorem q569 : Cond.selects RX5 yX5_takeOver yX5_takeOver ∈ BG := bg_t 569 (by decide +kernel) (by decide +kernel)
theorem q570 : Cond.code yX5_takeOver cX5_takeOver 2 none ∈ BG := bg_t 570 (by decide +kernel) (by decide +kernel)
theorem q571 : Cond.methodLink RX5 45 arraycopyName ∈ BG := bg_t 571 (by decide +kernel) (by decide +kernel)
theorem q572 : Cond.static arraycopyName ∈ BG := bg_t 572 (by decide +kernel) (by decide +kernel)
theorem q573 : Cond.native arraycopyName ∈ BG := bg_t 573 (by decide +kernel) (by decide +kernel)
theorem q574 : Cond.methodLink RX1 29 Lib.Math.min.name ∈ BG := bg_t 574 (by decide +kernel) (by decide +kernel)
theorem q575 : Cond.static Lib.Math.min.name ∈ BG := bg_t 575 (by decide +kernel) (by decide +kernel)
theorem q576 : Cond.code Lib.Math.min.name Lib.Math.min.code 2 (some .int) ∈ BG := bg_t 576 (by decide +kernel) (by decide +kernel)
theorem q581 : Cond.methodLink RX8 231 yX7_takeSettings ∈ BG := bg_t 581 (by decide +kernel) (by decide +kernel)
theorem q582 : Cond.instanceMethod yX7_takeSettings ∈ BG := bg_t 582 (by decide +kernel) (by decide +kernel)
theorem q583 : Cond.selects RX7 yX7_takeSettings yX7_takeSettings ∈ BG := bg_t 583 (by decide +kernel) (by decide +kernel)
theorem q584 : Cond.code yX7_takeSettings cX7_takeSettings 2 none ∈ BG := bg_t 584 (by decide +kernel) (by decide +kernel)
theorem q585 : Cond.methodLink RX7 44 arraycopyName ∈ BG := bg_t 585 (by decide +kernel) (by decide +kernel)
theorem q586 : Cond.methodLink RX8 236 yX7_look ∈ BG := bg_t 586 (by decide +kernel) (by decide +kernel)
theorem q587 : Cond.instanceMethod yX7_look ∈ BG := bg_t 587 (by decide +kernel) (by decide +kernel)
theorem q588 : Cond.selects RX7 yX7_look yX7_look ∈ BG := bg_t 588 (by decide +kernel) (by decide +kernel)
theorem q589 : Cond.code yX7_look cX7_look 2 none ∈ BG := bg_t 589 (by decide +kernel) (by decide +kernel)
theorem q590 : Cond.methodLink RX7 50 yX4_moveArms ∈ BG := bg_t 590 (by decide +kernel) (by decide +kernel)
theorem q591 : Cond.instanceMethod yX4_moveArms ∈ BG := bg_t 591 (by decide +kernel) (by decide +kernel)
theorem q592 : Cond.selects RX4 yX4_moveArms yX4_moveArms ∈ BG := bg_t 592 (by decide +kernel) (by decide +kernel)
theorem q593 : Cond.code yX4_moveArms cX4_moveArms 6 none ∈ BG := bg_t 593 (by decide +kernel) (by decide +kernel)
theorem q595 : Cond.methodLink RX7 54 yX4_judge ∈ BG := bg_t 595 (by decide +kernel) (by decide +kernel)
theorem q596 : Cond.instanceMethod yX4_judge ∈ BG := bg_t 596 (by decide +kernel) (by decide +kernel)
theorem q597 : Cond.selects RX4 yX4_judge yX4_judge ∈ BG := bg_t 597 (by decide +kernel) (by decide +kernel)
theorem q598 : Cond.code yX4_judge cX4_judge 5 none ∈ BG := bg_t 598 (by decide +kernel) (by decide +kernel)
theorem q599 : Cond.methodLink RX4 43 yX4_isSoonAfterWind ∈ BG := bg_t 599 (by decide +kernel) (by decide +kernel)
theorem q601 : Cond.methodLink RX7 57 yX4_tally ∈ BG := bg_t 601 (by decide +kernel) (by decide +kernel)
theorem q602 : Cond.instanceMethod yX4_tally ∈ BG := bg_t 602 (by decide +kernel) (by decide +kernel)
theorem q603 : Cond.selects RX4 yX4_tally yX4_tally ∈ BG := bg_t 603 (by decide +kernel) (by decide +kernel)
theorem q604 : Cond.code yX4_tally cX4_tally 3 none ∈ BG := bg_t 604 (by decide +kernel) (by decide +kernel)
theorem q605 : Cond.methodLink RX4 60 yX4_isCounted ∈ BG := bg_t 605 (by decide +kernel) (by decide +kernel)
theorem q607 : Cond.methodLink RX7 61 yX0_find ∈ BG := bg_t 607 (by decide +kernel) (by decide +kernel)
theorem q608 : Cond.instanceMethod yX0_find ∈ BG := bg_t 608 (by decide +kernel) (by decide +kernel)
theorem q609 : Cond.selects RX0 yX0_find yX0_find ∈ BG := bg_t 609 (by decide +kernel) (by decide +kernel)
theorem q610 : Cond.code yX0_find cX0_find 7 none ∈ BG := bg_t 610 (by decide +kernel) (by decide +kernel)
theorem q611 : Cond.methodLink RX0 42 yX0_begin ∈ BG := bg_t 611 (by decide +kernel) (by decide +kernel)
theorem q613 : Cond.instanceMethod yX0_begin ∈ BG := bg_t 613 (by decide +kernel) (by decide +kernel)
theorem q614 : Cond.code yX0_begin cX0_begin 2 none ∈ BG := bg_t 614 (by decide +kernel) (by decide +kernel)
theorem q616 : Cond.methodLink RX0 56 yX0_extend ∈ BG := bg_t 616 (by decide +kernel) (by decide +kernel)
theorem q618 : Cond.instanceMethod yX0_extend ∈ BG := bg_t 618 (by decide +kernel) (by decide +kernel)
theorem q619 : Cond.code yX0_extend cX0_extend 5 none ∈ BG := bg_t 619 (by decide +kernel) (by decide +kernel)
theorem q620 : Cond.methodLink RX0 67 Lib.Math.max.name ∈ BG := bg_t 620 (by decide +kernel) (by decide +kernel)
theorem q621 : Cond.static Lib.Math.max.name ∈ BG := bg_t 621 (by decide +kernel) (by decide +kernel)
theorem q622 : Cond.code Lib.Math.max.name Lib.Math.max.code 2 (some .int) ∈ BG := bg_t 622 (by decide +kernel) (by decide +kernel)
theorem q623 : Cond.methodLink RX0 64 yX0_markOwners ∈ BG := bg_t 623 (by decide +kernel) (by decide +kernel)
theorem q625 : Cond.instanceMethod yX0_markOwners ∈ BG := bg_t 625 (by decide +kernel) (by decide +kernel)
theorem q626 : Cond.code yX0_markOwners cX0_markOwners 3 none ∈ BG := bg_t 626 (by decide +kernel) (by decide +kernel)
theorem q627 : Cond.methodLink RX7 65 yX3_match ∈ BG := bg_t 627 (by decide +kernel) (by decide +kernel)
theorem q628 : Cond.instanceMethod yX3_match ∈ BG := bg_t 628 (by decide +kernel) (by decide +kernel)
theorem q629 : Cond.selects RX3 yX3_match yX3_match ∈ BG := bg_t 629 (by decide +kernel) (by decide +kernel)
theorem q630 : Cond.code yX3_match cX3_match 8 none ∈ BG := bg_t 630 (by decide +kernel) (by decide +kernel)
theorem q631 : Cond.methodLink RX3 36 yX3_putInOrder ∈ BG := bg_t 631 (by decide +kernel) (by decide +kernel)
theorem q633 : Cond.instanceMethod yX3_putInOrder ∈ BG := bg_t 633 (by decide +kernel) (by decide +kernel)
theorem q634 : Cond.code yX3_putInOrder cX3_putInOrder 5 none ∈ BG := bg_t 634 (by decide +kernel) (by decide +kernel)
theorem q635 : Cond.methodLink RX3 43 yX3_bestFor ∈ BG := bg_t 635 (by decide +kernel) (by decide +kernel)
theorem q637 : Cond.instanceMethod yX3_bestFor ∈ BG := bg_t 637 (by decide +kernel) (by decide +kernel)
theorem q638 : Cond.code yX3_bestFor cX3_bestFor 8 (some .int) ∈ BG := bg_t 638 (by decide +kernel) (by decide +kernel)
theorem q639 : Cond.methodLink RX8 278 yX2_tally ∈ BG := bg_t 639 (by decide +kernel) (by decide +kernel)
theorem q640 : Cond.instanceMethod yX2_tally ∈ BG := bg_t 640 (by decide +kernel) (by decide +kernel)
theorem q641 : Cond.selects RX2 yX2_tally yX2_tally ∈ BG := bg_t 641 (by decide +kernel) (by decide +kernel)
theorem q642 : Cond.code yX2_tally cX2_tally 3 none ∈ BG := bg_t 642 (by decide +kernel) (by decide +kernel)
theorem q643 : Cond.methodLink RX2 21 yX4_isCounted ∈ BG := bg_t 643 (by decide +kernel) (by decide +kernel)
theorem q644 : Cond.methodLink RX2 28 yX2_highestReached ∈ BG := bg_t 644 (by decide +kernel) (by decide +kernel)
theorem q645 : Cond.static yX2_highestReached ∈ BG := bg_t 645 (by decide +kernel) (by decide +kernel)
theorem q646 : Cond.code yX2_highestReached cX2_highestReached 1 (some .int) ∈ BG := bg_t 646 (by decide +kernel) (by decide +kernel)
theorem q647 : Cond.methodLink RX2 32 Lib.Math.min.name ∈ BG := bg_t 647 (by decide +kernel) (by decide +kernel)
theorem q648 : Cond.methodLink RX2 38 Lib.Math.max.name ∈ BG := bg_t 648 (by decide +kernel) (by decide +kernel)
theorem q709 : Cond.methodLink RX5 39 Lib.Math.max.name ∈ BG := bg_t 709 (by decide +kernel) (by decide +kernel)
theorem q763 : Cond.methodLink RX6 41 yX6_read ∈ BG := bg_t 763 (by decide +kernel) (by decide +kernel)
theorem q863 : Cond.fieldLink RX9 61 "NoisePostModel" "thrown" "I" ∈ BG := bg_t 863 (by decide +kernel) (by decide +kernel)
theorem q864 : Cond.fieldLink RX9 7 "NoisePostModel" "z" "[I" ∈ BG := bg_t 864 (by decide +kernel) (by decide +kernel)
theorem q865 : Cond.fieldLink RX9 112 "NoisePostModel" "saves" "I" ∈ BG := bg_t 865 (by decide +kernel) (by decide +kernel)
theorem q866 : Cond.fieldLink RX9 13 "NoisePostModel" "saved" "[I" ∈ BG := bg_t 866 (by decide +kernel) (by decide +kernel)
theorem q867 : Cond.fieldLink RX9 141 "NoisePostModel" "length" "I" ∈ BG := bg_t 867 (by decide +kernel) (by decide +kernel)
theorem q868 : Cond.fieldLink RX9 16 "NoisePostModel" "text" "[I" ∈ BG := bg_t 868 (by decide +kernel) (by decide +kernel)
theorem q869 : Cond.fieldLink RX9 80 "NoisePostModel" "many" "I" ∈ BG := bg_t 869 (by decide +kernel) (by decide +kernel)
theorem q870 : Cond.fieldLink RX9 19 "NoisePostModel" "level" "[I" ∈ BG := bg_t 870 (by decide +kernel) (by decide +kernel)
theorem q871 : Cond.fieldLink RX9 22 "NoisePostModel" "wind" "[I" ∈ BG := bg_t 871 (by decide +kernel) (by decide +kernel)
theorem q872 : Cond.fieldLink RX9 25 "NoisePostModel" "fast" "[I" ∈ BG := bg_t 872 (by decide +kernel) (by decide +kernel)
theorem q873 : Cond.fieldLink RX9 28 "NoisePostModel" "slow" "[I" ∈ BG := bg_t 873 (by decide +kernel) (by decide +kernel)
theorem q874 : Cond.fieldLink RX9 31 "NoisePostModel" "why" "[I" ∈ BG := bg_t 874 (by decide +kernel) (by decide +kernel)
theorem q875 : Cond.fieldLink RX9 34 "NoisePostModel" "partOf" "[I" ∈ BG := bg_t 875 (by decide +kernel) (by decide +kernel)
theorem q876 : Cond.fieldLink RX9 83 "NoisePostModel" "exceedances" "I" ∈ BG := bg_t 876 (by decide +kernel) (by decide +kernel)
theorem q877 : Cond.fieldLink RX9 37 "NoisePostModel" "first" "[I" ∈ BG := bg_t 877 (by decide +kernel) (by decide +kernel)
theorem q878 : Cond.fieldLink RX9 40 "NoisePostModel" "last" "[I" ∈ BG := bg_t 878 (by decide +kernel) (by decide +kernel)
theorem q879 : Cond.fieldLink RX9 43 "NoisePostModel" "above" "[I" ∈ BG := bg_t 879 (by decide +kernel) (by decide +kernel)
theorem q880 : Cond.fieldLink RX9 46 "NoisePostModel" "peak" "[I" ∈ BG := bg_t 880 (by decide +kernel) (by decide +kernel)
theorem q881 : Cond.fieldLink RX9 49 "NoisePostModel" "weight" "[I" ∈ BG := bg_t 881 (by decide +kernel) (by decide +kernel)
theorem q882 : Cond.fieldLink RX9 86 "NoisePostModel" "goesOn" "Z" ∈ BG := bg_t 882 (by decide +kernel) (by decide +kernel)
theorem q883 : Cond.fieldLink RX9 52 "NoisePostModel" "matched" "[I" ∈ BG := bg_t 883 (by decide +kernel) (by decide +kernel)
theorem q884 : Cond.fieldLink RX9 55 "NoisePostModel" "complaintOf" "[I" ∈ BG := bg_t 884 (by decide +kernel) (by decide +kernel)
theorem q885 : Cond.fieldLink RX9 144 "NoisePostModel" "which" "I" ∈ BG := bg_t 885 (by decide +kernel) (by decide +kernel)
theorem q886 : Cond.fieldLink RX9 147 "NoisePostModel" "digits" "I" ∈ BG := bg_t 886 (by decide +kernel) (by decide +kernel)
theorem q887 : Cond.fieldLink RX9 150 "NoisePostModel" "parts" "I" ∈ BG := bg_t 887 (by decide +kernel) (by decide +kernel)
theorem q888 : Cond.fieldLink RX9 164 "NoisePostModel" "told" "I" ∈ BG := bg_t 888 (by decide +kernel) (by decide +kernel)
theorem q889 : Cond.fieldLink RX9 58 "NoisePostModel" "read" "[I" ∈ BG := bg_t 889 (by decide +kernel) (by decide +kernel)
theorem q890 : Cond.fieldLink RX9 224 "NoisePostModel" "h" "J" ∈ BG := bg_t 890 (by decide +kernel) (by decide +kernel)
theorem q891 : Cond.lays RX9 "NoisePostModel" "thrown" "I" ∈ BG := bg_t 891 (by decide +kernel) (by decide +kernel)
theorem q893 : Cond.laysFinal RX9 "NoisePostModel" "z" "[I" ∈ BG := bg_t 893 (by decide +kernel) (by decide +kernel)
theorem q895 : Cond.lays RX9 "NoisePostModel" "saves" "I" ∈ BG := bg_t 895 (by decide +kernel) (by decide +kernel)
theorem q897 : Cond.laysFinal RX9 "NoisePostModel" "saved" "[I" ∈ BG := bg_t 897 (by decide +kernel) (by decide +kernel)
theorem q899 : Cond.lays RX9 "NoisePostModel" "length" "I" ∈ BG := bg_t 899 (by decide +kernel) (by decide +kernel)
theorem q901 : Cond.laysFinal RX9 "NoisePostModel" "text" "[I" ∈ BG := bg_t 901 (by decide +kernel) (by decide +kernel)
theorem q903 : Cond.lays RX9 "NoisePostModel" "many" "I" ∈ BG := bg_t 903 (by decide +kernel) (by decide +kernel)
theorem q905 : Cond.laysFinal RX9 "NoisePostModel" "level" "[I" ∈ BG := bg_t 905 (by decide +kernel) (by decide +kernel)
theorem q907 : Cond.laysFinal RX9 "NoisePostModel" "wind" "[I" ∈ BG := bg_t 907 (by decide +kernel) (by decide +kernel)
theorem q909 : Cond.laysFinal RX9 "NoisePostModel" "fast" "[I" ∈ BG := bg_t 909 (by decide +kernel) (by decide +kernel)
theorem q911 : Cond.laysFinal RX9 "NoisePostModel" "slow" "[I" ∈ BG := bg_t 911 (by decide +kernel) (by decide +kernel)
theorem q913 : Cond.laysFinal RX9 "NoisePostModel" "why" "[I" ∈ BG := bg_t 913 (by decide +kernel) (by decide +kernel)
theorem q915 : Cond.laysFinal RX9 "NoisePostModel" "partOf" "[I" ∈ BG := bg_t 915 (by decide +kernel) (by decide +kernel)
theorem q917 : Cond.lays RX9 "NoisePostModel" "exceedances" "I" ∈ BG := bg_t 917 (by decide +kernel) (by decide +kernel)
theorem q919 : Cond.laysFinal RX9 "NoisePostModel" "first" "[I" ∈ BG := bg_t 919 (by decide +kernel) (by decide +kernel)
theorem q921 : Cond.laysFinal RX9 "NoisePostModel" "last" "[I" ∈ BG := bg_t 921 (by decide +kernel) (by decide +kernel)
theorem q923 : Cond.laysFinal RX9 "NoisePostModel" "above" "[I" ∈ BG := bg_t 923 (by decide +kernel) (by decide +kernel)
theorem q925 : Cond.laysFinal RX9 "NoisePostModel" "peak" "[I" ∈ BG := bg_t 925 (by decide +kernel) (by decide +kernel)
theorem q927 : Cond.laysFinal RX9 "NoisePostModel" "weight" "[I" ∈ BG := bg_t 927 (by decide +kernel) (by decide +kernel)
theorem q929 : Cond.lays RX9 "NoisePostModel" "goesOn" "Z" ∈ BG := bg_t 929 (by decide +kernel) (by decide +kernel)
theorem q931 : Cond.laysFinal RX9 "NoisePostModel" "matched" "[I" ∈ BG := bg_t 931 (by decide +kernel) (by decide +kernel)
theorem q933 : Cond.laysFinal RX9 "NoisePostModel" "complaintOf" "[I" ∈ BG := bg_t 933 (by decide +kernel) (by decide +kernel)
theorem q935 : Cond.lays RX9 "NoisePostModel" "which" "I" ∈ BG := bg_t 935 (by decide +kernel) (by decide +kernel)
theorem q937 : Cond.lays RX9 "NoisePostModel" "digits" "I" ∈ BG := bg_t 937 (by decide +kernel) (by decide +kernel)
theorem q939 : Cond.lays RX9 "NoisePostModel" "parts" "I" ∈ BG := bg_t 939 (by decide +kernel) (by decide +kernel)
theorem q941 : Cond.lays RX9 "NoisePostModel" "told" "I" ∈ BG := bg_t 941 (by decide +kernel) (by decide +kernel)
theorem q943 : Cond.laysFinal RX9 "NoisePostModel" "read" "[I" ∈ BG := bg_t 943 (by decide +kernel) (by decide +kernel)
theorem q945 : Cond.lays RX9 "NoisePostModel" "h" "J" ∈ BG := bg_t 945 (by decide +kernel) (by decide +kernel)
theorem q960 : Cond.methodLink RX9 115 yX9_isSetting ∈ BG := bg_t 960 (by decide +kernel) (by decide +kernel)
theorem q961 : Cond.static yX9_isSetting ∈ BG := bg_t 961 (by decide +kernel) (by decide +kernel)
theorem q962 : Cond.code yX9_isSetting cX9_isSetting 1 (some .boolean) ∈ BG := bg_t 962 (by decide +kernel) (by decide +kernel)
theorem q963 : Cond.methodLink RX9 65 yX9_within ∈ BG := bg_t 963 (by decide +kernel) (by decide +kernel)
theorem q964 : Cond.static yX9_within ∈ BG := bg_t 964 (by decide +kernel) (by decide +kernel)
theorem q965 : Cond.code yX9_within cX9_within 3 (some .boolean) ∈ BG := bg_t 965 (by decide +kernel) (by decide +kernel)
theorem q966 : Cond.methodLink RX9 118 yX9_isValue ∈ BG := bg_t 966 (by decide +kernel) (by decide +kernel)
theorem q967 : Cond.static yX9_isValue ∈ BG := bg_t 967 (by decide +kernel) (by decide +kernel)
theorem q968 : Cond.code yX9_isValue cX9_isValue 2 (some .boolean) ∈ BG := bg_t 968 (by decide +kernel) (by decide +kernel)
theorem q969 : Cond.methodLink RX9 122 yX9_save ∈ BG := bg_t 969 (by decide +kernel) (by decide +kernel)
theorem q971 : Cond.instanceMethod yX9_save ∈ BG := bg_t 971 (by decide +kernel) (by decide +kernel)
theorem q972 : Cond.code yX9_save cX9_save 2 none ∈ BG := bg_t 972 (by decide +kernel) (by decide +kernel)
theorem q973 : Cond.methodLink RX9 69 yX9_of ∈ BG := bg_t 973 (by decide +kernel) (by decide +kernel)
theorem q975 : Cond.instanceMethod yX9_of ∈ BG := bg_t 975 (by decide +kernel) (by decide +kernel)
theorem q976 : Cond.code yX9_of cX9_of 2 (some .int) ∈ BG := bg_t 976 (by decide +kernel) (by decide +kernel)
theorem q981 : Cond.methodLink RX9 125 yX9_isTold ∈ BG := bg_t 981 (by decide +kernel) (by decide +kernel)
theorem q982 : Cond.static yX9_isTold ∈ BG := bg_t 982 (by decide +kernel) (by decide +kernel)
theorem q983 : Cond.code yX9_isTold cX9_isTold 2 (some .boolean) ∈ BG := bg_t 983 (by decide +kernel) (by decide +kernel)
theorem q984 : Cond.methodLink RX9 128 yX9_bring ∈ BG := bg_t 984 (by decide +kernel) (by decide +kernel)
theorem q986 : Cond.instanceMethod yX9_bring ∈ BG := bg_t 986 (by decide +kernel) (by decide +kernel)
theorem q987 : Cond.code yX9_bring cX9_bring 5 none ∈ BG := bg_t 987 (by decide +kernel) (by decide +kernel)
theorem q992 : Cond.methodLink RX9 132 yX9_isMinute ∈ BG := bg_t 992 (by decide +kernel) (by decide +kernel)
theorem q994 : Cond.instanceMethod yX9_isMinute ∈ BG := bg_t 994 (by decide +kernel) (by decide +kernel)
theorem q995 : Cond.code yX9_isMinute cX9_isMinute 2 (some .boolean) ∈ BG := bg_t 995 (by decide +kernel) (by decide +kernel)
theorem q996 : Cond.methodLink RX9 106 yX9_lay ∈ BG := bg_t 996 (by decide +kernel) (by decide +kernel)
theorem q998 : Cond.instanceMethod yX9_lay ∈ BG := bg_t 998 (by decide +kernel) (by decide +kernel)
theorem q999 : Cond.code yX9_lay cX9_lay 5 none ∈ BG := bg_t 999 (by decide +kernel) (by decide +kernel)
theorem q1000 : Cond.methodLink RX9 97 yX9_layArms ∈ BG := bg_t 1000 (by decide +kernel) (by decide +kernel)
theorem q1002 : Cond.instanceMethod yX9_layArms ∈ BG := bg_t 1002 (by decide +kernel) (by decide +kernel)
theorem q1003 : Cond.code yX9_layArms cX9_layArms 4 none ∈ BG := bg_t 1003 (by decide +kernel) (by decide +kernel)
theorem q1004 : Cond.methodLink RX9 100 yX9_layExceedances ∈ BG := bg_t 1004 (by decide +kernel) (by decide +kernel)
theorem q1006 : Cond.instanceMethod yX9_layExceedances ∈ BG := bg_t 1006 (by decide +kernel) (by decide +kernel)
theorem q1007 : Cond.code yX9_layExceedances cX9_layExceedances 3 none ∈ BG := bg_t 1007 (by decide +kernel) (by decide +kernel)
theorem q1008 : Cond.methodLink RX9 90 yX9_whyNot ∈ BG := bg_t 1008 (by decide +kernel) (by decide +kernel)
theorem q1010 : Cond.instanceMethod yX9_whyNot ∈ BG := bg_t 1010 (by decide +kernel) (by decide +kernel)
theorem q1011 : Cond.code yX9_whyNot cX9_whyNot 3 (some .int) ∈ BG := bg_t 1011 (by decide +kernel) (by decide +kernel)
theorem q1012 : Cond.methodLink RX9 77 yX9_limitOf ∈ BG := bg_t 1012 (by decide +kernel) (by decide +kernel)
theorem q1014 : Cond.instanceMethod yX9_limitOf ∈ BG := bg_t 1014 (by decide +kernel) (by decide +kernel)
theorem q1015 : Cond.code yX9_limitOf cX9_limitOf 2 (some .int) ∈ BG := bg_t 1015 (by decide +kernel) (by decide +kernel)
theorem q1016 : Cond.methodLink RX9 73 yX9_isRest ∈ BG := bg_t 1016 (by decide +kernel) (by decide +kernel)
theorem q1018 : Cond.instanceMethod yX9_isRest ∈ BG := bg_t 1018 (by decide +kernel) (by decide +kernel)
theorem q1019 : Cond.code yX9_isRest cX9_isRest 2 (some .boolean) ∈ BG := bg_t 1019 (by decide +kernel) (by decide +kernel)
theorem q1020 : Cond.methodLink RX9 93 yX9_addMinute ∈ BG := bg_t 1020 (by decide +kernel) (by decide +kernel)
theorem q1022 : Cond.instanceMethod yX9_addMinute ∈ BG := bg_t 1022 (by decide +kernel) (by decide +kernel)
theorem q1023 : Cond.code yX9_addMinute cX9_addMinute 3 none ∈ BG := bg_t 1023 (by decide +kernel) (by decide +kernel)
theorem q1036 : Cond.methodLink RX9 135 yX9_isComplaint ∈ BG := bg_t 1036 (by decide +kernel) (by decide +kernel)
theorem q1038 : Cond.instanceMethod yX9_isComplaint ∈ BG := bg_t 1038 (by decide +kernel) (by decide +kernel)
theorem q1039 : Cond.code yX9_isComplaint cX9_isComplaint 2 (some .boolean) ∈ BG := bg_t 1039 (by decide +kernel) (by decide +kernel)
theorem q1040 : Cond.methodLink RX9 138 yX9_layAll ∈ BG := bg_t 1040 (by decide +kernel) (by decide +kernel)
theorem q1042 : Cond.instanceMethod yX9_layAll ∈ BG := bg_t 1042 (by decide +kernel) (by decide +kernel)
theorem q1043 : Cond.code yX9_layAll cX9_layAll 1 none ∈ BG := bg_t 1043 (by decide +kernel) (by decide +kernel)
theorem q1044 : Cond.methodLink RX9 109 yX9_layMatches ∈ BG := bg_t 1044 (by decide +kernel) (by decide +kernel)
theorem q1046 : Cond.instanceMethod yX9_layMatches ∈ BG := bg_t 1046 (by decide +kernel) (by decide +kernel)
theorem q1047 : Cond.code yX9_layMatches cX9_layMatches 3 none ∈ BG := bg_t 1047 (by decide +kernel) (by decide +kernel)
theorem q1048 : Cond.methodLink RX9 103 yX9_matchFor ∈ BG := bg_t 1048 (by decide +kernel) (by decide +kernel)
theorem q1050 : Cond.instanceMethod yX9_matchFor ∈ BG := bg_t 1050 (by decide +kernel) (by decide +kernel)
theorem q1051 : Cond.code yX9_matchFor cX9_matchFor 5 (some .int) ∈ BG := bg_t 1051 (by decide +kernel) (by decide +kernel)
theorem q1064 : Cond.methodLink RX9 173 yX9_readText ∈ BG := bg_t 1064 (by decide +kernel) (by decide +kernel)
theorem q1066 : Cond.instanceMethod yX9_readText ∈ BG := bg_t 1066 (by decide +kernel) (by decide +kernel)
theorem q1067 : Cond.code yX9_readText cX9_readText 2 (some .int) ∈ BG := bg_t 1067 (by decide +kernel) (by decide +kernel)
theorem q1068 : Cond.methodLink RX9 167 yX9_beginPart ∈ BG := bg_t 1068 (by decide +kernel) (by decide +kernel)
theorem q1070 : Cond.instanceMethod yX9_beginPart ∈ BG := bg_t 1070 (by decide +kernel) (by decide +kernel)
theorem q1071 : Cond.code yX9_beginPart cX9_beginPart 1 none ∈ BG := bg_t 1071 (by decide +kernel) (by decide +kernel)
theorem q1072 : Cond.methodLink RX9 170 yX9_takes ∈ BG := bg_t 1072 (by decide +kernel) (by decide +kernel)
theorem q1074 : Cond.instanceMethod yX9_takes ∈ BG := bg_t 1074 (by decide +kernel) (by decide +kernel)
theorem q1075 : Cond.code yX9_takes cX9_takes 3 (some .boolean) ∈ BG := bg_t 1075 (by decide +kernel) (by decide +kernel)
theorem q1076 : Cond.methodLink RX9 153 yX9_takesDigit ∈ BG := bg_t 1076 (by decide +kernel) (by decide +kernel)
theorem q1078 : Cond.instanceMethod yX9_takesDigit ∈ BG := bg_t 1078 (by decide +kernel) (by decide +kernel)
theorem q1079 : Cond.code yX9_takesDigit cX9_takesDigit 6 (some .boolean) ∈ BG := bg_t 1079 (by decide +kernel) (by decide +kernel)
theorem q1080 : Cond.methodLink RX9 156 yX9_goTo ∈ BG := bg_t 1080 (by decide +kernel) (by decide +kernel)
theorem q1082 : Cond.instanceMethod yX9_goTo ∈ BG := bg_t 1082 (by decide +kernel) (by decide +kernel)
theorem q1083 : Cond.code yX9_goTo cX9_goTo 2 none ∈ BG := bg_t 1083 (by decide +kernel) (by decide +kernel)
theorem q1084 : Cond.methodLink RX9 160 yX9_isPartOver ∈ BG := bg_t 1084 (by decide +kernel) (by decide +kernel)
theorem q1086 : Cond.instanceMethod yX9_isPartOver ∈ BG := bg_t 1086 (by decide +kernel) (by decide +kernel)
theorem q1087 : Cond.code yX9_isPartOver cX9_isPartOver 1 (some .boolean) ∈ BG := bg_t 1087 (by decide +kernel) (by decide +kernel)
theorem q1096 : Cond.methodLink RX9 177 yX9_minuteNow ∈ BG := bg_t 1096 (by decide +kernel) (by decide +kernel)
theorem q1098 : Cond.instanceMethod yX9_minuteNow ∈ BG := bg_t 1098 (by decide +kernel) (by decide +kernel)
theorem q1099 : Cond.code yX9_minuteNow cX9_minuteNow 3 (some .int) ∈ BG := bg_t 1099 (by decide +kernel) (by decide +kernel)
theorem q1104 : Cond.methodLink RX9 181 yX9_exceedanceNow ∈ BG := bg_t 1104 (by decide +kernel) (by decide +kernel)
theorem q1106 : Cond.instanceMethod yX9_exceedanceNow ∈ BG := bg_t 1106 (by decide +kernel) (by decide +kernel)
theorem q1107 : Cond.code yX9_exceedanceNow cX9_exceedanceNow 3 (some .int) ∈ BG := bg_t 1107 (by decide +kernel) (by decide +kernel)
theorem q1116 : Cond.methodLink RX9 184 yX9_countFrom ∈ BG := bg_t 1116 (by decide +kernel) (by decide +kernel)
theorem q1118 : Cond.instanceMethod yX9_countFrom ∈ BG := bg_t 1118 (by decide +kernel) (by decide +kernel)
theorem q1119 : Cond.code yX9_countFrom cX9_countFrom 4 (some .int) ∈ BG := bg_t 1119 (by decide +kernel) (by decide +kernel)
theorem q1124 : Cond.methodLink RX9 187 yX9_percentNow ∈ BG := bg_t 1124 (by decide +kernel) (by decide +kernel)
theorem q1126 : Cond.instanceMethod yX9_percentNow ∈ BG := bg_t 1126 (by decide +kernel) (by decide +kernel)
theorem q1127 : Cond.code yX9_percentNow cX9_percentNow 4 (some .int) ∈ BG := bg_t 1127 (by decide +kernel) (by decide +kernel)
theorem q1132 : Cond.methodLink RX9 205 yX9_counted ∈ BG := bg_t 1132 (by decide +kernel) (by decide +kernel)
theorem q1134 : Cond.instanceMethod yX9_counted ∈ BG := bg_t 1134 (by decide +kernel) (by decide +kernel)
theorem q1135 : Cond.code yX9_counted cX9_counted 2 (some .int) ∈ BG := bg_t 1135 (by decide +kernel) (by decide +kernel)
theorem q1136 : Cond.methodLink RX9 190 yX9_minutesBy ∈ BG := bg_t 1136 (by decide +kernel) (by decide +kernel)
theorem q1138 : Cond.instanceMethod yX9_minutesBy ∈ BG := bg_t 1138 (by decide +kernel) (by decide +kernel)
theorem q1139 : Cond.code yX9_minutesBy cX9_minutesBy 5 (some .int) ∈ BG := bg_t 1139 (by decide +kernel) (by decide +kernel)
theorem q1140 : Cond.methodLink RX9 193 yX9_restMany ∈ BG := bg_t 1140 (by decide +kernel) (by decide +kernel)
theorem q1142 : Cond.instanceMethod yX9_restMany ∈ BG := bg_t 1142 (by decide +kernel) (by decide +kernel)
theorem q1143 : Cond.code yX9_restMany cX9_restMany 3 (some .int) ∈ BG := bg_t 1143 (by decide +kernel) (by decide +kernel)
theorem q1144 : Cond.methodLink RX9 196 yX9_matchedMany ∈ BG := bg_t 1144 (by decide +kernel) (by decide +kernel)
theorem q1146 : Cond.instanceMethod yX9_matchedMany ∈ BG := bg_t 1146 (by decide +kernel) (by decide +kernel)
theorem q1147 : Cond.code yX9_matchedMany cX9_matchedMany 3 (some .int) ∈ BG := bg_t 1147 (by decide +kernel) (by decide +kernel)
theorem q1148 : Cond.methodLink RX9 199 yX9_weights ∈ BG := bg_t 1148 (by decide +kernel) (by decide +kernel)
theorem q1150 : Cond.instanceMethod yX9_weights ∈ BG := bg_t 1150 (by decide +kernel) (by decide +kernel)
theorem q1151 : Cond.code yX9_weights cX9_weights 3 (some .int) ∈ BG := bg_t 1151 (by decide +kernel) (by decide +kernel)
theorem q1152 : Cond.methodLink RX9 202 yX9_heaviest ∈ BG := bg_t 1152 (by decide +kernel) (by decide +kernel)
theorem q1154 : Cond.instanceMethod yX9_heaviest ∈ BG := bg_t 1154 (by decide +kernel) (by decide +kernel)
theorem q1155 : Cond.code yX9_heaviest cX9_heaviest 3 (some .int) ∈ BG := bg_t 1155 (by decide +kernel) (by decide +kernel)
theorem q1164 : Cond.methodLink RX9 208 yX9_withSetting ∈ BG := bg_t 1164 (by decide +kernel) (by decide +kernel)
theorem q1166 : Cond.instanceMethod yX9_withSetting ∈ BG := bg_t 1166 (by decide +kernel) (by decide +kernel)
theorem q1167 : Cond.code yX9_withSetting cX9_withSetting 6 (some .int) ∈ BG := bg_t 1167 (by decide +kernel) (by decide +kernel)
theorem q1172 : Cond.methodLink RX9 212 yX9_leastNow ∈ BG := bg_t 1172 (by decide +kernel) (by decide +kernel)
theorem q1174 : Cond.instanceMethod yX9_leastNow ∈ BG := bg_t 1174 (by decide +kernel) (by decide +kernel)
theorem q1175 : Cond.code yX9_leastNow cX9_leastNow 5 (some .int) ∈ BG := bg_t 1175 (by decide +kernel) (by decide +kernel)
theorem q1180 : Cond.methodLink RX9 215 yX9_aboveNow ∈ BG := bg_t 1180 (by decide +kernel) (by decide +kernel)
theorem q1182 : Cond.instanceMethod yX9_aboveNow ∈ BG := bg_t 1182 (by decide +kernel) (by decide +kernel)
theorem q1183 : Cond.code yX9_aboveNow cX9_aboveNow 3 (some .int) ∈ BG := bg_t 1183 (by decide +kernel) (by decide +kernel)
theorem q1188 : Cond.methodLink RX9 218 yX9_shareNow ∈ BG := bg_t 1188 (by decide +kernel) (by decide +kernel)
theorem q1190 : Cond.instanceMethod yX9_shareNow ∈ BG := bg_t 1190 (by decide +kernel) (by decide +kernel)
theorem q1191 : Cond.code yX9_shareNow cX9_shareNow 2 (some .double) ∈ BG := bg_t 1191 (by decide +kernel) (by decide +kernel)
theorem q1196 : Cond.constantLong RX9 232 (2161) ∈ BG := bg_t 1196 (by decide +kernel) (by decide +kernel)
theorem q1197 : Cond.methodLink RX9 234 yX9_mixAll ∈ BG := bg_t 1197 (by decide +kernel) (by decide +kernel)
theorem q1199 : Cond.instanceMethod yX9_mixAll ∈ BG := bg_t 1199 (by decide +kernel) (by decide +kernel)
theorem q1200 : Cond.code yX9_mixAll cX9_mixAll 2 none ∈ BG := bg_t 1200 (by decide +kernel) (by decide +kernel)
theorem q1201 : Cond.methodLink RX9 228 yX9_mix ∈ BG := bg_t 1201 (by decide +kernel) (by decide +kernel)
theorem q1203 : Cond.instanceMethod yX9_mix ∈ BG := bg_t 1203 (by decide +kernel) (by decide +kernel)
theorem q1204 : Cond.code yX9_mix cX9_mix 3 none ∈ BG := bg_t 1204 (by decide +kernel) (by decide +kernel)
theorem q1205 : Cond.constantLong RX9 222 (31) ∈ BG := bg_t 1205 (by decide +kernel) (by decide +kernel)
theorem q1206 : Cond.methodLink RX9 237 yJxe99ae_doubleToLongBits_ccdee ∈ BG := bg_t 1206 (by decide +kernel) (by decide +kernel)
theorem q1207 : Cond.static yJxe99ae_doubleToLongBits_ccdee ∈ BG := bg_t 1207 (by decide +kernel) (by decide +kernel)
theorem q1208 : Cond.code yJxe99ae_doubleToLongBits_ccdee cJxe99ae_doubleToLongBits_ccdee 2 (some .long) ∈ BG := bg_t 1208 (by decide +kernel) (by decide +kernel)
theorem q1209 : Cond.methodLink RJxe99ae 122 yJxe99ae_isNaN_b9ae7 ∈ BG := bg_t 1209 (by decide +kernel) (by decide +kernel)
theorem q1210 : Cond.static yJxe99ae_isNaN_b9ae7 ∈ BG := bg_t 1210 (by decide +kernel) (by decide +kernel)
theorem q1211 : Cond.code yJxe99ae_isNaN_b9ae7 cJxe99ae_isNaN_b9ae7 2 (some .boolean) ∈ BG := bg_t 1211 (by decide +kernel) (by decide +kernel)
theorem q1212 : Cond.methodLink RJxe99ae 134 ⟨"java/lang/Double", "doubleToRawLongBits", "(D)J"⟩ ∈ BG := bg_t 1212 (by decide +kernel) (by decide +kernel)
theorem q1213 : Cond.static ⟨"java/lang/Double", "doubleToRawLongBits", "(D)J"⟩ ∈ BG := bg_t 1213 (by decide +kernel) (by decide +kernel)
theorem q1214 : Cond.native ⟨"java/lang/Double", "doubleToRawLongBits", "(D)J"⟩ ∈ BG := bg_t 1214 (by decide +kernel) (by decide +kernel)
theorem q1215 : Cond.constantLong RJxe99ae 137 (9221120237041090560) ∈ BG := bg_t 1215 (by decide +kernel) (by decide +kernel)
theorem iX0 : ∀ x ∈ u_ws RX0 TX0 8, x ∈ BG := by
  intro x hx
  obtain ⟨k, hk, rfl⟩ := List.mem_map.mp hx
  have hk := List.mem_range.mp hk
  rcases (show k = 0 ∨ k = 1 ∨ k = 2 ∨ k = 3 ∨ k = 4 ∨ k = 5 ∨ k = 6 ∨ k = 7 by omega) with rfl | rfl | rfl | rfl | rfl | rfl | rfl | rfl
  · exact q213
  · exact q215
  · exact q217
  · exact q219
  · exact q221
  · exact q223
  · exact q225
  · exact q227
theorem iX1 : ∀ x ∈ u_ws RX1 TX1 3, x ∈ BG := by
  intro x hx
  obtain ⟨k, hk, rfl⟩ := List.mem_map.mp hx
  have hk := List.mem_range.mp hk
  rcases (show k = 0 ∨ k = 1 ∨ k = 2 by omega) with rfl | rfl | rfl
  · exact q87
  · exact q89
  · exact q91
theorem iX2 : ∀ x ∈ u_ws RX2 TX2 1, x ∈ BG := by
  intro x hx
  obtain ⟨k, hk, rfl⟩ := List.mem_map.mp hx
  have hk := List.mem_range.mp hk
  rcases (show k = 0 by omega) with rfl
  · exact q281
theorem iX3 : ∀ x ∈ u_ws RX3 TX3 5, x ∈ BG := by
  intro x hx
  obtain ⟨k, hk, rfl⟩ := List.mem_map.mp hx
  have hk := List.mem_range.mp hk
  rcases (show k = 0 ∨ k = 1 ∨ k = 2 ∨ k = 3 ∨ k = 4 by omega) with rfl | rfl | rfl | rfl | rfl
  · exact q245
  · exact q247
  · exact q249
  · exact q251
  · exact q253
theorem iX4 : ∀ x ∈ u_ws RX4 TX4 8, x ∈ BG := by
  intro x hx
  obtain ⟨k, hk, rfl⟩ := List.mem_map.mp hx
  have hk := List.mem_range.mp hk
  rcases (show k = 0 ∨ k = 1 ∨ k = 2 ∨ k = 3 ∨ k = 4 ∨ k = 5 ∨ k = 6 ∨ k = 7 by omega) with rfl | rfl | rfl | rfl | rfl | rfl | rfl | rfl
  · exact q169
  · exact q171
  · exact q173
  · exact q175
  · exact q177
  · exact q179
  · exact q181
  · exact q183
theorem iX5 : ∀ x ∈ u_ws RX5 TX5 6, x ∈ BG := by
  intro x hx
  obtain ⟨k, hk, rfl⟩ := List.mem_map.mp hx
  have hk := List.mem_range.mp hk
  rcases (show k = 0 ∨ k = 1 ∨ k = 2 ∨ k = 3 ∨ k = 4 ∨ k = 5 by omega) with rfl | rfl | rfl | rfl | rfl | rfl
  · exact q60
  · exact q62
  · exact q64
  · exact q66
  · exact q68
  · exact q70
theorem iX6 : ∀ x ∈ u_ws RX6 TX6 8, x ∈ BG := by
  intro x hx
  obtain ⟨k, hk, rfl⟩ := List.mem_map.mp hx
  have hk := List.mem_range.mp hk
  rcases (show k = 0 ∨ k = 1 ∨ k = 2 ∨ k = 3 ∨ k = 4 ∨ k = 5 ∨ k = 6 ∨ k = 7 by omega) with rfl | rfl | rfl | rfl | rfl | rfl | rfl | rfl
  · exact q114
  · exact q116
  · exact q118
  · exact q120
  · exact q122
  · exact q124
  · exact q126
  · exact q128
theorem iX7 : ∀ x ∈ u_ws RX7 TX7 4, x ∈ BG := by
  intro x hx
  obtain ⟨k, hk, rfl⟩ := List.mem_map.mp hx
  have hk := List.mem_range.mp hk
  rcases (show k = 0 ∨ k = 1 ∨ k = 2 ∨ k = 3 by omega) with rfl | rfl | rfl | rfl
  · exact q264
  · exact q266
  · exact q268
  · exact q270
theorem iX8 : ∀ x ∈ u_ws RX8 TX8 6, x ∈ BG := by
  intro x hx
  obtain ⟨k, hk, rfl⟩ := List.mem_map.mp hx
  have hk := List.mem_range.mp hk
  rcases (show k = 0 ∨ k = 1 ∨ k = 2 ∨ k = 3 ∨ k = 4 ∨ k = 5 by omega) with rfl | rfl | rfl | rfl | rfl | rfl
  · exact q290
  · exact q292
  · exact q294
  · exact q296
  · exact q298
  · exact q300
theorem iX9 : ∀ x ∈ u_ws RX9 TX9 28, x ∈ BG := by
  intro x hx
  obtain ⟨k, hk, rfl⟩ := List.mem_map.mp hx
  have hk := List.mem_range.mp hk
  rcases (show k = 0 ∨ k = 1 ∨ k = 2 ∨ k = 3 ∨ k = 4 ∨ k = 5 ∨ k = 6 ∨ k = 7 ∨ k = 8 ∨ k = 9 ∨ k = 10 ∨ k = 11 ∨ k = 12 ∨ k = 13 ∨ k = 14 ∨ k = 15 ∨ k = 16 ∨ k = 17 ∨ k = 18 ∨ k = 19 ∨ k = 20 ∨ k = 21 ∨ k = 22 ∨ k = 23 ∨ k = 24 ∨ k = 25 ∨ k = 26 ∨ k = 27 by omega) with rfl | rfl | rfl | rfl | rfl | rfl | rfl | rfl | rfl | rfl | rfl | rfl | rfl | rfl | rfl | rfl | rfl | rfl | rfl | rfl | rfl | rfl | rfl | rfl | rfl | rfl | rfl | rfl
  · exact q891
  · exact q893
  · exact q895
  · exact q897
  · exact q899
  · exact q901
  · exact q903
  · exact q905
  · exact q907
  · exact q909
  · exact q911
  · exact q913
  · exact q915
  · exact q917
  · exact q919
  · exact q921
  · exact q923
  · exact q925
  · exact q927
  · exact q929
  · exact q931
  · exact q933
  · exact q935
  · exact q937
  · exact q939
  · exact q941
  · exact q943
  · exact q945
theorem nw0 : Cond.methodLinkNest RX8 25 yX6_init RX8 ∈ NWL := List.mem_of_getElem? (i := 0) rfl
theorem nw1 : Cond.methodLinkNest RX8 32 yX7_init RX8 ∈ NWL := List.mem_of_getElem? (i := 1) rfl
theorem nw2 : Cond.methodLinkNest RX8 42 yX2_init RX8 ∈ NWL := List.mem_of_getElem? (i := 2) rfl
theorem nw3 : Cond.methodLinkNest RX8 9 yX5_init RX8 ∈ NWL := List.mem_of_getElem? (i := 3) rfl
theorem nw4 : Cond.methodLinkNest RX0 49 yX8_limitAt RX8 ∈ NWL := List.mem_of_getElem? (i := 4) rfl
theorem nw5 : Cond.methodLinkNest RX1 17 yX5_init RX8 ∈ NWL := List.mem_of_getElem? (i := 5) rfl
theorem nw6 : Cond.methodLinkNest RX4 36 yX8_moved RX8 ∈ NWL := List.mem_of_getElem? (i := 6) rfl
theorem nw7 : Cond.methodLinkNest RX4 47 yX8_limitAt RX8 ∈ NWL := List.mem_of_getElem? (i := 7) rfl
theorem nw8 : Cond.methodLinkNest RX4 64 yX8_isRest RX8 ∈ NWL := List.mem_of_getElem? (i := 8) rfl
theorem nw9 : Cond.methodLinkNest RX7 114 yX8_isRest RX8 ∈ NWL := List.mem_of_getElem? (i := 9) rfl
theorem nw10 : Cond.methodLinkNest RX7 124 yX8_moved RX8 ∈ NWL := List.mem_of_getElem? (i := 10) rfl
theorem nw11 : Cond.methodLinkNest RX7 131 yX8_limitAt RX8 ∈ NWL := List.mem_of_getElem? (i := 11) rfl
theorem nw12 : Cond.methodLinkNest RX7 25 yX4_init RX8 ∈ NWL := List.mem_of_getElem? (i := 12) rfl
theorem nw13 : Cond.methodLinkNest RX7 32 yX0_init RX8 ∈ NWL := List.mem_of_getElem? (i := 13) rfl
theorem nw14 : Cond.methodLinkNest RX7 39 yX3_init RX8 ∈ NWL := List.mem_of_getElem? (i := 14) rfl
theorem nw15 : Cond.fieldLinkNest RX5 18 RX8 (SNm 2) "[I" RX8 ∈ NWL := List.mem_of_getElem? (i := 15) rfl
theorem nw16 : Cond.fieldLinkNest RX6 62 RX8 (SNm 3) "[I" RX8 ∈ NWL := List.mem_of_getElem? (i := 16) rfl
theorem nw17 : Cond.fieldLinkNest RX6 65 RX8 (SNm 4) "[I" RX8 ∈ NWL := List.mem_of_getElem? (i := 17) rfl
theorem nw18 : Cond.fieldLinkNest RX7 9 RX8 (SNm 2) "[I" RX8 ∈ NWL := List.mem_of_getElem? (i := 18) rfl
theorem hd_X0_begin : yX0_begin.cls = RX0 ∧ yX0_begin.cls ≠ "java/lang/invoke/MethodHandle" ∧ yX0_begin.cls ≠ "java/lang/invoke/VarHandle" ∧ (parseMethodDescriptor yX0_begin.desc).map (fun d => d.parameters.length) = some 1 := by decide +kernel
theorem hd_J9_floorMod_7cf53 : yJ9_floorMod_7cf53.cls ≠ "java/lang/invoke/MethodHandle" ∧ yJ9_floorMod_7cf53.cls ≠ "java/lang/invoke/VarHandle" ∧ (parseMethodDescriptor yJ9_floorMod_7cf53.desc).map (fun d => d.parameters.length) = some 2 := by decide +kernel
theorem hd_X8_isRest : yX8_isRest.cls ≠ "java/lang/invoke/MethodHandle" ∧ yX8_isRest.cls ≠ "java/lang/invoke/VarHandle" ∧ (parseMethodDescriptor yX8_isRest.desc).map (fun d => d.parameters.length) = some 2 := by decide +kernel
theorem hd_X8_limitAt : yX8_limitAt.cls ≠ "java/lang/invoke/MethodHandle" ∧ yX8_limitAt.cls ≠ "java/lang/invoke/VarHandle" ∧ (parseMethodDescriptor yX8_limitAt.desc).map (fun d => d.parameters.length) = some 2 := by decide +kernel
theorem hd_X0_extend : yX0_extend.cls = RX0 ∧ yX0_extend.cls ≠ "java/lang/invoke/MethodHandle" ∧ yX0_extend.cls ≠ "java/lang/invoke/VarHandle" ∧ (parseMethodDescriptor yX0_extend.desc).map (fun d => d.parameters.length) = some 3 := by decide +kernel
theorem hd_X0_markOwners : yX0_markOwners.cls = RX0 ∧ yX0_markOwners.cls ≠ "java/lang/invoke/MethodHandle" ∧ yX0_markOwners.cls ≠ "java/lang/invoke/VarHandle" ∧ (parseMethodDescriptor yX0_markOwners.desc).map (fun d => d.parameters.length) = some 0 := by decide +kernel
theorem hd_X0_find : yX0_find.cls = RX0 ∧ yX0_find.cls ≠ "java/lang/invoke/MethodHandle" ∧ yX0_find.cls ≠ "java/lang/invoke/VarHandle" ∧ (parseMethodDescriptor yX0_find.desc).map (fun d => d.parameters.length) = some 2 := by decide +kernel
theorem hd_X0_weightOfAll : yX0_weightOfAll.cls = RX0 ∧ yX0_weightOfAll.cls ≠ "java/lang/invoke/MethodHandle" ∧ yX0_weightOfAll.cls ≠ "java/lang/invoke/VarHandle" ∧ (parseMethodDescriptor yX0_weightOfAll.desc).map (fun d => d.parameters.length) = some 0 := by decide +kernel
theorem hd_X0_heaviest : yX0_heaviest.cls = RX0 ∧ yX0_heaviest.cls ≠ "java/lang/invoke/MethodHandle" ∧ yX0_heaviest.cls ≠ "java/lang/invoke/VarHandle" ∧ (parseMethodDescriptor yX0_heaviest.desc).map (fun d => d.parameters.length) = some 0 := by decide +kernel
theorem hd_X5_takeOver : yX5_takeOver.cls = RX5 ∧ yX5_takeOver.cls ≠ "java/lang/invoke/MethodHandle" ∧ yX5_takeOver.cls ≠ "java/lang/invoke/VarHandle" ∧ (parseMethodDescriptor yX5_takeOver.desc).map (fun d => d.parameters.length) = some 1 := by decide +kernel
theorem hd_X1_keep : yX1_keep.cls = RX1 ∧ yX1_keep.cls ≠ "java/lang/invoke/MethodHandle" ∧ yX1_keep.cls ≠ "java/lang/invoke/VarHandle" ∧ (parseMethodDescriptor yX1_keep.desc).map (fun d => d.parameters.length) = some 1 := by decide +kernel
theorem hd_X1_giveBack : yX1_giveBack.cls = RX1 ∧ yX1_giveBack.cls ≠ "java/lang/invoke/MethodHandle" ∧ yX1_giveBack.cls ≠ "java/lang/invoke/VarHandle" ∧ (parseMethodDescriptor yX1_giveBack.desc).map (fun d => d.parameters.length) = some 1 := by decide +kernel
theorem hd_X4_isCounted : yX4_isCounted.cls = RX4 ∧ yX4_isCounted.cls ≠ "java/lang/invoke/MethodHandle" ∧ yX4_isCounted.cls ≠ "java/lang/invoke/VarHandle" ∧ (parseMethodDescriptor yX4_isCounted.desc).map (fun d => d.parameters.length) = some 1 := by decide +kernel
theorem hd_X2_highestReached : yX2_highestReached.cls ≠ "java/lang/invoke/MethodHandle" ∧ yX2_highestReached.cls ≠ "java/lang/invoke/VarHandle" ∧ (parseMethodDescriptor yX2_highestReached.desc).map (fun d => d.parameters.length) = some 1 := by decide +kernel
theorem hd_X2_tally : yX2_tally.cls = RX2 ∧ yX2_tally.cls ≠ "java/lang/invoke/MethodHandle" ∧ yX2_tally.cls ≠ "java/lang/invoke/VarHandle" ∧ (parseMethodDescriptor yX2_tally.desc).map (fun d => d.parameters.length) = some 1 := by decide +kernel
theorem hd_X2_levelOfPercent : yX2_levelOfPercent.cls = RX2 ∧ yX2_levelOfPercent.cls ≠ "java/lang/invoke/MethodHandle" ∧ yX2_levelOfPercent.cls ≠ "java/lang/invoke/VarHandle" ∧ (parseMethodDescriptor yX2_levelOfPercent.desc).map (fun d => d.parameters.length) = some 2 := by decide +kernel
theorem hd_X3_putInOrder : yX3_putInOrder.cls = RX3 ∧ yX3_putInOrder.cls ≠ "java/lang/invoke/MethodHandle" ∧ yX3_putInOrder.cls ≠ "java/lang/invoke/VarHandle" ∧ (parseMethodDescriptor yX3_putInOrder.desc).map (fun d => d.parameters.length) = some 1 := by decide +kernel
theorem hd_X3_bestFor : yX3_bestFor.cls = RX3 ∧ yX3_bestFor.cls ≠ "java/lang/invoke/MethodHandle" ∧ yX3_bestFor.cls ≠ "java/lang/invoke/VarHandle" ∧ (parseMethodDescriptor yX3_bestFor.desc).map (fun d => d.parameters.length) = some 3 := by decide +kernel
theorem hd_X3_match : yX3_match.cls = RX3 ∧ yX3_match.cls ≠ "java/lang/invoke/MethodHandle" ∧ yX3_match.cls ≠ "java/lang/invoke/VarHandle" ∧ (parseMethodDescriptor yX3_match.desc).map (fun d => d.parameters.length) = some 3 := by decide +kernel
theorem hd_X8_moved : yX8_moved.cls ≠ "java/lang/invoke/MethodHandle" ∧ yX8_moved.cls ≠ "java/lang/invoke/VarHandle" ∧ (parseMethodDescriptor yX8_moved.desc).map (fun d => d.parameters.length) = some 3 := by decide +kernel
theorem hd_X4_moveArms : yX4_moveArms.cls = RX4 ∧ yX4_moveArms.cls ≠ "java/lang/invoke/MethodHandle" ∧ yX4_moveArms.cls ≠ "java/lang/invoke/VarHandle" ∧ (parseMethodDescriptor yX4_moveArms.desc).map (fun d => d.parameters.length) = some 2 := by decide +kernel
theorem hd_X4_isSoonAfterWind : yX4_isSoonAfterWind.cls = RX4 ∧ yX4_isSoonAfterWind.cls ≠ "java/lang/invoke/MethodHandle" ∧ yX4_isSoonAfterWind.cls ≠ "java/lang/invoke/VarHandle" ∧ (parseMethodDescriptor yX4_isSoonAfterWind.desc).map (fun d => d.parameters.length) = some 2 := by decide +kernel
theorem hd_X4_judge : yX4_judge.cls = RX4 ∧ yX4_judge.cls ≠ "java/lang/invoke/MethodHandle" ∧ yX4_judge.cls ≠ "java/lang/invoke/VarHandle" ∧ (parseMethodDescriptor yX4_judge.desc).map (fun d => d.parameters.length) = some 2 := by decide +kernel
theorem hd_X4_tally : yX4_tally.cls = RX4 ∧ yX4_tally.cls ≠ "java/lang/invoke/MethodHandle" ∧ yX4_tally.cls ≠ "java/lang/invoke/VarHandle" ∧ (parseMethodDescriptor yX4_tally.desc).map (fun d => d.parameters.length) = some 1 := by decide +kernel
theorem hd_X4_lastSlowPlace : yX4_lastSlowPlace.cls = RX4 ∧ yX4_lastSlowPlace.cls ≠ "java/lang/invoke/MethodHandle" ∧ yX4_lastSlowPlace.cls ≠ "java/lang/invoke/VarHandle" ∧ (parseMethodDescriptor yX4_lastSlowPlace.desc).map (fun d => d.parameters.length) = some 0 := by decide +kernel
theorem hd_X4_shareAbove : yX4_shareAbove.cls = RX4 ∧ yX4_shareAbove.cls ≠ "java/lang/invoke/MethodHandle" ∧ yX4_shareAbove.cls ≠ "java/lang/invoke/VarHandle" ∧ (parseMethodDescriptor yX4_shareAbove.desc).map (fun d => d.parameters.length) = some 0 := by decide +kernel
theorem hd_X5_hasMinute : yX5_hasMinute.cls = RX5 ∧ yX5_hasMinute.cls ≠ "java/lang/invoke/MethodHandle" ∧ yX5_hasMinute.cls ≠ "java/lang/invoke/VarHandle" ∧ (parseMethodDescriptor yX5_hasMinute.desc).map (fun d => d.parameters.length) = some 1 := by decide +kernel
theorem hd_X5_hasComplaint : yX5_hasComplaint.cls = RX5 ∧ yX5_hasComplaint.cls ≠ "java/lang/invoke/MethodHandle" ∧ yX5_hasComplaint.cls ≠ "java/lang/invoke/VarHandle" ∧ (parseMethodDescriptor yX5_hasComplaint.desc).map (fun d => d.parameters.length) = some 1 := by decide +kernel
theorem hd_X5_addMinutes : yX5_addMinutes.cls = RX5 ∧ yX5_addMinutes.cls ≠ "java/lang/invoke/MethodHandle" ∧ yX5_addMinutes.cls ≠ "java/lang/invoke/VarHandle" ∧ (parseMethodDescriptor yX5_addMinutes.desc).map (fun d => d.parameters.length) = some 3 := by decide +kernel
theorem hd_X5_dropMinutes : yX5_dropMinutes.cls = RX5 ∧ yX5_dropMinutes.cls ≠ "java/lang/invoke/MethodHandle" ∧ yX5_dropMinutes.cls ≠ "java/lang/invoke/VarHandle" ∧ (parseMethodDescriptor yX5_dropMinutes.desc).map (fun d => d.parameters.length) = some 1 := by decide +kernel
theorem hd_X5_addComplaint : yX5_addComplaint.cls = RX5 ∧ yX5_addComplaint.cls ≠ "java/lang/invoke/MethodHandle" ∧ yX5_addComplaint.cls ≠ "java/lang/invoke/VarHandle" ∧ (parseMethodDescriptor yX5_addComplaint.desc).map (fun d => d.parameters.length) = some 1 := by decide +kernel
theorem hd_X5_dropComplaint : yX5_dropComplaint.cls = RX5 ∧ yX5_dropComplaint.cls ≠ "java/lang/invoke/MethodHandle" ∧ yX5_dropComplaint.cls ≠ "java/lang/invoke/VarHandle" ∧ (parseMethodDescriptor yX5_dropComplaint.desc).map (fun d => d.parameters.length) = some 1 := by decide +kernel
theorem hd_X6_addCode : yX6_addCode.cls = RX6 ∧ yX6_addCode.cls ≠ "java/lang/invoke/MethodHandle" ∧ yX6_addCode.cls ≠ "java/lang/invoke/VarHandle" ∧ (parseMethodDescriptor yX6_addCode.desc).map (fun d => d.parameters.length) = some 1 := by decide +kernel
theorem hd_X6_beginNumber : yX6_beginNumber.cls = RX6 ∧ yX6_beginNumber.cls ≠ "java/lang/invoke/MethodHandle" ∧ yX6_beginNumber.cls ≠ "java/lang/invoke/VarHandle" ∧ (parseMethodDescriptor yX6_beginNumber.desc).map (fun d => d.parameters.length) = some 1 := by decide +kernel
theorem hd_X6_beginPart : yX6_beginPart.cls = RX6 ∧ yX6_beginPart.cls ≠ "java/lang/invoke/MethodHandle" ∧ yX6_beginPart.cls ≠ "java/lang/invoke/VarHandle" ∧ (parseMethodDescriptor yX6_beginPart.desc).map (fun d => d.parameters.length) = some 0 := by decide +kernel
theorem hd_X6_takesDigit : yX6_takesDigit.cls = RX6 ∧ yX6_takesDigit.cls ≠ "java/lang/invoke/MethodHandle" ∧ yX6_takesDigit.cls ≠ "java/lang/invoke/VarHandle" ∧ (parseMethodDescriptor yX6_takesDigit.desc).map (fun d => d.parameters.length) = some 1 := by decide +kernel
theorem hd_X6_numberIsWhole : yX6_numberIsWhole.cls = RX6 ∧ yX6_numberIsWhole.cls ≠ "java/lang/invoke/MethodHandle" ∧ yX6_numberIsWhole.cls ≠ "java/lang/invoke/VarHandle" ∧ (parseMethodDescriptor yX6_numberIsWhole.desc).map (fun d => d.parameters.length) = some 0 := by decide +kernel
theorem hd_X6_endPart : yX6_endPart.cls = RX6 ∧ yX6_endPart.cls ≠ "java/lang/invoke/MethodHandle" ∧ yX6_endPart.cls ≠ "java/lang/invoke/VarHandle" ∧ (parseMethodDescriptor yX6_endPart.desc).map (fun d => d.parameters.length) = some 0 := by decide +kernel
theorem hd_X6_takes : yX6_takes.cls = RX6 ∧ yX6_takes.cls ≠ "java/lang/invoke/MethodHandle" ∧ yX6_takes.cls ≠ "java/lang/invoke/VarHandle" ∧ (parseMethodDescriptor yX6_takes.desc).map (fun d => d.parameters.length) = some 1 := by decide +kernel
theorem hd_X6_read : yX6_read.cls = RX6 ∧ yX6_read.cls ≠ "java/lang/invoke/MethodHandle" ∧ yX6_read.cls ≠ "java/lang/invoke/VarHandle" ∧ (parseMethodDescriptor yX6_read.desc).map (fun d => d.parameters.length) = some 0 := by decide +kernel
theorem hd_X6_isWhole : yX6_isWhole.cls = RX6 ∧ yX6_isWhole.cls ≠ "java/lang/invoke/MethodHandle" ∧ yX6_isWhole.cls ≠ "java/lang/invoke/VarHandle" ∧ (parseMethodDescriptor yX6_isWhole.desc).map (fun d => d.parameters.length) = some 0 := by decide +kernel
theorem hd_X6_minutesInParts : yX6_minutesInParts.cls = RX6 ∧ yX6_minutesInParts.cls ≠ "java/lang/invoke/MethodHandle" ∧ yX6_minutesInParts.cls ≠ "java/lang/invoke/VarHandle" ∧ (parseMethodDescriptor yX6_minutesInParts.desc).map (fun d => d.parameters.length) = some 0 := by decide +kernel
theorem hd_X7_takeSettings : yX7_takeSettings.cls = RX7 ∧ yX7_takeSettings.cls ≠ "java/lang/invoke/MethodHandle" ∧ yX7_takeSettings.cls ≠ "java/lang/invoke/VarHandle" ∧ (parseMethodDescriptor yX7_takeSettings.desc).map (fun d => d.parameters.length) = some 1 := by decide +kernel
theorem hd_X7_look : yX7_look.cls = RX7 ∧ yX7_look.cls ≠ "java/lang/invoke/MethodHandle" ∧ yX7_look.cls ≠ "java/lang/invoke/VarHandle" ∧ (parseMethodDescriptor yX7_look.desc).map (fun d => d.parameters.length) = some 1 := by decide +kernel
theorem hd_X7_numberOf : yX7_numberOf.cls = RX7 ∧ yX7_numberOf.cls ≠ "java/lang/invoke/MethodHandle" ∧ yX7_numberOf.cls ≠ "java/lang/invoke/VarHandle" ∧ (parseMethodDescriptor yX7_numberOf.desc).map (fun d => d.parameters.length) = some 1 := by decide +kernel
theorem hd_X7_isAboveWithLimit : yX7_isAboveWithLimit.cls = RX7 ∧ yX7_isAboveWithLimit.cls ≠ "java/lang/invoke/MethodHandle" ∧ yX7_isAboveWithLimit.cls ≠ "java/lang/invoke/VarHandle" ∧ (parseMethodDescriptor yX7_isAboveWithLimit.desc).map (fun d => d.parameters.length) = some 2 := by decide +kernel
theorem hd_X7_exceedancesWithLimit : yX7_exceedancesWithLimit.cls = RX7 ∧ yX7_exceedancesWithLimit.cls ≠ "java/lang/invoke/MethodHandle" ∧ yX7_exceedancesWithLimit.cls ≠ "java/lang/invoke/VarHandle" ∧ (parseMethodDescriptor yX7_exceedancesWithLimit.desc).map (fun d => d.parameters.length) = some 1 := by decide +kernel
theorem hd_X7_leastLimitFor : yX7_leastLimitFor.cls = RX7 ∧ yX7_leastLimitFor.cls ≠ "java/lang/invoke/MethodHandle" ∧ yX7_leastLimitFor.cls ≠ "java/lang/invoke/VarHandle" ∧ (parseMethodDescriptor yX7_leastLimitFor.desc).map (fun d => d.parameters.length) = some 1 := by decide +kernel
theorem hd_X7_minutesUntilAbove : yX7_minutesUntilAbove.cls = RX7 ∧ yX7_minutesUntilAbove.cls ≠ "java/lang/invoke/MethodHandle" ∧ yX7_minutesUntilAbove.cls ≠ "java/lang/invoke/VarHandle" ∧ (parseMethodDescriptor yX7_minutesUntilAbove.desc).map (fun d => d.parameters.length) = some 1 := by decide +kernel
theorem hd_X8_isSetting : yX8_isSetting.cls ≠ "java/lang/invoke/MethodHandle" ∧ yX8_isSetting.cls ≠ "java/lang/invoke/VarHandle" ∧ (parseMethodDescriptor yX8_isSetting.desc).map (fun d => d.parameters.length) = some 1 := by decide +kernel
theorem hd_X8_fitsSetting : yX8_fitsSetting.cls ≠ "java/lang/invoke/MethodHandle" ∧ yX8_fitsSetting.cls ≠ "java/lang/invoke/VarHandle" ∧ (parseMethodDescriptor yX8_fitsSetting.desc).map (fun d => d.parameters.length) = some 2 := by decide +kernel
theorem hd_X8_readAgain : yX8_readAgain.cls = RX8 ∧ yX8_readAgain.cls ≠ "java/lang/invoke/MethodHandle" ∧ yX8_readAgain.cls ≠ "java/lang/invoke/VarHandle" ∧ (parseMethodDescriptor yX8_readAgain.desc).map (fun d => d.parameters.length) = some 0 := by decide +kernel
theorem hd_X8_isLevel : yX8_isLevel.cls ≠ "java/lang/invoke/MethodHandle" ∧ yX8_isLevel.cls ≠ "java/lang/invoke/VarHandle" ∧ (parseMethodDescriptor yX8_isLevel.desc).map (fun d => d.parameters.length) = some 1 := by decide +kernel
theorem hd_X8_isWind : yX8_isWind.cls ≠ "java/lang/invoke/MethodHandle" ∧ yX8_isWind.cls ≠ "java/lang/invoke/VarHandle" ∧ (parseMethodDescriptor yX8_isWind.desc).map (fun d => d.parameters.length) = some 1 := by decide +kernel
theorem hd_X8_clearBuffer : yX8_clearBuffer.cls = RX8 ∧ yX8_clearBuffer.cls ≠ "java/lang/invoke/MethodHandle" ∧ yX8_clearBuffer.cls ≠ "java/lang/invoke/VarHandle" ∧ (parseMethodDescriptor yX8_clearBuffer.desc).map (fun d => d.parameters.length) = some 0 := by decide +kernel
theorem hd_X8_firstError : yX8_firstError.cls = RX8 ∧ yX8_firstError.cls ≠ "java/lang/invoke/MethodHandle" ∧ yX8_firstError.cls ≠ "java/lang/invoke/VarHandle" ∧ (parseMethodDescriptor yX8_firstError.desc).map (fun d => d.parameters.length) = some 0 := by decide +kernel
theorem hd_X8_minuteProperty : yX8_minuteProperty.cls = RX8 ∧ yX8_minuteProperty.cls ≠ "java/lang/invoke/MethodHandle" ∧ yX8_minuteProperty.cls ≠ "java/lang/invoke/VarHandle" ∧ (parseMethodDescriptor yX8_minuteProperty.desc).map (fun d => d.parameters.length) = some 2 := by decide +kernel
theorem hd_X8_exceedanceProperty : yX8_exceedanceProperty.cls = RX8 ∧ yX8_exceedanceProperty.cls ≠ "java/lang/invoke/MethodHandle" ∧ yX8_exceedanceProperty.cls ≠ "java/lang/invoke/VarHandle" ∧ (parseMethodDescriptor yX8_exceedanceProperty.desc).map (fun d => d.parameters.length) = some 2 := by decide +kernel
theorem hd_X8_complaintProperty : yX8_complaintProperty.cls = RX8 ∧ yX8_complaintProperty.cls ≠ "java/lang/invoke/MethodHandle" ∧ yX8_complaintProperty.cls ≠ "java/lang/invoke/VarHandle" ∧ (parseMethodDescriptor yX8_complaintProperty.desc).map (fun d => d.parameters.length) = some 2 := by decide +kernel
theorem hd_X8_numberOf : yX8_numberOf.cls = RX8 ∧ yX8_numberOf.cls ≠ "java/lang/invoke/MethodHandle" ∧ yX8_numberOf.cls ≠ "java/lang/invoke/VarHandle" ∧ (parseMethodDescriptor yX8_numberOf.desc).map (fun d => d.parameters.length) = some 1 := by decide +kernel
theorem hd_X8_share : yX8_share.cls = RX8 ∧ yX8_share.cls ≠ "java/lang/invoke/MethodHandle" ∧ yX8_share.cls ≠ "java/lang/invoke/VarHandle" ∧ (parseMethodDescriptor yX8_share.desc).map (fun d => d.parameters.length) = some 0 := by decide +kernel
theorem hd_X8_mixed : yX8_mixed.cls ≠ "java/lang/invoke/MethodHandle" ∧ yX8_mixed.cls ≠ "java/lang/invoke/VarHandle" ∧ (parseMethodDescriptor yX8_mixed.desc).map (fun d => d.parameters.length) = some 2 := by decide +kernel
theorem hd_X8_withMinutes : yX8_withMinutes.cls = RX8 ∧ yX8_withMinutes.cls ≠ "java/lang/invoke/MethodHandle" ∧ yX8_withMinutes.cls ≠ "java/lang/invoke/VarHandle" ∧ (parseMethodDescriptor yX8_withMinutes.desc).map (fun d => d.parameters.length) = some 1 := by decide +kernel
theorem hd_X8_withExceedances : yX8_withExceedances.cls = RX8 ∧ yX8_withExceedances.cls ≠ "java/lang/invoke/MethodHandle" ∧ yX8_withExceedances.cls ≠ "java/lang/invoke/VarHandle" ∧ (parseMethodDescriptor yX8_withExceedances.desc).map (fun d => d.parameters.length) = some 1 := by decide +kernel
theorem hd_X8_withComplaints : yX8_withComplaints.cls = RX8 ∧ yX8_withComplaints.cls ≠ "java/lang/invoke/MethodHandle" ∧ yX8_withComplaints.cls ≠ "java/lang/invoke/VarHandle" ∧ (parseMethodDescriptor yX8_withComplaints.desc).map (fun d => d.parameters.length) = some 1 := by decide +kernel
theorem hd_X8_withLevels : yX8_withLevels.cls = RX8 ∧ yX8_withLevels.cls ≠ "java/lang/invoke/MethodHandle" ∧ yX8_withLevels.cls ≠ "java/lang/invoke/VarHandle" ∧ (parseMethodDescriptor yX8_withLevels.desc).map (fun d => d.parameters.length) = some 1 := by decide +kernel
theorem hd_X8_bitsOf : yX8_bitsOf.cls ≠ "java/lang/invoke/MethodHandle" ∧ yX8_bitsOf.cls ≠ "java/lang/invoke/VarHandle" ∧ (parseMethodDescriptor yX8_bitsOf.desc).map (fun d => d.parameters.length) = some 1 := by decide +kernel
theorem hd_X8_withBuffer : yX8_withBuffer.cls = RX8 ∧ yX8_withBuffer.cls ≠ "java/lang/invoke/MethodHandle" ∧ yX8_withBuffer.cls ≠ "java/lang/invoke/VarHandle" ∧ (parseMethodDescriptor yX8_withBuffer.desc).map (fun d => d.parameters.length) = some 1 := by decide +kernel
theorem hd_X8_digest : yX8_digest.cls = RX8 ∧ yX8_digest.cls ≠ "java/lang/invoke/MethodHandle" ∧ yX8_digest.cls ≠ "java/lang/invoke/VarHandle" ∧ (parseMethodDescriptor yX8_digest.desc).map (fun d => d.parameters.length) = some 0 := by decide +kernel
theorem hd_X9_thrown : yX9_thrown.cls = RX9 ∧ yX9_thrown.cls ≠ "java/lang/invoke/MethodHandle" ∧ yX9_thrown.cls ≠ "java/lang/invoke/VarHandle" ∧ (parseMethodDescriptor yX9_thrown.desc).map (fun d => d.parameters.length) = some 0 := by decide +kernel
theorem hd_X9_within : yX9_within.cls ≠ "java/lang/invoke/MethodHandle" ∧ yX9_within.cls ≠ "java/lang/invoke/VarHandle" ∧ (parseMethodDescriptor yX9_within.desc).map (fun d => d.parameters.length) = some 3 := by decide +kernel
theorem hd_X9_of : yX9_of.cls = RX9 ∧ yX9_of.cls ≠ "java/lang/invoke/MethodHandle" ∧ yX9_of.cls ≠ "java/lang/invoke/VarHandle" ∧ (parseMethodDescriptor yX9_of.desc).map (fun d => d.parameters.length) = some 1 := by decide +kernel
theorem hd_X9_isMinute : yX9_isMinute.cls = RX9 ∧ yX9_isMinute.cls ≠ "java/lang/invoke/MethodHandle" ∧ yX9_isMinute.cls ≠ "java/lang/invoke/VarHandle" ∧ (parseMethodDescriptor yX9_isMinute.desc).map (fun d => d.parameters.length) = some 1 := by decide +kernel
theorem hd_X9_isRest : yX9_isRest.cls = RX9 ∧ yX9_isRest.cls ≠ "java/lang/invoke/MethodHandle" ∧ yX9_isRest.cls ≠ "java/lang/invoke/VarHandle" ∧ (parseMethodDescriptor yX9_isRest.desc).map (fun d => d.parameters.length) = some 1 := by decide +kernel
theorem hd_X9_limitOf : yX9_limitOf.cls = RX9 ∧ yX9_limitOf.cls ≠ "java/lang/invoke/MethodHandle" ∧ yX9_limitOf.cls ≠ "java/lang/invoke/VarHandle" ∧ (parseMethodDescriptor yX9_limitOf.desc).map (fun d => d.parameters.length) = some 1 := by decide +kernel
theorem hd_X9_whyNot : yX9_whyNot.cls = RX9 ∧ yX9_whyNot.cls ≠ "java/lang/invoke/MethodHandle" ∧ yX9_whyNot.cls ≠ "java/lang/invoke/VarHandle" ∧ (parseMethodDescriptor yX9_whyNot.desc).map (fun d => d.parameters.length) = some 1 := by decide +kernel
theorem hd_X9_layArms : yX9_layArms.cls = RX9 ∧ yX9_layArms.cls ≠ "java/lang/invoke/MethodHandle" ∧ yX9_layArms.cls ≠ "java/lang/invoke/VarHandle" ∧ (parseMethodDescriptor yX9_layArms.desc).map (fun d => d.parameters.length) = some 0 := by decide +kernel
theorem hd_X9_addMinute : yX9_addMinute.cls = RX9 ∧ yX9_addMinute.cls ≠ "java/lang/invoke/MethodHandle" ∧ yX9_addMinute.cls ≠ "java/lang/invoke/VarHandle" ∧ (parseMethodDescriptor yX9_addMinute.desc).map (fun d => d.parameters.length) = some 2 := by decide +kernel
theorem hd_X9_layExceedances : yX9_layExceedances.cls = RX9 ∧ yX9_layExceedances.cls ≠ "java/lang/invoke/MethodHandle" ∧ yX9_layExceedances.cls ≠ "java/lang/invoke/VarHandle" ∧ (parseMethodDescriptor yX9_layExceedances.desc).map (fun d => d.parameters.length) = some 0 := by decide +kernel
theorem hd_X9_lay : yX9_lay.cls = RX9 ∧ yX9_lay.cls ≠ "java/lang/invoke/MethodHandle" ∧ yX9_lay.cls ≠ "java/lang/invoke/VarHandle" ∧ (parseMethodDescriptor yX9_lay.desc).map (fun d => d.parameters.length) = some 2 := by decide +kernel
theorem hd_X9_matchFor : yX9_matchFor.cls = RX9 ∧ yX9_matchFor.cls ≠ "java/lang/invoke/MethodHandle" ∧ yX9_matchFor.cls ≠ "java/lang/invoke/VarHandle" ∧ (parseMethodDescriptor yX9_matchFor.desc).map (fun d => d.parameters.length) = some 1 := by decide +kernel
theorem hd_X9_layMatches : yX9_layMatches.cls = RX9 ∧ yX9_layMatches.cls ≠ "java/lang/invoke/MethodHandle" ∧ yX9_layMatches.cls ≠ "java/lang/invoke/VarHandle" ∧ (parseMethodDescriptor yX9_layMatches.desc).map (fun d => d.parameters.length) = some 0 := by decide +kernel
theorem hd_X9_layAll : yX9_layAll.cls = RX9 ∧ yX9_layAll.cls ≠ "java/lang/invoke/MethodHandle" ∧ yX9_layAll.cls ≠ "java/lang/invoke/VarHandle" ∧ (parseMethodDescriptor yX9_layAll.desc).map (fun d => d.parameters.length) = some 0 := by decide +kernel
theorem hd_X9_save : yX9_save.cls = RX9 ∧ yX9_save.cls ≠ "java/lang/invoke/MethodHandle" ∧ yX9_save.cls ≠ "java/lang/invoke/VarHandle" ∧ (parseMethodDescriptor yX9_save.desc).map (fun d => d.parameters.length) = some 0 := by decide +kernel
theorem hd_X9_undo : yX9_undo.cls = RX9 ∧ yX9_undo.cls ≠ "java/lang/invoke/MethodHandle" ∧ yX9_undo.cls ≠ "java/lang/invoke/VarHandle" ∧ (parseMethodDescriptor yX9_undo.desc).map (fun d => d.parameters.length) = some 0 := by decide +kernel
theorem hd_X9_isSetting : yX9_isSetting.cls ≠ "java/lang/invoke/MethodHandle" ∧ yX9_isSetting.cls ≠ "java/lang/invoke/VarHandle" ∧ (parseMethodDescriptor yX9_isSetting.desc).map (fun d => d.parameters.length) = some 1 := by decide +kernel
theorem hd_X9_isValue : yX9_isValue.cls ≠ "java/lang/invoke/MethodHandle" ∧ yX9_isValue.cls ≠ "java/lang/invoke/VarHandle" ∧ (parseMethodDescriptor yX9_isValue.desc).map (fun d => d.parameters.length) = some 2 := by decide +kernel
theorem hd_X9_set : yX9_set.cls = RX9 ∧ yX9_set.cls ≠ "java/lang/invoke/MethodHandle" ∧ yX9_set.cls ≠ "java/lang/invoke/VarHandle" ∧ (parseMethodDescriptor yX9_set.desc).map (fun d => d.parameters.length) = some 2 := by decide +kernel
theorem hd_X9_isTold : yX9_isTold.cls ≠ "java/lang/invoke/MethodHandle" ∧ yX9_isTold.cls ≠ "java/lang/invoke/VarHandle" ∧ (parseMethodDescriptor yX9_isTold.desc).map (fun d => d.parameters.length) = some 2 := by decide +kernel
theorem hd_X9_bring : yX9_bring.cls = RX9 ∧ yX9_bring.cls ≠ "java/lang/invoke/MethodHandle" ∧ yX9_bring.cls ≠ "java/lang/invoke/VarHandle" ∧ (parseMethodDescriptor yX9_bring.desc).map (fun d => d.parameters.length) = some 3 := by decide +kernel
theorem hd_X9_tell : yX9_tell.cls = RX9 ∧ yX9_tell.cls ≠ "java/lang/invoke/MethodHandle" ∧ yX9_tell.cls ≠ "java/lang/invoke/VarHandle" ∧ (parseMethodDescriptor yX9_tell.desc).map (fun d => d.parameters.length) = some 3 := by decide +kernel
theorem hd_X9_correct : yX9_correct.cls = RX9 ∧ yX9_correct.cls ≠ "java/lang/invoke/MethodHandle" ∧ yX9_correct.cls ≠ "java/lang/invoke/VarHandle" ∧ (parseMethodDescriptor yX9_correct.desc).map (fun d => d.parameters.length) = some 3 := by decide +kernel
theorem hd_X9_forget : yX9_forget.cls = RX9 ∧ yX9_forget.cls ≠ "java/lang/invoke/MethodHandle" ∧ yX9_forget.cls ≠ "java/lang/invoke/VarHandle" ∧ (parseMethodDescriptor yX9_forget.desc).map (fun d => d.parameters.length) = some 1 := by decide +kernel
theorem hd_X9_complain : yX9_complain.cls = RX9 ∧ yX9_complain.cls ≠ "java/lang/invoke/MethodHandle" ∧ yX9_complain.cls ≠ "java/lang/invoke/VarHandle" ∧ (parseMethodDescriptor yX9_complain.desc).map (fun d => d.parameters.length) = some 1 := by decide +kernel
theorem hd_X9_isComplaint : yX9_isComplaint.cls = RX9 ∧ yX9_isComplaint.cls ≠ "java/lang/invoke/MethodHandle" ∧ yX9_isComplaint.cls ≠ "java/lang/invoke/VarHandle" ∧ (parseMethodDescriptor yX9_isComplaint.desc).map (fun d => d.parameters.length) = some 1 := by decide +kernel
theorem hd_X9_withdraw : yX9_withdraw.cls = RX9 ∧ yX9_withdraw.cls ≠ "java/lang/invoke/MethodHandle" ∧ yX9_withdraw.cls ≠ "java/lang/invoke/VarHandle" ∧ (parseMethodDescriptor yX9_withdraw.desc).map (fun d => d.parameters.length) = some 1 := by decide +kernel
theorem hd_X9_append : yX9_append.cls = RX9 ∧ yX9_append.cls ≠ "java/lang/invoke/MethodHandle" ∧ yX9_append.cls ≠ "java/lang/invoke/VarHandle" ∧ (parseMethodDescriptor yX9_append.desc).map (fun d => d.parameters.length) = some 1 := by decide +kernel
theorem hd_X9_clearBuffer : yX9_clearBuffer.cls = RX9 ∧ yX9_clearBuffer.cls ≠ "java/lang/invoke/MethodHandle" ∧ yX9_clearBuffer.cls ≠ "java/lang/invoke/VarHandle" ∧ (parseMethodDescriptor yX9_clearBuffer.desc).map (fun d => d.parameters.length) = some 0 := by decide +kernel
theorem hd_X9_beginPart : yX9_beginPart.cls = RX9 ∧ yX9_beginPart.cls ≠ "java/lang/invoke/MethodHandle" ∧ yX9_beginPart.cls ≠ "java/lang/invoke/VarHandle" ∧ (parseMethodDescriptor yX9_beginPart.desc).map (fun d => d.parameters.length) = some 0 := by decide +kernel
theorem hd_X9_takesDigit : yX9_takesDigit.cls = RX9 ∧ yX9_takesDigit.cls ≠ "java/lang/invoke/MethodHandle" ∧ yX9_takesDigit.cls ≠ "java/lang/invoke/VarHandle" ∧ (parseMethodDescriptor yX9_takesDigit.desc).map (fun d => d.parameters.length) = some 1 := by decide +kernel
theorem hd_X9_isPartOver : yX9_isPartOver.cls = RX9 ∧ yX9_isPartOver.cls ≠ "java/lang/invoke/MethodHandle" ∧ yX9_isPartOver.cls ≠ "java/lang/invoke/VarHandle" ∧ (parseMethodDescriptor yX9_isPartOver.desc).map (fun d => d.parameters.length) = some 0 := by decide +kernel
theorem hd_X9_goTo : yX9_goTo.cls = RX9 ∧ yX9_goTo.cls ≠ "java/lang/invoke/MethodHandle" ∧ yX9_goTo.cls ≠ "java/lang/invoke/VarHandle" ∧ (parseMethodDescriptor yX9_goTo.desc).map (fun d => d.parameters.length) = some 1 := by decide +kernel
theorem hd_X9_takes : yX9_takes.cls = RX9 ∧ yX9_takes.cls ≠ "java/lang/invoke/MethodHandle" ∧ yX9_takes.cls ≠ "java/lang/invoke/VarHandle" ∧ (parseMethodDescriptor yX9_takes.desc).map (fun d => d.parameters.length) = some 1 := by decide +kernel
theorem hd_X9_readText : yX9_readText.cls = RX9 ∧ yX9_readText.cls ≠ "java/lang/invoke/MethodHandle" ∧ yX9_readText.cls ≠ "java/lang/invoke/VarHandle" ∧ (parseMethodDescriptor yX9_readText.desc).map (fun d => d.parameters.length) = some 0 := by decide +kernel
theorem hd_X9_firstError : yX9_firstError.cls = RX9 ∧ yX9_firstError.cls ≠ "java/lang/invoke/MethodHandle" ∧ yX9_firstError.cls ≠ "java/lang/invoke/VarHandle" ∧ (parseMethodDescriptor yX9_firstError.desc).map (fun d => d.parameters.length) = some 0 := by decide +kernel
theorem hd_X9_load : yX9_load.cls = RX9 ∧ yX9_load.cls ≠ "java/lang/invoke/MethodHandle" ∧ yX9_load.cls ≠ "java/lang/invoke/VarHandle" ∧ (parseMethodDescriptor yX9_load.desc).map (fun d => d.parameters.length) = some 0 := by decide +kernel
theorem hd_X9_minuteNow : yX9_minuteNow.cls = RX9 ∧ yX9_minuteNow.cls ≠ "java/lang/invoke/MethodHandle" ∧ yX9_minuteNow.cls ≠ "java/lang/invoke/VarHandle" ∧ (parseMethodDescriptor yX9_minuteNow.desc).map (fun d => d.parameters.length) = some 2 := by decide +kernel
theorem hd_X9_minute : yX9_minute.cls = RX9 ∧ yX9_minute.cls ≠ "java/lang/invoke/MethodHandle" ∧ yX9_minute.cls ≠ "java/lang/invoke/VarHandle" ∧ (parseMethodDescriptor yX9_minute.desc).map (fun d => d.parameters.length) = some 2 := by decide +kernel
theorem hd_X9_exceedanceNow : yX9_exceedanceNow.cls = RX9 ∧ yX9_exceedanceNow.cls ≠ "java/lang/invoke/MethodHandle" ∧ yX9_exceedanceNow.cls ≠ "java/lang/invoke/VarHandle" ∧ (parseMethodDescriptor yX9_exceedanceNow.desc).map (fun d => d.parameters.length) = some 2 := by decide +kernel
theorem hd_X9_exceedance : yX9_exceedance.cls = RX9 ∧ yX9_exceedance.cls ≠ "java/lang/invoke/MethodHandle" ∧ yX9_exceedance.cls ≠ "java/lang/invoke/VarHandle" ∧ (parseMethodDescriptor yX9_exceedance.desc).map (fun d => d.parameters.length) = some 2 := by decide +kernel
theorem hd_X9_complaint : yX9_complaint.cls = RX9 ∧ yX9_complaint.cls ≠ "java/lang/invoke/MethodHandle" ∧ yX9_complaint.cls ≠ "java/lang/invoke/VarHandle" ∧ (parseMethodDescriptor yX9_complaint.desc).map (fun d => d.parameters.length) = some 2 := by decide +kernel
theorem hd_X9_countFrom : yX9_countFrom.cls = RX9 ∧ yX9_countFrom.cls ≠ "java/lang/invoke/MethodHandle" ∧ yX9_countFrom.cls ≠ "java/lang/invoke/VarHandle" ∧ (parseMethodDescriptor yX9_countFrom.desc).map (fun d => d.parameters.length) = some 1 := by decide +kernel
theorem hd_X9_levelCount : yX9_levelCount.cls = RX9 ∧ yX9_levelCount.cls ≠ "java/lang/invoke/MethodHandle" ∧ yX9_levelCount.cls ≠ "java/lang/invoke/VarHandle" ∧ (parseMethodDescriptor yX9_levelCount.desc).map (fun d => d.parameters.length) = some 1 := by decide +kernel
theorem hd_X9_percentNow : yX9_percentNow.cls = RX9 ∧ yX9_percentNow.cls ≠ "java/lang/invoke/MethodHandle" ∧ yX9_percentNow.cls ≠ "java/lang/invoke/VarHandle" ∧ (parseMethodDescriptor yX9_percentNow.desc).map (fun d => d.parameters.length) = some 1 := by decide +kernel
theorem hd_X9_percentLevel : yX9_percentLevel.cls = RX9 ∧ yX9_percentLevel.cls ≠ "java/lang/invoke/MethodHandle" ∧ yX9_percentLevel.cls ≠ "java/lang/invoke/VarHandle" ∧ (parseMethodDescriptor yX9_percentLevel.desc).map (fun d => d.parameters.length) = some 1 := by decide +kernel
theorem hd_X9_minutesBy : yX9_minutesBy.cls = RX9 ∧ yX9_minutesBy.cls ≠ "java/lang/invoke/MethodHandle" ∧ yX9_minutesBy.cls ≠ "java/lang/invoke/VarHandle" ∧ (parseMethodDescriptor yX9_minutesBy.desc).map (fun d => d.parameters.length) = some 2 := by decide +kernel
theorem hd_X9_restMany : yX9_restMany.cls = RX9 ∧ yX9_restMany.cls ≠ "java/lang/invoke/MethodHandle" ∧ yX9_restMany.cls ≠ "java/lang/invoke/VarHandle" ∧ (parseMethodDescriptor yX9_restMany.desc).map (fun d => d.parameters.length) = some 0 := by decide +kernel
theorem hd_X9_matchedMany : yX9_matchedMany.cls = RX9 ∧ yX9_matchedMany.cls ≠ "java/lang/invoke/MethodHandle" ∧ yX9_matchedMany.cls ≠ "java/lang/invoke/VarHandle" ∧ (parseMethodDescriptor yX9_matchedMany.desc).map (fun d => d.parameters.length) = some 0 := by decide +kernel
theorem hd_X9_weights : yX9_weights.cls = RX9 ∧ yX9_weights.cls ≠ "java/lang/invoke/MethodHandle" ∧ yX9_weights.cls ≠ "java/lang/invoke/VarHandle" ∧ (parseMethodDescriptor yX9_weights.desc).map (fun d => d.parameters.length) = some 0 := by decide +kernel
theorem hd_X9_heaviest : yX9_heaviest.cls = RX9 ∧ yX9_heaviest.cls ≠ "java/lang/invoke/MethodHandle" ∧ yX9_heaviest.cls ≠ "java/lang/invoke/VarHandle" ∧ (parseMethodDescriptor yX9_heaviest.desc).map (fun d => d.parameters.length) = some 0 := by decide +kernel
theorem hd_X9_counted : yX9_counted.cls = RX9 ∧ yX9_counted.cls ≠ "java/lang/invoke/MethodHandle" ∧ yX9_counted.cls ≠ "java/lang/invoke/VarHandle" ∧ (parseMethodDescriptor yX9_counted.desc).map (fun d => d.parameters.length) = some 1 := by decide +kernel
theorem hd_X9_count : yX9_count.cls = RX9 ∧ yX9_count.cls ≠ "java/lang/invoke/MethodHandle" ∧ yX9_count.cls ≠ "java/lang/invoke/VarHandle" ∧ (parseMethodDescriptor yX9_count.desc).map (fun d => d.parameters.length) = some 1 := by decide +kernel
theorem hd_X9_setting : yX9_setting.cls = RX9 ∧ yX9_setting.cls ≠ "java/lang/invoke/MethodHandle" ∧ yX9_setting.cls ≠ "java/lang/invoke/VarHandle" ∧ (parseMethodDescriptor yX9_setting.desc).map (fun d => d.parameters.length) = some 1 := by decide +kernel
theorem hd_X9_withSetting : yX9_withSetting.cls = RX9 ∧ yX9_withSetting.cls ≠ "java/lang/invoke/MethodHandle" ∧ yX9_withSetting.cls ≠ "java/lang/invoke/VarHandle" ∧ (parseMethodDescriptor yX9_withSetting.desc).map (fun d => d.parameters.length) = some 3 := by decide +kernel
theorem hd_X9_ifSet : yX9_ifSet.cls = RX9 ∧ yX9_ifSet.cls ≠ "java/lang/invoke/MethodHandle" ∧ yX9_ifSet.cls ≠ "java/lang/invoke/VarHandle" ∧ (parseMethodDescriptor yX9_ifSet.desc).map (fun d => d.parameters.length) = some 3 := by decide +kernel
theorem hd_X9_leastNow : yX9_leastNow.cls = RX9 ∧ yX9_leastNow.cls ≠ "java/lang/invoke/MethodHandle" ∧ yX9_leastNow.cls ≠ "java/lang/invoke/VarHandle" ∧ (parseMethodDescriptor yX9_leastNow.desc).map (fun d => d.parameters.length) = some 1 := by decide +kernel
theorem hd_X9_leastLimit : yX9_leastLimit.cls = RX9 ∧ yX9_leastLimit.cls ≠ "java/lang/invoke/MethodHandle" ∧ yX9_leastLimit.cls ≠ "java/lang/invoke/VarHandle" ∧ (parseMethodDescriptor yX9_leastLimit.desc).map (fun d => d.parameters.length) = some 1 := by decide +kernel
theorem hd_X9_aboveNow : yX9_aboveNow.cls = RX9 ∧ yX9_aboveNow.cls ≠ "java/lang/invoke/MethodHandle" ∧ yX9_aboveNow.cls ≠ "java/lang/invoke/VarHandle" ∧ (parseMethodDescriptor yX9_aboveNow.desc).map (fun d => d.parameters.length) = some 1 := by decide +kernel
theorem hd_X9_aboveIn : yX9_aboveIn.cls = RX9 ∧ yX9_aboveIn.cls ≠ "java/lang/invoke/MethodHandle" ∧ yX9_aboveIn.cls ≠ "java/lang/invoke/VarHandle" ∧ (parseMethodDescriptor yX9_aboveIn.desc).map (fun d => d.parameters.length) = some 1 := by decide +kernel
theorem hd_X9_shareNow : yX9_shareNow.cls = RX9 ∧ yX9_shareNow.cls ≠ "java/lang/invoke/MethodHandle" ∧ yX9_shareNow.cls ≠ "java/lang/invoke/VarHandle" ∧ (parseMethodDescriptor yX9_shareNow.desc).map (fun d => d.parameters.length) = some 0 := by decide +kernel
theorem hd_X9_share : yX9_share.cls = RX9 ∧ yX9_share.cls ≠ "java/lang/invoke/MethodHandle" ∧ yX9_share.cls ≠ "java/lang/invoke/VarHandle" ∧ (parseMethodDescriptor yX9_share.desc).map (fun d => d.parameters.length) = some 0 := by decide +kernel
theorem hd_X9_mix : yX9_mix.cls = RX9 ∧ yX9_mix.cls ≠ "java/lang/invoke/MethodHandle" ∧ yX9_mix.cls ≠ "java/lang/invoke/VarHandle" ∧ (parseMethodDescriptor yX9_mix.desc).map (fun d => d.parameters.length) = some 1 := by decide +kernel
theorem hd_X9_mixAll : yX9_mixAll.cls = RX9 ∧ yX9_mixAll.cls ≠ "java/lang/invoke/MethodHandle" ∧ yX9_mixAll.cls ≠ "java/lang/invoke/VarHandle" ∧ (parseMethodDescriptor yX9_mixAll.desc).map (fun d => d.parameters.length) = some 0 := by decide +kernel
theorem hd_Jxe99ae_isNaN_b9ae7 : yJxe99ae_isNaN_b9ae7.cls ≠ "java/lang/invoke/MethodHandle" ∧ yJxe99ae_isNaN_b9ae7.cls ≠ "java/lang/invoke/VarHandle" ∧ (parseMethodDescriptor yJxe99ae_isNaN_b9ae7.desc).map (fun d => d.parameters.length) = some 1 := by decide +kernel
theorem hd_Jxe99ae_doubleToLongBits_ccdee : yJxe99ae_doubleToLongBits_ccdee.cls ≠ "java/lang/invoke/MethodHandle" ∧ yJxe99ae_doubleToLongBits_ccdee.cls ≠ "java/lang/invoke/VarHandle" ∧ (parseMethodDescriptor yJxe99ae_doubleToLongBits_ccdee.desc).map (fun d => d.parameters.length) = some 1 := by decide +kernel
theorem hd_X9_digest : yX9_digest.cls = RX9 ∧ yX9_digest.cls ≠ "java/lang/invoke/MethodHandle" ∧ yX9_digest.cls ≠ "java/lang/invoke/VarHandle" ∧ (parseMethodDescriptor yX9_digest.desc).map (fun d => d.parameters.length) = some 0 := by decide +kernel
end
section
/-! what each method does, as a function; by wip/whole/gen/emit.py out of the bytecode -/
def f_X0_begin (b0 : Nat) (a1 : Int32) (M : Mem) : Option (Mem) :=
  if 100 ≤ (M b0 6) then some M else (wr M (b0 + 1) 100 (M b0 6) a1).bind fun M2 => (wr M2 (b0 + 3) 100 (M2 b0 6) 0).bind fun M3 => (wr M3 (b0 + 4) 100 (M3 b0 6) 0).bind fun M4 => (wr M4 (b0 + 5) 100 (M4 b0 6) 0).bind fun M5 => (stf M5 b0 6 ((M5 b0 6) + 1)).bind fun M6 => some M6
def f_J9_floorMod_7cf53 (a0 : Int32) (a1 : Int32) (M : Mem) : Option (Int32) :=
  (rmI a0 a1).bind fun x1 => if 0 ≤ (a0 ^^^ a1) then some x1 else if x1 = 0 then some x1 else some (x1 + a1)
def f_X8_isRest (c0 : Nat) (a0 : Int32) (M : Mem) : Option (Int32) :=
  (rd M c0 10 2).bind fun x1 => (f_J9_floorMod_7cf53 (a0 - x1) 60 M).bind fun r2 => (rd M c0 10 3).bind fun x3 => if x3 ≤ r2 then some 0 else some 1
def f_X8_limitAt (c0 : Nat) (a0 : Int32) (M : Mem) : Option (Int32) :=
  (f_X8_isRest c0 a0 M).bind fun r1 => if r1 = 0 then (rd M c0 10 0).bind fun x3 => some x3 else (rd M c0 10 1).bind fun x4 => some x4
def f_X0_extend (b0 : Nat) (a1 : Int32) (a2 : Int32) (a3 : Int32) (M : Mem) : Option (Mem) :=
  if ((M b0 6) - 1) < 0 then some M else (wr M (b0 + 2) 100 ((M b0 6) - 1) a1).bind fun M2 => (rd M2 (b0 + 3) 100 ((M b0 6) - 1)).bind fun x3 => (wr M2 (b0 + 3) 100 ((M b0 6) - 1) (x3 + 1)).bind fun M4 => (rd M4 (b0 + 4) 100 ((M b0 6) - 1)).bind fun x5 => (wr M4 (b0 + 4) 100 ((M b0 6) - 1) (mxI x5 a2)).bind fun M6 => (rd M6 (b0 + 5) 100 ((M b0 6) - 1)).bind fun x7 => (wr M6 (b0 + 5) 100 ((M b0 6) - 1) (x7 + a3)).bind fun M8 => some M8
def f_X0_markOwners_l17 (b0 : Nat) (v1 : Int32) (z : Int32 × Mem) : Option ((Int32 × Mem) ⊕ (Mem)) :=
  (rd z.2 (b0 + 2) 100 v1).bind fun x3 => if x3 < z.1 then some (.inr z.2) else (wr z.2 (b0 + 6) 200 z.1 v1).bind fun M5 => some (.inl ((z.1 + 1), M5))
def f_X0_markOwners_l2 (b0 : Nat) (z : Int32 × Mem) : Option ((Int32 × Mem) ⊕ (Mem)) :=
  if (z.2 b0 6) ≤ z.1 then some (.inr z.2) else (rd z.2 (b0 + 1) 100 z.1).bind fun x2 => (loopN (f_X0_markOwners_l17 b0 z.1) FU (x2, z.2)).bind fun o6 => some (.inl ((z.1 + 1), o6))
def f_X0_markOwners (b0 : Nat) (M : Mem) : Option (Mem) :=
  (loopN (f_X0_markOwners_l2 b0) FU (0, M)).bind fun o7 => some o7
def f_X0_find_j98 (b0 : Nat) (b1 : Nat) (c2 : Nat) (v3 : Int32) (v4 : Int32) (v5 : Int32) (M : Mem) : Option ((Int32 × Int32 × Mem) ⊕ (Int32 × Mem)) :=
  some (.inl (v4, (v5 + 1), M))
def f_X0_find_j55 (b0 : Nat) (b1 : Nat) (c2 : Nat) (v3 : Int32) (v5 : Int32) (M : Mem) : Option ((Int32 × Int32 × Mem) ⊕ (Int32 × Mem)) :=
  (rd M (b1 + 2) 200 v5).bind fun x8 => (f_X8_limitAt c2 v5 M).bind fun r9 => (rd M (b1 + 1) 200 v5).bind fun x10 => (f_X0_extend b0 v5 x10 (x8 - (10 * r9)) M).bind fun r11 => f_X0_find_j98 b0 b1 c2 v3 0 v5 r11
def f_X0_find_l16 (b0 : Nat) (b1 : Nat) (c2 : Nat) (v3 : Int32) (z : Int32 × Int32 × Mem) : Option ((Int32 × Int32 × Mem) ⊕ (Int32 × Mem)) :=
  if (z.2.2 b1 3) ≤ z.2.1 then some (.inr (z.1, z.2.2)) else (wr z.2.2 (b0 + 6) 200 z.2.1 (-1)).bind fun M4 => (rd M4 (b1 + 3) 200 z.2.1).bind fun x5 => if x5 = 0 then if z.1 < v3 then f_X0_find_j55 b0 b1 c2 v3 z.2.1 M4 else (f_X0_begin b0 z.2.1 M4).bind fun r12 => f_X0_find_j55 b0 b1 c2 v3 z.2.1 r12 else f_X0_find_j98 b0 b1 c2 v3 (z.1 + 1) z.2.1 M4
def f_X0_find_j116 (b0 : Nat) (b1 : Nat) (c2 : Nat) (s1 : Int32) (M : Mem) : Option (Mem) :=
  (stz M b0 7 s1).bind fun M15 => (f_X0_markOwners b0 M15).bind fun r16 => some r16
def f_X0_find (b0 : Nat) (b1 : Nat) (c2 : Nat) (M : Mem) : Option (Mem) :=
  (rd M c2 10 6).bind fun x1 => (stf M b0 6 0).bind fun M2 => (loopN (f_X0_find_l16 b0 b1 c2 x1) FU (x1, 0, M2)).bind fun o13 => if x1 ≤ o13.1 then f_X0_find_j116 b0 b1 c2 0 o13.2 else f_X0_find_j116 b0 b1 c2 1 o13.2
def f_X0_weightOfAll_l4 (b0 : Nat) (M : Mem) (z : Int32 × Int32) : Option ((Int32 × Int32) ⊕ (Int32)) :=
  if (M b0 6) ≤ z.2 then some (.inr z.1) else (rd M (b0 + 5) 100 z.2).bind fun x2 => some (.inl ((z.1 + x2), (z.2 + 1)))
def f_X0_weightOfAll (b0 : Nat) (M : Mem) : Option (Int32) :=
  (loopN (f_X0_weightOfAll_l4 b0 M) FU (0, 0)).bind fun o3 => some o3
def f_X0_heaviest_j34 (b0 : Nat) (v1 : Int32) (v2 : Int32) (M : Mem) : Option ((Int32 × Int32) ⊕ (Int32)) :=
  some (.inl (v1, (v2 + 1)))
def f_X0_heaviest_j32 (b0 : Nat) (v2 : Int32) (M : Mem) : Option ((Int32 × Int32) ⊕ (Int32)) :=
  f_X0_heaviest_j34 b0 v2 v2 M
def f_X0_heaviest_l4 (b0 : Nat) (M : Mem) (z : Int32 × Int32) : Option ((Int32 × Int32) ⊕ (Int32)) :=
  if (M b0 6) ≤ z.2 then some (.inr z.1) else if z.1 = (-1) then f_X0_heaviest_j32 b0 z.2 M else (rd M (b0 + 5) 100 z.2).bind fun x3 => (rd M (b0 + 5) 100 z.1).bind fun x4 => if x3 ≤ x4 then f_X0_heaviest_j34 b0 z.1 z.2 M else f_X0_heaviest_j32 b0 z.2 M
def f_X0_heaviest (b0 : Nat) (M : Mem) : Option (Int32) :=
  (loopN (f_X0_heaviest_l4 b0 M) FU ((-1), 0)).bind fun o6 => some o6
def f_X5_takeOver (b0 : Nat) (b1 : Nat) (M : Mem) : Option (Mem) :=
  (cpy M (b1 + 1) 200 0 (b0 + 1) 200 0 200).bind fun M1 => (cpy M1 (b1 + 2) 200 0 (b0 + 2) 200 0 200).bind fun M2 => (cpy M2 (b1 + 3) 10 0 (b0 + 3) 10 0 10).bind fun M3 => (cpy M3 (b1 + 4) 20 0 (b0 + 4) 20 0 20).bind fun M4 => (stf M4 b0 4 (M4 b1 4)).bind fun M5 => (stf M5 b0 5 (M5 b1 5)).bind fun M6 => some M6
def f_X1_keep (b0 : Nat) (M : Mem) : Option (Mem) :=
  (rgI (M 46 1)).bind fun k1 => (f_X5_takeOver (6 + 5 * k1) b0 M).bind fun r2 => (rmI ((r2 46 1) + 1) 8).bind fun x3 => (stf r2 46 1 x3).bind fun M4 => (stf M4 46 2 (mnI ((M4 46 2) + 1) 8)).bind fun M5 => some M5
def f_X1_giveBack (b0 : Nat) (M : Mem) : Option (Mem) :=
  (rmI (((M 46 1) + 8) - 1) 8).bind fun x1 => (stf M 46 1 x1).bind fun M2 => (stf M2 46 2 ((M2 46 2) - 1)).bind fun M3 => (rgI (M3 46 1)).bind fun k4 => (f_X5_takeOver b0 (6 + 5 * k4) M3).bind fun r5 => some r5
def f_X4_isCounted_j19 (b0 : Nat) (M : Mem) : Option (Int32) :=
  some 1
def f_X4_isCounted (b0 : Nat) (a1 : Int32) (M : Mem) : Option (Int32) :=
  (rd M (b0 + 3) 200 a1).bind fun x1 => if x1 = 0 then f_X4_isCounted_j19 b0 M else (rd M (b0 + 3) 200 a1).bind fun x3 => if x3 = 3 then f_X4_isCounted_j19 b0 M else some 0
def f_X2_highestReached (a0 : Int32) (M : Mem) : Option (Int32) :=
  (dvI a0 10).bind fun x1 => some (mxI (0 : Int32) (mnI (140 : Int32) x1))
def f_X2_tally_l2 (b0 : Nat) (z : Int32 × Mem) : Option ((Int32 × Mem) ⊕ (Mem)) :=
  if 140 < z.1 then some (.inr z.2) else (wr z.2 89 141 z.1 0).bind fun M2 => some (.inl ((z.1 + 1), M2))
def f_X2_tally_j58 (b0 : Nat) (v2 : Int32) (M : Mem) : Option ((Int32 × Mem) ⊕ (Mem)) :=
  some (.inl ((v2 + 1), M))
def f_X2_tally_l24 (b0 : Nat) (z : Int32 × Mem) : Option ((Int32 × Mem) ⊕ (Mem)) :=
  if (z.2 b0 3) ≤ z.1 then some (.inr z.2) else (f_X4_isCounted b0 z.1 z.2).bind fun r5 => if r5 = 0 then f_X2_tally_j58 b0 z.1 z.2 else (rd z.2 (b0 + 1) 200 z.1).bind fun x7 => (f_X2_highestReached x7 z.2).bind fun r8 => (rd z.2 89 141 r8).bind fun x9 => (wr z.2 89 141 r8 (x9 + 1)).bind fun M10 => f_X2_tally_j58 b0 z.1 M10
def f_X2_tally_l68 (b0 : Nat) (z : Int32 × Mem) : Option ((Int32 × Mem) ⊕ (Mem)) :=
  if z.1 < 0 then some (.inr z.2) else (rd z.2 89 141 z.1).bind fun x13 => (rd z.2 89 141 (z.1 + 1)).bind fun x14 => (wr z.2 89 141 z.1 (x13 + x14)).bind fun M15 => some (.inl ((z.1 + (-1)), M15))
def f_X2_tally (b0 : Nat) (M : Mem) : Option (Mem) :=
  (loopN (f_X2_tally_l2 b0) FU (0, M)).bind fun o3 => (loopN (f_X2_tally_l24 b0) FU (0, o3)).bind fun o11 => (loopN (f_X2_tally_l68 b0) FU (139, o11)).bind fun o16 => some o16
def f_X2_levelOfPercent_l11 (v1 : Int32) (v2 : Int32) (M : Mem) (z : Int32) : Option ((Int32) ⊕ ((Unit) ⊕ (Int32))) :=
  if z ≤ 0 then some (.inr (.inl ())) else (rd M 89 141 z).bind fun x3 => if (x3 * 100) < (v1 * v2) then some (.inl (z + (-1))) else some (.inr (.inr z))
def f_X2_levelOfPercent (a1 : Int32) (a2 : Int32) (M : Mem) : Option (Int32) :=
  if 1 ≤ a2 then (loopN (f_X2_levelOfPercent_l11 a1 a2 M) FU 140).bind fun o5 => Sum.elim (fun o5 => some 0) (fun r6 => some r6) o5 else some (-1)
def f_X3_putInOrder_l20 (b0 : Nat) (b1 : Nat) (v2 : Int32) (v3 : Int32) (z : Int32 × Mem) : Option ((Int32 × Mem) ⊕ (Int32 × Mem)) :=
  if z.1 ≤ 0 then some (.inr (z.1, z.2)) else (rd z.2 (b0 + 3) 20 (z.1 - 1)).bind fun x4 => (rd z.2 (b1 + 4) 20 x4).bind fun x5 => if x5 ≤ v3 then some (.inr (z.1, z.2)) else (rd z.2 (b0 + 3) 20 (z.1 - 1)).bind fun x7 => (wr z.2 (b0 + 3) 20 z.1 x7).bind fun M8 => some (.inl ((z.1 + (-1)), M8))
def f_X3_putInOrder_j65 (b0 : Nat) (b1 : Nat) (v2 : Int32) (v4 : Int32) (M : Mem) : Option ((Int32 × Mem) ⊕ (Mem)) :=
  (wr M (b0 + 3) 20 v4 v2).bind fun M10 => some (.inl ((v2 + 1), M10))
def f_X3_putInOrder_l2 (b0 : Nat) (b1 : Nat) (z : Int32 × Mem) : Option ((Int32 × Mem) ⊕ (Mem)) :=
  if (z.2 b0 3) ≤ z.1 then some (.inr z.2) else (rd z.2 (b1 + 4) 20 z.1).bind fun x2 => (loopN (f_X3_putInOrder_l20 b0 b1 z.1 x2) FU (z.1, z.2)).bind fun o9 => f_X3_putInOrder_j65 b0 b1 z.1 o9.1 o9.2
def f_X3_putInOrder (b0 : Nat) (b1 : Nat) (M : Mem) : Option (Mem) :=
  (loopN (f_X3_putInOrder_l2 b0 b1) FU (0, M)).bind fun o11 => some o11
def f_X3_bestFor_j101 (b0 : Nat) (b1 : Nat) (v1 : Int32) (v3 : Int32) (v4 : Int32) (v5 : Int32) (M : Mem) : Option ((Int32 × Int32) ⊕ (Int32)) :=
  some (.inl (v4, (v5 + 1)))
def f_X3_bestFor_j97 (b0 : Nat) (b1 : Nat) (v1 : Int32) (v3 : Int32) (v5 : Int32) (M : Mem) : Option ((Int32 × Int32) ⊕ (Int32)) :=
  f_X3_bestFor_j101 b0 b1 v1 v3 v5 v5 M
def f_X3_bestFor_j62 (b0 : Nat) (b1 : Nat) (v1 : Int32) (v3 : Int32) (v4 : Int32) (v5 : Int32) (v6 : Int32) (s0 : Int32) (M : Mem) : Option ((Int32 × Int32) ⊕ (Int32)) :=
  if v6 = 0 then f_X3_bestFor_j101 b0 b1 v1 v3 v4 v5 M else if s0 = 0 then f_X3_bestFor_j101 b0 b1 v1 v3 v4 v5 M else if v4 = (-1) then f_X3_bestFor_j97 b0 b1 v1 v3 v5 M else (rd M (b1 + 4) 100 v5).bind fun x9 => (rd M (b1 + 4) 100 v4).bind fun x10 => if x9 ≤ x10 then f_X3_bestFor_j101 b0 b1 v1 v3 v4 v5 M else f_X3_bestFor_j97 b0 b1 v1 v3 v5 M
def f_X3_bestFor_j61 (b0 : Nat) (b1 : Nat) (v1 : Int32) (v3 : Int32) (v4 : Int32) (v5 : Int32) (v6 : Int32) (M : Mem) : Option ((Int32 × Int32) ⊕ (Int32)) :=
  f_X3_bestFor_j62 b0 b1 v1 v3 v4 v5 v6 0 M
def f_X3_bestFor_j31 (b0 : Nat) (b1 : Nat) (v1 : Int32) (v3 : Int32) (v4 : Int32) (v5 : Int32) (s0 : Int32) (M : Mem) : Option ((Int32 × Int32) ⊕ (Int32)) :=
  (rd M (b1 + 1) 100 v5).bind fun x4 => if v1 < x4 then f_X3_bestFor_j61 b0 b1 v1 v3 v4 v5 s0 M else (rd M (b1 + 2) 100 v5).bind fun x12 => if x12 < (v1 - v3) then f_X3_bestFor_j61 b0 b1 v1 v3 v4 v5 s0 M else f_X3_bestFor_j62 b0 b1 v1 v3 v4 v5 s0 1 M
def f_X3_bestFor_l6 (b0 : Nat) (b1 : Nat) (v1 : Int32) (v3 : Int32) (M : Mem) (z : Int32 × Int32) : Option ((Int32 × Int32) ⊕ (Int32)) :=
  if (M b1 6) ≤ z.2 then some (.inr z.1) else (rd M (b0 + 2) 100 z.2).bind fun x2 => if x2 = (-1) then f_X3_bestFor_j31 b0 b1 v1 v3 z.1 z.2 1 M else f_X3_bestFor_j31 b0 b1 v1 v3 z.1 z.2 0 M
def f_X3_bestFor (b0 : Nat) (b1 : Nat) (a1 : Int32) (a3 : Int32) (M : Mem) : Option (Int32) :=
  (loopN (f_X3_bestFor_l6 b0 b1 a1 a3 M) FU ((-1), 0)).bind fun o14 => some o14
def f_X3_match_l16 (b0 : Nat) (b1 : Nat) (b2 : Nat) (v3 : Int32) (z : Int32 × Mem) : Option ((Int32 × Mem) ⊕ (Mem)) :=
  if (z.2 b2 6) ≤ z.1 then some (.inr z.2) else (wr z.2 (b0 + 2) 100 z.1 (-1)).bind fun M4 => some (.inl ((z.1 + 1), M4))
def f_X3_match_j118 (b0 : Nat) (b1 : Nat) (b2 : Nat) (v3 : Int32) (v4 : Int32) (M : Mem) : Option ((Int32 × Mem) ⊕ (Mem)) :=
  some (.inl ((v4 + 1), M))
def f_X3_match_l47 (b0 : Nat) (b1 : Nat) (b2 : Nat) (v3 : Int32) (z : Int32 × Mem) : Option ((Int32 × Mem) ⊕ (Mem)) :=
  if (z.2 b0 3) ≤ z.1 then some (.inr z.2) else (rd z.2 (b0 + 3) 20 z.1).bind fun x8 => (rd z.2 (b1 + 4) 20 x8).bind fun x9 => (f_X3_bestFor b0 b2 x9 v3 z.2).bind fun r10 => (wr z.2 (b0 + 1) 20 x8 r10).bind fun M11 => if r10 = (-1) then f_X3_match_j118 b0 b1 b2 v3 z.1 M11 else (wr M11 (b0 + 2) 100 r10 x8).bind fun M13 => (stf M13 b0 4 ((M13 b0 4) + 1)).bind fun M14 => f_X3_match_j118 b0 b1 b2 v3 z.1 M14
def f_X3_match (b0 : Nat) (b1 : Nat) (b2 : Nat) (a3 : Int32) (M : Mem) : Option (Mem) :=
  (stf M b0 3 (M b1 5)).bind fun M1 => (stf M1 b0 4 0).bind fun M2 => (loopN (f_X3_match_l16 b0 b1 b2 a3) FU (0, M2)).bind fun o5 => (f_X3_putInOrder b0 b1 o5).bind fun r6 => (loopN (f_X3_match_l47 b0 b1 b2 a3) FU (0, r6)).bind fun o15 => some o15
def f_X8_moved (a0 : Int32) (a1 : Int32) (a2 : Int32) (M : Mem) : Option (Int32) :=
  if 1 ≤ a2 then (dvI ((10 * a1) - a0) a2).bind fun x2 => some (a0 + x2) else some a0
def f_X4_moveArms_l16 (b0 : Nat) (b1 : Nat) (c2 : Nat) (z : Int32 × Int32 × Int32 × Mem) : Option ((Int32 × Int32 × Int32 × Mem) ⊕ (Mem)) :=
  if (z.2.2.2 b0 3) ≤ z.2.2.1 then some (.inr z.2.2.2) else (rd z.2.2.2 (b1 + 1) 200 z.2.2.1).bind fun x3 => (rd z.2.2.2 c2 10 8).bind fun x4 => (f_X8_moved z.1 x3 x4 z.2.2.2).bind fun r5 => (rd z.2.2.2 (b1 + 1) 200 z.2.2.1).bind fun x6 => (rd z.2.2.2 c2 10 9).bind fun x7 => (f_X8_moved z.2.1 x6 x7 z.2.2.2).bind fun r8 => (wr z.2.2.2 (b0 + 1) 200 z.2.2.1 r5).bind fun M9 => (wr M9 (b0 + 2) 200 z.2.2.1 r8).bind fun M10 => some (.inl (r5, r8, (z.2.2.1 + 1), M10))
def f_X4_moveArms (b0 : Nat) (b1 : Nat) (c2 : Nat) (M : Mem) : Option (Mem) :=
  (stf M b0 3 (M b1 4)).bind fun M1 => (loopN (f_X4_moveArms_l16 b0 b1 c2) FU (0, 0, 0, M1)).bind fun o11 => some o11
def f_X4_isSoonAfterWind (b0 : Nat) (a1 : Int32) (a2 : Int32) (M : Mem) : Option (Int32) :=
  if (M b0 7) = (-1) then some 0 else if a2 < (a1 - (M b0 7)) then some 0 else some 1
def f_X4_judge_j103 (b0 : Nat) (b1 : Nat) (c2 : Nat) (v3 : Int32) (M : Mem) : Option ((Int32 × Mem) ⊕ (Mem)) :=
  some (.inl ((v3 + 1), M))
def f_X4_judge_j102 (b0 : Nat) (b1 : Nat) (c2 : Nat) (v3 : Int32) (s1 : Int32) (s2 : Int32) (M : Mem) : Option ((Int32 × Mem) ⊕ (Mem)) :=
  (wr M (b0 + 3) 200 s1 s2).bind fun M13 => f_X4_judge_j103 b0 b1 c2 v3 M13
def f_X4_judge_j85 (b0 : Nat) (b1 : Nat) (c2 : Nat) (v3 : Int32) (s0 : Int32) (M : Mem) : Option ((Int32 × Mem) ⊕ (Mem)) :=
  if s0 = 0 then f_X4_judge_j102 b0 b1 c2 v3 v3 3 M else f_X4_judge_j102 b0 b1 c2 v3 v3 0 M
def f_X4_judge_l7 (b0 : Nat) (b1 : Nat) (c2 : Nat) (z : Int32 × Mem) : Option ((Int32 × Mem) ⊕ (Mem)) :=
  if (z.2 b0 3) ≤ z.1 then some (.inr z.2) else (rd z.2 (b1 + 2) 200 z.1).bind fun x3 => (rd z.2 c2 10 4).bind fun x4 => if x3 < x4 then (rd z.2 c2 10 5).bind fun x6 => (f_X4_isSoonAfterWind b0 z.1 x6 z.2).bind fun r7 => if r7 = 0 then (rd z.2 (b0 + 2) 200 z.1).bind fun x9 => (f_X8_limitAt c2 z.1 z.2).bind fun r10 => if x9 ≤ (10 * r10) then f_X4_judge_j85 b0 b1 c2 z.1 0 z.2 else f_X4_judge_j85 b0 b1 c2 z.1 1 z.2 else (wr z.2 (b0 + 3) 200 z.1 2).bind fun M14 => f_X4_judge_j103 b0 b1 c2 z.1 M14 else (wr z.2 (b0 + 3) 200 z.1 1).bind fun M15 => (stf M15 b0 7 z.1).bind fun M16 => f_X4_judge_j103 b0 b1 c2 z.1 M16
def f_X4_judge (b0 : Nat) (b1 : Nat) (c2 : Nat) (M : Mem) : Option (Mem) :=
  (stf M b0 7 (-1)).bind fun M1 => (loopN (f_X4_judge_l7 b0 b1 c2) FU (0, M1)).bind fun o17 => some o17
def f_X4_tally_j88 (b0 : Nat) (c1 : Nat) (v2 : Int32) (s1 : Int32) (s2 : Int32) (M : Mem) : Option ((Int32 × Mem) ⊕ (Mem)) :=
  (stf M b0 6 (s1 + s2)).bind fun M13 => some (.inl ((v2 + 1), M13))
def f_X4_tally_j65 (b0 : Nat) (c1 : Nat) (v2 : Int32) (s1 : Int32) (s2 : Int32) (M : Mem) : Option ((Int32 × Mem) ⊕ (Mem)) :=
  (stf M b0 5 (s1 + s2)).bind fun M10 => (rd M10 (b0 + 3) 200 v2).bind fun x11 => if x11 = 0 then f_X4_tally_j88 b0 c1 v2 (M10 b0 6) 1 M10 else f_X4_tally_j88 b0 c1 v2 (M10 b0 6) 0 M10
def f_X4_tally_j43 (b0 : Nat) (c1 : Nat) (v2 : Int32) (s1 : Int32) (s2 : Int32) (M : Mem) : Option ((Int32 × Mem) ⊕ (Mem)) :=
  (stf M b0 4 (s1 + s2)).bind fun M7 => (f_X8_isRest c1 v2 M7).bind fun r8 => if r8 = 0 then f_X4_tally_j65 b0 c1 v2 (M7 b0 5) 0 M7 else f_X4_tally_j65 b0 c1 v2 (M7 b0 5) 1 M7
def f_X4_tally_l17 (b0 : Nat) (c1 : Nat) (z : Int32 × Mem) : Option ((Int32 × Mem) ⊕ (Mem)) :=
  if (z.2 b0 3) ≤ z.1 then some (.inr z.2) else (f_X4_isCounted b0 z.1 z.2).bind fun r5 => if r5 = 0 then f_X4_tally_j43 b0 c1 z.1 (z.2 b0 4) 0 z.2 else f_X4_tally_j43 b0 c1 z.1 (z.2 b0 4) 1 z.2
def f_X4_tally (b0 : Nat) (c1 : Nat) (M : Mem) : Option (Mem) :=
  (stf M b0 4 0).bind fun M1 => (stf M1 b0 5 0).bind fun M2 => (stf M2 b0 6 0).bind fun M3 => (loopN (f_X4_tally_l17 b0 c1) FU (0, M3)).bind fun o14 => some o14
def f_X4_lastSlowPlace (b0 : Nat) (M : Mem) : Option (Int32) :=
  if 1 ≤ (M b0 3) then (rd M (b0 + 2) 200 ((M b0 3) - 1)).bind fun x2 => some x2 else some 0
def f_X4_shareAbove (b0 : Nat) (M : Mem) : Option (UInt64) :=
  if 1 ≤ (M b0 4) then (ddv (FP.i2d (M b0 6)) (FP.i2d (M b0 4))).bind fun x2 => some x2 else some 0
def f_X5_hasMinute (b0 : Nat) (a1 : Int32) (M : Mem) : Option (Int32) :=
  if a1 < 0 then some 0 else if (M b0 4) ≤ a1 then some 0 else some 1
def f_X5_hasComplaint (b0 : Nat) (a1 : Int32) (M : Mem) : Option (Int32) :=
  if a1 < 0 then some 0 else if (M b0 5) ≤ a1 then some 0 else some 1
def f_X5_addMinutes_l3 (b0 : Nat) (v1 : Int32) (v2 : Int32) (v3 : Int32) (z : Int32 × Mem) : Option ((Int32 × Mem) ⊕ (Mem)) :=
  if v3 ≤ z.1 then some (.inr z.2) else if 200 ≤ (z.2 b0 4) then some (.inr z.2) else (wr z.2 (b0 + 1) 200 (z.2 b0 4) v1).bind fun M3 => (wr M3 (b0 + 2) 200 (M3 b0 4) v2).bind fun M4 => (stf M4 b0 4 ((M4 b0 4) + 1)).bind fun M5 => some (.inl ((z.1 + 1), M5))
def f_X5_addMinutes (b0 : Nat) (a1 : Int32) (a2 : Int32) (a3 : Int32) (M : Mem) : Option (Mem) :=
  (loopN (f_X5_addMinutes_l3 b0 a1 a2 a3) FU (0, M)).bind fun o6 => some o6
def f_X5_dropMinutes_l9 (b0 : Nat) (v1 : Int32) (v2 : Int32) (z : Int32 × Mem) : Option ((Int32 × Mem) ⊕ (Mem)) :=
  if v2 ≤ z.1 then some (.inr z.2) else (rd z.2 (b0 + 1) 200 (z.1 + v1)).bind fun x2 => (wr z.2 (b0 + 1) 200 z.1 x2).bind fun M3 => (rd M3 (b0 + 2) 200 (z.1 + v1)).bind fun x4 => (wr M3 (b0 + 2) 200 z.1 x4).bind fun M5 => some (.inl ((z.1 + 1), M5))
def f_X5_dropMinutes_l55 (b0 : Nat) (v1 : Int32) (z : Int32 × Mem) : Option ((Int32 × Mem) ⊕ (Mem)) :=
  if (z.2 b0 5) ≤ z.1 then some (.inr z.2) else (rd z.2 (b0 + 4) 20 z.1).bind fun x9 => (wr z.2 (b0 + 4) 20 z.1 (mxI (0 : Int32) (x9 - v1))).bind fun M10 => some (.inl ((z.1 + 1), M10))
def f_X5_dropMinutes (b0 : Nat) (a1 : Int32) (M : Mem) : Option (Mem) :=
  (loopN (f_X5_dropMinutes_l9 b0 a1 ((M b0 4) - a1)) FU (0, M)).bind fun o6 => (stf o6 b0 4 ((M b0 4) - a1)).bind fun M7 => (loopN (f_X5_dropMinutes_l55 b0 a1) FU (0, M7)).bind fun o11 => some o11
def f_X5_addComplaint (b0 : Nat) (a1 : Int32) (M : Mem) : Option (Mem) :=
  if 20 ≤ (M b0 5) then some M else (wr M (b0 + 4) 20 (M b0 5) a1).bind fun M2 => (stf M2 b0 5 ((M2 b0 5) + 1)).bind fun M3 => some M3
def f_X5_dropComplaint_l2 (b0 : Nat) (z : Int32 × Mem) : Option ((Int32 × Mem) ⊕ (Mem)) :=
  if (z.2 b0 5) ≤ (z.1 + 1) then some (.inr z.2) else (rd z.2 (b0 + 4) 20 (z.1 + 1)).bind fun x2 => (wr z.2 (b0 + 4) 20 z.1 x2).bind fun M3 => some (.inl ((z.1 + 1), M3))
def f_X5_dropComplaint (b0 : Nat) (a1 : Int32) (M : Mem) : Option (Mem) :=
  (loopN (f_X5_dropComplaint_l2 b0) FU (a1, M)).bind fun o4 => (stf o4 b0 5 ((o4 b0 5) - 1)).bind fun M5 => some M5
def f_X6_addCode (a1 : Int32) (M : Mem) : Option (Mem) :=
  if 60 ≤ (M 48 1) then some M else (wr M 49 60 (M 48 1) a1).bind fun M2 => (stf M2 48 1 ((M2 48 1) + 1)).bind fun M3 => some M3
def f_X6_beginNumber (a1 : Int32) (M : Mem) : Option (Mem) :=
  (stf M 48 7 a1).bind fun M1 => (wr M1 53 3 a1 (-1)).bind fun M2 => some M2
def f_X6_beginPart (M : Mem) : Option (Mem) :=
  (wr M 53 3 1 0).bind fun M1 => (wr M1 53 3 2 1).bind fun M2 => (f_X6_beginNumber 0 M2).bind fun r3 => some r3
def f_X6_takesDigit_j68 (v1 : Int32) (v2 : Int32) (v3 : Int32) (M : Mem) : Option (Int32 × Mem) :=
  if v3 = 0 then (bz v3).bind fun x5 => some (x5, M) else (wr M 53 3 (M 48 7) ((10 * v2) + v1)).bind fun M6 => (bz v3).bind fun x7 => some (x7, M6)
def f_X6_takesDigit_j67 (v1 : Int32) (v2 : Int32) (s0 : Int32) (M : Mem) : Option (Int32 × Mem) :=
  f_X6_takesDigit_j68 v1 v2 s0 M
def f_X6_takesDigit_j66 (v1 : Int32) (v2 : Int32) (M : Mem) : Option (Int32 × Mem) :=
  f_X6_takesDigit_j67 v1 v2 0 M
def f_X6_takesDigit_j35 (v1 : Int32) (s0 : Int32) (M : Mem) : Option (Int32 × Mem) :=
  f_X6_takesDigit_j68 v1 0 s0 M
def f_X6_takesDigit_j30 (v1 : Int32) (M : Mem) : Option (Int32 × Mem) :=
  f_X6_takesDigit_j35 v1 1 M
def f_X6_takesDigit (a1 : Int32) (M : Mem) : Option (Int32 × Mem) :=
  (rd M 53 3 (M 48 7)).bind fun x1 => if x1 = (-1) then if 0 < a1 then f_X6_takesDigit_j30 a1 M else (rdS 3 (M 48 7)).bind fun x11 => if x11 = 0 then f_X6_takesDigit_j30 a1 M else f_X6_takesDigit_j35 a1 0 M else if x1 ≤ 0 then f_X6_takesDigit_j66 a1 x1 M else (rdS 4 (M 48 7)).bind fun x8 => if x8 < ((10 * x1) + a1) then f_X6_takesDigit_j66 a1 x1 M else f_X6_takesDigit_j67 a1 x1 1 M
def f_X6_numberIsWhole (M : Mem) : Option (Int32) :=
  (rd M 53 3 (M 48 7)).bind fun x1 => if x1 = (-1) then some 0 else (rd M 53 3 (M 48 7)).bind fun x3 => (rdS 3 (M 48 7)).bind fun x4 => if x3 < x4 then some 0 else some 1
def f_X6_endPart (M : Mem) : Option (Mem) :=
  if 30 ≤ (M 48 5) then some M else (rd M 53 3 0).bind fun x2 => (wr M 50 30 (M 48 5) x2).bind fun M3 => (rd M3 53 3 1).bind fun x4 => (wr M3 51 30 (M3 48 5) x4).bind fun M5 => (rd M5 53 3 2).bind fun x6 => (wr M5 52 30 (M5 48 5) x6).bind fun M7 => (stf M7 48 5 ((M7 48 5) + 1)).bind fun M8 => some M8
def f_X6_takes_j71 (v1 : Int32) (M : Mem) : Option (Int32 × Mem) :=
  if v1 = 59 then (f_X6_endPart M).bind fun r7 => (f_X6_beginPart r7).bind fun r8 => some (1, r8) else some (0, M)
def f_X6_takes_j50 (v1 : Int32) (M : Mem) : Option (Int32 × Mem) :=
  if v1 = 42 then if (M 48 7) = 2 then f_X6_takes_j71 v1 M else (f_X6_beginNumber 2 M).bind fun r10 => some (1, r10) else f_X6_takes_j71 v1 M
def f_X6_takes_j21 (v1 : Int32) (M : Mem) : Option (Int32 × Mem) :=
  (f_X6_numberIsWhole M).bind fun r2 => if r2 = 0 then some (0, M) else if v1 = 64 then if (M 48 7) = 0 then (f_X6_beginNumber 1 M).bind fun r12 => some (1, r12) else f_X6_takes_j50 v1 M else f_X6_takes_j50 v1 M
def f_X6_takes (a1 : Int32) (M : Mem) : Option (Int32 × Mem) :=
  if a1 < 48 then f_X6_takes_j21 a1 M else if 57 < a1 then f_X6_takes_j21 a1 M else (f_X6_takesDigit (a1 - 48) M).bind fun r14 => (bz r14.1).bind fun x15 => some (x15, r14.2)
def f_X6_read_l11 (z : Int32 × Mem) : Option ((Int32 × Mem) ⊕ (Int32 × Mem)) :=
  if (z.2 48 1) ≤ z.1 then some (.inr (z.1, z.2)) else (rd z.2 49 60 z.1).bind fun x4 => (f_X6_takes x4 z.2).bind fun r5 => if r5.1 = 0 then some (.inr (z.1, r5.2)) else some (.inl ((z.1 + 1), r5.2))
def f_X6_read (M : Mem) : Option (Int32 × Mem) :=
  (stf M 48 5 0).bind fun M1 => (f_X6_beginPart M1).bind fun r2 => (loopN (f_X6_read_l11) FU (0, r2)).bind fun o7 => some (o7.1, o7.2)
def f_X6_isWhole (M : Mem) : Option (Int32 × Mem) :=
  (f_X6_read M).bind fun r1 => if r1.1 < (r1.2 48 1) then some (0, r1.2) else (f_X6_numberIsWhole r1.2).bind fun r3 => if r3 = 0 then some (0, r1.2) else (f_X6_endPart r1.2).bind fun r5 => some (1, r5)
def f_X6_minutesInParts_l4 (M : Mem) (z : Int32 × Int32) : Option ((Int32 × Int32) ⊕ (Int32)) :=
  if (M 48 5) ≤ z.2 then some (.inr z.1) else (rd M 52 30 z.2).bind fun x2 => some (.inl ((z.1 + x2), (z.2 + 1)))
def f_X6_minutesInParts (M : Mem) : Option (Int32) :=
  (loopN (f_X6_minutesInParts_l4 M) FU (0, 0)).bind fun o3 => some o3
def f_X7_takeSettings (b0 : Nat) (c1 : Nat) (M : Mem) : Option (Mem) :=
  (cpy M c1 10 0 (b0 + 1) 10 0 10).bind fun M1 => some M1
def f_X7_look (b0 : Nat) (b1 : Nat) (M : Mem) : Option (Mem) :=
  (f_X4_moveArms (b0 + 2) b1 (b0 + 1) M).bind fun r1 => (f_X4_judge (b0 + 2) b1 (b0 + 1) r1).bind fun r2 => (f_X4_tally (b0 + 2) (b0 + 1) r2).bind fun r3 => (f_X0_find (b0 + 6) (b0 + 2) (b0 + 1) r3).bind fun r4 => (rd r4 (b0 + 1) 10 7).bind fun x5 => (f_X3_match (b0 + 13) b1 (b0 + 6) x5 r4).bind fun r6 => some r6
def f_X7_numberOf (b0 : Nat) (a1 : Int32) (M : Mem) : Option (Int32) :=
  if a1 = 0 then some (M (b0 + 2) 3) else if a1 = 1 then some (M (b0 + 2) 4) else if a1 = 2 then some ((M (b0 + 2) 3) - (M (b0 + 2) 4)) else if a1 = 3 then some (M (b0 + 2) 5) else if a1 = 4 then some (M (b0 + 2) 6) else if a1 = 5 then some (M (b0 + 6) 6) else if a1 = 6 then some (M (b0 + 13) 3) else if a1 = 7 then some (M (b0 + 13) 4) else if a1 = 8 then (f_X0_weightOfAll (b0 + 6) M).bind fun r10 => some r10 else if a1 = 9 then (f_X0_heaviest (b0 + 6) M).bind fun r12 => some r12 else if (M (b0 + 6) 7) = 0 then some 0 else some 1
def f_X7_isAboveWithLimit_j34 (b0 : Nat) (v1 : Int32) (s0 : Int32) (M : Mem) : Option (Int32) :=
  (rd M (b0 + 2 + 2) 200 v1).bind fun x5 => if x5 ≤ (10 * s0) then some 0 else some 1
def f_X7_isAboveWithLimit (b0 : Nat) (a1 : Int32) (a2 : Int32) (M : Mem) : Option (Int32) :=
  (f_X4_isCounted (b0 + 2) a1 M).bind fun r1 => if r1 = 0 then some 0 else (f_X8_isRest (b0 + 1) a1 M).bind fun r3 => if r3 = 0 then f_X7_isAboveWithLimit_j34 b0 a1 a2 M else (rd M (b0 + 1) 10 1).bind fun x7 => f_X7_isAboveWithLimit_j34 b0 a1 x7 M
def f_X7_exceedancesWithLimit_j54 (b0 : Nat) (v1 : Int32) (v2 : Int32) (v3 : Int32) (v4 : Int32) (v5 : Int32) (M : Mem) : Option ((Int32 × Int32 × Int32) ⊕ (Int32)) :=
  some (.inl (v3, v4, (v5 + 1)))
def f_X7_exceedancesWithLimit_j46 (b0 : Nat) (v1 : Int32) (v2 : Int32) (v4 : Int32) (v5 : Int32) (M : Mem) : Option ((Int32 × Int32 × Int32) ⊕ (Int32)) :=
  f_X7_exceedancesWithLimit_j54 b0 v1 v2 0 v4 v5 M
def f_X7_exceedancesWithLimit_l16 (b0 : Nat) (v1 : Int32) (v2 : Int32) (M : Mem) (z : Int32 × Int32 × Int32) : Option ((Int32 × Int32 × Int32) ⊕ (Int32)) :=
  if (M (b0 + 2) 3) ≤ z.2.2 then some (.inr z.2.1) else (f_X7_isAboveWithLimit b0 z.2.2 v1 M).bind fun r3 => if r3 = 0 then f_X7_exceedancesWithLimit_j54 b0 v1 v2 (z.1 + 1) z.2.1 z.2.2 M else if z.1 < v2 then f_X7_exceedancesWithLimit_j46 b0 v1 v2 z.2.1 z.2.2 M else f_X7_exceedancesWithLimit_j46 b0 v1 v2 (z.2.1 + 1) z.2.2 M
def f_X7_exceedancesWithLimit (b0 : Nat) (a1 : Int32) (M : Mem) : Option (Int32) :=
  (rd M (b0 + 1) 10 6).bind fun x1 => (loopN (f_X7_exceedancesWithLimit_l16 b0 a1 x1 M) FU (x1, 0, 0)).bind fun o6 => some o6
def f_X7_leastLimitFor_l2 (b0 : Nat) (v1 : Int32) (M : Mem) (z : Int32) : Option ((Int32) ⊕ ((Unit) ⊕ (Int32))) :=
  if 140 < z then some (.inr (.inl ())) else (f_X7_exceedancesWithLimit b0 z M).bind fun r2 => if v1 < r2 then some (.inl (z + 1)) else some (.inr (.inr z))
def f_X7_leastLimitFor (b0 : Nat) (a1 : Int32) (M : Mem) : Option (Int32) :=
  (loopN (f_X7_leastLimitFor_l2 b0 a1 M) FU 0).bind fun o4 => Sum.elim (fun o4 => some (-1)) (fun r5 => some r5) o4
def f_X7_minutesUntilAbove_j82 (b0 : Nat) (v1 : Int32) (v2 : Int32) (v3 : Int32) (M : Mem) : Option ((Int32 × Int32) ⊕ ((Unit) ⊕ (Int32))) :=
  some (.inl (v2, (v3 + 1)))
def f_X7_minutesUntilAbove_l10 (b0 : Nat) (v1 : Int32) (M : Mem) (z : Int32 × Int32) : Option ((Int32 × Int32) ⊕ ((Unit) ⊕ (Int32))) :=
  if 100 < z.2 then some (.inr (.inl ())) else (rd M (b0 + 1) 10 9).bind fun x3 => (f_X8_moved z.1 v1 x3 M).bind fun r4 => (rd M (b0 + 1) 10 5).bind fun x5 => (f_X4_isSoonAfterWind (b0 + 2) (((M (b0 + 2) 3) + z.2) - 1) x5 M).bind fun r6 => if r6 = 0 then (f_X8_limitAt (b0 + 1) (((M (b0 + 2) 3) + z.2) - 1) M).bind fun r8 => if r4 ≤ (10 * r8) then f_X7_minutesUntilAbove_j82 b0 v1 r4 z.2 M else some (.inr (.inr z.2)) else f_X7_minutesUntilAbove_j82 b0 v1 r4 z.2 M
def f_X7_minutesUntilAbove (b0 : Nat) (a1 : Int32) (M : Mem) : Option (Int32) :=
  (f_X4_lastSlowPlace (b0 + 2) M).bind fun r1 => (loopN (f_X7_minutesUntilAbove_l10 b0 a1 M) FU (r1, 1)).bind fun o10 => Sum.elim (fun o10 => some (-1)) (fun r11 => some r11) o10
def f_X8_isSetting (a0 : Int32) (M : Mem) : Option (Int32) :=
  if a0 < 0 then some 0 else if 10 ≤ a0 then some 0 else some 1
def f_X8_fitsSetting (a0 : Int32) (a1 : Int32) (M : Mem) : Option (Int32) :=
  (f_X8_isSetting a0 M).bind fun r1 => if r1 = 0 then some 0 else (rdS 0 a0).bind fun x3 => if a1 < x3 then some 0 else (rdS 1 a0).bind fun x5 => if x5 < a1 then some 0 else some 1
def f_X8_readAgain (M : Mem) : Option (Mem) :=
  (f_X7_takeSettings 54 4 M).bind fun r1 => (f_X7_look 54 1 r1).bind fun r2 => (f_X2_tally 56 r2).bind fun r3 => some r3
def f_X8_isLevel (a0 : Int32) (M : Mem) : Option (Int32) :=
  if a0 < 0 then some 0 else if 140 < a0 then some 0 else some 1
def f_X8_isWind (a0 : Int32) (M : Mem) : Option (Int32) :=
  if a0 < 0 then some 0 else if 40 < a0 then some 0 else some 1
def f_X8_clearBuffer (M : Mem) : Option (Int32 × Mem) :=
  (stf M 48 1 0).bind fun M1 => some ((M 48 1), M1)
def f_X8_firstError (M : Mem) : Option (Int32 × Mem) :=
  (f_X6_read M).bind fun r1 => some (r1.1, r1.2)
def f_X8_minuteProperty (a1 : Int32) (a2 : Int32) (M : Mem) : Option (Int32) :=
  if a2 = 0 then (rd M 2 200 a1).bind fun x2 => some x2 else if a2 = 1 then (rd M 3 200 a1).bind fun x4 => some x4 else if a2 = 2 then (rd M 57 200 a1).bind fun x6 => some x6 else if a2 = 3 then (rd M 58 200 a1).bind fun x8 => some x8 else if a2 = 4 then (f_X8_limitAt 4 a1 M).bind fun r10 => some r10 else if a2 = 5 then (f_X8_isRest 4 a1 M).bind fun r12 => if r12 = 0 then some 0 else some 1 else if a2 = 6 then (rd M 59 200 a1).bind fun x15 => some x15 else (rd M 66 200 a1).bind fun x16 => some x16
def f_X8_exceedanceProperty (a1 : Int32) (a2 : Int32) (M : Mem) : Option (Int32) :=
  if a2 = 0 then (rd M 61 100 a1).bind fun x2 => some x2 else if a2 = 1 then (rd M 62 100 a1).bind fun x4 => some x4 else if a2 = 2 then (rd M 63 100 a1).bind fun x6 => some x6 else if a2 = 3 then (rd M 64 100 a1).bind fun x8 => some x8 else if a2 = 4 then (rd M 65 100 a1).bind fun x10 => some x10 else (rd M 69 100 a1).bind fun x11 => some x11
def f_X8_complaintProperty (a1 : Int32) (a2 : Int32) (M : Mem) : Option (Int32) :=
  if a2 = 0 then (rd M 5 20 a1).bind fun x3 => some x3 else (rd M 68 20 a1).bind fun x2 => some x2
def f_X8_numberOf (a1 : Int32) (M : Mem) : Option (Int32) :=
  if a1 = 10 then some (M 46 2) else (f_X7_numberOf 54 a1 M).bind fun r2 => some r2
def f_X8_share (M : Mem) : Option (UInt64) :=
  (f_X4_shareAbove 56 M).bind fun r1 => some r1
def f_X8_mixed (a0 : Int64) (a2 : Int64) (M : Mem) : Option (Int64) :=
  some ((31 * a0) + a2)
def f_X8_withMinutes_l16 (v3 : Int32) (M : Mem) (z : Int64 × Int32) : Option ((Int64 × Int32) ⊕ (Int64)) :=
  if 7 < z.2 then some (.inr z.1) else (f_X8_minuteProperty v3 z.2 M).bind fun r3 => (f_X8_mixed z.1 (Int32.toInt64 r3) M).bind fun r4 => some (.inl (r4, (z.2 + 1)))
def f_X8_withMinutes_l2 (M : Mem) (z : Int64 × Int32) : Option ((Int64 × Int32) ⊕ (Int64)) :=
  if (M 1 4) ≤ z.2 then some (.inr z.1) else (loopN (f_X8_withMinutes_l16 z.2 M) FU (z.1, 0)).bind fun o5 => some (.inl (o5, (z.2 + 1)))
def f_X8_withMinutes (a1 : Int64) (M : Mem) : Option (Int64) :=
  (loopN (f_X8_withMinutes_l2 M) FU (a1, 0)).bind fun o6 => some o6
def f_X8_withExceedances_l19 (v3 : Int32) (M : Mem) (z : Int64 × Int32) : Option ((Int64 × Int32) ⊕ (Int64)) :=
  if 5 < z.2 then some (.inr z.1) else (f_X8_exceedanceProperty v3 z.2 M).bind fun r3 => (f_X8_mixed z.1 (Int32.toInt64 r3) M).bind fun r4 => some (.inl (r4, (z.2 + 1)))
def f_X8_withExceedances_l2 (M : Mem) (z : Int64 × Int32) : Option ((Int64 × Int32) ⊕ (Int64)) :=
  if (M 60 6) ≤ z.2 then some (.inr z.1) else (loopN (f_X8_withExceedances_l19 z.2 M) FU (z.1, 0)).bind fun o5 => some (.inl (o5, (z.2 + 1)))
def f_X8_withExceedances (a1 : Int64) (M : Mem) : Option (Int64) :=
  (loopN (f_X8_withExceedances_l2 M) FU (a1, 0)).bind fun o6 => some o6
def f_X8_withComplaints_l2 (M : Mem) (z : Int64 × Int32) : Option ((Int64 × Int32) ⊕ (Int64)) :=
  if (M 1 5) ≤ z.2 then some (.inr z.1) else (f_X8_complaintProperty z.2 0 M).bind fun r2 => (f_X8_mixed z.1 (Int32.toInt64 r2) M).bind fun r3 => (f_X8_complaintProperty z.2 1 M).bind fun r4 => (f_X8_mixed r3 (Int32.toInt64 r4) M).bind fun r5 => some (.inl (r5, (z.2 + 1)))
def f_X8_withComplaints (a1 : Int64) (M : Mem) : Option (Int64) :=
  (loopN (f_X8_withComplaints_l2 M) FU (a1, 0)).bind fun o6 => some o6
def f_X8_withLevels_l2 (M : Mem) (z : Int64 × Int32) : Option ((Int64 × Int32) ⊕ (Int64)) :=
  if 140 < z.2 then some (.inr z.1) else (rd M 89 141 z.2).bind fun x2 => (f_X8_mixed z.1 (Int32.toInt64 x2) M).bind fun r3 => some (.inl (r3, (z.2 + 10)))
def f_X8_withLevels (a1 : Int64) (M : Mem) : Option (Int64) :=
  (loopN (f_X8_withLevels_l2 M) FU (a1, 0)).bind fun o4 => (f_X2_levelOfPercent 1 (M 56 4) M).bind fun r5 => (f_X8_mixed o4 (Int32.toInt64 r5) M).bind fun r6 => (f_X2_levelOfPercent 10 (M 56 4) M).bind fun r7 => (f_X8_mixed r6 (Int32.toInt64 r7) M).bind fun r8 => (f_X2_levelOfPercent 50 (M 56 4) M).bind fun r9 => (f_X8_mixed r8 (Int32.toInt64 r9) M).bind fun r10 => (f_X2_levelOfPercent 90 (M 56 4) M).bind fun r11 => (f_X8_mixed r10 (Int32.toInt64 r11) M).bind fun r12 => (f_X2_levelOfPercent 100 (M 56 4) M).bind fun r13 => (f_X8_mixed r12 (Int32.toInt64 r13) M).bind fun r14 => some r14
def f_X8_bitsOf_l18 (M : Mem) (z : UInt64 × Int64 × Int32) : Option ((UInt64 × Int64 × Int32) ⊕ (UInt64 × Int64)) :=
  if 60 ≤ z.2.2 then some (.inr (z.1, z.2.1)) else if 0 ≤ (Op.cmpValue (FP.dcmp z.1 0x3ff0000000000000) .g) then some (.inr (z.1, z.2.1)) else (dml z.1 4611686018427387904).bind fun x4 => some (.inl (x4, (z.2.1 - 1), (z.2.2 + 1)))
def f_X8_bitsOf_j49 (v2 : UInt64) (v4 : Int64) (M : Mem) : Option (Int64) :=
  (dsb v2 0x3ff0000000000000).bind fun x6 => (dml x6 4841369599423283200).bind fun x7 => some ((v4 <<< (Int32.toInt64 52 &&& 63)) + (FP.d2l x7))
def f_X8_bitsOf (a0 : UInt64) (M : Mem) : Option (Int64) :=
  if 0 < (Op.cmpValue (FP.dcmp a0 0) .g) then (loopN (f_X8_bitsOf_l18 M) FU (a0, 1023, 0)).bind fun o5 => f_X8_bitsOf_j49 o5.1 o5.2 M else some 0
def f_X8_withBuffer_l15 (M : Mem) (z : Int64 × Int32) : Option ((Int64 × Int32) ⊕ (Int64)) :=
  if (M 48 1) ≤ z.2 then some (.inr z.1) else (rd M 49 60 z.2).bind fun x3 => (f_X8_mixed z.1 (Int32.toInt64 x3) M).bind fun r4 => some (.inl (r4, (z.2 + 1)))
def f_X8_withBuffer (a1 : Int64) (M : Mem) : Option (Int64) :=
  (f_X8_mixed a1 (Int32.toInt64 (M 48 1)) M).bind fun r1 => (loopN (f_X8_withBuffer_l15 M) FU (r1, 0)).bind fun o5 => some o5
def f_X8_digest_l6 (M : Mem) (z : Int64 × Int32) : Option ((Int64 × Int32) ⊕ (Int64)) :=
  if 11 < z.2 then some (.inr z.1) else (f_X8_numberOf z.2 M).bind fun r2 => (f_X8_mixed z.1 (Int32.toInt64 r2) M).bind fun r3 => some (.inl (r3, (z.2 + 1)))
def f_X8_digest_l31 (M : Mem) (z : Int64 × Int32) : Option ((Int64 × Int32) ⊕ (Int64)) :=
  if 10 ≤ z.2 then some (.inr z.1) else (rd M 4 10 z.2).bind fun x6 => (f_X8_mixed z.1 (Int32.toInt64 x6) M).bind fun r7 => some (.inl (r7, (z.2 + 1)))
def f_X8_digest (M : Mem) : Option (Int64) :=
  (loopN (f_X8_digest_l6 M) FU (2161, 0)).bind fun o4 => (loopN (f_X8_digest_l31 M) FU (o4, 0)).bind fun o8 => (f_X8_withMinutes o8 M).bind fun r9 => (f_X8_withExceedances r9 M).bind fun r10 => (f_X8_withComplaints r10 M).bind fun r11 => (f_X8_withLevels r11 M).bind fun r12 => (f_X7_leastLimitFor 54 1 M).bind fun r13 => (f_X8_mixed r12 (Int32.toInt64 r13) M).bind fun r14 => (f_X7_minutesUntilAbove 54 80 M).bind fun r15 => (f_X8_mixed r14 (Int32.toInt64 r15) M).bind fun r16 => (f_X4_shareAbove 56 M).bind fun r17 => (f_X8_bitsOf r17 M).bind fun r18 => (f_X8_mixed r16 r18 M).bind fun r19 => (f_X8_withBuffer r19 M).bind fun r20 => some r20
def f_X9_thrown (M : Mem) : Option (Int32) :=
  some (M 90 0)
def f_X9_within (a0 : Int32) (a1 : Int32) (a2 : Int32) (M : Mem) : Option (Int32) :=
  if a0 < a1 then some 0 else if a2 < a0 then some 0 else some 1
def f_X9_of (a1 : Int32) (M : Mem) : Option (Int32) :=
  (rd M 91 432 (401 + a1)).bind fun x1 => some x1
def f_X9_isMinute (a1 : Int32) (M : Mem) : Option (Int32) :=
  (rd M 91 432 0).bind fun x1 => (f_X9_within a1 0 (x1 - 1) M).bind fun r2 => (bz r2).bind fun x3 => some x3
def f_X9_isRest (a1 : Int32) (M : Mem) : Option (Int32) :=
  (f_X9_of 2 M).bind fun r1 => (rmI ((a1 - r1) + 60) 60).bind fun x2 => (f_X9_of 3 M).bind fun r3 => if r3 ≤ x2 then some 0 else some 1
def f_X9_limitOf_j14 (s1 : Int32) (M : Mem) : Option (Int32) :=
  (f_X9_of s1 M).bind fun r3 => some r3
def f_X9_limitOf (a1 : Int32) (M : Mem) : Option (Int32) :=
  (f_X9_isRest a1 M).bind fun r1 => if r1 = 0 then f_X9_limitOf_j14 0 M else f_X9_limitOf_j14 1 M
def f_X9_whyNot_l20 (v1 : Int32) (M : Mem) (z : Int32) : Option ((Int32) ⊕ ((Unit) ⊕ (Int32))) :=
  if z < 0 then some (.inr (.inl ())) else (f_X9_of 5 M).bind fun r5 => if z < (v1 - r5) then some (.inr (.inl ())) else (rd M 95 300 z).bind fun x7 => (f_X9_of 4 M).bind fun r8 => if x7 < r8 then some (.inl (z + (-1))) else some (.inr (.inr 2))
def f_X9_whyNot_j57 (v1 : Int32) (M : Mem) : Option (Int32) :=
  (rd M 97 300 v1).bind fun x11 => (f_X9_limitOf v1 M).bind fun r12 => if x11 ≤ (10 * r12) then some 3 else some 0
def f_X9_whyNot (a1 : Int32) (M : Mem) : Option (Int32) :=
  (rd M 95 300 a1).bind fun x1 => (f_X9_of 4 M).bind fun r2 => if x1 < r2 then (loopN (f_X9_whyNot_l20 a1 M) FU (a1 - 1)).bind fun o10 => Sum.elim (fun o10 => f_X9_whyNot_j57 a1 M) (fun r14 => some r14) o10 else some 1
def f_X9_layArms_j43 (v1 : Int32) (v2 : Int32) (s0 : Int32) (M : Mem) : Option ((Int32 × Mem) ⊕ (Mem)) :=
  (rd M 94 300 v1).bind fun x6 => (f_X9_of 8 M).bind fun r7 => (dvI ((10 * x6) - v2) r7).bind fun x8 => (wr M 96 300 v1 (v2 + x8)).bind fun M9 => (rd M9 94 300 v1).bind fun x10 => (f_X9_of 9 M9).bind fun r11 => (dvI ((10 * x10) - s0) r11).bind fun x12 => (wr M9 97 300 v1 (s0 + x12)).bind fun M13 => some (.inl ((v1 + 1), M13))
def f_X9_layArms_j26 (v1 : Int32) (s0 : Int32) (M : Mem) : Option ((Int32 × Mem) ⊕ (Mem)) :=
  if v1 = 0 then f_X9_layArms_j43 v1 s0 0 M else (rd M 97 300 (v1 - 1)).bind fun x5 => f_X9_layArms_j43 v1 s0 x5 M
def f_X9_layArms_l2 (z : Int32 × Mem) : Option ((Int32 × Mem) ⊕ (Mem)) :=
  if (z.2 90 6) ≤ z.1 then some (.inr z.2) else if z.1 = 0 then f_X9_layArms_j26 z.1 0 z.2 else (rd z.2 96 300 (z.1 - 1)).bind fun x3 => f_X9_layArms_j26 z.1 x3 z.2
def f_X9_layArms (M : Mem) : Option (Mem) :=
  (loopN (f_X9_layArms_l2) FU (0, M)).bind fun o14 => some o14
def f_X9_addMinute_j52 (v1 : Int32) (v2 : Int32) (s1 : Int32) (s2 : Int32) (M : Mem) : Option (Mem) :=
  (wr M 103 300 s1 s2).bind fun M8 => (rd M8 104 300 v1).bind fun x9 => (rd M8 97 300 v2).bind fun x10 => (f_X9_limitOf v2 M8).bind fun r11 => (wr M8 104 300 v1 (x9 + (x10 - (10 * r11)))).bind fun M12 => some M12
def f_X9_addMinute (a1 : Int32) (a2 : Int32) (M : Mem) : Option (Mem) :=
  (wr M 101 300 a1 a2).bind fun M1 => (rd M1 102 300 a1).bind fun x2 => (wr M1 102 300 a1 (x2 + 1)).bind fun M3 => (rd M3 96 300 a2).bind fun x4 => (rd M3 103 300 a1).bind fun x5 => if x4 ≤ x5 then (rd M3 103 300 a1).bind fun x7 => f_X9_addMinute_j52 a1 a2 a1 x7 M3 else (rd M3 96 300 a2).bind fun x13 => f_X9_addMinute_j52 a1 a2 a1 x13 M3
def f_X9_layExceedances_j157 (v1 : Int32) (M : Mem) : Option ((Int32 × Mem) ⊕ (Mem)) :=
  some (.inl ((v1 + 1), M))
def f_X9_layExceedances_j109 (v1 : Int32) (M : Mem) : Option ((Int32 × Mem) ⊕ (Mem)) :=
  (f_X9_addMinute ((M 90 13) - 1) v1 M).bind fun r15 => f_X9_layExceedances_j157 v1 r15
def f_X9_layExceedances_l12 (z : Int32 × Mem) : Option ((Int32 × Mem) ⊕ (Mem)) :=
  if (z.2 90 6) ≤ z.1 then some (.inr z.2) else (f_X9_whyNot z.1 z.2).bind fun r4 => (wr z.2 98 300 z.1 r4).bind fun M5 => (wr M5 99 300 z.1 (-1)).bind fun M6 => (rd M6 98 300 z.1).bind fun x7 => if x7 = 0 then if (M6 90 19) = 0 then (wr M6 100 300 (M6 90 13) z.1).bind fun M16 => (wr M16 102 300 (M16 90 13) 0).bind fun M17 => (wr M17 103 300 (M17 90 13) 0).bind fun M18 => (wr M18 104 300 (M18 90 13) 0).bind fun M19 => (stf M19 90 13 ((M19 90 13) + 1)).bind fun M20 => (stz M20 90 19 1).bind fun M21 => f_X9_layExceedances_j109 z.1 M21 else f_X9_layExceedances_j109 z.1 M6 else if (M6 90 19) = 0 then f_X9_layExceedances_j157 z.1 M6 else (rd M6 101 300 ((M6 90 13) - 1)).bind fun x10 => (f_X9_of 6 M6).bind fun r11 => if (z.1 - x10) = r11 then (stz M6 90 19 0).bind fun M13 => f_X9_layExceedances_j157 z.1 M13 else f_X9_layExceedances_j157 z.1 M6
def f_X9_layExceedances_l180 (v1 : Int32) (z : Int32 × Mem) : Option ((Int32 × Mem) ⊕ (Mem)) :=
  (rd z.2 101 300 v1).bind fun x25 => if x25 < z.1 then some (.inr z.2) else (wr z.2 99 300 z.1 v1).bind fun M27 => some (.inl ((z.1 + 1), M27))
def f_X9_layExceedances_l165 (z : Int32 × Mem) : Option ((Int32 × Mem) ⊕ (Mem)) :=
  if (z.2 90 13) ≤ z.1 then some (.inr z.2) else (rd z.2 100 300 z.1).bind fun x24 => (loopN (f_X9_layExceedances_l180 z.1) FU (x24, z.2)).bind fun o28 => some (.inl ((z.1 + 1), o28))
def f_X9_layExceedances (M : Mem) : Option (Mem) :=
  (stf M 90 13 0).bind fun M1 => (stz M1 90 19 0).bind fun M2 => (loopN (f_X9_layExceedances_l12) FU (0, M2)).bind fun o22 => (loopN (f_X9_layExceedances_l165) FU (0, o22)).bind fun o29 => some o29
def f_X9_lay_j90 (v2 : Int32) (v3 : Int32) (s1 : Int32) (s2 : Int32) (M : Mem) : Option ((Int32 × Mem) ⊕ (Mem)) :=
  (wr M 95 300 s1 s2).bind fun M9 => some (.inl ((v3 + 1), M9))
def f_X9_lay_j63 (v2 : Int32) (v3 : Int32) (v4 : Int32) (s1 : Int32) (s2 : Int32) (M : Mem) : Option ((Int32 × Mem) ⊕ (Mem)) :=
  (wr M 94 300 s1 s2).bind fun M7 => if v4 = 0 then f_X9_lay_j90 v2 v3 v3 0 M7 else (rd M7 91 432 ((1 + (2 * v3)) + 1)).bind fun x10 => f_X9_lay_j90 v2 v3 v3 x10 M7
def f_X9_lay_j37 (v2 : Int32) (v3 : Int32) (s0 : Int32) (M : Mem) : Option ((Int32 × Mem) ⊕ (Mem)) :=
  if s0 = 0 then f_X9_lay_j63 v2 v3 s0 v3 v2 M else (rd M 91 432 (1 + (2 * v3))).bind fun x11 => f_X9_lay_j63 v2 v3 s0 v3 x11 M
def f_X9_lay_l14 (v2 : Int32) (z : Int32 × Mem) : Option ((Int32 × Mem) ⊕ (Mem)) :=
  if (z.2 90 6) ≤ z.1 then some (.inr z.2) else (rd z.2 91 432 0).bind fun x4 => if x4 ≤ z.1 then f_X9_lay_j37 v2 z.1 0 z.2 else f_X9_lay_j37 v2 z.1 1 z.2
def f_X9_lay (a1 : Int32) (a2 : Int32) (M : Mem) : Option (Mem) :=
  (rd M 91 432 0).bind fun x1 => (stf M 90 6 (x1 + a1)).bind fun M2 => (loopN (f_X9_lay_l14 a2) FU (0, M2)).bind fun o12 => (f_X9_layArms o12).bind fun r13 => (f_X9_layExceedances r13).bind fun r14 => some r14
def f_X9_matchFor_j86 (v1 : Int32) (v3 : Int32) (s0 : Int32) (M : Mem) : Option ((Int32 × Int32) ⊕ (Int32)) :=
  some (.inl (s0, (v3 + 1)))
def f_X9_matchFor_j85 (v1 : Int32) (v2 : Int32) (v3 : Int32) (M : Mem) : Option ((Int32 × Int32) ⊕ (Int32)) :=
  f_X9_matchFor_j86 v1 v3 v2 M
def f_X9_matchFor_j81 (v1 : Int32) (v3 : Int32) (M : Mem) : Option ((Int32 × Int32) ⊕ (Int32)) :=
  f_X9_matchFor_j86 v1 v3 v3 M
def f_X9_matchFor_j54 (v1 : Int32) (v2 : Int32) (v3 : Int32) (s0 : Int32) (M : Mem) : Option ((Int32 × Int32) ⊕ (Int32)) :=
  if s0 = 0 then f_X9_matchFor_j85 v1 v2 v3 M else if v2 = (-1) then f_X9_matchFor_j81 v1 v3 M else (rd M 103 300 v3).bind fun x6 => (rd M 103 300 v2).bind fun x7 => if x6 ≤ x7 then f_X9_matchFor_j85 v1 v2 v3 M else f_X9_matchFor_j81 v1 v3 M
def f_X9_matchFor_j53 (v1 : Int32) (v2 : Int32) (v3 : Int32) (M : Mem) : Option ((Int32 × Int32) ⊕ (Int32)) :=
  f_X9_matchFor_j54 v1 v2 v3 0 M
def f_X9_matchFor_l4 (v1 : Int32) (M : Mem) (z : Int32 × Int32) : Option ((Int32 × Int32) ⊕ (Int32)) :=
  if (M 90 13) ≤ z.2 then some (.inr z.1) else (rd M 106 300 z.2).bind fun x2 => if x2 = (-1) then (rd M 100 300 z.2).bind fun x9 => if v1 < x9 then f_X9_matchFor_j53 v1 z.1 z.2 M else (rd M 101 300 z.2).bind fun x11 => (f_X9_of 7 M).bind fun r12 => if x11 < (v1 - r12) then f_X9_matchFor_j53 v1 z.1 z.2 M else f_X9_matchFor_j54 v1 z.1 z.2 1 M else f_X9_matchFor_j53 v1 z.1 z.2 M
def f_X9_matchFor (a1 : Int32) (M : Mem) : Option (Int32) :=
  (loopN (f_X9_matchFor_l4 a1 M) FU ((-1), 0)).bind fun o14 => some o14
def f_X9_layMatches_l2 (z : Int32 × Mem) : Option ((Int32 × Mem) ⊕ (Mem)) :=
  if (z.2 90 13) ≤ z.1 then some (.inr z.2) else (wr z.2 106 300 z.1 (-1)).bind fun M2 => some (.inl ((z.1 + 1), M2))
def f_X9_layMatches_j93 (v1 : Int32) (v2 : Int32) (M : Mem) : Option ((Int32 × Mem) ⊕ (Mem)) :=
  some (.inl ((v2 + 1), M))
def f_X9_layMatches_l34 (v1 : Int32) (z : Int32 × Mem) : Option ((Int32 × Mem) ⊕ (Mem)) :=
  (rd z.2 91 432 411).bind fun x5 => if x5 ≤ z.1 then some (.inr z.2) else (rd z.2 91 432 (412 + z.1)).bind fun x7 => if x7 = v1 then (f_X9_matchFor v1 z.2).bind fun r9 => (wr z.2 105 20 z.1 r9).bind fun M10 => (rd M10 105 20 z.1).bind fun x11 => if x11 = (-1) then f_X9_layMatches_j93 v1 z.1 M10 else (rd M10 105 20 z.1).bind fun x13 => (wr M10 106 300 x13 z.1).bind fun M14 => f_X9_layMatches_j93 v1 z.1 M14 else f_X9_layMatches_j93 v1 z.1 z.2
def f_X9_layMatches_l25 (z : Int32 × Mem) : Option ((Int32 × Mem) ⊕ (Mem)) :=
  if 300 < z.1 then some (.inr z.2) else (loopN (f_X9_layMatches_l34 z.1) FU (0, z.2)).bind fun o15 => some (.inl ((z.1 + 1), o15))
def f_X9_layMatches (M : Mem) : Option (Mem) :=
  (loopN (f_X9_layMatches_l2) FU (0, M)).bind fun o3 => (loopN (f_X9_layMatches_l25) FU (0, o3)).bind fun o16 => some o16
def f_X9_layAll (M : Mem) : Option (Mem) :=
  (f_X9_lay 0 0 M).bind fun r1 => (f_X9_layMatches r1).bind fun r2 => some r2
def f_X9_save_l54 (z : Int32 × Mem) : Option ((Int32 × Mem) ⊕ (Mem)) :=
  if 432 ≤ z.1 then some (.inr z.2) else (rd z.2 91 432 z.1).bind fun x3 => (wr z.2 92 3456 ((432 * (z.2 90 2)) + z.1) x3).bind fun M4 => some (.inl ((z.1 + 1), M4))
def f_X9_save_j52 (M : Mem) : Option (Mem) :=
  (loopN (f_X9_save_l54) FU (0, M)).bind fun o5 => (stf o5 90 2 ((o5 90 2) + 1)).bind fun M6 => some M6
def f_X9_save_l13 (z : Int32 × Mem) : Option ((Int32 × Mem) ⊕ (Mem)) :=
  if 3456 ≤ z.1 then some (.inr z.2) else (rd z.2 92 3456 z.1).bind fun x8 => (wr z.2 92 3456 (z.1 - 432) x8).bind fun M9 => some (.inl ((z.1 + 1), M9))
def f_X9_save (M : Mem) : Option (Mem) :=
  if (M 90 2) = 8 then (loopN (f_X9_save_l13) FU (432, M)).bind fun o10 => (stf o10 90 2 ((o10 90 2) - 1)).bind fun M11 => f_X9_save_j52 M11 else f_X9_save_j52 M
def f_X9_undo_l37 (z : Int32 × Mem) : Option ((Int32 × Mem) ⊕ (Mem)) :=
  if 432 ≤ z.1 then some (.inr z.2) else (rd z.2 92 3456 ((432 * (z.2 90 2)) + z.1)).bind fun x6 => (wr z.2 91 432 z.1 x6).bind fun M7 => some (.inl ((z.1 + 1), M7))
def f_X9_undo_j13 (s1 : Int32) (M : Mem) : Option (Int32 × Mem) :=
  (stf M 90 0 s1).bind fun M2 => if (M2 90 0) ≤ 0 then (stf M2 90 2 ((M2 90 2) - 1)).bind fun M4 => (loopN (f_X9_undo_l37) FU (0, M4)).bind fun o8 => some ((o8 90 2), o8) else some (0, M2)
def f_X9_undo (M : Mem) : Option (Int32 × Mem) :=
  if (M 90 2) ≤ 0 then f_X9_undo_j13 1 M else f_X9_undo_j13 0 M
def f_X9_isSetting (a0 : Int32) (M : Mem) : Option (Int32) :=
  (f_X9_within a0 0 9 M).bind fun r1 => (bz r1).bind fun x2 => some x2
def f_X9_isValue (a0 : Int32) (a1 : Int32) (M : Mem) : Option (Int32) :=
  if a0 = 0 then (f_X9_within a1 0 140 M).bind fun r2 => (bz r2).bind fun x3 => some x3 else if a0 = 1 then (f_X9_within a1 0 140 M).bind fun r5 => (bz r5).bind fun x6 => some x6 else if a0 = 2 then (f_X9_within a1 0 59 M).bind fun r8 => (bz r8).bind fun x9 => some x9 else if a0 = 3 then (f_X9_within a1 0 60 M).bind fun r11 => (bz r11).bind fun x12 => some x12 else if a0 = 4 then (f_X9_within a1 1 41 M).bind fun r14 => (bz r14).bind fun x15 => some x15 else if a0 = 5 then (f_X9_within a1 0 20 M).bind fun r17 => (bz r17).bind fun x18 => some x18 else if a0 = 6 then (f_X9_within a1 1 20 M).bind fun r20 => (bz r20).bind fun x21 => some x21 else if a0 = 7 then (f_X9_within a1 0 60 M).bind fun r23 => (bz r23).bind fun x24 => some x24 else if a0 = 8 then (f_X9_within a1 1 20 M).bind fun r26 => (bz r26).bind fun x27 => some x27 else (f_X9_within a1 1 50 M).bind fun r28 => (bz r28).bind fun x29 => some x29
def f_X9_set_j25 (v1 : Int32) (v2 : Int32) (s1 : Int32) (M : Mem) : Option (Int32 × Mem) :=
  (stf M 90 0 s1).bind fun M5 => if (M5 90 0) ≤ 0 then (f_X9_save M5).bind fun r7 => (f_X9_of v1 r7).bind fun r8 => (wr r7 91 432 (401 + v1) v2).bind fun M9 => some (r8, M9) else some (0, M5)
def f_X9_set (a1 : Int32) (a2 : Int32) (M : Mem) : Option (Int32 × Mem) :=
  (f_X9_isSetting a1 M).bind fun r1 => if r1 = 0 then f_X9_set_j25 a1 a2 1 M else (f_X9_isValue a1 a2 M).bind fun r3 => if r3 = 0 then f_X9_set_j25 a1 a2 2 M else f_X9_set_j25 a1 a2 0 M
def f_X9_isTold (a0 : Int32) (a1 : Int32) (M : Mem) : Option (Int32) :=
  (f_X9_within a0 0 140 M).bind fun r1 => if r1 = 0 then some 0 else (f_X9_within a1 0 40 M).bind fun r3 => if r3 = 0 then some 0 else some 1
def f_X9_bring_l3 (v1 : Int32) (v2 : Int32) (v3 : Int32) (z : Int32 × Mem) : Option ((Int32 × Mem) ⊕ (Mem)) :=
  if v3 ≤ z.1 then some (.inr z.2) else (rd z.2 91 432 0).bind fun x2 => (wr z.2 91 432 (1 + (2 * x2)) v1).bind fun M3 => (rd M3 91 432 0).bind fun x4 => (wr M3 91 432 ((1 + (2 * x4)) + 1) v2).bind fun M5 => (rd M5 91 432 0).bind fun x6 => (wr M5 91 432 0 (x6 + 1)).bind fun M7 => some (.inl ((z.1 + 1), M7))
def f_X9_bring (a1 : Int32) (a2 : Int32) (a3 : Int32) (M : Mem) : Option (Mem) :=
  (loopN (f_X9_bring_l3 a1 a2 a3) FU (0, M)).bind fun o8 => some o8
def f_X9_tell_j54 (v1 : Int32) (v2 : Int32) (v3 : Int32) (s1 : Int32) (M : Mem) : Option (Int32 × Mem) :=
  (stf M 90 0 s1).bind fun M6 => if (M6 90 0) ≤ 0 then (f_X9_save M6).bind fun r8 => (f_X9_bring v1 v2 v3 r8).bind fun r9 => (rd r9 91 432 0).bind fun x10 => some (x10, r9) else some (0, M6)
def f_X9_tell_j23 (v1 : Int32) (v2 : Int32) (v3 : Int32) (s0 : Int32) (M : Mem) : Option (Int32 × Mem) :=
  if s0 = 0 then f_X9_tell_j54 v1 v2 v3 1 M else (rd M 91 432 0).bind fun x4 => if (x4 + v3) ≤ 200 then f_X9_tell_j54 v1 v2 v3 0 M else f_X9_tell_j54 v1 v2 v3 2 M
def f_X9_tell_j22 (v1 : Int32) (v2 : Int32) (v3 : Int32) (M : Mem) : Option (Int32 × Mem) :=
  f_X9_tell_j23 v1 v2 v3 0 M
def f_X9_tell (a1 : Int32) (a2 : Int32) (a3 : Int32) (M : Mem) : Option (Int32 × Mem) :=
  (f_X9_isTold a1 a2 M).bind fun r1 => if r1 = 0 then f_X9_tell_j22 a1 a2 a3 M else (f_X9_within a3 1 60 M).bind fun r11 => if r11 = 0 then f_X9_tell_j22 a1 a2 a3 M else f_X9_tell_j23 a1 a2 a3 1 M
def f_X9_correct_j26 (v1 : Int32) (v2 : Int32) (v3 : Int32) (s1 : Int32) (M : Mem) : Option (Int32 × Mem) :=
  (stf M 90 0 s1).bind fun M5 => if (M5 90 0) ≤ 0 then (f_X9_save M5).bind fun r7 => (wr r7 91 432 (1 + (2 * v1)) v2).bind fun M8 => (wr M8 91 432 ((1 + (2 * v1)) + 1) v3).bind fun M9 => (f_X9_lay 0 0 M9).bind fun r10 => some ((r10 90 13), r10) else some (0, M5)
def f_X9_correct (a1 : Int32) (a2 : Int32) (a3 : Int32) (M : Mem) : Option (Int32 × Mem) :=
  (f_X9_isMinute a1 M).bind fun r1 => if r1 = 0 then f_X9_correct_j26 a1 a2 a3 1 M else (f_X9_isTold a2 a3 M).bind fun r3 => if r3 = 0 then f_X9_correct_j26 a1 a2 a3 2 M else f_X9_correct_j26 a1 a2 a3 0 M
def f_X9_forget_l48 (v1 : Int32) (z : Int32 × Mem) : Option ((Int32 × Mem) ⊕ (Mem)) :=
  (rd z.2 91 432 0).bind fun x9 => if (2 * x9) ≤ z.1 then some (.inr z.2) else (rd z.2 91 432 ((1 + z.1) + (2 * v1))).bind fun x11 => (wr z.2 91 432 (1 + z.1) x11).bind fun M12 => some (.inl ((z.1 + 1), M12))
def f_X9_forget_j131 (v1 : Int32) (v2 : Int32) (s1 : Int32) (s2 : Int32) (M : Mem) : Option ((Int32 × Mem) ⊕ (Mem)) :=
  (wr M 91 432 s1 s2).bind fun M18 => some (.inl ((v2 + 1), M18))
def f_X9_forget_l88 (v1 : Int32) (z : Int32 × Mem) : Option ((Int32 × Mem) ⊕ (Mem)) :=
  (rd z.2 91 432 411).bind fun x14 => if x14 ≤ z.1 then some (.inr z.2) else (rd z.2 91 432 (412 + z.1)).bind fun x16 => if 0 ≤ (x16 - v1) then f_X9_forget_j131 v1 z.1 (412 + z.1) (x16 - v1) z.2 else f_X9_forget_j131 v1 z.1 (412 + z.1) 0 z.2
def f_X9_forget_j20 (v1 : Int32) (s1 : Int32) (M : Mem) : Option (Int32 × Mem) :=
  (stf M 90 0 s1).bind fun M4 => if (M4 90 0) ≤ 0 then (f_X9_save M4).bind fun r6 => (rd r6 91 432 0).bind fun x7 => (wr r6 91 432 0 (x7 - v1)).bind fun M8 => (loopN (f_X9_forget_l48 v1) FU (0, M8)).bind fun o13 => (loopN (f_X9_forget_l88 v1) FU (0, o13)).bind fun o19 => (rd o19 91 432 0).bind fun x20 => some (x20, o19) else some (0, M4)
def f_X9_forget (a1 : Int32) (M : Mem) : Option (Int32 × Mem) :=
  (rd M 91 432 0).bind fun x1 => (f_X9_within a1 1 x1 M).bind fun r2 => if r2 = 0 then f_X9_forget_j20 a1 1 M else f_X9_forget_j20 a1 0 M
def f_X9_complain_j34 (v1 : Int32) (s1 : Int32) (M : Mem) : Option (Int32 × Mem) :=
  (stf M 90 0 s1).bind fun M5 => if (M5 90 0) ≤ 0 then (f_X9_save M5).bind fun r7 => (rd r7 91 432 411).bind fun x8 => (wr r7 91 432 (412 + x8) v1).bind fun M9 => (rd M9 91 432 411).bind fun x10 => (wr M9 91 432 411 (x10 + 1)).bind fun M11 => (rd M11 91 432 411).bind fun x12 => some ((x12 - 1), M11) else some (0, M5)
def f_X9_complain (a1 : Int32) (M : Mem) : Option (Int32 × Mem) :=
  (f_X9_within a1 0 300 M).bind fun r1 => if r1 = 0 then f_X9_complain_j34 a1 1 M else (rd M 91 432 411).bind fun x3 => if x3 = 20 then f_X9_complain_j34 a1 2 M else f_X9_complain_j34 a1 0 M
def f_X9_isComplaint (a1 : Int32) (M : Mem) : Option (Int32) :=
  (rd M 91 432 411).bind fun x1 => (f_X9_within a1 0 (x1 - 1) M).bind fun r2 => (bz r2).bind fun x3 => some x3
def f_X9_withdraw_l59 (v2 : Int32) (z : Int32 × Mem) : Option ((Int32 × Mem) ⊕ (Mem)) :=
  (rd z.2 91 432 411).bind fun x10 => if (412 + x10) ≤ z.1 then some (.inr z.2) else (rd z.2 91 432 (z.1 + 1)).bind fun x12 => (wr z.2 91 432 z.1 x12).bind fun M13 => some (.inl ((z.1 + 1), M13))
def f_X9_withdraw_j14 (v1 : Int32) (s1 : Int32) (M : Mem) : Option (Int32 × Mem) :=
  (stf M 90 0 s1).bind fun M3 => if (M3 90 0) ≤ 0 then (f_X9_save M3).bind fun r5 => (f_X9_layAll r5).bind fun r6 => (rd r6 105 20 v1).bind fun x7 => (rd r6 91 432 411).bind fun x8 => (wr r6 91 432 411 (x8 - 1)).bind fun M9 => (loopN (f_X9_withdraw_l59 x7) FU ((412 + v1), M9)).bind fun o14 => some (x7, o14) else some (0, M3)
def f_X9_withdraw (a1 : Int32) (M : Mem) : Option (Int32 × Mem) :=
  (f_X9_isComplaint a1 M).bind fun r1 => if r1 = 0 then f_X9_withdraw_j14 a1 1 M else f_X9_withdraw_j14 a1 0 M
def f_X9_append_j30 (v1 : Int32) (s1 : Int32) (M : Mem) : Option (Int32 × Mem) :=
  (stf M 90 0 s1).bind fun M4 => if (M4 90 0) ≤ 0 then (wr M4 93 60 (M4 90 4) v1).bind fun M6 => (stf M6 90 4 ((M6 90 4) + 1)).bind fun M7 => some ((M7 90 4), M7) else some (0, M4)
def f_X9_append (a1 : Int32) (M : Mem) : Option (Int32 × Mem) :=
  (f_X9_within a1 33 126 M).bind fun r1 => if r1 = 0 then f_X9_append_j30 a1 1 M else if (M 90 4) = 60 then f_X9_append_j30 a1 2 M else f_X9_append_j30 a1 0 M
def f_X9_clearBuffer (M : Mem) : Option (Int32 × Mem) :=
  (stf M 90 0 0).bind fun M1 => (stf M1 90 4 0).bind fun M2 => some ((M1 90 4), M2)
def f_X9_beginPart (M : Mem) : Option (Mem) :=
  (stf M 90 22 0).bind fun M1 => (stf M1 90 23 0).bind fun M2 => (wr M2 107 96 (3 * (M2 90 24)) 0).bind fun M3 => (wr M3 107 96 ((3 * (M3 90 24)) + 1) 0).bind fun M4 => (wr M4 107 96 ((3 * (M4 90 24)) + 2) 1).bind fun M5 => some M5
def f_X9_takesDigit_j146 (v5 : Int32) (s1 : Int32) (s2 : Int32) (M : Mem) : Option (Int32 × Mem) :=
  (stf M 90 23 (s1 + s2)).bind fun M10 => (bz v5).bind fun x11 => some (x11, M10)
def f_X9_takesDigit_j130 (v5 : Int32) (s1 : Int32) (s2 : Int32) (M : Mem) : Option (Int32 × Mem) :=
  (wr M 107 96 s1 s2).bind fun M8 => if v5 = 0 then f_X9_takesDigit_j146 v5 (M8 90 23) 0 M8 else f_X9_takesDigit_j146 v5 (M8 90 23) 1 M8
def f_X9_takesDigit_j107 (v2 : Int32) (v4 : Int32) (s0 : Int32) (M : Mem) : Option (Int32 × Mem) :=
  if s0 = 0 then (rd M 107 96 v2).bind fun x7 => f_X9_takesDigit_j130 s0 v2 x7 M else f_X9_takesDigit_j130 s0 v2 v4 M
def f_X9_takesDigit_j106 (v2 : Int32) (v4 : Int32) (M : Mem) : Option (Int32 × Mem) :=
  f_X9_takesDigit_j107 v2 v4 0 M
def f_X9_takesDigit_j102 (v2 : Int32) (v4 : Int32) (M : Mem) : Option (Int32 × Mem) :=
  f_X9_takesDigit_j107 v2 v4 1 M
def f_X9_takesDigit_j63 (v1 : Int32) (v2 : Int32) (v3 : Int32) (s0 : Int32) (M : Mem) : Option (Int32 × Mem) :=
  if v3 < s0 then f_X9_takesDigit_j106 v2 s0 M else if (M 90 23) = 0 then if (M 90 22) < 2 then f_X9_takesDigit_j102 v2 s0 M else if v1 ≤ 0 then f_X9_takesDigit_j106 v2 s0 M else f_X9_takesDigit_j102 v2 s0 M else (rd M 107 96 v2).bind fun x13 => if x13 ≤ 0 then f_X9_takesDigit_j106 v2 s0 M else f_X9_takesDigit_j102 v2 s0 M
def f_X9_takesDigit_j40 (v1 : Int32) (v2 : Int32) (s0 : Int32) (M : Mem) : Option (Int32 × Mem) :=
  if (M 90 23) = 0 then f_X9_takesDigit_j63 v1 v2 s0 v1 M else (rd M 107 96 v2).bind fun x4 => f_X9_takesDigit_j63 v1 v2 s0 ((10 * x4) + v1) M
def f_X9_takesDigit (a1 : Int32) (M : Mem) : Option (Int32 × Mem) :=
  if (M 90 22) = 0 then f_X9_takesDigit_j40 a1 ((3 * (M 90 24)) + (M 90 22)) 140 M else if (M 90 22) = 1 then f_X9_takesDigit_j40 a1 ((3 * (M 90 24)) + (M 90 22)) 40 M else f_X9_takesDigit_j40 a1 ((3 * (M 90 24)) + (M 90 22)) 60 M
def f_X9_isPartOver_j32 (M : Mem) : Option (Int32) :=
  some 1
def f_X9_isPartOver (M : Mem) : Option (Int32) :=
  if (M 90 23) ≤ 0 then some 0 else if (M 90 22) < 2 then f_X9_isPartOver_j32 M else (rd M 107 96 ((3 * (M 90 24)) + 2)).bind fun x3 => if x3 ≤ 1 then some 0 else f_X9_isPartOver_j32 M
def f_X9_goTo (a1 : Int32) (M : Mem) : Option (Mem) :=
  (stf M 90 22 a1).bind fun M1 => (stf M1 90 23 0).bind fun M2 => some M2
def f_X9_takes_j76 (s1 : Int32) (M : Mem) : Option (Int32 × Mem) :=
  (f_X9_goTo s1 M).bind fun r13 => some (1, r13)
def f_X9_takes_j59 (v1 : Int32) (s0 : Int32) (M : Mem) : Option (Int32 × Mem) :=
  if s0 = 0 then if v1 = 59 then (f_X9_isPartOver M).bind fun r6 => if r6 = 0 then some (0, M) else (rd M 107 96 ((3 * (M 90 24)) + 2)).bind fun x8 => (stf M 90 25 ((M 90 25) + x8)).bind fun M9 => (stf M9 90 24 ((M9 90 24) + 1)).bind fun M10 => (f_X9_beginPart M10).bind fun r11 => some (1, r11) else some (0, M) else if v1 = 64 then f_X9_takes_j76 1 M else f_X9_takes_j76 2 M
def f_X9_takes_j58 (v1 : Int32) (M : Mem) : Option (Int32 × Mem) :=
  f_X9_takes_j59 v1 0 M
def f_X9_takes_j54 (v1 : Int32) (M : Mem) : Option (Int32 × Mem) :=
  f_X9_takes_j59 v1 1 M
def f_X9_takes_j40 (v1 : Int32) (M : Mem) : Option (Int32 × Mem) :=
  if v1 = 42 then if 2 ≤ (M 90 22) then f_X9_takes_j58 v1 M else f_X9_takes_j54 v1 M else f_X9_takes_j58 v1 M
def f_X9_takes (a1 : Int32) (M : Mem) : Option (Int32 × Mem) :=
  (f_X9_within a1 48 57 M).bind fun r1 => if r1 = 0 then if (M 90 23) ≤ 0 then f_X9_takes_j58 a1 M else if a1 = 64 then if (M 90 22) = 0 then f_X9_takes_j54 a1 M else f_X9_takes_j40 a1 M else f_X9_takes_j40 a1 M else (f_X9_takesDigit (a1 - 48) M).bind fun r18 => (bz r18.1).bind fun x19 => some (x19, r18.2)
def f_X9_readText_l16 (z : Int32 × Mem) : Option ((Int32 × Mem) ⊕ (Int32 × Mem)) :=
  if (z.2 90 4) ≤ z.1 then some (.inr (z.1, z.2)) else (rd z.2 93 60 z.1).bind fun x5 => (f_X9_takes x5 z.2).bind fun r6 => if r6.1 = 0 then some (.inr (z.1, r6.2)) else some (.inl ((z.1 + 1), r6.2))
def f_X9_readText (M : Mem) : Option (Int32 × Mem) :=
  (stf M 90 24 0).bind fun M1 => (stf M1 90 25 0).bind fun M2 => (f_X9_beginPart M2).bind fun r3 => (loopN (f_X9_readText_l16) FU (0, r3)).bind fun o8 => some (o8.1, o8.2)
def f_X9_firstError (M : Mem) : Option (Int32 × Mem) :=
  (stf M 90 0 0).bind fun M1 => (f_X9_readText M1).bind fun r2 => some (r2.1, r2.2)
def f_X9_load_l87 (z : Int32 × Mem) : Option ((Int32 × Mem) ⊕ (Mem)) :=
  if (z.2 90 24) < z.1 then some (.inr z.2) else (rd z.2 107 96 (3 * z.1)).bind fun x11 => (rd z.2 107 96 ((3 * z.1) + 1)).bind fun x12 => (rd z.2 107 96 ((3 * z.1) + 2)).bind fun x13 => (f_X9_bring x11 x12 x13 z.2).bind fun r14 => some (.inl ((z.1 + 1), r14))
def f_X9_load_j69 (s1 : Int32) (M : Mem) : Option (Int32 × Mem) :=
  (stf M 90 0 s1).bind fun M7 => if (M7 90 0) ≤ 0 then (f_X9_save M7).bind fun r9 => (loopN (f_X9_load_l87) FU (0, r9)).bind fun o15 => (stf o15 90 4 0).bind fun M16 => (rd M16 91 432 0).bind fun x17 => some (x17, M16) else some (0, M7)
def f_X9_load_j23 (s0 : Int32) (M : Mem) : Option (Int32 × Mem) :=
  if s0 = 0 then f_X9_load_j69 1 M else (rd M 91 432 0).bind fun x4 => (rd M 107 96 ((3 * (M 90 24)) + 2)).bind fun x5 => if ((x4 + (M 90 25)) + x5) ≤ 200 then f_X9_load_j69 0 M else f_X9_load_j69 2 M
def f_X9_load_j22 (M : Mem) : Option (Int32 × Mem) :=
  f_X9_load_j23 0 M
def f_X9_load (M : Mem) : Option (Int32 × Mem) :=
  (f_X9_readText M).bind fun r1 => if r1.1 = (r1.2 90 4) then (f_X9_isPartOver r1.2).bind fun r18 => if r18 = 0 then f_X9_load_j22 r1.2 else f_X9_load_j23 1 r1.2 else f_X9_load_j22 r1.2
def f_X9_minuteNow (a1 : Int32) (a2 : Int32) (M : Mem) : Option (Int32) :=
  if a2 = 0 then (rd M 94 300 a1).bind fun x2 => some x2 else if a2 = 1 then (rd M 95 300 a1).bind fun x4 => some x4 else if a2 = 2 then (rd M 96 300 a1).bind fun x6 => some x6 else if a2 = 3 then (rd M 97 300 a1).bind fun x8 => some x8 else if a2 = 4 then (f_X9_limitOf a1 M).bind fun r10 => some r10 else if a2 = 5 then (f_X9_isRest a1 M).bind fun r12 => if r12 = 0 then some 0 else some 1 else if a2 = 6 then (rd M 98 300 a1).bind fun x15 => some x15 else (rd M 99 300 a1).bind fun x16 => some x16
def f_X9_minute_j28 (v1 : Int32) (v2 : Int32) (s1 : Int32) (M : Mem) : Option (Int32 × Mem) :=
  (stf M 90 0 s1).bind fun M5 => if (M5 90 0) ≤ 0 then (f_X9_layAll M5).bind fun r7 => (f_X9_minuteNow v1 v2 r7).bind fun r8 => some (r8, r7) else some (0, M5)
def f_X9_minute (a1 : Int32) (a2 : Int32) (M : Mem) : Option (Int32 × Mem) :=
  (f_X9_isMinute a1 M).bind fun r1 => if r1 = 0 then f_X9_minute_j28 a1 a2 1 M else (f_X9_within a2 0 7 M).bind fun r3 => if r3 = 0 then f_X9_minute_j28 a1 a2 2 M else f_X9_minute_j28 a1 a2 0 M
def f_X9_exceedanceNow (a1 : Int32) (a2 : Int32) (M : Mem) : Option (Int32) :=
  if a2 = 0 then (rd M 100 300 a1).bind fun x2 => some x2 else if a2 = 1 then (rd M 101 300 a1).bind fun x4 => some x4 else if a2 = 2 then (rd M 102 300 a1).bind fun x6 => some x6 else if a2 = 3 then (rd M 103 300 a1).bind fun x8 => some x8 else if a2 = 4 then (rd M 104 300 a1).bind fun x10 => some x10 else (rd M 106 300 a1).bind fun x11 => some x11
def f_X9_exceedance_j37 (v1 : Int32) (v2 : Int32) (s1 : Int32) (M : Mem) : Option (Int32 × Mem) :=
  (stf M 90 0 s1).bind fun M6 => if (M6 90 0) ≤ 0 then (f_X9_exceedanceNow v1 v2 M6).bind fun r8 => some (r8, M6) else some (0, M6)
def f_X9_exceedance (a1 : Int32) (a2 : Int32) (M : Mem) : Option (Int32 × Mem) :=
  (f_X9_layAll M).bind fun r1 => (f_X9_within a1 0 ((r1 90 13) - 1) r1).bind fun r2 => if r2 = 0 then f_X9_exceedance_j37 a1 a2 1 r1 else (f_X9_within a2 0 5 r1).bind fun r4 => if r4 = 0 then f_X9_exceedance_j37 a1 a2 2 r1 else f_X9_exceedance_j37 a1 a2 0 r1
def f_X9_complaint_j27 (v1 : Int32) (v2 : Int32) (s1 : Int32) (M : Mem) : Option (Int32 × Mem) :=
  (stf M 90 0 s1).bind fun M5 => if (M5 90 0) ≤ 0 then (f_X9_layAll M5).bind fun r7 => if v2 = 0 then (rd r7 91 432 (412 + v1)).bind fun x10 => some (x10, r7) else (rd r7 105 20 v1).bind fun x9 => some (x9, r7) else some (0, M5)
def f_X9_complaint (a1 : Int32) (a2 : Int32) (M : Mem) : Option (Int32 × Mem) :=
  (f_X9_isComplaint a1 M).bind fun r1 => if r1 = 0 then f_X9_complaint_j27 a1 a2 1 M else (f_X9_within a2 0 1 M).bind fun r3 => if r3 = 0 then f_X9_complaint_j27 a1 a2 2 M else f_X9_complaint_j27 a1 a2 0 M
def f_X9_countFrom_j50 (v1 : Int32) (v3 : Int32) (s0 : Int32) (s1 : Int32) (M : Mem) : Option ((Int32 × Int32) ⊕ (Int32)) :=
  some (.inl ((s0 + s1), (v3 + 1)))
def f_X9_countFrom_j49 (v1 : Int32) (v3 : Int32) (s0 : Int32) (M : Mem) : Option ((Int32 × Int32) ⊕ (Int32)) :=
  f_X9_countFrom_j50 v1 v3 s0 0 M
def f_X9_countFrom_j32 (v1 : Int32) (v3 : Int32) (s0 : Int32) (M : Mem) : Option ((Int32 × Int32) ⊕ (Int32)) :=
  (rd M 96 300 v3).bind fun x4 => if x4 < (10 * v1) then f_X9_countFrom_j49 v1 v3 s0 M else f_X9_countFrom_j50 v1 v3 s0 1 M
def f_X9_countFrom_l4 (v1 : Int32) (M : Mem) (z : Int32 × Int32) : Option ((Int32 × Int32) ⊕ (Int32)) :=
  if (M 90 6) ≤ z.2 then some (.inr z.1) else (rd M 98 300 z.2).bind fun x2 => if x2 = 0 then f_X9_countFrom_j32 v1 z.2 z.1 M else (rd M 98 300 z.2).bind fun x6 => if x6 = 3 then f_X9_countFrom_j32 v1 z.2 z.1 M else f_X9_countFrom_j49 v1 z.2 z.1 M
def f_X9_countFrom (a1 : Int32) (M : Mem) : Option (Int32) :=
  (loopN (f_X9_countFrom_l4 a1 M) FU (0, 0)).bind fun o8 => some o8
def f_X9_levelCount_j17 (v1 : Int32) (s1 : Int32) (M : Mem) : Option (Int32 × Mem) :=
  (stf M 90 0 s1).bind fun M3 => if (M3 90 0) ≤ 0 then (f_X9_layAll M3).bind fun r5 => (f_X9_countFrom v1 r5).bind fun r6 => some (r6, r5) else some (0, M3)
def f_X9_levelCount (a1 : Int32) (M : Mem) : Option (Int32 × Mem) :=
  (f_X9_within a1 0 140 M).bind fun r1 => if r1 = 0 then f_X9_levelCount_j17 a1 1 M else f_X9_levelCount_j17 a1 0 M
def f_X9_percentNow_l18 (v1 : Int32) (v2 : Int32) (M : Mem) (z : Int32) : Option ((Int32) ⊕ (Int32)) :=
  if z ≤ 0 then some (.inr z) else (f_X9_countFrom z M).bind fun r4 => if (v1 * v2) ≤ (r4 * 100) then some (.inr z) else some (.inl (z + (-1)))
def f_X9_percentNow_j17 (v1 : Int32) (v2 : Int32) (s0 : Int32) (M : Mem) : Option (Int32) :=
  (loopN (f_X9_percentNow_l18 v1 v2 M) FU s0).bind fun o6 => some o6
def f_X9_percentNow (a1 : Int32) (M : Mem) : Option (Int32) :=
  (f_X9_countFrom 0 M).bind fun r1 => if r1 = 0 then f_X9_percentNow_j17 a1 r1 (-1) M else f_X9_percentNow_j17 a1 r1 140 M
def f_X9_percentLevel_j16 (v1 : Int32) (s1 : Int32) (M : Mem) : Option (Int32 × Mem) :=
  (stf M 90 0 s1).bind fun M3 => if (M3 90 0) ≤ 0 then (f_X9_layAll M3).bind fun r5 => (f_X9_percentNow v1 r5).bind fun r6 => some (r6, r5) else some (0, M3)
def f_X9_percentLevel (a1 : Int32) (M : Mem) : Option (Int32 × Mem) :=
  (f_X9_within a1 1 100 M).bind fun r1 => if r1 = 0 then f_X9_percentLevel_j16 a1 1 M else f_X9_percentLevel_j16 a1 0 M
def f_X9_minutesBy_j35 (v1 : Int32) (v2 : Int32) (v4 : Int32) (s0 : Int32) (s1 : Int32) (M : Mem) : Option ((Int32 × Int32) ⊕ (Int32)) :=
  some (.inl ((s0 + s1), (v4 + 1)))
def f_X9_minutesBy_l5 (v1 : Int32) (v2 : Int32) (M : Mem) (z : Int32 × Int32) : Option ((Int32 × Int32) ⊕ (Int32)) :=
  if (M 90 6) ≤ z.2 then some (.inr z.1) else (rd M 98 300 z.2).bind fun x2 => (f_X9_within x2 v1 v2 M).bind fun r3 => if r3 = 0 then f_X9_minutesBy_j35 v1 v2 z.2 z.1 0 M else f_X9_minutesBy_j35 v1 v2 z.2 z.1 1 M
def f_X9_minutesBy (a1 : Int32) (a2 : Int32) (M : Mem) : Option (Int32) :=
  (loopN (f_X9_minutesBy_l5 a1 a2 M) FU (0, 0)).bind fun o5 => some o5
def f_X9_restMany_j26 (v2 : Int32) (s0 : Int32) (s1 : Int32) (M : Mem) : Option ((Int32 × Int32) ⊕ (Int32)) :=
  some (.inl ((s0 + s1), (v2 + 1)))
def f_X9_restMany_l4 (M : Mem) (z : Int32 × Int32) : Option ((Int32 × Int32) ⊕ (Int32)) :=
  if (M 90 6) ≤ z.2 then some (.inr z.1) else (f_X9_isRest z.2 M).bind fun r2 => if r2 = 0 then f_X9_restMany_j26 z.2 z.1 0 M else f_X9_restMany_j26 z.2 z.1 1 M
def f_X9_restMany (M : Mem) : Option (Int32) :=
  (loopN (f_X9_restMany_l4 M) FU (0, 0)).bind fun o4 => some o4
def f_X9_matchedMany_j32 (v2 : Int32) (s0 : Int32) (s1 : Int32) (M : Mem) : Option ((Int32 × Int32) ⊕ (Int32)) :=
  some (.inl ((s0 + s1), (v2 + 1)))
def f_X9_matchedMany_l4 (M : Mem) (z : Int32 × Int32) : Option ((Int32 × Int32) ⊕ (Int32)) :=
  (rd M 91 432 411).bind fun x1 => if x1 ≤ z.2 then some (.inr z.1) else (rd M 105 20 z.2).bind fun x3 => if x3 = (-1) then f_X9_matchedMany_j32 z.2 z.1 0 M else f_X9_matchedMany_j32 z.2 z.1 1 M
def f_X9_matchedMany (M : Mem) : Option (Int32) :=
  (loopN (f_X9_matchedMany_l4 M) FU (0, 0)).bind fun o5 => some o5
def f_X9_weights_l4 (M : Mem) (z : Int32 × Int32) : Option ((Int32 × Int32) ⊕ (Int32)) :=
  if (M 90 13) ≤ z.2 then some (.inr z.1) else (rd M 104 300 z.2).bind fun x2 => some (.inl ((z.1 + x2), (z.2 + 1)))
def f_X9_weights (M : Mem) : Option (Int32) :=
  (loopN (f_X9_weights_l4 M) FU (0, 0)).bind fun o3 => some o3
def f_X9_heaviest_j37 (v2 : Int32) (s0 : Int32) (M : Mem) : Option ((Int32 × Int32) ⊕ (Int32)) :=
  some (.inl (s0, (v2 + 1)))
def f_X9_heaviest_j32 (v2 : Int32) (M : Mem) : Option ((Int32 × Int32) ⊕ (Int32)) :=
  f_X9_heaviest_j37 v2 v2 M
def f_X9_heaviest_l4 (M : Mem) (z : Int32 × Int32) : Option ((Int32 × Int32) ⊕ (Int32)) :=
  if (M 90 13) ≤ z.2 then some (.inr z.1) else if z.1 = (-1) then f_X9_heaviest_j32 z.2 M else (rd M 104 300 z.2).bind fun x3 => (rd M 104 300 z.1).bind fun x4 => if x3 ≤ x4 then f_X9_heaviest_j37 z.2 z.1 M else f_X9_heaviest_j32 z.2 M
def f_X9_heaviest (M : Mem) : Option (Int32) :=
  (loopN (f_X9_heaviest_l4 M) FU ((-1), 0)).bind fun o6 => some o6
def f_X9_counted (a1 : Int32) (M : Mem) : Option (Int32) :=
  if a1 = 0 then some (M 90 6) else if a1 = 1 then (f_X9_countFrom 0 M).bind fun r3 => some r3 else if a1 = 2 then (f_X9_minutesBy 1 2 M).bind fun r5 => some r5 else if a1 = 3 then (f_X9_restMany M).bind fun r7 => some r7 else if a1 = 4 then (f_X9_minutesBy 0 0 M).bind fun r9 => some r9 else if a1 = 5 then some (M 90 13) else if a1 = 6 then (rd M 91 432 411).bind fun x12 => some x12 else if a1 = 7 then (f_X9_matchedMany M).bind fun r14 => some r14 else if a1 = 8 then (f_X9_weights M).bind fun r16 => some r16 else if a1 = 9 then (f_X9_heaviest M).bind fun r18 => some r18 else if a1 = 10 then some (M 90 2) else if (M 90 19) = 0 then some 0 else some 1
def f_X9_count_j16 (v1 : Int32) (s1 : Int32) (M : Mem) : Option (Int32 × Mem) :=
  (stf M 90 0 s1).bind fun M3 => if (M3 90 0) ≤ 0 then (f_X9_layAll M3).bind fun r5 => (f_X9_counted v1 r5).bind fun r6 => some (r6, r5) else some (0, M3)
def f_X9_count (a1 : Int32) (M : Mem) : Option (Int32 × Mem) :=
  (f_X9_within a1 0 11 M).bind fun r1 => if r1 = 0 then f_X9_count_j16 a1 1 M else f_X9_count_j16 a1 0 M
def f_X9_setting_j13 (v1 : Int32) (s1 : Int32) (M : Mem) : Option (Int32 × Mem) :=
  (stf M 90 0 s1).bind fun M3 => if (M3 90 0) ≤ 0 then (f_X9_of v1 M3).bind fun r5 => some (r5, M3) else some (0, M3)
def f_X9_setting (a1 : Int32) (M : Mem) : Option (Int32 × Mem) :=
  (f_X9_isSetting a1 M).bind fun r1 => if r1 = 0 then f_X9_setting_j13 a1 1 M else f_X9_setting_j13 a1 0 M
def f_X9_withSetting (a1 : Int32) (a2 : Int32) (a3 : Int32) (M : Mem) : Option (Int32 × Mem) :=
  (f_X9_of a1 M).bind fun r1 => (wr M 91 432 (401 + a1) a2).bind fun M2 => (f_X9_layAll M2).bind fun r3 => (f_X9_counted a3 r3).bind fun r4 => (wr r3 91 432 (401 + a1) r1).bind fun M5 => some (r4, M5)
def f_X9_ifSet_j35 (v1 : Int32) (v2 : Int32) (v3 : Int32) (s1 : Int32) (M : Mem) : Option (Int32 × Mem) :=
  (stf M 90 0 s1).bind fun M5 => if (M5 90 0) ≤ 0 then (f_X9_withSetting v1 v2 v3 M5).bind fun r7 => some (r7.1, r7.2) else some (0, M5)
def f_X9_ifSet_j34 (v1 : Int32) (v2 : Int32) (v3 : Int32) (M : Mem) : Option (Int32 × Mem) :=
  f_X9_ifSet_j35 v1 v2 v3 2 M
def f_X9_ifSet (a1 : Int32) (a2 : Int32) (a3 : Int32) (M : Mem) : Option (Int32 × Mem) :=
  (f_X9_isSetting a1 M).bind fun r1 => if r1 = 0 then f_X9_ifSet_j35 a1 a2 a3 1 M else (f_X9_isValue a1 a2 M).bind fun r3 => if r3 = 0 then f_X9_ifSet_j34 a1 a2 a3 M else (f_X9_within a3 0 9 M).bind fun r8 => if r8 = 0 then f_X9_ifSet_j34 a1 a2 a3 M else f_X9_ifSet_j35 a1 a2 a3 0 M
def f_X9_leastNow_j54 (v1 : Int32) (v2 : Int32) (v4 : Int32) (s0 : Int32) (M : Mem) : Option ((Int32 × Int32 × Mem) ⊕ (Int32 × Mem)) :=
  some (.inl (s0, (v4 + 1), M))
def f_X9_leastNow_l11 (v1 : Int32) (v2 : Int32) (z : Int32 × Int32 × Mem) : Option ((Int32 × Int32 × Mem) ⊕ (Int32 × Mem)) :=
  if 140 < z.2.1 then some (.inr (z.1, z.2.2)) else if z.1 = (-1) then (wr z.2.2 91 432 401 z.2.1).bind fun M4 => (f_X9_lay 0 0 M4).bind fun r5 => if v1 < (r5 90 13) then f_X9_leastNow_j54 v1 v2 z.2.1 (-1) r5 else f_X9_leastNow_j54 v1 v2 z.2.1 z.2.1 r5 else some (.inr (z.1, z.2.2))
def f_X9_leastNow_j61 (v2 : Int32) (v3 : Int32) (M : Mem) : Option (Int32 × Mem) :=
  (wr M 91 432 401 v2).bind fun M8 => some (v3, M8)
def f_X9_leastNow (a1 : Int32) (M : Mem) : Option (Int32 × Mem) :=
  (f_X9_of 0 M).bind fun r1 => (loopN (f_X9_leastNow_l11 a1 r1) FU ((-1), 0, M)).bind fun o7 => f_X9_leastNow_j61 r1 o7.1 o7.2
def f_X9_leastLimit_j17 (v1 : Int32) (s1 : Int32) (M : Mem) : Option (Int32 × Mem) :=
  (stf M 90 0 s1).bind fun M3 => if (M3 90 0) ≤ 0 then (f_X9_leastNow v1 M3).bind fun r5 => some (r5.1, r5.2) else some (0, M3)
def f_X9_leastLimit (a1 : Int32) (M : Mem) : Option (Int32 × Mem) :=
  (f_X9_within a1 0 200 M).bind fun r1 => if r1 = 0 then f_X9_leastLimit_j17 a1 1 M else f_X9_leastLimit_j17 a1 0 M
def f_X9_aboveNow_l9 (M : Mem) (z : Int32) : Option ((Int32) ⊕ ((Unit) ⊕ (Int32 × Mem))) :=
  if 100 < z then some (.inr (.inl ())) else (rd M 91 432 0).bind fun x3 => (rd M 98 300 ((x3 + z) - 1)).bind fun x4 => if x4 = 0 then some (.inr (.inr (z, M))) else some (.inl (z + 1))
def f_X9_aboveNow (a1 : Int32) (M : Mem) : Option (Int32 × Mem) :=
  (f_X9_lay 100 a1 M).bind fun r1 => (loopN (f_X9_aboveNow_l9 r1) FU 1).bind fun o6 => Sum.elim (fun o6 => some ((-1), r1)) (fun r7 => some r7) o6
def f_X9_aboveIn_j17 (v1 : Int32) (s1 : Int32) (M : Mem) : Option (Int32 × Mem) :=
  (stf M 90 0 s1).bind fun M3 => if (M3 90 0) ≤ 0 then (f_X9_aboveNow v1 M3).bind fun r5 => some (r5.1, r5.2) else some (0, M3)
def f_X9_aboveIn (a1 : Int32) (M : Mem) : Option (Int32 × Mem) :=
  (f_X9_within a1 0 140 M).bind fun r1 => if r1 = 0 then f_X9_aboveIn_j17 a1 1 M else f_X9_aboveIn_j17 a1 0 M
def f_X9_shareNow (M : Mem) : Option (UInt64) :=
  (f_X9_countFrom 0 M).bind fun r1 => if r1 = 0 then some 0 else (f_X9_minutesBy 0 0 M).bind fun r3 => (dml 0x3ff0000000000000 (FP.i2d r3)).bind fun x4 => (ddv x4 (FP.i2d r1)).bind fun x5 => some x5
def f_X9_share (M : Mem) : Option (UInt64 × Mem) :=
  (stf M 90 0 0).bind fun M1 => (f_X9_layAll M1).bind fun r2 => (f_X9_shareNow r2).bind fun r3 => some (r3, r2)
def f_X9_mix (a1 : Int64) (M : Mem) (L : Lng) : Option (Lng) :=
  (stL L ((31 * (L 0)) + a1)).bind fun L1 => some L1
def f_X9_mixAll_l2 (M : Mem) (z : Int32 × Lng) : Option ((Int32 × Lng) ⊕ (Lng)) :=
  if 12 ≤ z.1 then some (.inr z.2) else (f_X9_counted z.1 M).bind fun r2 => (f_X9_mix (Int32.toInt64 r2) M z.2).bind fun r3 => some (.inl ((z.1 + 1), r3))
def f_X9_mixAll_l26 (M : Mem) (z : Int32 × Lng) : Option ((Int32 × Lng) ⊕ (Lng)) :=
  if 10 ≤ z.1 then some (.inr z.2) else (f_X9_of z.1 M).bind fun r6 => (f_X9_mix (Int32.toInt64 r6) M z.2).bind fun r7 => some (.inl ((z.1 + 1), r7))
def f_X9_mixAll_l50 (M : Mem) (z : Int32 × Lng) : Option ((Int32 × Lng) ⊕ (Lng)) :=
  if (8 * (M 90 6)) ≤ z.1 then some (.inr z.2) else (dvI z.1 8).bind fun x10 => (rmI z.1 8).bind fun x11 => (f_X9_minuteNow x10 x11 M).bind fun r12 => (f_X9_mix (Int32.toInt64 r12) M z.2).bind fun r13 => some (.inl ((z.1 + 1), r13))
def f_X9_mixAll_l86 (M : Mem) (z : Int32 × Lng) : Option ((Int32 × Lng) ⊕ (Lng)) :=
  if (6 * (M 90 13)) ≤ z.1 then some (.inr z.2) else (dvI z.1 6).bind fun x16 => (rmI z.1 6).bind fun x17 => (f_X9_exceedanceNow x16 x17 M).bind fun r18 => (f_X9_mix (Int32.toInt64 r18) M z.2).bind fun r19 => some (.inl ((z.1 + 1), r19))
def f_X9_mixAll_l122 (M : Mem) (z : Int32 × Lng) : Option ((Int32 × Lng) ⊕ (Lng)) :=
  (rd M 91 432 411).bind fun x21 => if x21 ≤ z.1 then some (.inr z.2) else (rd M 91 432 (412 + z.1)).bind fun x23 => (f_X9_mix (Int32.toInt64 x23) M z.2).bind fun r24 => (rd M 105 20 z.1).bind fun x25 => (f_X9_mix (Int32.toInt64 x25) M r24).bind fun r26 => some (.inl ((z.1 + 1), r26))
def f_X9_mixAll_l168 (M : Mem) (z : Int32 × Lng) : Option ((Int32 × Lng) ⊕ (Lng)) :=
  if 140 < z.1 then some (.inr z.2) else (f_X9_countFrom z.1 M).bind fun r29 => (f_X9_mix (Int32.toInt64 r29) M z.2).bind fun r30 => some (.inl ((z.1 + 10), r30))
def f_X9_mixAll (M : Mem) (L : Lng) : Option (Lng) :=
  (loopN (f_X9_mixAll_l2 M) FU (0, L)).bind fun o4 => (loopN (f_X9_mixAll_l26 M) FU (0, o4)).bind fun o8 => (loopN (f_X9_mixAll_l50 M) FU (0, o8)).bind fun o14 => (loopN (f_X9_mixAll_l86 M) FU (0, o14)).bind fun o20 => (loopN (f_X9_mixAll_l122 M) FU (0, o20)).bind fun o27 => (loopN (f_X9_mixAll_l168 M) FU (0, o27)).bind fun o31 => (f_X9_percentNow 1 M).bind fun r32 => (f_X9_mix (Int32.toInt64 r32) M o31).bind fun r33 => (f_X9_percentNow 10 M).bind fun r34 => (f_X9_mix (Int32.toInt64 r34) M r33).bind fun r35 => (f_X9_percentNow 50 M).bind fun r36 => (f_X9_mix (Int32.toInt64 r36) M r35).bind fun r37 => (f_X9_percentNow 90 M).bind fun r38 => (f_X9_mix (Int32.toInt64 r38) M r37).bind fun r39 => (f_X9_percentNow 100 M).bind fun r40 => (f_X9_mix (Int32.toInt64 r40) M r39).bind fun r41 => some r41
def f_Jxe99ae_isNaN_b9ae7 (a0 : UInt64) (M : Mem) : Option (Int32) :=
  if (Op.cmpValue (FP.dcmp a0 a0) .l) = 0 then some 0 else some 1
def f_Jxe99ae_doubleToLongBits_ccdee (a0 : UInt64) (M : Mem) : Option (Int64) :=
  (f_Jxe99ae_isNaN_b9ae7 a0 M).bind fun r1 => if r1 = 0 then some (UInt64.toInt64 a0) else some 9221120237041090560
def f_X9_digest_l65 (M : Mem) (z : Int32 × Lng) : Option ((Int32 × Lng) ⊕ (Lng)) :=
  if (M 90 4) ≤ z.1 then some (.inr z.2) else (rd M 93 60 z.1).bind fun x14 => (f_X9_mix (Int32.toInt64 x14) M z.2).bind fun r15 => some (.inl ((z.1 + 1), r15))
def f_X9_digest (M : Mem) (L : Lng) : Option (Int64 × Mem × Lng) :=
  (stf M 90 0 0).bind fun M1 => (stL L 2161).bind fun L2 => (f_X9_layAll M1).bind fun r3 => (f_X9_mixAll r3 L2).bind fun r4 => (f_X9_shareNow r3).bind fun r5 => (f_Jxe99ae_doubleToLongBits_ccdee r5 r3).bind fun r6 => (f_X9_leastNow 1 r3).bind fun r7 => (f_X9_mix (Int32.toInt64 r7.1) r7.2 r4).bind fun r8 => (f_X9_aboveNow 80 r7.2).bind fun r9 => (f_X9_mix (Int32.toInt64 r9.1) r9.2 r8).bind fun r10 => (f_X9_mix r6 r9.2 r10).bind fun r11 => (f_X9_mix (Int32.toInt64 (r9.2 90 4)) r9.2 r11).bind fun r12 => (loopN (f_X9_digest_l65 r9.2) FU (0, r12)).bind fun o16 => some ((o16 0), r9.2, o16)
end
section
theorem dX9_leastLimit_0 : decode cX9_leastLimit 0 = .ok (.aload_n 0, 1) := by decide +kernel
theorem dX9_leastLimit_1 : decode cX9_leastLimit 1 = .ok (.iload_n 1, 1) := by decide +kernel
theorem dX9_leastLimit_2 : decode cX9_leastLimit 2 = .ok (.iconst 0, 1) := by decide +kernel
theorem dX9_leastLimit_3 : decode cX9_leastLimit 3 = .ok (.sipush 200, 3) := by decide +kernel
theorem dX9_leastLimit_6 : decode cX9_leastLimit 6 = .ok (.invokestatic 65, 3) := by decide +kernel
theorem dX9_leastLimit_9 : decode cX9_leastLimit 9 = .ok (.ifCond .eq 7, 3) := by decide +kernel
theorem dX9_leastLimit_12 : decode cX9_leastLimit 12 = .ok (.iconst 0, 1) := by decide +kernel
theorem dX9_leastLimit_13 : decode cX9_leastLimit 13 = .ok (.goto 4, 3) := by decide +kernel
theorem dX9_leastLimit_16 : decode cX9_leastLimit 16 = .ok (.iconst 1, 1) := by decide +kernel
theorem dX9_leastLimit_17 : decode cX9_leastLimit 17 = .ok (.putfield 61, 3) := by decide +kernel
theorem dX9_leastLimit_20 : decode cX9_leastLimit 20 = .ok (.aload_n 0, 1) := by decide +kernel
theorem dX9_leastLimit_21 : decode cX9_leastLimit 21 = .ok (.getfield 61, 3) := by decide +kernel
theorem dX9_leastLimit_24 : decode cX9_leastLimit 24 = .ok (.ifCond .le 7, 3) := by decide +kernel
theorem dX9_leastLimit_27 : decode cX9_leastLimit 27 = .ok (.iconst 0, 1) := by decide +kernel
theorem dX9_leastLimit_28 : decode cX9_leastLimit 28 = .ok (.goto 8, 3) := by decide +kernel
theorem dX9_leastLimit_31 : decode cX9_leastLimit 31 = .ok (.aload_n 0, 1) := by decide +kernel
theorem dX9_leastLimit_32 : decode cX9_leastLimit 32 = .ok (.iload_n 1, 1) := by decide +kernel
theorem dX9_leastLimit_33 : decode cX9_leastLimit 33 = .ok (.invokevirtual 212, 3) := by decide +kernel
theorem dX9_leastLimit_36 : decode cX9_leastLimit 36 = .ok (.ireturn, 1) := by decide +kernel
set_option maxHeartbeats 4000000 in
set_option maxRecDepth 100000 in
theorem w_X9_leastLimit_j17 {w : WT} {l : Launch} {p : Program} {e : Env} {s : State} {m : MethodId} {args : Array Value} {below : List Frame} {meth : Method} {c : Code} (C : KC w p s m args meth c cX9_leastLimit 2 RX9 (some .int)) {v1 : Int32} {s1 : Int32} {M : Mem} {L : Lng} {out : Int32 × Mem} (hf : f_X9_leastLimit_j17 v1 s1 M = some out) : AtL w p l e ({ frames := 7, cells := 0, slots := 0, locals := 155 } : Room) s m args below meth c (MQ below (QI w out.1 out.2 L) args s 0 0 (wA w)) 2 17 M L [(0, .ref (wAd w 90)), (1, .int v1)] [.int s1, .ref (wAd w 90)] := by
  intro H locs ls hP hS hl
  unfold f_X9_leastLimit_j17 at hf
  obtain ⟨M3, hM3, hf⟩ := ob hf
  refine k_puti C hP hS (lt_Model h0_Model) (fun row => ob_Model h0_Model w L row) rfl iX9 tyX9 tyX9_ok nmX9 0 (by decide) q863 rfl rfl (by decide) rfl hM3 dX9_leastLimit_17 (fun H locs hP hS => ?_)
  refine lv_aload_n C.1 C.2.1 dX9_leastLimit_20 rfl (lv_at hl 0 rfl) ?_
  refine k_get (v := .int (M3 90 0)) C hP (lt_Model h0_Model) (ob_Model h0_Model w L _) rfl iX9 0 (by decide) q863 rfl dX9_leastLimit_21 ?_
  refine lv_if_le (tgt := 31) C.1 C.2.1 dX9_leastLimit_24 (by decide) (fun c4 => ?_) (fun c4 => ?_)
  · have hf := (if_pos c4).symm.trans hf
    refine lv_aload_n C.1 C.2.1 dX9_leastLimit_31 rfl (lv_at hl 0 rfl) ?_
    refine lv_iload_n C.1 C.2.1 dX9_leastLimit_32 rfl (lv_at hl 1 rfl) ?_
    obtain ⟨r5, hr5, hf⟩ := ob hf
    refine kci (kV (As := [.int v1]) (rest := []) C hl.1 hP hS (c_X9_leastNow w l C.2.2.2.2.2.2.2.2 (L := L) hr5) (gV q1172 q1174 qp56 q10 q1175) hd_X9_leastNow (lt_Model h0_Model) (ob_Model h0_Model w L _) rfl ⟨rfl, rfl⟩ ⟨Nat.le_of_ble_eq_true rfl, Nat.le_of_ble_eq_true rfl⟩ rfl rfl (Nat.le_of_ble_eq_true rfl) dX9_leastLimit_33 ⟨Nat.zero_le _, Nat.zero_le _⟩) hS (fun H locs hP hS => ?_)
    cases hf
    exact kri C hP hS dX9_leastLimit_36
  · have hf := (if_neg c4).symm.trans hf
    refine lv_iconst (v := 0) C.1 C.2.1 dX9_leastLimit_27 (by decide) ?_
    refine lv_goto (tgt := 36) C.1 C.2.1 dX9_leastLimit_28 (by decide) ?_
    cases hf
    exact kri C hP hS dX9_leastLimit_36
set_option maxHeartbeats 4000000 in
set_option maxRecDepth 100000 in
theorem c_X9_leastLimit (w : WT) (l : Launch) (hw : WOK w) {a1 : Int32} {M : Mem} {L : Lng} {out : Int32 × Mem} (hf : f_X9_leastLimit a1 M = some out) : Met l yX9_leastLimit (Cond.code yX9_leastLimit cX9_leastLimit 2 (some .int) :: BG) ({ frames := 7, cells := 0, slots := 0, locals := 155 } : Room) (PRE w [.ref (wAd w 90), .int a1] M L) (QI w out.1 out.2 L) 0 0 (wA w) := by
  refine kEnt hw (by decide +kernel) rfl (Nat.le_of_ble_eq_true rfl) ?_
  intro p e s m args below meth c C ls hl hP
  have hS : va_S (wA w) s.heap s.heap [] := va_S.rf
  have hl : lv_has ls 2 [(0, .ref (wAd w 90)), (1, .int a1)] := hl
  unfold f_X9_leastLimit at hf
  refine lv_aload_n C.1 C.2.1 dX9_leastLimit_0 rfl (lv_at hl 0 rfl) ?_
  refine lv_iload_n C.1 C.2.1 dX9_leastLimit_1 rfl (lv_at hl 1 rfl) ?_
  refine lv_iconst (v := 0) C.1 C.2.1 dX9_leastLimit_2 (by decide) ?_
  refine lv_sipush (v := 200) C.1 C.2.1 dX9_leastLimit_3 (by decide) ?_
  obtain ⟨r1, hr1, hf⟩ := ob hf
  refine kci (kS (As := [.int a1, .int 0, .int 200]) (rest := [.ref (wAd w 90)]) C hl.1 hP hS (c_X9_within w l C.2.2.2.2.2.2.2.2 (L := L) hr1) (gS q963 q964 q10 q965) hd_X9_within ⟨rfl, rfl⟩ ⟨Nat.le_of_ble_eq_true rfl, Nat.le_of_ble_eq_true rfl⟩ rfl rfl (Nat.le_of_ble_eq_true rfl) dX9_leastLimit_6 ⟨Nat.zero_le _, Nat.zero_le _⟩) hS (fun H locs hP hS => ?_)
  refine lv_if_eq (tgt := 16) C.1 C.2.1 dX9_leastLimit_9 (by decide) (fun c2 => ?_) (fun c2 => ?_)
  · have hf := (if_pos c2).symm.trans hf
    refine lv_iconst (v := 1) C.1 C.2.1 dX9_leastLimit_16 (by decide) ?_
    exact w_X9_leastLimit_j17 C hf _ _ _ hP hS hl
  · have hf := (if_neg c2).symm.trans hf
    refine lv_iconst (v := 0) C.1 C.2.1 dX9_leastLimit_12 (by decide) ?_
    refine lv_goto (tgt := 17) C.1 C.2.1 dX9_leastLimit_13 (by decide) ?_
    exact w_X9_leastLimit_j17 C hf _ _ _ hP hS hl
theorem dX9_aboveNow_0 : decode cX9_aboveNow 0 = .ok (.aload_n 0, 1) := by decide +kernel
theorem dX9_aboveNow_1 : decode cX9_aboveNow 1 = .ok (.bipush 100, 2) := by decide +kernel
theorem dX9_aboveNow_3 : decode cX9_aboveNow 3 = .ok (.iload_n 1, 1) := by decide +kernel
theorem dX9_aboveNow_4 : decode cX9_aboveNow 4 = .ok (.invokevirtual 106, 3) := by decide +kernel
theorem dX9_aboveNow_7 : decode cX9_aboveNow 7 = .ok (.iconst 1, 1) := by decide +kernel
theorem dX9_aboveNow_8 : decode cX9_aboveNow 8 = .ok (.istore_n 2, 1) := by decide +kernel
theorem dX9_aboveNow_9 : decode cX9_aboveNow 9 = .ok (.iload_n 2, 1) := by decide +kernel
theorem dX9_aboveNow_10 : decode cX9_aboveNow 10 = .ok (.bipush 100, 2) := by decide +kernel
theorem dX9_aboveNow_12 : decode cX9_aboveNow 12 = .ok (.if_icmp .gt 29, 3) := by decide +kernel
theorem dX9_aboveNow_15 : decode cX9_aboveNow 15 = .ok (.aload_n 0, 1) := by decide +kernel
theorem dX9_aboveNow_16 : decode cX9_aboveNow 16 = .ok (.getfield 31, 3) := by decide +kernel
theorem dX9_aboveNow_19 : decode cX9_aboveNow 19 = .ok (.aload_n 0, 1) := by decide +kernel
theorem dX9_aboveNow_20 : decode cX9_aboveNow 20 = .ok (.getfield 7, 3) := by decide +kernel
theorem dX9_aboveNow_23 : decode cX9_aboveNow 23 = .ok (.iconst 0, 1) := by decide +kernel
theorem dX9_aboveNow_24 : decode cX9_aboveNow 24 = .ok (.iaload, 1) := by decide +kernel
theorem dX9_aboveNow_25 : decode cX9_aboveNow 25 = .ok (.iload_n 2, 1) := by decide +kernel
theorem dX9_aboveNow_26 : decode cX9_aboveNow 26 = .ok (.iadd, 1) := by decide +kernel
theorem dX9_aboveNow_27 : decode cX9_aboveNow 27 = .ok (.iconst 1, 1) := by decide +kernel
theorem dX9_aboveNow_28 : decode cX9_aboveNow 28 = .ok (.isub, 1) := by decide +kernel
theorem dX9_aboveNow_29 : decode cX9_aboveNow 29 = .ok (.iaload, 1) := by decide +kernel
theorem dX9_aboveNow_30 : decode cX9_aboveNow 30 = .ok (.ifCond .ne 5, 3) := by decide +kernel
theorem dX9_aboveNow_33 : decode cX9_aboveNow 33 = .ok (.iload_n 2, 1) := by decide +kernel
theorem dX9_aboveNow_34 : decode cX9_aboveNow 34 = .ok (.ireturn, 1) := by decide +kernel
theorem dX9_aboveNow_35 : decode cX9_aboveNow 35 = .ok (.iinc 2 1, 3) := by decide +kernel
theorem dX9_aboveNow_38 : decode cX9_aboveNow 38 = .ok (.goto (-29), 3) := by decide +kernel
theorem dX9_aboveNow_41 : decode cX9_aboveNow 41 = .ok (.iconst (-1), 1) := by decide +kernel
theorem dX9_aboveNow_42 : decode cX9_aboveNow 42 = .ok (.ireturn, 1) := by decide +kernel
set_option maxHeartbeats 4000000 in
set_option maxRecDepth 100000 in
theorem w_X9_aboveNow_l9 {w : WT} {l : Launch} {p : Program} {e : Env} {s : State} {m : MethodId} {args : Array Value} {below : List Frame} {meth : Method} {c : Code} (C : KC w p s m args meth c cX9_aboveNow 3 RX9 (some .int)) {M : Mem} {L : Lng} {out : Int32 × Mem} (z : Int32) (o : (Int32) ⊕ ((Unit) ⊕ (Int32 × Mem))) (hf : f_X9_aboveNow_l9 M z = some o) (hA : ∀ z, o = .inl z → AtL w p l e ({ frames := 6, cells := 0, slots := 0, locals := 131 } : Room) s m args below meth c (MQ below (QI w out.1 out.2 L) args s 0 0 (wA w)) 3 9 M L [(0, .ref (wAd w 90)), (2, .int z)] []) (hE : ∀ y, o = .inr y → Sum.elim (fun y => AtL w p l e ({ frames := 6, cells := 0, slots := 0, locals := 131 } : Room) s m args below meth c (MQ below (QI w out.1 out.2 L) args s 0 0 (wA w)) 3 41 M L [] []) (fun y => y = out) y) : AtL w p l e ({ frames := 6, cells := 0, slots := 0, locals := 131 } : Room) s m args below meth c (MQ below (QI w out.1 out.2 L) args s 0 0 (wA w)) 3 9 M L [(0, .ref (wAd w 90)), (2, .int z)] [] := by
  intro H locs ls hP hS hl
  unfold f_X9_aboveNow_l9 at hf
  refine lv_iload_n C.1 C.2.1 dX9_aboveNow_9 rfl (lv_at hl 1 rfl) ?_
  refine lv_bipush (v := 100) C.1 C.2.1 dX9_aboveNow_10 (by decide) ?_
  refine lv_icmp_gt (tgt := 41) C.1 C.2.1 dX9_aboveNow_12 (by decide) (fun c2 => ?_) (fun c2 => ?_)
  · have hf := (if_pos c2).symm.trans hf
    cases hf
    exact hE _ rfl _ _ _ hP hS (lv_sub hl [] rfl)
  · have hf := (if_neg c2).symm.trans hf
    refine lv_aload_n C.1 C.2.1 dX9_aboveNow_15 rfl (lv_at hl 0 rfl) ?_
    refine k_get (v := .ref (wAd w 98)) C hP (lt_Model h0_Model) (ob_Model h0_Model w L _) rfl iX9 11 (by decide) q874 rfl dX9_aboveNow_16 ?_
    refine lv_aload_n C.1 C.2.1 dX9_aboveNow_19 rfl (lv_at hl 0 rfl) ?_
    refine k_get (v := .ref (wAd w 91)) C hP (lt_Model h0_Model) (ob_Model h0_Model w L _) rfl iX9 1 (by decide) q864 rfl dX9_aboveNow_20 ?_
    refine lv_iconst (v := 0) C.1 C.2.1 dX9_aboveNow_23 (by decide) ?_
    obtain ⟨x3, hx3, hf⟩ := ob hf
    refine k_iald C hP (la_Model_z h0_Model) (ar_Model_z h0_Model w L _) hx3 dX9_aboveNow_24 ?_
    refine lv_iload_n C.1 C.2.1 dX9_aboveNow_25 rfl (lv_at hl 1 rfl) ?_
    refine lv_iadd C.1 C.2.1 dX9_aboveNow_26 ?_
    refine lv_iconst (v := 1) C.1 C.2.1 dX9_aboveNow_27 (by decide) ?_
    refine lv_isub C.1 C.2.1 dX9_aboveNow_28 ?_
    obtain ⟨x4, hx4, hf⟩ := ob hf
    refine k_iald C hP (la_Model_why h0_Model) (ar_Model_why h0_Model w L _) hx4 dX9_aboveNow_29 ?_
    refine lv_if_ne (tgt := 35) C.1 C.2.1 dX9_aboveNow_30 (by decide) (fun c5 => ?_) (fun c5 => ?_)
    · have hf := (if_neg c5).symm.trans hf
      refine lv_iinc (v := (z + 1)) (lv' := [(2, .int (z + 1)), (0, .ref (wAd w 90))]) C.1 C.2.1 dX9_aboveNow_35 hl (k := 1) rfl rfl (by decide) rfl (fun ls hl => ?_)
      refine lv_goto (tgt := 9) C.1 C.2.1 dX9_aboveNow_38 (by decide) ?_
      cases hf
      exact hA _ rfl _ _ _ hP hS (lv_sub hl [1, 0] rfl)
    · have hf := (if_pos c5).symm.trans hf
      refine lv_iload_n C.1 C.2.1 dX9_aboveNow_33 rfl (lv_at hl 1 rfl) ?_
      cases hf
      cases hE _ rfl
      exact kri C hP hS dX9_aboveNow_34
set_option maxHeartbeats 4000000 in
set_option maxRecDepth 100000 in
theorem c_X9_aboveNow (w : WT) (l : Launch) (hw : WOK w) {a1 : Int32} {M : Mem} {L : Lng} {out : Int32 × Mem} (hf : f_X9_aboveNow a1 M = some out) : Met l yX9_aboveNow (Cond.code yX9_aboveNow cX9_aboveNow 3 (some .int) :: BG) ({ frames := 6, cells := 0, slots := 0, locals := 131 } : Room) (PRE w [.ref (wAd w 90), .int a1] M L) (QI w out.1 out.2 L) 0 0 (wA w) := by
  refine kEnt hw (by decide +kernel) rfl (Nat.le_of_ble_eq_true rfl) ?_
  intro p e s m args below meth c C ls hl hP
  have hS : va_S (wA w) s.heap s.heap [] := va_S.rf
  have hl : lv_has ls 3 [(0, .ref (wAd w 90)), (1, .int a1)] := hl
  unfold f_X9_aboveNow at hf
  refine lv_aload_n C.1 C.2.1 dX9_aboveNow_0 rfl (lv_at hl 0 rfl) ?_
  refine lv_bipush (v := 100) C.1 C.2.1 dX9_aboveNow_1 (by decide) ?_
  refine lv_iload_n C.1 C.2.1 dX9_aboveNow_3 rfl (lv_at hl 1 rfl) ?_
  obtain ⟨r1, hr1, hf⟩ := ob hf
  refine kcv (kV (As := [.int 100, .int a1]) (rest := []) C hl.1 hP hS (c_X9_lay w l C.2.2.2.2.2.2.2.2 (L := L) hr1) (gV q996 q998 qp28 q10 q999) hd_X9_lay (lt_Model h0_Model) (ob_Model h0_Model w L _) rfl ⟨rfl, rfl⟩ ⟨Nat.le_of_ble_eq_true rfl, Nat.le_of_ble_eq_true rfl⟩ rfl rfl (Nat.le_of_ble_eq_true rfl) dX9_aboveNow_4 ⟨Nat.zero_le _, Nat.zero_le _⟩) hS (fun H locs hP hS => ?_)
  refine lv_iconst (v := 1) C.1 C.2.1 dX9_aboveNow_7 (by decide) ?_
  refine lv_istore_n (lv' := [(2, .int 1), (0, .ref (wAd w 90)), (1, .int a1)]) C.1 C.2.1 dX9_aboveNow_8 rfl hl (by decide) rfl (fun ls hl => ?_)
  obtain ⟨o6, ho6, hf⟩ := ob hf
  refine loop_at (w_X9_aboveNow_l9 C (out := out)) FU _ o6 ho6 ?_ _ _ _ hP hS (lv_sub hl [1, 0] rfl)
  rcases o6 with o6 | o6
  · simp only [Sum.elim_inl] at hf
    intro H locs ls hP hS hl
    refine lv_iconst (v := (-1)) C.1 C.2.1 dX9_aboveNow_41 (by decide) ?_
    cases hf
    exact kri C hP hS dX9_aboveNow_42
  · simp only [Sum.elim_inr] at hf
    exact Option.some.inj hf
theorem dX9_aboveIn_0 : decode cX9_aboveIn 0 = .ok (.aload_n 0, 1) := by decide +kernel
theorem dX9_aboveIn_1 : decode cX9_aboveIn 1 = .ok (.iload_n 1, 1) := by decide +kernel
theorem dX9_aboveIn_2 : decode cX9_aboveIn 2 = .ok (.iconst 0, 1) := by decide +kernel
theorem dX9_aboveIn_3 : decode cX9_aboveIn 3 = .ok (.sipush 140, 3) := by decide +kernel
theorem dX9_aboveIn_6 : decode cX9_aboveIn 6 = .ok (.invokestatic 65, 3) := by decide +kernel
theorem dX9_aboveIn_9 : decode cX9_aboveIn 9 = .ok (.ifCond .eq 7, 3) := by decide +kernel
theorem dX9_aboveIn_12 : decode cX9_aboveIn 12 = .ok (.iconst 0, 1) := by decide +kernel
theorem dX9_aboveIn_13 : decode cX9_aboveIn 13 = .ok (.goto 4, 3) := by decide +kernel
theorem dX9_aboveIn_16 : decode cX9_aboveIn 16 = .ok (.iconst 1, 1) := by decide +kernel
theorem dX9_aboveIn_17 : decode cX9_aboveIn 17 = .ok (.putfield 61, 3) := by decide +kernel
theorem dX9_aboveIn_20 : decode cX9_aboveIn 20 = .ok (.aload_n 0, 1) := by decide +kernel
theorem dX9_aboveIn_21 : decode cX9_aboveIn 21 = .ok (.getfield 61, 3) := by decide +kernel
theorem dX9_aboveIn_24 : decode cX9_aboveIn 24 = .ok (.ifCond .le 7, 3) := by decide +kernel
theorem dX9_aboveIn_27 : decode cX9_aboveIn 27 = .ok (.iconst 0, 1) := by decide +kernel
theorem dX9_aboveIn_28 : decode cX9_aboveIn 28 = .ok (.goto 8, 3) := by decide +kernel
theorem dX9_aboveIn_31 : decode cX9_aboveIn 31 = .ok (.aload_n 0, 1) := by decide +kernel
theorem dX9_aboveIn_32 : decode cX9_aboveIn 32 = .ok (.iload_n 1, 1) := by decide +kernel
theorem dX9_aboveIn_33 : decode cX9_aboveIn 33 = .ok (.invokevirtual 215, 3) := by decide +kernel
theorem dX9_aboveIn_36 : decode cX9_aboveIn 36 = .ok (.ireturn, 1) := by decide +kernel
set_option maxHeartbeats 4000000 in
set_option maxRecDepth 100000 in
theorem w_X9_aboveIn_j17 {w : WT} {l : Launch} {p : Program} {e : Env} {s : State} {m : MethodId} {args : Array Value} {below : List Frame} {meth : Method} {c : Code} (C : KC w p s m args meth c cX9_aboveIn 2 RX9 (some .int)) {v1 : Int32} {s1 : Int32} {M : Mem} {L : Lng} {out : Int32 × Mem} (hf : f_X9_aboveIn_j17 v1 s1 M = some out) : AtL w p l e ({ frames := 7, cells := 0, slots := 0, locals := 153 } : Room) s m args below meth c (MQ below (QI w out.1 out.2 L) args s 0 0 (wA w)) 2 17 M L [(0, .ref (wAd w 90)), (1, .int v1)] [.int s1, .ref (wAd w 90)] := by
  intro H locs ls hP hS hl
  unfold f_X9_aboveIn_j17 at hf
  obtain ⟨M3, hM3, hf⟩ := ob hf
  refine k_puti C hP hS (lt_Model h0_Model) (fun row => ob_Model h0_Model w L row) rfl iX9 tyX9 tyX9_ok nmX9 0 (by decide) q863 rfl rfl (by decide) rfl hM3 dX9_aboveIn_17 (fun H locs hP hS => ?_)
  refine lv_aload_n C.1 C.2.1 dX9_aboveIn_20 rfl (lv_at hl 0 rfl) ?_
  refine k_get (v := .int (M3 90 0)) C hP (lt_Model h0_Model) (ob_Model h0_Model w L _) rfl iX9 0 (by decide) q863 rfl dX9_aboveIn_21 ?_
  refine lv_if_le (tgt := 31) C.1 C.2.1 dX9_aboveIn_24 (by decide) (fun c4 => ?_) (fun c4 => ?_)
  · have hf := (if_pos c4).symm.trans hf
    refine lv_aload_n C.1 C.2.1 dX9_aboveIn_31 rfl (lv_at hl 0 rfl) ?_
    refine lv_iload_n C.1 C.2.1 dX9_aboveIn_32 rfl (lv_at hl 1 rfl) ?_
    obtain ⟨r5, hr5, hf⟩ := ob hf
    refine kci (kV (As := [.int v1]) (rest := []) C hl.1 hP hS (c_X9_aboveNow w l C.2.2.2.2.2.2.2.2 (L := L) hr5) (gV q1180 q1182 qp57 q10 q1183) hd_X9_aboveNow (lt_Model h0_Model) (ob_Model h0_Model w L _) rfl ⟨rfl, rfl⟩ ⟨Nat.le_of_ble_eq_true rfl, Nat.le_of_ble_eq_true rfl⟩ rfl rfl (Nat.le_of_ble_eq_true rfl) dX9_aboveIn_33 ⟨Nat.zero_le _, Nat.zero_le _⟩) hS (fun H locs hP hS => ?_)
    cases hf
    exact kri C hP hS dX9_aboveIn_36
  · have hf := (if_neg c4).symm.trans hf
    refine lv_iconst (v := 0) C.1 C.2.1 dX9_aboveIn_27 (by decide) ?_
    refine lv_goto (tgt := 36) C.1 C.2.1 dX9_aboveIn_28 (by decide) ?_
    cases hf
    exact kri C hP hS dX9_aboveIn_36
set_option maxHeartbeats 4000000 in
set_option maxRecDepth 100000 in
theorem c_X9_aboveIn (w : WT) (l : Launch) (hw : WOK w) {a1 : Int32} {M : Mem} {L : Lng} {out : Int32 × Mem} (hf : f_X9_aboveIn a1 M = some out) : Met l yX9_aboveIn (Cond.code yX9_aboveIn cX9_aboveIn 2 (some .int) :: BG) ({ frames := 7, cells := 0, slots := 0, locals := 153 } : Room) (PRE w [.ref (wAd w 90), .int a1] M L) (QI w out.1 out.2 L) 0 0 (wA w) := by
  refine kEnt hw (by decide +kernel) rfl (Nat.le_of_ble_eq_true rfl) ?_
  intro p e s m args below meth c C ls hl hP
  have hS : va_S (wA w) s.heap s.heap [] := va_S.rf
  have hl : lv_has ls 2 [(0, .ref (wAd w 90)), (1, .int a1)] := hl
  unfold f_X9_aboveIn at hf
  refine lv_aload_n C.1 C.2.1 dX9_aboveIn_0 rfl (lv_at hl 0 rfl) ?_
  refine lv_iload_n C.1 C.2.1 dX9_aboveIn_1 rfl (lv_at hl 1 rfl) ?_
  refine lv_iconst (v := 0) C.1 C.2.1 dX9_aboveIn_2 (by decide) ?_
  refine lv_sipush (v := 140) C.1 C.2.1 dX9_aboveIn_3 (by decide) ?_
  obtain ⟨r1, hr1, hf⟩ := ob hf
  refine kci (kS (As := [.int a1, .int 0, .int 140]) (rest := [.ref (wAd w 90)]) C hl.1 hP hS (c_X9_within w l C.2.2.2.2.2.2.2.2 (L := L) hr1) (gS q963 q964 q10 q965) hd_X9_within ⟨rfl, rfl⟩ ⟨Nat.le_of_ble_eq_true rfl, Nat.le_of_ble_eq_true rfl⟩ rfl rfl (Nat.le_of_ble_eq_true rfl) dX9_aboveIn_6 ⟨Nat.zero_le _, Nat.zero_le _⟩) hS (fun H locs hP hS => ?_)
  refine lv_if_eq (tgt := 16) C.1 C.2.1 dX9_aboveIn_9 (by decide) (fun c2 => ?_) (fun c2 => ?_)
  · have hf := (if_pos c2).symm.trans hf
    refine lv_iconst (v := 1) C.1 C.2.1 dX9_aboveIn_16 (by decide) ?_
    exact w_X9_aboveIn_j17 C hf _ _ _ hP hS hl
  · have hf := (if_neg c2).symm.trans hf
    refine lv_iconst (v := 0) C.1 C.2.1 dX9_aboveIn_12 (by decide) ?_
    refine lv_goto (tgt := 17) C.1 C.2.1 dX9_aboveIn_13 (by decide) ?_
    exact w_X9_aboveIn_j17 C hf _ _ _ hP hS hl
theorem dX9_shareNow_0 : decode cX9_shareNow 0 = .ok (.aload_n 0, 1) := by decide +kernel
theorem dX9_shareNow_1 : decode cX9_shareNow 1 = .ok (.iconst 0, 1) := by decide +kernel
theorem dX9_shareNow_2 : decode cX9_shareNow 2 = .ok (.invokevirtual 184, 3) := by decide +kernel
theorem dX9_shareNow_5 : decode cX9_shareNow 5 = .ok (.istore_n 1, 1) := by decide +kernel
theorem dX9_shareNow_6 : decode cX9_shareNow 6 = .ok (.iload_n 1, 1) := by decide +kernel
theorem dX9_shareNow_7 : decode cX9_shareNow 7 = .ok (.ifCond .ne 7, 3) := by decide +kernel
theorem dX9_shareNow_10 : decode cX9_shareNow 10 = .ok (.dconst 0, 1) := by decide +kernel
theorem dX9_shareNow_11 : decode cX9_shareNow 11 = .ok (.goto 15, 3) := by decide +kernel
theorem dX9_shareNow_14 : decode cX9_shareNow 14 = .ok (.dconst 1, 1) := by decide +kernel
theorem dX9_shareNow_15 : decode cX9_shareNow 15 = .ok (.aload_n 0, 1) := by decide +kernel
theorem dX9_shareNow_16 : decode cX9_shareNow 16 = .ok (.iconst 0, 1) := by decide +kernel
theorem dX9_shareNow_17 : decode cX9_shareNow 17 = .ok (.iconst 0, 1) := by decide +kernel
theorem dX9_shareNow_18 : decode cX9_shareNow 18 = .ok (.invokevirtual 190, 3) := by decide +kernel
theorem dX9_shareNow_21 : decode cX9_shareNow 21 = .ok (.i2d, 1) := by decide +kernel
theorem dX9_shareNow_22 : decode cX9_shareNow 22 = .ok (.dmul, 1) := by decide +kernel
theorem dX9_shareNow_23 : decode cX9_shareNow 23 = .ok (.iload_n 1, 1) := by decide +kernel
theorem dX9_shareNow_24 : decode cX9_shareNow 24 = .ok (.i2d, 1) := by decide +kernel
theorem dX9_shareNow_25 : decode cX9_shareNow 25 = .ok (.ddiv, 1) := by decide +kernel
theorem dX9_shareNow_26 : decode cX9_shareNow 26 = .ok (.dreturn, 1) := by decide +kernel
set_option maxHeartbeats 4000000 in
set_option maxRecDepth 100000 in
theorem c_X9_shareNow (w : WT) (l : Launch) (hw : WOK w) {M : Mem} {L : Lng} {out : UInt64} (hf : f_X9_shareNow M = some out) : Met l yX9_shareNow (Cond.code yX9_shareNow cX9_shareNow 2 (some .double) :: BG) ({ frames := 2, cells := 0, slots := 0, locals := 46 } : Room) (PRE w [.ref (wAd w 90)] M L) (QD w out M L) 0 0 (wA w) := by
  refine kEnt hw (by decide +kernel) rfl (Nat.le_of_ble_eq_true rfl) ?_
  intro p e s m args below meth c C ls hl hP
  have hS : va_S (wA w) s.heap s.heap [] := va_S.rf
  have hl : lv_has ls 2 [(0, .ref (wAd w 90))] := hl
  unfold f_X9_shareNow at hf
  refine lv_aload_n C.1 C.2.1 dX9_shareNow_0 rfl (lv_at hl 0 rfl) ?_
  refine lv_iconst (v := 0) C.1 C.2.1 dX9_shareNow_1 (by decide) ?_
  obtain ⟨r1, hr1, hf⟩ := ob hf
  refine kci (kV (As := [.int 0]) (rest := []) C hl.1 hP hS (c_X9_countFrom w l C.2.2.2.2.2.2.2.2 (L := L) hr1) (gV q1116 q1118 qp47 q10 q1119) hd_X9_countFrom (lt_Model h0_Model) (ob_Model h0_Model w L _) rfl ⟨rfl, rfl⟩ ⟨Nat.le_of_ble_eq_true rfl, Nat.le_of_ble_eq_true rfl⟩ rfl rfl (Nat.le_of_ble_eq_true rfl) dX9_shareNow_2 ⟨Nat.zero_le _, Nat.zero_le _⟩) hS (fun H locs hP hS => ?_)
  refine lv_istore_n (lv' := [(1, .int r1), (0, .ref (wAd w 90))]) C.1 C.2.1 dX9_shareNow_5 rfl hl (by decide) rfl (fun ls hl => ?_)
  refine lv_iload_n C.1 C.2.1 dX9_shareNow_6 rfl (lv_at hl 0 rfl) ?_
  refine lv_if_ne (tgt := 14) C.1 C.2.1 dX9_shareNow_7 (by decide) (fun c2 => ?_) (fun c2 => ?_)
  · have hf := (if_neg c2).symm.trans hf
    refine lv_dconst1 C.1 C.2.1 dX9_shareNow_14 ?_
    refine lv_aload_n C.1 C.2.1 dX9_shareNow_15 rfl (lv_at hl 1 rfl) ?_
    refine lv_iconst (v := 0) C.1 C.2.1 dX9_shareNow_16 (by decide) ?_
    refine lv_iconst (v := 0) C.1 C.2.1 dX9_shareNow_17 (by decide) ?_
    obtain ⟨r3, hr3, hf⟩ := ob hf
    refine kci (kV (As := [.int 0, .int 0]) (rest := [.double 0x3ff0000000000000]) C hl.1 hP hS (c_X9_minutesBy w l C.2.2.2.2.2.2.2.2 (L := L) hr3) (gV q1136 q1138 qp50 q10 q1139) hd_X9_minutesBy (lt_Model h0_Model) (ob_Model h0_Model w L _) rfl ⟨rfl, rfl⟩ ⟨Nat.le_of_ble_eq_true rfl, Nat.le_of_ble_eq_true rfl⟩ rfl rfl (Nat.le_of_ble_eq_true rfl) dX9_shareNow_18 ⟨Nat.zero_le _, Nat.zero_le _⟩) hS (fun H locs hP hS => ?_)
    refine lv_i2d C.1 C.2.1 dX9_shareNow_21 ?_
    obtain ⟨x4, hx4, hf⟩ := ob hf
    refine k_dmul C hx4 dX9_shareNow_22 ?_
    refine lv_iload_n C.1 C.2.1 dX9_shareNow_23 rfl (lv_at hl 0 rfl) ?_
    refine lv_i2d C.1 C.2.1 dX9_shareNow_24 ?_
    obtain ⟨x5, hx5, hf⟩ := ob hf
    refine k_ddiv C hx5 dX9_shareNow_25 ?_
    cases hf
    exact krd C hP hS dX9_shareNow_26
  · have hf := (if_pos c2).symm.trans hf
    refine lv_dconst0 C.1 C.2.1 dX9_shareNow_10 ?_
    refine lv_goto (tgt := 26) C.1 C.2.1 dX9_shareNow_11 (by decide) ?_
    cases hf
    exact krd C hP hS dX9_shareNow_26
theorem dX9_share_0 : decode cX9_share 0 = .ok (.aload_n 0, 1) := by decide +kernel
theorem dX9_share_1 : decode cX9_share 1 = .ok (.iconst 0, 1) := by decide +kernel
theorem dX9_share_2 : decode cX9_share 2 = .ok (.putfield 61, 3) := by decide +kernel
theorem dX9_share_5 : decode cX9_share 5 = .ok (.aload_n 0, 1) := by decide +kernel
theorem dX9_share_6 : decode cX9_share 6 = .ok (.invokevirtual 138, 3) := by decide +kernel
theorem dX9_share_9 : decode cX9_share 9 = .ok (.aload_n 0, 1) := by decide +kernel
theorem dX9_share_10 : decode cX9_share 10 = .ok (.invokevirtual 218, 3) := by decide +kernel
theorem dX9_share_13 : decode cX9_share 13 = .ok (.dreturn, 1) := by decide +kernel
set_option maxHeartbeats 4000000 in
set_option maxRecDepth 100000 in
theorem c_X9_share (w : WT) (l : Launch) (hw : WOK w) {M : Mem} {L : Lng} {out : UInt64 × Mem} (hf : f_X9_share M = some out) : Met l yX9_share (Cond.code yX9_share cX9_share 1 (some .double) :: BG) ({ frames := 7, cells := 0, slots := 0, locals := 151 } : Room) (PRE w [.ref (wAd w 90)] M L) (QD w out.1 out.2 L) 0 0 (wA w) := by
  refine kEnt hw (by decide +kernel) rfl (Nat.le_of_ble_eq_true rfl) ?_
  intro p e s m args below meth c C ls hl hP
  have hS : va_S (wA w) s.heap s.heap [] := va_S.rf
  have hl : lv_has ls 1 [(0, .ref (wAd w 90))] := hl
  unfold f_X9_share at hf
  refine lv_aload_n C.1 C.2.1 dX9_share_0 rfl (lv_at hl 0 rfl) ?_
  refine lv_iconst (v := 0) C.1 C.2.1 dX9_share_1 (by decide) ?_
  obtain ⟨M1, hM1, hf⟩ := ob hf
  refine k_puti C hP hS (lt_Model h0_Model) (fun row => ob_Model h0_Model w L row) rfl iX9 tyX9 tyX9_ok nmX9 0 (by decide) q863 rfl rfl (by decide) rfl hM1 dX9_share_2 (fun H locs hP hS => ?_)
  refine lv_aload_n C.1 C.2.1 dX9_share_5 rfl (lv_at hl 0 rfl) ?_
  obtain ⟨r2, hr2, hf⟩ := ob hf
  refine kcv (kV (As := []) (rest := []) C hl.1 hP hS (c_X9_layAll w l C.2.2.2.2.2.2.2.2 (L := L) hr2) (gV q1040 q1042 qp36 q10 q1043) hd_X9_layAll (lt_Model h0_Model) (ob_Model h0_Model w L _) rfl ⟨rfl, rfl⟩ ⟨Nat.le_of_ble_eq_true rfl, Nat.le_of_ble_eq_true rfl⟩ rfl rfl (Nat.le_of_ble_eq_true rfl) dX9_share_6 ⟨Nat.zero_le _, Nat.zero_le _⟩) hS (fun H locs hP hS => ?_)
  refine lv_aload_n C.1 C.2.1 dX9_share_9 rfl (lv_at hl 0 rfl) ?_
  obtain ⟨r3, hr3, hf⟩ := ob hf
  refine kcd (kV (As := []) (rest := []) C hl.1 hP hS (c_X9_shareNow w l C.2.2.2.2.2.2.2.2 (L := L) hr3) (gV q1188 q1190 qp58 q10 q1191) hd_X9_shareNow (lt_Model h0_Model) (ob_Model h0_Model w L _) rfl ⟨rfl, rfl⟩ ⟨Nat.le_of_ble_eq_true rfl, Nat.le_of_ble_eq_true rfl⟩ rfl rfl (Nat.le_of_ble_eq_true rfl) dX9_share_10 ⟨Nat.zero_le _, Nat.zero_le _⟩) hS (fun H locs hP hS => ?_)
  cases hf
  exact krd C hP hS dX9_share_13
theorem dX9_mix_0 : decode cX9_mix 0 = .ok (.aload_n 0, 1) := by decide +kernel
theorem dX9_mix_1 : decode cX9_mix 1 = .ok (.ldc2_w 222, 3) := by decide +kernel
theorem dX9_mix_4 : decode cX9_mix 4 = .ok (.aload_n 0, 1) := by decide +kernel
theorem dX9_mix_5 : decode cX9_mix 5 = .ok (.getfield 224, 3) := by decide +kernel
theorem dX9_mix_8 : decode cX9_mix 8 = .ok (.lmul, 1) := by decide +kernel
theorem dX9_mix_9 : decode cX9_mix 9 = .ok (.lload_n 1, 1) := by decide +kernel
theorem dX9_mix_10 : decode cX9_mix 10 = .ok (.ladd, 1) := by decide +kernel
theorem dX9_mix_11 : decode cX9_mix 11 = .ok (.putfield 224, 3) := by decide +kernel
theorem dX9_mix_14 : decode cX9_mix 14 = .ok (.return_, 1) := by decide +kernel
set_option maxHeartbeats 4000000 in
set_option maxRecDepth 100000 in
theorem c_X9_mix (w : WT) (l : Launch) (hw : WOK w) {a1 : Int64} {M : Mem} {L : Lng} {out : Lng} (hf : f_X9_mix a1 M L = some out) : Met l yX9_mix (Cond.code yX9_mix cX9_mix 3 none :: BG) ({ frames := 0, cells := 0, slots := 0, locals := 0 } : Room) (PRE w [.ref (wAd w 90), .long a1] M L) (QV w M out) 0 0 (wA w) := by
  refine kEnt hw (by decide +kernel) rfl (Nat.le_of_ble_eq_true rfl) ?_
  intro p e s m args below meth c C ls hl hP
  have hS : va_S (wA w) s.heap s.heap [] := va_S.rf
  have hl : lv_has ls 3 [(0, .ref (wAd w 90)), (1, .long a1)] := hl
  unfold f_X9_mix at hf
  refine lv_aload_n C.1 C.2.1 dX9_mix_0 rfl (lv_at hl 0 rfl) ?_
  refine lv_ldc2 C.1 C.2.1 C.2.2.2.1 (C.2.2.2.2.1 _ q1205) dX9_mix_1 ?_
  refine lv_aload_n C.1 C.2.1 dX9_mix_4 rfl (lv_at hl 0 rfl) ?_
  refine k_get (v := .long (L 0)) C hP (lt_Model h0_Model) (ob_Model h0_Model w L _) rfl iX9 27 (by decide) q890 rfl dX9_mix_5 ?_
  refine lv_lmul C.1 C.2.1 dX9_mix_8 ?_
  refine lv_lload_n C.1 C.2.1 dX9_mix_9 rfl (lv_at hl 1 rfl) ?_
  refine lv_ladd C.1 C.2.1 dX9_mix_10 ?_
  obtain ⟨L1, hL1, hf⟩ := ob hf
  refine k_putl C hP hS rfl q890 hL1 dX9_mix_11 (fun H locs hP hS => ?_)
  cases hf
  exact krv C hP hS dX9_mix_14
theorem dX9_mixAll_0 : decode cX9_mixAll 0 = .ok (.iconst 0, 1) := by decide +kernel
theorem dX9_mixAll_1 : decode cX9_mixAll 1 = .ok (.istore_n 1, 1) := by decide +kernel
theorem dX9_mixAll_2 : decode cX9_mixAll 2 = .ok (.iload_n 1, 1) := by decide +kernel
theorem dX9_mixAll_3 : decode cX9_mixAll 3 = .ok (.bipush 12, 2) := by decide +kernel
theorem dX9_mixAll_5 : decode cX9_mixAll 5 = .ok (.if_icmp .ge 19, 3) := by decide +kernel
theorem dX9_mixAll_8 : decode cX9_mixAll 8 = .ok (.aload_n 0, 1) := by decide +kernel
theorem dX9_mixAll_9 : decode cX9_mixAll 9 = .ok (.aload_n 0, 1) := by decide +kernel
theorem dX9_mixAll_10 : decode cX9_mixAll 10 = .ok (.iload_n 1, 1) := by decide +kernel
theorem dX9_mixAll_11 : decode cX9_mixAll 11 = .ok (.invokevirtual 205, 3) := by decide +kernel
theorem dX9_mixAll_14 : decode cX9_mixAll 14 = .ok (.i2l, 1) := by decide +kernel
theorem dX9_mixAll_15 : decode cX9_mixAll 15 = .ok (.invokevirtual 228, 3) := by decide +kernel
theorem dX9_mixAll_18 : decode cX9_mixAll 18 = .ok (.iinc 1 1, 3) := by decide +kernel
theorem dX9_mixAll_21 : decode cX9_mixAll 21 = .ok (.goto (-19), 3) := by decide +kernel
theorem dX9_mixAll_24 : decode cX9_mixAll 24 = .ok (.iconst 0, 1) := by decide +kernel
theorem dX9_mixAll_25 : decode cX9_mixAll 25 = .ok (.istore_n 1, 1) := by decide +kernel
theorem dX9_mixAll_26 : decode cX9_mixAll 26 = .ok (.iload_n 1, 1) := by decide +kernel
theorem dX9_mixAll_27 : decode cX9_mixAll 27 = .ok (.bipush 10, 2) := by decide +kernel
theorem dX9_mixAll_29 : decode cX9_mixAll 29 = .ok (.if_icmp .ge 19, 3) := by decide +kernel
theorem dX9_mixAll_32 : decode cX9_mixAll 32 = .ok (.aload_n 0, 1) := by decide +kernel
theorem dX9_mixAll_33 : decode cX9_mixAll 33 = .ok (.aload_n 0, 1) := by decide +kernel
theorem dX9_mixAll_34 : decode cX9_mixAll 34 = .ok (.iload_n 1, 1) := by decide +kernel
theorem dX9_mixAll_35 : decode cX9_mixAll 35 = .ok (.invokevirtual 69, 3) := by decide +kernel
theorem dX9_mixAll_38 : decode cX9_mixAll 38 = .ok (.i2l, 1) := by decide +kernel
theorem dX9_mixAll_39 : decode cX9_mixAll 39 = .ok (.invokevirtual 228, 3) := by decide +kernel
theorem dX9_mixAll_42 : decode cX9_mixAll 42 = .ok (.iinc 1 1, 3) := by decide +kernel
theorem dX9_mixAll_45 : decode cX9_mixAll 45 = .ok (.goto (-19), 3) := by decide +kernel
theorem dX9_mixAll_48 : decode cX9_mixAll 48 = .ok (.iconst 0, 1) := by decide +kernel
theorem dX9_mixAll_49 : decode cX9_mixAll 49 = .ok (.istore_n 1, 1) := by decide +kernel
theorem dX9_mixAll_50 : decode cX9_mixAll 50 = .ok (.iload_n 1, 1) := by decide +kernel
theorem dX9_mixAll_51 : decode cX9_mixAll 51 = .ok (.bipush 8, 2) := by decide +kernel
theorem dX9_mixAll_53 : decode cX9_mixAll 53 = .ok (.aload_n 0, 1) := by decide +kernel
theorem dX9_mixAll_54 : decode cX9_mixAll 54 = .ok (.getfield 80, 3) := by decide +kernel
theorem dX9_mixAll_57 : decode cX9_mixAll 57 = .ok (.imul, 1) := by decide +kernel
theorem dX9_mixAll_58 : decode cX9_mixAll 58 = .ok (.if_icmp .ge 26, 3) := by decide +kernel
theorem dX9_mixAll_61 : decode cX9_mixAll 61 = .ok (.aload_n 0, 1) := by decide +kernel
theorem dX9_mixAll_62 : decode cX9_mixAll 62 = .ok (.aload_n 0, 1) := by decide +kernel
theorem dX9_mixAll_63 : decode cX9_mixAll 63 = .ok (.iload_n 1, 1) := by decide +kernel
theorem dX9_mixAll_64 : decode cX9_mixAll 64 = .ok (.bipush 8, 2) := by decide +kernel
theorem dX9_mixAll_66 : decode cX9_mixAll 66 = .ok (.idiv, 1) := by decide +kernel
theorem dX9_mixAll_67 : decode cX9_mixAll 67 = .ok (.iload_n 1, 1) := by decide +kernel
theorem dX9_mixAll_68 : decode cX9_mixAll 68 = .ok (.bipush 8, 2) := by decide +kernel
theorem dX9_mixAll_70 : decode cX9_mixAll 70 = .ok (.irem, 1) := by decide +kernel
theorem dX9_mixAll_71 : decode cX9_mixAll 71 = .ok (.invokevirtual 177, 3) := by decide +kernel
theorem dX9_mixAll_74 : decode cX9_mixAll 74 = .ok (.i2l, 1) := by decide +kernel
theorem dX9_mixAll_75 : decode cX9_mixAll 75 = .ok (.invokevirtual 228, 3) := by decide +kernel
theorem dX9_mixAll_78 : decode cX9_mixAll 78 = .ok (.iinc 1 1, 3) := by decide +kernel
theorem dX9_mixAll_81 : decode cX9_mixAll 81 = .ok (.goto (-31), 3) := by decide +kernel
theorem dX9_mixAll_84 : decode cX9_mixAll 84 = .ok (.iconst 0, 1) := by decide +kernel
theorem dX9_mixAll_85 : decode cX9_mixAll 85 = .ok (.istore_n 1, 1) := by decide +kernel
theorem dX9_mixAll_86 : decode cX9_mixAll 86 = .ok (.iload_n 1, 1) := by decide +kernel
theorem dX9_mixAll_87 : decode cX9_mixAll 87 = .ok (.bipush 6, 2) := by decide +kernel
theorem dX9_mixAll_89 : decode cX9_mixAll 89 = .ok (.aload_n 0, 1) := by decide +kernel
theorem dX9_mixAll_90 : decode cX9_mixAll 90 = .ok (.getfield 83, 3) := by decide +kernel
theorem dX9_mixAll_93 : decode cX9_mixAll 93 = .ok (.imul, 1) := by decide +kernel
theorem dX9_mixAll_94 : decode cX9_mixAll 94 = .ok (.if_icmp .ge 26, 3) := by decide +kernel
theorem dX9_mixAll_97 : decode cX9_mixAll 97 = .ok (.aload_n 0, 1) := by decide +kernel
theorem dX9_mixAll_98 : decode cX9_mixAll 98 = .ok (.aload_n 0, 1) := by decide +kernel
theorem dX9_mixAll_99 : decode cX9_mixAll 99 = .ok (.iload_n 1, 1) := by decide +kernel
theorem dX9_mixAll_100 : decode cX9_mixAll 100 = .ok (.bipush 6, 2) := by decide +kernel
theorem dX9_mixAll_102 : decode cX9_mixAll 102 = .ok (.idiv, 1) := by decide +kernel
theorem dX9_mixAll_103 : decode cX9_mixAll 103 = .ok (.iload_n 1, 1) := by decide +kernel
theorem dX9_mixAll_104 : decode cX9_mixAll 104 = .ok (.bipush 6, 2) := by decide +kernel
theorem dX9_mixAll_106 : decode cX9_mixAll 106 = .ok (.irem, 1) := by decide +kernel
theorem dX9_mixAll_107 : decode cX9_mixAll 107 = .ok (.invokevirtual 181, 3) := by decide +kernel
theorem dX9_mixAll_110 : decode cX9_mixAll 110 = .ok (.i2l, 1) := by decide +kernel
theorem dX9_mixAll_111 : decode cX9_mixAll 111 = .ok (.invokevirtual 228, 3) := by decide +kernel
theorem dX9_mixAll_114 : decode cX9_mixAll 114 = .ok (.iinc 1 1, 3) := by decide +kernel
theorem dX9_mixAll_117 : decode cX9_mixAll 117 = .ok (.goto (-31), 3) := by decide +kernel
theorem dX9_mixAll_120 : decode cX9_mixAll 120 = .ok (.iconst 0, 1) := by decide +kernel
theorem dX9_mixAll_121 : decode cX9_mixAll 121 = .ok (.istore_n 1, 1) := by decide +kernel
theorem dX9_mixAll_122 : decode cX9_mixAll 122 = .ok (.iload_n 1, 1) := by decide +kernel
theorem dX9_mixAll_123 : decode cX9_mixAll 123 = .ok (.aload_n 0, 1) := by decide +kernel
theorem dX9_mixAll_124 : decode cX9_mixAll 124 = .ok (.getfield 7, 3) := by decide +kernel
theorem dX9_mixAll_127 : decode cX9_mixAll 127 = .ok (.sipush 411, 3) := by decide +kernel
theorem dX9_mixAll_130 : decode cX9_mixAll 130 = .ok (.iaload, 1) := by decide +kernel
theorem dX9_mixAll_131 : decode cX9_mixAll 131 = .ok (.if_icmp .ge 35, 3) := by decide +kernel
theorem dX9_mixAll_134 : decode cX9_mixAll 134 = .ok (.aload_n 0, 1) := by decide +kernel
theorem dX9_mixAll_135 : decode cX9_mixAll 135 = .ok (.aload_n 0, 1) := by decide +kernel
theorem dX9_mixAll_136 : decode cX9_mixAll 136 = .ok (.getfield 7, 3) := by decide +kernel
theorem dX9_mixAll_139 : decode cX9_mixAll 139 = .ok (.sipush 412, 3) := by decide +kernel
theorem dX9_mixAll_142 : decode cX9_mixAll 142 = .ok (.iload_n 1, 1) := by decide +kernel
theorem dX9_mixAll_143 : decode cX9_mixAll 143 = .ok (.iadd, 1) := by decide +kernel
theorem dX9_mixAll_144 : decode cX9_mixAll 144 = .ok (.iaload, 1) := by decide +kernel
theorem dX9_mixAll_145 : decode cX9_mixAll 145 = .ok (.i2l, 1) := by decide +kernel
theorem dX9_mixAll_146 : decode cX9_mixAll 146 = .ok (.invokevirtual 228, 3) := by decide +kernel
theorem dX9_mixAll_149 : decode cX9_mixAll 149 = .ok (.aload_n 0, 1) := by decide +kernel
theorem dX9_mixAll_150 : decode cX9_mixAll 150 = .ok (.aload_n 0, 1) := by decide +kernel
theorem dX9_mixAll_151 : decode cX9_mixAll 151 = .ok (.getfield 52, 3) := by decide +kernel
theorem dX9_mixAll_154 : decode cX9_mixAll 154 = .ok (.iload_n 1, 1) := by decide +kernel
theorem dX9_mixAll_155 : decode cX9_mixAll 155 = .ok (.iaload, 1) := by decide +kernel
theorem dX9_mixAll_156 : decode cX9_mixAll 156 = .ok (.i2l, 1) := by decide +kernel
theorem dX9_mixAll_157 : decode cX9_mixAll 157 = .ok (.invokevirtual 228, 3) := by decide +kernel
theorem dX9_mixAll_160 : decode cX9_mixAll 160 = .ok (.iinc 1 1, 3) := by decide +kernel
theorem dX9_mixAll_163 : decode cX9_mixAll 163 = .ok (.goto (-41), 3) := by decide +kernel
theorem dX9_mixAll_166 : decode cX9_mixAll 166 = .ok (.iconst 0, 1) := by decide +kernel
theorem dX9_mixAll_167 : decode cX9_mixAll 167 = .ok (.istore_n 1, 1) := by decide +kernel
theorem dX9_mixAll_168 : decode cX9_mixAll 168 = .ok (.iload_n 1, 1) := by decide +kernel
theorem dX9_mixAll_169 : decode cX9_mixAll 169 = .ok (.sipush 140, 3) := by decide +kernel
theorem dX9_mixAll_172 : decode cX9_mixAll 172 = .ok (.if_icmp .gt 19, 3) := by decide +kernel
theorem dX9_mixAll_175 : decode cX9_mixAll 175 = .ok (.aload_n 0, 1) := by decide +kernel
theorem dX9_mixAll_176 : decode cX9_mixAll 176 = .ok (.aload_n 0, 1) := by decide +kernel
theorem dX9_mixAll_177 : decode cX9_mixAll 177 = .ok (.iload_n 1, 1) := by decide +kernel
theorem dX9_mixAll_178 : decode cX9_mixAll 178 = .ok (.invokevirtual 184, 3) := by decide +kernel
theorem dX9_mixAll_181 : decode cX9_mixAll 181 = .ok (.i2l, 1) := by decide +kernel
theorem dX9_mixAll_182 : decode cX9_mixAll 182 = .ok (.invokevirtual 228, 3) := by decide +kernel
theorem dX9_mixAll_185 : decode cX9_mixAll 185 = .ok (.iinc 1 10, 3) := by decide +kernel
theorem dX9_mixAll_188 : decode cX9_mixAll 188 = .ok (.goto (-20), 3) := by decide +kernel
theorem dX9_mixAll_191 : decode cX9_mixAll 191 = .ok (.aload_n 0, 1) := by decide +kernel
theorem dX9_mixAll_192 : decode cX9_mixAll 192 = .ok (.aload_n 0, 1) := by decide +kernel
theorem dX9_mixAll_193 : decode cX9_mixAll 193 = .ok (.iconst 1, 1) := by decide +kernel
theorem dX9_mixAll_194 : decode cX9_mixAll 194 = .ok (.invokevirtual 187, 3) := by decide +kernel
theorem dX9_mixAll_197 : decode cX9_mixAll 197 = .ok (.i2l, 1) := by decide +kernel
theorem dX9_mixAll_198 : decode cX9_mixAll 198 = .ok (.invokevirtual 228, 3) := by decide +kernel
theorem dX9_mixAll_201 : decode cX9_mixAll 201 = .ok (.aload_n 0, 1) := by decide +kernel
theorem dX9_mixAll_202 : decode cX9_mixAll 202 = .ok (.aload_n 0, 1) := by decide +kernel
theorem dX9_mixAll_203 : decode cX9_mixAll 203 = .ok (.bipush 10, 2) := by decide +kernel
theorem dX9_mixAll_205 : decode cX9_mixAll 205 = .ok (.invokevirtual 187, 3) := by decide +kernel
theorem dX9_mixAll_208 : decode cX9_mixAll 208 = .ok (.i2l, 1) := by decide +kernel
theorem dX9_mixAll_209 : decode cX9_mixAll 209 = .ok (.invokevirtual 228, 3) := by decide +kernel
theorem dX9_mixAll_212 : decode cX9_mixAll 212 = .ok (.aload_n 0, 1) := by decide +kernel
theorem dX9_mixAll_213 : decode cX9_mixAll 213 = .ok (.aload_n 0, 1) := by decide +kernel
theorem dX9_mixAll_214 : decode cX9_mixAll 214 = .ok (.bipush 50, 2) := by decide +kernel
theorem dX9_mixAll_216 : decode cX9_mixAll 216 = .ok (.invokevirtual 187, 3) := by decide +kernel
theorem dX9_mixAll_219 : decode cX9_mixAll 219 = .ok (.i2l, 1) := by decide +kernel
theorem dX9_mixAll_220 : decode cX9_mixAll 220 = .ok (.invokevirtual 228, 3) := by decide +kernel
theorem dX9_mixAll_223 : decode cX9_mixAll 223 = .ok (.aload_n 0, 1) := by decide +kernel
theorem dX9_mixAll_224 : decode cX9_mixAll 224 = .ok (.aload_n 0, 1) := by decide +kernel
theorem dX9_mixAll_225 : decode cX9_mixAll 225 = .ok (.bipush 90, 2) := by decide +kernel
theorem dX9_mixAll_227 : decode cX9_mixAll 227 = .ok (.invokevirtual 187, 3) := by decide +kernel
theorem dX9_mixAll_230 : decode cX9_mixAll 230 = .ok (.i2l, 1) := by decide +kernel
theorem dX9_mixAll_231 : decode cX9_mixAll 231 = .ok (.invokevirtual 228, 3) := by decide +kernel
theorem dX9_mixAll_234 : decode cX9_mixAll 234 = .ok (.aload_n 0, 1) := by decide +kernel
theorem dX9_mixAll_235 : decode cX9_mixAll 235 = .ok (.aload_n 0, 1) := by decide +kernel
theorem dX9_mixAll_236 : decode cX9_mixAll 236 = .ok (.bipush 100, 2) := by decide +kernel
theorem dX9_mixAll_238 : decode cX9_mixAll 238 = .ok (.invokevirtual 187, 3) := by decide +kernel
theorem dX9_mixAll_241 : decode cX9_mixAll 241 = .ok (.i2l, 1) := by decide +kernel
theorem dX9_mixAll_242 : decode cX9_mixAll 242 = .ok (.invokevirtual 228, 3) := by decide +kernel
theorem dX9_mixAll_245 : decode cX9_mixAll 245 = .ok (.return_, 1) := by decide +kernel
set_option maxHeartbeats 4000000 in
set_option maxRecDepth 100000 in
theorem w_X9_mixAll_l2 {w : WT} {l : Launch} {p : Program} {e : Env} {s : State} {m : MethodId} {args : Array Value} {below : List Frame} {meth : Method} {c : Code} (C : KC w p s m args meth c cX9_mixAll 2 RX9 none) {M : Mem} {Q : State → Prop} (z : Int32 × Lng) (o : (Int32 × Lng) ⊕ (Lng)) (hf : f_X9_mixAll_l2 M z = some o) (hA : ∀ z, o = .inl z → AtL w p l e ({ frames := 4, cells := 0, slots := 0, locals := 85 } : Room) s m args below meth c Q 2 2 M z.2 [(0, .ref (wAd w 90)), (1, .int z.1)] []) (hE : ∀ y, o = .inr y → AtL w p l e ({ frames := 4, cells := 0, slots := 0, locals := 85 } : Room) s m args below meth c Q 2 24 M y [(0, .ref (wAd w 90))] []) : AtL w p l e ({ frames := 4, cells := 0, slots := 0, locals := 85 } : Room) s m args below meth c Q 2 2 M z.2 [(0, .ref (wAd w 90)), (1, .int z.1)] [] := by
  intro H locs ls hP hS hl
  unfold f_X9_mixAll_l2 at hf
  refine lv_iload_n C.1 C.2.1 dX9_mixAll_2 rfl (lv_at hl 1 rfl) ?_
  refine lv_bipush (v := 12) C.1 C.2.1 dX9_mixAll_3 (by decide) ?_
  refine lv_icmp_ge (tgt := 24) C.1 C.2.1 dX9_mixAll_5 (by decide) (fun c1 => ?_) (fun c1 => ?_)
  · have hf := (if_pos c1).symm.trans hf
    cases hf
    exact hE _ rfl _ _ _ hP hS (lv_sub hl [0] rfl)
  · have hf := (if_neg c1).symm.trans hf
    refine lv_aload_n C.1 C.2.1 dX9_mixAll_8 rfl (lv_at hl 0 rfl) ?_
    refine lv_aload_n C.1 C.2.1 dX9_mixAll_9 rfl (lv_at hl 0 rfl) ?_
    refine lv_iload_n C.1 C.2.1 dX9_mixAll_10 rfl (lv_at hl 1 rfl) ?_
    obtain ⟨r2, hr2, hf⟩ := ob hf
    refine kci (kV (As := [.int z.1]) (rest := [.ref (wAd w 90)]) C hl.1 hP hS (c_X9_counted w l C.2.2.2.2.2.2.2.2 (L := z.2) hr2) (gV q1132 q1134 qp49 q10 q1135) hd_X9_counted (lt_Model h0_Model) (ob_Model h0_Model w z.2 _) rfl ⟨rfl, rfl⟩ ⟨Nat.le_of_ble_eq_true rfl, Nat.le_of_ble_eq_true rfl⟩ rfl rfl (Nat.le_of_ble_eq_true rfl) dX9_mixAll_11 ⟨Nat.zero_le _, Nat.zero_le _⟩) hS (fun H locs hP hS => ?_)
    refine lv_i2l (v := (Int32.toInt64 r2)) C.1 C.2.1 dX9_mixAll_14 rfl ?_
    obtain ⟨r3, hr3, hf⟩ := ob hf
    refine kcv (kV (As := [.long (Int32.toInt64 r2)]) (rest := []) C hl.1 hP hS (c_X9_mix w l C.2.2.2.2.2.2.2.2 hr3) (gV q1201 q1203 qp60 q10 q1204) hd_X9_mix (lt_Model h0_Model) (ob_Model h0_Model w z.2 _) rfl ⟨rfl, rfl⟩ ⟨Nat.le_of_ble_eq_true rfl, Nat.le_of_ble_eq_true rfl⟩ rfl rfl (Nat.le_of_ble_eq_true rfl) dX9_mixAll_15 ⟨Nat.zero_le _, Nat.zero_le _⟩) hS (fun H locs hP hS => ?_)
    refine lv_iinc (v := (z.1 + 1)) (lv' := [(1, .int (z.1 + 1)), (0, .ref (wAd w 90))]) C.1 C.2.1 dX9_mixAll_18 hl (k := 1) rfl rfl (by decide) rfl (fun ls hl => ?_)
    refine lv_goto (tgt := 2) C.1 C.2.1 dX9_mixAll_21 (by decide) ?_
    cases hf
    exact hA _ rfl _ _ _ hP hS (lv_sub hl [1, 0] rfl)
set_option maxHeartbeats 4000000 in
set_option maxRecDepth 100000 in
theorem w_X9_mixAll_l26 {w : WT} {l : Launch} {p : Program} {e : Env} {s : State} {m : MethodId} {args : Array Value} {below : List Frame} {meth : Method} {c : Code} (C : KC w p s m args meth c cX9_mixAll 2 RX9 none) {M : Mem} {Q : State → Prop} (z : Int32 × Lng) (o : (Int32 × Lng) ⊕ (Lng)) (hf : f_X9_mixAll_l26 M z = some o) (hA : ∀ z, o = .inl z → AtL w p l e ({ frames := 4, cells := 0, slots := 0, locals := 85 } : Room) s m args below meth c Q 2 26 M z.2 [(0, .ref (wAd w 90)), (1, .int z.1)] []) (hE : ∀ y, o = .inr y → AtL w p l e ({ frames := 4, cells := 0, slots := 0, locals := 85 } : Room) s m args below meth c Q 2 48 M y [(0, .ref (wAd w 90))] []) : AtL w p l e ({ frames := 4, cells := 0, slots := 0, locals := 85 } : Room) s m args below meth c Q 2 26 M z.2 [(0, .ref (wAd w 90)), (1, .int z.1)] [] := by
  intro H locs ls hP hS hl
  unfold f_X9_mixAll_l26 at hf
  refine lv_iload_n C.1 C.2.1 dX9_mixAll_26 rfl (lv_at hl 1 rfl) ?_
  refine lv_bipush (v := 10) C.1 C.2.1 dX9_mixAll_27 (by decide) ?_
  refine lv_icmp_ge (tgt := 48) C.1 C.2.1 dX9_mixAll_29 (by decide) (fun c5 => ?_) (fun c5 => ?_)
  · have hf := (if_pos c5).symm.trans hf
    cases hf
    exact hE _ rfl _ _ _ hP hS (lv_sub hl [0] rfl)
  · have hf := (if_neg c5).symm.trans hf
    refine lv_aload_n C.1 C.2.1 dX9_mixAll_32 rfl (lv_at hl 0 rfl) ?_
    refine lv_aload_n C.1 C.2.1 dX9_mixAll_33 rfl (lv_at hl 0 rfl) ?_
    refine lv_iload_n C.1 C.2.1 dX9_mixAll_34 rfl (lv_at hl 1 rfl) ?_
    obtain ⟨r6, hr6, hf⟩ := ob hf
    refine kci (kV (As := [.int z.1]) (rest := [.ref (wAd w 90)]) C hl.1 hP hS (c_X9_of w l C.2.2.2.2.2.2.2.2 (L := z.2) hr6) (gV q973 q975 qp25 q10 q976) hd_X9_of (lt_Model h0_Model) (ob_Model h0_Model w z.2 _) rfl ⟨rfl, rfl⟩ ⟨Nat.le_of_ble_eq_true rfl, Nat.le_of_ble_eq_true rfl⟩ rfl rfl (Nat.le_of_ble_eq_true rfl) dX9_mixAll_35 ⟨Nat.zero_le _, Nat.zero_le _⟩) hS (fun H locs hP hS => ?_)
    refine lv_i2l (v := (Int32.toInt64 r6)) C.1 C.2.1 dX9_mixAll_38 rfl ?_
    obtain ⟨r7, hr7, hf⟩ := ob hf
    refine kcv (kV (As := [.long (Int32.toInt64 r6)]) (rest := []) C hl.1 hP hS (c_X9_mix w l C.2.2.2.2.2.2.2.2 hr7) (gV q1201 q1203 qp60 q10 q1204) hd_X9_mix (lt_Model h0_Model) (ob_Model h0_Model w z.2 _) rfl ⟨rfl, rfl⟩ ⟨Nat.le_of_ble_eq_true rfl, Nat.le_of_ble_eq_true rfl⟩ rfl rfl (Nat.le_of_ble_eq_true rfl) dX9_mixAll_39 ⟨Nat.zero_le _, Nat.zero_le _⟩) hS (fun H locs hP hS => ?_)
    refine lv_iinc (v := (z.1 + 1)) (lv' := [(1, .int (z.1 + 1)), (0, .ref (wAd w 90))]) C.1 C.2.1 dX9_mixAll_42 hl (k := 1) rfl rfl (by decide) rfl (fun ls hl => ?_)
    refine lv_goto (tgt := 26) C.1 C.2.1 dX9_mixAll_45 (by decide) ?_
    cases hf
    exact hA _ rfl _ _ _ hP hS (lv_sub hl [1, 0] rfl)
set_option maxHeartbeats 4000000 in
set_option maxRecDepth 100000 in
theorem w_X9_mixAll_l50 {w : WT} {l : Launch} {p : Program} {e : Env} {s : State} {m : MethodId} {args : Array Value} {below : List Frame} {meth : Method} {c : Code} (C : KC w p s m args meth c cX9_mixAll 2 RX9 none) {M : Mem} {Q : State → Prop} (z : Int32 × Lng) (o : (Int32 × Lng) ⊕ (Lng)) (hf : f_X9_mixAll_l50 M z = some o) (hA : ∀ z, o = .inl z → AtL w p l e ({ frames := 4, cells := 0, slots := 0, locals := 85 } : Room) s m args below meth c Q 2 50 M z.2 [(0, .ref (wAd w 90)), (1, .int z.1)] []) (hE : ∀ y, o = .inr y → AtL w p l e ({ frames := 4, cells := 0, slots := 0, locals := 85 } : Room) s m args below meth c Q 2 84 M y [(0, .ref (wAd w 90))] []) : AtL w p l e ({ frames := 4, cells := 0, slots := 0, locals := 85 } : Room) s m args below meth c Q 2 50 M z.2 [(0, .ref (wAd w 90)), (1, .int z.1)] [] := by
  intro H locs ls hP hS hl
  unfold f_X9_mixAll_l50 at hf
  refine lv_iload_n C.1 C.2.1 dX9_mixAll_50 rfl (lv_at hl 1 rfl) ?_
  refine lv_bipush (v := 8) C.1 C.2.1 dX9_mixAll_51 (by decide) ?_
  refine lv_aload_n C.1 C.2.1 dX9_mixAll_53 rfl (lv_at hl 0 rfl) ?_
  refine k_get (v := .int (M 90 6)) C hP (lt_Model h0_Model) (ob_Model h0_Model w z.2 _) rfl iX9 6 (by decide) q869 rfl dX9_mixAll_54 ?_
  refine lv_imul C.1 C.2.1 dX9_mixAll_57 ?_
  refine lv_icmp_ge (tgt := 84) C.1 C.2.1 dX9_mixAll_58 (by decide) (fun c9 => ?_) (fun c9 => ?_)
  · have hf := (if_pos c9).symm.trans hf
    cases hf
    exact hE _ rfl _ _ _ hP hS (lv_sub hl [0] rfl)
  · have hf := (if_neg c9).symm.trans hf
    refine lv_aload_n C.1 C.2.1 dX9_mixAll_61 rfl (lv_at hl 0 rfl) ?_
    refine lv_aload_n C.1 C.2.1 dX9_mixAll_62 rfl (lv_at hl 0 rfl) ?_
    refine lv_iload_n C.1 C.2.1 dX9_mixAll_63 rfl (lv_at hl 1 rfl) ?_
    refine lv_bipush (v := 8) C.1 C.2.1 dX9_mixAll_64 (by decide) ?_
    obtain ⟨x10, hx10, hf⟩ := ob hf
    refine k_idiv C hx10 dX9_mixAll_66 ?_
    refine lv_iload_n C.1 C.2.1 dX9_mixAll_67 rfl (lv_at hl 1 rfl) ?_
    refine lv_bipush (v := 8) C.1 C.2.1 dX9_mixAll_68 (by decide) ?_
    obtain ⟨x11, hx11, hf⟩ := ob hf
    refine k_irem C hx11 dX9_mixAll_70 ?_
    obtain ⟨r12, hr12, hf⟩ := ob hf
    refine kci (kV (As := [.int x10, .int x11]) (rest := [.ref (wAd w 90)]) C hl.1 hP hS (c_X9_minuteNow w l C.2.2.2.2.2.2.2.2 (L := z.2) hr12) (gV q1096 q1098 qp45 q10 q1099) hd_X9_minuteNow (lt_Model h0_Model) (ob_Model h0_Model w z.2 _) rfl ⟨rfl, rfl⟩ ⟨Nat.le_of_ble_eq_true rfl, Nat.le_of_ble_eq_true rfl⟩ rfl rfl (Nat.le_of_ble_eq_true rfl) dX9_mixAll_71 ⟨Nat.zero_le _, Nat.zero_le _⟩) hS (fun H locs hP hS => ?_)
    refine lv_i2l (v := (Int32.toInt64 r12)) C.1 C.2.1 dX9_mixAll_74 rfl ?_
    obtain ⟨r13, hr13, hf⟩ := ob hf
    refine kcv (kV (As := [.long (Int32.toInt64 r12)]) (rest := []) C hl.1 hP hS (c_X9_mix w l C.2.2.2.2.2.2.2.2 hr13) (gV q1201 q1203 qp60 q10 q1204) hd_X9_mix (lt_Model h0_Model) (ob_Model h0_Model w z.2 _) rfl ⟨rfl, rfl⟩ ⟨Nat.le_of_ble_eq_true rfl, Nat.le_of_ble_eq_true rfl⟩ rfl rfl (Nat.le_of_ble_eq_true rfl) dX9_mixAll_75 ⟨Nat.zero_le _, Nat.zero_le _⟩) hS (fun H locs hP hS => ?_)
    refine lv_iinc (v := (z.1 + 1)) (lv' := [(1, .int (z.1 + 1)), (0, .ref (wAd w 90))]) C.1 C.2.1 dX9_mixAll_78 hl (k := 1) rfl rfl (by decide) rfl (fun ls hl => ?_)
    refine lv_goto (tgt := 50) C.1 C.2.1 dX9_mixAll_81 (by decide) ?_
    cases hf
    exact hA _ rfl _ _ _ hP hS (lv_sub hl [1, 0] rfl)
set_option maxHeartbeats 4000000 in
set_option maxRecDepth 100000 in
theorem w_X9_mixAll_l86 {w : WT} {l : Launch} {p : Program} {e : Env} {s : State} {m : MethodId} {args : Array Value} {below : List Frame} {meth : Method} {c : Code} (C : KC w p s m args meth c cX9_mixAll 2 RX9 none) {M : Mem} {Q : State → Prop} (z : Int32 × Lng) (o : (Int32 × Lng) ⊕ (Lng)) (hf : f_X9_mixAll_l86 M z = some o) (hA : ∀ z, o = .inl z → AtL w p l e ({ frames := 4, cells := 0, slots := 0, locals := 85 } : Room) s m args below meth c Q 2 86 M z.2 [(0, .ref (wAd w 90)), (1, .int z.1)] []) (hE : ∀ y, o = .inr y → AtL w p l e ({ frames := 4, cells := 0, slots := 0, locals := 85 } : Room) s m args below meth c Q 2 120 M y [(0, .ref (wAd w 90))] []) : AtL w p l e ({ frames := 4, cells := 0, slots := 0, locals := 85 } : Room) s m args below meth c Q 2 86 M z.2 [(0, .ref (wAd w 90)), (1, .int z.1)] [] := by
  intro H locs ls hP hS hl
  unfold f_X9_mixAll_l86 at hf
  refine lv_iload_n C.1 C.2.1 dX9_mixAll_86 rfl (lv_at hl 1 rfl) ?_
  refine lv_bipush (v := 6) C.1 C.2.1 dX9_mixAll_87 (by decide) ?_
  refine lv_aload_n C.1 C.2.1 dX9_mixAll_89 rfl (lv_at hl 0 rfl) ?_
  refine k_get (v := .int (M 90 13)) C hP (lt_Model h0_Model) (ob_Model h0_Model w z.2 _) rfl iX9 13 (by decide) q876 rfl dX9_mixAll_90 ?_
  refine lv_imul C.1 C.2.1 dX9_mixAll_93 ?_
  refine lv_icmp_ge (tgt := 120) C.1 C.2.1 dX9_mixAll_94 (by decide) (fun c15 => ?_) (fun c15 => ?_)
  · have hf := (if_pos c15).symm.trans hf
    cases hf
    exact hE _ rfl _ _ _ hP hS (lv_sub hl [0] rfl)
  · have hf := (if_neg c15).symm.trans hf
    refine lv_aload_n C.1 C.2.1 dX9_mixAll_97 rfl (lv_at hl 0 rfl) ?_
    refine lv_aload_n C.1 C.2.1 dX9_mixAll_98 rfl (lv_at hl 0 rfl) ?_
    refine lv_iload_n C.1 C.2.1 dX9_mixAll_99 rfl (lv_at hl 1 rfl) ?_
    refine lv_bipush (v := 6) C.1 C.2.1 dX9_mixAll_100 (by decide) ?_
    obtain ⟨x16, hx16, hf⟩ := ob hf
    refine k_idiv C hx16 dX9_mixAll_102 ?_
    refine lv_iload_n C.1 C.2.1 dX9_mixAll_103 rfl (lv_at hl 1 rfl) ?_
    refine lv_bipush (v := 6) C.1 C.2.1 dX9_mixAll_104 (by decide) ?_
    obtain ⟨x17, hx17, hf⟩ := ob hf
    refine k_irem C hx17 dX9_mixAll_106 ?_
    obtain ⟨r18, hr18, hf⟩ := ob hf
    refine kci (kV (As := [.int x16, .int x17]) (rest := [.ref (wAd w 90)]) C hl.1 hP hS (c_X9_exceedanceNow w l C.2.2.2.2.2.2.2.2 (L := z.2) hr18) (gV q1104 q1106 qp46 q10 q1107) hd_X9_exceedanceNow (lt_Model h0_Model) (ob_Model h0_Model w z.2 _) rfl ⟨rfl, rfl⟩ ⟨Nat.le_of_ble_eq_true rfl, Nat.le_of_ble_eq_true rfl⟩ rfl rfl (Nat.le_of_ble_eq_true rfl) dX9_mixAll_107 ⟨Nat.zero_le _, Nat.zero_le _⟩) hS (fun H locs hP hS => ?_)
    refine lv_i2l (v := (Int32.toInt64 r18)) C.1 C.2.1 dX9_mixAll_110 rfl ?_
    obtain ⟨r19, hr19, hf⟩ := ob hf
    refine kcv (kV (As := [.long (Int32.toInt64 r18)]) (rest := []) C hl.1 hP hS (c_X9_mix w l C.2.2.2.2.2.2.2.2 hr19) (gV q1201 q1203 qp60 q10 q1204) hd_X9_mix (lt_Model h0_Model) (ob_Model h0_Model w z.2 _) rfl ⟨rfl, rfl⟩ ⟨Nat.le_of_ble_eq_true rfl, Nat.le_of_ble_eq_true rfl⟩ rfl rfl (Nat.le_of_ble_eq_true rfl) dX9_mixAll_111 ⟨Nat.zero_le _, Nat.zero_le _⟩) hS (fun H locs hP hS => ?_)
    refine lv_iinc (v := (z.1 + 1)) (lv' := [(1, .int (z.1 + 1)), (0, .ref (wAd w 90))]) C.1 C.2.1 dX9_mixAll_114 hl (k := 1) rfl rfl (by decide) rfl (fun ls hl => ?_)
    refine lv_goto (tgt := 86) C.1 C.2.1 dX9_mixAll_117 (by decide) ?_
    cases hf
    exact hA _ rfl _ _ _ hP hS (lv_sub hl [1, 0] rfl)
set_option maxHeartbeats 4000000 in
set_option maxRecDepth 100000 in
theorem w_X9_mixAll_l122 {w : WT} {l : Launch} {p : Program} {e : Env} {s : State} {m : MethodId} {args : Array Value} {below : List Frame} {meth : Method} {c : Code} (C : KC w p s m args meth c cX9_mixAll 2 RX9 none) {M : Mem} {Q : State → Prop} (z : Int32 × Lng) (o : (Int32 × Lng) ⊕ (Lng)) (hf : f_X9_mixAll_l122 M z = some o) (hA : ∀ z, o = .inl z → AtL w p l e ({ frames := 4, cells := 0, slots := 0, locals := 85 } : Room) s m args below meth c Q 2 122 M z.2 [(0, .ref (wAd w 90)), (1, .int z.1)] []) (hE : ∀ y, o = .inr y → AtL w p l e ({ frames := 4, cells := 0, slots := 0, locals := 85 } : Room) s m args below meth c Q 2 166 M y [(0, .ref (wAd w 90))] []) : AtL w p l e ({ frames := 4, cells := 0, slots := 0, locals := 85 } : Room) s m args below meth c Q 2 122 M z.2 [(0, .ref (wAd w 90)), (1, .int z.1)] [] := by
  intro H locs ls hP hS hl
  unfold f_X9_mixAll_l122 at hf
  refine lv_iload_n C.1 C.2.1 dX9_mixAll_122 rfl (lv_at hl 1 rfl) ?_
  refine lv_aload_n C.1 C.2.1 dX9_mixAll_123 rfl (lv_at hl 0 rfl) ?_
  refine k_get (v := .ref (wAd w 91)) C hP (lt_Model h0_Model) (ob_Model h0_Model w z.2 _) rfl iX9 1 (by decide) q864 rfl dX9_mixAll_124 ?_
  refine lv_sipush (v := 411) C.1 C.2.1 dX9_mixAll_127 (by decide) ?_
  obtain ⟨x21, hx21, hf⟩ := ob hf
  refine k_iald C hP (la_Model_z h0_Model) (ar_Model_z h0_Model w z.2 _) hx21 dX9_mixAll_130 ?_
  refine lv_icmp_ge (tgt := 166) C.1 C.2.1 dX9_mixAll_131 (by decide) (fun c22 => ?_) (fun c22 => ?_)
  · have hf := (if_pos c22).symm.trans hf
    cases hf
    exact hE _ rfl _ _ _ hP hS (lv_sub hl [0] rfl)
  · have hf := (if_neg c22).symm.trans hf
    refine lv_aload_n C.1 C.2.1 dX9_mixAll_134 rfl (lv_at hl 0 rfl) ?_
    refine lv_aload_n C.1 C.2.1 dX9_mixAll_135 rfl (lv_at hl 0 rfl) ?_
    refine k_get (v := .ref (wAd w 91)) C hP (lt_Model h0_Model) (ob_Model h0_Model w z.2 _) rfl iX9 1 (by decide) q864 rfl dX9_mixAll_136 ?_
    refine lv_sipush (v := 412) C.1 C.2.1 dX9_mixAll_139 (by decide) ?_
    refine lv_iload_n C.1 C.2.1 dX9_mixAll_142 rfl (lv_at hl 1 rfl) ?_
    refine lv_iadd C.1 C.2.1 dX9_mixAll_143 ?_
    obtain ⟨x23, hx23, hf⟩ := ob hf
    refine k_iald C hP (la_Model_z h0_Model) (ar_Model_z h0_Model w z.2 _) hx23 dX9_mixAll_144 ?_
    refine lv_i2l (v := (Int32.toInt64 x23)) C.1 C.2.1 dX9_mixAll_145 rfl ?_
    obtain ⟨r24, hr24, hf⟩ := ob hf
    refine kcv (kV (As := [.long (Int32.toInt64 x23)]) (rest := []) C hl.1 hP hS (c_X9_mix w l C.2.2.2.2.2.2.2.2 hr24) (gV q1201 q1203 qp60 q10 q1204) hd_X9_mix (lt_Model h0_Model) (ob_Model h0_Model w z.2 _) rfl ⟨rfl, rfl⟩ ⟨Nat.le_of_ble_eq_true rfl, Nat.le_of_ble_eq_true rfl⟩ rfl rfl (Nat.le_of_ble_eq_true rfl) dX9_mixAll_146 ⟨Nat.zero_le _, Nat.zero_le _⟩) hS (fun H locs hP hS => ?_)
    refine lv_aload_n C.1 C.2.1 dX9_mixAll_149 rfl (lv_at hl 0 rfl) ?_
    refine lv_aload_n C.1 C.2.1 dX9_mixAll_150 rfl (lv_at hl 0 rfl) ?_
    refine k_get (v := .ref (wAd w 105)) C hP (lt_Model h0_Model) (ob_Model h0_Model w r24 _) rfl iX9 20 (by decide) q883 rfl dX9_mixAll_151 ?_
    refine lv_iload_n C.1 C.2.1 dX9_mixAll_154 rfl (lv_at hl 1 rfl) ?_
    obtain ⟨x25, hx25, hf⟩ := ob hf
    refine k_iald C hP (la_Model_matched h0_Model) (ar_Model_matched h0_Model w r24 _) hx25 dX9_mixAll_155 ?_
    refine lv_i2l (v := (Int32.toInt64 x25)) C.1 C.2.1 dX9_mixAll_156 rfl ?_
    obtain ⟨r26, hr26, hf⟩ := ob hf
    refine kcv (kV (As := [.long (Int32.toInt64 x25)]) (rest := []) C hl.1 hP hS (c_X9_mix w l C.2.2.2.2.2.2.2.2 hr26) (gV q1201 q1203 qp60 q10 q1204) hd_X9_mix (lt_Model h0_Model) (ob_Model h0_Model w r24 _) rfl ⟨rfl, rfl⟩ ⟨Nat.le_of_ble_eq_true rfl, Nat.le_of_ble_eq_true rfl⟩ rfl rfl (Nat.le_of_ble_eq_true rfl) dX9_mixAll_157 ⟨Nat.zero_le _, Nat.zero_le _⟩) hS (fun H locs hP hS => ?_)
    refine lv_iinc (v := (z.1 + 1)) (lv' := [(1, .int (z.1 + 1)), (0, .ref (wAd w 90))]) C.1 C.2.1 dX9_mixAll_160 hl (k := 1) rfl rfl (by decide) rfl (fun ls hl => ?_)
    refine lv_goto (tgt := 122) C.1 C.2.1 dX9_mixAll_163 (by decide) ?_
    cases hf
    exact hA _ rfl _ _ _ hP hS (lv_sub hl [1, 0] rfl)
set_option maxHeartbeats 4000000 in
set_option maxRecDepth 100000 in
theorem w_X9_mixAll_l168 {w : WT} {l : Launch} {p : Program} {e : Env} {s : State} {m : MethodId} {args : Array Value} {below : List Frame} {meth : Method} {c : Code} (C : KC w p s m args meth c cX9_mixAll 2 RX9 none) {M : Mem} {Q : State → Prop} (z : Int32 × Lng) (o : (Int32 × Lng) ⊕ (Lng)) (hf : f_X9_mixAll_l168 M z = some o) (hA : ∀ z, o = .inl z → AtL w p l e ({ frames := 4, cells := 0, slots := 0, locals := 85 } : Room) s m args below meth c Q 2 168 M z.2 [(0, .ref (wAd w 90)), (1, .int z.1)] []) (hE : ∀ y, o = .inr y → AtL w p l e ({ frames := 4, cells := 0, slots := 0, locals := 85 } : Room) s m args below meth c Q 2 191 M y [(0, .ref (wAd w 90))] []) : AtL w p l e ({ frames := 4, cells := 0, slots := 0, locals := 85 } : Room) s m args below meth c Q 2 168 M z.2 [(0, .ref (wAd w 90)), (1, .int z.1)] [] := by
  intro H locs ls hP hS hl
  unfold f_X9_mixAll_l168 at hf
  refine lv_iload_n C.1 C.2.1 dX9_mixAll_168 rfl (lv_at hl 1 rfl) ?_
  refine lv_sipush (v := 140) C.1 C.2.1 dX9_mixAll_169 (by decide) ?_
  refine lv_icmp_gt (tgt := 191) C.1 C.2.1 dX9_mixAll_172 (by decide) (fun c28 => ?_) (fun c28 => ?_)
  · have hf := (if_pos c28).symm.trans hf
    cases hf
    exact hE _ rfl _ _ _ hP hS (lv_sub hl [0] rfl)
  · have hf := (if_neg c28).symm.trans hf
    refine lv_aload_n C.1 C.2.1 dX9_mixAll_175 rfl (lv_at hl 0 rfl) ?_
    refine lv_aload_n C.1 C.2.1 dX9_mixAll_176 rfl (lv_at hl 0 rfl) ?_
    refine lv_iload_n C.1 C.2.1 dX9_mixAll_177 rfl (lv_at hl 1 rfl) ?_
    obtain ⟨r29, hr29, hf⟩ := ob hf
    refine kci (kV (As := [.int z.1]) (rest := [.ref (wAd w 90)]) C hl.1 hP hS (c_X9_countFrom w l C.2.2.2.2.2.2.2.2 (L := z.2) hr29) (gV q1116 q1118 qp47 q10 q1119) hd_X9_countFrom (lt_Model h0_Model) (ob_Model h0_Model w z.2 _) rfl ⟨rfl, rfl⟩ ⟨Nat.le_of_ble_eq_true rfl, Nat.le_of_ble_eq_true rfl⟩ rfl rfl (Nat.le_of_ble_eq_true rfl) dX9_mixAll_178 ⟨Nat.zero_le _, Nat.zero_le _⟩) hS (fun H locs hP hS => ?_)
    refine lv_i2l (v := (Int32.toInt64 r29)) C.1 C.2.1 dX9_mixAll_181 rfl ?_
    obtain ⟨r30, hr30, hf⟩ := ob hf
    refine kcv (kV (As := [.long (Int32.toInt64 r29)]) (rest := []) C hl.1 hP hS (c_X9_mix w l C.2.2.2.2.2.2.2.2 hr30) (gV q1201 q1203 qp60 q10 q1204) hd_X9_mix (lt_Model h0_Model) (ob_Model h0_Model w z.2 _) rfl ⟨rfl, rfl⟩ ⟨Nat.le_of_ble_eq_true rfl, Nat.le_of_ble_eq_true rfl⟩ rfl rfl (Nat.le_of_ble_eq_true rfl) dX9_mixAll_182 ⟨Nat.zero_le _, Nat.zero_le _⟩) hS (fun H locs hP hS => ?_)
    refine lv_iinc (v := (z.1 + 10)) (lv' := [(1, .int (z.1 + 10)), (0, .ref (wAd w 90))]) C.1 C.2.1 dX9_mixAll_185 hl (k := 1) rfl rfl (by decide) rfl (fun ls hl => ?_)
    refine lv_goto (tgt := 168) C.1 C.2.1 dX9_mixAll_188 (by decide) ?_
    cases hf
    exact hA _ rfl _ _ _ hP hS (lv_sub hl [1, 0] rfl)
set_option maxHeartbeats 4000000 in
set_option maxRecDepth 100000 in
theorem c_X9_mixAll (w : WT) (l : Launch) (hw : WOK w) {M : Mem} {L : Lng} {out : Lng} (hf : f_X9_mixAll M L = some out) : Met l yX9_mixAll (Cond.code yX9_mixAll cX9_mixAll 2 none :: BG) ({ frames := 4, cells := 0, slots := 0, locals := 85 } : Room) (PRE w [.ref (wAd w 90)] M L) (QV w M out) 0 0 (wA w) := by
  refine kEnt hw (by decide +kernel) rfl (Nat.le_of_ble_eq_true rfl) ?_
  intro p e s m args below meth c C ls hl hP
  have hS : va_S (wA w) s.heap s.heap [] := va_S.rf
  have hl : lv_has ls 2 [(0, .ref (wAd w 90))] := hl
  unfold f_X9_mixAll at hf
  refine lv_iconst (v := 0) C.1 C.2.1 dX9_mixAll_0 (by decide) ?_
  refine lv_istore_n (lv' := [(1, .int 0), (0, .ref (wAd w 90))]) C.1 C.2.1 dX9_mixAll_1 rfl hl (by decide) rfl (fun ls hl => ?_)
  obtain ⟨o4, ho4, hf⟩ := ob hf
  refine loop_at (w_X9_mixAll_l2 C) FU _ o4 ho4 ?_ _ _ _ hP hS (lv_sub hl [1, 0] rfl)
  intro H locs ls hP hS hl
  refine lv_iconst (v := 0) C.1 C.2.1 dX9_mixAll_24 (by decide) ?_
  refine lv_istore_n (lv' := [(1, .int 0), (0, .ref (wAd w 90))]) C.1 C.2.1 dX9_mixAll_25 rfl hl (by decide) rfl (fun ls hl => ?_)
  obtain ⟨o8, ho8, hf⟩ := ob hf
  refine loop_at (w_X9_mixAll_l26 C) FU _ o8 ho8 ?_ _ _ _ hP hS (lv_sub hl [1, 0] rfl)
  intro H locs ls hP hS hl
  refine lv_iconst (v := 0) C.1 C.2.1 dX9_mixAll_48 (by decide) ?_
  refine lv_istore_n (lv' := [(1, .int 0), (0, .ref (wAd w 90))]) C.1 C.2.1 dX9_mixAll_49 rfl hl (by decide) rfl (fun ls hl => ?_)
  obtain ⟨o14, ho14, hf⟩ := ob hf
  refine loop_at (w_X9_mixAll_l50 C) FU _ o14 ho14 ?_ _ _ _ hP hS (lv_sub hl [1, 0] rfl)
  intro H locs ls hP hS hl
  refine lv_iconst (v := 0) C.1 C.2.1 dX9_mixAll_84 (by decide) ?_
  refine lv_istore_n (lv' := [(1, .int 0), (0, .ref (wAd w 90))]) C.1 C.2.1 dX9_mixAll_85 rfl hl (by decide) rfl (fun ls hl => ?_)
  obtain ⟨o20, ho20, hf⟩ := ob hf
  refine loop_at (w_X9_mixAll_l86 C) FU _ o20 ho20 ?_ _ _ _ hP hS (lv_sub hl [1, 0] rfl)
  intro H locs ls hP hS hl
  refine lv_iconst (v := 0) C.1 C.2.1 dX9_mixAll_120 (by decide) ?_
  refine lv_istore_n (lv' := [(1, .int 0), (0, .ref (wAd w 90))]) C.1 C.2.1 dX9_mixAll_121 rfl hl (by decide) rfl (fun ls hl => ?_)
  obtain ⟨o27, ho27, hf⟩ := ob hf
  refine loop_at (w_X9_mixAll_l122 C) FU _ o27 ho27 ?_ _ _ _ hP hS (lv_sub hl [1, 0] rfl)
  intro H locs ls hP hS hl
  refine lv_iconst (v := 0) C.1 C.2.1 dX9_mixAll_166 (by decide) ?_
  refine lv_istore_n (lv' := [(1, .int 0), (0, .ref (wAd w 90))]) C.1 C.2.1 dX9_mixAll_167 rfl hl (by decide) rfl (fun ls hl => ?_)
  obtain ⟨o31, ho31, hf⟩ := ob hf
  refine loop_at (w_X9_mixAll_l168 C) FU _ o31 ho31 ?_ _ _ _ hP hS (lv_sub hl [1, 0] rfl)
  intro H locs ls hP hS hl
  refine lv_aload_n C.1 C.2.1 dX9_mixAll_191 rfl (lv_at hl 0 rfl) ?_
  refine lv_aload_n C.1 C.2.1 dX9_mixAll_192 rfl (lv_at hl 0 rfl) ?_
  refine lv_iconst (v := 1) C.1 C.2.1 dX9_mixAll_193 (by decide) ?_
  obtain ⟨r32, hr32, hf⟩ := ob hf
  refine kci (kV (As := [.int 1]) (rest := [.ref (wAd w 90)]) C hl.1 hP hS (c_X9_percentNow w l C.2.2.2.2.2.2.2.2 (L := o31) hr32) (gV q1124 q1126 qp48 q10 q1127) hd_X9_percentNow (lt_Model h0_Model) (ob_Model h0_Model w o31 _) rfl ⟨rfl, rfl⟩ ⟨Nat.le_of_ble_eq_true rfl, Nat.le_of_ble_eq_true rfl⟩ rfl rfl (Nat.le_of_ble_eq_true rfl) dX9_mixAll_194 ⟨Nat.zero_le _, Nat.zero_le _⟩) hS (fun H locs hP hS => ?_)
  refine lv_i2l (v := (Int32.toInt64 r32)) C.1 C.2.1 dX9_mixAll_197 rfl ?_
  obtain ⟨r33, hr33, hf⟩ := ob hf
  refine kcv (kV (As := [.long (Int32.toInt64 r32)]) (rest := []) C hl.1 hP hS (c_X9_mix w l C.2.2.2.2.2.2.2.2 hr33) (gV q1201 q1203 qp60 q10 q1204) hd_X9_mix (lt_Model h0_Model) (ob_Model h0_Model w o31 _) rfl ⟨rfl, rfl⟩ ⟨Nat.le_of_ble_eq_true rfl, Nat.le_of_ble_eq_true rfl⟩ rfl rfl (Nat.le_of_ble_eq_true rfl) dX9_mixAll_198 ⟨Nat.zero_le _, Nat.zero_le _⟩) hS (fun H locs hP hS => ?_)
  refine lv_aload_n C.1 C.2.1 dX9_mixAll_201 rfl (lv_at hl 0 rfl) ?_
  refine lv_aload_n C.1 C.2.1 dX9_mixAll_202 rfl (lv_at hl 0 rfl) ?_
  refine lv_bipush (v := 10) C.1 C.2.1 dX9_mixAll_203 (by decide) ?_
  obtain ⟨r34, hr34, hf⟩ := ob hf
  refine kci (kV (As := [.int 10]) (rest := [.ref (wAd w 90)]) C hl.1 hP hS (c_X9_percentNow w l C.2.2.2.2.2.2.2.2 (L := r33) hr34) (gV q1124 q1126 qp48 q10 q1127) hd_X9_percentNow (lt_Model h0_Model) (ob_Model h0_Model w r33 _) rfl ⟨rfl, rfl⟩ ⟨Nat.le_of_ble_eq_true rfl, Nat.le_of_ble_eq_true rfl⟩ rfl rfl (Nat.le_of_ble_eq_true rfl) dX9_mixAll_205 ⟨Nat.zero_le _, Nat.zero_le _⟩) hS (fun H locs hP hS => ?_)
  refine lv_i2l (v := (Int32.toInt64 r34)) C.1 C.2.1 dX9_mixAll_208 rfl ?_
  obtain ⟨r35, hr35, hf⟩ := ob hf
  refine kcv (kV (As := [.long (Int32.toInt64 r34)]) (rest := []) C hl.1 hP hS (c_X9_mix w l C.2.2.2.2.2.2.2.2 hr35) (gV q1201 q1203 qp60 q10 q1204) hd_X9_mix (lt_Model h0_Model) (ob_Model h0_Model w r33 _) rfl ⟨rfl, rfl⟩ ⟨Nat.le_of_ble_eq_true rfl, Nat.le_of_ble_eq_true rfl⟩ rfl rfl (Nat.le_of_ble_eq_true rfl) dX9_mixAll_209 ⟨Nat.zero_le _, Nat.zero_le _⟩) hS (fun H locs hP hS => ?_)
  refine lv_aload_n C.1 C.2.1 dX9_mixAll_212 rfl (lv_at hl 0 rfl) ?_
  refine lv_aload_n C.1 C.2.1 dX9_mixAll_213 rfl (lv_at hl 0 rfl) ?_
  refine lv_bipush (v := 50) C.1 C.2.1 dX9_mixAll_214 (by decide) ?_
  obtain ⟨r36, hr36, hf⟩ := ob hf
  refine kci (kV (As := [.int 50]) (rest := [.ref (wAd w 90)]) C hl.1 hP hS (c_X9_percentNow w l C.2.2.2.2.2.2.2.2 (L := r35) hr36) (gV q1124 q1126 qp48 q10 q1127) hd_X9_percentNow (lt_Model h0_Model) (ob_Model h0_Model w r35 _) rfl ⟨rfl, rfl⟩ ⟨Nat.le_of_ble_eq_true rfl, Nat.le_of_ble_eq_true rfl⟩ rfl rfl (Nat.le_of_ble_eq_true rfl) dX9_mixAll_216 ⟨Nat.zero_le _, Nat.zero_le _⟩) hS (fun H locs hP hS => ?_)
  refine lv_i2l (v := (Int32.toInt64 r36)) C.1 C.2.1 dX9_mixAll_219 rfl ?_
  obtain ⟨r37, hr37, hf⟩ := ob hf
  refine kcv (kV (As := [.long (Int32.toInt64 r36)]) (rest := []) C hl.1 hP hS (c_X9_mix w l C.2.2.2.2.2.2.2.2 hr37) (gV q1201 q1203 qp60 q10 q1204) hd_X9_mix (lt_Model h0_Model) (ob_Model h0_Model w r35 _) rfl ⟨rfl, rfl⟩ ⟨Nat.le_of_ble_eq_true rfl, Nat.le_of_ble_eq_true rfl⟩ rfl rfl (Nat.le_of_ble_eq_true rfl) dX9_mixAll_220 ⟨Nat.zero_le _, Nat.zero_le _⟩) hS (fun H locs hP hS => ?_)
  refine lv_aload_n C.1 C.2.1 dX9_mixAll_223 rfl (lv_at hl 0 rfl) ?_
  refine lv_aload_n C.1 C.2.1 dX9_mixAll_224 rfl (lv_at hl 0 rfl) ?_
  refine lv_bipush (v := 90) C.1 C.2.1 dX9_mixAll_225 (by decide) ?_
  obtain ⟨r38, hr38, hf⟩ := ob hf
  refine kci (kV (As := [.int 90]) (rest := [.ref (wAd w 90)]) C hl.1 hP hS (c_X9_percentNow w l C.2.2.2.2.2.2.2.2 (L := r37) hr38) (gV q1124 q1126 qp48 q10 q1127) hd_X9_percentNow (lt_Model h0_Model) (ob_Model h0_Model w r37 _) rfl ⟨rfl, rfl⟩ ⟨Nat.le_of_ble_eq_true rfl, Nat.le_of_ble_eq_true rfl⟩ rfl rfl (Nat.le_of_ble_eq_true rfl) dX9_mixAll_227 ⟨Nat.zero_le _, Nat.zero_le _⟩) hS (fun H locs hP hS => ?_)
  refine lv_i2l (v := (Int32.toInt64 r38)) C.1 C.2.1 dX9_mixAll_230 rfl ?_
  obtain ⟨r39, hr39, hf⟩ := ob hf
  refine kcv (kV (As := [.long (Int32.toInt64 r38)]) (rest := []) C hl.1 hP hS (c_X9_mix w l C.2.2.2.2.2.2.2.2 hr39) (gV q1201 q1203 qp60 q10 q1204) hd_X9_mix (lt_Model h0_Model) (ob_Model h0_Model w r37 _) rfl ⟨rfl, rfl⟩ ⟨Nat.le_of_ble_eq_true rfl, Nat.le_of_ble_eq_true rfl⟩ rfl rfl (Nat.le_of_ble_eq_true rfl) dX9_mixAll_231 ⟨Nat.zero_le _, Nat.zero_le _⟩) hS (fun H locs hP hS => ?_)
  refine lv_aload_n C.1 C.2.1 dX9_mixAll_234 rfl (lv_at hl 0 rfl) ?_
  refine lv_aload_n C.1 C.2.1 dX9_mixAll_235 rfl (lv_at hl 0 rfl) ?_
  refine lv_bipush (v := 100) C.1 C.2.1 dX9_mixAll_236 (by decide) ?_
  obtain ⟨r40, hr40, hf⟩ := ob hf
  refine kci (kV (As := [.int 100]) (rest := [.ref (wAd w 90)]) C hl.1 hP hS (c_X9_percentNow w l C.2.2.2.2.2.2.2.2 (L := r39) hr40) (gV q1124 q1126 qp48 q10 q1127) hd_X9_percentNow (lt_Model h0_Model) (ob_Model h0_Model w r39 _) rfl ⟨rfl, rfl⟩ ⟨Nat.le_of_ble_eq_true rfl, Nat.le_of_ble_eq_true rfl⟩ rfl rfl (Nat.le_of_ble_eq_true rfl) dX9_mixAll_238 ⟨Nat.zero_le _, Nat.zero_le _⟩) hS (fun H locs hP hS => ?_)
  refine lv_i2l (v := (Int32.toInt64 r40)) C.1 C.2.1 dX9_mixAll_241 rfl ?_
  obtain ⟨r41, hr41, hf⟩ := ob hf
  refine kcv (kV (As := [.long (Int32.toInt64 r40)]) (rest := []) C hl.1 hP hS (c_X9_mix w l C.2.2.2.2.2.2.2.2 hr41) (gV q1201 q1203 qp60 q10 q1204) hd_X9_mix (lt_Model h0_Model) (ob_Model h0_Model w r39 _) rfl ⟨rfl, rfl⟩ ⟨Nat.le_of_ble_eq_true rfl, Nat.le_of_ble_eq_true rfl⟩ rfl rfl (Nat.le_of_ble_eq_true rfl) dX9_mixAll_242 ⟨Nat.zero_le _, Nat.zero_le _⟩) hS (fun H locs hP hS => ?_)
  cases hf
  exact krv C hP hS dX9_mixAll_245
theorem dJxe99ae_isNaN_b9ae7_0 : decode cJxe99ae_isNaN_b9ae7 0 = .ok (.dload_n 0, 1) := by decide +kernel
theorem dJxe99ae_isNaN_b9ae7_1 : decode cJxe99ae_isNaN_b9ae7 1 = .ok (.dload_n 0, 1) := by decide +kernel
theorem dJxe99ae_isNaN_b9ae7_2 : decode cJxe99ae_isNaN_b9ae7 2 = .ok (.dcmp .l, 1) := by decide +kernel
theorem dJxe99ae_isNaN_b9ae7_3 : decode cJxe99ae_isNaN_b9ae7 3 = .ok (.ifCond .eq 7, 3) := by decide +kernel
theorem dJxe99ae_isNaN_b9ae7_6 : decode cJxe99ae_isNaN_b9ae7 6 = .ok (.iconst 1, 1) := by decide +kernel
theorem dJxe99ae_isNaN_b9ae7_7 : decode cJxe99ae_isNaN_b9ae7 7 = .ok (.goto 4, 3) := by decide +kernel
theorem dJxe99ae_isNaN_b9ae7_10 : decode cJxe99ae_isNaN_b9ae7 10 = .ok (.iconst 0, 1) := by decide +kernel
theorem dJxe99ae_isNaN_b9ae7_11 : decode cJxe99ae_isNaN_b9ae7 11 = .ok (.ireturn, 1) := by decide +kernel
set_option maxHeartbeats 4000000 in
set_option maxRecDepth 100000 in
theorem c_Jxe99ae_isNaN_b9ae7 (w : WT) (l : Launch) (hw : WOK w) {a0 : UInt64} {M : Mem} {L : Lng} {out : Int32} (hf : f_Jxe99ae_isNaN_b9ae7 a0 M = some out) : Met l yJxe99ae_isNaN_b9ae7 (Cond.code yJxe99ae_isNaN_b9ae7 cJxe99ae_isNaN_b9ae7 2 (some .boolean) :: BG) ({ frames := 0, cells := 0, slots := 0, locals := 0 } : Room) (PRE w [.double a0] M L) (QI w out M L) 0 0 (wA w) := by
  refine kEnt hw (by decide +kernel) rfl (Nat.le_of_ble_eq_true rfl) ?_
  intro p e s m args below meth c C ls hl hP
  have hS : va_S (wA w) s.heap s.heap [] := va_S.rf
  have hl : lv_has ls 2 [(0, .double a0)] := hl
  unfold f_Jxe99ae_isNaN_b9ae7 at hf
  refine lv_dload_n C.1 C.2.1 dJxe99ae_isNaN_b9ae7_0 rfl (lv_at hl 0 rfl) ?_
  refine lv_dload_n C.1 C.2.1 dJxe99ae_isNaN_b9ae7_1 rfl (lv_at hl 0 rfl) ?_
  refine lv_dcmp C.1 C.2.1 dJxe99ae_isNaN_b9ae7_2 ?_
  refine lv_if_eq (tgt := 10) C.1 C.2.1 dJxe99ae_isNaN_b9ae7_3 (by decide) (fun c1 => ?_) (fun c1 => ?_)
  · have hf := (if_pos c1).symm.trans hf
    refine lv_iconst (v := 0) C.1 C.2.1 dJxe99ae_isNaN_b9ae7_10 (by decide) ?_
    cases hf
    exact krz C hP hS bz0 dJxe99ae_isNaN_b9ae7_11
  · have hf := (if_neg c1).symm.trans hf
    refine lv_iconst (v := 1) C.1 C.2.1 dJxe99ae_isNaN_b9ae7_6 (by decide) ?_
    refine lv_goto (tgt := 11) C.1 C.2.1 dJxe99ae_isNaN_b9ae7_7 (by decide) ?_
    cases hf
    exact krz C hP hS bz1 dJxe99ae_isNaN_b9ae7_11
theorem dJxe99ae_doubleToLongBits_ccdee_0 : decode cJxe99ae_doubleToLongBits_ccdee 0 = .ok (.dload_n 0, 1) := by decide +kernel
theorem dJxe99ae_doubleToLongBits_ccdee_1 : decode cJxe99ae_doubleToLongBits_ccdee 1 = .ok (.invokestatic 122, 3) := by decide +kernel
theorem dJxe99ae_doubleToLongBits_ccdee_4 : decode cJxe99ae_doubleToLongBits_ccdee 4 = .ok (.ifCond .ne 8, 3) := by decide +kernel
theorem dJxe99ae_doubleToLongBits_ccdee_7 : decode cJxe99ae_doubleToLongBits_ccdee 7 = .ok (.dload_n 0, 1) := by decide +kernel
theorem dJxe99ae_doubleToLongBits_ccdee_8 : decode cJxe99ae_doubleToLongBits_ccdee 8 = .ok (.invokestatic 134, 3) := by decide +kernel
theorem dJxe99ae_doubleToLongBits_ccdee_11 : decode cJxe99ae_doubleToLongBits_ccdee 11 = .ok (.lreturn, 1) := by decide +kernel
theorem dJxe99ae_doubleToLongBits_ccdee_12 : decode cJxe99ae_doubleToLongBits_ccdee 12 = .ok (.ldc2_w 137, 3) := by decide +kernel
theorem dJxe99ae_doubleToLongBits_ccdee_15 : decode cJxe99ae_doubleToLongBits_ccdee 15 = .ok (.lreturn, 1) := by decide +kernel
set_option maxHeartbeats 4000000 in
set_option maxRecDepth 100000 in
theorem c_Jxe99ae_doubleToLongBits_ccdee (w : WT) (l : Launch) (hw : WOK w) {a0 : UInt64} {M : Mem} {L : Lng} {out : Int64} (hf : f_Jxe99ae_doubleToLongBits_ccdee a0 M = some out) : Met l yJxe99ae_doubleToLongBits_ccdee (Cond.code yJxe99ae_doubleToLongBits_ccdee cJxe99ae_doubleToLongBits_ccdee 2 (some .long) :: BG) ({ frames := 1, cells := 0, slots := 0, locals := 30 } : Room) (PRE w [.double a0] M L) (QL w out M L) 0 0 (wA w) := by
  refine kEnt hw (by decide +kernel) rfl (Nat.le_of_ble_eq_true rfl) ?_
  intro p e s m args below meth c C ls hl hP
  have hS : va_S (wA w) s.heap s.heap [] := va_S.rf
  have hl : lv_has ls 2 [(0, .double a0)] := hl
  unfold f_Jxe99ae_doubleToLongBits_ccdee at hf
  refine lv_dload_n C.1 C.2.1 dJxe99ae_doubleToLongBits_ccdee_0 rfl (lv_at hl 0 rfl) ?_
  obtain ⟨r1, hr1, hf⟩ := ob hf
  refine kci (kS (As := [.double a0]) (rest := []) C hl.1 hP hS (c_Jxe99ae_isNaN_b9ae7 w l C.2.2.2.2.2.2.2.2 (L := L) hr1) (gS q1209 q1210 q19 q1211) hd_Jxe99ae_isNaN_b9ae7 ⟨rfl, rfl⟩ ⟨Nat.le_of_ble_eq_true rfl, Nat.le_of_ble_eq_true rfl⟩ rfl rfl (Nat.le_of_ble_eq_true rfl) dJxe99ae_doubleToLongBits_ccdee_1 ⟨Nat.zero_le _, Nat.zero_le _⟩) hS (fun H locs hP hS => ?_)
  refine lv_if_ne (tgt := 12) C.1 C.2.1 dJxe99ae_doubleToLongBits_ccdee_4 (by decide) (fun c2 => ?_) (fun c2 => ?_)
  · have hf := (if_neg c2).symm.trans hf
    refine lv_ldc2 C.1 C.2.1 C.2.2.2.1 (C.2.2.2.2.1 _ q1215) dJxe99ae_doubleToLongBits_ccdee_12 ?_
    cases hf
    exact krl C hP hS dJxe99ae_doubleToLongBits_ccdee_15
  · have hf := (if_pos c2).symm.trans hf
    refine lv_dload_n C.1 C.2.1 dJxe99ae_doubleToLongBits_ccdee_7 rfl (lv_at hl 0 rfl) ?_
    refine vn_d2l C.1 C.2.1 (C.2.2.1.trans hl.1.symm) C.2.2.2.1 (C.2.2.2.2.1 _ q1212) (C.2.2.2.2.1 _ q1214) (C.2.2.2.2.1 _ q1213) (C.2.2.2.2.1 _ q19) (Nat.le_of_ble_eq_true rfl) (Nat.le_of_ble_eq_true rfl) dJxe99ae_doubleToLongBits_ccdee_8 ?_
    cases hf
    exact krl C hP hS dJxe99ae_doubleToLongBits_ccdee_11
theorem dX9_digest_0 : decode cX9_digest 0 = .ok (.aload_n 0, 1) := by decide +kernel
theorem dX9_digest_1 : decode cX9_digest 1 = .ok (.iconst 0, 1) := by decide +kernel
theorem dX9_digest_2 : decode cX9_digest 2 = .ok (.putfield 61, 3) := by decide +kernel
theorem dX9_digest_5 : decode cX9_digest 5 = .ok (.aload_n 0, 1) := by decide +kernel
theorem dX9_digest_6 : decode cX9_digest 6 = .ok (.ldc2_w 232, 3) := by decide +kernel
theorem dX9_digest_9 : decode cX9_digest 9 = .ok (.putfield 224, 3) := by decide +kernel
theorem dX9_digest_12 : decode cX9_digest 12 = .ok (.aload_n 0, 1) := by decide +kernel
theorem dX9_digest_13 : decode cX9_digest 13 = .ok (.invokevirtual 138, 3) := by decide +kernel
theorem dX9_digest_16 : decode cX9_digest 16 = .ok (.aload_n 0, 1) := by decide +kernel
theorem dX9_digest_17 : decode cX9_digest 17 = .ok (.invokevirtual 234, 3) := by decide +kernel
theorem dX9_digest_20 : decode cX9_digest 20 = .ok (.aload_n 0, 1) := by decide +kernel
theorem dX9_digest_21 : decode cX9_digest 21 = .ok (.invokevirtual 218, 3) := by decide +kernel
theorem dX9_digest_24 : decode cX9_digest 24 = .ok (.invokestatic 237, 3) := by decide +kernel
theorem dX9_digest_27 : decode cX9_digest 27 = .ok (.lstore_n 1, 1) := by decide +kernel
theorem dX9_digest_28 : decode cX9_digest 28 = .ok (.aload_n 0, 1) := by decide +kernel
theorem dX9_digest_29 : decode cX9_digest 29 = .ok (.aload_n 0, 1) := by decide +kernel
theorem dX9_digest_30 : decode cX9_digest 30 = .ok (.iconst 1, 1) := by decide +kernel
theorem dX9_digest_31 : decode cX9_digest 31 = .ok (.invokevirtual 212, 3) := by decide +kernel
theorem dX9_digest_34 : decode cX9_digest 34 = .ok (.i2l, 1) := by decide +kernel
theorem dX9_digest_35 : decode cX9_digest 35 = .ok (.invokevirtual 228, 3) := by decide +kernel
theorem dX9_digest_38 : decode cX9_digest 38 = .ok (.aload_n 0, 1) := by decide +kernel
theorem dX9_digest_39 : decode cX9_digest 39 = .ok (.aload_n 0, 1) := by decide +kernel
theorem dX9_digest_40 : decode cX9_digest 40 = .ok (.bipush 80, 2) := by decide +kernel
theorem dX9_digest_42 : decode cX9_digest 42 = .ok (.invokevirtual 215, 3) := by decide +kernel
theorem dX9_digest_45 : decode cX9_digest 45 = .ok (.i2l, 1) := by decide +kernel
theorem dX9_digest_46 : decode cX9_digest 46 = .ok (.invokevirtual 228, 3) := by decide +kernel
theorem dX9_digest_49 : decode cX9_digest 49 = .ok (.aload_n 0, 1) := by decide +kernel
theorem dX9_digest_50 : decode cX9_digest 50 = .ok (.lload_n 1, 1) := by decide +kernel
theorem dX9_digest_51 : decode cX9_digest 51 = .ok (.invokevirtual 228, 3) := by decide +kernel
theorem dX9_digest_54 : decode cX9_digest 54 = .ok (.aload_n 0, 1) := by decide +kernel
theorem dX9_digest_55 : decode cX9_digest 55 = .ok (.aload_n 0, 1) := by decide +kernel
theorem dX9_digest_56 : decode cX9_digest 56 = .ok (.getfield 141, 3) := by decide +kernel
theorem dX9_digest_59 : decode cX9_digest 59 = .ok (.i2l, 1) := by decide +kernel
theorem dX9_digest_60 : decode cX9_digest 60 = .ok (.invokevirtual 228, 3) := by decide +kernel
theorem dX9_digest_63 : decode cX9_digest 63 = .ok (.iconst 0, 1) := by decide +kernel
theorem dX9_digest_64 : decode cX9_digest 64 = .ok (.istore_n 3, 1) := by decide +kernel
theorem dX9_digest_65 : decode cX9_digest 65 = .ok (.iload_n 3, 1) := by decide +kernel
theorem dX9_digest_66 : decode cX9_digest 66 = .ok (.aload_n 0, 1) := by decide +kernel
theorem dX9_digest_67 : decode cX9_digest 67 = .ok (.getfield 141, 3) := by decide +kernel
theorem dX9_digest_70 : decode cX9_digest 70 = .ok (.if_icmp .ge 20, 3) := by decide +kernel
theorem dX9_digest_73 : decode cX9_digest 73 = .ok (.aload_n 0, 1) := by decide +kernel
theorem dX9_digest_74 : decode cX9_digest 74 = .ok (.aload_n 0, 1) := by decide +kernel
theorem dX9_digest_75 : decode cX9_digest 75 = .ok (.getfield 16, 3) := by decide +kernel
theorem dX9_digest_78 : decode cX9_digest 78 = .ok (.iload_n 3, 1) := by decide +kernel
theorem dX9_digest_79 : decode cX9_digest 79 = .ok (.iaload, 1) := by decide +kernel
theorem dX9_digest_80 : decode cX9_digest 80 = .ok (.i2l, 1) := by decide +kernel
theorem dX9_digest_81 : decode cX9_digest 81 = .ok (.invokevirtual 228, 3) := by decide +kernel
theorem dX9_digest_84 : decode cX9_digest 84 = .ok (.iinc 3 1, 3) := by decide +kernel
theorem dX9_digest_87 : decode cX9_digest 87 = .ok (.goto (-22), 3) := by decide +kernel
theorem dX9_digest_90 : decode cX9_digest 90 = .ok (.aload_n 0, 1) := by decide +kernel
theorem dX9_digest_91 : decode cX9_digest 91 = .ok (.getfield 224, 3) := by decide +kernel
theorem dX9_digest_94 : decode cX9_digest 94 = .ok (.lreturn, 1) := by decide +kernel
set_option maxHeartbeats 4000000 in
set_option maxRecDepth 100000 in
theorem w_X9_digest_l65 {w : WT} {l : Launch} {p : Program} {e : Env} {s : State} {m : MethodId} {args : Array Value} {below : List Frame} {meth : Method} {c : Code} (C : KC w p s m args meth c cX9_digest 4 RX9 (some .long)) {M : Mem} {Q : State → Prop} (z : Int32 × Lng) (o : (Int32 × Lng) ⊕ (Lng)) (hf : f_X9_digest_l65 M z = some o) (hA : ∀ z, o = .inl z → AtL w p l e ({ frames := 7, cells := 0, slots := 0, locals := 155 } : Room) s m args below meth c Q 4 65 M z.2 [(0, .ref (wAd w 90)), (3, .int z.1)] []) (hE : ∀ y, o = .inr y → AtL w p l e ({ frames := 7, cells := 0, slots := 0, locals := 155 } : Room) s m args below meth c Q 4 90 M y [(0, .ref (wAd w 90))] []) : AtL w p l e ({ frames := 7, cells := 0, slots := 0, locals := 155 } : Room) s m args below meth c Q 4 65 M z.2 [(0, .ref (wAd w 90)), (3, .int z.1)] [] := by
  intro H locs ls hP hS hl
  unfold f_X9_digest_l65 at hf
  refine lv_iload_n C.1 C.2.1 dX9_digest_65 rfl (lv_at hl 1 rfl) ?_
  refine lv_aload_n C.1 C.2.1 dX9_digest_66 rfl (lv_at hl 0 rfl) ?_
  refine k_get (v := .int (M 90 4)) C hP (lt_Model h0_Model) (ob_Model h0_Model w z.2 _) rfl iX9 4 (by decide) q867 rfl dX9_digest_67 ?_
  refine lv_icmp_ge (tgt := 90) C.1 C.2.1 dX9_digest_70 (by decide) (fun c13 => ?_) (fun c13 => ?_)
  · have hf := (if_pos c13).symm.trans hf
    cases hf
    exact hE _ rfl _ _ _ hP hS (lv_sub hl [0] rfl)
  · have hf := (if_neg c13).symm.trans hf
    refine lv_aload_n C.1 C.2.1 dX9_digest_73 rfl (lv_at hl 0 rfl) ?_
    refine lv_aload_n C.1 C.2.1 dX9_digest_74 rfl (lv_at hl 0 rfl) ?_
    refine k_get (v := .ref (wAd w 93)) C hP (lt_Model h0_Model) (ob_Model h0_Model w z.2 _) rfl iX9 5 (by decide) q868 rfl dX9_digest_75 ?_
    refine lv_iload_n C.1 C.2.1 dX9_digest_78 rfl (lv_at hl 1 rfl) ?_
    obtain ⟨x14, hx14, hf⟩ := ob hf
    refine k_iald C hP (la_Model_text h0_Model) (ar_Model_text h0_Model w z.2 _) hx14 dX9_digest_79 ?_
    refine lv_i2l (v := (Int32.toInt64 x14)) C.1 C.2.1 dX9_digest_80 rfl ?_
    obtain ⟨r15, hr15, hf⟩ := ob hf
    refine kcv (kV (As := [.long (Int32.toInt64 x14)]) (rest := []) C hl.1 hP hS (c_X9_mix w l C.2.2.2.2.2.2.2.2 hr15) (gV q1201 q1203 qp60 q10 q1204) hd_X9_mix (lt_Model h0_Model) (ob_Model h0_Model w z.2 _) rfl ⟨rfl, rfl⟩ ⟨Nat.le_of_ble_eq_true rfl, Nat.le_of_ble_eq_true rfl⟩ rfl rfl (Nat.le_of_ble_eq_true rfl) dX9_digest_81 ⟨Nat.zero_le _, Nat.zero_le _⟩) hS (fun H locs hP hS => ?_)
    refine lv_iinc (v := (z.1 + 1)) (lv' := [(3, .int (z.1 + 1)), (0, .ref (wAd w 90))]) C.1 C.2.1 dX9_digest_84 hl (k := 1) rfl rfl (by decide) rfl (fun ls hl => ?_)
    refine lv_goto (tgt := 65) C.1 C.2.1 dX9_digest_87 (by decide) ?_
    cases hf
    exact hA _ rfl _ _ _ hP hS (lv_sub hl [1, 0] rfl)
set_option maxHeartbeats 4000000 in
set_option maxRecDepth 100000 in
theorem c_X9_digest (w : WT) (l : Launch) (hw : WOK w) {M : Mem} {L : Lng} {out : Int64 × Mem × Lng} (hf : f_X9_digest M L = some out) : Met l yX9_digest (Cond.code yX9_digest cX9_digest 4 (some .long) :: BG) ({ frames := 7, cells := 0, slots := 0, locals := 155 } : Room) (PRE w [.ref (wAd w 90)] M L) (QL w out.1 out.2.1 out.2.2) 0 0 (wA w) := by
  refine kEnt hw (by decide +kernel) rfl (Nat.le_of_ble_eq_true rfl) ?_
  intro p e s m args below meth c C ls hl hP
  have hS : va_S (wA w) s.heap s.heap [] := va_S.rf
  have hl : lv_has ls 4 [(0, .ref (wAd w 90))] := hl
  unfold f_X9_digest at hf
  refine lv_aload_n C.1 C.2.1 dX9_digest_0 rfl (lv_at hl 0 rfl) ?_
  refine lv_iconst (v := 0) C.1 C.2.1 dX9_digest_1 (by decide) ?_
  obtain ⟨M1, hM1, hf⟩ := ob hf
  refine k_puti C hP hS (lt_Model h0_Model) (fun row => ob_Model h0_Model w L row) rfl iX9 tyX9 tyX9_ok nmX9 0 (by decide) q863 rfl rfl (by decide) rfl hM1 dX9_digest_2 (fun H locs hP hS => ?_)
  refine lv_aload_n C.1 C.2.1 dX9_digest_5 rfl (lv_at hl 0 rfl) ?_
  refine lv_ldc2 C.1 C.2.1 C.2.2.2.1 (C.2.2.2.2.1 _ q1196) dX9_digest_6 ?_
  obtain ⟨L2, hL2, hf⟩ := ob hf
  refine k_putl C hP hS rfl q890 hL2 dX9_digest_9 (fun H locs hP hS => ?_)
  refine lv_aload_n C.1 C.2.1 dX9_digest_12 rfl (lv_at hl 0 rfl) ?_
  obtain ⟨r3, hr3, hf⟩ := ob hf
  refine kcv (kV (As := []) (rest := []) C hl.1 hP hS (c_X9_layAll w l C.2.2.2.2.2.2.2.2 (L := L2) hr3) (gV q1040 q1042 qp36 q10 q1043) hd_X9_layAll (lt_Model h0_Model) (ob_Model h0_Model w L2 _) rfl ⟨rfl, rfl⟩ ⟨Nat.le_of_ble_eq_true rfl, Nat.le_of_ble_eq_true rfl⟩ rfl rfl (Nat.le_of_ble_eq_true rfl) dX9_digest_13 ⟨Nat.zero_le _, Nat.zero_le _⟩) hS (fun H locs hP hS => ?_)
  refine lv_aload_n C.1 C.2.1 dX9_digest_16 rfl (lv_at hl 0 rfl) ?_
  obtain ⟨r4, hr4, hf⟩ := ob hf
  refine kcv (kV (As := []) (rest := []) C hl.1 hP hS (c_X9_mixAll w l C.2.2.2.2.2.2.2.2 hr4) (gV q1197 q1199 qp59 q10 q1200) hd_X9_mixAll (lt_Model h0_Model) (ob_Model h0_Model w L2 _) rfl ⟨rfl, rfl⟩ ⟨Nat.le_of_ble_eq_true rfl, Nat.le_of_ble_eq_true rfl⟩ rfl rfl (Nat.le_of_ble_eq_true rfl) dX9_digest_17 ⟨Nat.zero_le _, Nat.zero_le _⟩) hS (fun H locs hP hS => ?_)
  refine lv_aload_n C.1 C.2.1 dX9_digest_20 rfl (lv_at hl 0 rfl) ?_
  obtain ⟨r5, hr5, hf⟩ := ob hf
  refine kcd (kV (As := []) (rest := []) C hl.1 hP hS (c_X9_shareNow w l C.2.2.2.2.2.2.2.2 (L := r4) hr5) (gV q1188 q1190 qp58 q10 q1191) hd_X9_shareNow (lt_Model h0_Model) (ob_Model h0_Model w r4 _) rfl ⟨rfl, rfl⟩ ⟨Nat.le_of_ble_eq_true rfl, Nat.le_of_ble_eq_true rfl⟩ rfl rfl (Nat.le_of_ble_eq_true rfl) dX9_digest_21 ⟨Nat.zero_le _, Nat.zero_le _⟩) hS (fun H locs hP hS => ?_)
  obtain ⟨r6, hr6, hf⟩ := ob hf
  refine kcl (kS (As := [.double r5]) (rest := []) C hl.1 hP hS (c_Jxe99ae_doubleToLongBits_ccdee w l C.2.2.2.2.2.2.2.2 (L := r4) hr6) (gS q1206 q1207 q19 q1208) hd_Jxe99ae_doubleToLongBits_ccdee ⟨rfl, rfl⟩ ⟨Nat.le_of_ble_eq_true rfl, Nat.le_of_ble_eq_true rfl⟩ rfl rfl (Nat.le_of_ble_eq_true rfl) dX9_digest_24 ⟨Nat.zero_le _, Nat.zero_le _⟩) hS (fun H locs hP hS => ?_)
  refine lv_lstore_n (lv' := [(1, .long r6), (0, .ref (wAd w 90))]) C.1 C.2.1 dX9_digest_27 rfl hl (by decide) rfl (fun ls hl => ?_)
  refine lv_aload_n C.1 C.2.1 dX9_digest_28 rfl (lv_at hl 1 rfl) ?_
  refine lv_aload_n C.1 C.2.1 dX9_digest_29 rfl (lv_at hl 1 rfl) ?_
  refine lv_iconst (v := 1) C.1 C.2.1 dX9_digest_30 (by decide) ?_
  obtain ⟨r7, hr7, hf⟩ := ob hf
  refine kci (kV (As := [.int 1]) (rest := [.ref (wAd w 90)]) C hl.1 hP hS (c_X9_leastNow w l C.2.2.2.2.2.2.2.2 (L := r4) hr7) (gV q1172 q1174 qp56 q10 q1175) hd_X9_leastNow (lt_Model h0_Model) (ob_Model h0_Model w r4 _) rfl ⟨rfl, rfl⟩ ⟨Nat.le_of_ble_eq_true rfl, Nat.le_of_ble_eq_true rfl⟩ rfl rfl (Nat.le_of_ble_eq_true rfl) dX9_digest_31 ⟨Nat.zero_le _, Nat.zero_le _⟩) hS (fun H locs hP hS => ?_)
  refine lv_i2l (v := (Int32.toInt64 r7.1)) C.1 C.2.1 dX9_digest_34 rfl ?_
  obtain ⟨r8, hr8, hf⟩ := ob hf
  refine kcv (kV (As := [.long (Int32.toInt64 r7.1)]) (rest := []) C hl.1 hP hS (c_X9_mix w l C.2.2.2.2.2.2.2.2 hr8) (gV q1201 q1203 qp60 q10 q1204) hd_X9_mix (lt_Model h0_Model) (ob_Model h0_Model w r4 _) rfl ⟨rfl, rfl⟩ ⟨Nat.le_of_ble_eq_true rfl, Nat.le_of_ble_eq_true rfl⟩ rfl rfl (Nat.le_of_ble_eq_true rfl) dX9_digest_35 ⟨Nat.zero_le _, Nat.zero_le _⟩) hS (fun H locs hP hS => ?_)
  refine lv_aload_n C.1 C.2.1 dX9_digest_38 rfl (lv_at hl 1 rfl) ?_
  refine lv_aload_n C.1 C.2.1 dX9_digest_39 rfl (lv_at hl 1 rfl) ?_
  refine lv_bipush (v := 80) C.1 C.2.1 dX9_digest_40 (by decide) ?_
  obtain ⟨r9, hr9, hf⟩ := ob hf
  refine kci (kV (As := [.int 80]) (rest := [.ref (wAd w 90)]) C hl.1 hP hS (c_X9_aboveNow w l C.2.2.2.2.2.2.2.2 (L := r8) hr9) (gV q1180 q1182 qp57 q10 q1183) hd_X9_aboveNow (lt_Model h0_Model) (ob_Model h0_Model w r8 _) rfl ⟨rfl, rfl⟩ ⟨Nat.le_of_ble_eq_true rfl, Nat.le_of_ble_eq_true rfl⟩ rfl rfl (Nat.le_of_ble_eq_true rfl) dX9_digest_42 ⟨Nat.zero_le _, Nat.zero_le _⟩) hS (fun H locs hP hS => ?_)
  refine lv_i2l (v := (Int32.toInt64 r9.1)) C.1 C.2.1 dX9_digest_45 rfl ?_
  obtain ⟨r10, hr10, hf⟩ := ob hf
  refine kcv (kV (As := [.long (Int32.toInt64 r9.1)]) (rest := []) C hl.1 hP hS (c_X9_mix w l C.2.2.2.2.2.2.2.2 hr10) (gV q1201 q1203 qp60 q10 q1204) hd_X9_mix (lt_Model h0_Model) (ob_Model h0_Model w r8 _) rfl ⟨rfl, rfl⟩ ⟨Nat.le_of_ble_eq_true rfl, Nat.le_of_ble_eq_true rfl⟩ rfl rfl (Nat.le_of_ble_eq_true rfl) dX9_digest_46 ⟨Nat.zero_le _, Nat.zero_le _⟩) hS (fun H locs hP hS => ?_)
  refine lv_aload_n C.1 C.2.1 dX9_digest_49 rfl (lv_at hl 1 rfl) ?_
  refine lv_lload_n C.1 C.2.1 dX9_digest_50 rfl (lv_at hl 0 rfl) ?_
  obtain ⟨r11, hr11, hf⟩ := ob hf
  refine kcv (kV (As := [.long r6]) (rest := []) C hl.1 hP hS (c_X9_mix w l C.2.2.2.2.2.2.2.2 hr11) (gV q1201 q1203 qp60 q10 q1204) hd_X9_mix (lt_Model h0_Model) (ob_Model h0_Model w r10 _) rfl ⟨rfl, rfl⟩ ⟨Nat.le_of_ble_eq_true rfl, Nat.le_of_ble_eq_true rfl⟩ rfl rfl (Nat.le_of_ble_eq_true rfl) dX9_digest_51 ⟨Nat.zero_le _, Nat.zero_le _⟩) hS (fun H locs hP hS => ?_)
  refine lv_aload_n C.1 C.2.1 dX9_digest_54 rfl (lv_at hl 1 rfl) ?_
  refine lv_aload_n C.1 C.2.1 dX9_digest_55 rfl (lv_at hl 1 rfl) ?_
  refine k_get (v := .int (r9.2 90 4)) C hP (lt_Model h0_Model) (ob_Model h0_Model w r11 _) rfl iX9 4 (by decide) q867 rfl dX9_digest_56 ?_
  refine lv_i2l (v := (Int32.toInt64 (r9.2 90 4))) C.1 C.2.1 dX9_digest_59 rfl ?_
  obtain ⟨r12, hr12, hf⟩ := ob hf
  refine kcv (kV (As := [.long (Int32.toInt64 (r9.2 90 4))]) (rest := []) C hl.1 hP hS (c_X9_mix w l C.2.2.2.2.2.2.2.2 hr12) (gV q1201 q1203 qp60 q10 q1204) hd_X9_mix (lt_Model h0_Model) (ob_Model h0_Model w r11 _) rfl ⟨rfl, rfl⟩ ⟨Nat.le_of_ble_eq_true rfl, Nat.le_of_ble_eq_true rfl⟩ rfl rfl (Nat.le_of_ble_eq_true rfl) dX9_digest_60 ⟨Nat.zero_le _, Nat.zero_le _⟩) hS (fun H locs hP hS => ?_)
  refine lv_iconst (v := 0) C.1 C.2.1 dX9_digest_63 (by decide) ?_
  refine lv_istore_n (lv' := [(3, .int 0), (1, .long r6), (0, .ref (wAd w 90))]) C.1 C.2.1 dX9_digest_64 rfl hl (by decide) rfl (fun ls hl => ?_)
  obtain ⟨o16, ho16, hf⟩ := ob hf
  refine loop_at (w_X9_digest_l65 C) FU _ o16 ho16 ?_ _ _ _ hP hS (lv_sub hl [2, 0] rfl)
  intro H locs ls hP hS hl
  refine lv_aload_n C.1 C.2.1 dX9_digest_90 rfl (lv_at hl 0 rfl) ?_
  refine k_get (v := .long (o16 0)) C hP (lt_Model h0_Model) (ob_Model h0_Model w o16 _) rfl iX9 27 (by decide) q890 rfl dX9_digest_91 ?_
  cases hf
  exact krl C hP hS dX9_digest_94
end
