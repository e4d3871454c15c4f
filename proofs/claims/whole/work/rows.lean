section
-- ===== PART A: goes FIRST, ahead of the names: the tables' words, and 'selects' of the private methods out of them =====
/-- a private method of a class that the tables say can be made, by its rows of tables_1 -/
def lw_okq (q : MethodName × Nat) : Prop := (q.1.cls ≠ "java/lang/invoke/MethodHandle" ∧ q.1.cls ≠ "java/lang/invoke/VarHandle") ∧ Cond.instantiable q.1.cls q.2 ∈ tables_1 ∧ Cond.privateMethod q.1 ∈ tables_1 ∧ Cond.instanceMethod q.1 ∈ tables_1
theorem lw_p0 : lw_okq (⟨"SignalBlind", "isWord", "(I)Z"⟩, 12) := ⟨⟨by decide +kernel, by decide +kernel⟩, List.mem_of_getElem? (i := 28) (by decide +kernel), List.mem_of_getElem? (i := 247) (by decide +kernel), List.mem_of_getElem? (i := 248) (by decide +kernel)⟩
theorem lw_p1 : lw_okq (⟨"SignalBlind", "isSender", "(I)Z"⟩, 12) := ⟨⟨by decide +kernel, by decide +kernel⟩, List.mem_of_getElem? (i := 28) (by decide +kernel), List.mem_of_getElem? (i := 359) (by decide +kernel), List.mem_of_getElem? (i := 360) (by decide +kernel)⟩
theorem lw_p2 : lw_okq (⟨"SignalBlind", "wordsThrough", "(I)I"⟩, 12) := ⟨⟨by decide +kernel, by decide +kernel⟩, List.mem_of_getElem? (i := 28) (by decide +kernel), List.mem_of_getElem? (i := 363) (by decide +kernel), List.mem_of_getElem? (i := 364) (by decide +kernel)⟩
theorem lw_p3 : lw_okq (⟨"SignalBlind", "comes", "(III)Z"⟩, 12) := ⟨⟨by decide +kernel, by decide +kernel⟩, List.mem_of_getElem? (i := 28) (by decide +kernel), List.mem_of_getElem? (i := 367) (by decide +kernel), List.mem_of_getElem? (i := 368) (by decide +kernel)⟩
theorem lw_p4 : lw_okq (⟨"SignalBlind", "shown", "(IIII)I"⟩, 12) := ⟨⟨by decide +kernel, by decide +kernel⟩, List.mem_of_getElem? (i := 28) (by decide +kernel), List.mem_of_getElem? (i := 371) (by decide +kernel), List.mem_of_getElem? (i := 372) (by decide +kernel)⟩
theorem lw_p5 : lw_okq (⟨"SignalBlind$Ward", "holds", "(II[I)Z"⟩, 9) := ⟨⟨by decide +kernel, by decide +kernel⟩, List.mem_of_getElem? (i := 104) (by decide +kernel), List.mem_of_getElem? (i := 385) (by decide +kernel), List.mem_of_getElem? (i := 386) (by decide +kernel)⟩
theorem lw_p6 : lw_okq (⟨"SignalBlind", "readAs", "(I)I"⟩, 12) := ⟨⟨by decide +kernel, by decide +kernel⟩, List.mem_of_getElem? (i := 28) (by decide +kernel), List.mem_of_getElem? (i := 428) (by decide +kernel), List.mem_of_getElem? (i := 429) (by decide +kernel)⟩
theorem lw_p7 : lw_okq (⟨"SignalBlind", "near", "()I"⟩, 12) := ⟨⟨by decide +kernel, by decide +kernel⟩, List.mem_of_getElem? (i := 28) (by decide +kernel), List.mem_of_getElem? (i := 432) (by decide +kernel), List.mem_of_getElem? (i := 433) (by decide +kernel)⟩
theorem lw_p8 : lw_okq (⟨"SignalBlind", "unlikeSigns", "(I)I"⟩, 12) := ⟨⟨by decide +kernel, by decide +kernel⟩, List.mem_of_getElem? (i := 28) (by decide +kernel), List.mem_of_getElem? (i := 439) (by decide +kernel), List.mem_of_getElem? (i := 440) (by decide +kernel)⟩
theorem lw_p9 : lw_okq (⟨"SignalBlind", "shownNow", "(II)I"⟩, 12) := ⟨⟨by decide +kernel, by decide +kernel⟩, List.mem_of_getElem? (i := 28) (by decide +kernel), List.mem_of_getElem? (i := 443) (by decide +kernel), List.mem_of_getElem? (i := 444) (by decide +kernel)⟩
theorem lw_p10 : lw_okq (⟨"SignalBlind$Ward", "clause", "()Z"⟩, 9) := ⟨⟨by decide +kernel, by decide +kernel⟩, List.mem_of_getElem? (i := 104) (by decide +kernel), List.mem_of_getElem? (i := 481) (by decide +kernel), List.mem_of_getElem? (i := 482) (by decide +kernel)⟩
theorem lw_p11 : lw_okq (⟨"SignalBlind$Ward", "acceptOneOf", "(Ljava/lang/String;)I"⟩, 9) := ⟨⟨by decide +kernel, by decide +kernel⟩, List.mem_of_getElem? (i := 104) (by decide +kernel), List.mem_of_getElem? (i := 486) (by decide +kernel), List.mem_of_getElem? (i := 487) (by decide +kernel)⟩
theorem lw_p12 : lw_okq (⟨"SignalBlind$Ward", "accept", "(C)Z"⟩, 9) := ⟨⟨by decide +kernel, by decide +kernel⟩, List.mem_of_getElem? (i := 104) (by decide +kernel), List.mem_of_getElem? (i := 596) (by decide +kernel), List.mem_of_getElem? (i := 597) (by decide +kernel)⟩
theorem lw_p13 : lw_okq (⟨"SignalBlind$Ward", "number", "()I"⟩, 9) := ⟨⟨by decide +kernel, by decide +kernel⟩, List.mem_of_getElem? (i := 104) (by decide +kernel), List.mem_of_getElem? (i := 600) (by decide +kernel), List.mem_of_getElem? (i := 601) (by decide +kernel)⟩
theorem lw_p14 : lw_okq (⟨"SignalBlind$Ward", "either", "(I)Z"⟩, 9) := ⟨⟨by decide +kernel, by decide +kernel⟩, List.mem_of_getElem? (i := 104) (by decide +kernel), List.mem_of_getElem? (i := 605) (by decide +kernel), List.mem_of_getElem? (i := 606) (by decide +kernel)⟩
theorem lw_p15 : lw_okq (⟨"SignalBlind$Ward", "both", "(I)Z"⟩, 9) := ⟨⟨by decide +kernel, by decide +kernel⟩, List.mem_of_getElem? (i := 104) (by decide +kernel), List.mem_of_getElem? (i := 609) (by decide +kernel), List.mem_of_getElem? (i := 610) (by decide +kernel)⟩
def lw_privs_1 : List (MethodName × Nat) := [(⟨"SignalBlind", "isWord", "(I)Z"⟩, 12), (⟨"SignalBlind", "isSender", "(I)Z"⟩, 12), (⟨"SignalBlind", "wordsThrough", "(I)I"⟩, 12), (⟨"SignalBlind", "comes", "(III)Z"⟩, 12), (⟨"SignalBlind", "shown", "(IIII)I"⟩, 12), (⟨"SignalBlind$Ward", "holds", "(II[I)Z"⟩, 9), (⟨"SignalBlind", "readAs", "(I)I"⟩, 12), (⟨"SignalBlind", "near", "()I"⟩, 12), (⟨"SignalBlind", "unlikeSigns", "(I)I"⟩, 12), (⟨"SignalBlind", "shownNow", "(II)I"⟩, 12), (⟨"SignalBlind$Ward", "clause", "()Z"⟩, 9), (⟨"SignalBlind$Ward", "acceptOneOf", "(Ljava/lang/String;)I"⟩, 9), (⟨"SignalBlind$Ward", "accept", "(C)Z"⟩, 9), (⟨"SignalBlind$Ward", "number", "()I"⟩, 9), (⟨"SignalBlind$Ward", "either", "(I)Z"⟩, 9), (⟨"SignalBlind$Ward", "both", "(I)Z"⟩, 9)]
theorem lw_r1 : ∀ q ∈ lw_privs_1, lw_okq q := List.forall_mem_cons.mpr ⟨lw_p0, List.forall_mem_cons.mpr ⟨lw_p1, List.forall_mem_cons.mpr ⟨lw_p2, List.forall_mem_cons.mpr ⟨lw_p3, List.forall_mem_cons.mpr ⟨lw_p4, List.forall_mem_cons.mpr ⟨lw_p5, List.forall_mem_cons.mpr ⟨lw_p6, List.forall_mem_cons.mpr ⟨lw_p7, List.forall_mem_cons.mpr ⟨lw_p8, List.forall_mem_cons.mpr ⟨lw_p9, List.forall_mem_cons.mpr ⟨lw_p10, List.forall_mem_cons.mpr ⟨lw_p11, List.forall_mem_cons.mpr ⟨lw_p12, List.forall_mem_cons.mpr ⟨lw_p13, List.forall_mem_cons.mpr ⟨lw_p14, List.forall_mem_cons.mpr ⟨lw_p15, fun _ h => absurd h List.not_mem_nil⟩⟩⟩⟩⟩⟩⟩⟩⟩⟩⟩⟩⟩⟩⟩⟩
theorem lw_p16 : lw_okq (⟨"SignalBlind$Ward", "single", "(I)Z"⟩, 9) := ⟨⟨by decide +kernel, by decide +kernel⟩, List.mem_of_getElem? (i := 104) (by decide +kernel), List.mem_of_getElem? (i := 613) (by decide +kernel), List.mem_of_getElem? (i := 614) (by decide +kernel)⟩
theorem lw_p17 : lw_okq (⟨"SignalBlind$Ward", "addStep", "(I)Z"⟩, 9) := ⟨⟨by decide +kernel, by decide +kernel⟩, List.mem_of_getElem? (i := 104) (by decide +kernel), List.mem_of_getElem? (i := 617) (by decide +kernel), List.mem_of_getElem? (i := 618) (by decide +kernel)⟩
theorem lw_p18 : lw_okq (⟨"SignalBlind", "closestWords", "(Z)I"⟩, 12) := ⟨⟨by decide +kernel, by decide +kernel⟩, List.mem_of_getElem? (i := 28) (by decide +kernel), List.mem_of_getElem? (i := 631) (by decide +kernel), List.mem_of_getElem? (i := 632) (by decide +kernel)⟩
theorem lw_p19 : lw_okq (⟨"SignalBlind", "newSign", "(Z)I"⟩, 12) := ⟨⟨by decide +kernel, by decide +kernel⟩, List.mem_of_getElem? (i := 28) (by decide +kernel), List.mem_of_getElem? (i := 635) (by decide +kernel), List.mem_of_getElem? (i := 636) (by decide +kernel)⟩
theorem lw_p20 : lw_okq (⟨"SignalBlind", "leastApart", "(I)I"⟩, 12) := ⟨⟨by decide +kernel, by decide +kernel⟩, List.mem_of_getElem? (i := 28) (by decide +kernel), List.mem_of_getElem? (i := 639) (by decide +kernel), List.mem_of_getElem? (i := 640) (by decide +kernel)⟩
theorem lw_p21 : lw_okq (⟨"SignalBlind", "leastPassed", "(I)I"⟩, 12) := ⟨⟨by decide +kernel, by decide +kernel⟩, List.mem_of_getElem? (i := 28) (by decide +kernel), List.mem_of_getElem? (i := 671) (by decide +kernel), List.mem_of_getElem? (i := 672) (by decide +kernel)⟩
theorem lw_p22 : lw_okq (⟨"SignalBlind", "handedOn", "(I)I"⟩, 12) := ⟨⟨by decide +kernel, by decide +kernel⟩, List.mem_of_getElem? (i := 28) (by decide +kernel), List.mem_of_getElem? (i := 675) (by decide +kernel), List.mem_of_getElem? (i := 676) (by decide +kernel)⟩
theorem lw_p23 : lw_okq (⟨"SignalBlind", "nextOrder", "(I)Z"⟩, 12) := ⟨⟨by decide +kernel, by decide +kernel⟩, List.mem_of_getElem? (i := 28) (by decide +kernel), List.mem_of_getElem? (i := 682) (by decide +kernel), List.mem_of_getElem? (i := 683) (by decide +kernel)⟩
theorem lw_p24 : lw_okq (⟨"SignalBlind", "swapInOrder", "(II)V"⟩, 12) := ⟨⟨by decide +kernel, by decide +kernel⟩, List.mem_of_getElem? (i := 28) (by decide +kernel), List.mem_of_getElem? (i := 686) (by decide +kernel), List.mem_of_getElem? (i := 687) (by decide +kernel)⟩
theorem lw_p25 : lw_okq (⟨"SignalBlind", "addPair", "(LSignalBlind$Row;II)I"⟩, 12) := ⟨⟨by decide +kernel, by decide +kernel⟩, List.mem_of_getElem? (i := 28) (by decide +kernel), List.mem_of_getElem? (i := 694) (by decide +kernel), List.mem_of_getElem? (i := 695) (by decide +kernel)⟩
theorem lw_p26 : lw_okq (⟨"SignalBlind", "fitsSeen", "(III)Z"⟩, 12) := ⟨⟨by decide +kernel, by decide +kernel⟩, List.mem_of_getElem? (i := 28) (by decide +kernel), List.mem_of_getElem? (i := 702) (by decide +kernel), List.mem_of_getElem? (i := 703) (by decide +kernel)⟩
theorem lw_p27 : lw_okq (⟨"SignalBlindModel", "isSign", "(I)Z"⟩, 61) := ⟨⟨by decide +kernel, by decide +kernel⟩, List.mem_of_getElem? (i := 994) (by decide +kernel), List.mem_of_getElem? (i := 1189) (by decide +kernel), List.mem_of_getElem? (i := 1190) (by decide +kernel)⟩
theorem lw_p28 : lw_okq (⟨"SignalBlindModel", "in", "(III)Z"⟩, 61) := ⟨⟨by decide +kernel, by decide +kernel⟩, List.mem_of_getElem? (i := 994) (by decide +kernel), List.mem_of_getElem? (i := 1193) (by decide +kernel), List.mem_of_getElem? (i := 1194) (by decide +kernel)⟩
theorem lw_p29 : lw_okq (⟨"SignalBlindModel", "isWord", "(I)Z"⟩, 61) := ⟨⟨by decide +kernel, by decide +kernel⟩, List.mem_of_getElem? (i := 994) (by decide +kernel), List.mem_of_getElem? (i := 1201) (by decide +kernel), List.mem_of_getElem? (i := 1202) (by decide +kernel)⟩
theorem lw_p30 : lw_okq (⟨"SignalBlindModel", "isSender", "(I)Z"⟩, 61) := ⟨⟨by decide +kernel, by decide +kernel⟩, List.mem_of_getElem? (i := 994) (by decide +kernel), List.mem_of_getElem? (i := 1213) (by decide +kernel), List.mem_of_getElem? (i := 1214) (by decide +kernel)⟩
theorem lw_p31 : lw_okq (⟨"SignalBlindModel", "goesText", "(I)Z"⟩, 61) := ⟨⟨by decide +kernel, by decide +kernel⟩, List.mem_of_getElem? (i := 994) (by decide +kernel), List.mem_of_getElem? (i := 1225) (by decide +kernel), List.mem_of_getElem? (i := 1226) (by decide +kernel)⟩
def lw_privs_2 : List (MethodName × Nat) := [(⟨"SignalBlind$Ward", "single", "(I)Z"⟩, 9), (⟨"SignalBlind$Ward", "addStep", "(I)Z"⟩, 9), (⟨"SignalBlind", "closestWords", "(Z)I"⟩, 12), (⟨"SignalBlind", "newSign", "(Z)I"⟩, 12), (⟨"SignalBlind", "leastApart", "(I)I"⟩, 12), (⟨"SignalBlind", "leastPassed", "(I)I"⟩, 12), (⟨"SignalBlind", "handedOn", "(I)I"⟩, 12), (⟨"SignalBlind", "nextOrder", "(I)Z"⟩, 12), (⟨"SignalBlind", "swapInOrder", "(II)V"⟩, 12), (⟨"SignalBlind", "addPair", "(LSignalBlind$Row;II)I"⟩, 12), (⟨"SignalBlind", "fitsSeen", "(III)Z"⟩, 12), (⟨"SignalBlindModel", "isSign", "(I)Z"⟩, 61), (⟨"SignalBlindModel", "in", "(III)Z"⟩, 61), (⟨"SignalBlindModel", "isWord", "(I)Z"⟩, 61), (⟨"SignalBlindModel", "isSender", "(I)Z"⟩, 61), (⟨"SignalBlindModel", "goesText", "(I)Z"⟩, 61)]
theorem lw_r2 : ∀ q ∈ lw_privs_2, lw_okq q := List.forall_mem_cons.mpr ⟨lw_p16, List.forall_mem_cons.mpr ⟨lw_p17, List.forall_mem_cons.mpr ⟨lw_p18, List.forall_mem_cons.mpr ⟨lw_p19, List.forall_mem_cons.mpr ⟨lw_p20, List.forall_mem_cons.mpr ⟨lw_p21, List.forall_mem_cons.mpr ⟨lw_p22, List.forall_mem_cons.mpr ⟨lw_p23, List.forall_mem_cons.mpr ⟨lw_p24, List.forall_mem_cons.mpr ⟨lw_p25, List.forall_mem_cons.mpr ⟨lw_p26, List.forall_mem_cons.mpr ⟨lw_p27, List.forall_mem_cons.mpr ⟨lw_p28, List.forall_mem_cons.mpr ⟨lw_p29, List.forall_mem_cons.mpr ⟨lw_p30, List.forall_mem_cons.mpr ⟨lw_p31, fun _ h => absurd h List.not_mem_nil⟩⟩⟩⟩⟩⟩⟩⟩⟩⟩⟩⟩⟩⟩⟩⟩
theorem lw_p32 : lw_okq (⟨"SignalBlindModel", "takesClause", "(I)Z"⟩, 61) := ⟨⟨by decide +kernel, by decide +kernel⟩, List.mem_of_getElem? (i := 994) (by decide +kernel), List.mem_of_getElem? (i := 1229) (by decide +kernel), List.mem_of_getElem? (i := 1230) (by decide +kernel)⟩
theorem lw_p33 : lw_okq (⟨"SignalBlindModel", "takesHead", "(I)Z"⟩, 61) := ⟨⟨by decide +kernel, by decide +kernel⟩, List.mem_of_getElem? (i := 994) (by decide +kernel), List.mem_of_getElem? (i := 1233) (by decide +kernel), List.mem_of_getElem? (i := 1234) (by decide +kernel)⟩
theorem lw_p34 : lw_okq (⟨"SignalBlindModel", "next", "()I"⟩, 61) := ⟨⟨by decide +kernel, by decide +kernel⟩, List.mem_of_getElem? (i := 994) (by decide +kernel), List.mem_of_getElem? (i := 1237) (by decide +kernel), List.mem_of_getElem? (i := 1238) (by decide +kernel)⟩
theorem lw_p35 : lw_okq (⟨"SignalBlindModel", "takesWord", "(II)Z"⟩, 61) := ⟨⟨by decide +kernel, by decide +kernel⟩, List.mem_of_getElem? (i := 994) (by decide +kernel), List.mem_of_getElem? (i := 1241) (by decide +kernel), List.mem_of_getElem? (i := 1242) (by decide +kernel)⟩
theorem lw_p36 : lw_okq (⟨"SignalBlindModel", "takes", "(I)Z"⟩, 61) := ⟨⟨by decide +kernel, by decide +kernel⟩, List.mem_of_getElem? (i := 994) (by decide +kernel), List.mem_of_getElem? (i := 1245) (by decide +kernel), List.mem_of_getElem? (i := 1246) (by decide +kernel)⟩
theorem lw_p37 : lw_okq (⟨"SignalBlindModel", "takesNumber", "()Z"⟩, 61) := ⟨⟨by decide +kernel, by decide +kernel⟩, List.mem_of_getElem? (i := 994) (by decide +kernel), List.mem_of_getElem? (i := 1249) (by decide +kernel), List.mem_of_getElem? (i := 1250) (by decide +kernel)⟩
theorem lw_p38 : lw_okq (⟨"SignalBlindModel", "isDigit", "()Z"⟩, 61) := ⟨⟨by decide +kernel, by decide +kernel⟩, List.mem_of_getElem? (i := 994) (by decide +kernel), List.mem_of_getElem? (i := 1253) (by decide +kernel), List.mem_of_getElem? (i := 1254) (by decide +kernel)⟩
theorem lw_p39 : lw_okq (⟨"SignalBlindModel", "takesE", "(I)Z"⟩, 61) := ⟨⟨by decide +kernel, by decide +kernel⟩, List.mem_of_getElem? (i := 994) (by decide +kernel), List.mem_of_getElem? (i := 1257) (by decide +kernel), List.mem_of_getElem? (i := 1258) (by decide +kernel)⟩
theorem lw_p40 : lw_okq (⟨"SignalBlindModel", "takesTest", "()Z"⟩, 61) := ⟨⟨by decide +kernel, by decide +kernel⟩, List.mem_of_getElem? (i := 994) (by decide +kernel), List.mem_of_getElem? (i := 1261) (by decide +kernel), List.mem_of_getElem? (i := 1262) (by decide +kernel)⟩
theorem lw_p41 : lw_okq (⟨"SignalBlindModel", "place", "(I)I"⟩, 61) := ⟨⟨by decide +kernel, by decide +kernel⟩, List.mem_of_getElem? (i := 994) (by decide +kernel), List.mem_of_getElem? (i := 1265) (by decide +kernel), List.mem_of_getElem? (i := 1266) (by decide +kernel)⟩
theorem lw_p42 : lw_okq (⟨"SignalBlindModel", "emits", "(I)V"⟩, 61) := ⟨⟨by decide +kernel, by decide +kernel⟩, List.mem_of_getElem? (i := 994) (by decide +kernel), List.mem_of_getElem? (i := 1269) (by decide +kernel), List.mem_of_getElem? (i := 1270) (by decide +kernel)⟩
theorem lw_p43 : lw_okq (⟨"SignalBlindModel", "whole", "()V"⟩, 61) := ⟨⟨by decide +kernel, by decide +kernel⟩, List.mem_of_getElem? (i := 994) (by decide +kernel), List.mem_of_getElem? (i := 1273) (by decide +kernel), List.mem_of_getElem? (i := 1274) (by decide +kernel)⟩
theorem lw_p44 : lw_okq (⟨"SignalBlindModel", "settle", "(I)V"⟩, 61) := ⟨⟨by decide +kernel, by decide +kernel⟩, List.mem_of_getElem? (i := 994) (by decide +kernel), List.mem_of_getElem? (i := 1277) (by decide +kernel), List.mem_of_getElem? (i := 1278) (by decide +kernel)⟩
theorem lw_p45 : lw_okq (⟨"SignalBlindModel", "through", "(I)I"⟩, 61) := ⟨⟨by decide +kernel, by decide +kernel⟩, List.mem_of_getElem? (i := 994) (by decide +kernel), List.mem_of_getElem? (i := 1285) (by decide +kernel), List.mem_of_getElem? (i := 1286) (by decide +kernel)⟩
theorem lw_p46 : lw_okq (⟨"SignalBlindModel", "isThrough", "(II)Z"⟩, 61) := ⟨⟨by decide +kernel, by decide +kernel⟩, List.mem_of_getElem? (i := 994) (by decide +kernel), List.mem_of_getElem? (i := 1289) (by decide +kernel), List.mem_of_getElem? (i := 1290) (by decide +kernel)⟩
theorem lw_p47 : lw_okq (⟨"SignalBlindModel", "showsOf", "(II)I"⟩, 61) := ⟨⟨by decide +kernel, by decide +kernel⟩, List.mem_of_getElem? (i := 994) (by decide +kernel), List.mem_of_getElem? (i := 1293) (by decide +kernel), List.mem_of_getElem? (i := 1294) (by decide +kernel)⟩
def lw_privs_3 : List (MethodName × Nat) := [(⟨"SignalBlindModel", "takesClause", "(I)Z"⟩, 61), (⟨"SignalBlindModel", "takesHead", "(I)Z"⟩, 61), (⟨"SignalBlindModel", "next", "()I"⟩, 61), (⟨"SignalBlindModel", "takesWord", "(II)Z"⟩, 61), (⟨"SignalBlindModel", "takes", "(I)Z"⟩, 61), (⟨"SignalBlindModel", "takesNumber", "()Z"⟩, 61), (⟨"SignalBlindModel", "isDigit", "()Z"⟩, 61), (⟨"SignalBlindModel", "takesE", "(I)Z"⟩, 61), (⟨"SignalBlindModel", "takesTest", "()Z"⟩, 61), (⟨"SignalBlindModel", "place", "(I)I"⟩, 61), (⟨"SignalBlindModel", "emits", "(I)V"⟩, 61), (⟨"SignalBlindModel", "whole", "()V"⟩, 61), (⟨"SignalBlindModel", "settle", "(I)V"⟩, 61), (⟨"SignalBlindModel", "through", "(I)I"⟩, 61), (⟨"SignalBlindModel", "isThrough", "(II)Z"⟩, 61), (⟨"SignalBlindModel", "showsOf", "(II)I"⟩, 61)]
theorem lw_r3 : ∀ q ∈ lw_privs_3, lw_okq q := List.forall_mem_cons.mpr ⟨lw_p32, List.forall_mem_cons.mpr ⟨lw_p33, List.forall_mem_cons.mpr ⟨lw_p34, List.forall_mem_cons.mpr ⟨lw_p35, List.forall_mem_cons.mpr ⟨lw_p36, List.forall_mem_cons.mpr ⟨lw_p37, List.forall_mem_cons.mpr ⟨lw_p38, List.forall_mem_cons.mpr ⟨lw_p39, List.forall_mem_cons.mpr ⟨lw_p40, List.forall_mem_cons.mpr ⟨lw_p41, List.forall_mem_cons.mpr ⟨lw_p42, List.forall_mem_cons.mpr ⟨lw_p43, List.forall_mem_cons.mpr ⟨lw_p44, List.forall_mem_cons.mpr ⟨lw_p45, List.forall_mem_cons.mpr ⟨lw_p46, List.forall_mem_cons.mpr ⟨lw_p47, fun _ h => absurd h List.not_mem_nil⟩⟩⟩⟩⟩⟩⟩⟩⟩⟩⟩⟩⟩⟩⟩⟩
theorem lw_p48 : lw_okq (⟨"SignalBlindModel", "blind", "(II)I"⟩, 61) := ⟨⟨by decide +kernel, by decide +kernel⟩, List.mem_of_getElem? (i := 994) (by decide +kernel), List.mem_of_getElem? (i := 1297) (by decide +kernel), List.mem_of_getElem? (i := 1298) (by decide +kernel)⟩
theorem lw_p49 : lw_okq (⟨"SignalBlindModel", "begin", "()I"⟩, 61) := ⟨⟨by decide +kernel, by decide +kernel⟩, List.mem_of_getElem? (i := 994) (by decide +kernel), List.mem_of_getElem? (i := 1301) (by decide +kernel), List.mem_of_getElem? (i := 1302) (by decide +kernel)⟩
theorem lw_p50 : lw_okq (⟨"SignalBlindModel", "behind", "()I"⟩, 61) := ⟨⟨by decide +kernel, by decide +kernel⟩, List.mem_of_getElem? (i := 994) (by decide +kernel), List.mem_of_getElem? (i := 1305) (by decide +kernel), List.mem_of_getElem? (i := 1306) (by decide +kernel)⟩
theorem lw_p51 : lw_okq (⟨"SignalBlindModel", "holds", "(III)Z"⟩, 61) := ⟨⟨by decide +kernel, by decide +kernel⟩, List.mem_of_getElem? (i := 994) (by decide +kernel), List.mem_of_getElem? (i := 1309) (by decide +kernel), List.mem_of_getElem? (i := 1310) (by decide +kernel)⟩
theorem lw_p52 : lw_okq (⟨"SignalBlindModel", "factOf", "(III)I"⟩, 61) := ⟨⟨by decide +kernel, by decide +kernel⟩, List.mem_of_getElem? (i := 994) (by decide +kernel), List.mem_of_getElem? (i := 1313) (by decide +kernel), List.mem_of_getElem? (i := 1314) (by decide +kernel)⟩
theorem lw_p53 : lw_okq (⟨"SignalBlindModel", "bits", "(I)I"⟩, 61) := ⟨⟨by decide +kernel, by decide +kernel⟩, List.mem_of_getElem? (i := 994) (by decide +kernel), List.mem_of_getElem? (i := 1317) (by decide +kernel), List.mem_of_getElem? (i := 1318) (by decide +kernel)⟩
theorem lw_p54 : lw_okq (⟨"SignalBlindModel", "has", "(II)Z"⟩, 61) := ⟨⟨by decide +kernel, by decide +kernel⟩, List.mem_of_getElem? (i := 994) (by decide +kernel), List.mem_of_getElem? (i := 1321) (by decide +kernel), List.mem_of_getElem? (i := 1322) (by decide +kernel)⟩
theorem lw_p55 : lw_okq (⟨"SignalBlindModel", "turned", "(II)I"⟩, 61) := ⟨⟨by decide +kernel, by decide +kernel⟩, List.mem_of_getElem? (i := 994) (by decide +kernel), List.mem_of_getElem? (i := 1325) (by decide +kernel), List.mem_of_getElem? (i := 1326) (by decide +kernel)⟩
theorem lw_p56 : lw_okq (⟨"SignalBlindModel", "mirrored", "(I)I"⟩, 61) := ⟨⟨by decide +kernel, by decide +kernel⟩, List.mem_of_getElem? (i := 994) (by decide +kernel), List.mem_of_getElem? (i := 1329) (by decide +kernel), List.mem_of_getElem? (i := 1330) (by decide +kernel)⟩
theorem lw_p57 : lw_okq (⟨"SignalBlindModel", "readOf", "(I)I"⟩, 61) := ⟨⟨by decide +kernel, by decide +kernel⟩, List.mem_of_getElem? (i := 994) (by decide +kernel), List.mem_of_getElem? (i := 1333) (by decide +kernel), List.mem_of_getElem? (i := 1334) (by decide +kernel)⟩
theorem lw_p58 : lw_okq (⟨"SignalBlindModel", "near", "()I"⟩, 61) := ⟨⟨by decide +kernel, by decide +kernel⟩, List.mem_of_getElem? (i := 994) (by decide +kernel), List.mem_of_getElem? (i := 1337) (by decide +kernel), List.mem_of_getElem? (i := 1338) (by decide +kernel)⟩
theorem lw_p59 : lw_okq (⟨"SignalBlindModel", "clear", "(I)I"⟩, 61) := ⟨⟨by decide +kernel, by decide +kernel⟩, List.mem_of_getElem? (i := 994) (by decide +kernel), List.mem_of_getElem? (i := 1341) (by decide +kernel), List.mem_of_getElem? (i := 1342) (by decide +kernel)⟩
theorem lw_p60 : lw_okq (⟨"SignalBlindModel", "wordsApart", "(Z)I"⟩, 61) := ⟨⟨by decide +kernel, by decide +kernel⟩, List.mem_of_getElem? (i := 994) (by decide +kernel), List.mem_of_getElem? (i := 1361) (by decide +kernel), List.mem_of_getElem? (i := 1362) (by decide +kernel)⟩
theorem lw_p61 : lw_okq (⟨"SignalBlindModel", "newSign", "()I"⟩, 61) := ⟨⟨by decide +kernel, by decide +kernel⟩, List.mem_of_getElem? (i := 994) (by decide +kernel), List.mem_of_getElem? (i := 1365) (by decide +kernel), List.mem_of_getElem? (i := 1366) (by decide +kernel)⟩
theorem lw_p62 : lw_okq (⟨"SignalBlindModel", "leastApart", "(I)I"⟩, 61) := ⟨⟨by decide +kernel, by decide +kernel⟩, List.mem_of_getElem? (i := 994) (by decide +kernel), List.mem_of_getElem? (i := 1369) (by decide +kernel), List.mem_of_getElem? (i := 1370) (by decide +kernel)⟩
theorem lw_p63 : lw_okq (⟨"SignalBlindModel", "layTurn", "(I)Z"⟩, 61) := ⟨⟨by decide +kernel, by decide +kernel⟩, List.mem_of_getElem? (i := 994) (by decide +kernel), List.mem_of_getElem? (i := 1397) (by decide +kernel), List.mem_of_getElem? (i := 1398) (by decide +kernel)⟩
def lw_privs_4 : List (MethodName × Nat) := [(⟨"SignalBlindModel", "blind", "(II)I"⟩, 61), (⟨"SignalBlindModel", "begin", "()I"⟩, 61), (⟨"SignalBlindModel", "behind", "()I"⟩, 61), (⟨"SignalBlindModel", "holds", "(III)Z"⟩, 61), (⟨"SignalBlindModel", "factOf", "(III)I"⟩, 61), (⟨"SignalBlindModel", "bits", "(I)I"⟩, 61), (⟨"SignalBlindModel", "has", "(II)Z"⟩, 61), (⟨"SignalBlindModel", "turned", "(II)I"⟩, 61), (⟨"SignalBlindModel", "mirrored", "(I)I"⟩, 61), (⟨"SignalBlindModel", "readOf", "(I)I"⟩, 61), (⟨"SignalBlindModel", "near", "()I"⟩, 61), (⟨"SignalBlindModel", "clear", "(I)I"⟩, 61), (⟨"SignalBlindModel", "wordsApart", "(Z)I"⟩, 61), (⟨"SignalBlindModel", "newSign", "()I"⟩, 61), (⟨"SignalBlindModel", "leastApart", "(I)I"⟩, 61), (⟨"SignalBlindModel", "layTurn", "(I)Z"⟩, 61)]
theorem lw_r4 : ∀ q ∈ lw_privs_4, lw_okq q := List.forall_mem_cons.mpr ⟨lw_p48, List.forall_mem_cons.mpr ⟨lw_p49, List.forall_mem_cons.mpr ⟨lw_p50, List.forall_mem_cons.mpr ⟨lw_p51, List.forall_mem_cons.mpr ⟨lw_p52, List.forall_mem_cons.mpr ⟨lw_p53, List.forall_mem_cons.mpr ⟨lw_p54, List.forall_mem_cons.mpr ⟨lw_p55, List.forall_mem_cons.mpr ⟨lw_p56, List.forall_mem_cons.mpr ⟨lw_p57, List.forall_mem_cons.mpr ⟨lw_p58, List.forall_mem_cons.mpr ⟨lw_p59, List.forall_mem_cons.mpr ⟨lw_p60, List.forall_mem_cons.mpr ⟨lw_p61, List.forall_mem_cons.mpr ⟨lw_p62, List.forall_mem_cons.mpr ⟨lw_p63, fun _ h => absurd h List.not_mem_nil⟩⟩⟩⟩⟩⟩⟩⟩⟩⟩⟩⟩⟩⟩⟩⟩
theorem lw_p64 : lw_okq (⟨"SignalBlindModel", "isSeen", "(I)Z"⟩, 61) := ⟨⟨by decide +kernel, by decide +kernel⟩, List.mem_of_getElem? (i := 994) (by decide +kernel), List.mem_of_getElem? (i := 1409) (by decide +kernel), List.mem_of_getElem? (i := 1410) (by decide +kernel)⟩
theorem lw_p65 : lw_okq (⟨"SignalBlindModel", "lowest", "(III)J"⟩, 61) := ⟨⟨by decide +kernel, by decide +kernel⟩, List.mem_of_getElem? (i := 994) (by decide +kernel), List.mem_of_getElem? (i := 1422) (by decide +kernel), List.mem_of_getElem? (i := 1423) (by decide +kernel)⟩
theorem lw_p66 : lw_okq (⟨"SignalBlindModel", "divisor", "(II)I"⟩, 61) := ⟨⟨by decide +kernel, by decide +kernel⟩, List.mem_of_getElem? (i := 994) (by decide +kernel), List.mem_of_getElem? (i := 1426) (by decide +kernel), List.mem_of_getElem? (i := 1427) (by decide +kernel)⟩
theorem lw_p67 : lw_okq (⟨"SignalBlindModel", "isTape", "(I)Z"⟩, 61) := ⟨⟨by decide +kernel, by decide +kernel⟩, List.mem_of_getElem? (i := 994) (by decide +kernel), List.mem_of_getElem? (i := 1454) (by decide +kernel), List.mem_of_getElem? (i := 1455) (by decide +kernel)⟩
theorem lw_p68 : lw_okq (⟨"SignalBlindModel", "tiltsAct", "(II)I"⟩, 61) := ⟨⟨by decide +kernel, by decide +kernel⟩, List.mem_of_getElem? (i := 994) (by decide +kernel), List.mem_of_getElem? (i := 1470) (by decide +kernel), List.mem_of_getElem? (i := 1471) (by decide +kernel)⟩
theorem lw_p69 : lw_okq (⟨"SignalBlindModel", "body", "(I)V"⟩, 61) := ⟨⟨by decide +kernel, by decide +kernel⟩, List.mem_of_getElem? (i := 994) (by decide +kernel), List.mem_of_getElem? (i := 1474) (by decide +kernel), List.mem_of_getElem? (i := 1475) (by decide +kernel)⟩
theorem lw_p70 : lw_okq (⟨"SignalBlindModel", "senderTilts", "(II)I"⟩, 61) := ⟨⟨by decide +kernel, by decide +kernel⟩, List.mem_of_getElem? (i := 994) (by decide +kernel), List.mem_of_getElem? (i := 1478) (by decide +kernel), List.mem_of_getElem? (i := 1479) (by decide +kernel)⟩
theorem lw_p71 : lw_okq (⟨"SignalBlindModel", "sendsAct", "(II)I"⟩, 61) := ⟨⟨by decide +kernel, by decide +kernel⟩, List.mem_of_getElem? (i := 994) (by decide +kernel), List.mem_of_getElem? (i := 1482) (by decide +kernel), List.mem_of_getElem? (i := 1483) (by decide +kernel)⟩
theorem lw_p72 : lw_okq (⟨"SignalBlindModel", "tiltedSends", "(II)I"⟩, 61) := ⟨⟨by decide +kernel, by decide +kernel⟩, List.mem_of_getElem? (i := 994) (by decide +kernel), List.mem_of_getElem? (i := 1486) (by decide +kernel), List.mem_of_getElem? (i := 1487) (by decide +kernel)⟩
theorem lw_p73 : lw_okq (⟨"SignalBlindModel", "senderSends", "(II)I"⟩, 61) := ⟨⟨by decide +kernel, by decide +kernel⟩, List.mem_of_getElem? (i := 994) (by decide +kernel), List.mem_of_getElem? (i := 1490) (by decide +kernel), List.mem_of_getElem? (i := 1491) (by decide +kernel)⟩
theorem lw_p74 : lw_okq (⟨"SignalBlindModel", "tellsAct", "(II)I"⟩, 61) := ⟨⟨by decide +kernel, by decide +kernel⟩, List.mem_of_getElem? (i := 994) (by decide +kernel), List.mem_of_getElem? (i := 1494) (by decide +kernel), List.mem_of_getElem? (i := 1495) (by decide +kernel)⟩
theorem lw_p75 : lw_okq (⟨"SignalBlindModel", "senderTells", "(II)I"⟩, 61) := ⟨⟨by decide +kernel, by decide +kernel⟩, List.mem_of_getElem? (i := 994) (by decide +kernel), List.mem_of_getElem? (i := 1498) (by decide +kernel), List.mem_of_getElem? (i := 1499) (by decide +kernel)⟩
theorem lw_p76 : lw_okq (⟨"SignalBlindModel", "narrow", "(IJ)J"⟩, 61) := ⟨⟨by decide +kernel, by decide +kernel⟩, List.mem_of_getElem? (i := 994) (by decide +kernel), List.mem_of_getElem? (i := 1522) (by decide +kernel), List.mem_of_getElem? (i := 1523) (by decide +kernel)⟩
def lw_privs_5 : List (MethodName × Nat) := [(⟨"SignalBlindModel", "isSeen", "(I)Z"⟩, 61), (⟨"SignalBlindModel", "lowest", "(III)J"⟩, 61), (⟨"SignalBlindModel", "divisor", "(II)I"⟩, 61), (⟨"SignalBlindModel", "isTape", "(I)Z"⟩, 61), (⟨"SignalBlindModel", "tiltsAct", "(II)I"⟩, 61), (⟨"SignalBlindModel", "body", "(I)V"⟩, 61), (⟨"SignalBlindModel", "senderTilts", "(II)I"⟩, 61), (⟨"SignalBlindModel", "sendsAct", "(II)I"⟩, 61), (⟨"SignalBlindModel", "tiltedSends", "(II)I"⟩, 61), (⟨"SignalBlindModel", "senderSends", "(II)I"⟩, 61), (⟨"SignalBlindModel", "tellsAct", "(II)I"⟩, 61), (⟨"SignalBlindModel", "senderTells", "(II)I"⟩, 61), (⟨"SignalBlindModel", "narrow", "(IJ)J"⟩, 61)]
theorem lw_r5 : ∀ q ∈ lw_privs_5, lw_okq q := List.forall_mem_cons.mpr ⟨lw_p64, List.forall_mem_cons.mpr ⟨lw_p65, List.forall_mem_cons.mpr ⟨lw_p66, List.forall_mem_cons.mpr ⟨lw_p67, List.forall_mem_cons.mpr ⟨lw_p68, List.forall_mem_cons.mpr ⟨lw_p69, List.forall_mem_cons.mpr ⟨lw_p70, List.forall_mem_cons.mpr ⟨lw_p71, List.forall_mem_cons.mpr ⟨lw_p72, List.forall_mem_cons.mpr ⟨lw_p73, List.forall_mem_cons.mpr ⟨lw_p74, List.forall_mem_cons.mpr ⟨lw_p75, List.forall_mem_cons.mpr ⟨lw_p76, fun _ h => absurd h List.not_mem_nil⟩⟩⟩⟩⟩⟩⟩⟩⟩⟩⟩⟩⟩
def lw_privs : List (MethodName × Nat) := lw_privs_1 ++ (lw_privs_2 ++ (lw_privs_3 ++ (lw_privs_4 ++ (lw_privs_5))))
def lw_tbl : List Cond := k2_sels lw_privs ++ tables_1
theorem lw_privs_ok : ∀ q ∈ lw_privs, lw_okq q := by
  show ∀ q ∈ lw_privs_1 ++ (lw_privs_2 ++ (lw_privs_3 ++ (lw_privs_4 ++ (lw_privs_5)))), lw_okq q
  exact List.forall_mem_append.mpr ⟨lw_r1, List.forall_mem_append.mpr ⟨lw_r2, List.forall_mem_append.mpr ⟨lw_r3, List.forall_mem_append.mpr ⟨lw_r4, lw_r5⟩⟩⟩⟩
-- ===== end of PART A; then your names; then what follows =====
/-! ===== BEGIN words of one list among another's, by their places ===== -/
theorem goodIn_r {big : List Cond} (ws : List Cond) (ps : List Nat) (hp : ws = ps.filterMap (fun i => big[i]?)) (h : ws.all goodWord = true) : GoodIn big ws := by
  intro w hw
  have h1 := List.all_eq_true.mp h w hw
  rw [hp] at hw
  obtain ⟨i, -, hi⟩ := List.mem_filterMap.mp hw
  have hm : w ∈ big := by first | exact List.mem_of_getElem? hi | exact List.getElem?_mem hi
  exact ⟨hm, good_of_word h1⟩
theorem goodIn_app {big a b : List Cond} (ha : GoodIn big a) (hb : GoodIn big b) : GoodIn big (a ++ b) := fun w h => (List.mem_append.mp h).elim (ha w) (hb w)
theorem goodIn_ca {big a b : List Cond} {c : Cond} (ha : GoodIn big (c :: a)) (hb : GoodIn big b) : GoodIn big (c :: (a ++ b)) := fun w h => (List.mem_cons.mp h).elim (fun e => ha w (List.mem_cons.mpr (Or.inl e))) (fun h => (List.mem_append.mp h).elim (fun h => ha w (List.mem_cons.mpr (Or.inr h))) (hb w))
theorem goodIn_sub {big ws : List Cond} (hm : ∀ w ∈ ws, w ∈ big) (h : ws.all goodWord = true) : GoodIn big ws := fun w hw => ⟨hm w hw, good_of_word (List.all_eq_true.mp h w hw)⟩
/-! ===== END ===== -/

/-! ===== BEGIN printed: names, fields, word lists, decode rows ===== -/
def RX0 : String := "SignalBlind$Half"
def TX0 : u_T := fun k => match k with
  | 0 => ("SignalBlind$Sender", "number", "I", true)
  | 1 => ("SignalBlind$Sender", "kind", "I", true)
  | _ => ("SignalBlind$Sender", "v", "I", true)
def tyX0 : Nat → FieldType := fun k => match k with
  | 0 => .int
  | 1 => .int
  | _ => .int
abbrev wsX00 : List Cond := u_ws RX0 TX0 3
theorem nmX0 : ∀ a, a < 3 → ∀ b, b < 3 → a ≠ b → (TX0 a).2.1 ≠ (TX0 b).2.1 := by decide +kernel
theorem tyX0_ok : ∀ k, k < 3 → parseFieldDescriptor (TX0 k).2.2.1 = some (tyX0 k) := by decide +kernel
abbrev cX0_init : ByteArray := prog_2_method_1_code
def yX0_init : MethodName := ⟨RX0, "<init>", "(III)V"⟩
abbrev cX0_showing : ByteArray := prog_2_method_2_code
def yX0_showing : MethodName := ⟨RX0, "showing", "(IIII)I"⟩
abbrev cX0_tilts : ByteArray := prog_2_method_3_code
def yX0_tilts : MethodName := ⟨RX0, "tilts", "(ILjava/lang/StringBuilder;)I"⟩
def RX1 : String := "SignalBlind$Nurse"
def TX1 : u_T := fun k => match k with
  | 0 => ("SignalBlind$Sender", "number", "I", true)
  | 1 => ("SignalBlind$Sender", "kind", "I", true)
  | _ => ("SignalBlind$Sender", "v", "I", true)
def tyX1 : Nat → FieldType := fun k => match k with
  | 0 => .int
  | 1 => .int
  | _ => .int
abbrev wsX10 : List Cond := u_ws RX1 TX1 3
theorem nmX1 : ∀ a, a < 3 → ∀ b, b < 3 → a ≠ b → (TX1 a).2.1 ≠ (TX1 b).2.1 := by decide +kernel
theorem tyX1_ok : ∀ k, k < 3 → parseFieldDescriptor (TX1 k).2.2.1 = some (tyX1 k) := by decide +kernel
abbrev cX1_init : ByteArray := prog_3_method_1_code
def yX1_init : MethodName := ⟨RX1, "<init>", "(III)V"⟩
abbrev cX1_showing : ByteArray := prog_3_method_2_code
def yX1_showing : MethodName := ⟨RX1, "showing", "(IIII)I"⟩
abbrev cX1_tells : ByteArray := prog_3_method_3_code
def yX1_tells : MethodName := ⟨RX1, "tells", "(ILjava/lang/StringBuilder;)I"⟩
def RX2 : String := "SignalBlind$Row"
def TX2 : u_T := fun k => match k with
  | 0 => ("SignalBlind$Row", "items", "[I", true)
  | _ => ("SignalBlind$Row", "count", "I", false)
def tyX2 : Nat → FieldType := fun k => match k with
  | 0 => .array .int
  | _ => .int
abbrev wsX20 : List Cond := u_ws RX2 TX2 2
theorem nmX2 : ∀ a, a < 2 → ∀ b, b < 2 → a ≠ b → (TX2 a).2.1 ≠ (TX2 b).2.1 := by decide +kernel
theorem tyX2_ok : ∀ k, k < 2 → parseFieldDescriptor (TX2 k).2.2.1 = some (tyX2 k) := by decide +kernel
abbrev cX2_init : ByteArray := prog_4_method_1_code
def yX2_init : MethodName := ⟨RX2, "<init>", "(I)V"⟩
abbrev cX2_isFull : ByteArray := prog_4_method_2_code
def yX2_isFull : MethodName := ⟨RX2, "isFull", "()Z"⟩
abbrev cX2_add : ByteArray := prog_4_method_3_code
def yX2_add : MethodName := ⟨RX2, "add", "(I)I"⟩
abbrev cX2_get : ByteArray := prog_4_method_4_code
def yX2_get : MethodName := ⟨RX2, "get", "(I)I"⟩
abbrev cX2_set : ByteArray := prog_4_method_5_code
def yX2_set : MethodName := ⟨RX2, "set", "(II)V"⟩
abbrev cX2_clear : ByteArray := prog_4_method_6_code
def yX2_clear : MethodName := ⟨RX2, "clear", "()V"⟩
abbrev cX2_become : ByteArray := prog_4_method_7_code
def yX2_become : MethodName := ⟨RX2, "become", "(LSignalBlind$Row;)V"⟩
def RX3 : String := "SignalBlind$Scene"
def TX3 : u_T := fun k => match k with
  | 0 => ("SignalBlind$Scene", "words", "LSignalBlind$Row;", true)
  | 1 => ("SignalBlind$Scene", "senders", "[LSignalBlind$Sender;", true)
  | 2 => ("SignalBlind$Scene", "senderCount", "I", false)
  | 3 => ("SignalBlind$Scene", "sent", "[I", true)
  | 4 => ("SignalBlind$Scene", "rows", "[I", true)
  | 5 => ("SignalBlind$Scene", "hour", "I", false)
  | 6 => ("SignalBlind$Scene", "seen", "LSignalBlind$Row;", true)
  | 7 => ("SignalBlind$Scene", "relay", "LSignalBlind$Row;", true)
  | 8 => ("SignalBlind$Scene", "book", "LSignalBlind$Row;", true)
  | _ => ("SignalBlind$Scene", "ward", "LSignalBlind$Ward;", false)
def tyX3 : Nat → FieldType := fun k => match k with
  | 0 => .object "SignalBlind$Row"
  | 1 => .array (.object "SignalBlind$Sender")
  | 2 => .int
  | 3 => .array .int
  | 4 => .array .int
  | 5 => .int
  | 6 => .object "SignalBlind$Row"
  | 7 => .object "SignalBlind$Row"
  | 8 => .object "SignalBlind$Row"
  | _ => .object "SignalBlind$Ward"
abbrev wsX30 : List Cond := u_ws RX3 TX3 10
theorem nmX3 : ∀ a, a < 10 → ∀ b, b < 10 → a ≠ b → (TX3 a).2.1 ≠ (TX3 b).2.1 := by decide +kernel
theorem tyX3_ok : ∀ k, k < 10 → parseFieldDescriptor (TX3 k).2.2.1 = some (tyX3 k) := by decide +kernel
abbrev cX3_init : ByteArray := prog_5_method_1_code
def yX3_init : MethodName := ⟨RX3, "<init>", "()V"⟩
abbrev cX3_join : ByteArray := prog_5_method_2_code
def yX3_join : MethodName := ⟨RX3, "join", "(LSignalBlind$Sender;)I"⟩
abbrev cX3_become : ByteArray := prog_5_method_3_code
def yX3_become : MethodName := ⟨RX3, "become", "(LSignalBlind$Scene;)V"⟩
def RX4 : String := "SignalBlind$Sender"
def TX4 : u_T := fun k => match k with
  | 0 => ("SignalBlind$Sender", "number", "I", true)
  | 1 => ("SignalBlind$Sender", "kind", "I", true)
  | _ => ("SignalBlind$Sender", "v", "I", true)
def tyX4 : Nat → FieldType := fun k => match k with
  | 0 => .int
  | 1 => .int
  | _ => .int
abbrev wsX40 : List Cond := u_ws RX4 TX4 3
theorem nmX4 : ∀ a, a < 3 → ∀ b, b < 3 → a ≠ b → (TX4 a).2.1 ≠ (TX4 b).2.1 := by decide +kernel
theorem tyX4_ok : ∀ k, k < 3 → parseFieldDescriptor (TX4 k).2.2.1 = some (tyX4 k) := by decide +kernel
abbrev cX4_init : ByteArray := prog_6_method_1_code
def yX4_init : MethodName := ⟨RX4, "<init>", "(III)V"⟩
abbrev cX4_showing : ByteArray := prog_6_method_2_code
def yX4_showing : MethodName := ⟨RX4, "showing", "(IIII)I"⟩
abbrev cX4_tilts : ByteArray := prog_6_method_3_code
def yX4_tilts : MethodName := ⟨RX4, "tilts", "(ILjava/lang/StringBuilder;)I"⟩
abbrev cX4_sends : ByteArray := prog_6_method_4_code
def yX4_sends : MethodName := ⟨RX4, "sends", "(ILjava/lang/StringBuilder;)I"⟩
abbrev cX4_tells : ByteArray := prog_6_method_5_code
def yX4_tells : MethodName := ⟨RX4, "tells", "(ILjava/lang/StringBuilder;)I"⟩
def RX5 : String := "SignalBlind$Sister"
def TX5 : u_T := fun k => match k with
  | 0 => ("SignalBlind$Sender", "number", "I", true)
  | 1 => ("SignalBlind$Sender", "kind", "I", true)
  | _ => ("SignalBlind$Sender", "v", "I", true)
def tyX5 : Nat → FieldType := fun k => match k with
  | 0 => .int
  | 1 => .int
  | _ => .int
abbrev wsX50 : List Cond := u_ws RX5 TX5 3
theorem nmX5 : ∀ a, a < 3 → ∀ b, b < 3 → a ≠ b → (TX5 a).2.1 ≠ (TX5 b).2.1 := by decide +kernel
theorem tyX5_ok : ∀ k, k < 3 → parseFieldDescriptor (TX5 k).2.2.1 = some (tyX5 k) := by decide +kernel
abbrev cX5_init : ByteArray := prog_7_method_1_code
def yX5_init : MethodName := ⟨RX5, "<init>", "(III)V"⟩
abbrev cX5_showing : ByteArray := prog_7_method_2_code
def yX5_showing : MethodName := ⟨RX5, "showing", "(IIII)I"⟩
abbrev cX5_tilts : ByteArray := prog_7_method_3_code
def yX5_tilts : MethodName := ⟨RX5, "tilts", "(ILjava/lang/StringBuilder;)I"⟩
abbrev cX5_sends : ByteArray := prog_7_method_4_code
def yX5_sends : MethodName := ⟨RX5, "sends", "(ILjava/lang/StringBuilder;)I"⟩
def RX6 : String := "SignalBlind$Tape"
def TX6 : u_T := fun k => match k with
  | 0 => ("SignalBlind$Tape", "items", "[J", true)
  | 1 => ("SignalBlind$Tape", "sort", "I", false)
  | _ => ("SignalBlind$Tape", "length", "I", false)
def tyX6 : Nat → FieldType := fun k => match k with
  | 0 => .array .long
  | 1 => .int
  | _ => .int
abbrev wsX60 : List Cond := u_ws RX6 TX6 3
theorem nmX6 : ∀ a, a < 3 → ∀ b, b < 3 → a ≠ b → (TX6 a).2.1 ≠ (TX6 b).2.1 := by decide +kernel
theorem tyX6_ok : ∀ k, k < 3 → parseFieldDescriptor (TX6 k).2.2.1 = some (tyX6 k) := by decide +kernel
abbrev cX6_init : ByteArray := prog_8_method_1_code
def yX6_init : MethodName := ⟨RX6, "<init>", "()V"⟩
abbrev cX6_blank : ByteArray := prog_8_method_2_code
def yX6_blank : MethodName := ⟨RX6, "blank", "(II)V"⟩
abbrev cX6_has : ByteArray := prog_8_method_3_code
def yX6_has : MethodName := ⟨RX6, "has", "(I)Z"⟩
abbrev cX6_hasSpan : ByteArray := prog_8_method_4_code
def yX6_hasSpan : MethodName := ⟨RX6, "hasSpan", "(II)Z"⟩
abbrev cX6_narrowed : ByteArray := prog_8_method_5_code
def yX6_narrowed : MethodName := ⟨RX6, "narrowed", "(IJ)J"⟩
def RX7 : String := "SignalBlind$Tilted"
def TX7 : u_T := fun k => match k with
  | 0 => ("SignalBlind$Sender", "number", "I", true)
  | 1 => ("SignalBlind$Sender", "kind", "I", true)
  | _ => ("SignalBlind$Sender", "v", "I", true)
def tyX7 : Nat → FieldType := fun k => match k with
  | 0 => .int
  | 1 => .int
  | _ => .int
abbrev wsX70 : List Cond := u_ws RX7 TX7 3
theorem nmX7 : ∀ a, a < 3 → ∀ b, b < 3 → a ≠ b → (TX7 a).2.1 ≠ (TX7 b).2.1 := by decide +kernel
theorem tyX7_ok : ∀ k, k < 3 → parseFieldDescriptor (TX7 k).2.2.1 = some (tyX7 k) := by decide +kernel
abbrev cX7_init : ByteArray := prog_9_method_1_code
def yX7_init : MethodName := ⟨RX7, "<init>", "(III)V"⟩
abbrev cX7_showing : ByteArray := prog_9_method_2_code
def yX7_showing : MethodName := ⟨RX7, "showing", "(IIII)I"⟩
abbrev cX7_sends : ByteArray := prog_9_method_3_code
def yX7_sends : MethodName := ⟨RX7, "sends", "(ILjava/lang/StringBuilder;)I"⟩
def RX8 : String := "SignalBlind$Told"
def TX8 : u_T := fun k => match k with
  | 0 => ("SignalBlind$Sender", "number", "I", true)
  | 1 => ("SignalBlind$Sender", "kind", "I", true)
  | _ => ("SignalBlind$Sender", "v", "I", true)
def tyX8 : Nat → FieldType := fun k => match k with
  | 0 => .int
  | 1 => .int
  | _ => .int
abbrev wsX80 : List Cond := u_ws RX8 TX8 3
theorem nmX8 : ∀ a, a < 3 → ∀ b, b < 3 → a ≠ b → (TX8 a).2.1 ≠ (TX8 b).2.1 := by decide +kernel
theorem tyX8_ok : ∀ k, k < 3 → parseFieldDescriptor (TX8 k).2.2.1 = some (tyX8 k) := by decide +kernel
abbrev cX8_init : ByteArray := prog_10_method_1_code
def yX8_init : MethodName := ⟨RX8, "<init>", "(III)V"⟩
abbrev cX8_showing : ByteArray := prog_10_method_2_code
def yX8_showing : MethodName := ⟨RX8, "showing", "(IIII)I"⟩
abbrev cX8_sends : ByteArray := prog_10_method_3_code
def yX8_sends : MethodName := ⟨RX8, "sends", "(ILjava/lang/StringBuilder;)I"⟩
abbrev cX8_tilts : ByteArray := prog_10_method_4_code
def yX8_tilts : MethodName := ⟨RX8, "tilts", "(ILjava/lang/StringBuilder;)I"⟩
def RX9 : String := "SignalBlind$Ward"
def TX9 : u_T := fun k => match k with
  | 0 => ("SignalBlind$Ward", "verbs", "[I", true)
  | 1 => ("SignalBlind$Ward", "numbers", "[I", true)
  | 2 => ("SignalBlind$Ward", "ends", "[I", true)
  | 3 => ("SignalBlind$Ward", "clauses", "I", false)
  | 4 => ("SignalBlind$Ward", "steps", "[I", true)
  | 5 => ("SignalBlind$Ward", "stepCount", "I", false)
  | 6 => ("SignalBlind$Ward", "near", "I", false)
  | 7 => ("SignalBlind$Ward", "text", "LSignalBlind$Row;", false)
  | _ => ("SignalBlind$Ward", "at", "I", false)
def tyX9 : Nat → FieldType := fun k => match k with
  | 0 => .array .int
  | 1 => .array .int
  | 2 => .array .int
  | 3 => .int
  | 4 => .array .int
  | 5 => .int
  | 6 => .int
  | 7 => .object "SignalBlind$Row"
  | _ => .int
abbrev wsX90 : List Cond := u_ws RX9 TX9 9
theorem nmX9 : ∀ a, a < 9 → ∀ b, b < 9 → a ≠ b → (TX9 a).2.1 ≠ (TX9 b).2.1 := by decide +kernel
theorem tyX9_ok : ∀ k, k < 9 → parseFieldDescriptor (TX9 k).2.2.1 = some (tyX9 k) := by decide +kernel
abbrev cX9_init : ByteArray := prog_11_method_1_code
def yX9_init : MethodName := ⟨RX9, "<init>", "()V"⟩
abbrev cX9_parse : ByteArray := prog_11_method_2_code
def yX9_parse : MethodName := ⟨RX9, "parse", "(LSignalBlind$Row;)I"⟩
abbrev cX9_clause : ByteArray := prog_11_method_3_code
def yX9_clause : MethodName := ⟨RX9, "clause", "()Z"⟩
abbrev cX9_either : ByteArray := prog_11_method_4_code
def yX9_either : MethodName := ⟨RX9, "either", "(I)Z"⟩
abbrev cX9_both : ByteArray := prog_11_method_5_code
def yX9_both : MethodName := ⟨RX9, "both", "(I)Z"⟩
abbrev cX9_single : ByteArray := prog_11_method_6_code
def yX9_single : MethodName := ⟨RX9, "single", "(I)Z"⟩
abbrev cX9_number : ByteArray := prog_11_method_7_code
def yX9_number : MethodName := ⟨RX9, "number", "()I"⟩
abbrev cX9_accept : ByteArray := prog_11_method_8_code
def yX9_accept : MethodName := ⟨RX9, "accept", "(C)Z"⟩
abbrev cX9_acceptOneOf : ByteArray := prog_11_method_9_code
def yX9_acceptOneOf : MethodName := ⟨RX9, "acceptOneOf", "(Ljava/lang/String;)I"⟩
abbrev cX9_addStep : ByteArray := prog_11_method_10_code
def yX9_addStep : MethodName := ⟨RX9, "addStep", "(I)Z"⟩
abbrev cX9_done : ByteArray := prog_11_method_11_code
def yX9_done : MethodName := ⟨RX9, "done", "(I[I)I"⟩
abbrev cX9_moved : ByteArray := prog_11_method_12_code
def yX9_moved : MethodName := ⟨RX9, "moved", "(III)I"⟩
abbrev cX9_holds : ByteArray := prog_11_method_13_code
def yX9_holds : MethodName := ⟨RX9, "holds", "(II[I)Z"⟩
abbrev cX9_isSo : ByteArray := prog_11_method_14_code
def yX9_isSo : MethodName := ⟨RX9, "isSo", "(I[I)Z"⟩
def RX10 : String := "SignalBlind$Wind"
def TX10 : u_T := fun k => match k with
  | 0 => ("SignalBlind$Sender", "number", "I", true)
  | 1 => ("SignalBlind$Sender", "kind", "I", true)
  | _ => ("SignalBlind$Sender", "v", "I", true)
def tyX10 : Nat → FieldType := fun k => match k with
  | 0 => .int
  | 1 => .int
  | _ => .int
abbrev wsX100 : List Cond := u_ws RX10 TX10 3
theorem nmX10 : ∀ a, a < 3 → ∀ b, b < 3 → a ≠ b → (TX10 a).2.1 ≠ (TX10 b).2.1 := by decide +kernel
theorem tyX10_ok : ∀ k, k < 3 → parseFieldDescriptor (TX10 k).2.2.1 = some (tyX10 k) := by decide +kernel
abbrev cX10_init : ByteArray := prog_12_method_1_code
def yX10_init : MethodName := ⟨RX10, "<init>", "(III)V"⟩
abbrev cX10_showing : ByteArray := prog_12_method_2_code
def yX10_showing : MethodName := ⟨RX10, "showing", "(IIII)I"⟩
abbrev cX10_tells : ByteArray := prog_12_method_3_code
def yX10_tells : MethodName := ⟨RX10, "tells", "(ILjava/lang/StringBuilder;)I"⟩
def RX11 : String := "SignalBlind"
def TX11 : u_T := fun k => match k with
  | 0 => ("SignalBlind", "now", "LSignalBlind$Scene;", true)
  | 1 => ("SignalBlind", "image", "LSignalBlind$Scene;", true)
  | 2 => ("SignalBlind", "imageTaken", "Z", false)
  | 3 => ("SignalBlind", "text", "LSignalBlind$Row;", true)
  | 4 => ("SignalBlind", "spare", "LSignalBlind$Ward;", false)
  | 5 => ("SignalBlind", "wards", "I", false)
  | 6 => ("SignalBlind", "tapes", "[LSignalBlind$Tape;", true)
  | 7 => ("SignalBlind", "trace", "Ljava/lang/StringBuilder;", true)
  | 8 => ("SignalBlind", "facts", "[I", true)
  | 9 => ("SignalBlind", "marks", "[J", true)
  | 10 => ("SignalBlind", "order", "[I", true)
  | _ => ("SignalBlind", "bestOrder", "[I", true)
def tyX11 : Nat → FieldType := fun k => match k with
  | 0 => .object "SignalBlind$Scene"
  | 1 => .object "SignalBlind$Scene"
  | 2 => .boolean
  | 3 => .object "SignalBlind$Row"
  | 4 => .object "SignalBlind$Ward"
  | 5 => .int
  | 6 => .array (.object "SignalBlind$Tape")
  | 7 => .object "java/lang/StringBuilder"
  | 8 => .array .int
  | 9 => .array .long
  | 10 => .array .int
  | _ => .array .int
abbrev wsX110 : List Cond := u_ws RX11 TX11 12
theorem nmX11 : ∀ a, a < 12 → ∀ b, b < 12 → a ≠ b → (TX11 a).2.1 ≠ (TX11 b).2.1 := by decide +kernel
theorem tyX11_ok : ∀ k, k < 12 → parseFieldDescriptor (TX11 k).2.2.1 = some (tyX11 k) := by decide +kernel
abbrev cX11_init : ByteArray := prog_1_method_1_code
def yX11_init : MethodName := ⟨RX11, "<init>", "()V"⟩
abbrev cX11_word : ByteArray := prog_1_method_2_code
def yX11_word : MethodName := ⟨RX11, "word", "(I)I"⟩
abbrev cX11_alter : ByteArray := prog_1_method_3_code
def yX11_alter : MethodName := ⟨RX11, "alter", "(II)I"⟩
abbrev cX11_sender : ByteArray := prog_1_method_4_code
def yX11_sender : MethodName := ⟨RX11, "sender", "(II)I"⟩
abbrev cX11_of : ByteArray := prog_1_method_5_code
def yX11_of : MethodName := ⟨RX11, "of", "(II)I"⟩
abbrev cX11_shows : ByteArray := prog_1_method_6_code
def yX11_shows : MethodName := ⟨RX11, "shows", "(II)I"⟩
abbrev cX11_meaning : ByteArray := prog_1_method_7_code
def yX11_meaning : MethodName := ⟨RX11, "meaning", "(I)I"⟩
abbrev cX11_say : ByteArray := prog_1_method_8_code
def yX11_say : MethodName := ⟨RX11, "say", "(II)I"⟩
abbrev cX11_row : ByteArray := prog_1_method_9_code
def yX11_row : MethodName := ⟨RX11, "row", "(III)I"⟩
abbrev cX11_feed : ByteArray := prog_1_method_10_code
def yX11_feed : MethodName := ⟨RX11, "feed", "(I)I"⟩
abbrev cX11_ward : ByteArray := prog_1_method_11_code
def yX11_ward : MethodName := ⟨RX11, "ward", "()I"⟩
abbrev cX11_told : ByteArray := prog_1_method_12_code
def yX11_told : MethodName := ⟨RX11, "told", "(I)I"⟩
abbrev cX11_pass : ByteArray := prog_1_method_13_code
def yX11_pass : MethodName := ⟨RX11, "pass", "(I)I"⟩
abbrev cX11_saying : ByteArray := prog_1_method_14_code
def yX11_saying : MethodName := ⟨RX11, "saying", "(III)I"⟩
abbrev cX11_hours : ByteArray := prog_1_method_15_code
def yX11_hours : MethodName := ⟨RX11, "hours", "(II)I"⟩
abbrev cX11_senders : ByteArray := prog_1_method_16_code
def yX11_senders : MethodName := ⟨RX11, "senders", "(II)I"⟩
abbrev cX11_meant : ByteArray := prog_1_method_17_code
def yX11_meant : MethodName := ⟨RX11, "meant", "(II)I"⟩
abbrev cX11_passed : ByteArray := prog_1_method_18_code
def yX11_passed : MethodName := ⟨RX11, "passed", "(II)I"⟩
abbrev cX11_see : ByteArray := prog_1_method_19_code
def yX11_see : MethodName := ⟨RX11, "see", "(II)I"⟩
abbrev cX11_can : ByteArray := prog_1_method_20_code
def yX11_can : MethodName := ⟨RX11, "can", "(II)I"⟩
abbrev cX11_when : ByteArray := prog_1_method_21_code
def yX11_when : MethodName := ⟨RX11, "when", "(II)I"⟩
abbrev cX11_odds : ByteArray := prog_1_method_22_code
def yX11_odds : MethodName := ⟨RX11, "odds", "(III)J"⟩
abbrev cX11_mean : ByteArray := prog_1_method_23_code
def yX11_mean : MethodName := ⟨RX11, "mean", "(I)J"⟩
abbrev cX11_relay : ByteArray := prog_1_method_24_code
def yX11_relay : MethodName := ⟨RX11, "relay", "(I)I"⟩
abbrev cX11_ends : ByteArray := prog_1_method_25_code
def yX11_ends : MethodName := ⟨RX11, "ends", "(II)I"⟩
abbrev cX11_book : ByteArray := prog_1_method_26_code
def yX11_book : MethodName := ⟨RX11, "book", "(II)I"⟩
abbrev cX11_looked : ByteArray := prog_1_method_27_code
def yX11_looked : MethodName := ⟨RX11, "looked", "()I"⟩
abbrev cX11_judge : ByteArray := prog_1_method_28_code
def yX11_judge : MethodName := ⟨RX11, "judge", "(II)I"⟩
abbrev cX11_image : ByteArray := prog_1_method_29_code
def yX11_image : MethodName := ⟨RX11, "image", "()I"⟩
abbrev cX11_undo : ByteArray := prog_1_method_30_code
def yX11_undo : MethodName := ⟨RX11, "undo", "()I"⟩
abbrev cX11_act : ByteArray := prog_1_method_31_code
def yX11_act : MethodName := ⟨RX11, "act", "(III)I"⟩
abbrev cX11_trace : ByteArray := prog_1_method_32_code
def yX11_trace : MethodName := ⟨RX11, "trace", "(I)I"⟩
abbrev cX11_taken : ByteArray := prog_1_method_33_code
def yX11_taken : MethodName := ⟨RX11, "taken", "(II)I"⟩
abbrev cX11_count : ByteArray := prog_1_method_34_code
def yX11_count : MethodName := ⟨RX11, "count", "(I)I"⟩
abbrev cX11_tape : ByteArray := prog_1_method_35_code
def yX11_tape : MethodName := ⟨RX11, "tape", "(III)I"⟩
abbrev cX11_item : ByteArray := prog_1_method_36_code
def yX11_item : MethodName := ⟨RX11, "item", "(IIJ)I"⟩
abbrev cX11_read : ByteArray := prog_1_method_37_code
def yX11_read : MethodName := ⟨RX11, "read", "(II)J"⟩
abbrev cX11_shift : ByteArray := prog_1_method_38_code
def yX11_shift : MethodName := ⟨RX11, "shift", "(IIIII)I"⟩
abbrev cX11_isSign : ByteArray := prog_1_method_39_code
def yX11_isSign : MethodName := ⟨RX11, "isSign", "(I)Z"⟩
abbrev cX11_isDigit : ByteArray := prog_1_method_40_code
def yX11_isDigit : MethodName := ⟨RX11, "isDigit", "(I)Z"⟩
abbrev cX11_isPart : ByteArray := prog_1_method_41_code
def yX11_isPart : MethodName := ⟨RX11, "isPart", "(I)Z"⟩
abbrev cX11_isTape : ByteArray := prog_1_method_42_code
def yX11_isTape : MethodName := ⟨RX11, "isTape", "(I)Z"⟩
abbrev cX11_isWord : ByteArray := prog_1_method_43_code
def yX11_isWord : MethodName := ⟨RX11, "isWord", "(I)Z"⟩
abbrev cX11_isSender : ByteArray := prog_1_method_44_code
def yX11_isSender : MethodName := ⟨RX11, "isSender", "(I)Z"⟩
abbrev cX11_apart : ByteArray := prog_1_method_45_code
def yX11_apart : MethodName := ⟨RX11, "apart", "(II)I"⟩
abbrev cX11_turned : ByteArray := prog_1_method_46_code
def yX11_turned : MethodName := ⟨RX11, "turned", "(II)I"⟩
abbrev cX11_mirrored : ByteArray := prog_1_method_47_code
def yX11_mirrored : MethodName := ⟨RX11, "mirrored", "(I)I"⟩
abbrev cX11_shownNow : ByteArray := prog_1_method_48_code
def yX11_shownNow : MethodName := ⟨RX11, "shownNow", "(II)I"⟩
abbrev cX11_shown : ByteArray := prog_1_method_49_code
def yX11_shown : MethodName := ⟨RX11, "shown", "(IIII)I"⟩
abbrev cX11_near : ByteArray := prog_1_method_50_code
def yX11_near : MethodName := ⟨RX11, "near", "()I"⟩
abbrev cX11_readAs : ByteArray := prog_1_method_51_code
def yX11_readAs : MethodName := ⟨RX11, "readAs", "(I)I"⟩
abbrev cX11_comes : ByteArray := prog_1_method_52_code
def yX11_comes : MethodName := ⟨RX11, "comes", "(III)Z"⟩
abbrev cX11_wordsThrough : ByteArray := prog_1_method_53_code
def yX11_wordsThrough : MethodName := ⟨RX11, "wordsThrough", "(I)I"⟩
abbrev cX11_unlikeSigns : ByteArray := prog_1_method_54_code
def yX11_unlikeSigns : MethodName := ⟨RX11, "unlikeSigns", "(I)I"⟩
abbrev cX11_closestWords : ByteArray := prog_1_method_55_code
def yX11_closestWords : MethodName := ⟨RX11, "closestWords", "(Z)I"⟩
abbrev cX11_newSign : ByteArray := prog_1_method_56_code
def yX11_newSign : MethodName := ⟨RX11, "newSign", "(Z)I"⟩
abbrev cX11_leastApart : ByteArray := prog_1_method_57_code
def yX11_leastApart : MethodName := ⟨RX11, "leastApart", "(I)I"⟩
abbrev cX11_leastPassed : ByteArray := prog_1_method_58_code
def yX11_leastPassed : MethodName := ⟨RX11, "leastPassed", "(I)I"⟩
abbrev cX11_handedOn : ByteArray := prog_1_method_59_code
def yX11_handedOn : MethodName := ⟨RX11, "handedOn", "(I)I"⟩
abbrev cX11_nextOrder : ByteArray := prog_1_method_60_code
def yX11_nextOrder : MethodName := ⟨RX11, "nextOrder", "(I)Z"⟩
abbrev cX11_swapInOrder : ByteArray := prog_1_method_61_code
def yX11_swapInOrder : MethodName := ⟨RX11, "swapInOrder", "(II)V"⟩
abbrev cX11_addPair : ByteArray := prog_1_method_62_code
def yX11_addPair : MethodName := ⟨RX11, "addPair", "(LSignalBlind$Row;II)I"⟩
abbrev cX11_fitsSeen : ByteArray := prog_1_method_63_code
def yX11_fitsSeen : MethodName := ⟨RX11, "fitsSeen", "(III)Z"⟩
abbrev cX11_lowest : ByteArray := prog_1_method_64_code
def yX11_lowest : MethodName := ⟨RX11, "lowest", "(III)J"⟩
abbrev cX11_newSender : ByteArray := prog_1_method_65_code
def yX11_newSender : MethodName := ⟨RX11, "newSender", "(III)LSignalBlind$Sender;"⟩
abbrev cX11_isOfKind : ByteArray := prog_1_method_66_code
def yX11_isOfKind : MethodName := ⟨RX11, "isOfKind", "(LSignalBlind$Sender;I)Z"⟩
def RX12 : String := "SignalBlindModel"
def TX12 : u_T := fun k => match k with
  | 0 => ("SignalBlindModel", "words", "I", false)
  | 1 => ("SignalBlindModel", "senders0", "I", false)
  | 2 => ("SignalBlindModel", "hour", "I", false)
  | 3 => ("SignalBlindModel", "sign0", "[I", true)
  | 4 => ("SignalBlindModel", "kind", "[I", true)
  | 5 => ("SignalBlindModel", "v", "[I", true)
  | 6 => ("SignalBlindModel", "sent", "[I", true)
  | 7 => ("SignalBlindModel", "rows", "[I", true)
  | 8 => ("SignalBlindModel", "wards", "I", false)
  | 9 => ("SignalBlindModel", "the", "I", false)
  | 10 => ("SignalBlindModel", "fed", "I", false)
  | 11 => ("SignalBlindModel", "at", "I", false)
  | 12 => ("SignalBlindModel", "digits", "I", false)
  | 13 => ("SignalBlindModel", "text", "[I", true)
  | 14 => ("SignalBlindModel", "clauses", "[I", true)
  | 15 => ("SignalBlindModel", "word", "[I", true)
  | 16 => ("SignalBlindModel", "number", "[I", true)
  | 17 => ("SignalBlindModel", "from", "[I", true)
  | 18 => ("SignalBlindModel", "to", "[I", true)
  | 19 => ("SignalBlindModel", "sign", "[I", true)
  | 20 => ("SignalBlindModel", "waits", "[I", true)
  | 21 => ("SignalBlindModel", "signs", "I", false)
  | 22 => ("SignalBlindModel", "waiting", "I", false)
  | 23 => ("SignalBlindModel", "brackets", "I", false)
  | 24 => ("SignalBlindModel", "letters", "[I", true)
  | 25 => ("SignalBlindModel", "pile", "[Z", true)
  | 26 => ("SignalBlindModel", "shown", "[Z", true)
  | 27 => ("SignalBlindModel", "turn", "[I", true)
  | 28 => ("SignalBlindModel", "bestTurn", "[I", true)
  | 29 => ("SignalBlindModel", "seen", "I", false)
  | 30 => ("SignalBlindModel", "seenWord", "[I", true)
  | 31 => ("SignalBlindModel", "seenSign", "[I", true)
  | 32 => ("SignalBlindModel", "relays", "I", false)
  | 33 => ("SignalBlindModel", "books", "I", false)
  | 34 => ("SignalBlindModel", "relayWho", "[I", true)
  | 35 => ("SignalBlindModel", "bookWord", "[I", true)
  | 36 => ("SignalBlindModel", "bookSign", "[I", true)
  | 37 => ("SignalBlindModel", "hasImage", "Z", false)
  | 38 => ("SignalBlindModel", "imageThe", "I", false)
  | 39 => ("SignalBlindModel", "imageWords", "I", false)
  | 40 => ("SignalBlindModel", "imageSenders", "I", false)
  | 41 => ("SignalBlindModel", "imageHour", "I", false)
  | 42 => ("SignalBlindModel", "imageSeen", "I", false)
  | 43 => ("SignalBlindModel", "imageRelays", "I", false)
  | 44 => ("SignalBlindModel", "imageBooks", "I", false)
  | 45 => ("SignalBlindModel", "imageSign", "[I", true)
  | 46 => ("SignalBlindModel", "imageKind", "[I", true)
  | 47 => ("SignalBlindModel", "imageV", "[I", true)
  | 48 => ("SignalBlindModel", "imageSent", "[I", true)
  | 49 => ("SignalBlindModel", "imageRows", "[I", true)
  | 50 => ("SignalBlindModel", "imageSeenWord", "[I", true)
  | 51 => ("SignalBlindModel", "imageSeenSign", "[I", true)
  | 52 => ("SignalBlindModel", "imageWho", "[I", true)
  | 53 => ("SignalBlindModel", "imageBookWord", "[I", true)
  | 54 => ("SignalBlindModel", "imageBookSign", "[I", true)
  | 55 => ("SignalBlindModel", "ran", "I", false)
  | 56 => ("SignalBlindModel", "bodies", "[I", true)
  | 57 => ("SignalBlindModel", "sort", "[I", true)
  | 58 => ("SignalBlindModel", "length", "[I", true)
  | 59 => ("SignalBlindModel", "item", "[J", true)
  | _ => ("SignalBlindModel", "aside", "[J", true)
def tyX12 : Nat → FieldType := fun k => match k with
  | 0 => .int
  | 1 => .int
  | 2 => .int
  | 3 => .array .int
  | 4 => .array .int
  | 5 => .array .int
  | 6 => .array .int
  | 7 => .array .int
  | 8 => .int
  | 9 => .int
  | 10 => .int
  | 11 => .int
  | 12 => .int
  | 13 => .array .int
  | 14 => .array .int
  | 15 => .array .int
  | 16 => .array .int
  | 17 => .array .int
  | 18 => .array .int
  | 19 => .array .int
  | 20 => .array .int
  | 21 => .int
  | 22 => .int
  | 23 => .int
  | 24 => .array .int
  | 25 => .array .boolean
  | 26 => .array .boolean
  | 27 => .array .int
  | 28 => .array .int
  | 29 => .int
  | 30 => .array .int
  | 31 => .array .int
  | 32 => .int
  | 33 => .int
  | 34 => .array .int
  | 35 => .array .int
  | 36 => .array .int
  | 37 => .boolean
  | 38 => .int
  | 39 => .int
  | 40 => .int
  | 41 => .int
  | 42 => .int
  | 43 => .int
  | 44 => .int
  | 45 => .array .int
  | 46 => .array .int
  | 47 => .array .int
  | 48 => .array .int
  | 49 => .array .int
  | 50 => .array .int
  | 51 => .array .int
  | 52 => .array .int
  | 53 => .array .int
  | 54 => .array .int
  | 55 => .int
  | 56 => .array .int
  | 57 => .array .int
  | 58 => .array .int
  | 59 => .array .long
  | _ => .array .long
abbrev wsX120 : List Cond := u_ws RX12 TX12 61
theorem nmX12 : ∀ a, a < 61 → ∀ b, b < 61 → a ≠ b → (TX12 a).2.1 ≠ (TX12 b).2.1 := by decide +kernel
theorem tyX12_ok : ∀ k, k < 61 → parseFieldDescriptor (TX12 k).2.2.1 = some (tyX12 k) := by decide +kernel
abbrev cX12_init : ByteArray := prog_14_method_1_code
def yX12_init : MethodName := ⟨RX12, "<init>", "()V"⟩
abbrev cX12_in : ByteArray := prog_14_method_2_code
def yX12_in : MethodName := ⟨RX12, "in", "(III)Z"⟩
abbrev cX12_has : ByteArray := prog_14_method_3_code
def yX12_has : MethodName := ⟨RX12, "has", "(II)Z"⟩
abbrev cX12_bits : ByteArray := prog_14_method_4_code
def yX12_bits : MethodName := ⟨RX12, "bits", "(I)I"⟩
abbrev cX12_isSign : ByteArray := prog_14_method_5_code
def yX12_isSign : MethodName := ⟨RX12, "isSign", "(I)Z"⟩
abbrev cX12_isWord : ByteArray := prog_14_method_6_code
def yX12_isWord : MethodName := ⟨RX12, "isWord", "(I)Z"⟩
abbrev cX12_isSender : ByteArray := prog_14_method_7_code
def yX12_isSender : MethodName := ⟨RX12, "isSender", "(I)Z"⟩
abbrev cX12_word : ByteArray := prog_14_method_8_code
def yX12_word : MethodName := ⟨RX12, "word", "(I)I"⟩
abbrev cX12_alter : ByteArray := prog_14_method_9_code
def yX12_alter : MethodName := ⟨RX12, "alter", "(II)I"⟩
abbrev cX12_sender : ByteArray := prog_14_method_10_code
def yX12_sender : MethodName := ⟨RX12, "sender", "(II)I"⟩
abbrev cX12_row : ByteArray := prog_14_method_11_code
def yX12_row : MethodName := ⟨RX12, "row", "(III)I"⟩
abbrev cX12_feed : ByteArray := prog_14_method_12_code
def yX12_feed : MethodName := ⟨RX12, "feed", "(I)I"⟩
abbrev cX12_next : ByteArray := prog_14_method_13_code
def yX12_next : MethodName := ⟨RX12, "next", "()I"⟩
abbrev cX12_takes : ByteArray := prog_14_method_14_code
def yX12_takes : MethodName := ⟨RX12, "takes", "(I)Z"⟩
abbrev cX12_takesWord : ByteArray := prog_14_method_15_code
def yX12_takesWord : MethodName := ⟨RX12, "takesWord", "(II)Z"⟩
abbrev cX12_isDigit : ByteArray := prog_14_method_16_code
def yX12_isDigit : MethodName := ⟨RX12, "isDigit", "()Z"⟩
abbrev cX12_takesNumber : ByteArray := prog_14_method_17_code
def yX12_takesNumber : MethodName := ⟨RX12, "takesNumber", "()Z"⟩
abbrev cX12_emits : ByteArray := prog_14_method_18_code
def yX12_emits : MethodName := ⟨RX12, "emits", "(I)V"⟩
abbrev cX12_whole : ByteArray := prog_14_method_19_code
def yX12_whole : MethodName := ⟨RX12, "whole", "()V"⟩
abbrev cX12_settle : ByteArray := prog_14_method_20_code
def yX12_settle : MethodName := ⟨RX12, "settle", "(I)V"⟩
abbrev cX12_place : ByteArray := prog_14_method_21_code
def yX12_place : MethodName := ⟨RX12, "place", "(I)I"⟩
abbrev cX12_takesTest : ByteArray := prog_14_method_22_code
def yX12_takesTest : MethodName := ⟨RX12, "takesTest", "()Z"⟩
abbrev cX12_takesE : ByteArray := prog_14_method_23_code
def yX12_takesE : MethodName := ⟨RX12, "takesE", "(I)Z"⟩
abbrev cX12_takesHead : ByteArray := prog_14_method_24_code
def yX12_takesHead : MethodName := ⟨RX12, "takesHead", "(I)Z"⟩
abbrev cX12_takesClause : ByteArray := prog_14_method_25_code
def yX12_takesClause : MethodName := ⟨RX12, "takesClause", "(I)Z"⟩
abbrev cX12_goesText : ByteArray := prog_14_method_26_code
def yX12_goesText : MethodName := ⟨RX12, "goesText", "(I)Z"⟩
abbrev cX12_ward : ByteArray := prog_14_method_27_code
def yX12_ward : MethodName := ⟨RX12, "ward", "()I"⟩
abbrev cX12_begin : ByteArray := prog_14_method_28_code
def yX12_begin : MethodName := ⟨RX12, "begin", "()I"⟩
abbrev cX12_behind : ByteArray := prog_14_method_29_code
def yX12_behind : MethodName := ⟨RX12, "behind", "()I"⟩
abbrev cX12_near : ByteArray := prog_14_method_30_code
def yX12_near : MethodName := ⟨RX12, "near", "()I"⟩
abbrev cX12_factOf : ByteArray := prog_14_method_31_code
def yX12_factOf : MethodName := ⟨RX12, "factOf", "(III)I"⟩
abbrev cX12_holds : ByteArray := prog_14_method_32_code
def yX12_holds : MethodName := ⟨RX12, "holds", "(III)Z"⟩
abbrev cX12_turned : ByteArray := prog_14_method_33_code
def yX12_turned : MethodName := ⟨RX12, "turned", "(II)I"⟩
abbrev cX12_mirrored : ByteArray := prog_14_method_34_code
def yX12_mirrored : MethodName := ⟨RX12, "mirrored", "(I)I"⟩
abbrev cX12_blind : ByteArray := prog_14_method_35_code
def yX12_blind : MethodName := ⟨RX12, "blind", "(II)I"⟩
abbrev cX12_showsOf : ByteArray := prog_14_method_36_code
def yX12_showsOf : MethodName := ⟨RX12, "showsOf", "(II)I"⟩
abbrev cX12_readOf : ByteArray := prog_14_method_37_code
def yX12_readOf : MethodName := ⟨RX12, "readOf", "(I)I"⟩
abbrev cX12_isThrough : ByteArray := prog_14_method_38_code
def yX12_isThrough : MethodName := ⟨RX12, "isThrough", "(II)Z"⟩
abbrev cX12_through : ByteArray := prog_14_method_39_code
def yX12_through : MethodName := ⟨RX12, "through", "(I)I"⟩
abbrev cX12_clear : ByteArray := prog_14_method_40_code
def yX12_clear : MethodName := ⟨RX12, "clear", "(I)I"⟩
abbrev cX12_of : ByteArray := prog_14_method_41_code
def yX12_of : MethodName := ⟨RX12, "of", "(II)I"⟩
abbrev cX12_shows : ByteArray := prog_14_method_42_code
def yX12_shows : MethodName := ⟨RX12, "shows", "(II)I"⟩
abbrev cX12_meaning : ByteArray := prog_14_method_43_code
def yX12_meaning : MethodName := ⟨RX12, "meaning", "(I)I"⟩
abbrev cX12_say : ByteArray := prog_14_method_44_code
def yX12_say : MethodName := ⟨RX12, "say", "(II)I"⟩
abbrev cX12_wordsApart : ByteArray := prog_14_method_45_code
def yX12_wordsApart : MethodName := ⟨RX12, "wordsApart", "(Z)I"⟩
abbrev cX12_leastApart : ByteArray := prog_14_method_46_code
def yX12_leastApart : MethodName := ⟨RX12, "leastApart", "(I)I"⟩
abbrev cX12_newSign : ByteArray := prog_14_method_47_code
def yX12_newSign : MethodName := ⟨RX12, "newSign", "()I"⟩
abbrev cX12_told : ByteArray := prog_14_method_48_code
def yX12_told : MethodName := ⟨RX12, "told", "(I)I"⟩
abbrev cX12_pass : ByteArray := prog_14_method_49_code
def yX12_pass : MethodName := ⟨RX12, "pass", "(I)I"⟩
abbrev cX12_saying : ByteArray := prog_14_method_50_code
def yX12_saying : MethodName := ⟨RX12, "saying", "(III)I"⟩
abbrev cX12_hours : ByteArray := prog_14_method_51_code
def yX12_hours : MethodName := ⟨RX12, "hours", "(II)I"⟩
abbrev cX12_senders : ByteArray := prog_14_method_52_code
def yX12_senders : MethodName := ⟨RX12, "senders", "(II)I"⟩
abbrev cX12_meant : ByteArray := prog_14_method_53_code
def yX12_meant : MethodName := ⟨RX12, "meant", "(II)I"⟩
abbrev cX12_layTurn : ByteArray := prog_14_method_54_code
def yX12_layTurn : MethodName := ⟨RX12, "layTurn", "(I)Z"⟩
abbrev cX12_passed : ByteArray := prog_14_method_55_code
def yX12_passed : MethodName := ⟨RX12, "passed", "(II)I"⟩
abbrev cX12_see : ByteArray := prog_14_method_56_code
def yX12_see : MethodName := ⟨RX12, "see", "(II)I"⟩
abbrev cX12_isSeen : ByteArray := prog_14_method_57_code
def yX12_isSeen : MethodName := ⟨RX12, "isSeen", "(I)Z"⟩
abbrev cX12_can : ByteArray := prog_14_method_58_code
def yX12_can : MethodName := ⟨RX12, "can", "(II)I"⟩
abbrev cX12_when : ByteArray := prog_14_method_59_code
def yX12_when : MethodName := ⟨RX12, "when", "(II)I"⟩
abbrev cX12_divisor : ByteArray := prog_14_method_60_code
def yX12_divisor : MethodName := ⟨RX12, "divisor", "(II)I"⟩
abbrev cX12_lowest : ByteArray := prog_14_method_61_code
def yX12_lowest : MethodName := ⟨RX12, "lowest", "(III)J"⟩
abbrev cX12_odds : ByteArray := prog_14_method_62_code
def yX12_odds : MethodName := ⟨RX12, "odds", "(III)J"⟩
abbrev cX12_mean : ByteArray := prog_14_method_63_code
def yX12_mean : MethodName := ⟨RX12, "mean", "(I)J"⟩
abbrev cX12_relay : ByteArray := prog_14_method_64_code
def yX12_relay : MethodName := ⟨RX12, "relay", "(I)I"⟩
abbrev cX12_ends : ByteArray := prog_14_method_65_code
def yX12_ends : MethodName := ⟨RX12, "ends", "(II)I"⟩
abbrev cX12_book : ByteArray := prog_14_method_66_code
def yX12_book : MethodName := ⟨RX12, "book", "(II)I"⟩
abbrev cX12_looked : ByteArray := prog_14_method_67_code
def yX12_looked : MethodName := ⟨RX12, "looked", "()I"⟩
abbrev cX12_judge : ByteArray := prog_14_method_68_code
def yX12_judge : MethodName := ⟨RX12, "judge", "(II)I"⟩
abbrev cX12_image : ByteArray := prog_14_method_69_code
def yX12_image : MethodName := ⟨RX12, "image", "()I"⟩
abbrev cX12_undo : ByteArray := prog_14_method_70_code
def yX12_undo : MethodName := ⟨RX12, "undo", "()I"⟩
abbrev cX12_body : ByteArray := prog_14_method_71_code
def yX12_body : MethodName := ⟨RX12, "body", "(I)V"⟩
abbrev cX12_senderTilts : ByteArray := prog_14_method_72_code
def yX12_senderTilts : MethodName := ⟨RX12, "senderTilts", "(II)I"⟩
abbrev cX12_tiltsAct : ByteArray := prog_14_method_73_code
def yX12_tiltsAct : MethodName := ⟨RX12, "tiltsAct", "(II)I"⟩
abbrev cX12_senderSends : ByteArray := prog_14_method_74_code
def yX12_senderSends : MethodName := ⟨RX12, "senderSends", "(II)I"⟩
abbrev cX12_tiltedSends : ByteArray := prog_14_method_75_code
def yX12_tiltedSends : MethodName := ⟨RX12, "tiltedSends", "(II)I"⟩
abbrev cX12_sendsAct : ByteArray := prog_14_method_76_code
def yX12_sendsAct : MethodName := ⟨RX12, "sendsAct", "(II)I"⟩
abbrev cX12_senderTells : ByteArray := prog_14_method_77_code
def yX12_senderTells : MethodName := ⟨RX12, "senderTells", "(II)I"⟩
abbrev cX12_tellsAct : ByteArray := prog_14_method_78_code
def yX12_tellsAct : MethodName := ⟨RX12, "tellsAct", "(II)I"⟩
abbrev cX12_act : ByteArray := prog_14_method_79_code
def yX12_act : MethodName := ⟨RX12, "act", "(III)I"⟩
abbrev cX12_trace : ByteArray := prog_14_method_80_code
def yX12_trace : MethodName := ⟨RX12, "trace", "(I)I"⟩
abbrev cX12_taken : ByteArray := prog_14_method_81_code
def yX12_taken : MethodName := ⟨RX12, "taken", "(II)I"⟩
abbrev cX12_count : ByteArray := prog_14_method_82_code
def yX12_count : MethodName := ⟨RX12, "count", "(I)I"⟩
abbrev cX12_isTape : ByteArray := prog_14_method_83_code
def yX12_isTape : MethodName := ⟨RX12, "isTape", "(I)Z"⟩
abbrev cX12_tape : ByteArray := prog_14_method_84_code
def yX12_tape : MethodName := ⟨RX12, "tape", "(III)I"⟩
abbrev cX12_narrow : ByteArray := prog_14_method_85_code
def yX12_narrow : MethodName := ⟨RX12, "narrow", "(IJ)J"⟩
abbrev cX12_item : ByteArray := prog_14_method_86_code
def yX12_item : MethodName := ⟨RX12, "item", "(IIJ)I"⟩
abbrev cX12_read : ByteArray := prog_14_method_87_code
def yX12_read : MethodName := ⟨RX12, "read", "(II)J"⟩
abbrev cX12_shift : ByteArray := prog_14_method_88_code
def yX12_shift : MethodName := ⟨RX12, "shift", "(IIIII)I"⟩
def RJ5 : String := "java/lang/AbstractStringBuilder"
def TJ5 : u_T := fun k => match k with
  | _ => ("", "", "", false)
def tyJ5 : Nat → FieldType := fun k => match k with
  | _ => .int
abbrev wsJ50 : List Cond := u_ws RJ5 TJ5 0
theorem nmJ5 : ∀ a, a < 0 → ∀ b, b < 0 → a ≠ b → (TJ5 a).2.1 ≠ (TJ5 b).2.1 := by decide +kernel
theorem tyJ5_ok : ∀ k, k < 0 → parseFieldDescriptor (TJ5 k).2.2.1 = some (tyJ5 k) := by decide +kernel
abbrev cJ5_init_d00df : ByteArray := prog_15_method_2_code
def yJ5_init_d00df : MethodName := ⟨RJ5, "<init>", "(I)V"⟩
abbrev cJ5_length_8abf5 : ByteArray := prog_15_method_6_code
def yJ5_length_8abf5 : MethodName := ⟨RJ5, "length", "()I"⟩
abbrev cJ5_ensureCapacityInternal_d00df : ByteArray := prog_15_method_9_code
def yJ5_ensureCapacityInternal_d00df : MethodName := ⟨RJ5, "ensureCapacityInternal", "(I)V"⟩
abbrev cJ5_newCapacity_0f7a4 : ByteArray := prog_15_method_10_code
def yJ5_newCapacity_0f7a4 : MethodName := ⟨RJ5, "newCapacity", "(I)I"⟩
abbrev cJ5_inflate_da8c8 : ByteArray := prog_15_method_11_code
def yJ5_inflate_da8c8 : MethodName := ⟨RJ5, "inflate", "()V"⟩
abbrev cJ5_setLength_d00df : ByteArray := prog_15_method_13_code
def yJ5_setLength_d00df : MethodName := ⟨RJ5, "setLength", "(I)V"⟩
abbrev cJ5_charAt_5068e : ByteArray := prog_15_method_14_code
def yJ5_charAt_5068e : MethodName := ⟨RJ5, "charAt", "(I)C"⟩
abbrev cJ5_append_3fe6f : ByteArray := prog_15_method_31_code
def yJ5_append_3fe6f : MethodName := ⟨RJ5, "append", "(C)Ljava/lang/AbstractStringBuilder;"⟩
abbrev cJ5_isLatin1_aae02 : ByteArray := prog_15_method_68_code
def yJ5_isLatin1_aae02 : MethodName := ⟨RJ5, "isLatin1", "()Z"⟩
def RJ11 : String := "java/lang/Character"
def TJ11 : u_T := fun k => match k with
  | _ => ("", "", "", false)
def tyJ11 : Nat → FieldType := fun k => match k with
  | _ => .int
abbrev wsJ110 : List Cond := u_ws RJ11 TJ11 0
theorem nmJ11 : ∀ a, a < 0 → ∀ b, b < 0 → a ≠ b → (TJ11 a).2.1 ≠ (TJ11 b).2.1 := by decide +kernel
theorem tyJ11_ok : ∀ k, k < 0 → parseFieldDescriptor (TJ11 k).2.2.1 = some (tyJ11 k) := by decide +kernel
abbrev cJ11_isValidCodePoint_9a6ad : ByteArray := prog_16_method_11_code
def yJ11_isValidCodePoint_9a6ad : MethodName := ⟨RJ11, "isValidCodePoint", "(I)Z"⟩
abbrev cJ11_highSurrogate_5068e : ByteArray := prog_16_method_28_code
def yJ11_highSurrogate_5068e : MethodName := ⟨RJ11, "highSurrogate", "(I)C"⟩
abbrev cJ11_lowSurrogate_5068e : ByteArray := prog_16_method_29_code
def yJ11_lowSurrogate_5068e : MethodName := ⟨RJ11, "lowSurrogate", "(I)C"⟩
def RJx8e188 : String := "java/lang/Cloneable"
def TJx8e188 : u_T := fun k => match k with
  | _ => ("", "", "", false)
def tyJx8e188 : Nat → FieldType := fun k => match k with
  | _ => .int
abbrev wsJx8e1880 : List Cond := u_ws RJx8e188 TJx8e188 0
theorem nmJx8e188 : ∀ a, a < 0 → ∀ b, b < 0 → a ≠ b → (TJx8e188 a).2.1 ≠ (TJx8e188 b).2.1 := by decide +kernel
theorem tyJx8e188_ok : ∀ k, k < 0 → parseFieldDescriptor (TJx8e188 k).2.2.1 = some (tyJx8e188 k) := by decide +kernel
def RJ6 : String := "java/lang/Integer"
def TJ6 : u_T := fun k => match k with
  | _ => ("", "", "", false)
def tyJ6 : Nat → FieldType := fun k => match k with
  | _ => .int
abbrev wsJ60 : List Cond := u_ws RJ6 TJ6 0
theorem nmJ6 : ∀ a, a < 0 → ∀ b, b < 0 → a ≠ b → (TJ6 a).2.1 ≠ (TJ6 b).2.1 := by decide +kernel
theorem tyJ6_ok : ∀ k, k < 0 → parseFieldDescriptor (TJ6 k).2.2.1 = some (tyJ6 k) := by decide +kernel
abbrev cJ6_bitCount_0f7a4 : ByteArray := prog_18_method_49_code
def yJ6_bitCount_0f7a4 : MethodName := ⟨RJ6, "bitCount", "(I)I"⟩
def RJ13 : String := "java/lang/Long"
def TJ13 : u_T := fun k => match k with
  | _ => ("", "", "", false)
def tyJ13 : Nat → FieldType := fun k => match k with
  | _ => .int
abbrev wsJ130 : List Cond := u_ws RJ13 TJ13 0
theorem nmJ13 : ∀ a, a < 0 → ∀ b, b < 0 → a ≠ b → (TJ13 a).2.1 ≠ (TJ13 b).2.1 := by decide +kernel
theorem tyJ13_ok : ∀ k, k < 0 → parseFieldDescriptor (TJ13 k).2.2.1 = some (tyJ13 k) := by decide +kernel
abbrev cJ13_bitCount_95d88 : ByteArray := prog_19_method_50_code
def yJ13_bitCount_95d88 : MethodName := ⟨RJ13, "bitCount", "(J)I"⟩
def RJ9 : String := "java/lang/Math"
def TJ9 : u_T := fun k => match k with
  | _ => ("", "", "", false)
def tyJ9 : Nat → FieldType := fun k => match k with
  | _ => .int
abbrev wsJ90 : List Cond := u_ws RJ9 TJ9 0
theorem nmJ9 : ∀ a, a < 0 → ∀ b, b < 0 → a ≠ b → (TJ9 a).2.1 ≠ (TJ9 b).2.1 := by decide +kernel
theorem tyJ9_ok : ∀ k, k < 0 → parseFieldDescriptor (TJ9 k).2.2.1 = some (tyJ9 k) := by decide +kernel
abbrev cJ9_max_7cf53 : ByteArray := prog_20_method_65_code
def yJ9_max_7cf53 : MethodName := ⟨RJ9, "max", "(II)I"⟩
abbrev cJ9_min_7cf53 : ByteArray := prog_20_method_69_code
def yJ9_min_7cf53 : MethodName := ⟨RJ9, "min", "(II)I"⟩
def RJ0 : String := "java/lang/String"
def TJ0 : u_T := fun k => match k with
  | _ => ("", "", "", false)
def tyJ0 : Nat → FieldType := fun k => match k with
  | _ => .int
abbrev wsJ00 : List Cond := u_ws RJ0 TJ0 0
theorem nmJ0 : ∀ a, a < 0 → ∀ b, b < 0 → a ≠ b → (TJ0 a).2.1 ≠ (TJ0 b).2.1 := by decide +kernel
theorem tyJ0_ok : ∀ k, k < 0 → parseFieldDescriptor (TJ0 k).2.2.1 = some (tyJ0 k) := by decide +kernel
abbrev cJ0_length_8abf5 : ByteArray := prog_21_method_54_code
def yJ0_length_8abf5 : MethodName := ⟨RJ0, "length", "()I"⟩
abbrev cJ0_charAt_5068e : ByteArray := prog_21_method_56_code
def yJ0_charAt_5068e : MethodName := ⟨RJ0, "charAt", "(I)C"⟩
abbrev cJ0_indexOf_0f7a4 : ByteArray := prog_21_method_79_code
def yJ0_indexOf_0f7a4 : MethodName := ⟨RJ0, "indexOf", "(I)I"⟩
abbrev cJ0_indexOf_7cf53 : ByteArray := prog_21_method_80_code
def yJ0_indexOf_7cf53 : MethodName := ⟨RJ0, "indexOf", "(II)I"⟩
abbrev cJ0_coder_7d493 : ByteArray := prog_21_method_152_code
def yJ0_coder_7d493 : MethodName := ⟨RJ0, "coder", "()B"⟩
abbrev cJ0_isLatin1_aae02 : ByteArray := prog_21_method_154_code
def yJ0_isLatin1_aae02 : MethodName := ⟨RJ0, "isLatin1", "()Z"⟩
abbrev cJ0_checkIndex_df160 : ByteArray := prog_21_method_155_code
def yJ0_checkIndex_df160 : MethodName := ⟨RJ0, "checkIndex", "(II)V"⟩
abbrev cJ0_checkBoundsOffCount_cabcc : ByteArray := prog_21_method_157_code
def yJ0_checkBoundsOffCount_cabcc : MethodName := ⟨RJ0, "checkBoundsOffCount", "(III)I"⟩
abbrev cJ0_checkBoundsBeginEnd_23922 : ByteArray := prog_21_method_158_code
def yJ0_checkBoundsBeginEnd_23922 : MethodName := ⟨RJ0, "checkBoundsBeginEnd", "(III)V"⟩
def RJ4 : String := "java/lang/StringBuilder"
def TJ4 : u_T := fun k => match k with
  | 0 => ("java/lang/AbstractStringBuilder", "value", "[B", false)
  | 1 => ("java/lang/AbstractStringBuilder", "coder", "B", false)
  | 2 => ("java/lang/AbstractStringBuilder", "maybeLatin1", "Z", false)
  | _ => ("java/lang/AbstractStringBuilder", "count", "I", false)
def tyJ4 : Nat → FieldType := fun k => match k with
  | 0 => .array .byte
  | 1 => .byte
  | 2 => .boolean
  | _ => .int
abbrev wsJ40 : List Cond := u_ws RJ4 TJ4 4
theorem nmJ4 : ∀ a, a < 4 → ∀ b, b < 4 → a ≠ b → (TJ4 a).2.1 ≠ (TJ4 b).2.1 := by decide +kernel
theorem tyJ4_ok : ∀ k, k < 4 → parseFieldDescriptor (TJ4 k).2.2.1 = some (tyJ4 k) := by decide +kernel
abbrev cJ4_init_da8c8 : ByteArray := prog_22_method_1_code
def yJ4_init_da8c8 : MethodName := ⟨RJ4, "<init>", "()V"⟩
abbrev cJ4_append_cf468 : ByteArray := prog_22_method_14_code
def yJ4_append_cf468 : MethodName := ⟨RJ4, "append", "(C)Ljava/lang/StringBuilder;"⟩
abbrev cJ4_charAt_5068e : ByteArray := prog_22_method_88_code
def yJ4_charAt_5068e : MethodName := ⟨RJ4, "charAt", "(I)C"⟩
abbrev cJ4_setLength_d00df : ByteArray := prog_22_method_89_code
def yJ4_setLength_d00df : MethodName := ⟨RJ4, "setLength", "(I)V"⟩
abbrev cJ4_length_8abf5 : ByteArray := prog_22_method_93_code
def yJ4_length_8abf5 : MethodName := ⟨RJ4, "length", "()I"⟩
def RJ1 : String := "java/lang/StringLatin1"
def TJ1 : u_T := fun k => match k with
  | _ => ("", "", "", false)
def tyJ1 : Nat → FieldType := fun k => match k with
  | _ => .int
abbrev wsJ10 : List Cond := u_ws RJ1 TJ1 0
theorem nmJ1 : ∀ a, a < 0 → ∀ b, b < 0 → a ≠ b → (TJ1 a).2.1 ≠ (TJ1 b).2.1 := by decide +kernel
theorem tyJ1_ok : ∀ k, k < 0 → parseFieldDescriptor (TJ1 k).2.2.1 = some (tyJ1 k) := by decide +kernel
abbrev cJ1_charAt_3b067 : ByteArray := prog_23_method_2_code
def yJ1_charAt_3b067 : MethodName := ⟨RJ1, "charAt", "([BI)C"⟩
abbrev cJ1_canEncode_fc78d : ByteArray := prog_23_method_3_code
def yJ1_canEncode_fc78d : MethodName := ⟨RJ1, "canEncode", "(C)Z"⟩
abbrev cJ1_canEncode_9a6ad : ByteArray := prog_23_method_4_code
def yJ1_canEncode_9a6ad : MethodName := ⟨RJ1, "canEncode", "(I)Z"⟩
abbrev cJ1_indexOf_4cfef : ByteArray := prog_23_method_22_code
def yJ1_indexOf_4cfef : MethodName := ⟨RJ1, "indexOf", "([BIII)I"⟩
abbrev cJ1_indexOfChar_4cfef : ByteArray := prog_23_method_23_code
def yJ1_indexOfChar_4cfef : MethodName := ⟨RJ1, "indexOfChar", "([BIII)I"⟩
abbrev cJ1_fillNull_b72d1 : ByteArray := prog_23_method_48_code
def yJ1_fillNull_b72d1 : MethodName := ⟨RJ1, "fillNull", "([BII)V"⟩
abbrev cJ1_inflate_0e8fd : ByteArray := prog_23_method_50_code
def yJ1_inflate_0e8fd : MethodName := ⟨RJ1, "inflate", "([BI[BII)V"⟩
def RJ2 : String := "java/lang/StringUTF16"
def TJ2 : u_T := fun k => match k with
  | _ => ("", "", "", false)
def tyJ2 : Nat → FieldType := fun k => match k with
  | _ => .int
abbrev wsJ20 : List Cond := u_ws RJ2 TJ2 0
theorem nmJ2 : ∀ a, a < 0 → ∀ b, b < 0 → a ≠ b → (TJ2 a).2.1 ≠ (TJ2 b).2.1 := by decide +kernel
theorem tyJ2_ok : ∀ k, k < 0 → parseFieldDescriptor (TJ2 k).2.2.1 = some (tyJ2 k) := by decide +kernel
abbrev cJ2_newBytesFor_77867 : ByteArray := prog_24_method_2_code
def yJ2_newBytesFor_77867 : MethodName := ⟨RJ2, "newBytesFor", "(I)[B"⟩
abbrev cJ2_newBytesLength_0f7a4 : ByteArray := prog_24_method_3_code
def yJ2_newBytesLength_0f7a4 : MethodName := ⟨RJ2, "newBytesLength", "(I)I"⟩
abbrev cJ2_putChar_b72d1 : ByteArray := prog_24_method_4_code
def yJ2_putChar_b72d1 : MethodName := ⟨RJ2, "putChar", "([BII)V"⟩
abbrev cJ2_getChar_3b067 : ByteArray := prog_24_method_5_code
def yJ2_getChar_3b067 : MethodName := ⟨RJ2, "getChar", "([BI)C"⟩
abbrev cJ2_length_9d52b : ByteArray := prog_24_method_6_code
def yJ2_length_9d52b : MethodName := ⟨RJ2, "length", "([B)I"⟩
abbrev cJ2_indexOf_4cfef : ByteArray := prog_24_method_40_code
def yJ2_indexOf_4cfef : MethodName := ⟨RJ2, "indexOf", "([BIII)I"⟩
abbrev cJ2_indexOfChar_4cfef : ByteArray := prog_24_method_47_code
def yJ2_indexOfChar_4cfef : MethodName := ⟨RJ2, "indexOfChar", "([BIII)I"⟩
abbrev cJ2_indexOfCharUnsafe_4cfef : ByteArray := prog_24_method_48_code
def yJ2_indexOfCharUnsafe_4cfef : MethodName := ⟨RJ2, "indexOfCharUnsafe", "([BIII)I"⟩
abbrev cJ2_indexOfSupplementary_4cfef : ByteArray := prog_24_method_49_code
def yJ2_indexOfSupplementary_4cfef : MethodName := ⟨RJ2, "indexOfSupplementary", "([BIII)I"⟩
abbrev cJ2_fillNull_b72d1 : ByteArray := prog_24_method_70_code
def yJ2_fillNull_b72d1 : MethodName := ⟨RJ2, "fillNull", "([BII)V"⟩
abbrev cJ2_putCharSB_b72d1 : ByteArray := prog_24_method_71_code
def yJ2_putCharSB_b72d1 : MethodName := ⟨RJ2, "putCharSB", "([BII)V"⟩
abbrev cJ2_charAt_3b067 : ByteArray := prog_24_method_83_code
def yJ2_charAt_3b067 : MethodName := ⟨RJ2, "charAt", "([BI)C"⟩
abbrev cJ2_inflate_0e8fd : ByteArray := prog_24_method_86_code
def yJ2_inflate_0e8fd : MethodName := ⟨RJ2, "inflate", "([BI[BII)V"⟩
abbrev cJ2_checkIndex_2214a : ByteArray := prog_24_method_91_code
def yJ2_checkIndex_2214a : MethodName := ⟨RJ2, "checkIndex", "(I[B)V"⟩
abbrev cJ2_checkBoundsBeginEnd_d044e : ByteArray := prog_24_method_93_code
def yJ2_checkBoundsBeginEnd_d044e : MethodName := ⟨RJ2, "checkBoundsBeginEnd", "(II[B)V"⟩
abbrev cJ2_checkBoundsOffCount_d044e : ByteArray := prog_24_method_94_code
def yJ2_checkBoundsOffCount_d044e : MethodName := ⟨RJ2, "checkBoundsOffCount", "(II[B)V"⟩
def RJ10 : String := "java/lang/System"
def TJ10 : u_T := fun k => match k with
  | _ => ("", "", "", false)
def tyJ10 : Nat → FieldType := fun k => match k with
  | _ => .int
abbrev wsJ100 : List Cond := u_ws RJ10 TJ10 0
theorem nmJ10 : ∀ a, a < 0 → ∀ b, b < 0 → a ≠ b → (TJ10 a).2.1 ≠ (TJ10 b).2.1 := by decide +kernel
theorem tyJ10_ok : ∀ k, k < 0 → parseFieldDescriptor (TJ10 k).2.2.1 = some (tyJ10 k) := by decide +kernel
def RJ7 : String := "java/util/Arrays"
def TJ7 : u_T := fun k => match k with
  | _ => ("", "", "", false)
def tyJ7 : Nat → FieldType := fun k => match k with
  | _ => .int
abbrev wsJ70 : List Cond := u_ws RJ7 TJ7 0
theorem nmJ7 : ∀ a, a < 0 → ∀ b, b < 0 → a ≠ b → (TJ7 a).2.1 ≠ (TJ7 b).2.1 := by decide +kernel
theorem tyJ7_ok : ∀ k, k < 0 → parseFieldDescriptor (TJ7 k).2.2.1 = some (tyJ7 k) := by decide +kernel
abbrev cJ7_rangeCheck_23922 : ByteArray := prog_26_method_30_code
def yJ7_rangeCheck_23922 : MethodName := ⟨RJ7, "rangeCheck", "(III)V"⟩
abbrev cJ7_fill_eb02e : ByteArray := prog_26_method_110_code
def yJ7_fill_eb02e : MethodName := ⟨RJ7, "fill", "([BIIB)V"⟩
abbrev cJ7_copyOf_9075b : ByteArray := prog_26_method_121_code
def yJ7_copyOf_9075b : MethodName := ⟨RJ7, "copyOf", "([BI)[B"⟩
def RJ8 : String := "jdk/internal/util/ArraysSupport"
def TJ8 : u_T := fun k => match k with
  | _ => ("", "", "", false)
def tyJ8 : Nat → FieldType := fun k => match k with
  | _ => .int
abbrev wsJ80 : List Cond := u_ws RJ8 TJ8 0
theorem nmJ8 : ∀ a, a < 0 → ∀ b, b < 0 → a ≠ b → (TJ8 a).2.1 ≠ (TJ8 b).2.1 := by decide +kernel
theorem tyJ8_ok : ∀ k, k < 0 → parseFieldDescriptor (TJ8 k).2.2.1 = some (tyJ8 k) := by decide +kernel
abbrev cJ8_newLength_cabcc : ByteArray := prog_27_method_27_code
def yJ8_newLength_cabcc : MethodName := ⟨RJ8, "newLength", "(III)I"⟩
abbrev cJ8_hugeLength_7cf53 : ByteArray := prog_27_method_28_code
def yJ8_hugeLength_7cf53 : MethodName := ⟨RJ8, "hugeLength", "(II)I"⟩
def RJ3 : String := "jdk/internal/util/Preconditions"
def TJ3 : u_T := fun k => match k with
  | _ => ("", "", "", false)
def tyJ3 : Nat → FieldType := fun k => match k with
  | _ => .int
abbrev wsJ30 : List Cond := u_ws RJ3 TJ3 0
theorem nmJ3 : ∀ a, a < 0 → ∀ b, b < 0 → a ≠ b → (TJ3 a).2.1 ≠ (TJ3 b).2.1 := by decide +kernel
theorem tyJ3_ok : ∀ k, k < 0 → parseFieldDescriptor (TJ3 k).2.2.1 = some (tyJ3 k) := by decide +kernel
abbrev cJ3_checkIndex_8e157 : ByteArray := prog_28_method_11_code
def yJ3_checkIndex_8e157 : MethodName := ⟨RJ3, "checkIndex", "(IILjava/util/function/BiFunction;)I"⟩
abbrev cJ3_checkFromToIndex_8c36e : ByteArray := prog_28_method_12_code
def yJ3_checkFromToIndex_8c36e : MethodName := ⟨RJ3, "checkFromToIndex", "(IIILjava/util/function/BiFunction;)I"⟩
abbrev cJ3_checkFromIndexSize_8c36e : ByteArray := prog_28_method_13_code
def yJ3_checkFromIndexSize_8c36e : MethodName := ⟨RJ3, "checkFromIndexSize", "(IIILjava/util/function/BiFunction;)I"⟩
def RL : String := "SignalBlindLaw"
abbrev cL_law : ByteArray := code
def yL_law : MethodName := ⟨RL, "law", "([I)Z"⟩
abbrev vwCl : List vw_C := [(RJ4, TJ4, 4), (RX0, TX0, 3), (RX1, TX1, 3), (RX2, TX2, 2), (RX3, TX3, 10), (RX4, TX4, 3), (RX5, TX5, 3), (RX6, TX6, 3), (RX7, TX7, 3), (RX8, TX8, 3), (RX9, TX9, 9), (RX10, TX10, 3), (RX11, TX11, 12), (RX12, TX12, 61)]
end
section
theorem dX0_init_0 : decode cX0_init 0 = .ok (.aload_n 0, 1) := by decide +kernel
theorem dX0_init_1 : decode cX0_init 1 = .ok (.iload_n 1, 1) := by decide +kernel
theorem dX0_init_2 : decode cX0_init 2 = .ok (.iload_n 2, 1) := by decide +kernel
theorem dX0_init_3 : decode cX0_init 3 = .ok (.iload_n 3, 1) := by decide +kernel
theorem dX0_init_4 : decode cX0_init 4 = .ok (.invokespecial 3, 3) := by decide +kernel
theorem dX0_init_7 : decode cX0_init 7 = .ok (.return_, 1) := by decide +kernel
theorem dX0_showing_0 : decode cX0_showing 0 = .ok (.iload_n 1, 1) := by decide +kernel
theorem dX0_showing_1 : decode cX0_showing 1 = .ok (.sipush 341, 3) := by decide +kernel
theorem dX0_showing_4 : decode cX0_showing 4 = .ok (.iand, 1) := by decide +kernel
theorem dX0_showing_5 : decode cX0_showing 5 = .ok (.ireturn, 1) := by decide +kernel
theorem dX0_tilts_0 : decode cX0_tilts 0 = .ok (.aload_n 2, 1) := by decide +kernel
theorem dX0_tilts_1 : decode cX0_tilts 1 = .ok (.bipush 30, 2) := by decide +kernel
theorem dX0_tilts_3 : decode cX0_tilts 3 = .ok (.invokevirtual 9, 3) := by decide +kernel
theorem dX0_tilts_6 : decode cX0_tilts 6 = .ok (.pop, 1) := by decide +kernel
theorem dX0_tilts_7 : decode cX0_tilts 7 = .ok (.aload_n 0, 1) := by decide +kernel
theorem dX0_tilts_8 : decode cX0_tilts 8 = .ok (.iload_n 1, 1) := by decide +kernel
theorem dX0_tilts_9 : decode cX0_tilts 9 = .ok (.iconst 3, 1) := by decide +kernel
theorem dX0_tilts_10 : decode cX0_tilts 10 = .ok (.imul, 1) := by decide +kernel
theorem dX0_tilts_11 : decode cX0_tilts 11 = .ok (.aload_n 2, 1) := by decide +kernel
theorem dX0_tilts_12 : decode cX0_tilts 12 = .ok (.invokespecial 15, 3) := by decide +kernel
theorem dX0_tilts_15 : decode cX0_tilts 15 = .ok (.ireturn, 1) := by decide +kernel
theorem dX1_init_0 : decode cX1_init 0 = .ok (.aload_n 0, 1) := by decide +kernel
theorem dX1_init_1 : decode cX1_init 1 = .ok (.iload_n 1, 1) := by decide +kernel
theorem dX1_init_2 : decode cX1_init 2 = .ok (.iload_n 2, 1) := by decide +kernel
theorem dX1_init_3 : decode cX1_init 3 = .ok (.iload_n 3, 1) := by decide +kernel
theorem dX1_init_4 : decode cX1_init 4 = .ok (.invokespecial 1, 3) := by decide +kernel
theorem dX1_init_7 : decode cX1_init 7 = .ok (.return_, 1) := by decide +kernel
theorem dX1_showing_0 : decode cX1_showing 0 = .ok (.iload_n 1, 1) := by decide +kernel
theorem dX1_showing_1 : decode cX1_showing 1 = .ok (.iconst 1, 1) := by decide +kernel
theorem dX1_showing_2 : decode cX1_showing 2 = .ok (.iload_n 2, 1) := by decide +kernel
theorem dX1_showing_3 : decode cX1_showing 3 = .ok (.ishl, 1) := by decide +kernel
theorem dX1_showing_4 : decode cX1_showing 4 = .ok (.ixor, 1) := by decide +kernel
theorem dX1_showing_5 : decode cX1_showing 5 = .ok (.ireturn, 1) := by decide +kernel
theorem dX1_tells_0 : decode cX1_tells 0 = .ok (.aload_n 2, 1) := by decide +kernel
theorem dX1_tells_1 : decode cX1_tells 1 = .ok (.bipush 40, 2) := by decide +kernel
theorem dX1_tells_3 : decode cX1_tells 3 = .ok (.invokevirtual 7, 3) := by decide +kernel
theorem dX1_tells_6 : decode cX1_tells 6 = .ok (.pop, 1) := by decide +kernel
theorem dX1_tells_7 : decode cX1_tells 7 = .ok (.aload_n 0, 1) := by decide +kernel
theorem dX1_tells_8 : decode cX1_tells 8 = .ok (.iload_n 1, 1) := by decide +kernel
theorem dX1_tells_9 : decode cX1_tells 9 = .ok (.aload_n 2, 1) := by decide +kernel
theorem dX1_tells_10 : decode cX1_tells 10 = .ok (.invokespecial 13, 3) := by decide +kernel
theorem dX1_tells_13 : decode cX1_tells 13 = .ok (.aload_n 0, 1) := by decide +kernel
theorem dX1_tells_14 : decode cX1_tells 14 = .ok (.iconst 1, 1) := by decide +kernel
theorem dX1_tells_15 : decode cX1_tells 15 = .ok (.aload_n 2, 1) := by decide +kernel
theorem dX1_tells_16 : decode cX1_tells 16 = .ok (.invokevirtual 17, 3) := by decide +kernel
theorem dX1_tells_19 : decode cX1_tells 19 = .ok (.iadd, 1) := by decide +kernel
theorem dX1_tells_20 : decode cX1_tells 20 = .ok (.ireturn, 1) := by decide +kernel
theorem dX2_init_0 : decode cX2_init 0 = .ok (.aload_n 0, 1) := by decide +kernel
theorem dX2_init_1 : decode cX2_init 1 = .ok (.invokespecial 1, 3) := by decide +kernel
theorem dX2_init_4 : decode cX2_init 4 = .ok (.aload_n 0, 1) := by decide +kernel
theorem dX2_init_5 : decode cX2_init 5 = .ok (.iconst 0, 1) := by decide +kernel
theorem dX2_init_6 : decode cX2_init 6 = .ok (.putfield 7, 3) := by decide +kernel
theorem dX2_init_9 : decode cX2_init 9 = .ok (.aload_n 0, 1) := by decide +kernel
theorem dX2_init_10 : decode cX2_init 10 = .ok (.iload_n 1, 1) := by decide +kernel
theorem dX2_init_11 : decode cX2_init 11 = .ok (.newarray .int, 2) := by decide +kernel
theorem dX2_init_13 : decode cX2_init 13 = .ok (.putfield 13, 3) := by decide +kernel
theorem dX2_init_16 : decode cX2_init 16 = .ok (.return_, 1) := by decide +kernel
theorem dX2_isFull_0 : decode cX2_isFull 0 = .ok (.aload_n 0, 1) := by decide +kernel
theorem dX2_isFull_1 : decode cX2_isFull 1 = .ok (.getfield 7, 3) := by decide +kernel
theorem dX2_isFull_4 : decode cX2_isFull 4 = .ok (.aload_n 0, 1) := by decide +kernel
theorem dX2_isFull_5 : decode cX2_isFull 5 = .ok (.getfield 13, 3) := by decide +kernel
theorem dX2_isFull_8 : decode cX2_isFull 8 = .ok (.arraylength, 1) := by decide +kernel
theorem dX2_isFull_9 : decode cX2_isFull 9 = .ok (.if_icmp .lt 7, 3) := by decide +kernel
theorem dX2_isFull_12 : decode cX2_isFull 12 = .ok (.iconst 1, 1) := by decide +kernel
theorem dX2_isFull_13 : decode cX2_isFull 13 = .ok (.goto 4, 3) := by decide +kernel
theorem dX2_isFull_16 : decode cX2_isFull 16 = .ok (.iconst 0, 1) := by decide +kernel
theorem dX2_isFull_17 : decode cX2_isFull 17 = .ok (.ireturn, 1) := by decide +kernel
theorem dX2_add_0 : decode cX2_add 0 = .ok (.aload_n 0, 1) := by decide +kernel
theorem dX2_add_1 : decode cX2_add 1 = .ok (.getfield 7, 3) := by decide +kernel
theorem dX2_add_4 : decode cX2_add 4 = .ok (.aload_n 0, 1) := by decide +kernel
theorem dX2_add_5 : decode cX2_add 5 = .ok (.getfield 13, 3) := by decide +kernel
theorem dX2_add_8 : decode cX2_add 8 = .ok (.arraylength, 1) := by decide +kernel
theorem dX2_add_9 : decode cX2_add 9 = .ok (.if_icmp .ge 23, 3) := by decide +kernel
theorem dX2_add_12 : decode cX2_add 12 = .ok (.aload_n 0, 1) := by decide +kernel
theorem dX2_add_13 : decode cX2_add 13 = .ok (.getfield 13, 3) := by decide +kernel
theorem dX2_add_16 : decode cX2_add 16 = .ok (.aload_n 0, 1) := by decide +kernel
theorem dX2_add_17 : decode cX2_add 17 = .ok (.getfield 7, 3) := by decide +kernel
theorem dX2_add_20 : decode cX2_add 20 = .ok (.iload_n 1, 1) := by decide +kernel
theorem dX2_add_21 : decode cX2_add 21 = .ok (.iastore, 1) := by decide +kernel
theorem dX2_add_22 : decode cX2_add 22 = .ok (.aload_n 0, 1) := by decide +kernel
theorem dX2_add_23 : decode cX2_add 23 = .ok (.dup, 1) := by decide +kernel
theorem dX2_add_24 : decode cX2_add 24 = .ok (.getfield 7, 3) := by decide +kernel
theorem dX2_add_27 : decode cX2_add 27 = .ok (.iconst 1, 1) := by decide +kernel
theorem dX2_add_28 : decode cX2_add 28 = .ok (.iadd, 1) := by decide +kernel
theorem dX2_add_29 : decode cX2_add 29 = .ok (.putfield 7, 3) := by decide +kernel
theorem dX2_add_32 : decode cX2_add 32 = .ok (.aload_n 0, 1) := by decide +kernel
theorem dX2_add_33 : decode cX2_add 33 = .ok (.getfield 7, 3) := by decide +kernel
theorem dX2_add_36 : decode cX2_add 36 = .ok (.ireturn, 1) := by decide +kernel
theorem dX2_get_0 : decode cX2_get 0 = .ok (.iload_n 1, 1) := by decide +kernel
theorem dX2_get_1 : decode cX2_get 1 = .ok (.ifCond .lt 20, 3) := by decide +kernel
theorem dX2_get_4 : decode cX2_get 4 = .ok (.iload_n 1, 1) := by decide +kernel
theorem dX2_get_5 : decode cX2_get 5 = .ok (.aload_n 0, 1) := by decide +kernel
theorem dX2_get_6 : decode cX2_get 6 = .ok (.getfield 7, 3) := by decide +kernel
theorem dX2_get_9 : decode cX2_get 9 = .ok (.if_icmp .ge 12, 3) := by decide +kernel
theorem dX2_get_12 : decode cX2_get 12 = .ok (.aload_n 0, 1) := by decide +kernel
theorem dX2_get_13 : decode cX2_get 13 = .ok (.getfield 13, 3) := by decide +kernel
theorem dX2_get_16 : decode cX2_get 16 = .ok (.iload_n 1, 1) := by decide +kernel
theorem dX2_get_17 : decode cX2_get 17 = .ok (.iaload, 1) := by decide +kernel
theorem dX2_get_18 : decode cX2_get 18 = .ok (.goto 4, 3) := by decide +kernel
theorem dX2_get_21 : decode cX2_get 21 = .ok (.iconst 0, 1) := by decide +kernel
theorem dX2_get_22 : decode cX2_get 22 = .ok (.ireturn, 1) := by decide +kernel
theorem dX2_set_0 : decode cX2_set 0 = .ok (.iload_n 1, 1) := by decide +kernel
theorem dX2_set_1 : decode cX2_set 1 = .ok (.ifCond .lt 18, 3) := by decide +kernel
theorem dX2_set_4 : decode cX2_set 4 = .ok (.iload_n 1, 1) := by decide +kernel
theorem dX2_set_5 : decode cX2_set 5 = .ok (.aload_n 0, 1) := by decide +kernel
theorem dX2_set_6 : decode cX2_set 6 = .ok (.getfield 7, 3) := by decide +kernel
theorem dX2_set_9 : decode cX2_set 9 = .ok (.if_icmp .ge 10, 3) := by decide +kernel
theorem dX2_set_12 : decode cX2_set 12 = .ok (.aload_n 0, 1) := by decide +kernel
theorem dX2_set_13 : decode cX2_set 13 = .ok (.getfield 13, 3) := by decide +kernel
theorem dX2_set_16 : decode cX2_set 16 = .ok (.iload_n 1, 1) := by decide +kernel
theorem dX2_set_17 : decode cX2_set 17 = .ok (.iload_n 2, 1) := by decide +kernel
theorem dX2_set_18 : decode cX2_set 18 = .ok (.iastore, 1) := by decide +kernel
theorem dX2_set_19 : decode cX2_set 19 = .ok (.return_, 1) := by decide +kernel
theorem dX2_clear_0 : decode cX2_clear 0 = .ok (.aload_n 0, 1) := by decide +kernel
theorem dX2_clear_1 : decode cX2_clear 1 = .ok (.iconst 0, 1) := by decide +kernel
theorem dX2_clear_2 : decode cX2_clear 2 = .ok (.putfield 7, 3) := by decide +kernel
theorem dX2_clear_5 : decode cX2_clear 5 = .ok (.return_, 1) := by decide +kernel
theorem dX2_become_0 : decode cX2_become 0 = .ok (.aload_n 0, 1) := by decide +kernel
theorem dX2_become_1 : decode cX2_become 1 = .ok (.iconst 0, 1) := by decide +kernel
theorem dX2_become_2 : decode cX2_become 2 = .ok (.putfield 7, 3) := by decide +kernel
theorem dX2_become_5 : decode cX2_become 5 = .ok (.iconst 0, 1) := by decide +kernel
theorem dX2_become_6 : decode cX2_become 6 = .ok (.istore_n 2, 1) := by decide +kernel
theorem dX2_become_7 : decode cX2_become 7 = .ok (.iload_n 2, 1) := by decide +kernel
theorem dX2_become_8 : decode cX2_become 8 = .ok (.aload_n 1, 1) := by decide +kernel
theorem dX2_become_9 : decode cX2_become 9 = .ok (.getfield 7, 3) := by decide +kernel
theorem dX2_become_12 : decode cX2_become 12 = .ok (.if_icmp .ge 20, 3) := by decide +kernel
theorem dX2_become_15 : decode cX2_become 15 = .ok (.aload_n 0, 1) := by decide +kernel
theorem dX2_become_16 : decode cX2_become 16 = .ok (.aload_n 1, 1) := by decide +kernel
theorem dX2_become_17 : decode cX2_become 17 = .ok (.getfield 13, 3) := by decide +kernel
theorem dX2_become_20 : decode cX2_become 20 = .ok (.iload_n 2, 1) := by decide +kernel
theorem dX2_become_21 : decode cX2_become 21 = .ok (.iaload, 1) := by decide +kernel
theorem dX2_become_22 : decode cX2_become 22 = .ok (.invokevirtual 17, 3) := by decide +kernel
theorem dX2_become_25 : decode cX2_become 25 = .ok (.pop, 1) := by decide +kernel
theorem dX2_become_26 : decode cX2_become 26 = .ok (.iinc 2 1, 3) := by decide +kernel
theorem dX2_become_29 : decode cX2_become 29 = .ok (.goto (-22), 3) := by decide +kernel
theorem dX2_become_32 : decode cX2_become 32 = .ok (.return_, 1) := by decide +kernel
theorem dX3_init_0 : decode cX3_init 0 = .ok (.aload_n 0, 1) := by decide +kernel
theorem dX3_init_1 : decode cX3_init 1 = .ok (.invokespecial 3, 3) := by decide +kernel
theorem dX3_init_4 : decode cX3_init 4 = .ok (.aload_n 0, 1) := by decide +kernel
theorem dX3_init_5 : decode cX3_init 5 = .ok (.new 9, 3) := by decide +kernel
theorem dX3_init_8 : decode cX3_init 8 = .ok (.dup, 1) := by decide +kernel
theorem dX3_init_9 : decode cX3_init 9 = .ok (.bipush 8, 2) := by decide +kernel
theorem dX3_init_11 : decode cX3_init 11 = .ok (.invokespecial 11, 3) := by decide +kernel
theorem dX3_init_14 : decode cX3_init 14 = .ok (.putfield 14, 3) := by decide +kernel
theorem dX3_init_17 : decode cX3_init 17 = .ok (.aload_n 0, 1) := by decide +kernel
theorem dX3_init_18 : decode cX3_init 18 = .ok (.iconst 5, 1) := by decide +kernel
theorem dX3_init_19 : decode cX3_init 19 = .ok (.anewarray 20, 3) := by decide +kernel
theorem dX3_init_22 : decode cX3_init 22 = .ok (.putfield 22, 3) := by decide +kernel
theorem dX3_init_25 : decode cX3_init 25 = .ok (.aload_n 0, 1) := by decide +kernel
theorem dX3_init_26 : decode cX3_init 26 = .ok (.iconst 0, 1) := by decide +kernel
theorem dX3_init_27 : decode cX3_init 27 = .ok (.putfield 26, 3) := by decide +kernel
theorem dX3_init_30 : decode cX3_init 30 = .ok (.aload_n 0, 1) := by decide +kernel
theorem dX3_init_31 : decode cX3_init 31 = .ok (.iconst 5, 1) := by decide +kernel
theorem dX3_init_32 : decode cX3_init 32 = .ok (.newarray .int, 2) := by decide +kernel
theorem dX3_init_34 : decode cX3_init 34 = .ok (.putfield 30, 3) := by decide +kernel
theorem dX3_init_37 : decode cX3_init 37 = .ok (.aload_n 0, 1) := by decide +kernel
theorem dX3_init_38 : decode cX3_init 38 = .ok (.bipush 20, 2) := by decide +kernel
theorem dX3_init_40 : decode cX3_init 40 = .ok (.newarray .int, 2) := by decide +kernel
theorem dX3_init_42 : decode cX3_init 42 = .ok (.putfield 34, 3) := by decide +kernel
theorem dX3_init_45 : decode cX3_init 45 = .ok (.aload_n 0, 1) := by decide +kernel
theorem dX3_init_46 : decode cX3_init 46 = .ok (.iconst 0, 1) := by decide +kernel
theorem dX3_init_47 : decode cX3_init 47 = .ok (.putfield 37, 3) := by decide +kernel
theorem dX3_init_50 : decode cX3_init 50 = .ok (.aload_n 0, 1) := by decide +kernel
theorem dX3_init_51 : decode cX3_init 51 = .ok (.new 9, 3) := by decide +kernel
theorem dX3_init_54 : decode cX3_init 54 = .ok (.dup, 1) := by decide +kernel
theorem dX3_init_55 : decode cX3_init 55 = .ok (.iconst 5, 1) := by decide +kernel
theorem dX3_init_56 : decode cX3_init 56 = .ok (.invokespecial 11, 3) := by decide +kernel
theorem dX3_init_59 : decode cX3_init 59 = .ok (.putfield 40, 3) := by decide +kernel
theorem dX3_init_62 : decode cX3_init 62 = .ok (.aload_n 0, 1) := by decide +kernel
theorem dX3_init_63 : decode cX3_init 63 = .ok (.new 9, 3) := by decide +kernel
theorem dX3_init_66 : decode cX3_init 66 = .ok (.dup, 1) := by decide +kernel
theorem dX3_init_67 : decode cX3_init 67 = .ok (.bipush 8, 2) := by decide +kernel
theorem dX3_init_69 : decode cX3_init 69 = .ok (.invokespecial 11, 3) := by decide +kernel
theorem dX3_init_72 : decode cX3_init 72 = .ok (.putfield 43, 3) := by decide +kernel
theorem dX3_init_75 : decode cX3_init 75 = .ok (.aload_n 0, 1) := by decide +kernel
theorem dX3_init_76 : decode cX3_init 76 = .ok (.new 9, 3) := by decide +kernel
theorem dX3_init_79 : decode cX3_init 79 = .ok (.dup, 1) := by decide +kernel
theorem dX3_init_80 : decode cX3_init 80 = .ok (.bipush 8, 2) := by decide +kernel
theorem dX3_init_82 : decode cX3_init 82 = .ok (.invokespecial 11, 3) := by decide +kernel
theorem dX3_init_85 : decode cX3_init 85 = .ok (.putfield 46, 3) := by decide +kernel
theorem dX3_init_88 : decode cX3_init 88 = .ok (.aload_n 0, 1) := by decide +kernel
theorem dX3_init_89 : decode cX3_init 89 = .ok (.aconst_null, 1) := by decide +kernel
theorem dX3_init_90 : decode cX3_init 90 = .ok (.putfield 49, 3) := by decide +kernel
theorem dX3_init_93 : decode cX3_init 93 = .ok (.return_, 1) := by decide +kernel
theorem dX3_join_0 : decode cX3_join 0 = .ok (.aload_n 0, 1) := by decide +kernel
theorem dX3_join_1 : decode cX3_join 1 = .ok (.getfield 26, 3) := by decide +kernel
theorem dX3_join_4 : decode cX3_join 4 = .ok (.istore_n 2, 1) := by decide +kernel
theorem dX3_join_5 : decode cX3_join 5 = .ok (.iload_n 2, 1) := by decide +kernel
theorem dX3_join_6 : decode cX3_join 6 = .ok (.iconst 5, 1) := by decide +kernel
theorem dX3_join_7 : decode cX3_join 7 = .ok (.if_icmp .ge 20, 3) := by decide +kernel
theorem dX3_join_10 : decode cX3_join 10 = .ok (.aload_n 0, 1) := by decide +kernel
theorem dX3_join_11 : decode cX3_join 11 = .ok (.getfield 22, 3) := by decide +kernel
theorem dX3_join_14 : decode cX3_join 14 = .ok (.iload_n 2, 1) := by decide +kernel
theorem dX3_join_15 : decode cX3_join 15 = .ok (.aload_n 1, 1) := by decide +kernel
theorem dX3_join_16 : decode cX3_join 16 = .ok (.aastore, 1) := by decide +kernel
theorem dX3_join_17 : decode cX3_join 17 = .ok (.aload_n 0, 1) := by decide +kernel
theorem dX3_join_18 : decode cX3_join 18 = .ok (.dup, 1) := by decide +kernel
theorem dX3_join_19 : decode cX3_join 19 = .ok (.getfield 26, 3) := by decide +kernel
theorem dX3_join_22 : decode cX3_join 22 = .ok (.iconst 1, 1) := by decide +kernel
theorem dX3_join_23 : decode cX3_join 23 = .ok (.iadd, 1) := by decide +kernel
theorem dX3_join_24 : decode cX3_join 24 = .ok (.putfield 26, 3) := by decide +kernel
theorem dX3_join_27 : decode cX3_join 27 = .ok (.iload_n 2, 1) := by decide +kernel
theorem dX3_join_28 : decode cX3_join 28 = .ok (.ireturn, 1) := by decide +kernel
theorem dX3_become_0 : decode cX3_become 0 = .ok (.aload_n 0, 1) := by decide +kernel
theorem dX3_become_1 : decode cX3_become 1 = .ok (.getfield 14, 3) := by decide +kernel
theorem dX3_become_4 : decode cX3_become 4 = .ok (.aload_n 1, 1) := by decide +kernel
theorem dX3_become_5 : decode cX3_become 5 = .ok (.getfield 14, 3) := by decide +kernel
theorem dX3_become_8 : decode cX3_become 8 = .ok (.invokevirtual 53, 3) := by decide +kernel
theorem dX3_become_11 : decode cX3_become 11 = .ok (.aload_n 0, 1) := by decide +kernel
theorem dX3_become_12 : decode cX3_become 12 = .ok (.getfield 40, 3) := by decide +kernel
theorem dX3_become_15 : decode cX3_become 15 = .ok (.aload_n 1, 1) := by decide +kernel
theorem dX3_become_16 : decode cX3_become 16 = .ok (.getfield 40, 3) := by decide +kernel
theorem dX3_become_19 : decode cX3_become 19 = .ok (.invokevirtual 53, 3) := by decide +kernel
theorem dX3_become_22 : decode cX3_become 22 = .ok (.aload_n 0, 1) := by decide +kernel
theorem dX3_become_23 : decode cX3_become 23 = .ok (.getfield 43, 3) := by decide +kernel
theorem dX3_become_26 : decode cX3_become 26 = .ok (.aload_n 1, 1) := by decide +kernel
theorem dX3_become_27 : decode cX3_become 27 = .ok (.getfield 43, 3) := by decide +kernel
theorem dX3_become_30 : decode cX3_become 30 = .ok (.invokevirtual 53, 3) := by decide +kernel
theorem dX3_become_33 : decode cX3_become 33 = .ok (.aload_n 0, 1) := by decide +kernel
theorem dX3_become_34 : decode cX3_become 34 = .ok (.getfield 46, 3) := by decide +kernel
theorem dX3_become_37 : decode cX3_become 37 = .ok (.aload_n 1, 1) := by decide +kernel
theorem dX3_become_38 : decode cX3_become 38 = .ok (.getfield 46, 3) := by decide +kernel
theorem dX3_become_41 : decode cX3_become 41 = .ok (.invokevirtual 53, 3) := by decide +kernel
theorem dX3_become_44 : decode cX3_become 44 = .ok (.iconst 0, 1) := by decide +kernel
theorem dX3_become_45 : decode cX3_become 45 = .ok (.istore_n 2, 1) := by decide +kernel
theorem dX3_become_46 : decode cX3_become 46 = .ok (.iload_n 2, 1) := by decide +kernel
theorem dX3_become_47 : decode cX3_become 47 = .ok (.iconst 5, 1) := by decide +kernel
theorem dX3_become_48 : decode cX3_become 48 = .ok (.if_icmp .ge 21, 3) := by decide +kernel
theorem dX3_become_51 : decode cX3_become 51 = .ok (.aload_n 0, 1) := by decide +kernel
theorem dX3_become_52 : decode cX3_become 52 = .ok (.getfield 22, 3) := by decide +kernel
theorem dX3_become_55 : decode cX3_become 55 = .ok (.iload_n 2, 1) := by decide +kernel
theorem dX3_become_56 : decode cX3_become 56 = .ok (.aload_n 1, 1) := by decide +kernel
theorem dX3_become_57 : decode cX3_become 57 = .ok (.getfield 22, 3) := by decide +kernel
theorem dX3_become_60 : decode cX3_become 60 = .ok (.iload_n 2, 1) := by decide +kernel
theorem dX3_become_61 : decode cX3_become 61 = .ok (.aaload, 1) := by decide +kernel
theorem dX3_become_62 : decode cX3_become 62 = .ok (.aastore, 1) := by decide +kernel
theorem dX3_become_63 : decode cX3_become 63 = .ok (.iinc 2 1, 3) := by decide +kernel
theorem dX3_become_66 : decode cX3_become 66 = .ok (.goto (-20), 3) := by decide +kernel
theorem dX3_become_69 : decode cX3_become 69 = .ok (.aload_n 0, 1) := by decide +kernel
theorem dX3_become_70 : decode cX3_become 70 = .ok (.aload_n 1, 1) := by decide +kernel
theorem dX3_become_71 : decode cX3_become 71 = .ok (.getfield 26, 3) := by decide +kernel
theorem dX3_become_74 : decode cX3_become 74 = .ok (.putfield 26, 3) := by decide +kernel
theorem dX3_become_77 : decode cX3_become 77 = .ok (.aload_n 1, 1) := by decide +kernel
theorem dX3_become_78 : decode cX3_become 78 = .ok (.getfield 30, 3) := by decide +kernel
theorem dX3_become_81 : decode cX3_become 81 = .ok (.iconst 0, 1) := by decide +kernel
theorem dX3_become_82 : decode cX3_become 82 = .ok (.aload_n 0, 1) := by decide +kernel
theorem dX3_become_83 : decode cX3_become 83 = .ok (.getfield 30, 3) := by decide +kernel
theorem dX3_become_86 : decode cX3_become 86 = .ok (.iconst 0, 1) := by decide +kernel
theorem dX3_become_87 : decode cX3_become 87 = .ok (.iconst 5, 1) := by decide +kernel
theorem dX3_become_88 : decode cX3_become 88 = .ok (.invokestatic 57, 3) := by decide +kernel
theorem dX3_become_91 : decode cX3_become 91 = .ok (.aload_n 1, 1) := by decide +kernel
theorem dX3_become_92 : decode cX3_become 92 = .ok (.getfield 34, 3) := by decide +kernel
theorem dX3_become_95 : decode cX3_become 95 = .ok (.iconst 0, 1) := by decide +kernel
theorem dX3_become_96 : decode cX3_become 96 = .ok (.aload_n 0, 1) := by decide +kernel
theorem dX3_become_97 : decode cX3_become 97 = .ok (.getfield 34, 3) := by decide +kernel
theorem dX3_become_100 : decode cX3_become 100 = .ok (.iconst 0, 1) := by decide +kernel
theorem dX3_become_101 : decode cX3_become 101 = .ok (.bipush 20, 2) := by decide +kernel
theorem dX3_become_103 : decode cX3_become 103 = .ok (.invokestatic 57, 3) := by decide +kernel
theorem dX3_become_106 : decode cX3_become 106 = .ok (.aload_n 0, 1) := by decide +kernel
theorem dX3_become_107 : decode cX3_become 107 = .ok (.aload_n 1, 1) := by decide +kernel
theorem dX3_become_108 : decode cX3_become 108 = .ok (.getfield 37, 3) := by decide +kernel
theorem dX3_become_111 : decode cX3_become 111 = .ok (.putfield 37, 3) := by decide +kernel
theorem dX3_become_114 : decode cX3_become 114 = .ok (.aload_n 0, 1) := by decide +kernel
theorem dX3_become_115 : decode cX3_become 115 = .ok (.aload_n 1, 1) := by decide +kernel
theorem dX3_become_116 : decode cX3_become 116 = .ok (.getfield 49, 3) := by decide +kernel
theorem dX3_become_119 : decode cX3_become 119 = .ok (.putfield 49, 3) := by decide +kernel
theorem dX3_become_122 : decode cX3_become 122 = .ok (.return_, 1) := by decide +kernel
theorem dX4_init_0 : decode cX4_init 0 = .ok (.aload_n 0, 1) := by decide +kernel
theorem dX4_init_1 : decode cX4_init 1 = .ok (.invokespecial 1, 3) := by decide +kernel
theorem dX4_init_4 : decode cX4_init 4 = .ok (.aload_n 0, 1) := by decide +kernel
theorem dX4_init_5 : decode cX4_init 5 = .ok (.iload_n 1, 1) := by decide +kernel
theorem dX4_init_6 : decode cX4_init 6 = .ok (.putfield 7, 3) := by decide +kernel
theorem dX4_init_9 : decode cX4_init 9 = .ok (.aload_n 0, 1) := by decide +kernel
theorem dX4_init_10 : decode cX4_init 10 = .ok (.iload_n 2, 1) := by decide +kernel
theorem dX4_init_11 : decode cX4_init 11 = .ok (.putfield 13, 3) := by decide +kernel
theorem dX4_init_14 : decode cX4_init 14 = .ok (.aload_n 0, 1) := by decide +kernel
theorem dX4_init_15 : decode cX4_init 15 = .ok (.iload_n 3, 1) := by decide +kernel
theorem dX4_init_16 : decode cX4_init 16 = .ok (.putfield 16, 3) := by decide +kernel
theorem dX4_init_19 : decode cX4_init 19 = .ok (.return_, 1) := by decide +kernel
theorem dX4_showing_0 : decode cX4_showing 0 = .ok (.iload_n 1, 1) := by decide +kernel
theorem dX4_showing_1 : decode cX4_showing 1 = .ok (.ireturn, 1) := by decide +kernel
theorem dX4_tilts_0 : decode cX4_tilts 0 = .ok (.aload_n 2, 1) := by decide +kernel
theorem dX4_tilts_1 : decode cX4_tilts 1 = .ok (.bipush 10, 2) := by decide +kernel
theorem dX4_tilts_3 : decode cX4_tilts 3 = .ok (.invokevirtual 19, 3) := by decide +kernel
theorem dX4_tilts_6 : decode cX4_tilts 6 = .ok (.pop, 1) := by decide +kernel
theorem dX4_tilts_7 : decode cX4_tilts 7 = .ok (.iload_n 1, 1) := by decide +kernel
theorem dX4_tilts_8 : decode cX4_tilts 8 = .ok (.aload_n 0, 1) := by decide +kernel
theorem dX4_tilts_9 : decode cX4_tilts 9 = .ok (.getfield 7, 3) := by decide +kernel
theorem dX4_tilts_12 : decode cX4_tilts 12 = .ok (.iadd, 1) := by decide +kernel
theorem dX4_tilts_13 : decode cX4_tilts 13 = .ok (.ireturn, 1) := by decide +kernel
theorem dX4_sends_0 : decode cX4_sends 0 = .ok (.aload_n 2, 1) := by decide +kernel
theorem dX4_sends_1 : decode cX4_sends 1 = .ok (.bipush 11, 2) := by decide +kernel
theorem dX4_sends_3 : decode cX4_sends 3 = .ok (.invokevirtual 19, 3) := by decide +kernel
theorem dX4_sends_6 : decode cX4_sends 6 = .ok (.pop, 1) := by decide +kernel
theorem dX4_sends_7 : decode cX4_sends 7 = .ok (.aload_n 0, 1) := by decide +kernel
theorem dX4_sends_8 : decode cX4_sends 8 = .ok (.iload_n 1, 1) := by decide +kernel
theorem dX4_sends_9 : decode cX4_sends 9 = .ok (.aload_n 2, 1) := by decide +kernel
theorem dX4_sends_10 : decode cX4_sends 10 = .ok (.invokevirtual 25, 3) := by decide +kernel
theorem dX4_sends_13 : decode cX4_sends 13 = .ok (.aload_n 0, 1) := by decide +kernel
theorem dX4_sends_14 : decode cX4_sends 14 = .ok (.getfield 16, 3) := by decide +kernel
theorem dX4_sends_17 : decode cX4_sends 17 = .ok (.isub, 1) := by decide +kernel
theorem dX4_sends_18 : decode cX4_sends 18 = .ok (.ireturn, 1) := by decide +kernel
theorem dX4_tells_0 : decode cX4_tells 0 = .ok (.aload_n 2, 1) := by decide +kernel
theorem dX4_tells_1 : decode cX4_tells 1 = .ok (.bipush 12, 2) := by decide +kernel
theorem dX4_tells_3 : decode cX4_tells 3 = .ok (.invokevirtual 19, 3) := by decide +kernel
theorem dX4_tells_6 : decode cX4_tells 6 = .ok (.pop, 1) := by decide +kernel
theorem dX4_tells_7 : decode cX4_tells 7 = .ok (.aload_n 0, 1) := by decide +kernel
theorem dX4_tells_8 : decode cX4_tells 8 = .ok (.iload_n 1, 1) := by decide +kernel
theorem dX4_tells_9 : decode cX4_tells 9 = .ok (.aload_n 2, 1) := by decide +kernel
theorem dX4_tells_10 : decode cX4_tells 10 = .ok (.invokevirtual 29, 3) := by decide +kernel
theorem dX4_tells_13 : decode cX4_tells 13 = .ok (.iconst 2, 1) := by decide +kernel
theorem dX4_tells_14 : decode cX4_tells 14 = .ok (.imul, 1) := by decide +kernel
theorem dX4_tells_15 : decode cX4_tells 15 = .ok (.ireturn, 1) := by decide +kernel
theorem dX5_init_0 : decode cX5_init 0 = .ok (.aload_n 0, 1) := by decide +kernel
theorem dX5_init_1 : decode cX5_init 1 = .ok (.iload_n 1, 1) := by decide +kernel
theorem dX5_init_2 : decode cX5_init 2 = .ok (.iload_n 2, 1) := by decide +kernel
theorem dX5_init_3 : decode cX5_init 3 = .ok (.iload_n 3, 1) := by decide +kernel
theorem dX5_init_4 : decode cX5_init 4 = .ok (.invokespecial 1, 3) := by decide +kernel
theorem dX5_init_7 : decode cX5_init 7 = .ok (.return_, 1) := by decide +kernel
theorem dX5_showing_0 : decode cX5_showing 0 = .ok (.aload_n 0, 1) := by decide +kernel
theorem dX5_showing_1 : decode cX5_showing 1 = .ok (.iload_n 1, 1) := by decide +kernel
theorem dX5_showing_2 : decode cX5_showing 2 = .ok (.iload_n 2, 1) := by decide +kernel
theorem dX5_showing_3 : decode cX5_showing 3 = .ok (.iload_n 3, 1) := by decide +kernel
theorem dX5_showing_4 : decode cX5_showing 4 = .ok (.iload 4, 2) := by decide +kernel
theorem dX5_showing_6 : decode cX5_showing 6 = .ok (.invokespecial 7, 3) := by decide +kernel
theorem dX5_showing_9 : decode cX5_showing 9 = .ok (.invokestatic 11, 3) := by decide +kernel
theorem dX5_showing_12 : decode cX5_showing 12 = .ok (.ireturn, 1) := by decide +kernel
theorem dX5_tilts_0 : decode cX5_tilts 0 = .ok (.aload_n 2, 1) := by decide +kernel
theorem dX5_tilts_1 : decode cX5_tilts 1 = .ok (.bipush 50, 2) := by decide +kernel
theorem dX5_tilts_3 : decode cX5_tilts 3 = .ok (.invokevirtual 17, 3) := by decide +kernel
theorem dX5_tilts_6 : decode cX5_tilts 6 = .ok (.pop, 1) := by decide +kernel
theorem dX5_tilts_7 : decode cX5_tilts 7 = .ok (.aload_n 0, 1) := by decide +kernel
theorem dX5_tilts_8 : decode cX5_tilts 8 = .ok (.iload_n 1, 1) := by decide +kernel
theorem dX5_tilts_9 : decode cX5_tilts 9 = .ok (.aload_n 2, 1) := by decide +kernel
theorem dX5_tilts_10 : decode cX5_tilts 10 = .ok (.invokespecial 23, 3) := by decide +kernel
theorem dX5_tilts_13 : decode cX5_tilts 13 = .ok (.ineg, 1) := by decide +kernel
theorem dX5_tilts_14 : decode cX5_tilts 14 = .ok (.ireturn, 1) := by decide +kernel
theorem dX5_sends_0 : decode cX5_sends 0 = .ok (.aload_n 2, 1) := by decide +kernel
theorem dX5_sends_1 : decode cX5_sends 1 = .ok (.bipush 51, 2) := by decide +kernel
theorem dX5_sends_3 : decode cX5_sends 3 = .ok (.invokevirtual 17, 3) := by decide +kernel
theorem dX5_sends_6 : decode cX5_sends 6 = .ok (.pop, 1) := by decide +kernel
theorem dX5_sends_7 : decode cX5_sends 7 = .ok (.aload_n 0, 1) := by decide +kernel
theorem dX5_sends_8 : decode cX5_sends 8 = .ok (.iload_n 1, 1) := by decide +kernel
theorem dX5_sends_9 : decode cX5_sends 9 = .ok (.iconst 1, 1) := by decide +kernel
theorem dX5_sends_10 : decode cX5_sends 10 = .ok (.iadd, 1) := by decide +kernel
theorem dX5_sends_11 : decode cX5_sends 11 = .ok (.aload_n 2, 1) := by decide +kernel
theorem dX5_sends_12 : decode cX5_sends 12 = .ok (.invokespecial 27, 3) := by decide +kernel
theorem dX5_sends_15 : decode cX5_sends 15 = .ok (.ireturn, 1) := by decide +kernel
theorem dX6_init_0 : decode cX6_init 0 = .ok (.aload_n 0, 1) := by decide +kernel
theorem dX6_init_1 : decode cX6_init 1 = .ok (.invokespecial 1, 3) := by decide +kernel
theorem dX6_init_4 : decode cX6_init 4 = .ok (.aload_n 0, 1) := by decide +kernel
theorem dX6_init_5 : decode cX6_init 5 = .ok (.bipush 60, 2) := by decide +kernel
theorem dX6_init_7 : decode cX6_init 7 = .ok (.newarray .long, 2) := by decide +kernel
theorem dX6_init_9 : decode cX6_init 9 = .ok (.putfield 9, 3) := by decide +kernel
theorem dX6_init_12 : decode cX6_init 12 = .ok (.aload_n 0, 1) := by decide +kernel
theorem dX6_init_13 : decode cX6_init 13 = .ok (.iconst (-1), 1) := by decide +kernel
theorem dX6_init_14 : decode cX6_init 14 = .ok (.putfield 13, 3) := by decide +kernel
theorem dX6_init_17 : decode cX6_init 17 = .ok (.aload_n 0, 1) := by decide +kernel
theorem dX6_init_18 : decode cX6_init 18 = .ok (.iconst 0, 1) := by decide +kernel
theorem dX6_init_19 : decode cX6_init 19 = .ok (.putfield 17, 3) := by decide +kernel
theorem dX6_init_22 : decode cX6_init 22 = .ok (.return_, 1) := by decide +kernel
theorem dX6_blank_0 : decode cX6_blank 0 = .ok (.aload_n 0, 1) := by decide +kernel
theorem dX6_blank_1 : decode cX6_blank 1 = .ok (.iload_n 1, 1) := by decide +kernel
theorem dX6_blank_2 : decode cX6_blank 2 = .ok (.putfield 13, 3) := by decide +kernel
theorem dX6_blank_5 : decode cX6_blank 5 = .ok (.aload_n 0, 1) := by decide +kernel
theorem dX6_blank_6 : decode cX6_blank 6 = .ok (.iload_n 2, 1) := by decide +kernel
theorem dX6_blank_7 : decode cX6_blank 7 = .ok (.putfield 17, 3) := by decide +kernel
theorem dX6_blank_10 : decode cX6_blank 10 = .ok (.iconst 0, 1) := by decide +kernel
theorem dX6_blank_11 : decode cX6_blank 11 = .ok (.istore_n 3, 1) := by decide +kernel
theorem dX6_blank_12 : decode cX6_blank 12 = .ok (.iload_n 3, 1) := by decide +kernel
theorem dX6_blank_13 : decode cX6_blank 13 = .ok (.bipush 60, 2) := by decide +kernel
theorem dX6_blank_15 : decode cX6_blank 15 = .ok (.if_icmp .ge 16, 3) := by decide +kernel
theorem dX6_blank_18 : decode cX6_blank 18 = .ok (.aload_n 0, 1) := by decide +kernel
theorem dX6_blank_19 : decode cX6_blank 19 = .ok (.getfield 9, 3) := by decide +kernel
theorem dX6_blank_22 : decode cX6_blank 22 = .ok (.iload_n 3, 1) := by decide +kernel
theorem dX6_blank_23 : decode cX6_blank 23 = .ok (.lconst 0, 1) := by decide +kernel
theorem dX6_blank_24 : decode cX6_blank 24 = .ok (.lastore, 1) := by decide +kernel
theorem dX6_blank_25 : decode cX6_blank 25 = .ok (.iinc 3 1, 3) := by decide +kernel
theorem dX6_blank_28 : decode cX6_blank 28 = .ok (.goto (-16), 3) := by decide +kernel
theorem dX6_blank_31 : decode cX6_blank 31 = .ok (.return_, 1) := by decide +kernel
theorem dX6_has_0 : decode cX6_has 0 = .ok (.iload_n 1, 1) := by decide +kernel
theorem dX6_has_1 : decode cX6_has 1 = .ok (.ifCond .lt 15, 3) := by decide +kernel
theorem dX6_has_4 : decode cX6_has 4 = .ok (.iload_n 1, 1) := by decide +kernel
theorem dX6_has_5 : decode cX6_has 5 = .ok (.aload_n 0, 1) := by decide +kernel
theorem dX6_has_6 : decode cX6_has 6 = .ok (.getfield 17, 3) := by decide +kernel
theorem dX6_has_9 : decode cX6_has 9 = .ok (.if_icmp .ge 7, 3) := by decide +kernel
theorem dX6_has_12 : decode cX6_has 12 = .ok (.iconst 1, 1) := by decide +kernel
theorem dX6_has_13 : decode cX6_has 13 = .ok (.goto 4, 3) := by decide +kernel
theorem dX6_has_16 : decode cX6_has 16 = .ok (.iconst 0, 1) := by decide +kernel
theorem dX6_has_17 : decode cX6_has 17 = .ok (.ireturn, 1) := by decide +kernel
theorem dX6_hasSpan_0 : decode cX6_hasSpan 0 = .ok (.iload_n 2, 1) := by decide +kernel
theorem dX6_hasSpan_1 : decode cX6_hasSpan 1 = .ok (.ifCond .lt 29, 3) := by decide +kernel
theorem dX6_hasSpan_4 : decode cX6_hasSpan 4 = .ok (.iload_n 2, 1) := by decide +kernel
theorem dX6_hasSpan_5 : decode cX6_hasSpan 5 = .ok (.aload_n 0, 1) := by decide +kernel
theorem dX6_hasSpan_6 : decode cX6_hasSpan 6 = .ok (.getfield 17, 3) := by decide +kernel
theorem dX6_hasSpan_9 : decode cX6_hasSpan 9 = .ok (.if_icmp .gt 21, 3) := by decide +kernel
theorem dX6_hasSpan_12 : decode cX6_hasSpan 12 = .ok (.iload_n 1, 1) := by decide +kernel
theorem dX6_hasSpan_13 : decode cX6_hasSpan 13 = .ok (.ifCond .lt 17, 3) := by decide +kernel
theorem dX6_hasSpan_16 : decode cX6_hasSpan 16 = .ok (.iload_n 1, 1) := by decide +kernel
theorem dX6_hasSpan_17 : decode cX6_hasSpan 17 = .ok (.aload_n 0, 1) := by decide +kernel
theorem dX6_hasSpan_18 : decode cX6_hasSpan 18 = .ok (.getfield 17, 3) := by decide +kernel
theorem dX6_hasSpan_21 : decode cX6_hasSpan 21 = .ok (.iload_n 2, 1) := by decide +kernel
theorem dX6_hasSpan_22 : decode cX6_hasSpan 22 = .ok (.isub, 1) := by decide +kernel
theorem dX6_hasSpan_23 : decode cX6_hasSpan 23 = .ok (.if_icmp .gt 7, 3) := by decide +kernel
theorem dX6_hasSpan_26 : decode cX6_hasSpan 26 = .ok (.iconst 1, 1) := by decide +kernel
theorem dX6_hasSpan_27 : decode cX6_hasSpan 27 = .ok (.goto 4, 3) := by decide +kernel
theorem dX6_hasSpan_30 : decode cX6_hasSpan 30 = .ok (.iconst 0, 1) := by decide +kernel
theorem dX6_hasSpan_31 : decode cX6_hasSpan 31 = .ok (.ireturn, 1) := by decide +kernel
theorem dX6_narrowed_0 : decode cX6_narrowed 0 = .ok (.iload_n 0, 1) := by decide +kernel
theorem dX6_narrowed_1 : decode cX6_narrowed 1 = .ok (.tableswitch 61 0 4 #[35, 40, 45, 61, 49], 35) := by decide +kernel
theorem dX6_narrowed_36 : decode cX6_narrowed 36 = .ok (.lload_n 1, 1) := by decide +kernel
theorem dX6_narrowed_37 : decode cX6_narrowed 37 = .ok (.l2i, 1) := by decide +kernel
theorem dX6_narrowed_38 : decode cX6_narrowed 38 = .ok (.i2b, 1) := by decide +kernel
theorem dX6_narrowed_39 : decode cX6_narrowed 39 = .ok (.i2l, 1) := by decide +kernel
theorem dX6_narrowed_40 : decode cX6_narrowed 40 = .ok (.lreturn, 1) := by decide +kernel
theorem dX6_narrowed_41 : decode cX6_narrowed 41 = .ok (.lload_n 1, 1) := by decide +kernel
theorem dX6_narrowed_42 : decode cX6_narrowed 42 = .ok (.l2i, 1) := by decide +kernel
theorem dX6_narrowed_43 : decode cX6_narrowed 43 = .ok (.i2s, 1) := by decide +kernel
theorem dX6_narrowed_44 : decode cX6_narrowed 44 = .ok (.i2l, 1) := by decide +kernel
theorem dX6_narrowed_45 : decode cX6_narrowed 45 = .ok (.lreturn, 1) := by decide +kernel
theorem dX6_narrowed_46 : decode cX6_narrowed 46 = .ok (.lload_n 1, 1) := by decide +kernel
theorem dX6_narrowed_47 : decode cX6_narrowed 47 = .ok (.l2i, 1) := by decide +kernel
theorem dX6_narrowed_48 : decode cX6_narrowed 48 = .ok (.i2l, 1) := by decide +kernel
theorem dX6_narrowed_49 : decode cX6_narrowed 49 = .ok (.lreturn, 1) := by decide +kernel
theorem dX6_narrowed_50 : decode cX6_narrowed 50 = .ok (.lload_n 1, 1) := by decide +kernel
theorem dX6_narrowed_51 : decode cX6_narrowed 51 = .ok (.lconst 0, 1) := by decide +kernel
theorem dX6_narrowed_52 : decode cX6_narrowed 52 = .ok (.lcmp, 1) := by decide +kernel
theorem dX6_narrowed_53 : decode cX6_narrowed 53 = .ok (.ifCond .eq 7, 3) := by decide +kernel
theorem dX6_narrowed_56 : decode cX6_narrowed 56 = .ok (.lconst 1, 1) := by decide +kernel
theorem dX6_narrowed_57 : decode cX6_narrowed 57 = .ok (.goto 4, 3) := by decide +kernel
theorem dX6_narrowed_60 : decode cX6_narrowed 60 = .ok (.lconst 0, 1) := by decide +kernel
theorem dX6_narrowed_61 : decode cX6_narrowed 61 = .ok (.lreturn, 1) := by decide +kernel
theorem dX6_narrowed_62 : decode cX6_narrowed 62 = .ok (.lload_n 1, 1) := by decide +kernel
theorem dX6_narrowed_63 : decode cX6_narrowed 63 = .ok (.lreturn, 1) := by decide +kernel
theorem dX7_init_0 : decode cX7_init 0 = .ok (.aload_n 0, 1) := by decide +kernel
theorem dX7_init_1 : decode cX7_init 1 = .ok (.iload_n 1, 1) := by decide +kernel
theorem dX7_init_2 : decode cX7_init 2 = .ok (.iload_n 2, 1) := by decide +kernel
theorem dX7_init_3 : decode cX7_init 3 = .ok (.iload_n 3, 1) := by decide +kernel
theorem dX7_init_4 : decode cX7_init 4 = .ok (.invokespecial 1, 3) := by decide +kernel
theorem dX7_init_7 : decode cX7_init 7 = .ok (.return_, 1) := by decide +kernel
theorem dX7_showing_0 : decode cX7_showing 0 = .ok (.iload_n 1, 1) := by decide +kernel
theorem dX7_showing_1 : decode cX7_showing 1 = .ok (.iconst 1, 1) := by decide +kernel
theorem dX7_showing_2 : decode cX7_showing 2 = .ok (.invokestatic 7, 3) := by decide +kernel
theorem dX7_showing_5 : decode cX7_showing 5 = .ok (.ireturn, 1) := by decide +kernel
theorem dX7_sends_0 : decode cX7_sends 0 = .ok (.aload_n 2, 1) := by decide +kernel
theorem dX7_sends_1 : decode cX7_sends 1 = .ok (.bipush 20, 2) := by decide +kernel
theorem dX7_sends_3 : decode cX7_sends 3 = .ok (.invokevirtual 13, 3) := by decide +kernel
theorem dX7_sends_6 : decode cX7_sends 6 = .ok (.pop, 1) := by decide +kernel
theorem dX7_sends_7 : decode cX7_sends 7 = .ok (.aload_n 0, 1) := by decide +kernel
theorem dX7_sends_8 : decode cX7_sends 8 = .ok (.iload_n 1, 1) := by decide +kernel
theorem dX7_sends_9 : decode cX7_sends 9 = .ok (.aload_n 2, 1) := by decide +kernel
theorem dX7_sends_10 : decode cX7_sends 10 = .ok (.invokespecial 19, 3) := by decide +kernel
theorem dX7_sends_13 : decode cX7_sends 13 = .ok (.bipush 6, 2) := by decide +kernel
theorem dX7_sends_15 : decode cX7_sends 15 = .ok (.ixor, 1) := by decide +kernel
theorem dX7_sends_16 : decode cX7_sends 16 = .ok (.ireturn, 1) := by decide +kernel
theorem dX8_init_0 : decode cX8_init 0 = .ok (.aload_n 0, 1) := by decide +kernel
theorem dX8_init_1 : decode cX8_init 1 = .ok (.iload_n 1, 1) := by decide +kernel
theorem dX8_init_2 : decode cX8_init 2 = .ok (.iload_n 2, 1) := by decide +kernel
theorem dX8_init_3 : decode cX8_init 3 = .ok (.iload_n 3, 1) := by decide +kernel
theorem dX8_init_4 : decode cX8_init 4 = .ok (.invokespecial 1, 3) := by decide +kernel
theorem dX8_init_7 : decode cX8_init 7 = .ok (.return_, 1) := by decide +kernel
theorem dX8_showing_0 : decode cX8_showing 0 = .ok (.aload_n 0, 1) := by decide +kernel
theorem dX8_showing_1 : decode cX8_showing 1 = .ok (.iload_n 1, 1) := by decide +kernel
theorem dX8_showing_2 : decode cX8_showing 2 = .ok (.iload_n 2, 1) := by decide +kernel
theorem dX8_showing_3 : decode cX8_showing 3 = .ok (.iload_n 3, 1) := by decide +kernel
theorem dX8_showing_4 : decode cX8_showing 4 = .ok (.iload 4, 2) := by decide +kernel
theorem dX8_showing_6 : decode cX8_showing 6 = .ok (.invokespecial 7, 3) := by decide +kernel
theorem dX8_showing_9 : decode cX8_showing 9 = .ok (.iload 4, 2) := by decide +kernel
theorem dX8_showing_11 : decode cX8_showing 11 = .ok (.ixor, 1) := by decide +kernel
theorem dX8_showing_12 : decode cX8_showing 12 = .ok (.ireturn, 1) := by decide +kernel
theorem dX8_sends_0 : decode cX8_sends 0 = .ok (.aload_n 2, 1) := by decide +kernel
theorem dX8_sends_1 : decode cX8_sends 1 = .ok (.bipush 70, 2) := by decide +kernel
theorem dX8_sends_3 : decode cX8_sends 3 = .ok (.invokevirtual 11, 3) := by decide +kernel
theorem dX8_sends_6 : decode cX8_sends 6 = .ok (.pop, 1) := by decide +kernel
theorem dX8_sends_7 : decode cX8_sends 7 = .ok (.aload_n 0, 1) := by decide +kernel
theorem dX8_sends_8 : decode cX8_sends 8 = .ok (.iload_n 1, 1) := by decide +kernel
theorem dX8_sends_9 : decode cX8_sends 9 = .ok (.aload_n 2, 1) := by decide +kernel
theorem dX8_sends_10 : decode cX8_sends 10 = .ok (.invokespecial 17, 3) := by decide +kernel
theorem dX8_sends_13 : decode cX8_sends 13 = .ok (.aload_n 0, 1) := by decide +kernel
theorem dX8_sends_14 : decode cX8_sends 14 = .ok (.iconst 2, 1) := by decide +kernel
theorem dX8_sends_15 : decode cX8_sends 15 = .ok (.aload_n 2, 1) := by decide +kernel
theorem dX8_sends_16 : decode cX8_sends 16 = .ok (.invokespecial 21, 3) := by decide +kernel
theorem dX8_sends_19 : decode cX8_sends 19 = .ok (.iadd, 1) := by decide +kernel
theorem dX8_sends_20 : decode cX8_sends 20 = .ok (.ireturn, 1) := by decide +kernel
theorem dX8_tilts_0 : decode cX8_tilts 0 = .ok (.aload_n 2, 1) := by decide +kernel
theorem dX8_tilts_1 : decode cX8_tilts 1 = .ok (.bipush 71, 2) := by decide +kernel
theorem dX8_tilts_3 : decode cX8_tilts 3 = .ok (.invokevirtual 11, 3) := by decide +kernel
theorem dX8_tilts_6 : decode cX8_tilts 6 = .ok (.pop, 1) := by decide +kernel
theorem dX8_tilts_7 : decode cX8_tilts 7 = .ok (.aload_n 0, 1) := by decide +kernel
theorem dX8_tilts_8 : decode cX8_tilts 8 = .ok (.iload_n 1, 1) := by decide +kernel
theorem dX8_tilts_9 : decode cX8_tilts 9 = .ok (.aload_n 2, 1) := by decide +kernel
theorem dX8_tilts_10 : decode cX8_tilts 10 = .ok (.invokespecial 21, 3) := by decide +kernel
theorem dX8_tilts_13 : decode cX8_tilts 13 = .ok (.aload_n 0, 1) := by decide +kernel
theorem dX8_tilts_14 : decode cX8_tilts 14 = .ok (.getfield 24, 3) := by decide +kernel
theorem dX8_tilts_17 : decode cX8_tilts 17 = .ok (.ixor, 1) := by decide +kernel
theorem dX8_tilts_18 : decode cX8_tilts 18 = .ok (.ireturn, 1) := by decide +kernel
theorem dX9_init_0 : decode cX9_init 0 = .ok (.aload_n 0, 1) := by decide +kernel
theorem dX9_init_1 : decode cX9_init 1 = .ok (.invokespecial 3, 3) := by decide +kernel
theorem dX9_init_4 : decode cX9_init 4 = .ok (.aload_n 0, 1) := by decide +kernel
theorem dX9_init_5 : decode cX9_init 5 = .ok (.bipush 10, 2) := by decide +kernel
theorem dX9_init_7 : decode cX9_init 7 = .ok (.newarray .int, 2) := by decide +kernel
theorem dX9_init_9 : decode cX9_init 9 = .ok (.putfield 11, 3) := by decide +kernel
theorem dX9_init_12 : decode cX9_init 12 = .ok (.aload_n 0, 1) := by decide +kernel
theorem dX9_init_13 : decode cX9_init 13 = .ok (.bipush 10, 2) := by decide +kernel
theorem dX9_init_15 : decode cX9_init 15 = .ok (.newarray .int, 2) := by decide +kernel
theorem dX9_init_17 : decode cX9_init 17 = .ok (.putfield 15, 3) := by decide +kernel
theorem dX9_init_20 : decode cX9_init 20 = .ok (.aload_n 0, 1) := by decide +kernel
theorem dX9_init_21 : decode cX9_init 21 = .ok (.bipush 10, 2) := by decide +kernel
theorem dX9_init_23 : decode cX9_init 23 = .ok (.newarray .int, 2) := by decide +kernel
theorem dX9_init_25 : decode cX9_init 25 = .ok (.putfield 18, 3) := by decide +kernel
theorem dX9_init_28 : decode cX9_init 28 = .ok (.aload_n 0, 1) := by decide +kernel
theorem dX9_init_29 : decode cX9_init 29 = .ok (.iconst 0, 1) := by decide +kernel
theorem dX9_init_30 : decode cX9_init 30 = .ok (.putfield 21, 3) := by decide +kernel
theorem dX9_init_33 : decode cX9_init 33 = .ok (.aload_n 0, 1) := by decide +kernel
theorem dX9_init_34 : decode cX9_init 34 = .ok (.bipush 100, 2) := by decide +kernel
theorem dX9_init_36 : decode cX9_init 36 = .ok (.newarray .int, 2) := by decide +kernel
theorem dX9_init_38 : decode cX9_init 38 = .ok (.putfield 25, 3) := by decide +kernel
theorem dX9_init_41 : decode cX9_init 41 = .ok (.aload_n 0, 1) := by decide +kernel
theorem dX9_init_42 : decode cX9_init 42 = .ok (.iconst 0, 1) := by decide +kernel
theorem dX9_init_43 : decode cX9_init 43 = .ok (.putfield 28, 3) := by decide +kernel
theorem dX9_init_46 : decode cX9_init 46 = .ok (.aload_n 0, 1) := by decide +kernel
theorem dX9_init_47 : decode cX9_init 47 = .ok (.iconst 2, 1) := by decide +kernel
theorem dX9_init_48 : decode cX9_init 48 = .ok (.putfield 31, 3) := by decide +kernel
theorem dX9_init_51 : decode cX9_init 51 = .ok (.aload_n 0, 1) := by decide +kernel
theorem dX9_init_52 : decode cX9_init 52 = .ok (.aconst_null, 1) := by decide +kernel
theorem dX9_init_53 : decode cX9_init 53 = .ok (.putfield 34, 3) := by decide +kernel
theorem dX9_init_56 : decode cX9_init 56 = .ok (.aload_n 0, 1) := by decide +kernel
theorem dX9_init_57 : decode cX9_init 57 = .ok (.iconst 0, 1) := by decide +kernel
theorem dX9_init_58 : decode cX9_init 58 = .ok (.putfield 38, 3) := by decide +kernel
theorem dX9_init_61 : decode cX9_init 61 = .ok (.return_, 1) := by decide +kernel
theorem dX9_parse_0 : decode cX9_parse 0 = .ok (.aload_n 0, 1) := by decide +kernel
theorem dX9_parse_1 : decode cX9_parse 1 = .ok (.aload_n 1, 1) := by decide +kernel
theorem dX9_parse_2 : decode cX9_parse 2 = .ok (.putfield 34, 3) := by decide +kernel
theorem dX9_parse_5 : decode cX9_parse 5 = .ok (.aload_n 0, 1) := by decide +kernel
theorem dX9_parse_6 : decode cX9_parse 6 = .ok (.iconst 0, 1) := by decide +kernel
theorem dX9_parse_7 : decode cX9_parse 7 = .ok (.putfield 38, 3) := by decide +kernel
theorem dX9_parse_10 : decode cX9_parse 10 = .ok (.aload_n 0, 1) := by decide +kernel
theorem dX9_parse_11 : decode cX9_parse 11 = .ok (.iconst 0, 1) := by decide +kernel
theorem dX9_parse_12 : decode cX9_parse 12 = .ok (.putfield 21, 3) := by decide +kernel
theorem dX9_parse_15 : decode cX9_parse 15 = .ok (.aload_n 0, 1) := by decide +kernel
theorem dX9_parse_16 : decode cX9_parse 16 = .ok (.iconst 0, 1) := by decide +kernel
theorem dX9_parse_17 : decode cX9_parse 17 = .ok (.putfield 28, 3) := by decide +kernel
theorem dX9_parse_20 : decode cX9_parse 20 = .ok (.aload_n 0, 1) := by decide +kernel
theorem dX9_parse_21 : decode cX9_parse 21 = .ok (.iconst 2, 1) := by decide +kernel
theorem dX9_parse_22 : decode cX9_parse 22 = .ok (.putfield 31, 3) := by decide +kernel
theorem dX9_parse_25 : decode cX9_parse 25 = .ok (.aload_n 0, 1) := by decide +kernel
theorem dX9_parse_26 : decode cX9_parse 26 = .ok (.invokevirtual 41, 3) := by decide +kernel
theorem dX9_parse_29 : decode cX9_parse 29 = .ok (.istore_n 2, 1) := by decide +kernel
theorem dX9_parse_30 : decode cX9_parse 30 = .ok (.iconst 1, 1) := by decide +kernel
theorem dX9_parse_31 : decode cX9_parse 31 = .ok (.istore_n 3, 1) := by decide +kernel
theorem dX9_parse_32 : decode cX9_parse 32 = .ok (.iload_n 3, 1) := by decide +kernel
theorem dX9_parse_33 : decode cX9_parse 33 = .ok (.bipush 10, 2) := by decide +kernel
theorem dX9_parse_35 : decode cX9_parse 35 = .ok (.if_icmp .ge 27, 3) := by decide +kernel
theorem dX9_parse_38 : decode cX9_parse 38 = .ok (.iload_n 2, 1) := by decide +kernel
theorem dX9_parse_39 : decode cX9_parse 39 = .ok (.ifCond .eq 23, 3) := by decide +kernel
theorem dX9_parse_42 : decode cX9_parse 42 = .ok (.aload_n 0, 1) := by decide +kernel
theorem dX9_parse_43 : decode cX9_parse 43 = .ok (.bipush 59, 2) := by decide +kernel
theorem dX9_parse_45 : decode cX9_parse 45 = .ok (.invokevirtual 45, 3) := by decide +kernel
theorem dX9_parse_48 : decode cX9_parse 48 = .ok (.ifCond .eq 14, 3) := by decide +kernel
theorem dX9_parse_51 : decode cX9_parse 51 = .ok (.aload_n 0, 1) := by decide +kernel
theorem dX9_parse_52 : decode cX9_parse 52 = .ok (.invokevirtual 41, 3) := by decide +kernel
theorem dX9_parse_55 : decode cX9_parse 55 = .ok (.istore_n 2, 1) := by decide +kernel
theorem dX9_parse_56 : decode cX9_parse 56 = .ok (.iinc 3 1, 3) := by decide +kernel
theorem dX9_parse_59 : decode cX9_parse 59 = .ok (.goto (-27), 3) := by decide +kernel
theorem dX9_parse_62 : decode cX9_parse 62 = .ok (.iload_n 2, 1) := by decide +kernel
theorem dX9_parse_63 : decode cX9_parse 63 = .ok (.ifCond .eq 21, 3) := by decide +kernel
theorem dX9_parse_66 : decode cX9_parse 66 = .ok (.aload_n 0, 1) := by decide +kernel
theorem dX9_parse_67 : decode cX9_parse 67 = .ok (.getfield 38, 3) := by decide +kernel
theorem dX9_parse_70 : decode cX9_parse 70 = .ok (.aload_n 0, 1) := by decide +kernel
theorem dX9_parse_71 : decode cX9_parse 71 = .ok (.getfield 34, 3) := by decide +kernel
theorem dX9_parse_74 : decode cX9_parse 74 = .ok (.getfield 49, 3) := by decide +kernel
theorem dX9_parse_77 : decode cX9_parse 77 = .ok (.if_icmp .lt 7, 3) := by decide +kernel
theorem dX9_parse_80 : decode cX9_parse 80 = .ok (.iconst (-1), 1) := by decide +kernel
theorem dX9_parse_81 : decode cX9_parse 81 = .ok (.goto 7, 3) := by decide +kernel
theorem dX9_parse_84 : decode cX9_parse 84 = .ok (.aload_n 0, 1) := by decide +kernel
theorem dX9_parse_85 : decode cX9_parse 85 = .ok (.getfield 38, 3) := by decide +kernel
theorem dX9_parse_88 : decode cX9_parse 88 = .ok (.ireturn, 1) := by decide +kernel
theorem dX9_clause_0 : decode cX9_clause 0 = .ok (.aload_n 0, 1) := by decide +kernel
theorem dX9_clause_1 : decode cX9_clause 1 = .ok (.ldc 54, 2) := by decide +kernel
theorem dX9_clause_3 : decode cX9_clause 3 = .ok (.invokevirtual 56, 3) := by decide +kernel
theorem dX9_clause_6 : decode cX9_clause 6 = .ok (.istore_n 1, 1) := by decide +kernel
theorem dX9_clause_7 : decode cX9_clause 7 = .ok (.iload_n 1, 1) := by decide +kernel
theorem dX9_clause_8 : decode cX9_clause 8 = .ok (.ifCond .lt 12, 3) := by decide +kernel
theorem dX9_clause_11 : decode cX9_clause 11 = .ok (.aload_n 0, 1) := by decide +kernel
theorem dX9_clause_12 : decode cX9_clause 12 = .ok (.getfield 21, 3) := by decide +kernel
theorem dX9_clause_15 : decode cX9_clause 15 = .ok (.bipush 10, 2) := by decide +kernel
theorem dX9_clause_17 : decode cX9_clause 17 = .ok (.if_icmp .lt 5, 3) := by decide +kernel
theorem dX9_clause_20 : decode cX9_clause 20 = .ok (.iconst 0, 1) := by decide +kernel
theorem dX9_clause_21 : decode cX9_clause 21 = .ok (.ireturn, 1) := by decide +kernel
theorem dX9_clause_22 : decode cX9_clause 22 = .ok (.iconst 1, 1) := by decide +kernel
theorem dX9_clause_23 : decode cX9_clause 23 = .ok (.istore_n 2, 1) := by decide +kernel
theorem dX9_clause_24 : decode cX9_clause 24 = .ok (.iload_n 2, 1) := by decide +kernel
theorem dX9_clause_25 : decode cX9_clause 25 = .ok (.iconst 4, 1) := by decide +kernel
theorem dX9_clause_26 : decode cX9_clause 26 = .ok (.if_icmp .ge 28, 3) := by decide +kernel
theorem dX9_clause_29 : decode cX9_clause 29 = .ok (.aload_n 0, 1) := by decide +kernel
theorem dX9_clause_30 : decode cX9_clause 30 = .ok (.ldc 60, 2) := by decide +kernel
theorem dX9_clause_32 : decode cX9_clause 32 = .ok (.iload_n 1, 1) := by decide +kernel
theorem dX9_clause_33 : decode cX9_clause 33 = .ok (.iconst 4, 1) := by decide +kernel
theorem dX9_clause_34 : decode cX9_clause 34 = .ok (.imul, 1) := by decide +kernel
theorem dX9_clause_35 : decode cX9_clause 35 = .ok (.iload_n 2, 1) := by decide +kernel
theorem dX9_clause_36 : decode cX9_clause 36 = .ok (.iadd, 1) := by decide +kernel
theorem dX9_clause_37 : decode cX9_clause 37 = .ok (.invokevirtual 62, 3) := by decide +kernel
theorem dX9_clause_40 : decode cX9_clause 40 = .ok (.invokevirtual 45, 3) := by decide +kernel
theorem dX9_clause_43 : decode cX9_clause 43 = .ok (.ifCond .ne 5, 3) := by decide +kernel
theorem dX9_clause_46 : decode cX9_clause 46 = .ok (.iconst 0, 1) := by decide +kernel
theorem dX9_clause_47 : decode cX9_clause 47 = .ok (.ireturn, 1) := by decide +kernel
theorem dX9_clause_48 : decode cX9_clause 48 = .ok (.iinc 2 1, 3) := by decide +kernel
theorem dX9_clause_51 : decode cX9_clause 51 = .ok (.goto (-27), 3) := by decide +kernel
theorem dX9_clause_54 : decode cX9_clause 54 = .ok (.aload_n 0, 1) := by decide +kernel
theorem dX9_clause_55 : decode cX9_clause 55 = .ok (.bipush 32, 2) := by decide +kernel
theorem dX9_clause_57 : decode cX9_clause 57 = .ok (.invokevirtual 45, 3) := by decide +kernel
theorem dX9_clause_60 : decode cX9_clause 60 = .ok (.ifCond .eq 10, 3) := by decide +kernel
theorem dX9_clause_63 : decode cX9_clause 63 = .ok (.aload_n 0, 1) := by decide +kernel
theorem dX9_clause_64 : decode cX9_clause 64 = .ok (.invokevirtual 68, 3) := by decide +kernel
theorem dX9_clause_67 : decode cX9_clause 67 = .ok (.goto 4, 3) := by decide +kernel
theorem dX9_clause_70 : decode cX9_clause 70 = .ok (.iconst (-1), 1) := by decide +kernel
theorem dX9_clause_71 : decode cX9_clause 71 = .ok (.istore_n 2, 1) := by decide +kernel
theorem dX9_clause_72 : decode cX9_clause 72 = .ok (.iload_n 2, 1) := by decide +kernel
theorem dX9_clause_73 : decode cX9_clause 73 = .ok (.ifCond .ge 5, 3) := by decide +kernel
theorem dX9_clause_76 : decode cX9_clause 76 = .ok (.iconst 0, 1) := by decide +kernel
theorem dX9_clause_77 : decode cX9_clause 77 = .ok (.ireturn, 1) := by decide +kernel
theorem dX9_clause_78 : decode cX9_clause 78 = .ok (.iload_n 1, 1) := by decide +kernel
theorem dX9_clause_79 : decode cX9_clause 79 = .ok (.iconst 3, 1) := by decide +kernel
theorem dX9_clause_80 : decode cX9_clause 80 = .ok (.if_icmp .ne 11, 3) := by decide +kernel
theorem dX9_clause_83 : decode cX9_clause 83 = .ok (.aload_n 0, 1) := by decide +kernel
theorem dX9_clause_84 : decode cX9_clause 84 = .ok (.iload_n 2, 1) := by decide +kernel
theorem dX9_clause_85 : decode cX9_clause 85 = .ok (.putfield 31, 3) := by decide +kernel
theorem dX9_clause_88 : decode cX9_clause 88 = .ok (.goto 22, 3) := by decide +kernel
theorem dX9_clause_91 : decode cX9_clause 91 = .ok (.aload_n 0, 1) := by decide +kernel
theorem dX9_clause_92 : decode cX9_clause 92 = .ok (.bipush 32, 2) := by decide +kernel
theorem dX9_clause_94 : decode cX9_clause 94 = .ok (.invokevirtual 45, 3) := by decide +kernel
theorem dX9_clause_97 : decode cX9_clause 97 = .ok (.ifCond .eq 11, 3) := by decide +kernel
theorem dX9_clause_100 : decode cX9_clause 100 = .ok (.aload_n 0, 1) := by decide +kernel
theorem dX9_clause_101 : decode cX9_clause 101 = .ok (.iconst 0, 1) := by decide +kernel
theorem dX9_clause_102 : decode cX9_clause 102 = .ok (.invokevirtual 72, 3) := by decide +kernel
theorem dX9_clause_105 : decode cX9_clause 105 = .ok (.ifCond .ne 5, 3) := by decide +kernel
theorem dX9_clause_108 : decode cX9_clause 108 = .ok (.iconst 0, 1) := by decide +kernel
theorem dX9_clause_109 : decode cX9_clause 109 = .ok (.ireturn, 1) := by decide +kernel
theorem dX9_clause_110 : decode cX9_clause 110 = .ok (.aload_n 0, 1) := by decide +kernel
theorem dX9_clause_111 : decode cX9_clause 111 = .ok (.getfield 11, 3) := by decide +kernel
theorem dX9_clause_114 : decode cX9_clause 114 = .ok (.aload_n 0, 1) := by decide +kernel
theorem dX9_clause_115 : decode cX9_clause 115 = .ok (.getfield 21, 3) := by decide +kernel
theorem dX9_clause_118 : decode cX9_clause 118 = .ok (.iload_n 1, 1) := by decide +kernel
theorem dX9_clause_119 : decode cX9_clause 119 = .ok (.iastore, 1) := by decide +kernel
theorem dX9_clause_120 : decode cX9_clause 120 = .ok (.aload_n 0, 1) := by decide +kernel
theorem dX9_clause_121 : decode cX9_clause 121 = .ok (.getfield 15, 3) := by decide +kernel
theorem dX9_clause_124 : decode cX9_clause 124 = .ok (.aload_n 0, 1) := by decide +kernel
theorem dX9_clause_125 : decode cX9_clause 125 = .ok (.getfield 21, 3) := by decide +kernel
theorem dX9_clause_128 : decode cX9_clause 128 = .ok (.iload_n 2, 1) := by decide +kernel
theorem dX9_clause_129 : decode cX9_clause 129 = .ok (.iastore, 1) := by decide +kernel
theorem dX9_clause_130 : decode cX9_clause 130 = .ok (.aload_n 0, 1) := by decide +kernel
theorem dX9_clause_131 : decode cX9_clause 131 = .ok (.getfield 18, 3) := by decide +kernel
theorem dX9_clause_134 : decode cX9_clause 134 = .ok (.aload_n 0, 1) := by decide +kernel
theorem dX9_clause_135 : decode cX9_clause 135 = .ok (.getfield 21, 3) := by decide +kernel
theorem dX9_clause_138 : decode cX9_clause 138 = .ok (.aload_n 0, 1) := by decide +kernel
theorem dX9_clause_139 : decode cX9_clause 139 = .ok (.getfield 28, 3) := by decide +kernel
theorem dX9_clause_142 : decode cX9_clause 142 = .ok (.iastore, 1) := by decide +kernel
theorem dX9_clause_143 : decode cX9_clause 143 = .ok (.aload_n 0, 1) := by decide +kernel
theorem dX9_clause_144 : decode cX9_clause 144 = .ok (.dup, 1) := by decide +kernel
theorem dX9_clause_145 : decode cX9_clause 145 = .ok (.getfield 21, 3) := by decide +kernel
theorem dX9_clause_148 : decode cX9_clause 148 = .ok (.iconst 1, 1) := by decide +kernel
theorem dX9_clause_149 : decode cX9_clause 149 = .ok (.iadd, 1) := by decide +kernel
theorem dX9_clause_150 : decode cX9_clause 150 = .ok (.putfield 21, 3) := by decide +kernel
theorem dX9_clause_153 : decode cX9_clause 153 = .ok (.iconst 1, 1) := by decide +kernel
theorem dX9_clause_154 : decode cX9_clause 154 = .ok (.ireturn, 1) := by decide +kernel
theorem dX9_either_0 : decode cX9_either 0 = .ok (.aload_n 0, 1) := by decide +kernel
theorem dX9_either_1 : decode cX9_either 1 = .ok (.iload_n 1, 1) := by decide +kernel
theorem dX9_either_2 : decode cX9_either 2 = .ok (.invokevirtual 76, 3) := by decide +kernel
theorem dX9_either_5 : decode cX9_either 5 = .ok (.istore_n 2, 1) := by decide +kernel
theorem dX9_either_6 : decode cX9_either 6 = .ok (.iconst 0, 1) := by decide +kernel
theorem dX9_either_7 : decode cX9_either 7 = .ok (.istore_n 3, 1) := by decide +kernel
theorem dX9_either_8 : decode cX9_either 8 = .ok (.iload_n 3, 1) := by decide +kernel
theorem dX9_either_9 : decode cX9_either 9 = .ok (.bipush 100, 2) := by decide +kernel
theorem dX9_either_11 : decode cX9_either 11 = .ok (.if_icmp .ge 45, 3) := by decide +kernel
theorem dX9_either_14 : decode cX9_either 14 = .ok (.iload_n 2, 1) := by decide +kernel
theorem dX9_either_15 : decode cX9_either 15 = .ok (.ifCond .eq 41, 3) := by decide +kernel
theorem dX9_either_18 : decode cX9_either 18 = .ok (.aload_n 0, 1) := by decide +kernel
theorem dX9_either_19 : decode cX9_either 19 = .ok (.bipush 124, 2) := by decide +kernel
theorem dX9_either_21 : decode cX9_either 21 = .ok (.invokevirtual 45, 3) := by decide +kernel
theorem dX9_either_24 : decode cX9_either 24 = .ok (.ifCond .eq 32, 3) := by decide +kernel
theorem dX9_either_27 : decode cX9_either 27 = .ok (.aload_n 0, 1) := by decide +kernel
theorem dX9_either_28 : decode cX9_either 28 = .ok (.iload_n 1, 1) := by decide +kernel
theorem dX9_either_29 : decode cX9_either 29 = .ok (.invokevirtual 76, 3) := by decide +kernel
theorem dX9_either_32 : decode cX9_either 32 = .ok (.ifCond .eq 16, 3) := by decide +kernel
theorem dX9_either_35 : decode cX9_either 35 = .ok (.aload_n 0, 1) := by decide +kernel
theorem dX9_either_36 : decode cX9_either 36 = .ok (.bipush (-3), 2) := by decide +kernel
theorem dX9_either_38 : decode cX9_either 38 = .ok (.invokevirtual 79, 3) := by decide +kernel
theorem dX9_either_41 : decode cX9_either 41 = .ok (.ifCond .eq 7, 3) := by decide +kernel
theorem dX9_either_44 : decode cX9_either 44 = .ok (.iconst 1, 1) := by decide +kernel
theorem dX9_either_45 : decode cX9_either 45 = .ok (.goto 4, 3) := by decide +kernel
theorem dX9_either_48 : decode cX9_either 48 = .ok (.iconst 0, 1) := by decide +kernel
theorem dX9_either_49 : decode cX9_either 49 = .ok (.istore_n 2, 1) := by decide +kernel
theorem dX9_either_50 : decode cX9_either 50 = .ok (.iinc 3 1, 3) := by decide +kernel
theorem dX9_either_53 : decode cX9_either 53 = .ok (.goto (-45), 3) := by decide +kernel
theorem dX9_either_56 : decode cX9_either 56 = .ok (.iload_n 2, 1) := by decide +kernel
theorem dX9_either_57 : decode cX9_either 57 = .ok (.ireturn, 1) := by decide +kernel
theorem dX9_both_0 : decode cX9_both 0 = .ok (.aload_n 0, 1) := by decide +kernel
theorem dX9_both_1 : decode cX9_both 1 = .ok (.iload_n 1, 1) := by decide +kernel
theorem dX9_both_2 : decode cX9_both 2 = .ok (.invokevirtual 82, 3) := by decide +kernel
theorem dX9_both_5 : decode cX9_both 5 = .ok (.istore_n 2, 1) := by decide +kernel
theorem dX9_both_6 : decode cX9_both 6 = .ok (.iconst 0, 1) := by decide +kernel
theorem dX9_both_7 : decode cX9_both 7 = .ok (.istore_n 3, 1) := by decide +kernel
theorem dX9_both_8 : decode cX9_both 8 = .ok (.iload_n 3, 1) := by decide +kernel
theorem dX9_both_9 : decode cX9_both 9 = .ok (.bipush 100, 2) := by decide +kernel
theorem dX9_both_11 : decode cX9_both 11 = .ok (.if_icmp .ge 45, 3) := by decide +kernel
theorem dX9_both_14 : decode cX9_both 14 = .ok (.iload_n 2, 1) := by decide +kernel
theorem dX9_both_15 : decode cX9_both 15 = .ok (.ifCond .eq 41, 3) := by decide +kernel
theorem dX9_both_18 : decode cX9_both 18 = .ok (.aload_n 0, 1) := by decide +kernel
theorem dX9_both_19 : decode cX9_both 19 = .ok (.bipush 38, 2) := by decide +kernel
theorem dX9_both_21 : decode cX9_both 21 = .ok (.invokevirtual 45, 3) := by decide +kernel
theorem dX9_both_24 : decode cX9_both 24 = .ok (.ifCond .eq 32, 3) := by decide +kernel
theorem dX9_both_27 : decode cX9_both 27 = .ok (.aload_n 0, 1) := by decide +kernel
theorem dX9_both_28 : decode cX9_both 28 = .ok (.iload_n 1, 1) := by decide +kernel
theorem dX9_both_29 : decode cX9_both 29 = .ok (.invokevirtual 82, 3) := by decide +kernel
theorem dX9_both_32 : decode cX9_both 32 = .ok (.ifCond .eq 16, 3) := by decide +kernel
theorem dX9_both_35 : decode cX9_both 35 = .ok (.aload_n 0, 1) := by decide +kernel
theorem dX9_both_36 : decode cX9_both 36 = .ok (.bipush (-2), 2) := by decide +kernel
theorem dX9_both_38 : decode cX9_both 38 = .ok (.invokevirtual 79, 3) := by decide +kernel
theorem dX9_both_41 : decode cX9_both 41 = .ok (.ifCond .eq 7, 3) := by decide +kernel
theorem dX9_both_44 : decode cX9_both 44 = .ok (.iconst 1, 1) := by decide +kernel
theorem dX9_both_45 : decode cX9_both 45 = .ok (.goto 4, 3) := by decide +kernel
theorem dX9_both_48 : decode cX9_both 48 = .ok (.iconst 0, 1) := by decide +kernel
theorem dX9_both_49 : decode cX9_both 49 = .ok (.istore_n 2, 1) := by decide +kernel
theorem dX9_both_50 : decode cX9_both 50 = .ok (.iinc 3 1, 3) := by decide +kernel
theorem dX9_both_53 : decode cX9_both 53 = .ok (.goto (-45), 3) := by decide +kernel
theorem dX9_both_56 : decode cX9_both 56 = .ok (.iload_n 2, 1) := by decide +kernel
theorem dX9_both_57 : decode cX9_both 57 = .ok (.ireturn, 1) := by decide +kernel
theorem dX9_single_0 : decode cX9_single 0 = .ok (.iload_n 1, 1) := by decide +kernel
theorem dX9_single_1 : decode cX9_single 1 = .ok (.iconst 4, 1) := by decide +kernel
theorem dX9_single_2 : decode cX9_single 2 = .ok (.if_icmp .ge 36, 3) := by decide +kernel
theorem dX9_single_5 : decode cX9_single 5 = .ok (.aload_n 0, 1) := by decide +kernel
theorem dX9_single_6 : decode cX9_single 6 = .ok (.bipush 33, 2) := by decide +kernel
theorem dX9_single_8 : decode cX9_single 8 = .ok (.invokevirtual 45, 3) := by decide +kernel
theorem dX9_single_11 : decode cX9_single 11 = .ok (.ifCond .eq 27, 3) := by decide +kernel
theorem dX9_single_14 : decode cX9_single 14 = .ok (.aload_n 0, 1) := by decide +kernel
theorem dX9_single_15 : decode cX9_single 15 = .ok (.iload_n 1, 1) := by decide +kernel
theorem dX9_single_16 : decode cX9_single 16 = .ok (.iconst 1, 1) := by decide +kernel
theorem dX9_single_17 : decode cX9_single 17 = .ok (.iadd, 1) := by decide +kernel
theorem dX9_single_18 : decode cX9_single 18 = .ok (.invokevirtual 82, 3) := by decide +kernel
theorem dX9_single_21 : decode cX9_single 21 = .ok (.ifCond .eq 15, 3) := by decide +kernel
theorem dX9_single_24 : decode cX9_single 24 = .ok (.aload_n 0, 1) := by decide +kernel
theorem dX9_single_25 : decode cX9_single 25 = .ok (.iconst (-1), 1) := by decide +kernel
theorem dX9_single_26 : decode cX9_single 26 = .ok (.invokevirtual 79, 3) := by decide +kernel
theorem dX9_single_29 : decode cX9_single 29 = .ok (.ifCond .eq 7, 3) := by decide +kernel
theorem dX9_single_32 : decode cX9_single 32 = .ok (.iconst 1, 1) := by decide +kernel
theorem dX9_single_33 : decode cX9_single 33 = .ok (.goto 4, 3) := by decide +kernel
theorem dX9_single_36 : decode cX9_single 36 = .ok (.iconst 0, 1) := by decide +kernel
theorem dX9_single_37 : decode cX9_single 37 = .ok (.ireturn, 1) := by decide +kernel
theorem dX9_single_38 : decode cX9_single 38 = .ok (.iload_n 1, 1) := by decide +kernel
theorem dX9_single_39 : decode cX9_single 39 = .ok (.iconst 4, 1) := by decide +kernel
theorem dX9_single_40 : decode cX9_single 40 = .ok (.if_icmp .ge 37, 3) := by decide +kernel
theorem dX9_single_43 : decode cX9_single 43 = .ok (.aload_n 0, 1) := by decide +kernel
theorem dX9_single_44 : decode cX9_single 44 = .ok (.bipush 40, 2) := by decide +kernel
theorem dX9_single_46 : decode cX9_single 46 = .ok (.invokevirtual 45, 3) := by decide +kernel
theorem dX9_single_49 : decode cX9_single 49 = .ok (.ifCond .eq 28, 3) := by decide +kernel
theorem dX9_single_52 : decode cX9_single 52 = .ok (.aload_n 0, 1) := by decide +kernel
theorem dX9_single_53 : decode cX9_single 53 = .ok (.iload_n 1, 1) := by decide +kernel
theorem dX9_single_54 : decode cX9_single 54 = .ok (.iconst 1, 1) := by decide +kernel
theorem dX9_single_55 : decode cX9_single 55 = .ok (.iadd, 1) := by decide +kernel
theorem dX9_single_56 : decode cX9_single 56 = .ok (.invokevirtual 72, 3) := by decide +kernel
theorem dX9_single_59 : decode cX9_single 59 = .ok (.ifCond .eq 16, 3) := by decide +kernel
theorem dX9_single_62 : decode cX9_single 62 = .ok (.aload_n 0, 1) := by decide +kernel
theorem dX9_single_63 : decode cX9_single 63 = .ok (.bipush 41, 2) := by decide +kernel
theorem dX9_single_65 : decode cX9_single 65 = .ok (.invokevirtual 45, 3) := by decide +kernel
theorem dX9_single_68 : decode cX9_single 68 = .ok (.ifCond .eq 7, 3) := by decide +kernel
theorem dX9_single_71 : decode cX9_single 71 = .ok (.iconst 1, 1) := by decide +kernel
theorem dX9_single_72 : decode cX9_single 72 = .ok (.goto 4, 3) := by decide +kernel
theorem dX9_single_75 : decode cX9_single 75 = .ok (.iconst 0, 1) := by decide +kernel
theorem dX9_single_76 : decode cX9_single 76 = .ok (.ireturn, 1) := by decide +kernel
theorem dX9_single_77 : decode cX9_single 77 = .ok (.aload_n 0, 1) := by decide +kernel
theorem dX9_single_78 : decode cX9_single 78 = .ok (.ldc 85, 2) := by decide +kernel
theorem dX9_single_80 : decode cX9_single 80 = .ok (.invokevirtual 56, 3) := by decide +kernel
theorem dX9_single_83 : decode cX9_single 83 = .ok (.istore_n 2, 1) := by decide +kernel
theorem dX9_single_84 : decode cX9_single 84 = .ok (.iload_n 2, 1) := by decide +kernel
theorem dX9_single_85 : decode cX9_single 85 = .ok (.ifCond .ge 7, 3) := by decide +kernel
theorem dX9_single_88 : decode cX9_single 88 = .ok (.iconst (-1), 1) := by decide +kernel
theorem dX9_single_89 : decode cX9_single 89 = .ok (.goto 9, 3) := by decide +kernel
theorem dX9_single_92 : decode cX9_single 92 = .ok (.aload_n 0, 1) := by decide +kernel
theorem dX9_single_93 : decode cX9_single 93 = .ok (.ldc 87, 2) := by decide +kernel
theorem dX9_single_95 : decode cX9_single 95 = .ok (.invokevirtual 56, 3) := by decide +kernel
theorem dX9_single_98 : decode cX9_single 98 = .ok (.istore_n 3, 1) := by decide +kernel
theorem dX9_single_99 : decode cX9_single 99 = .ok (.iload_n 3, 1) := by decide +kernel
theorem dX9_single_100 : decode cX9_single 100 = .ok (.ifCond .ge 7, 3) := by decide +kernel
theorem dX9_single_103 : decode cX9_single 103 = .ok (.iconst (-1), 1) := by decide +kernel
theorem dX9_single_104 : decode cX9_single 104 = .ok (.goto 7, 3) := by decide +kernel
theorem dX9_single_107 : decode cX9_single 107 = .ok (.aload_n 0, 1) := by decide +kernel
theorem dX9_single_108 : decode cX9_single 108 = .ok (.invokevirtual 68, 3) := by decide +kernel
theorem dX9_single_111 : decode cX9_single 111 = .ok (.istore 4, 2) := by decide +kernel
theorem dX9_single_113 : decode cX9_single 113 = .ok (.iload 4, 2) := by decide +kernel
theorem dX9_single_115 : decode cX9_single 115 = .ok (.ifCond .lt 25, 3) := by decide +kernel
theorem dX9_single_118 : decode cX9_single 118 = .ok (.aload_n 0, 1) := by decide +kernel
theorem dX9_single_119 : decode cX9_single 119 = .ok (.iload_n 2, 1) := by decide +kernel
theorem dX9_single_120 : decode cX9_single 120 = .ok (.iconst 3, 1) := by decide +kernel
theorem dX9_single_121 : decode cX9_single 121 = .ok (.imul, 1) := by decide +kernel
theorem dX9_single_122 : decode cX9_single 122 = .ok (.iload_n 3, 1) := by decide +kernel
theorem dX9_single_123 : decode cX9_single 123 = .ok (.iadd, 1) := by decide +kernel
theorem dX9_single_124 : decode cX9_single 124 = .ok (.bipush 100, 2) := by decide +kernel
theorem dX9_single_126 : decode cX9_single 126 = .ok (.imul, 1) := by decide +kernel
theorem dX9_single_127 : decode cX9_single 127 = .ok (.iload 4, 2) := by decide +kernel
theorem dX9_single_129 : decode cX9_single 129 = .ok (.iadd, 1) := by decide +kernel
theorem dX9_single_130 : decode cX9_single 130 = .ok (.invokevirtual 79, 3) := by decide +kernel
theorem dX9_single_133 : decode cX9_single 133 = .ok (.ifCond .eq 7, 3) := by decide +kernel
theorem dX9_single_136 : decode cX9_single 136 = .ok (.iconst 1, 1) := by decide +kernel
theorem dX9_single_137 : decode cX9_single 137 = .ok (.goto 4, 3) := by decide +kernel
theorem dX9_single_140 : decode cX9_single 140 = .ok (.iconst 0, 1) := by decide +kernel
theorem dX9_single_141 : decode cX9_single 141 = .ok (.ireturn, 1) := by decide +kernel
theorem dX9_number_0 : decode cX9_number 0 = .ok (.aload_n 0, 1) := by decide +kernel
theorem dX9_number_1 : decode cX9_number 1 = .ok (.ldc 89, 2) := by decide +kernel
theorem dX9_number_3 : decode cX9_number 3 = .ok (.invokevirtual 56, 3) := by decide +kernel
theorem dX9_number_6 : decode cX9_number 6 = .ok (.istore_n 1, 1) := by decide +kernel
theorem dX9_number_7 : decode cX9_number 7 = .ok (.iload_n 1, 1) := by decide +kernel
theorem dX9_number_8 : decode cX9_number 8 = .ok (.ifCond .ge 7, 3) := by decide +kernel
theorem dX9_number_11 : decode cX9_number 11 = .ok (.iconst (-1), 1) := by decide +kernel
theorem dX9_number_12 : decode cX9_number 12 = .ok (.goto 9, 3) := by decide +kernel
theorem dX9_number_15 : decode cX9_number 15 = .ok (.aload_n 0, 1) := by decide +kernel
theorem dX9_number_16 : decode cX9_number 16 = .ok (.ldc 89, 2) := by decide +kernel
theorem dX9_number_18 : decode cX9_number 18 = .ok (.invokevirtual 56, 3) := by decide +kernel
theorem dX9_number_21 : decode cX9_number 21 = .ok (.istore_n 2, 1) := by decide +kernel
theorem dX9_number_22 : decode cX9_number 22 = .ok (.iload_n 2, 1) := by decide +kernel
theorem dX9_number_23 : decode cX9_number 23 = .ok (.ifCond .ge 7, 3) := by decide +kernel
theorem dX9_number_26 : decode cX9_number 26 = .ok (.iload_n 1, 1) := by decide +kernel
theorem dX9_number_27 : decode cX9_number 27 = .ok (.goto 9, 3) := by decide +kernel
theorem dX9_number_30 : decode cX9_number 30 = .ok (.iload_n 1, 1) := by decide +kernel
theorem dX9_number_31 : decode cX9_number 31 = .ok (.bipush 10, 2) := by decide +kernel
theorem dX9_number_33 : decode cX9_number 33 = .ok (.imul, 1) := by decide +kernel
theorem dX9_number_34 : decode cX9_number 34 = .ok (.iload_n 2, 1) := by decide +kernel
theorem dX9_number_35 : decode cX9_number 35 = .ok (.iadd, 1) := by decide +kernel
theorem dX9_number_36 : decode cX9_number 36 = .ok (.ireturn, 1) := by decide +kernel
theorem dX9_accept_0 : decode cX9_accept 0 = .ok (.aload_n 0, 1) := by decide +kernel
theorem dX9_accept_1 : decode cX9_accept 1 = .ok (.getfield 38, 3) := by decide +kernel
theorem dX9_accept_4 : decode cX9_accept 4 = .ok (.aload_n 0, 1) := by decide +kernel
theorem dX9_accept_5 : decode cX9_accept 5 = .ok (.getfield 34, 3) := by decide +kernel
theorem dX9_accept_8 : decode cX9_accept 8 = .ok (.getfield 49, 3) := by decide +kernel
theorem dX9_accept_11 : decode cX9_accept 11 = .ok (.if_icmp .ge 23, 3) := by decide +kernel
theorem dX9_accept_14 : decode cX9_accept 14 = .ok (.aload_n 0, 1) := by decide +kernel
theorem dX9_accept_15 : decode cX9_accept 15 = .ok (.getfield 34, 3) := by decide +kernel
theorem dX9_accept_18 : decode cX9_accept 18 = .ok (.getfield 91, 3) := by decide +kernel
theorem dX9_accept_21 : decode cX9_accept 21 = .ok (.aload_n 0, 1) := by decide +kernel
theorem dX9_accept_22 : decode cX9_accept 22 = .ok (.getfield 38, 3) := by decide +kernel
theorem dX9_accept_25 : decode cX9_accept 25 = .ok (.iaload, 1) := by decide +kernel
theorem dX9_accept_26 : decode cX9_accept 26 = .ok (.iload_n 1, 1) := by decide +kernel
theorem dX9_accept_27 : decode cX9_accept 27 = .ok (.if_icmp .ne 7, 3) := by decide +kernel
theorem dX9_accept_30 : decode cX9_accept 30 = .ok (.iconst 1, 1) := by decide +kernel
theorem dX9_accept_31 : decode cX9_accept 31 = .ok (.goto 4, 3) := by decide +kernel
theorem dX9_accept_34 : decode cX9_accept 34 = .ok (.iconst 0, 1) := by decide +kernel
theorem dX9_accept_35 : decode cX9_accept 35 = .ok (.istore_n 2, 1) := by decide +kernel
theorem dX9_accept_36 : decode cX9_accept 36 = .ok (.iload_n 2, 1) := by decide +kernel
theorem dX9_accept_37 : decode cX9_accept 37 = .ok (.ifCond .eq 13, 3) := by decide +kernel
theorem dX9_accept_40 : decode cX9_accept 40 = .ok (.aload_n 0, 1) := by decide +kernel
theorem dX9_accept_41 : decode cX9_accept 41 = .ok (.dup, 1) := by decide +kernel
theorem dX9_accept_42 : decode cX9_accept 42 = .ok (.getfield 38, 3) := by decide +kernel
theorem dX9_accept_45 : decode cX9_accept 45 = .ok (.iconst 1, 1) := by decide +kernel
theorem dX9_accept_46 : decode cX9_accept 46 = .ok (.iadd, 1) := by decide +kernel
theorem dX9_accept_47 : decode cX9_accept 47 = .ok (.putfield 38, 3) := by decide +kernel
theorem dX9_accept_50 : decode cX9_accept 50 = .ok (.iload_n 2, 1) := by decide +kernel
theorem dX9_accept_51 : decode cX9_accept 51 = .ok (.ireturn, 1) := by decide +kernel
theorem dX9_acceptOneOf_0 : decode cX9_acceptOneOf 0 = .ok (.aload_n 0, 1) := by decide +kernel
theorem dX9_acceptOneOf_1 : decode cX9_acceptOneOf 1 = .ok (.getfield 38, 3) := by decide +kernel
theorem dX9_acceptOneOf_4 : decode cX9_acceptOneOf 4 = .ok (.aload_n 0, 1) := by decide +kernel
theorem dX9_acceptOneOf_5 : decode cX9_acceptOneOf 5 = .ok (.getfield 34, 3) := by decide +kernel
theorem dX9_acceptOneOf_8 : decode cX9_acceptOneOf 8 = .ok (.getfield 49, 3) := by decide +kernel
theorem dX9_acceptOneOf_11 : decode cX9_acceptOneOf 11 = .ok (.if_icmp .ge 23, 3) := by decide +kernel
theorem dX9_acceptOneOf_14 : decode cX9_acceptOneOf 14 = .ok (.aload_n 1, 1) := by decide +kernel
theorem dX9_acceptOneOf_15 : decode cX9_acceptOneOf 15 = .ok (.aload_n 0, 1) := by decide +kernel
theorem dX9_acceptOneOf_16 : decode cX9_acceptOneOf 16 = .ok (.getfield 34, 3) := by decide +kernel
theorem dX9_acceptOneOf_19 : decode cX9_acceptOneOf 19 = .ok (.getfield 91, 3) := by decide +kernel
theorem dX9_acceptOneOf_22 : decode cX9_acceptOneOf 22 = .ok (.aload_n 0, 1) := by decide +kernel
theorem dX9_acceptOneOf_23 : decode cX9_acceptOneOf 23 = .ok (.getfield 38, 3) := by decide +kernel
theorem dX9_acceptOneOf_26 : decode cX9_acceptOneOf 26 = .ok (.iaload, 1) := by decide +kernel
theorem dX9_acceptOneOf_27 : decode cX9_acceptOneOf 27 = .ok (.i2c, 1) := by decide +kernel
theorem dX9_acceptOneOf_28 : decode cX9_acceptOneOf 28 = .ok (.invokevirtual 94, 3) := by decide +kernel
theorem dX9_acceptOneOf_31 : decode cX9_acceptOneOf 31 = .ok (.goto 4, 3) := by decide +kernel
theorem dX9_acceptOneOf_34 : decode cX9_acceptOneOf 34 = .ok (.iconst (-1), 1) := by decide +kernel
theorem dX9_acceptOneOf_35 : decode cX9_acceptOneOf 35 = .ok (.istore_n 2, 1) := by decide +kernel
theorem dX9_acceptOneOf_36 : decode cX9_acceptOneOf 36 = .ok (.iload_n 2, 1) := by decide +kernel
theorem dX9_acceptOneOf_37 : decode cX9_acceptOneOf 37 = .ok (.ifCond .lt 13, 3) := by decide +kernel
theorem dX9_acceptOneOf_40 : decode cX9_acceptOneOf 40 = .ok (.aload_n 0, 1) := by decide +kernel
theorem dX9_acceptOneOf_41 : decode cX9_acceptOneOf 41 = .ok (.dup, 1) := by decide +kernel
theorem dX9_acceptOneOf_42 : decode cX9_acceptOneOf 42 = .ok (.getfield 38, 3) := by decide +kernel
theorem dX9_acceptOneOf_45 : decode cX9_acceptOneOf 45 = .ok (.iconst 1, 1) := by decide +kernel
theorem dX9_acceptOneOf_46 : decode cX9_acceptOneOf 46 = .ok (.iadd, 1) := by decide +kernel
theorem dX9_acceptOneOf_47 : decode cX9_acceptOneOf 47 = .ok (.putfield 38, 3) := by decide +kernel
theorem dX9_acceptOneOf_50 : decode cX9_acceptOneOf 50 = .ok (.iload_n 2, 1) := by decide +kernel
theorem dX9_acceptOneOf_51 : decode cX9_acceptOneOf 51 = .ok (.ireturn, 1) := by decide +kernel
theorem dX9_addStep_0 : decode cX9_addStep 0 = .ok (.aload_n 0, 1) := by decide +kernel
theorem dX9_addStep_1 : decode cX9_addStep 1 = .ok (.getfield 28, 3) := by decide +kernel
theorem dX9_addStep_4 : decode cX9_addStep 4 = .ok (.bipush 100, 2) := by decide +kernel
theorem dX9_addStep_6 : decode cX9_addStep 6 = .ok (.if_icmp .ge 7, 3) := by decide +kernel
theorem dX9_addStep_9 : decode cX9_addStep 9 = .ok (.iconst 1, 1) := by decide +kernel
theorem dX9_addStep_10 : decode cX9_addStep 10 = .ok (.goto 4, 3) := by decide +kernel
theorem dX9_addStep_13 : decode cX9_addStep 13 = .ok (.iconst 0, 1) := by decide +kernel
theorem dX9_addStep_14 : decode cX9_addStep 14 = .ok (.istore_n 2, 1) := by decide +kernel
theorem dX9_addStep_15 : decode cX9_addStep 15 = .ok (.iload_n 2, 1) := by decide +kernel
theorem dX9_addStep_16 : decode cX9_addStep 16 = .ok (.ifCond .eq 23, 3) := by decide +kernel
theorem dX9_addStep_19 : decode cX9_addStep 19 = .ok (.aload_n 0, 1) := by decide +kernel
theorem dX9_addStep_20 : decode cX9_addStep 20 = .ok (.getfield 25, 3) := by decide +kernel
theorem dX9_addStep_23 : decode cX9_addStep 23 = .ok (.aload_n 0, 1) := by decide +kernel
theorem dX9_addStep_24 : decode cX9_addStep 24 = .ok (.getfield 28, 3) := by decide +kernel
theorem dX9_addStep_27 : decode cX9_addStep 27 = .ok (.iload_n 1, 1) := by decide +kernel
theorem dX9_addStep_28 : decode cX9_addStep 28 = .ok (.iastore, 1) := by decide +kernel
theorem dX9_addStep_29 : decode cX9_addStep 29 = .ok (.aload_n 0, 1) := by decide +kernel
theorem dX9_addStep_30 : decode cX9_addStep 30 = .ok (.dup, 1) := by decide +kernel
theorem dX9_addStep_31 : decode cX9_addStep 31 = .ok (.getfield 28, 3) := by decide +kernel
theorem dX9_addStep_34 : decode cX9_addStep 34 = .ok (.iconst 1, 1) := by decide +kernel
theorem dX9_addStep_35 : decode cX9_addStep 35 = .ok (.iadd, 1) := by decide +kernel
theorem dX9_addStep_36 : decode cX9_addStep 36 = .ok (.putfield 28, 3) := by decide +kernel
theorem dX9_addStep_39 : decode cX9_addStep 39 = .ok (.iload_n 2, 1) := by decide +kernel
theorem dX9_addStep_40 : decode cX9_addStep 40 = .ok (.ireturn, 1) := by decide +kernel
theorem dX9_done_0 : decode cX9_done 0 = .ok (.iload_n 1, 1) := by decide +kernel
theorem dX9_done_1 : decode cX9_done 1 = .ok (.istore_n 3, 1) := by decide +kernel
theorem dX9_done_2 : decode cX9_done 2 = .ok (.iconst 0, 1) := by decide +kernel
theorem dX9_done_3 : decode cX9_done 3 = .ok (.istore 4, 2) := by decide +kernel
theorem dX9_done_5 : decode cX9_done 5 = .ok (.iconst 0, 1) := by decide +kernel
theorem dX9_done_6 : decode cX9_done 6 = .ok (.istore 5, 2) := by decide +kernel
theorem dX9_done_8 : decode cX9_done 8 = .ok (.iload 5, 2) := by decide +kernel
theorem dX9_done_10 : decode cX9_done 10 = .ok (.aload_n 0, 1) := by decide +kernel
theorem dX9_done_11 : decode cX9_done 11 = .ok (.getfield 21, 3) := by decide +kernel
theorem dX9_done_14 : decode cX9_done 14 = .ok (.if_icmp .ge 65, 3) := by decide +kernel
theorem dX9_done_17 : decode cX9_done 17 = .ok (.aload_n 0, 1) := by decide +kernel
theorem dX9_done_18 : decode cX9_done 18 = .ok (.getfield 11, 3) := by decide +kernel
theorem dX9_done_21 : decode cX9_done 21 = .ok (.iload 5, 2) := by decide +kernel
theorem dX9_done_23 : decode cX9_done 23 = .ok (.iaload, 1) := by decide +kernel
theorem dX9_done_24 : decode cX9_done 24 = .ok (.iconst 3, 1) := by decide +kernel
theorem dX9_done_25 : decode cX9_done 25 = .ok (.if_icmp .eq 39, 3) := by decide +kernel
theorem dX9_done_28 : decode cX9_done 28 = .ok (.aload_n 0, 1) := by decide +kernel
theorem dX9_done_29 : decode cX9_done 29 = .ok (.iload 4, 2) := by decide +kernel
theorem dX9_done_31 : decode cX9_done 31 = .ok (.aload_n 0, 1) := by decide +kernel
theorem dX9_done_32 : decode cX9_done 32 = .ok (.getfield 18, 3) := by decide +kernel
theorem dX9_done_35 : decode cX9_done 35 = .ok (.iload 5, 2) := by decide +kernel
theorem dX9_done_37 : decode cX9_done 37 = .ok (.iaload, 1) := by decide +kernel
theorem dX9_done_38 : decode cX9_done 38 = .ok (.aload_n 2, 1) := by decide +kernel
theorem dX9_done_39 : decode cX9_done 39 = .ok (.invokevirtual 98, 3) := by decide +kernel
theorem dX9_done_42 : decode cX9_done 42 = .ok (.ifCond .eq 22, 3) := by decide +kernel
theorem dX9_done_45 : decode cX9_done 45 = .ok (.aload_n 0, 1) := by decide +kernel
theorem dX9_done_46 : decode cX9_done 46 = .ok (.getfield 11, 3) := by decide +kernel
theorem dX9_done_49 : decode cX9_done 49 = .ok (.iload 5, 2) := by decide +kernel
theorem dX9_done_51 : decode cX9_done 51 = .ok (.iaload, 1) := by decide +kernel
theorem dX9_done_52 : decode cX9_done 52 = .ok (.aload_n 0, 1) := by decide +kernel
theorem dX9_done_53 : decode cX9_done 53 = .ok (.getfield 15, 3) := by decide +kernel
theorem dX9_done_56 : decode cX9_done 56 = .ok (.iload 5, 2) := by decide +kernel
theorem dX9_done_58 : decode cX9_done 58 = .ok (.iaload, 1) := by decide +kernel
theorem dX9_done_59 : decode cX9_done 59 = .ok (.iload_n 3, 1) := by decide +kernel
theorem dX9_done_60 : decode cX9_done 60 = .ok (.invokestatic 102, 3) := by decide +kernel
theorem dX9_done_63 : decode cX9_done 63 = .ok (.istore_n 3, 1) := by decide +kernel
theorem dX9_done_64 : decode cX9_done 64 = .ok (.aload_n 0, 1) := by decide +kernel
theorem dX9_done_65 : decode cX9_done 65 = .ok (.getfield 18, 3) := by decide +kernel
theorem dX9_done_68 : decode cX9_done 68 = .ok (.iload 5, 2) := by decide +kernel
theorem dX9_done_70 : decode cX9_done 70 = .ok (.iaload, 1) := by decide +kernel
theorem dX9_done_71 : decode cX9_done 71 = .ok (.istore 4, 2) := by decide +kernel
theorem dX9_done_73 : decode cX9_done 73 = .ok (.iinc 5 1, 3) := by decide +kernel
theorem dX9_done_76 : decode cX9_done 76 = .ok (.goto (-68), 3) := by decide +kernel
theorem dX9_done_79 : decode cX9_done 79 = .ok (.iload_n 3, 1) := by decide +kernel
theorem dX9_done_80 : decode cX9_done 80 = .ok (.ireturn, 1) := by decide +kernel
theorem dX9_moved_0 : decode cX9_moved 0 = .ok (.iconst 1, 1) := by decide +kernel
theorem dX9_moved_1 : decode cX9_moved 1 = .ok (.iload_n 1, 1) := by decide +kernel
theorem dX9_moved_2 : decode cX9_moved 2 = .ok (.bipush 10, 2) := by decide +kernel
theorem dX9_moved_4 : decode cX9_moved 4 = .ok (.irem, 1) := by decide +kernel
theorem dX9_moved_5 : decode cX9_moved 5 = .ok (.ishl, 1) := by decide +kernel
theorem dX9_moved_6 : decode cX9_moved 6 = .ok (.istore_n 3, 1) := by decide +kernel
theorem dX9_moved_7 : decode cX9_moved 7 = .ok (.iload_n 0, 1) := by decide +kernel
theorem dX9_moved_8 : decode cX9_moved 8 = .ok (.ifCond .ne 7, 3) := by decide +kernel
theorem dX9_moved_11 : decode cX9_moved 11 = .ok (.iload_n 2, 1) := by decide +kernel
theorem dX9_moved_12 : decode cX9_moved 12 = .ok (.iload_n 3, 1) := by decide +kernel
theorem dX9_moved_13 : decode cX9_moved 13 = .ok (.ior, 1) := by decide +kernel
theorem dX9_moved_14 : decode cX9_moved 14 = .ok (.ireturn, 1) := by decide +kernel
theorem dX9_moved_15 : decode cX9_moved 15 = .ok (.iload_n 0, 1) := by decide +kernel
theorem dX9_moved_16 : decode cX9_moved 16 = .ok (.iconst 1, 1) := by decide +kernel
theorem dX9_moved_17 : decode cX9_moved 17 = .ok (.if_icmp .ne 11, 3) := by decide +kernel
theorem dX9_moved_20 : decode cX9_moved 20 = .ok (.iload_n 2, 1) := by decide +kernel
theorem dX9_moved_21 : decode cX9_moved 21 = .ok (.iload_n 3, 1) := by decide +kernel
theorem dX9_moved_22 : decode cX9_moved 22 = .ok (.iconst (-1), 1) := by decide +kernel
theorem dX9_moved_23 : decode cX9_moved 23 = .ok (.ixor, 1) := by decide +kernel
theorem dX9_moved_24 : decode cX9_moved 24 = .ok (.iand, 1) := by decide +kernel
theorem dX9_moved_25 : decode cX9_moved 25 = .ok (.goto 8, 3) := by decide +kernel
theorem dX9_moved_28 : decode cX9_moved 28 = .ok (.iload_n 2, 1) := by decide +kernel
theorem dX9_moved_29 : decode cX9_moved 29 = .ok (.iload_n 1, 1) := by decide +kernel
theorem dX9_moved_30 : decode cX9_moved 30 = .ok (.invokestatic 106, 3) := by decide +kernel
theorem dX9_moved_33 : decode cX9_moved 33 = .ok (.ireturn, 1) := by decide +kernel
theorem dX9_holds_0 : decode cX9_holds 0 = .ok (.iconst 0, 1) := by decide +kernel
theorem dX9_holds_1 : decode cX9_holds 1 = .ok (.istore 4, 2) := by decide +kernel
theorem dX9_holds_3 : decode cX9_holds 3 = .ok (.iload_n 1, 1) := by decide +kernel
theorem dX9_holds_4 : decode cX9_holds 4 = .ok (.istore 5, 2) := by decide +kernel
theorem dX9_holds_6 : decode cX9_holds 6 = .ok (.iload 5, 2) := by decide +kernel
theorem dX9_holds_8 : decode cX9_holds 8 = .ok (.iload_n 2, 1) := by decide +kernel
theorem dX9_holds_9 : decode cX9_holds 9 = .ok (.if_icmp .ge 108, 3) := by decide +kernel
theorem dX9_holds_12 : decode cX9_holds 12 = .ok (.aload_n 0, 1) := by decide +kernel
theorem dX9_holds_13 : decode cX9_holds 13 = .ok (.getfield 25, 3) := by decide +kernel
theorem dX9_holds_16 : decode cX9_holds 16 = .ok (.iload 5, 2) := by decide +kernel
theorem dX9_holds_18 : decode cX9_holds 18 = .ok (.iaload, 1) := by decide +kernel
theorem dX9_holds_19 : decode cX9_holds 19 = .ok (.istore 6, 2) := by decide +kernel
theorem dX9_holds_21 : decode cX9_holds 21 = .ok (.iload 4, 2) := by decide +kernel
theorem dX9_holds_23 : decode cX9_holds 23 = .ok (.iconst 1, 1) := by decide +kernel
theorem dX9_holds_24 : decode cX9_holds 24 = .ok (.iand, 1) := by decide +kernel
theorem dX9_holds_25 : decode cX9_holds 25 = .ok (.istore 7, 2) := by decide +kernel
theorem dX9_holds_27 : decode cX9_holds 27 = .ok (.iload 6, 2) := by decide +kernel
theorem dX9_holds_29 : decode cX9_holds 29 = .ok (.iconst (-1), 1) := by decide +kernel
theorem dX9_holds_30 : decode cX9_holds 30 = .ok (.if_icmp .ne 12, 3) := by decide +kernel
theorem dX9_holds_33 : decode cX9_holds 33 = .ok (.iload 4, 2) := by decide +kernel
theorem dX9_holds_35 : decode cX9_holds 35 = .ok (.iconst 1, 1) := by decide +kernel
theorem dX9_holds_36 : decode cX9_holds 36 = .ok (.ixor, 1) := by decide +kernel
theorem dX9_holds_37 : decode cX9_holds 37 = .ok (.istore 4, 2) := by decide +kernel
theorem dX9_holds_39 : decode cX9_holds 39 = .ok (.goto 72, 3) := by decide +kernel
theorem dX9_holds_42 : decode cX9_holds 42 = .ok (.iload 6, 2) := by decide +kernel
theorem dX9_holds_44 : decode cX9_holds 44 = .ok (.bipush (-2), 2) := by decide +kernel
theorem dX9_holds_46 : decode cX9_holds 46 = .ok (.if_icmp .ne 25, 3) := by decide +kernel
theorem dX9_holds_49 : decode cX9_holds 49 = .ok (.iload 4, 2) := by decide +kernel
theorem dX9_holds_51 : decode cX9_holds 51 = .ok (.iconst 1, 1) := by decide +kernel
theorem dX9_holds_52 : decode cX9_holds 52 = .ok (.ishr, 1) := by decide +kernel
theorem dX9_holds_53 : decode cX9_holds 53 = .ok (.iload 7, 2) := by decide +kernel
theorem dX9_holds_55 : decode cX9_holds 55 = .ok (.iconst 1, 1) := by decide +kernel
theorem dX9_holds_56 : decode cX9_holds 56 = .ok (.if_icmp .ne 7, 3) := by decide +kernel
theorem dX9_holds_59 : decode cX9_holds 59 = .ok (.iconst (-1), 1) := by decide +kernel
theorem dX9_holds_60 : decode cX9_holds 60 = .ok (.goto 5, 3) := by decide +kernel
theorem dX9_holds_63 : decode cX9_holds 63 = .ok (.bipush (-2), 2) := by decide +kernel
theorem dX9_holds_65 : decode cX9_holds 65 = .ok (.iand, 1) := by decide +kernel
theorem dX9_holds_66 : decode cX9_holds 66 = .ok (.istore 4, 2) := by decide +kernel
theorem dX9_holds_68 : decode cX9_holds 68 = .ok (.goto 43, 3) := by decide +kernel
theorem dX9_holds_71 : decode cX9_holds 71 = .ok (.iload 6, 2) := by decide +kernel
theorem dX9_holds_73 : decode cX9_holds 73 = .ok (.bipush (-3), 2) := by decide +kernel
theorem dX9_holds_75 : decode cX9_holds 75 = .ok (.if_icmp .ne 15, 3) := by decide +kernel
theorem dX9_holds_78 : decode cX9_holds 78 = .ok (.iload 4, 2) := by decide +kernel
theorem dX9_holds_80 : decode cX9_holds 80 = .ok (.iconst 1, 1) := by decide +kernel
theorem dX9_holds_81 : decode cX9_holds 81 = .ok (.ishr, 1) := by decide +kernel
theorem dX9_holds_82 : decode cX9_holds 82 = .ok (.iload 7, 2) := by decide +kernel
theorem dX9_holds_84 : decode cX9_holds 84 = .ok (.ior, 1) := by decide +kernel
theorem dX9_holds_85 : decode cX9_holds 85 = .ok (.istore 4, 2) := by decide +kernel
theorem dX9_holds_87 : decode cX9_holds 87 = .ok (.goto 24, 3) := by decide +kernel
theorem dX9_holds_90 : decode cX9_holds 90 = .ok (.iload 4, 2) := by decide +kernel
theorem dX9_holds_92 : decode cX9_holds 92 = .ok (.iconst 1, 1) := by decide +kernel
theorem dX9_holds_93 : decode cX9_holds 93 = .ok (.ishl, 1) := by decide +kernel
theorem dX9_holds_94 : decode cX9_holds 94 = .ok (.iload 6, 2) := by decide +kernel
theorem dX9_holds_96 : decode cX9_holds 96 = .ok (.aload_n 3, 1) := by decide +kernel
theorem dX9_holds_97 : decode cX9_holds 97 = .ok (.invokestatic 110, 3) := by decide +kernel
theorem dX9_holds_100 : decode cX9_holds 100 = .ok (.ifCond .eq 7, 3) := by decide +kernel
theorem dX9_holds_103 : decode cX9_holds 103 = .ok (.iconst 1, 1) := by decide +kernel
theorem dX9_holds_104 : decode cX9_holds 104 = .ok (.goto 4, 3) := by decide +kernel
theorem dX9_holds_107 : decode cX9_holds 107 = .ok (.iconst 0, 1) := by decide +kernel
theorem dX9_holds_108 : decode cX9_holds 108 = .ok (.ior, 1) := by decide +kernel
theorem dX9_holds_109 : decode cX9_holds 109 = .ok (.istore 4, 2) := by decide +kernel
theorem dX9_holds_111 : decode cX9_holds 111 = .ok (.iinc 5 1, 3) := by decide +kernel
theorem dX9_holds_114 : decode cX9_holds 114 = .ok (.goto (-108), 3) := by decide +kernel
theorem dX9_holds_117 : decode cX9_holds 117 = .ok (.iload 4, 2) := by decide +kernel
theorem dX9_holds_119 : decode cX9_holds 119 = .ok (.iconst 1, 1) := by decide +kernel
theorem dX9_holds_120 : decode cX9_holds 120 = .ok (.iand, 1) := by decide +kernel
theorem dX9_holds_121 : decode cX9_holds 121 = .ok (.iconst 1, 1) := by decide +kernel
theorem dX9_holds_122 : decode cX9_holds 122 = .ok (.if_icmp .ne 7, 3) := by decide +kernel
theorem dX9_holds_125 : decode cX9_holds 125 = .ok (.iconst 1, 1) := by decide +kernel
theorem dX9_holds_126 : decode cX9_holds 126 = .ok (.goto 4, 3) := by decide +kernel
theorem dX9_holds_129 : decode cX9_holds 129 = .ok (.iconst 0, 1) := by decide +kernel
theorem dX9_holds_130 : decode cX9_holds 130 = .ok (.ireturn, 1) := by decide +kernel
theorem dX9_isSo_0 : decode cX9_isSo 0 = .ok (.iload_n 0, 1) := by decide +kernel
theorem dX9_isSo_1 : decode cX9_isSo 1 = .ok (.sipush 300, 3) := by decide +kernel
theorem dX9_isSo_4 : decode cX9_isSo 4 = .ok (.idiv, 1) := by decide +kernel
theorem dX9_isSo_5 : decode cX9_isSo 5 = .ok (.istore_n 2, 1) := by decide +kernel
theorem dX9_isSo_6 : decode cX9_isSo 6 = .ok (.iload_n 2, 1) := by decide +kernel
theorem dX9_isSo_7 : decode cX9_isSo 7 = .ok (.ifCond .lt 9, 3) := by decide +kernel
theorem dX9_isSo_10 : decode cX9_isSo 10 = .ok (.iload_n 2, 1) := by decide +kernel
theorem dX9_isSo_11 : decode cX9_isSo 11 = .ok (.aload_n 1, 1) := by decide +kernel
theorem dX9_isSo_12 : decode cX9_isSo 12 = .ok (.arraylength, 1) := by decide +kernel
theorem dX9_isSo_13 : decode cX9_isSo 13 = .ok (.if_icmp .lt 5, 3) := by decide +kernel
theorem dX9_isSo_16 : decode cX9_isSo 16 = .ok (.iconst 0, 1) := by decide +kernel
theorem dX9_isSo_17 : decode cX9_isSo 17 = .ok (.ireturn, 1) := by decide +kernel
theorem dX9_isSo_18 : decode cX9_isSo 18 = .ok (.aload_n 1, 1) := by decide +kernel
theorem dX9_isSo_19 : decode cX9_isSo 19 = .ok (.iload_n 2, 1) := by decide +kernel
theorem dX9_isSo_20 : decode cX9_isSo 20 = .ok (.iaload, 1) := by decide +kernel
theorem dX9_isSo_21 : decode cX9_isSo 21 = .ok (.istore_n 3, 1) := by decide +kernel
theorem dX9_isSo_22 : decode cX9_isSo 22 = .ok (.iload_n 0, 1) := by decide +kernel
theorem dX9_isSo_23 : decode cX9_isSo 23 = .ok (.bipush 100, 2) := by decide +kernel
theorem dX9_isSo_25 : decode cX9_isSo 25 = .ok (.irem, 1) := by decide +kernel
theorem dX9_isSo_26 : decode cX9_isSo 26 = .ok (.istore 4, 2) := by decide +kernel
theorem dX9_isSo_28 : decode cX9_isSo 28 = .ok (.iload_n 0, 1) := by decide +kernel
theorem dX9_isSo_29 : decode cX9_isSo 29 = .ok (.bipush 100, 2) := by decide +kernel
theorem dX9_isSo_31 : decode cX9_isSo 31 = .ok (.idiv, 1) := by decide +kernel
theorem dX9_isSo_32 : decode cX9_isSo 32 = .ok (.iconst 3, 1) := by decide +kernel
theorem dX9_isSo_33 : decode cX9_isSo 33 = .ok (.irem, 1) := by decide +kernel
theorem dX9_isSo_34 : decode cX9_isSo 34 = .ok (.lookupswitch 50 #[(0, 26), (1, 38)], 26) := by decide +kernel
theorem dX9_isSo_60 : decode cX9_isSo 60 = .ok (.iload_n 3, 1) := by decide +kernel
theorem dX9_isSo_61 : decode cX9_isSo 61 = .ok (.iload 4, 2) := by decide +kernel
theorem dX9_isSo_63 : decode cX9_isSo 63 = .ok (.if_icmp .ge 7, 3) := by decide +kernel
theorem dX9_isSo_66 : decode cX9_isSo 66 = .ok (.iconst 1, 1) := by decide +kernel
theorem dX9_isSo_67 : decode cX9_isSo 67 = .ok (.goto 4, 3) := by decide +kernel
theorem dX9_isSo_70 : decode cX9_isSo 70 = .ok (.iconst 0, 1) := by decide +kernel
theorem dX9_isSo_71 : decode cX9_isSo 71 = .ok (.ireturn, 1) := by decide +kernel
theorem dX9_isSo_72 : decode cX9_isSo 72 = .ok (.iload_n 3, 1) := by decide +kernel
theorem dX9_isSo_73 : decode cX9_isSo 73 = .ok (.iload 4, 2) := by decide +kernel
theorem dX9_isSo_75 : decode cX9_isSo 75 = .ok (.if_icmp .ne 7, 3) := by decide +kernel
theorem dX9_isSo_78 : decode cX9_isSo 78 = .ok (.iconst 1, 1) := by decide +kernel
theorem dX9_isSo_79 : decode cX9_isSo 79 = .ok (.goto 4, 3) := by decide +kernel
theorem dX9_isSo_82 : decode cX9_isSo 82 = .ok (.iconst 0, 1) := by decide +kernel
theorem dX9_isSo_83 : decode cX9_isSo 83 = .ok (.ireturn, 1) := by decide +kernel
theorem dX9_isSo_84 : decode cX9_isSo 84 = .ok (.iload_n 3, 1) := by decide +kernel
theorem dX9_isSo_85 : decode cX9_isSo 85 = .ok (.iload 4, 2) := by decide +kernel
theorem dX9_isSo_87 : decode cX9_isSo 87 = .ok (.if_icmp .le 7, 3) := by decide +kernel
theorem dX9_isSo_90 : decode cX9_isSo 90 = .ok (.iconst 1, 1) := by decide +kernel
theorem dX9_isSo_91 : decode cX9_isSo 91 = .ok (.goto 4, 3) := by decide +kernel
theorem dX9_isSo_94 : decode cX9_isSo 94 = .ok (.iconst 0, 1) := by decide +kernel
theorem dX9_isSo_95 : decode cX9_isSo 95 = .ok (.ireturn, 1) := by decide +kernel
theorem dX10_init_0 : decode cX10_init 0 = .ok (.aload_n 0, 1) := by decide +kernel
theorem dX10_init_1 : decode cX10_init 1 = .ok (.iload_n 1, 1) := by decide +kernel
theorem dX10_init_2 : decode cX10_init 2 = .ok (.iload_n 2, 1) := by decide +kernel
theorem dX10_init_3 : decode cX10_init 3 = .ok (.iload_n 3, 1) := by decide +kernel
theorem dX10_init_4 : decode cX10_init 4 = .ok (.invokespecial 1, 3) := by decide +kernel
theorem dX10_init_7 : decode cX10_init 7 = .ok (.return_, 1) := by decide +kernel
theorem dX10_showing_0 : decode cX10_showing 0 = .ok (.iload_n 3, 1) := by decide +kernel
theorem dX10_showing_1 : decode cX10_showing 1 = .ok (.iconst 2, 1) := by decide +kernel
theorem dX10_showing_2 : decode cX10_showing 2 = .ok (.irem, 1) := by decide +kernel
theorem dX10_showing_3 : decode cX10_showing 3 = .ok (.ifCond .ne 15, 3) := by decide +kernel
theorem dX10_showing_6 : decode cX10_showing 6 = .ok (.aload_n 0, 1) := by decide +kernel
theorem dX10_showing_7 : decode cX10_showing 7 = .ok (.iload_n 1, 1) := by decide +kernel
theorem dX10_showing_8 : decode cX10_showing 8 = .ok (.iload_n 2, 1) := by decide +kernel
theorem dX10_showing_9 : decode cX10_showing 9 = .ok (.iload_n 3, 1) := by decide +kernel
theorem dX10_showing_10 : decode cX10_showing 10 = .ok (.iload 4, 2) := by decide +kernel
theorem dX10_showing_12 : decode cX10_showing 12 = .ok (.invokespecial 7, 3) := by decide +kernel
theorem dX10_showing_15 : decode cX10_showing 15 = .ok (.goto 4, 3) := by decide +kernel
theorem dX10_showing_18 : decode cX10_showing 18 = .ok (.iload_n 1, 1) := by decide +kernel
theorem dX10_showing_19 : decode cX10_showing 19 = .ok (.ireturn, 1) := by decide +kernel
theorem dX10_tells_0 : decode cX10_tells 0 = .ok (.aload_n 2, 1) := by decide +kernel
theorem dX10_tells_1 : decode cX10_tells 1 = .ok (.bipush 60, 2) := by decide +kernel
theorem dX10_tells_3 : decode cX10_tells 3 = .ok (.invokevirtual 11, 3) := by decide +kernel
theorem dX10_tells_6 : decode cX10_tells 6 = .ok (.pop, 1) := by decide +kernel
theorem dX10_tells_7 : decode cX10_tells 7 = .ok (.aload_n 0, 1) := by decide +kernel
theorem dX10_tells_8 : decode cX10_tells 8 = .ok (.iload_n 1, 1) := by decide +kernel
theorem dX10_tells_9 : decode cX10_tells 9 = .ok (.aload_n 0, 1) := by decide +kernel
theorem dX10_tells_10 : decode cX10_tells 10 = .ok (.getfield 17, 3) := by decide +kernel
theorem dX10_tells_13 : decode cX10_tells 13 = .ok (.isub, 1) := by decide +kernel
theorem dX10_tells_14 : decode cX10_tells 14 = .ok (.aload_n 2, 1) := by decide +kernel
theorem dX10_tells_15 : decode cX10_tells 15 = .ok (.invokespecial 23, 3) := by decide +kernel
theorem dX10_tells_18 : decode cX10_tells 18 = .ok (.ireturn, 1) := by decide +kernel
theorem dX11_init_0 : decode cX11_init 0 = .ok (.aload_n 0, 1) := by decide +kernel
theorem dX11_init_1 : decode cX11_init 1 = .ok (.invokespecial 5, 3) := by decide +kernel
theorem dX11_init_4 : decode cX11_init 4 = .ok (.aload_n 0, 1) := by decide +kernel
theorem dX11_init_5 : decode cX11_init 5 = .ok (.new 11, 3) := by decide +kernel
theorem dX11_init_8 : decode cX11_init 8 = .ok (.dup, 1) := by decide +kernel
theorem dX11_init_9 : decode cX11_init 9 = .ok (.invokespecial 13, 3) := by decide +kernel
theorem dX11_init_12 : decode cX11_init 12 = .ok (.putfield 14, 3) := by decide +kernel
theorem dX11_init_15 : decode cX11_init 15 = .ok (.aload_n 0, 1) := by decide +kernel
theorem dX11_init_16 : decode cX11_init 16 = .ok (.new 11, 3) := by decide +kernel
theorem dX11_init_19 : decode cX11_init 19 = .ok (.dup, 1) := by decide +kernel
theorem dX11_init_20 : decode cX11_init 20 = .ok (.invokespecial 13, 3) := by decide +kernel
theorem dX11_init_23 : decode cX11_init 23 = .ok (.putfield 18, 3) := by decide +kernel
theorem dX11_init_26 : decode cX11_init 26 = .ok (.aload_n 0, 1) := by decide +kernel
theorem dX11_init_27 : decode cX11_init 27 = .ok (.iconst 0, 1) := by decide +kernel
theorem dX11_init_28 : decode cX11_init 28 = .ok (.putfield 21, 3) := by decide +kernel
theorem dX11_init_31 : decode cX11_init 31 = .ok (.aload_n 0, 1) := by decide +kernel
theorem dX11_init_32 : decode cX11_init 32 = .ok (.new 25, 3) := by decide +kernel
theorem dX11_init_35 : decode cX11_init 35 = .ok (.dup, 1) := by decide +kernel
theorem dX11_init_36 : decode cX11_init 36 = .ok (.bipush 100, 2) := by decide +kernel
theorem dX11_init_38 : decode cX11_init 38 = .ok (.invokespecial 29, 3) := by decide +kernel
theorem dX11_init_41 : decode cX11_init 41 = .ok (.putfield 32, 3) := by decide +kernel
theorem dX11_init_44 : decode cX11_init 44 = .ok (.aload_n 0, 1) := by decide +kernel
theorem dX11_init_45 : decode cX11_init 45 = .ok (.new 27, 3) := by decide +kernel
theorem dX11_init_48 : decode cX11_init 48 = .ok (.dup, 1) := by decide +kernel
theorem dX11_init_49 : decode cX11_init 49 = .ok (.invokespecial 36, 3) := by decide +kernel
theorem dX11_init_52 : decode cX11_init 52 = .ok (.putfield 37, 3) := by decide +kernel
theorem dX11_init_55 : decode cX11_init 55 = .ok (.aload_n 0, 1) := by decide +kernel
theorem dX11_init_56 : decode cX11_init 56 = .ok (.iconst 0, 1) := by decide +kernel
theorem dX11_init_57 : decode cX11_init 57 = .ok (.putfield 41, 3) := by decide +kernel
theorem dX11_init_60 : decode cX11_init 60 = .ok (.aload_n 0, 1) := by decide +kernel
theorem dX11_init_61 : decode cX11_init 61 = .ok (.bipush 6, 2) := by decide +kernel
theorem dX11_init_63 : decode cX11_init 63 = .ok (.anewarray 45, 3) := by decide +kernel
theorem dX11_init_66 : decode cX11_init 66 = .ok (.putfield 47, 3) := by decide +kernel
theorem dX11_init_69 : decode cX11_init 69 = .ok (.aload_n 0, 1) := by decide +kernel
theorem dX11_init_70 : decode cX11_init 70 = .ok (.new 51, 3) := by decide +kernel
theorem dX11_init_73 : decode cX11_init 73 = .ok (.dup, 1) := by decide +kernel
theorem dX11_init_74 : decode cX11_init 74 = .ok (.invokespecial 53, 3) := by decide +kernel
theorem dX11_init_77 : decode cX11_init 77 = .ok (.putfield 54, 3) := by decide +kernel
theorem dX11_init_80 : decode cX11_init 80 = .ok (.aload_n 0, 1) := by decide +kernel
theorem dX11_init_81 : decode cX11_init 81 = .ok (.bipush 6, 2) := by decide +kernel
theorem dX11_init_83 : decode cX11_init 83 = .ok (.newarray .int, 2) := by decide +kernel
theorem dX11_init_85 : decode cX11_init 85 = .ok (.putfield 58, 3) := by decide +kernel
theorem dX11_init_88 : decode cX11_init 88 = .ok (.aload_n 0, 1) := by decide +kernel
theorem dX11_init_89 : decode cX11_init 89 = .ok (.bipush 16, 2) := by decide +kernel
theorem dX11_init_91 : decode cX11_init 91 = .ok (.newarray .long, 2) := by decide +kernel
theorem dX11_init_93 : decode cX11_init 93 = .ok (.putfield 62, 3) := by decide +kernel
theorem dX11_init_96 : decode cX11_init 96 = .ok (.aload_n 0, 1) := by decide +kernel
theorem dX11_init_97 : decode cX11_init 97 = .ok (.iconst 5, 1) := by decide +kernel
theorem dX11_init_98 : decode cX11_init 98 = .ok (.newarray .int, 2) := by decide +kernel
theorem dX11_init_100 : decode cX11_init 100 = .ok (.putfield 66, 3) := by decide +kernel
theorem dX11_init_103 : decode cX11_init 103 = .ok (.aload_n 0, 1) := by decide +kernel
theorem dX11_init_104 : decode cX11_init 104 = .ok (.iconst 5, 1) := by decide +kernel
theorem dX11_init_105 : decode cX11_init 105 = .ok (.newarray .int, 2) := by decide +kernel
theorem dX11_init_107 : decode cX11_init 107 = .ok (.putfield 69, 3) := by decide +kernel
theorem dX11_init_110 : decode cX11_init 110 = .ok (.iconst 0, 1) := by decide +kernel
theorem dX11_init_111 : decode cX11_init 111 = .ok (.istore_n 1, 1) := by decide +kernel
theorem dX11_init_112 : decode cX11_init 112 = .ok (.iload_n 1, 1) := by decide +kernel
theorem dX11_init_113 : decode cX11_init 113 = .ok (.bipush 6, 2) := by decide +kernel
theorem dX11_init_115 : decode cX11_init 115 = .ok (.if_icmp .ge 22, 3) := by decide +kernel
theorem dX11_init_118 : decode cX11_init 118 = .ok (.aload_n 0, 1) := by decide +kernel
theorem dX11_init_119 : decode cX11_init 119 = .ok (.getfield 47, 3) := by decide +kernel
theorem dX11_init_122 : decode cX11_init 122 = .ok (.iload_n 1, 1) := by decide +kernel
theorem dX11_init_123 : decode cX11_init 123 = .ok (.new 45, 3) := by decide +kernel
theorem dX11_init_126 : decode cX11_init 126 = .ok (.dup, 1) := by decide +kernel
theorem dX11_init_127 : decode cX11_init 127 = .ok (.invokespecial 72, 3) := by decide +kernel
theorem dX11_init_130 : decode cX11_init 130 = .ok (.aastore, 1) := by decide +kernel
theorem dX11_init_131 : decode cX11_init 131 = .ok (.iinc 1 1, 3) := by decide +kernel
theorem dX11_init_134 : decode cX11_init 134 = .ok (.goto (-22), 3) := by decide +kernel
theorem dX11_init_137 : decode cX11_init 137 = .ok (.return_, 1) := by decide +kernel
theorem dX11_word_0 : decode cX11_word 0 = .ok (.iload_n 1, 1) := by decide +kernel
theorem dX11_word_1 : decode cX11_word 1 = .ok (.invokestatic 73, 3) := by decide +kernel
theorem dX11_word_4 : decode cX11_word 4 = .ok (.ifCond .ne 6, 3) := by decide +kernel
theorem dX11_word_7 : decode cX11_word 7 = .ok (.bipush (-2), 2) := by decide +kernel
theorem dX11_word_9 : decode cX11_word 9 = .ok (.ireturn, 1) := by decide +kernel
theorem dX11_word_10 : decode cX11_word 10 = .ok (.aload_n 0, 1) := by decide +kernel
theorem dX11_word_11 : decode cX11_word 11 = .ok (.getfield 14, 3) := by decide +kernel
theorem dX11_word_14 : decode cX11_word 14 = .ok (.getfield 77, 3) := by decide +kernel
theorem dX11_word_17 : decode cX11_word 17 = .ok (.invokevirtual 80, 3) := by decide +kernel
theorem dX11_word_20 : decode cX11_word 20 = .ok (.ifCond .eq 6, 3) := by decide +kernel
theorem dX11_word_23 : decode cX11_word 23 = .ok (.bipush (-4), 2) := by decide +kernel
theorem dX11_word_25 : decode cX11_word 25 = .ok (.ireturn, 1) := by decide +kernel
theorem dX11_word_26 : decode cX11_word 26 = .ok (.aload_n 0, 1) := by decide +kernel
theorem dX11_word_27 : decode cX11_word 27 = .ok (.getfield 14, 3) := by decide +kernel
theorem dX11_word_30 : decode cX11_word 30 = .ok (.getfield 77, 3) := by decide +kernel
theorem dX11_word_33 : decode cX11_word 33 = .ok (.iload_n 1, 1) := by decide +kernel
theorem dX11_word_34 : decode cX11_word 34 = .ok (.invokevirtual 84, 3) := by decide +kernel
theorem dX11_word_37 : decode cX11_word 37 = .ok (.iconst 1, 1) := by decide +kernel
theorem dX11_word_38 : decode cX11_word 38 = .ok (.isub, 1) := by decide +kernel
theorem dX11_word_39 : decode cX11_word 39 = .ok (.ireturn, 1) := by decide +kernel
theorem dX11_alter_0 : decode cX11_alter 0 = .ok (.aload_n 0, 1) := by decide +kernel
theorem dX11_alter_1 : decode cX11_alter 1 = .ok (.iload_n 1, 1) := by decide +kernel
theorem dX11_alter_2 : decode cX11_alter 2 = .ok (.invokevirtual 88, 3) := by decide +kernel
theorem dX11_alter_5 : decode cX11_alter 5 = .ok (.ifCond .ne 5, 3) := by decide +kernel
theorem dX11_alter_8 : decode cX11_alter 8 = .ok (.iconst (-1), 1) := by decide +kernel
theorem dX11_alter_9 : decode cX11_alter 9 = .ok (.ireturn, 1) := by decide +kernel
theorem dX11_alter_10 : decode cX11_alter 10 = .ok (.iload_n 2, 1) := by decide +kernel
theorem dX11_alter_11 : decode cX11_alter 11 = .ok (.invokestatic 73, 3) := by decide +kernel
theorem dX11_alter_14 : decode cX11_alter 14 = .ok (.ifCond .ne 6, 3) := by decide +kernel
theorem dX11_alter_17 : decode cX11_alter 17 = .ok (.bipush (-2), 2) := by decide +kernel
theorem dX11_alter_19 : decode cX11_alter 19 = .ok (.ireturn, 1) := by decide +kernel
theorem dX11_alter_20 : decode cX11_alter 20 = .ok (.aload_n 0, 1) := by decide +kernel
theorem dX11_alter_21 : decode cX11_alter 21 = .ok (.getfield 14, 3) := by decide +kernel
theorem dX11_alter_24 : decode cX11_alter 24 = .ok (.getfield 77, 3) := by decide +kernel
theorem dX11_alter_27 : decode cX11_alter 27 = .ok (.iload_n 1, 1) := by decide +kernel
theorem dX11_alter_28 : decode cX11_alter 28 = .ok (.invokevirtual 91, 3) := by decide +kernel
theorem dX11_alter_31 : decode cX11_alter 31 = .ok (.istore_n 3, 1) := by decide +kernel
theorem dX11_alter_32 : decode cX11_alter 32 = .ok (.aload_n 0, 1) := by decide +kernel
theorem dX11_alter_33 : decode cX11_alter 33 = .ok (.getfield 14, 3) := by decide +kernel
theorem dX11_alter_36 : decode cX11_alter 36 = .ok (.getfield 77, 3) := by decide +kernel
theorem dX11_alter_39 : decode cX11_alter 39 = .ok (.iload_n 1, 1) := by decide +kernel
theorem dX11_alter_40 : decode cX11_alter 40 = .ok (.iload_n 2, 1) := by decide +kernel
theorem dX11_alter_41 : decode cX11_alter 41 = .ok (.invokevirtual 94, 3) := by decide +kernel
theorem dX11_alter_44 : decode cX11_alter 44 = .ok (.iload_n 3, 1) := by decide +kernel
theorem dX11_alter_45 : decode cX11_alter 45 = .ok (.ireturn, 1) := by decide +kernel
theorem dX11_sender_0 : decode cX11_sender 0 = .ok (.iload_n 1, 1) := by decide +kernel
theorem dX11_sender_1 : decode cX11_sender 1 = .ok (.ifCond .lt 9, 3) := by decide +kernel
theorem dX11_sender_4 : decode cX11_sender 4 = .ok (.iload_n 1, 1) := by decide +kernel
theorem dX11_sender_5 : decode cX11_sender 5 = .ok (.bipush 7, 2) := by decide +kernel
theorem dX11_sender_7 : decode cX11_sender 7 = .ok (.if_icmp .lt 5, 3) := by decide +kernel
theorem dX11_sender_10 : decode cX11_sender 10 = .ok (.iconst (-1), 1) := by decide +kernel
theorem dX11_sender_11 : decode cX11_sender 11 = .ok (.ireturn, 1) := by decide +kernel
theorem dX11_sender_12 : decode cX11_sender 12 = .ok (.iload_n 2, 1) := by decide +kernel
theorem dX11_sender_13 : decode cX11_sender 13 = .ok (.invokestatic 98, 3) := by decide +kernel
theorem dX11_sender_16 : decode cX11_sender 16 = .ok (.ifCond .ne 6, 3) := by decide +kernel
theorem dX11_sender_19 : decode cX11_sender 19 = .ok (.bipush (-2), 2) := by decide +kernel
theorem dX11_sender_21 : decode cX11_sender 21 = .ok (.ireturn, 1) := by decide +kernel
theorem dX11_sender_22 : decode cX11_sender 22 = .ok (.aload_n 0, 1) := by decide +kernel
theorem dX11_sender_23 : decode cX11_sender 23 = .ok (.getfield 14, 3) := by decide +kernel
theorem dX11_sender_26 : decode cX11_sender 26 = .ok (.getfield 101, 3) := by decide +kernel
theorem dX11_sender_29 : decode cX11_sender 29 = .ok (.iconst 5, 1) := by decide +kernel
theorem dX11_sender_30 : decode cX11_sender 30 = .ok (.if_icmp .lt 6, 3) := by decide +kernel
theorem dX11_sender_33 : decode cX11_sender 33 = .ok (.bipush (-4), 2) := by decide +kernel
theorem dX11_sender_35 : decode cX11_sender 35 = .ok (.ireturn, 1) := by decide +kernel
theorem dX11_sender_36 : decode cX11_sender 36 = .ok (.aload_n 0, 1) := by decide +kernel
theorem dX11_sender_37 : decode cX11_sender 37 = .ok (.getfield 14, 3) := by decide +kernel
theorem dX11_sender_40 : decode cX11_sender 40 = .ok (.aload_n 0, 1) := by decide +kernel
theorem dX11_sender_41 : decode cX11_sender 41 = .ok (.getfield 14, 3) := by decide +kernel
theorem dX11_sender_44 : decode cX11_sender 44 = .ok (.getfield 101, 3) := by decide +kernel
theorem dX11_sender_47 : decode cX11_sender 47 = .ok (.iload_n 1, 1) := by decide +kernel
theorem dX11_sender_48 : decode cX11_sender 48 = .ok (.iload_n 2, 1) := by decide +kernel
theorem dX11_sender_49 : decode cX11_sender 49 = .ok (.invokestatic 104, 3) := by decide +kernel
theorem dX11_sender_52 : decode cX11_sender 52 = .ok (.invokevirtual 108, 3) := by decide +kernel
theorem dX11_sender_55 : decode cX11_sender 55 = .ok (.ireturn, 1) := by decide +kernel
theorem dX11_of_0 : decode cX11_of 0 = .ok (.aload_n 0, 1) := by decide +kernel
theorem dX11_of_1 : decode cX11_of 1 = .ok (.iload_n 1, 1) := by decide +kernel
theorem dX11_of_2 : decode cX11_of 2 = .ok (.invokevirtual 112, 3) := by decide +kernel
theorem dX11_of_5 : decode cX11_of 5 = .ok (.ifCond .ne 5, 3) := by decide +kernel
theorem dX11_of_8 : decode cX11_of 8 = .ok (.iconst (-1), 1) := by decide +kernel
theorem dX11_of_9 : decode cX11_of 9 = .ok (.ireturn, 1) := by decide +kernel
theorem dX11_of_10 : decode cX11_of 10 = .ok (.iload_n 2, 1) := by decide +kernel
theorem dX11_of_11 : decode cX11_of 11 = .ok (.tableswitch 81 0 4 #[33, 46, 59, 69, 75], 33) := by decide +kernel
theorem dX11_of_44 : decode cX11_of 44 = .ok (.aload_n 0, 1) := by decide +kernel
theorem dX11_of_45 : decode cX11_of 45 = .ok (.getfield 14, 3) := by decide +kernel
theorem dX11_of_48 : decode cX11_of 48 = .ok (.getfield 115, 3) := by decide +kernel
theorem dX11_of_51 : decode cX11_of 51 = .ok (.iload_n 1, 1) := by decide +kernel
theorem dX11_of_52 : decode cX11_of 52 = .ok (.aaload, 1) := by decide +kernel
theorem dX11_of_53 : decode cX11_of 53 = .ok (.getfield 119, 3) := by decide +kernel
theorem dX11_of_56 : decode cX11_of 56 = .ok (.ireturn, 1) := by decide +kernel
theorem dX11_of_57 : decode cX11_of 57 = .ok (.aload_n 0, 1) := by decide +kernel
theorem dX11_of_58 : decode cX11_of 58 = .ok (.getfield 14, 3) := by decide +kernel
theorem dX11_of_61 : decode cX11_of 61 = .ok (.getfield 115, 3) := by decide +kernel
theorem dX11_of_64 : decode cX11_of 64 = .ok (.iload_n 1, 1) := by decide +kernel
theorem dX11_of_65 : decode cX11_of 65 = .ok (.aaload, 1) := by decide +kernel
theorem dX11_of_66 : decode cX11_of 66 = .ok (.getfield 124, 3) := by decide +kernel
theorem dX11_of_69 : decode cX11_of 69 = .ok (.ireturn, 1) := by decide +kernel
theorem dX11_of_70 : decode cX11_of 70 = .ok (.aload_n 0, 1) := by decide +kernel
theorem dX11_of_71 : decode cX11_of 71 = .ok (.getfield 14, 3) := by decide +kernel
theorem dX11_of_74 : decode cX11_of 74 = .ok (.getfield 127, 3) := by decide +kernel
theorem dX11_of_77 : decode cX11_of 77 = .ok (.iload_n 1, 1) := by decide +kernel
theorem dX11_of_78 : decode cX11_of 78 = .ok (.iaload, 1) := by decide +kernel
theorem dX11_of_79 : decode cX11_of 79 = .ok (.ireturn, 1) := by decide +kernel
theorem dX11_of_80 : decode cX11_of 80 = .ok (.aload_n 0, 1) := by decide +kernel
theorem dX11_of_81 : decode cX11_of 81 = .ok (.iload_n 1, 1) := by decide +kernel
theorem dX11_of_82 : decode cX11_of 82 = .ok (.invokevirtual 130, 3) := by decide +kernel
theorem dX11_of_85 : decode cX11_of 85 = .ok (.ireturn, 1) := by decide +kernel
theorem dX11_of_86 : decode cX11_of 86 = .ok (.aload_n 0, 1) := by decide +kernel
theorem dX11_of_87 : decode cX11_of 87 = .ok (.iload_n 1, 1) := by decide +kernel
theorem dX11_of_88 : decode cX11_of 88 = .ok (.invokevirtual 133, 3) := by decide +kernel
theorem dX11_of_91 : decode cX11_of 91 = .ok (.ireturn, 1) := by decide +kernel
theorem dX11_of_92 : decode cX11_of 92 = .ok (.iconst (-1), 1) := by decide +kernel
theorem dX11_of_93 : decode cX11_of 93 = .ok (.ireturn, 1) := by decide +kernel
theorem dX11_shows_0 : decode cX11_shows 0 = .ok (.aload_n 0, 1) := by decide +kernel
theorem dX11_shows_1 : decode cX11_shows 1 = .ok (.iload_n 1, 1) := by decide +kernel
theorem dX11_shows_2 : decode cX11_shows 2 = .ok (.invokevirtual 112, 3) := by decide +kernel
theorem dX11_shows_5 : decode cX11_shows 5 = .ok (.ifCond .ne 5, 3) := by decide +kernel
theorem dX11_shows_8 : decode cX11_shows 8 = .ok (.iconst (-1), 1) := by decide +kernel
theorem dX11_shows_9 : decode cX11_shows 9 = .ok (.ireturn, 1) := by decide +kernel
theorem dX11_shows_10 : decode cX11_shows 10 = .ok (.iload_n 2, 1) := by decide +kernel
theorem dX11_shows_11 : decode cX11_shows 11 = .ok (.invokestatic 73, 3) := by decide +kernel
theorem dX11_shows_14 : decode cX11_shows 14 = .ok (.ifCond .eq 12, 3) := by decide +kernel
theorem dX11_shows_17 : decode cX11_shows 17 = .ok (.aload_n 0, 1) := by decide +kernel
theorem dX11_shows_18 : decode cX11_shows 18 = .ok (.iload_n 1, 1) := by decide +kernel
theorem dX11_shows_19 : decode cX11_shows 19 = .ok (.iload_n 2, 1) := by decide +kernel
theorem dX11_shows_20 : decode cX11_shows 20 = .ok (.invokevirtual 136, 3) := by decide +kernel
theorem dX11_shows_23 : decode cX11_shows 23 = .ok (.goto 5, 3) := by decide +kernel
theorem dX11_shows_26 : decode cX11_shows 26 = .ok (.bipush (-2), 2) := by decide +kernel
theorem dX11_shows_28 : decode cX11_shows 28 = .ok (.ireturn, 1) := by decide +kernel
theorem dX11_meaning_0 : decode cX11_meaning 0 = .ok (.iload_n 1, 1) := by decide +kernel
theorem dX11_meaning_1 : decode cX11_meaning 1 = .ok (.invokestatic 73, 3) := by decide +kernel
theorem dX11_meaning_4 : decode cX11_meaning 4 = .ok (.ifCond .eq 11, 3) := by decide +kernel
theorem dX11_meaning_7 : decode cX11_meaning 7 = .ok (.aload_n 0, 1) := by decide +kernel
theorem dX11_meaning_8 : decode cX11_meaning 8 = .ok (.iload_n 1, 1) := by decide +kernel
theorem dX11_meaning_9 : decode cX11_meaning 9 = .ok (.invokevirtual 140, 3) := by decide +kernel
theorem dX11_meaning_12 : decode cX11_meaning 12 = .ok (.goto 5, 3) := by decide +kernel
theorem dX11_meaning_15 : decode cX11_meaning 15 = .ok (.bipush (-2), 2) := by decide +kernel
theorem dX11_meaning_17 : decode cX11_meaning 17 = .ok (.ireturn, 1) := by decide +kernel
theorem dX11_say_0 : decode cX11_say 0 = .ok (.aload_n 0, 1) := by decide +kernel
theorem dX11_say_1 : decode cX11_say 1 = .ok (.iload_n 1, 1) := by decide +kernel
theorem dX11_say_2 : decode cX11_say 2 = .ok (.invokevirtual 112, 3) := by decide +kernel
theorem dX11_say_5 : decode cX11_say 5 = .ok (.ifCond .eq 11, 3) := by decide +kernel
theorem dX11_say_8 : decode cX11_say 8 = .ok (.aload_n 0, 1) := by decide +kernel
theorem dX11_say_9 : decode cX11_say 9 = .ok (.iload_n 2, 1) := by decide +kernel
theorem dX11_say_10 : decode cX11_say 10 = .ok (.invokevirtual 88, 3) := by decide +kernel
theorem dX11_say_13 : decode cX11_say 13 = .ok (.ifCond .ne 5, 3) := by decide +kernel
theorem dX11_say_16 : decode cX11_say 16 = .ok (.iconst (-1), 1) := by decide +kernel
theorem dX11_say_17 : decode cX11_say 17 = .ok (.ireturn, 1) := by decide +kernel
theorem dX11_say_18 : decode cX11_say 18 = .ok (.aload_n 0, 1) := by decide +kernel
theorem dX11_say_19 : decode cX11_say 19 = .ok (.getfield 14, 3) := by decide +kernel
theorem dX11_say_22 : decode cX11_say 22 = .ok (.getfield 127, 3) := by decide +kernel
theorem dX11_say_25 : decode cX11_say 25 = .ok (.iload_n 1, 1) := by decide +kernel
theorem dX11_say_26 : decode cX11_say 26 = .ok (.iaload, 1) := by decide +kernel
theorem dX11_say_27 : decode cX11_say 27 = .ok (.sipush 9999, 3) := by decide +kernel
theorem dX11_say_30 : decode cX11_say 30 = .ok (.if_icmp .lt 6, 3) := by decide +kernel
theorem dX11_say_33 : decode cX11_say 33 = .ok (.bipush (-3), 2) := by decide +kernel
theorem dX11_say_35 : decode cX11_say 35 = .ok (.ireturn, 1) := by decide +kernel
theorem dX11_say_36 : decode cX11_say 36 = .ok (.aload_n 0, 1) := by decide +kernel
theorem dX11_say_37 : decode cX11_say 37 = .ok (.aload_n 0, 1) := by decide +kernel
theorem dX11_say_38 : decode cX11_say 38 = .ok (.iload_n 1, 1) := by decide +kernel
theorem dX11_say_39 : decode cX11_say 39 = .ok (.aload_n 0, 1) := by decide +kernel
theorem dX11_say_40 : decode cX11_say 40 = .ok (.getfield 14, 3) := by decide +kernel
theorem dX11_say_43 : decode cX11_say 43 = .ok (.getfield 77, 3) := by decide +kernel
theorem dX11_say_46 : decode cX11_say 46 = .ok (.iload_n 2, 1) := by decide +kernel
theorem dX11_say_47 : decode cX11_say 47 = .ok (.invokevirtual 91, 3) := by decide +kernel
theorem dX11_say_50 : decode cX11_say 50 = .ok (.invokevirtual 136, 3) := by decide +kernel
theorem dX11_say_53 : decode cX11_say 53 = .ok (.invokevirtual 140, 3) := by decide +kernel
theorem dX11_say_56 : decode cX11_say 56 = .ok (.istore_n 3, 1) := by decide +kernel
theorem dX11_say_57 : decode cX11_say 57 = .ok (.aload_n 0, 1) := by decide +kernel
theorem dX11_say_58 : decode cX11_say 58 = .ok (.getfield 14, 3) := by decide +kernel
theorem dX11_say_61 : decode cX11_say 61 = .ok (.getfield 127, 3) := by decide +kernel
theorem dX11_say_64 : decode cX11_say 64 = .ok (.iload_n 1, 1) := by decide +kernel
theorem dX11_say_65 : decode cX11_say 65 = .ok (.dup2, 1) := by decide +kernel
theorem dX11_say_66 : decode cX11_say 66 = .ok (.iaload, 1) := by decide +kernel
theorem dX11_say_67 : decode cX11_say 67 = .ok (.iconst 1, 1) := by decide +kernel
theorem dX11_say_68 : decode cX11_say 68 = .ok (.iadd, 1) := by decide +kernel
theorem dX11_say_69 : decode cX11_say 69 = .ok (.iastore, 1) := by decide +kernel
theorem dX11_say_70 : decode cX11_say 70 = .ok (.iload_n 3, 1) := by decide +kernel
theorem dX11_say_71 : decode cX11_say 71 = .ok (.ireturn, 1) := by decide +kernel
theorem dX11_row_0 : decode cX11_row 0 = .ok (.aload_n 0, 1) := by decide +kernel
theorem dX11_row_1 : decode cX11_row 1 = .ok (.iload_n 1, 1) := by decide +kernel
theorem dX11_row_2 : decode cX11_row 2 = .ok (.invokevirtual 112, 3) := by decide +kernel
theorem dX11_row_5 : decode cX11_row 5 = .ok (.ifCond .eq 12, 3) := by decide +kernel
theorem dX11_row_8 : decode cX11_row 8 = .ok (.iload_n 2, 1) := by decide +kernel
theorem dX11_row_9 : decode cX11_row 9 = .ok (.ifCond .lt 8, 3) := by decide +kernel
theorem dX11_row_12 : decode cX11_row 12 = .ok (.iload_n 2, 1) := by decide +kernel
theorem dX11_row_13 : decode cX11_row 13 = .ok (.iconst 4, 1) := by decide +kernel
theorem dX11_row_14 : decode cX11_row 14 = .ok (.if_icmp .lt 5, 3) := by decide +kernel
theorem dX11_row_17 : decode cX11_row 17 = .ok (.iconst (-1), 1) := by decide +kernel
theorem dX11_row_18 : decode cX11_row 18 = .ok (.ireturn, 1) := by decide +kernel
theorem dX11_row_19 : decode cX11_row 19 = .ok (.iload_n 3, 1) := by decide +kernel
theorem dX11_row_20 : decode cX11_row 20 = .ok (.invokestatic 98, 3) := by decide +kernel
theorem dX11_row_23 : decode cX11_row 23 = .ok (.ifCond .ne 6, 3) := by decide +kernel
theorem dX11_row_26 : decode cX11_row 26 = .ok (.bipush (-2), 2) := by decide +kernel
theorem dX11_row_28 : decode cX11_row 28 = .ok (.ireturn, 1) := by decide +kernel
theorem dX11_row_29 : decode cX11_row 29 = .ok (.aload_n 0, 1) := by decide +kernel
theorem dX11_row_30 : decode cX11_row 30 = .ok (.getfield 14, 3) := by decide +kernel
theorem dX11_row_33 : decode cX11_row 33 = .ok (.getfield 115, 3) := by decide +kernel
theorem dX11_row_36 : decode cX11_row 36 = .ok (.iload_n 1, 1) := by decide +kernel
theorem dX11_row_37 : decode cX11_row 37 = .ok (.aaload, 1) := by decide +kernel
theorem dX11_row_38 : decode cX11_row 38 = .ok (.instanceof 143, 3) := by decide +kernel
theorem dX11_row_41 : decode cX11_row 41 = .ok (.ifCond .ne 6, 3) := by decide +kernel
theorem dX11_row_44 : decode cX11_row 44 = .ok (.bipush (-3), 2) := by decide +kernel
theorem dX11_row_46 : decode cX11_row 46 = .ok (.ireturn, 1) := by decide +kernel
theorem dX11_row_47 : decode cX11_row 47 = .ok (.iload_n 1, 1) := by decide +kernel
theorem dX11_row_48 : decode cX11_row 48 = .ok (.iconst 4, 1) := by decide +kernel
theorem dX11_row_49 : decode cX11_row 49 = .ok (.imul, 1) := by decide +kernel
theorem dX11_row_50 : decode cX11_row 50 = .ok (.iload_n 2, 1) := by decide +kernel
theorem dX11_row_51 : decode cX11_row 51 = .ok (.iadd, 1) := by decide +kernel
theorem dX11_row_52 : decode cX11_row 52 = .ok (.istore 4, 2) := by decide +kernel
theorem dX11_row_54 : decode cX11_row 54 = .ok (.aload_n 0, 1) := by decide +kernel
theorem dX11_row_55 : decode cX11_row 55 = .ok (.getfield 14, 3) := by decide +kernel
theorem dX11_row_58 : decode cX11_row 58 = .ok (.getfield 145, 3) := by decide +kernel
theorem dX11_row_61 : decode cX11_row 61 = .ok (.iload 4, 2) := by decide +kernel
theorem dX11_row_63 : decode cX11_row 63 = .ok (.iaload, 1) := by decide +kernel
theorem dX11_row_64 : decode cX11_row 64 = .ok (.istore 5, 2) := by decide +kernel
theorem dX11_row_66 : decode cX11_row 66 = .ok (.aload_n 0, 1) := by decide +kernel
theorem dX11_row_67 : decode cX11_row 67 = .ok (.getfield 14, 3) := by decide +kernel
theorem dX11_row_70 : decode cX11_row 70 = .ok (.getfield 145, 3) := by decide +kernel
theorem dX11_row_73 : decode cX11_row 73 = .ok (.iload 4, 2) := by decide +kernel
theorem dX11_row_75 : decode cX11_row 75 = .ok (.iload_n 3, 1) := by decide +kernel
theorem dX11_row_76 : decode cX11_row 76 = .ok (.iastore, 1) := by decide +kernel
theorem dX11_row_77 : decode cX11_row 77 = .ok (.iload 5, 2) := by decide +kernel
theorem dX11_row_79 : decode cX11_row 79 = .ok (.ireturn, 1) := by decide +kernel
theorem dX11_feed_0 : decode cX11_feed 0 = .ok (.iload_n 1, 1) := by decide +kernel
theorem dX11_feed_1 : decode cX11_feed 1 = .ok (.ifCond .lt 9, 3) := by decide +kernel
theorem dX11_feed_4 : decode cX11_feed 4 = .ok (.iload_n 1, 1) := by decide +kernel
theorem dX11_feed_5 : decode cX11_feed 5 = .ok (.bipush 127, 2) := by decide +kernel
theorem dX11_feed_7 : decode cX11_feed 7 = .ok (.if_icmp .le 6, 3) := by decide +kernel
theorem dX11_feed_10 : decode cX11_feed 10 = .ok (.bipush (-2), 2) := by decide +kernel
theorem dX11_feed_12 : decode cX11_feed 12 = .ok (.ireturn, 1) := by decide +kernel
theorem dX11_feed_13 : decode cX11_feed 13 = .ok (.aload_n 0, 1) := by decide +kernel
theorem dX11_feed_14 : decode cX11_feed 14 = .ok (.getfield 32, 3) := by decide +kernel
theorem dX11_feed_17 : decode cX11_feed 17 = .ok (.invokevirtual 80, 3) := by decide +kernel
theorem dX11_feed_20 : decode cX11_feed 20 = .ok (.ifCond .eq 8, 3) := by decide +kernel
theorem dX11_feed_23 : decode cX11_feed 23 = .ok (.bipush (-4), 2) := by decide +kernel
theorem dX11_feed_25 : decode cX11_feed 25 = .ok (.goto 11, 3) := by decide +kernel
theorem dX11_feed_28 : decode cX11_feed 28 = .ok (.aload_n 0, 1) := by decide +kernel
theorem dX11_feed_29 : decode cX11_feed 29 = .ok (.getfield 32, 3) := by decide +kernel
theorem dX11_feed_32 : decode cX11_feed 32 = .ok (.iload_n 1, 1) := by decide +kernel
theorem dX11_feed_33 : decode cX11_feed 33 = .ok (.invokevirtual 84, 3) := by decide +kernel
theorem dX11_feed_36 : decode cX11_feed 36 = .ok (.ireturn, 1) := by decide +kernel
theorem dX11_ward_0 : decode cX11_ward 0 = .ok (.aload_n 0, 1) := by decide +kernel
theorem dX11_ward_1 : decode cX11_ward 1 = .ok (.getfield 41, 3) := by decide +kernel
theorem dX11_ward_4 : decode cX11_ward 4 = .ok (.bipush 6, 2) := by decide +kernel
theorem dX11_ward_6 : decode cX11_ward 6 = .ok (.if_icmp .lt 6, 3) := by decide +kernel
theorem dX11_ward_9 : decode cX11_ward 9 = .ok (.bipush (-4), 2) := by decide +kernel
theorem dX11_ward_11 : decode cX11_ward 11 = .ok (.ireturn, 1) := by decide +kernel
theorem dX11_ward_12 : decode cX11_ward 12 = .ok (.aload_n 0, 1) := by decide +kernel
theorem dX11_ward_13 : decode cX11_ward 13 = .ok (.getfield 37, 3) := by decide +kernel
theorem dX11_ward_16 : decode cX11_ward 16 = .ok (.aload_n 0, 1) := by decide +kernel
theorem dX11_ward_17 : decode cX11_ward 17 = .ok (.getfield 32, 3) := by decide +kernel
theorem dX11_ward_20 : decode cX11_ward 20 = .ok (.invokevirtual 148, 3) := by decide +kernel
theorem dX11_ward_23 : decode cX11_ward 23 = .ok (.istore_n 1, 1) := by decide +kernel
theorem dX11_ward_24 : decode cX11_ward 24 = .ok (.aload_n 0, 1) := by decide +kernel
theorem dX11_ward_25 : decode cX11_ward 25 = .ok (.getfield 32, 3) := by decide +kernel
theorem dX11_ward_28 : decode cX11_ward 28 = .ok (.invokevirtual 152, 3) := by decide +kernel
theorem dX11_ward_31 : decode cX11_ward 31 = .ok (.iload_n 1, 1) := by decide +kernel
theorem dX11_ward_32 : decode cX11_ward 32 = .ok (.ifCond .lt 8, 3) := by decide +kernel
theorem dX11_ward_35 : decode cX11_ward 35 = .ok (.bipush (-10), 2) := by decide +kernel
theorem dX11_ward_37 : decode cX11_ward 37 = .ok (.iload_n 1, 1) := by decide +kernel
theorem dX11_ward_38 : decode cX11_ward 38 = .ok (.isub, 1) := by decide +kernel
theorem dX11_ward_39 : decode cX11_ward 39 = .ok (.ireturn, 1) := by decide +kernel
theorem dX11_ward_40 : decode cX11_ward 40 = .ok (.aload_n 0, 1) := by decide +kernel
theorem dX11_ward_41 : decode cX11_ward 41 = .ok (.getfield 14, 3) := by decide +kernel
theorem dX11_ward_44 : decode cX11_ward 44 = .ok (.aload_n 0, 1) := by decide +kernel
theorem dX11_ward_45 : decode cX11_ward 45 = .ok (.getfield 37, 3) := by decide +kernel
theorem dX11_ward_48 : decode cX11_ward 48 = .ok (.putfield 155, 3) := by decide +kernel
theorem dX11_ward_51 : decode cX11_ward 51 = .ok (.aload_n 0, 1) := by decide +kernel
theorem dX11_ward_52 : decode cX11_ward 52 = .ok (.new 27, 3) := by decide +kernel
theorem dX11_ward_55 : decode cX11_ward 55 = .ok (.dup, 1) := by decide +kernel
theorem dX11_ward_56 : decode cX11_ward 56 = .ok (.invokespecial 36, 3) := by decide +kernel
theorem dX11_ward_59 : decode cX11_ward 59 = .ok (.putfield 37, 3) := by decide +kernel
theorem dX11_ward_62 : decode cX11_ward 62 = .ok (.aload_n 0, 1) := by decide +kernel
theorem dX11_ward_63 : decode cX11_ward 63 = .ok (.dup, 1) := by decide +kernel
theorem dX11_ward_64 : decode cX11_ward 64 = .ok (.getfield 41, 3) := by decide +kernel
theorem dX11_ward_67 : decode cX11_ward 67 = .ok (.iconst 1, 1) := by decide +kernel
theorem dX11_ward_68 : decode cX11_ward 68 = .ok (.iadd, 1) := by decide +kernel
theorem dX11_ward_69 : decode cX11_ward 69 = .ok (.putfield 41, 3) := by decide +kernel
theorem dX11_ward_72 : decode cX11_ward 72 = .ok (.aload_n 0, 1) := by decide +kernel
theorem dX11_ward_73 : decode cX11_ward 73 = .ok (.getfield 41, 3) := by decide +kernel
theorem dX11_ward_76 : decode cX11_ward 76 = .ok (.iconst 1, 1) := by decide +kernel
theorem dX11_ward_77 : decode cX11_ward 77 = .ok (.isub, 1) := by decide +kernel
theorem dX11_ward_78 : decode cX11_ward 78 = .ok (.ireturn, 1) := by decide +kernel
theorem dX11_told_0 : decode cX11_told 0 = .ok (.iload_n 1, 1) := by decide +kernel
theorem dX11_told_1 : decode cX11_told 1 = .ok (.tableswitch 82 0 5 #[39, 47, 52, 52, 67, 67], 39) := by decide +kernel
theorem dX11_told_40 : decode cX11_told 40 = .ok (.aload_n 0, 1) := by decide +kernel
theorem dX11_told_41 : decode cX11_told 41 = .ok (.getfield 14, 3) := by decide +kernel
theorem dX11_told_44 : decode cX11_told 44 = .ok (.getfield 158, 3) := by decide +kernel
theorem dX11_told_47 : decode cX11_told 47 = .ok (.ireturn, 1) := by decide +kernel
theorem dX11_told_48 : decode cX11_told 48 = .ok (.aload_n 0, 1) := by decide +kernel
theorem dX11_told_49 : decode cX11_told 49 = .ok (.invokevirtual 161, 3) := by decide +kernel
theorem dX11_told_52 : decode cX11_told 52 = .ok (.ireturn, 1) := by decide +kernel
theorem dX11_told_53 : decode cX11_told 53 = .ok (.aload_n 0, 1) := by decide +kernel
theorem dX11_told_54 : decode cX11_told 54 = .ok (.iload_n 1, 1) := by decide +kernel
theorem dX11_told_55 : decode cX11_told 55 = .ok (.iconst 3, 1) := by decide +kernel
theorem dX11_told_56 : decode cX11_told 56 = .ok (.if_icmp .ne 7, 3) := by decide +kernel
theorem dX11_told_59 : decode cX11_told 59 = .ok (.iconst 1, 1) := by decide +kernel
theorem dX11_told_60 : decode cX11_told 60 = .ok (.goto 4, 3) := by decide +kernel
theorem dX11_told_63 : decode cX11_told 63 = .ok (.iconst 0, 1) := by decide +kernel
theorem dX11_told_64 : decode cX11_told 64 = .ok (.invokevirtual 165, 3) := by decide +kernel
theorem dX11_told_67 : decode cX11_told 67 = .ok (.ireturn, 1) := by decide +kernel
theorem dX11_told_68 : decode cX11_told 68 = .ok (.aload_n 0, 1) := by decide +kernel
theorem dX11_told_69 : decode cX11_told 69 = .ok (.iload_n 1, 1) := by decide +kernel
theorem dX11_told_70 : decode cX11_told 70 = .ok (.iconst 5, 1) := by decide +kernel
theorem dX11_told_71 : decode cX11_told 71 = .ok (.if_icmp .ne 7, 3) := by decide +kernel
theorem dX11_told_74 : decode cX11_told 74 = .ok (.iconst 1, 1) := by decide +kernel
theorem dX11_told_75 : decode cX11_told 75 = .ok (.goto 4, 3) := by decide +kernel
theorem dX11_told_78 : decode cX11_told 78 = .ok (.iconst 0, 1) := by decide +kernel
theorem dX11_told_79 : decode cX11_told 79 = .ok (.invokevirtual 169, 3) := by decide +kernel
theorem dX11_told_82 : decode cX11_told 82 = .ok (.ireturn, 1) := by decide +kernel
theorem dX11_told_83 : decode cX11_told 83 = .ok (.iload_n 1, 1) := by decide +kernel
theorem dX11_told_84 : decode cX11_told 84 = .ok (.bipush 10, 2) := by decide +kernel
theorem dX11_told_86 : decode cX11_told 86 = .ok (.if_icmp .lt 31, 3) := by decide +kernel
theorem dX11_told_89 : decode cX11_told 89 = .ok (.aload_n 0, 1) := by decide +kernel
theorem dX11_told_90 : decode cX11_told 90 = .ok (.iload_n 1, 1) := by decide +kernel
theorem dX11_told_91 : decode cX11_told 91 = .ok (.bipush 10, 2) := by decide +kernel
theorem dX11_told_93 : decode cX11_told 93 = .ok (.isub, 1) := by decide +kernel
theorem dX11_told_94 : decode cX11_told 94 = .ok (.invokevirtual 88, 3) := by decide +kernel
theorem dX11_told_97 : decode cX11_told 97 = .ok (.ifCond .eq 20, 3) := by decide +kernel
theorem dX11_told_100 : decode cX11_told 100 = .ok (.aload_n 0, 1) := by decide +kernel
theorem dX11_told_101 : decode cX11_told 101 = .ok (.getfield 14, 3) := by decide +kernel
theorem dX11_told_104 : decode cX11_told 104 = .ok (.getfield 77, 3) := by decide +kernel
theorem dX11_told_107 : decode cX11_told 107 = .ok (.iload_n 1, 1) := by decide +kernel
theorem dX11_told_108 : decode cX11_told 108 = .ok (.bipush 10, 2) := by decide +kernel
theorem dX11_told_110 : decode cX11_told 110 = .ok (.isub, 1) := by decide +kernel
theorem dX11_told_111 : decode cX11_told 111 = .ok (.invokevirtual 91, 3) := by decide +kernel
theorem dX11_told_114 : decode cX11_told 114 = .ok (.goto 4, 3) := by decide +kernel
theorem dX11_told_117 : decode cX11_told 117 = .ok (.iconst (-1), 1) := by decide +kernel
theorem dX11_told_118 : decode cX11_told 118 = .ok (.ireturn, 1) := by decide +kernel
theorem dX11_pass_0 : decode cX11_pass 0 = .ok (.iload_n 1, 1) := by decide +kernel
theorem dX11_pass_1 : decode cX11_pass 1 = .ok (.ifCond .lt 9, 3) := by decide +kernel
theorem dX11_pass_4 : decode cX11_pass 4 = .ok (.iload_n 1, 1) := by decide +kernel
theorem dX11_pass_5 : decode cX11_pass 5 = .ok (.bipush 60, 2) := by decide +kernel
theorem dX11_pass_7 : decode cX11_pass 7 = .ok (.if_icmp .le 6, 3) := by decide +kernel
theorem dX11_pass_10 : decode cX11_pass 10 = .ok (.bipush (-2), 2) := by decide +kernel
theorem dX11_pass_12 : decode cX11_pass 12 = .ok (.ireturn, 1) := by decide +kernel
theorem dX11_pass_13 : decode cX11_pass 13 = .ok (.aload_n 0, 1) := by decide +kernel
theorem dX11_pass_14 : decode cX11_pass 14 = .ok (.getfield 14, 3) := by decide +kernel
theorem dX11_pass_17 : decode cX11_pass 17 = .ok (.getfield 158, 3) := by decide +kernel
theorem dX11_pass_20 : decode cX11_pass 20 = .ok (.iload_n 1, 1) := by decide +kernel
theorem dX11_pass_21 : decode cX11_pass 21 = .ok (.iadd, 1) := by decide +kernel
theorem dX11_pass_22 : decode cX11_pass 22 = .ok (.sipush 9999, 3) := by decide +kernel
theorem dX11_pass_25 : decode cX11_pass 25 = .ok (.if_icmp .le 6, 3) := by decide +kernel
theorem dX11_pass_28 : decode cX11_pass 28 = .ok (.bipush (-3), 2) := by decide +kernel
theorem dX11_pass_30 : decode cX11_pass 30 = .ok (.ireturn, 1) := by decide +kernel
theorem dX11_pass_31 : decode cX11_pass 31 = .ok (.aload_n 0, 1) := by decide +kernel
theorem dX11_pass_32 : decode cX11_pass 32 = .ok (.getfield 14, 3) := by decide +kernel
theorem dX11_pass_35 : decode cX11_pass 35 = .ok (.dup, 1) := by decide +kernel
theorem dX11_pass_36 : decode cX11_pass 36 = .ok (.getfield 158, 3) := by decide +kernel
theorem dX11_pass_39 : decode cX11_pass 39 = .ok (.iload_n 1, 1) := by decide +kernel
theorem dX11_pass_40 : decode cX11_pass 40 = .ok (.iadd, 1) := by decide +kernel
theorem dX11_pass_41 : decode cX11_pass 41 = .ok (.putfield 158, 3) := by decide +kernel
theorem dX11_pass_44 : decode cX11_pass 44 = .ok (.aload_n 0, 1) := by decide +kernel
theorem dX11_pass_45 : decode cX11_pass 45 = .ok (.getfield 14, 3) := by decide +kernel
theorem dX11_pass_48 : decode cX11_pass 48 = .ok (.getfield 158, 3) := by decide +kernel
theorem dX11_pass_51 : decode cX11_pass 51 = .ok (.ireturn, 1) := by decide +kernel
theorem dX11_saying_0 : decode cX11_saying 0 = .ok (.aload_n 0, 1) := by decide +kernel
theorem dX11_saying_1 : decode cX11_saying 1 = .ok (.iload_n 1, 1) := by decide +kernel
theorem dX11_saying_2 : decode cX11_saying 2 = .ok (.invokevirtual 112, 3) := by decide +kernel
theorem dX11_saying_5 : decode cX11_saying 5 = .ok (.ifCond .eq 18, 3) := by decide +kernel
theorem dX11_saying_8 : decode cX11_saying 8 = .ok (.aload_n 0, 1) := by decide +kernel
theorem dX11_saying_9 : decode cX11_saying 9 = .ok (.iload_n 2, 1) := by decide +kernel
theorem dX11_saying_10 : decode cX11_saying 10 = .ok (.invokevirtual 88, 3) := by decide +kernel
theorem dX11_saying_13 : decode cX11_saying 13 = .ok (.ifCond .eq 10, 3) := by decide +kernel
theorem dX11_saying_16 : decode cX11_saying 16 = .ok (.iload_n 3, 1) := by decide +kernel
theorem dX11_saying_17 : decode cX11_saying 17 = .ok (.invokestatic 172, 3) := by decide +kernel
theorem dX11_saying_20 : decode cX11_saying 20 = .ok (.ifCond .ne 5, 3) := by decide +kernel
theorem dX11_saying_23 : decode cX11_saying 23 = .ok (.iconst (-1), 1) := by decide +kernel
theorem dX11_saying_24 : decode cX11_saying 24 = .ok (.ireturn, 1) := by decide +kernel
theorem dX11_saying_25 : decode cX11_saying 25 = .ok (.aload_n 0, 1) := by decide +kernel
theorem dX11_saying_26 : decode cX11_saying 26 = .ok (.getfield 14, 3) := by decide +kernel
theorem dX11_saying_29 : decode cX11_saying 29 = .ok (.getfield 77, 3) := by decide +kernel
theorem dX11_saying_32 : decode cX11_saying 32 = .ok (.iload_n 2, 1) := by decide +kernel
theorem dX11_saying_33 : decode cX11_saying 33 = .ok (.invokevirtual 91, 3) := by decide +kernel
theorem dX11_saying_36 : decode cX11_saying 36 = .ok (.istore 4, 2) := by decide +kernel
theorem dX11_saying_38 : decode cX11_saying 38 = .ok (.bipush (-5), 2) := by decide +kernel
theorem dX11_saying_40 : decode cX11_saying 40 = .ok (.istore 5, 2) := by decide +kernel
theorem dX11_saying_42 : decode cX11_saying 42 = .ok (.iconst 0, 1) := by decide +kernel
theorem dX11_saying_43 : decode cX11_saying 43 = .ok (.istore 6, 2) := by decide +kernel
theorem dX11_saying_45 : decode cX11_saying 45 = .ok (.iconst 0, 1) := by decide +kernel
theorem dX11_saying_46 : decode cX11_saying 46 = .ok (.istore 7, 2) := by decide +kernel
theorem dX11_saying_48 : decode cX11_saying 48 = .ok (.iload 7, 2) := by decide +kernel
theorem dX11_saying_50 : decode cX11_saying 50 = .ok (.sipush 1024, 3) := by decide +kernel
theorem dX11_saying_53 : decode cX11_saying 53 = .ok (.if_icmp .ge 38, 3) := by decide +kernel
theorem dX11_saying_56 : decode cX11_saying 56 = .ok (.aload_n 0, 1) := by decide +kernel
theorem dX11_saying_57 : decode cX11_saying 57 = .ok (.iload_n 1, 1) := by decide +kernel
theorem dX11_saying_58 : decode cX11_saying 58 = .ok (.iload 7, 2) := by decide +kernel
theorem dX11_saying_60 : decode cX11_saying 60 = .ok (.invokevirtual 136, 3) := by decide +kernel
theorem dX11_saying_63 : decode cX11_saying 63 = .ok (.iload 4, 2) := by decide +kernel
theorem dX11_saying_65 : decode cX11_saying 65 = .ok (.if_icmp .ne 20, 3) := by decide +kernel
theorem dX11_saying_68 : decode cX11_saying 68 = .ok (.iload 6, 2) := by decide +kernel
theorem dX11_saying_70 : decode cX11_saying 70 = .ok (.ifCond .ne 8, 3) := by decide +kernel
theorem dX11_saying_73 : decode cX11_saying 73 = .ok (.iload 7, 2) := by decide +kernel
theorem dX11_saying_75 : decode cX11_saying 75 = .ok (.goto 5, 3) := by decide +kernel
theorem dX11_saying_78 : decode cX11_saying 78 = .ok (.iload 5, 2) := by decide +kernel
theorem dX11_saying_80 : decode cX11_saying 80 = .ok (.istore 5, 2) := by decide +kernel
theorem dX11_saying_82 : decode cX11_saying 82 = .ok (.iinc 6 1, 3) := by decide +kernel
theorem dX11_saying_85 : decode cX11_saying 85 = .ok (.iinc 7 1, 3) := by decide +kernel
theorem dX11_saying_88 : decode cX11_saying 88 = .ok (.goto (-40), 3) := by decide +kernel
theorem dX11_saying_91 : decode cX11_saying 91 = .ok (.iload_n 3, 1) := by decide +kernel
theorem dX11_saying_92 : decode cX11_saying 92 = .ok (.ifCond .ne 8, 3) := by decide +kernel
theorem dX11_saying_95 : decode cX11_saying 95 = .ok (.iload 5, 2) := by decide +kernel
theorem dX11_saying_97 : decode cX11_saying 97 = .ok (.goto 5, 3) := by decide +kernel
theorem dX11_saying_100 : decode cX11_saying 100 = .ok (.iload 6, 2) := by decide +kernel
theorem dX11_saying_102 : decode cX11_saying 102 = .ok (.ireturn, 1) := by decide +kernel
theorem dX11_hours_0 : decode cX11_hours 0 = .ok (.aload_n 0, 1) := by decide +kernel
theorem dX11_hours_1 : decode cX11_hours 1 = .ok (.iload_n 1, 1) := by decide +kernel
theorem dX11_hours_2 : decode cX11_hours 2 = .ok (.invokevirtual 112, 3) := by decide +kernel
theorem dX11_hours_5 : decode cX11_hours 5 = .ok (.ifCond .eq 11, 3) := by decide +kernel
theorem dX11_hours_8 : decode cX11_hours 8 = .ok (.aload_n 0, 1) := by decide +kernel
theorem dX11_hours_9 : decode cX11_hours 9 = .ok (.iload_n 2, 1) := by decide +kernel
theorem dX11_hours_10 : decode cX11_hours 10 = .ok (.invokevirtual 88, 3) := by decide +kernel
theorem dX11_hours_13 : decode cX11_hours 13 = .ok (.ifCond .ne 5, 3) := by decide +kernel
theorem dX11_hours_16 : decode cX11_hours 16 = .ok (.iconst (-1), 1) := by decide +kernel
theorem dX11_hours_17 : decode cX11_hours 17 = .ok (.ireturn, 1) := by decide +kernel
theorem dX11_hours_18 : decode cX11_hours 18 = .ok (.iconst 0, 1) := by decide +kernel
theorem dX11_hours_19 : decode cX11_hours 19 = .ok (.istore_n 3, 1) := by decide +kernel
theorem dX11_hours_20 : decode cX11_hours 20 = .ok (.iconst 0, 1) := by decide +kernel
theorem dX11_hours_21 : decode cX11_hours 21 = .ok (.istore 4, 2) := by decide +kernel
theorem dX11_hours_23 : decode cX11_hours 23 = .ok (.iload 4, 2) := by decide +kernel
theorem dX11_hours_25 : decode cX11_hours 25 = .ok (.bipush 24, 2) := by decide +kernel
theorem dX11_hours_27 : decode cX11_hours 27 = .ok (.if_icmp .ge 35, 3) := by decide +kernel
theorem dX11_hours_30 : decode cX11_hours 30 = .ok (.aload_n 0, 1) := by decide +kernel
theorem dX11_hours_31 : decode cX11_hours 31 = .ok (.iload_n 1, 1) := by decide +kernel
theorem dX11_hours_32 : decode cX11_hours 32 = .ok (.iload_n 2, 1) := by decide +kernel
theorem dX11_hours_33 : decode cX11_hours 33 = .ok (.aload_n 0, 1) := by decide +kernel
theorem dX11_hours_34 : decode cX11_hours 34 = .ok (.getfield 14, 3) := by decide +kernel
theorem dX11_hours_37 : decode cX11_hours 37 = .ok (.getfield 158, 3) := by decide +kernel
theorem dX11_hours_40 : decode cX11_hours 40 = .ok (.iload 4, 2) := by decide +kernel
theorem dX11_hours_42 : decode cX11_hours 42 = .ok (.iadd, 1) := by decide +kernel
theorem dX11_hours_43 : decode cX11_hours 43 = .ok (.invokevirtual 175, 3) := by decide +kernel
theorem dX11_hours_46 : decode cX11_hours 46 = .ok (.ifCond .eq 10, 3) := by decide +kernel
theorem dX11_hours_49 : decode cX11_hours 49 = .ok (.iload_n 3, 1) := by decide +kernel
theorem dX11_hours_50 : decode cX11_hours 50 = .ok (.iconst 1, 1) := by decide +kernel
theorem dX11_hours_51 : decode cX11_hours 51 = .ok (.iload 4, 2) := by decide +kernel
theorem dX11_hours_53 : decode cX11_hours 53 = .ok (.ishl, 1) := by decide +kernel
theorem dX11_hours_54 : decode cX11_hours 54 = .ok (.ior, 1) := by decide +kernel
theorem dX11_hours_55 : decode cX11_hours 55 = .ok (.istore_n 3, 1) := by decide +kernel
theorem dX11_hours_56 : decode cX11_hours 56 = .ok (.iinc 4 1, 3) := by decide +kernel
theorem dX11_hours_59 : decode cX11_hours 59 = .ok (.goto (-36), 3) := by decide +kernel
theorem dX11_hours_62 : decode cX11_hours 62 = .ok (.iload_n 3, 1) := by decide +kernel
theorem dX11_hours_63 : decode cX11_hours 63 = .ok (.ireturn, 1) := by decide +kernel
theorem dX11_senders_0 : decode cX11_senders 0 = .ok (.aload_n 0, 1) := by decide +kernel
theorem dX11_senders_1 : decode cX11_senders 1 = .ok (.iload_n 1, 1) := by decide +kernel
theorem dX11_senders_2 : decode cX11_senders 2 = .ok (.invokevirtual 88, 3) := by decide +kernel
theorem dX11_senders_5 : decode cX11_senders 5 = .ok (.ifCond .ne 5, 3) := by decide +kernel
theorem dX11_senders_8 : decode cX11_senders 8 = .ok (.iconst (-1), 1) := by decide +kernel
theorem dX11_senders_9 : decode cX11_senders 9 = .ok (.ireturn, 1) := by decide +kernel
theorem dX11_senders_10 : decode cX11_senders 10 = .ok (.iload_n 2, 1) := by decide +kernel
theorem dX11_senders_11 : decode cX11_senders 11 = .ok (.invokestatic 73, 3) := by decide +kernel
theorem dX11_senders_14 : decode cX11_senders 14 = .ok (.ifCond .ne 6, 3) := by decide +kernel
theorem dX11_senders_17 : decode cX11_senders 17 = .ok (.bipush (-2), 2) := by decide +kernel
theorem dX11_senders_19 : decode cX11_senders 19 = .ok (.ireturn, 1) := by decide +kernel
theorem dX11_senders_20 : decode cX11_senders 20 = .ok (.iconst 0, 1) := by decide +kernel
theorem dX11_senders_21 : decode cX11_senders 21 = .ok (.istore_n 3, 1) := by decide +kernel
theorem dX11_senders_22 : decode cX11_senders 22 = .ok (.iconst 0, 1) := by decide +kernel
theorem dX11_senders_23 : decode cX11_senders 23 = .ok (.istore 4, 2) := by decide +kernel
theorem dX11_senders_25 : decode cX11_senders 25 = .ok (.iload 4, 2) := by decide +kernel
theorem dX11_senders_27 : decode cX11_senders 27 = .ok (.aload_n 0, 1) := by decide +kernel
theorem dX11_senders_28 : decode cX11_senders 28 = .ok (.getfield 14, 3) := by decide +kernel
theorem dX11_senders_31 : decode cX11_senders 31 = .ok (.getfield 101, 3) := by decide +kernel
theorem dX11_senders_34 : decode cX11_senders 34 = .ok (.if_icmp .ge 37, 3) := by decide +kernel
theorem dX11_senders_37 : decode cX11_senders 37 = .ok (.aload_n 0, 1) := by decide +kernel
theorem dX11_senders_38 : decode cX11_senders 38 = .ok (.iload 4, 2) := by decide +kernel
theorem dX11_senders_40 : decode cX11_senders 40 = .ok (.aload_n 0, 1) := by decide +kernel
theorem dX11_senders_41 : decode cX11_senders 41 = .ok (.getfield 14, 3) := by decide +kernel
theorem dX11_senders_44 : decode cX11_senders 44 = .ok (.getfield 77, 3) := by decide +kernel
theorem dX11_senders_47 : decode cX11_senders 47 = .ok (.iload_n 1, 1) := by decide +kernel
theorem dX11_senders_48 : decode cX11_senders 48 = .ok (.invokevirtual 91, 3) := by decide +kernel
theorem dX11_senders_51 : decode cX11_senders 51 = .ok (.invokevirtual 136, 3) := by decide +kernel
theorem dX11_senders_54 : decode cX11_senders 54 = .ok (.iload_n 2, 1) := by decide +kernel
theorem dX11_senders_55 : decode cX11_senders 55 = .ok (.if_icmp .ne 10, 3) := by decide +kernel
theorem dX11_senders_58 : decode cX11_senders 58 = .ok (.iload_n 3, 1) := by decide +kernel
theorem dX11_senders_59 : decode cX11_senders 59 = .ok (.iconst 1, 1) := by decide +kernel
theorem dX11_senders_60 : decode cX11_senders 60 = .ok (.iload 4, 2) := by decide +kernel
theorem dX11_senders_62 : decode cX11_senders 62 = .ok (.ishl, 1) := by decide +kernel
theorem dX11_senders_63 : decode cX11_senders 63 = .ok (.ior, 1) := by decide +kernel
theorem dX11_senders_64 : decode cX11_senders 64 = .ok (.istore_n 3, 1) := by decide +kernel
theorem dX11_senders_65 : decode cX11_senders 65 = .ok (.iinc 4 1, 3) := by decide +kernel
theorem dX11_senders_68 : decode cX11_senders 68 = .ok (.goto (-43), 3) := by decide +kernel
theorem dX11_senders_71 : decode cX11_senders 71 = .ok (.iload_n 3, 1) := by decide +kernel
theorem dX11_senders_72 : decode cX11_senders 72 = .ok (.ireturn, 1) := by decide +kernel
theorem dX11_meant_0 : decode cX11_meant 0 = .ok (.aload_n 0, 1) := by decide +kernel
theorem dX11_meant_1 : decode cX11_meant 1 = .ok (.iload_n 1, 1) := by decide +kernel
theorem dX11_meant_2 : decode cX11_meant 2 = .ok (.invokevirtual 112, 3) := by decide +kernel
theorem dX11_meant_5 : decode cX11_meant 5 = .ok (.ifCond .ne 5, 3) := by decide +kernel
theorem dX11_meant_8 : decode cX11_meant 8 = .ok (.iconst (-1), 1) := by decide +kernel
theorem dX11_meant_9 : decode cX11_meant 9 = .ok (.ireturn, 1) := by decide +kernel
theorem dX11_meant_10 : decode cX11_meant 10 = .ok (.iload_n 2, 1) := by decide +kernel
theorem dX11_meant_11 : decode cX11_meant 11 = .ok (.invokestatic 73, 3) := by decide +kernel
theorem dX11_meant_14 : decode cX11_meant 14 = .ok (.ifCond .ne 6, 3) := by decide +kernel
theorem dX11_meant_17 : decode cX11_meant 17 = .ok (.bipush (-2), 2) := by decide +kernel
theorem dX11_meant_19 : decode cX11_meant 19 = .ok (.ireturn, 1) := by decide +kernel
theorem dX11_meant_20 : decode cX11_meant 20 = .ok (.iconst 0, 1) := by decide +kernel
theorem dX11_meant_21 : decode cX11_meant 21 = .ok (.istore_n 3, 1) := by decide +kernel
theorem dX11_meant_22 : decode cX11_meant 22 = .ok (.iconst 0, 1) := by decide +kernel
theorem dX11_meant_23 : decode cX11_meant 23 = .ok (.istore 4, 2) := by decide +kernel
theorem dX11_meant_25 : decode cX11_meant 25 = .ok (.iload 4, 2) := by decide +kernel
theorem dX11_meant_27 : decode cX11_meant 27 = .ok (.aload_n 0, 1) := by decide +kernel
theorem dX11_meant_28 : decode cX11_meant 28 = .ok (.getfield 14, 3) := by decide +kernel
theorem dX11_meant_31 : decode cX11_meant 31 = .ok (.getfield 77, 3) := by decide +kernel
theorem dX11_meant_34 : decode cX11_meant 34 = .ok (.getfield 179, 3) := by decide +kernel
theorem dX11_meant_37 : decode cX11_meant 37 = .ok (.if_icmp .ge 37, 3) := by decide +kernel
theorem dX11_meant_40 : decode cX11_meant 40 = .ok (.aload_n 0, 1) := by decide +kernel
theorem dX11_meant_41 : decode cX11_meant 41 = .ok (.iload_n 1, 1) := by decide +kernel
theorem dX11_meant_42 : decode cX11_meant 42 = .ok (.aload_n 0, 1) := by decide +kernel
theorem dX11_meant_43 : decode cX11_meant 43 = .ok (.getfield 14, 3) := by decide +kernel
theorem dX11_meant_46 : decode cX11_meant 46 = .ok (.getfield 77, 3) := by decide +kernel
theorem dX11_meant_49 : decode cX11_meant 49 = .ok (.iload 4, 2) := by decide +kernel
theorem dX11_meant_51 : decode cX11_meant 51 = .ok (.invokevirtual 91, 3) := by decide +kernel
theorem dX11_meant_54 : decode cX11_meant 54 = .ok (.invokevirtual 136, 3) := by decide +kernel
theorem dX11_meant_57 : decode cX11_meant 57 = .ok (.iload_n 2, 1) := by decide +kernel
theorem dX11_meant_58 : decode cX11_meant 58 = .ok (.if_icmp .ne 10, 3) := by decide +kernel
theorem dX11_meant_61 : decode cX11_meant 61 = .ok (.iload_n 3, 1) := by decide +kernel
theorem dX11_meant_62 : decode cX11_meant 62 = .ok (.iconst 1, 1) := by decide +kernel
theorem dX11_meant_63 : decode cX11_meant 63 = .ok (.iload 4, 2) := by decide +kernel
theorem dX11_meant_65 : decode cX11_meant 65 = .ok (.ishl, 1) := by decide +kernel
theorem dX11_meant_66 : decode cX11_meant 66 = .ok (.ior, 1) := by decide +kernel
theorem dX11_meant_67 : decode cX11_meant 67 = .ok (.istore_n 3, 1) := by decide +kernel
theorem dX11_meant_68 : decode cX11_meant 68 = .ok (.iinc 4 1, 3) := by decide +kernel
theorem dX11_meant_71 : decode cX11_meant 71 = .ok (.goto (-46), 3) := by decide +kernel
theorem dX11_meant_74 : decode cX11_meant 74 = .ok (.iload_n 3, 1) := by decide +kernel
theorem dX11_meant_75 : decode cX11_meant 75 = .ok (.ireturn, 1) := by decide +kernel
theorem dX11_passed_0 : decode cX11_passed 0 = .ok (.aload_n 0, 1) := by decide +kernel
theorem dX11_passed_1 : decode cX11_passed 1 = .ok (.iload_n 1, 1) := by decide +kernel
theorem dX11_passed_2 : decode cX11_passed 2 = .ok (.invokevirtual 88, 3) := by decide +kernel
theorem dX11_passed_5 : decode cX11_passed 5 = .ok (.ifCond .eq 13, 3) := by decide +kernel
theorem dX11_passed_8 : decode cX11_passed 8 = .ok (.iload_n 2, 1) := by decide +kernel
theorem dX11_passed_9 : decode cX11_passed 9 = .ok (.iconst (-1), 1) := by decide +kernel
theorem dX11_passed_10 : decode cX11_passed 10 = .ok (.if_icmp .lt 8, 3) := by decide +kernel
theorem dX11_passed_13 : decode cX11_passed 13 = .ok (.iload_n 2, 1) := by decide +kernel
theorem dX11_passed_14 : decode cX11_passed 14 = .ok (.iconst 5, 1) := by decide +kernel
theorem dX11_passed_15 : decode cX11_passed 15 = .ok (.if_icmp .lt 5, 3) := by decide +kernel
theorem dX11_passed_18 : decode cX11_passed 18 = .ok (.iconst (-1), 1) := by decide +kernel
theorem dX11_passed_19 : decode cX11_passed 19 = .ok (.ireturn, 1) := by decide +kernel
theorem dX11_passed_20 : decode cX11_passed 20 = .ok (.iload_n 2, 1) := by decide +kernel
theorem dX11_passed_21 : decode cX11_passed 21 = .ok (.aload_n 0, 1) := by decide +kernel
theorem dX11_passed_22 : decode cX11_passed 22 = .ok (.getfield 14, 3) := by decide +kernel
theorem dX11_passed_25 : decode cX11_passed 25 = .ok (.getfield 101, 3) := by decide +kernel
theorem dX11_passed_28 : decode cX11_passed 28 = .ok (.if_icmp .lt 6, 3) := by decide +kernel
theorem dX11_passed_31 : decode cX11_passed 31 = .ok (.bipush (-5), 2) := by decide +kernel
theorem dX11_passed_33 : decode cX11_passed 33 = .ok (.ireturn, 1) := by decide +kernel
theorem dX11_passed_34 : decode cX11_passed 34 = .ok (.aload_n 0, 1) := by decide +kernel
theorem dX11_passed_35 : decode cX11_passed 35 = .ok (.aload_n 0, 1) := by decide +kernel
theorem dX11_passed_36 : decode cX11_passed 36 = .ok (.getfield 14, 3) := by decide +kernel
theorem dX11_passed_39 : decode cX11_passed 39 = .ok (.getfield 77, 3) := by decide +kernel
theorem dX11_passed_42 : decode cX11_passed 42 = .ok (.iload_n 1, 1) := by decide +kernel
theorem dX11_passed_43 : decode cX11_passed 43 = .ok (.invokevirtual 91, 3) := by decide +kernel
theorem dX11_passed_46 : decode cX11_passed 46 = .ok (.invokevirtual 182, 3) := by decide +kernel
theorem dX11_passed_49 : decode cX11_passed 49 = .ok (.istore_n 3, 1) := by decide +kernel
theorem dX11_passed_50 : decode cX11_passed 50 = .ok (.iload_n 2, 1) := by decide +kernel
theorem dX11_passed_51 : decode cX11_passed 51 = .ok (.ifCond .ge 7, 3) := by decide +kernel
theorem dX11_passed_54 : decode cX11_passed 54 = .ok (.iload_n 3, 1) := by decide +kernel
theorem dX11_passed_55 : decode cX11_passed 55 = .ok (.goto 9, 3) := by decide +kernel
theorem dX11_passed_58 : decode cX11_passed 58 = .ok (.aload_n 0, 1) := by decide +kernel
theorem dX11_passed_59 : decode cX11_passed 59 = .ok (.getfield 69, 3) := by decide +kernel
theorem dX11_passed_62 : decode cX11_passed 62 = .ok (.iload_n 2, 1) := by decide +kernel
theorem dX11_passed_63 : decode cX11_passed 63 = .ok (.iaload, 1) := by decide +kernel
theorem dX11_passed_64 : decode cX11_passed 64 = .ok (.ireturn, 1) := by decide +kernel
theorem dX11_see_0 : decode cX11_see 0 = .ok (.aload_n 0, 1) := by decide +kernel
theorem dX11_see_1 : decode cX11_see 1 = .ok (.aload_n 0, 1) := by decide +kernel
theorem dX11_see_2 : decode cX11_see 2 = .ok (.getfield 14, 3) := by decide +kernel
theorem dX11_see_5 : decode cX11_see 5 = .ok (.getfield 185, 3) := by decide +kernel
theorem dX11_see_8 : decode cX11_see 8 = .ok (.iload_n 1, 1) := by decide +kernel
theorem dX11_see_9 : decode cX11_see 9 = .ok (.iload_n 2, 1) := by decide +kernel
theorem dX11_see_10 : decode cX11_see 10 = .ok (.invokevirtual 188, 3) := by decide +kernel
theorem dX11_see_13 : decode cX11_see 13 = .ok (.ireturn, 1) := by decide +kernel
theorem dX11_can_0 : decode cX11_can 0 = .ok (.aload_n 0, 1) := by decide +kernel
theorem dX11_can_1 : decode cX11_can 1 = .ok (.iload_n 1, 1) := by decide +kernel
theorem dX11_can_2 : decode cX11_can 2 = .ok (.invokevirtual 112, 3) := by decide +kernel
theorem dX11_can_5 : decode cX11_can 5 = .ok (.ifCond .eq 10, 3) := by decide +kernel
theorem dX11_can_8 : decode cX11_can 8 = .ok (.iload_n 2, 1) := by decide +kernel
theorem dX11_can_9 : decode cX11_can 9 = .ok (.invokestatic 172, 3) := by decide +kernel
theorem dX11_can_12 : decode cX11_can 12 = .ok (.ifCond .ne 5, 3) := by decide +kernel
theorem dX11_can_15 : decode cX11_can 15 = .ok (.iconst (-1), 1) := by decide +kernel
theorem dX11_can_16 : decode cX11_can 16 = .ok (.ireturn, 1) := by decide +kernel
theorem dX11_can_17 : decode cX11_can 17 = .ok (.bipush (-5), 2) := by decide +kernel
theorem dX11_can_19 : decode cX11_can 19 = .ok (.istore_n 3, 1) := by decide +kernel
theorem dX11_can_20 : decode cX11_can 20 = .ok (.iconst 0, 1) := by decide +kernel
theorem dX11_can_21 : decode cX11_can 21 = .ok (.istore 4, 2) := by decide +kernel
theorem dX11_can_23 : decode cX11_can 23 = .ok (.iconst 0, 1) := by decide +kernel
theorem dX11_can_24 : decode cX11_can 24 = .ok (.istore 5, 2) := by decide +kernel
theorem dX11_can_26 : decode cX11_can 26 = .ok (.iload 5, 2) := by decide +kernel
theorem dX11_can_28 : decode cX11_can 28 = .ok (.bipush 10, 2) := by decide +kernel
theorem dX11_can_30 : decode cX11_can 30 = .ok (.if_icmp .ge 41, 3) := by decide +kernel
theorem dX11_can_33 : decode cX11_can 33 = .ok (.aload_n 0, 1) := by decide +kernel
theorem dX11_can_34 : decode cX11_can 34 = .ok (.iload_n 1, 1) := by decide +kernel
theorem dX11_can_35 : decode cX11_can 35 = .ok (.iload 5, 2) := by decide +kernel
theorem dX11_can_37 : decode cX11_can 37 = .ok (.aload_n 0, 1) := by decide +kernel
theorem dX11_can_38 : decode cX11_can 38 = .ok (.getfield 14, 3) := by decide +kernel
theorem dX11_can_41 : decode cX11_can 41 = .ok (.getfield 158, 3) := by decide +kernel
theorem dX11_can_44 : decode cX11_can 44 = .ok (.invokevirtual 192, 3) := by decide +kernel
theorem dX11_can_47 : decode cX11_can 47 = .ok (.ifCond .eq 18, 3) := by decide +kernel
theorem dX11_can_50 : decode cX11_can 50 = .ok (.iload 4, 2) := by decide +kernel
theorem dX11_can_52 : decode cX11_can 52 = .ok (.ifCond .ne 8, 3) := by decide +kernel
theorem dX11_can_55 : decode cX11_can 55 = .ok (.iload 5, 2) := by decide +kernel
theorem dX11_can_57 : decode cX11_can 57 = .ok (.goto 4, 3) := by decide +kernel
theorem dX11_can_60 : decode cX11_can 60 = .ok (.iload_n 3, 1) := by decide +kernel
theorem dX11_can_61 : decode cX11_can 61 = .ok (.istore_n 3, 1) := by decide +kernel
theorem dX11_can_62 : decode cX11_can 62 = .ok (.iinc 4 1, 3) := by decide +kernel
theorem dX11_can_65 : decode cX11_can 65 = .ok (.iinc 5 1, 3) := by decide +kernel
theorem dX11_can_68 : decode cX11_can 68 = .ok (.goto (-42), 3) := by decide +kernel
theorem dX11_can_71 : decode cX11_can 71 = .ok (.iload_n 2, 1) := by decide +kernel
theorem dX11_can_72 : decode cX11_can 72 = .ok (.ifCond .ne 8, 3) := by decide +kernel
theorem dX11_can_75 : decode cX11_can 75 = .ok (.iload 4, 2) := by decide +kernel
theorem dX11_can_77 : decode cX11_can 77 = .ok (.goto 4, 3) := by decide +kernel
theorem dX11_can_80 : decode cX11_can 80 = .ok (.iload_n 3, 1) := by decide +kernel
theorem dX11_can_81 : decode cX11_can 81 = .ok (.ireturn, 1) := by decide +kernel
theorem dX11_when_0 : decode cX11_when 0 = .ok (.aload_n 0, 1) := by decide +kernel
theorem dX11_when_1 : decode cX11_when 1 = .ok (.iload_n 1, 1) := by decide +kernel
theorem dX11_when_2 : decode cX11_when 2 = .ok (.invokevirtual 112, 3) := by decide +kernel
theorem dX11_when_5 : decode cX11_when 5 = .ok (.ifCond .eq 10, 3) := by decide +kernel
theorem dX11_when_8 : decode cX11_when 8 = .ok (.iload_n 2, 1) := by decide +kernel
theorem dX11_when_9 : decode cX11_when 9 = .ok (.invokestatic 172, 3) := by decide +kernel
theorem dX11_when_12 : decode cX11_when 12 = .ok (.ifCond .ne 5, 3) := by decide +kernel
theorem dX11_when_15 : decode cX11_when 15 = .ok (.iconst (-1), 1) := by decide +kernel
theorem dX11_when_16 : decode cX11_when 16 = .ok (.ireturn, 1) := by decide +kernel
theorem dX11_when_17 : decode cX11_when 17 = .ok (.bipush (-5), 2) := by decide +kernel
theorem dX11_when_19 : decode cX11_when 19 = .ok (.istore_n 3, 1) := by decide +kernel
theorem dX11_when_20 : decode cX11_when 20 = .ok (.iconst 0, 1) := by decide +kernel
theorem dX11_when_21 : decode cX11_when 21 = .ok (.istore 4, 2) := by decide +kernel
theorem dX11_when_23 : decode cX11_when 23 = .ok (.iconst 0, 1) := by decide +kernel
theorem dX11_when_24 : decode cX11_when 24 = .ok (.istore 5, 2) := by decide +kernel
theorem dX11_when_26 : decode cX11_when 26 = .ok (.iload 5, 2) := by decide +kernel
theorem dX11_when_28 : decode cX11_when 28 = .ok (.bipush 24, 2) := by decide +kernel
theorem dX11_when_30 : decode cX11_when 30 = .ok (.if_icmp .ge 54, 3) := by decide +kernel
theorem dX11_when_33 : decode cX11_when 33 = .ok (.aload_n 0, 1) := by decide +kernel
theorem dX11_when_34 : decode cX11_when 34 = .ok (.iload_n 1, 1) := by decide +kernel
theorem dX11_when_35 : decode cX11_when 35 = .ok (.aload_n 0, 1) := by decide +kernel
theorem dX11_when_36 : decode cX11_when 36 = .ok (.getfield 14, 3) := by decide +kernel
theorem dX11_when_39 : decode cX11_when 39 = .ok (.getfield 115, 3) := by decide +kernel
theorem dX11_when_42 : decode cX11_when 42 = .ok (.iload_n 1, 1) := by decide +kernel
theorem dX11_when_43 : decode cX11_when 43 = .ok (.aaload, 1) := by decide +kernel
theorem dX11_when_44 : decode cX11_when 44 = .ok (.getfield 124, 3) := by decide +kernel
theorem dX11_when_47 : decode cX11_when 47 = .ok (.aload_n 0, 1) := by decide +kernel
theorem dX11_when_48 : decode cX11_when 48 = .ok (.getfield 14, 3) := by decide +kernel
theorem dX11_when_51 : decode cX11_when 51 = .ok (.getfield 158, 3) := by decide +kernel
theorem dX11_when_54 : decode cX11_when 54 = .ok (.iload 5, 2) := by decide +kernel
theorem dX11_when_56 : decode cX11_when 56 = .ok (.iadd, 1) := by decide +kernel
theorem dX11_when_57 : decode cX11_when 57 = .ok (.invokevirtual 192, 3) := by decide +kernel
theorem dX11_when_60 : decode cX11_when 60 = .ok (.ifCond .eq 18, 3) := by decide +kernel
theorem dX11_when_63 : decode cX11_when 63 = .ok (.iload 4, 2) := by decide +kernel
theorem dX11_when_65 : decode cX11_when 65 = .ok (.ifCond .ne 8, 3) := by decide +kernel
theorem dX11_when_68 : decode cX11_when 68 = .ok (.iload 5, 2) := by decide +kernel
theorem dX11_when_70 : decode cX11_when 70 = .ok (.goto 4, 3) := by decide +kernel
theorem dX11_when_73 : decode cX11_when 73 = .ok (.iload_n 3, 1) := by decide +kernel
theorem dX11_when_74 : decode cX11_when 74 = .ok (.istore_n 3, 1) := by decide +kernel
theorem dX11_when_75 : decode cX11_when 75 = .ok (.iinc 4 1, 3) := by decide +kernel
theorem dX11_when_78 : decode cX11_when 78 = .ok (.iinc 5 1, 3) := by decide +kernel
theorem dX11_when_81 : decode cX11_when 81 = .ok (.goto (-55), 3) := by decide +kernel
theorem dX11_when_84 : decode cX11_when 84 = .ok (.iload_n 2, 1) := by decide +kernel
theorem dX11_when_85 : decode cX11_when 85 = .ok (.ifCond .ne 8, 3) := by decide +kernel
theorem dX11_when_88 : decode cX11_when 88 = .ok (.iload 4, 2) := by decide +kernel
theorem dX11_when_90 : decode cX11_when 90 = .ok (.goto 4, 3) := by decide +kernel
theorem dX11_when_93 : decode cX11_when 93 = .ok (.iload_n 3, 1) := by decide +kernel
theorem dX11_when_94 : decode cX11_when 94 = .ok (.ireturn, 1) := by decide +kernel
theorem dX11_odds_0 : decode cX11_odds 0 = .ok (.aload_n 0, 1) := by decide +kernel
theorem dX11_odds_1 : decode cX11_odds 1 = .ok (.iload_n 1, 1) := by decide +kernel
theorem dX11_odds_2 : decode cX11_odds 2 = .ok (.invokevirtual 112, 3) := by decide +kernel
theorem dX11_odds_5 : decode cX11_odds 5 = .ok (.ifCond .eq 18, 3) := by decide +kernel
theorem dX11_odds_8 : decode cX11_odds 8 = .ok (.aload_n 0, 1) := by decide +kernel
theorem dX11_odds_9 : decode cX11_odds 9 = .ok (.iload_n 2, 1) := by decide +kernel
theorem dX11_odds_10 : decode cX11_odds 10 = .ok (.invokevirtual 88, 3) := by decide +kernel
theorem dX11_odds_13 : decode cX11_odds 13 = .ok (.ifCond .eq 10, 3) := by decide +kernel
theorem dX11_odds_16 : decode cX11_odds 16 = .ok (.iload_n 3, 1) := by decide +kernel
theorem dX11_odds_17 : decode cX11_odds 17 = .ok (.invokestatic 172, 3) := by decide +kernel
theorem dX11_odds_20 : decode cX11_odds 20 = .ok (.ifCond .ne 7, 3) := by decide +kernel
theorem dX11_odds_23 : decode cX11_odds 23 = .ok (.ldc2_w 195, 3) := by decide +kernel
theorem dX11_odds_26 : decode cX11_odds 26 = .ok (.lreturn, 1) := by decide +kernel
theorem dX11_odds_27 : decode cX11_odds 27 = .ok (.aload_n 0, 1) := by decide +kernel
theorem dX11_odds_28 : decode cX11_odds 28 = .ok (.iload_n 1, 1) := by decide +kernel
theorem dX11_odds_29 : decode cX11_odds 29 = .ok (.aload_n 0, 1) := by decide +kernel
theorem dX11_odds_30 : decode cX11_odds 30 = .ok (.getfield 14, 3) := by decide +kernel
theorem dX11_odds_33 : decode cX11_odds 33 = .ok (.getfield 77, 3) := by decide +kernel
theorem dX11_odds_36 : decode cX11_odds 36 = .ok (.iload_n 2, 1) := by decide +kernel
theorem dX11_odds_37 : decode cX11_odds 37 = .ok (.invokevirtual 91, 3) := by decide +kernel
theorem dX11_odds_40 : decode cX11_odds 40 = .ok (.invokevirtual 136, 3) := by decide +kernel
theorem dX11_odds_43 : decode cX11_odds 43 = .ok (.istore 4, 2) := by decide +kernel
theorem dX11_odds_45 : decode cX11_odds 45 = .ok (.iconst 0, 1) := by decide +kernel
theorem dX11_odds_46 : decode cX11_odds 46 = .ok (.istore 5, 2) := by decide +kernel
theorem dX11_odds_48 : decode cX11_odds 48 = .ok (.iconst 0, 1) := by decide +kernel
theorem dX11_odds_49 : decode cX11_odds 49 = .ok (.istore 6, 2) := by decide +kernel
theorem dX11_odds_51 : decode cX11_odds 51 = .ok (.iload 6, 2) := by decide +kernel
theorem dX11_odds_53 : decode cX11_odds 53 = .ok (.bipush 10, 2) := by decide +kernel
theorem dX11_odds_55 : decode cX11_odds 55 = .ok (.if_icmp .ge 27, 3) := by decide +kernel
theorem dX11_odds_58 : decode cX11_odds 58 = .ok (.aload_n 0, 1) := by decide +kernel
theorem dX11_odds_59 : decode cX11_odds 59 = .ok (.iload 4, 2) := by decide +kernel
theorem dX11_odds_61 : decode cX11_odds 61 = .ok (.iconst 1, 1) := by decide +kernel
theorem dX11_odds_62 : decode cX11_odds 62 = .ok (.iload 6, 2) := by decide +kernel
theorem dX11_odds_64 : decode cX11_odds 64 = .ok (.ishl, 1) := by decide +kernel
theorem dX11_odds_65 : decode cX11_odds 65 = .ok (.ixor, 1) := by decide +kernel
theorem dX11_odds_66 : decode cX11_odds 66 = .ok (.invokevirtual 140, 3) := by decide +kernel
theorem dX11_odds_69 : decode cX11_odds 69 = .ok (.iload_n 2, 1) := by decide +kernel
theorem dX11_odds_70 : decode cX11_odds 70 = .ok (.if_icmp .ne 6, 3) := by decide +kernel
theorem dX11_odds_73 : decode cX11_odds 73 = .ok (.iinc 5 1, 3) := by decide +kernel
theorem dX11_odds_76 : decode cX11_odds 76 = .ok (.iinc 6 1, 3) := by decide +kernel
theorem dX11_odds_79 : decode cX11_odds 79 = .ok (.goto (-28), 3) := by decide +kernel
theorem dX11_odds_82 : decode cX11_odds 82 = .ok (.iload 5, 2) := by decide +kernel
theorem dX11_odds_84 : decode cX11_odds 84 = .ok (.bipush 10, 2) := by decide +kernel
theorem dX11_odds_86 : decode cX11_odds 86 = .ok (.iload_n 3, 1) := by decide +kernel
theorem dX11_odds_87 : decode cX11_odds 87 = .ok (.invokestatic 197, 3) := by decide +kernel
theorem dX11_odds_90 : decode cX11_odds 90 = .ok (.lreturn, 1) := by decide +kernel
theorem dX11_mean_0 : decode cX11_mean 0 = .ok (.iload_n 1, 1) := by decide +kernel
theorem dX11_mean_1 : decode cX11_mean 1 = .ok (.invokestatic 172, 3) := by decide +kernel
theorem dX11_mean_4 : decode cX11_mean 4 = .ok (.ifCond .eq 16, 3) := by decide +kernel
theorem dX11_mean_7 : decode cX11_mean 7 = .ok (.aload_n 0, 1) := by decide +kernel
theorem dX11_mean_8 : decode cX11_mean 8 = .ok (.getfield 14, 3) := by decide +kernel
theorem dX11_mean_11 : decode cX11_mean 11 = .ok (.getfield 77, 3) := by decide +kernel
theorem dX11_mean_14 : decode cX11_mean 14 = .ok (.getfield 179, 3) := by decide +kernel
theorem dX11_mean_17 : decode cX11_mean 17 = .ok (.ifCond .ne 7, 3) := by decide +kernel
theorem dX11_mean_20 : decode cX11_mean 20 = .ok (.ldc2_w 195, 3) := by decide +kernel
theorem dX11_mean_23 : decode cX11_mean 23 = .ok (.lreturn, 1) := by decide +kernel
theorem dX11_mean_24 : decode cX11_mean 24 = .ok (.iconst 0, 1) := by decide +kernel
theorem dX11_mean_25 : decode cX11_mean 25 = .ok (.istore_n 2, 1) := by decide +kernel
theorem dX11_mean_26 : decode cX11_mean 26 = .ok (.iconst 0, 1) := by decide +kernel
theorem dX11_mean_27 : decode cX11_mean 27 = .ok (.istore_n 3, 1) := by decide +kernel
theorem dX11_mean_28 : decode cX11_mean 28 = .ok (.iload_n 3, 1) := by decide +kernel
theorem dX11_mean_29 : decode cX11_mean 29 = .ok (.aload_n 0, 1) := by decide +kernel
theorem dX11_mean_30 : decode cX11_mean 30 = .ok (.getfield 14, 3) := by decide +kernel
theorem dX11_mean_33 : decode cX11_mean 33 = .ok (.getfield 77, 3) := by decide +kernel
theorem dX11_mean_36 : decode cX11_mean 36 = .ok (.getfield 179, 3) := by decide +kernel
theorem dX11_mean_39 : decode cX11_mean 39 = .ok (.if_icmp .ge 26, 3) := by decide +kernel
theorem dX11_mean_42 : decode cX11_mean 42 = .ok (.iload_n 2, 1) := by decide +kernel
theorem dX11_mean_43 : decode cX11_mean 43 = .ok (.aload_n 0, 1) := by decide +kernel
theorem dX11_mean_44 : decode cX11_mean 44 = .ok (.getfield 14, 3) := by decide +kernel
theorem dX11_mean_47 : decode cX11_mean 47 = .ok (.getfield 77, 3) := by decide +kernel
theorem dX11_mean_50 : decode cX11_mean 50 = .ok (.iload_n 3, 1) := by decide +kernel
theorem dX11_mean_51 : decode cX11_mean 51 = .ok (.invokevirtual 91, 3) := by decide +kernel
theorem dX11_mean_54 : decode cX11_mean 54 = .ok (.invokestatic 201, 3) := by decide +kernel
theorem dX11_mean_57 : decode cX11_mean 57 = .ok (.iadd, 1) := by decide +kernel
theorem dX11_mean_58 : decode cX11_mean 58 = .ok (.istore_n 2, 1) := by decide +kernel
theorem dX11_mean_59 : decode cX11_mean 59 = .ok (.iinc 3 1, 3) := by decide +kernel
theorem dX11_mean_62 : decode cX11_mean 62 = .ok (.goto (-34), 3) := by decide +kernel
theorem dX11_mean_65 : decode cX11_mean 65 = .ok (.iload_n 2, 1) := by decide +kernel
theorem dX11_mean_66 : decode cX11_mean 66 = .ok (.aload_n 0, 1) := by decide +kernel
theorem dX11_mean_67 : decode cX11_mean 67 = .ok (.getfield 14, 3) := by decide +kernel
theorem dX11_mean_70 : decode cX11_mean 70 = .ok (.getfield 77, 3) := by decide +kernel
theorem dX11_mean_73 : decode cX11_mean 73 = .ok (.getfield 179, 3) := by decide +kernel
theorem dX11_mean_76 : decode cX11_mean 76 = .ok (.iload_n 1, 1) := by decide +kernel
theorem dX11_mean_77 : decode cX11_mean 77 = .ok (.invokestatic 197, 3) := by decide +kernel
theorem dX11_mean_80 : decode cX11_mean 80 = .ok (.lreturn, 1) := by decide +kernel
theorem dX11_relay_0 : decode cX11_relay 0 = .ok (.iload_n 1, 1) := by decide +kernel
theorem dX11_relay_1 : decode cX11_relay 1 = .ok (.iconst (-1), 1) := by decide +kernel
theorem dX11_relay_2 : decode cX11_relay 2 = .ok (.if_icmp .ne 15, 3) := by decide +kernel
theorem dX11_relay_5 : decode cX11_relay 5 = .ok (.aload_n 0, 1) := by decide +kernel
theorem dX11_relay_6 : decode cX11_relay 6 = .ok (.getfield 14, 3) := by decide +kernel
theorem dX11_relay_9 : decode cX11_relay 9 = .ok (.getfield 206, 3) := by decide +kernel
theorem dX11_relay_12 : decode cX11_relay 12 = .ok (.invokevirtual 152, 3) := by decide +kernel
theorem dX11_relay_15 : decode cX11_relay 15 = .ok (.iconst 0, 1) := by decide +kernel
theorem dX11_relay_16 : decode cX11_relay 16 = .ok (.ireturn, 1) := by decide +kernel
theorem dX11_relay_17 : decode cX11_relay 17 = .ok (.iload_n 1, 1) := by decide +kernel
theorem dX11_relay_18 : decode cX11_relay 18 = .ok (.iconst 5, 1) := by decide +kernel
theorem dX11_relay_19 : decode cX11_relay 19 = .ok (.if_icmp .eq 13, 3) := by decide +kernel
theorem dX11_relay_22 : decode cX11_relay 22 = .ok (.aload_n 0, 1) := by decide +kernel
theorem dX11_relay_23 : decode cX11_relay 23 = .ok (.iload_n 1, 1) := by decide +kernel
theorem dX11_relay_24 : decode cX11_relay 24 = .ok (.invokevirtual 112, 3) := by decide +kernel
theorem dX11_relay_27 : decode cX11_relay 27 = .ok (.ifCond .ne 5, 3) := by decide +kernel
theorem dX11_relay_30 : decode cX11_relay 30 = .ok (.iconst (-1), 1) := by decide +kernel
theorem dX11_relay_31 : decode cX11_relay 31 = .ok (.ireturn, 1) := by decide +kernel
theorem dX11_relay_32 : decode cX11_relay 32 = .ok (.aload_n 0, 1) := by decide +kernel
theorem dX11_relay_33 : decode cX11_relay 33 = .ok (.getfield 14, 3) := by decide +kernel
theorem dX11_relay_36 : decode cX11_relay 36 = .ok (.getfield 206, 3) := by decide +kernel
theorem dX11_relay_39 : decode cX11_relay 39 = .ok (.invokevirtual 80, 3) := by decide +kernel
theorem dX11_relay_42 : decode cX11_relay 42 = .ok (.ifCond .eq 8, 3) := by decide +kernel
theorem dX11_relay_45 : decode cX11_relay 45 = .ok (.bipush (-4), 2) := by decide +kernel
theorem dX11_relay_47 : decode cX11_relay 47 = .ok (.goto 14, 3) := by decide +kernel
theorem dX11_relay_50 : decode cX11_relay 50 = .ok (.aload_n 0, 1) := by decide +kernel
theorem dX11_relay_51 : decode cX11_relay 51 = .ok (.getfield 14, 3) := by decide +kernel
theorem dX11_relay_54 : decode cX11_relay 54 = .ok (.getfield 206, 3) := by decide +kernel
theorem dX11_relay_57 : decode cX11_relay 57 = .ok (.iload_n 1, 1) := by decide +kernel
theorem dX11_relay_58 : decode cX11_relay 58 = .ok (.invokevirtual 84, 3) := by decide +kernel
theorem dX11_relay_61 : decode cX11_relay 61 = .ok (.ireturn, 1) := by decide +kernel
theorem dX11_ends_0 : decode cX11_ends 0 = .ok (.aload_n 0, 1) := by decide +kernel
theorem dX11_ends_1 : decode cX11_ends 1 = .ok (.iload_n 1, 1) := by decide +kernel
theorem dX11_ends_2 : decode cX11_ends 2 = .ok (.invokevirtual 88, 3) := by decide +kernel
theorem dX11_ends_5 : decode cX11_ends 5 = .ok (.ifCond .eq 10, 3) := by decide +kernel
theorem dX11_ends_8 : decode cX11_ends 8 = .ok (.iload_n 2, 1) := by decide +kernel
theorem dX11_ends_9 : decode cX11_ends 9 = .ok (.invokestatic 172, 3) := by decide +kernel
theorem dX11_ends_12 : decode cX11_ends 12 = .ok (.ifCond .ne 5, 3) := by decide +kernel
theorem dX11_ends_15 : decode cX11_ends 15 = .ok (.iconst (-1), 1) := by decide +kernel
theorem dX11_ends_16 : decode cX11_ends 16 = .ok (.ireturn, 1) := by decide +kernel
theorem dX11_ends_17 : decode cX11_ends 17 = .ok (.aload_n 0, 1) := by decide +kernel
theorem dX11_ends_18 : decode cX11_ends 18 = .ok (.getfield 14, 3) := by decide +kernel
theorem dX11_ends_21 : decode cX11_ends 21 = .ok (.getfield 77, 3) := by decide +kernel
theorem dX11_ends_24 : decode cX11_ends 24 = .ok (.iload_n 1, 1) := by decide +kernel
theorem dX11_ends_25 : decode cX11_ends 25 = .ok (.invokevirtual 91, 3) := by decide +kernel
theorem dX11_ends_28 : decode cX11_ends 28 = .ok (.istore_n 3, 1) := by decide +kernel
theorem dX11_ends_29 : decode cX11_ends 29 = .ok (.aload_n 0, 1) := by decide +kernel
theorem dX11_ends_30 : decode cX11_ends 30 = .ok (.getfield 14, 3) := by decide +kernel
theorem dX11_ends_33 : decode cX11_ends 33 = .ok (.getfield 158, 3) := by decide +kernel
theorem dX11_ends_36 : decode cX11_ends 36 = .ok (.istore 4, 2) := by decide +kernel
theorem dX11_ends_38 : decode cX11_ends 38 = .ok (.iconst 0, 1) := by decide +kernel
theorem dX11_ends_39 : decode cX11_ends 39 = .ok (.istore 5, 2) := by decide +kernel
theorem dX11_ends_41 : decode cX11_ends 41 = .ok (.iload 5, 2) := by decide +kernel
theorem dX11_ends_43 : decode cX11_ends 43 = .ok (.aload_n 0, 1) := by decide +kernel
theorem dX11_ends_44 : decode cX11_ends 44 = .ok (.getfield 14, 3) := by decide +kernel
theorem dX11_ends_47 : decode cX11_ends 47 = .ok (.getfield 206, 3) := by decide +kernel
theorem dX11_ends_50 : decode cX11_ends 50 = .ok (.getfield 179, 3) := by decide +kernel
theorem dX11_ends_53 : decode cX11_ends 53 = .ok (.if_icmp .ge 67, 3) := by decide +kernel
theorem dX11_ends_56 : decode cX11_ends 56 = .ok (.aload_n 0, 1) := by decide +kernel
theorem dX11_ends_57 : decode cX11_ends 57 = .ok (.getfield 14, 3) := by decide +kernel
theorem dX11_ends_60 : decode cX11_ends 60 = .ok (.getfield 206, 3) := by decide +kernel
theorem dX11_ends_63 : decode cX11_ends 63 = .ok (.iload 5, 2) := by decide +kernel
theorem dX11_ends_65 : decode cX11_ends 65 = .ok (.invokevirtual 91, 3) := by decide +kernel
theorem dX11_ends_68 : decode cX11_ends 68 = .ok (.istore 6, 2) := by decide +kernel
theorem dX11_ends_70 : decode cX11_ends 70 = .ok (.iload 6, 2) := by decide +kernel
theorem dX11_ends_72 : decode cX11_ends 72 = .ok (.iconst 5, 1) := by decide +kernel
theorem dX11_ends_73 : decode cX11_ends 73 = .ok (.if_icmp .ne 9, 3) := by decide +kernel
theorem dX11_ends_76 : decode cX11_ends 76 = .ok (.iinc 4 1, 3) := by decide +kernel
theorem dX11_ends_79 : decode cX11_ends 79 = .ok (.goto 35, 3) := by decide +kernel
theorem dX11_ends_82 : decode cX11_ends 82 = .ok (.aload_n 0, 1) := by decide +kernel
theorem dX11_ends_83 : decode cX11_ends 83 = .ok (.iload 6, 2) := by decide +kernel
theorem dX11_ends_85 : decode cX11_ends 85 = .ok (.invokevirtual 112, 3) := by decide +kernel
theorem dX11_ends_88 : decode cX11_ends 88 = .ok (.ifCond .eq 26, 3) := by decide +kernel
theorem dX11_ends_91 : decode cX11_ends 91 = .ok (.aload_n 0, 1) := by decide +kernel
theorem dX11_ends_92 : decode cX11_ends 92 = .ok (.iload 6, 2) := by decide +kernel
theorem dX11_ends_94 : decode cX11_ends 94 = .ok (.aload_n 0, 1) := by decide +kernel
theorem dX11_ends_95 : decode cX11_ends 95 = .ok (.getfield 14, 3) := by decide +kernel
theorem dX11_ends_98 : decode cX11_ends 98 = .ok (.getfield 115, 3) := by decide +kernel
theorem dX11_ends_101 : decode cX11_ends 101 = .ok (.iload 6, 2) := by decide +kernel
theorem dX11_ends_103 : decode cX11_ends 103 = .ok (.aaload, 1) := by decide +kernel
theorem dX11_ends_104 : decode cX11_ends 104 = .ok (.getfield 124, 3) := by decide +kernel
theorem dX11_ends_107 : decode cX11_ends 107 = .ok (.iload 4, 2) := by decide +kernel
theorem dX11_ends_109 : decode cX11_ends 109 = .ok (.iload_n 3, 1) := by decide +kernel
theorem dX11_ends_110 : decode cX11_ends 110 = .ok (.invokevirtual 209, 3) := by decide +kernel
theorem dX11_ends_113 : decode cX11_ends 113 = .ok (.istore_n 3, 1) := by decide +kernel
theorem dX11_ends_114 : decode cX11_ends 114 = .ok (.iinc 5 1, 3) := by decide +kernel
theorem dX11_ends_117 : decode cX11_ends 117 = .ok (.goto (-76), 3) := by decide +kernel
theorem dX11_ends_120 : decode cX11_ends 120 = .ok (.iload_n 2, 1) := by decide +kernel
theorem dX11_ends_121 : decode cX11_ends 121 = .ok (.ifCond .ne 7, 3) := by decide +kernel
theorem dX11_ends_124 : decode cX11_ends 124 = .ok (.iload_n 3, 1) := by decide +kernel
theorem dX11_ends_125 : decode cX11_ends 125 = .ok (.goto 8, 3) := by decide +kernel
theorem dX11_ends_128 : decode cX11_ends 128 = .ok (.aload_n 0, 1) := by decide +kernel
theorem dX11_ends_129 : decode cX11_ends 129 = .ok (.iload_n 3, 1) := by decide +kernel
theorem dX11_ends_130 : decode cX11_ends 130 = .ok (.invokevirtual 140, 3) := by decide +kernel
theorem dX11_ends_133 : decode cX11_ends 133 = .ok (.ireturn, 1) := by decide +kernel
theorem dX11_book_0 : decode cX11_book 0 = .ok (.aload_n 0, 1) := by decide +kernel
theorem dX11_book_1 : decode cX11_book 1 = .ok (.aload_n 0, 1) := by decide +kernel
theorem dX11_book_2 : decode cX11_book 2 = .ok (.getfield 14, 3) := by decide +kernel
theorem dX11_book_5 : decode cX11_book 5 = .ok (.getfield 213, 3) := by decide +kernel
theorem dX11_book_8 : decode cX11_book 8 = .ok (.iload_n 1, 1) := by decide +kernel
theorem dX11_book_9 : decode cX11_book 9 = .ok (.iload_n 2, 1) := by decide +kernel
theorem dX11_book_10 : decode cX11_book 10 = .ok (.invokevirtual 188, 3) := by decide +kernel
theorem dX11_book_13 : decode cX11_book 13 = .ok (.ireturn, 1) := by decide +kernel
theorem dX11_looked_0 : decode cX11_looked 0 = .ok (.iconst 0, 1) := by decide +kernel
theorem dX11_looked_1 : decode cX11_looked 1 = .ok (.istore_n 1, 1) := by decide +kernel
theorem dX11_looked_2 : decode cX11_looked 2 = .ok (.iload_n 1, 1) := by decide +kernel
theorem dX11_looked_3 : decode cX11_looked 3 = .ok (.aload_n 0, 1) := by decide +kernel
theorem dX11_looked_4 : decode cX11_looked 4 = .ok (.getfield 14, 3) := by decide +kernel
theorem dX11_looked_7 : decode cX11_looked 7 = .ok (.getfield 213, 3) := by decide +kernel
theorem dX11_looked_10 : decode cX11_looked 10 = .ok (.getfield 179, 3) := by decide +kernel
theorem dX11_looked_13 : decode cX11_looked 13 = .ok (.if_icmp .ge 46, 3) := by decide +kernel
theorem dX11_looked_16 : decode cX11_looked 16 = .ok (.aload_n 0, 1) := by decide +kernel
theorem dX11_looked_17 : decode cX11_looked 17 = .ok (.getfield 14, 3) := by decide +kernel
theorem dX11_looked_20 : decode cX11_looked 20 = .ok (.getfield 213, 3) := by decide +kernel
theorem dX11_looked_23 : decode cX11_looked 23 = .ok (.iload_n 1, 1) := by decide +kernel
theorem dX11_looked_24 : decode cX11_looked 24 = .ok (.invokevirtual 91, 3) := by decide +kernel
theorem dX11_looked_27 : decode cX11_looked 27 = .ok (.istore_n 2, 1) := by decide +kernel
theorem dX11_looked_28 : decode cX11_looked 28 = .ok (.aload_n 0, 1) := by decide +kernel
theorem dX11_looked_29 : decode cX11_looked 29 = .ok (.getfield 14, 3) := by decide +kernel
theorem dX11_looked_32 : decode cX11_looked 32 = .ok (.getfield 77, 3) := by decide +kernel
theorem dX11_looked_35 : decode cX11_looked 35 = .ok (.iload_n 2, 1) := by decide +kernel
theorem dX11_looked_36 : decode cX11_looked 36 = .ok (.sipush 1024, 3) := by decide +kernel
theorem dX11_looked_39 : decode cX11_looked 39 = .ok (.idiv, 1) := by decide +kernel
theorem dX11_looked_40 : decode cX11_looked 40 = .ok (.invokevirtual 91, 3) := by decide +kernel
theorem dX11_looked_43 : decode cX11_looked 43 = .ok (.iload_n 2, 1) := by decide +kernel
theorem dX11_looked_44 : decode cX11_looked 44 = .ok (.sipush 1024, 3) := by decide +kernel
theorem dX11_looked_47 : decode cX11_looked 47 = .ok (.irem, 1) := by decide +kernel
theorem dX11_looked_48 : decode cX11_looked 48 = .ok (.if_icmp .eq 5, 3) := by decide +kernel
theorem dX11_looked_51 : decode cX11_looked 51 = .ok (.iload_n 1, 1) := by decide +kernel
theorem dX11_looked_52 : decode cX11_looked 52 = .ok (.ireturn, 1) := by decide +kernel
theorem dX11_looked_53 : decode cX11_looked 53 = .ok (.iinc 1 1, 3) := by decide +kernel
theorem dX11_looked_56 : decode cX11_looked 56 = .ok (.goto (-54), 3) := by decide +kernel
theorem dX11_looked_59 : decode cX11_looked 59 = .ok (.bipush (-5), 2) := by decide +kernel
theorem dX11_looked_61 : decode cX11_looked 61 = .ok (.ireturn, 1) := by decide +kernel
theorem dX11_judge_0 : decode cX11_judge 0 = .ok (.iload_n 1, 1) := by decide +kernel
theorem dX11_judge_1 : decode cX11_judge 1 = .ok (.invokestatic 216, 3) := by decide +kernel
theorem dX11_judge_4 : decode cX11_judge 4 = .ok (.ifCond .ne 5, 3) := by decide +kernel
theorem dX11_judge_7 : decode cX11_judge 7 = .ok (.iconst (-1), 1) := by decide +kernel
theorem dX11_judge_8 : decode cX11_judge 8 = .ok (.ireturn, 1) := by decide +kernel
theorem dX11_judge_9 : decode cX11_judge 9 = .ok (.aload_n 0, 1) := by decide +kernel
theorem dX11_judge_10 : decode cX11_judge 10 = .ok (.getfield 47, 3) := by decide +kernel
theorem dX11_judge_13 : decode cX11_judge 13 = .ok (.iload_n 1, 1) := by decide +kernel
theorem dX11_judge_14 : decode cX11_judge 14 = .ok (.aaload, 1) := by decide +kernel
theorem dX11_judge_15 : decode cX11_judge 15 = .ok (.astore_n 3, 1) := by decide +kernel
theorem dX11_judge_16 : decode cX11_judge 16 = .ok (.aload_n 3, 1) := by decide +kernel
theorem dX11_judge_17 : decode cX11_judge 17 = .ok (.getfield 219, 3) := by decide +kernel
theorem dX11_judge_20 : decode cX11_judge 20 = .ok (.iconst (-1), 1) := by decide +kernel
theorem dX11_judge_21 : decode cX11_judge 21 = .ok (.if_icmp .eq 14, 3) := by decide +kernel
theorem dX11_judge_24 : decode cX11_judge 24 = .ok (.aload_n 3, 1) := by decide +kernel
theorem dX11_judge_25 : decode cX11_judge 25 = .ok (.getfield 219, 3) := by decide +kernel
theorem dX11_judge_28 : decode cX11_judge 28 = .ok (.iconst 1, 1) := by decide +kernel
theorem dX11_judge_29 : decode cX11_judge 29 = .ok (.if_icmp .eq 6, 3) := by decide +kernel
theorem dX11_judge_32 : decode cX11_judge 32 = .ok (.bipush (-12), 2) := by decide +kernel
theorem dX11_judge_34 : decode cX11_judge 34 = .ok (.ireturn, 1) := by decide +kernel
theorem dX11_judge_35 : decode cX11_judge 35 = .ok (.iconst 0, 1) := by decide +kernel
theorem dX11_judge_36 : decode cX11_judge 36 = .ok (.istore 4, 2) := by decide +kernel
theorem dX11_judge_38 : decode cX11_judge 38 = .ok (.iload 4, 2) := by decide +kernel
theorem dX11_judge_40 : decode cX11_judge 40 = .ok (.aload_n 0, 1) := by decide +kernel
theorem dX11_judge_41 : decode cX11_judge 41 = .ok (.getfield 14, 3) := by decide +kernel
theorem dX11_judge_44 : decode cX11_judge 44 = .ok (.getfield 77, 3) := by decide +kernel
theorem dX11_judge_47 : decode cX11_judge 47 = .ok (.getfield 179, 3) := by decide +kernel
theorem dX11_judge_50 : decode cX11_judge 50 = .ok (.if_icmp .ge 63, 3) := by decide +kernel
theorem dX11_judge_53 : decode cX11_judge 53 = .ok (.aload_n 3, 1) := by decide +kernel
theorem dX11_judge_54 : decode cX11_judge 54 = .ok (.iload_n 2, 1) := by decide +kernel
theorem dX11_judge_55 : decode cX11_judge 55 = .ok (.invokevirtual 222, 3) := by decide +kernel
theorem dX11_judge_58 : decode cX11_judge 58 = .ok (.ifCond .eq 14, 3) := by decide +kernel
theorem dX11_judge_61 : decode cX11_judge 61 = .ok (.aload_n 3, 1) := by decide +kernel
theorem dX11_judge_62 : decode cX11_judge 62 = .ok (.iload_n 2, 1) := by decide +kernel
theorem dX11_judge_63 : decode cX11_judge 63 = .ok (.iload 4, 2) := by decide +kernel
theorem dX11_judge_65 : decode cX11_judge 65 = .ok (.iadd, 1) := by decide +kernel
theorem dX11_judge_66 : decode cX11_judge 66 = .ok (.invokevirtual 222, 3) := by decide +kernel
theorem dX11_judge_69 : decode cX11_judge 69 = .ok (.ifCond .ne 9, 3) := by decide +kernel
theorem dX11_judge_72 : decode cX11_judge 72 = .ok (.bipush 100, 2) := by decide +kernel
theorem dX11_judge_74 : decode cX11_judge 74 = .ok (.iload 4, 2) := by decide +kernel
theorem dX11_judge_76 : decode cX11_judge 76 = .ok (.iadd, 1) := by decide +kernel
theorem dX11_judge_77 : decode cX11_judge 77 = .ok (.ireturn, 1) := by decide +kernel
theorem dX11_judge_78 : decode cX11_judge 78 = .ok (.aload_n 3, 1) := by decide +kernel
theorem dX11_judge_79 : decode cX11_judge 79 = .ok (.getfield 225, 3) := by decide +kernel
theorem dX11_judge_82 : decode cX11_judge 82 = .ok (.iload_n 2, 1) := by decide +kernel
theorem dX11_judge_83 : decode cX11_judge 83 = .ok (.iload 4, 2) := by decide +kernel
theorem dX11_judge_85 : decode cX11_judge 85 = .ok (.iadd, 1) := by decide +kernel
theorem dX11_judge_86 : decode cX11_judge 86 = .ok (.laload, 1) := by decide +kernel
theorem dX11_judge_87 : decode cX11_judge 87 = .ok (.aload_n 0, 1) := by decide +kernel
theorem dX11_judge_88 : decode cX11_judge 88 = .ok (.getfield 14, 3) := by decide +kernel
theorem dX11_judge_91 : decode cX11_judge 91 = .ok (.getfield 77, 3) := by decide +kernel
theorem dX11_judge_94 : decode cX11_judge 94 = .ok (.iload 4, 2) := by decide +kernel
theorem dX11_judge_96 : decode cX11_judge 96 = .ok (.invokevirtual 91, 3) := by decide +kernel
theorem dX11_judge_99 : decode cX11_judge 99 = .ok (.i2l, 1) := by decide +kernel
theorem dX11_judge_100 : decode cX11_judge 100 = .ok (.lcmp, 1) := by decide +kernel
theorem dX11_judge_101 : decode cX11_judge 101 = .ok (.ifCond .eq 6, 3) := by decide +kernel
theorem dX11_judge_104 : decode cX11_judge 104 = .ok (.iload 4, 2) := by decide +kernel
theorem dX11_judge_106 : decode cX11_judge 106 = .ok (.ireturn, 1) := by decide +kernel
theorem dX11_judge_107 : decode cX11_judge 107 = .ok (.iinc 4 1, 3) := by decide +kernel
theorem dX11_judge_110 : decode cX11_judge 110 = .ok (.goto (-72), 3) := by decide +kernel
theorem dX11_judge_113 : decode cX11_judge 113 = .ok (.bipush (-5), 2) := by decide +kernel
theorem dX11_judge_115 : decode cX11_judge 115 = .ok (.ireturn, 1) := by decide +kernel
theorem dX11_image_0 : decode cX11_image 0 = .ok (.aload_n 0, 1) := by decide +kernel
theorem dX11_image_1 : decode cX11_image 1 = .ok (.getfield 18, 3) := by decide +kernel
theorem dX11_image_4 : decode cX11_image 4 = .ok (.aload_n 0, 1) := by decide +kernel
theorem dX11_image_5 : decode cX11_image 5 = .ok (.getfield 14, 3) := by decide +kernel
theorem dX11_image_8 : decode cX11_image 8 = .ok (.invokevirtual 228, 3) := by decide +kernel
theorem dX11_image_11 : decode cX11_image 11 = .ok (.aload_n 0, 1) := by decide +kernel
theorem dX11_image_12 : decode cX11_image 12 = .ok (.iconst 1, 1) := by decide +kernel
theorem dX11_image_13 : decode cX11_image 13 = .ok (.putfield 21, 3) := by decide +kernel
theorem dX11_image_16 : decode cX11_image 16 = .ok (.aload_n 0, 1) := by decide +kernel
theorem dX11_image_17 : decode cX11_image 17 = .ok (.getfield 14, 3) := by decide +kernel
theorem dX11_image_20 : decode cX11_image 20 = .ok (.getfield 101, 3) := by decide +kernel
theorem dX11_image_23 : decode cX11_image 23 = .ok (.ireturn, 1) := by decide +kernel
theorem dX11_undo_0 : decode cX11_undo 0 = .ok (.aload_n 0, 1) := by decide +kernel
theorem dX11_undo_1 : decode cX11_undo 1 = .ok (.getfield 21, 3) := by decide +kernel
theorem dX11_undo_4 : decode cX11_undo 4 = .ok (.ifCond .ne 6, 3) := by decide +kernel
theorem dX11_undo_7 : decode cX11_undo 7 = .ok (.bipush (-3), 2) := by decide +kernel
theorem dX11_undo_9 : decode cX11_undo 9 = .ok (.ireturn, 1) := by decide +kernel
theorem dX11_undo_10 : decode cX11_undo 10 = .ok (.aload_n 0, 1) := by decide +kernel
theorem dX11_undo_11 : decode cX11_undo 11 = .ok (.getfield 14, 3) := by decide +kernel
theorem dX11_undo_14 : decode cX11_undo 14 = .ok (.aload_n 0, 1) := by decide +kernel
theorem dX11_undo_15 : decode cX11_undo 15 = .ok (.getfield 18, 3) := by decide +kernel
theorem dX11_undo_18 : decode cX11_undo 18 = .ok (.invokevirtual 228, 3) := by decide +kernel
theorem dX11_undo_21 : decode cX11_undo 21 = .ok (.aload_n 0, 1) := by decide +kernel
theorem dX11_undo_22 : decode cX11_undo 22 = .ok (.getfield 14, 3) := by decide +kernel
theorem dX11_undo_25 : decode cX11_undo 25 = .ok (.getfield 101, 3) := by decide +kernel
theorem dX11_undo_28 : decode cX11_undo 28 = .ok (.ireturn, 1) := by decide +kernel
theorem dX11_act_0 : decode cX11_act 0 = .ok (.aload_n 0, 1) := by decide +kernel
theorem dX11_act_1 : decode cX11_act 1 = .ok (.getfield 54, 3) := by decide +kernel
theorem dX11_act_4 : decode cX11_act 4 = .ok (.iconst 0, 1) := by decide +kernel
theorem dX11_act_5 : decode cX11_act 5 = .ok (.invokevirtual 232, 3) := by decide +kernel
theorem dX11_act_8 : decode cX11_act 8 = .ok (.aload_n 0, 1) := by decide +kernel
theorem dX11_act_9 : decode cX11_act 9 = .ok (.iload_n 1, 1) := by decide +kernel
theorem dX11_act_10 : decode cX11_act 10 = .ok (.invokevirtual 112, 3) := by decide +kernel
theorem dX11_act_13 : decode cX11_act 13 = .ok (.ifCond .ne 5, 3) := by decide +kernel
theorem dX11_act_16 : decode cX11_act 16 = .ok (.iconst 0, 1) := by decide +kernel
theorem dX11_act_17 : decode cX11_act 17 = .ok (.ireturn, 1) := by decide +kernel
theorem dX11_act_18 : decode cX11_act 18 = .ok (.aload_n 0, 1) := by decide +kernel
theorem dX11_act_19 : decode cX11_act 19 = .ok (.getfield 14, 3) := by decide +kernel
theorem dX11_act_22 : decode cX11_act 22 = .ok (.getfield 115, 3) := by decide +kernel
theorem dX11_act_25 : decode cX11_act 25 = .ok (.iload_n 1, 1) := by decide +kernel
theorem dX11_act_26 : decode cX11_act 26 = .ok (.aaload, 1) := by decide +kernel
theorem dX11_act_27 : decode cX11_act 27 = .ok (.astore 4, 2) := by decide +kernel
theorem dX11_act_29 : decode cX11_act 29 = .ok (.iload_n 2, 1) := by decide +kernel
theorem dX11_act_30 : decode cX11_act 30 = .ok (.tableswitch 59 0 2 #[26, 37, 48], 26) := by decide +kernel
theorem dX11_act_56 : decode cX11_act 56 = .ok (.aload 4, 2) := by decide +kernel
theorem dX11_act_58 : decode cX11_act 58 = .ok (.iload_n 3, 1) := by decide +kernel
theorem dX11_act_59 : decode cX11_act 59 = .ok (.aload_n 0, 1) := by decide +kernel
theorem dX11_act_60 : decode cX11_act 60 = .ok (.getfield 54, 3) := by decide +kernel
theorem dX11_act_63 : decode cX11_act 63 = .ok (.invokevirtual 235, 3) := by decide +kernel
theorem dX11_act_66 : decode cX11_act 66 = .ok (.ireturn, 1) := by decide +kernel
theorem dX11_act_67 : decode cX11_act 67 = .ok (.aload 4, 2) := by decide +kernel
theorem dX11_act_69 : decode cX11_act 69 = .ok (.iload_n 3, 1) := by decide +kernel
theorem dX11_act_70 : decode cX11_act 70 = .ok (.aload_n 0, 1) := by decide +kernel
theorem dX11_act_71 : decode cX11_act 71 = .ok (.getfield 54, 3) := by decide +kernel
theorem dX11_act_74 : decode cX11_act 74 = .ok (.invokevirtual 239, 3) := by decide +kernel
theorem dX11_act_77 : decode cX11_act 77 = .ok (.ireturn, 1) := by decide +kernel
theorem dX11_act_78 : decode cX11_act 78 = .ok (.aload 4, 2) := by decide +kernel
theorem dX11_act_80 : decode cX11_act 80 = .ok (.iload_n 3, 1) := by decide +kernel
theorem dX11_act_81 : decode cX11_act 81 = .ok (.aload_n 0, 1) := by decide +kernel
theorem dX11_act_82 : decode cX11_act 82 = .ok (.getfield 54, 3) := by decide +kernel
theorem dX11_act_85 : decode cX11_act 85 = .ok (.invokevirtual 242, 3) := by decide +kernel
theorem dX11_act_88 : decode cX11_act 88 = .ok (.ireturn, 1) := by decide +kernel
theorem dX11_act_89 : decode cX11_act 89 = .ok (.iconst 0, 1) := by decide +kernel
theorem dX11_act_90 : decode cX11_act 90 = .ok (.ireturn, 1) := by decide +kernel
theorem dX11_trace_0 : decode cX11_trace 0 = .ok (.iload_n 1, 1) := by decide +kernel
theorem dX11_trace_1 : decode cX11_trace 1 = .ok (.ifCond .lt 31, 3) := by decide +kernel
theorem dX11_trace_4 : decode cX11_trace 4 = .ok (.iload_n 1, 1) := by decide +kernel
theorem dX11_trace_5 : decode cX11_trace 5 = .ok (.bipush 20, 2) := by decide +kernel
theorem dX11_trace_7 : decode cX11_trace 7 = .ok (.if_icmp .ge 25, 3) := by decide +kernel
theorem dX11_trace_10 : decode cX11_trace 10 = .ok (.iload_n 1, 1) := by decide +kernel
end
section
theorem dX11_trace_11 : decode cX11_trace 11 = .ok (.aload_n 0, 1) := by decide +kernel
theorem dX11_trace_12 : decode cX11_trace 12 = .ok (.getfield 54, 3) := by decide +kernel
theorem dX11_trace_15 : decode cX11_trace 15 = .ok (.invokevirtual 245, 3) := by decide +kernel
theorem dX11_trace_18 : decode cX11_trace 18 = .ok (.if_icmp .ge 14, 3) := by decide +kernel
theorem dX11_trace_21 : decode cX11_trace 21 = .ok (.aload_n 0, 1) := by decide +kernel
theorem dX11_trace_22 : decode cX11_trace 22 = .ok (.getfield 54, 3) := by decide +kernel
theorem dX11_trace_25 : decode cX11_trace 25 = .ok (.iload_n 1, 1) := by decide +kernel
theorem dX11_trace_26 : decode cX11_trace 26 = .ok (.invokevirtual 248, 3) := by decide +kernel
theorem dX11_trace_29 : decode cX11_trace 29 = .ok (.goto 4, 3) := by decide +kernel
theorem dX11_trace_32 : decode cX11_trace 32 = .ok (.iconst (-1), 1) := by decide +kernel
theorem dX11_trace_33 : decode cX11_trace 33 = .ok (.ireturn, 1) := by decide +kernel
theorem dX11_taken_0 : decode cX11_taken 0 = .ok (.iload_n 2, 1) := by decide +kernel
theorem dX11_taken_1 : decode cX11_taken 1 = .ok (.ifCond .lt 9, 3) := by decide +kernel
theorem dX11_taken_4 : decode cX11_taken 4 = .ok (.iload_n 2, 1) := by decide +kernel
theorem dX11_taken_5 : decode cX11_taken 5 = .ok (.bipush 7, 2) := by decide +kernel
theorem dX11_taken_7 : decode cX11_taken 7 = .ok (.if_icmp .lt 6, 3) := by decide +kernel
theorem dX11_taken_10 : decode cX11_taken 10 = .ok (.bipush (-2), 2) := by decide +kernel
theorem dX11_taken_12 : decode cX11_taken 12 = .ok (.ireturn, 1) := by decide +kernel
theorem dX11_taken_13 : decode cX11_taken 13 = .ok (.aload_n 0, 1) := by decide +kernel
theorem dX11_taken_14 : decode cX11_taken 14 = .ok (.iload_n 1, 1) := by decide +kernel
theorem dX11_taken_15 : decode cX11_taken 15 = .ok (.invokevirtual 112, 3) := by decide +kernel
theorem dX11_taken_18 : decode cX11_taken 18 = .ok (.ifCond .ne 6, 3) := by decide +kernel
theorem dX11_taken_21 : decode cX11_taken 21 = .ok (.bipush (-11), 2) := by decide +kernel
theorem dX11_taken_23 : decode cX11_taken 23 = .ok (.ireturn, 1) := by decide +kernel
theorem dX11_taken_24 : decode cX11_taken 24 = .ok (.aload_n 0, 1) := by decide +kernel
theorem dX11_taken_25 : decode cX11_taken 25 = .ok (.getfield 14, 3) := by decide +kernel
theorem dX11_taken_28 : decode cX11_taken 28 = .ok (.getfield 115, 3) := by decide +kernel
theorem dX11_taken_31 : decode cX11_taken 31 = .ok (.iload_n 1, 1) := by decide +kernel
theorem dX11_taken_32 : decode cX11_taken 32 = .ok (.aaload, 1) := by decide +kernel
theorem dX11_taken_33 : decode cX11_taken 33 = .ok (.astore_n 3, 1) := by decide +kernel
theorem dX11_taken_34 : decode cX11_taken 34 = .ok (.aload_n 3, 1) := by decide +kernel
theorem dX11_taken_35 : decode cX11_taken 35 = .ok (.iload_n 2, 1) := by decide +kernel
theorem dX11_taken_36 : decode cX11_taken 36 = .ok (.invokestatic 252, 3) := by decide +kernel
theorem dX11_taken_39 : decode cX11_taken 39 = .ok (.ifCond .eq 10, 3) := by decide +kernel
theorem dX11_taken_42 : decode cX11_taken 42 = .ok (.aload_n 3, 1) := by decide +kernel
theorem dX11_taken_43 : decode cX11_taken 43 = .ok (.getfield 119, 3) := by decide +kernel
theorem dX11_taken_46 : decode cX11_taken 46 = .ok (.goto 5, 3) := by decide +kernel
theorem dX11_taken_49 : decode cX11_taken 49 = .ok (.bipush (-12), 2) := by decide +kernel
theorem dX11_taken_51 : decode cX11_taken 51 = .ok (.ireturn, 1) := by decide +kernel
theorem dX11_count_0 : decode cX11_count 0 = .ok (.iload_n 1, 1) := by decide +kernel
theorem dX11_count_1 : decode cX11_count 1 = .ok (.tableswitch 120 0 7 #[47, 55, 66, 71, 82, 93, 104, 112], 47) := by decide +kernel
theorem dX11_count_48 : decode cX11_count 48 = .ok (.aload_n 0, 1) := by decide +kernel
theorem dX11_count_49 : decode cX11_count 49 = .ok (.getfield 14, 3) := by decide +kernel
theorem dX11_count_52 : decode cX11_count 52 = .ok (.getfield 101, 3) := by decide +kernel
theorem dX11_count_55 : decode cX11_count 55 = .ok (.ireturn, 1) := by decide +kernel
theorem dX11_count_56 : decode cX11_count 56 = .ok (.aload_n 0, 1) := by decide +kernel
theorem dX11_count_57 : decode cX11_count 57 = .ok (.getfield 14, 3) := by decide +kernel
theorem dX11_count_60 : decode cX11_count 60 = .ok (.getfield 77, 3) := by decide +kernel
theorem dX11_count_63 : decode cX11_count 63 = .ok (.getfield 179, 3) := by decide +kernel
theorem dX11_count_66 : decode cX11_count 66 = .ok (.ireturn, 1) := by decide +kernel
theorem dX11_count_67 : decode cX11_count 67 = .ok (.aload_n 0, 1) := by decide +kernel
theorem dX11_count_68 : decode cX11_count 68 = .ok (.getfield 41, 3) := by decide +kernel
theorem dX11_count_71 : decode cX11_count 71 = .ok (.ireturn, 1) := by decide +kernel
theorem dX11_count_72 : decode cX11_count 72 = .ok (.aload_n 0, 1) := by decide +kernel
theorem dX11_count_73 : decode cX11_count 73 = .ok (.getfield 14, 3) := by decide +kernel
theorem dX11_count_76 : decode cX11_count 76 = .ok (.getfield 185, 3) := by decide +kernel
theorem dX11_count_79 : decode cX11_count 79 = .ok (.getfield 179, 3) := by decide +kernel
theorem dX11_count_82 : decode cX11_count 82 = .ok (.ireturn, 1) := by decide +kernel
theorem dX11_count_83 : decode cX11_count 83 = .ok (.aload_n 0, 1) := by decide +kernel
theorem dX11_count_84 : decode cX11_count 84 = .ok (.getfield 14, 3) := by decide +kernel
theorem dX11_count_87 : decode cX11_count 87 = .ok (.getfield 206, 3) := by decide +kernel
theorem dX11_count_90 : decode cX11_count 90 = .ok (.getfield 179, 3) := by decide +kernel
theorem dX11_count_93 : decode cX11_count 93 = .ok (.ireturn, 1) := by decide +kernel
theorem dX11_count_94 : decode cX11_count 94 = .ok (.aload_n 0, 1) := by decide +kernel
theorem dX11_count_95 : decode cX11_count 95 = .ok (.getfield 14, 3) := by decide +kernel
theorem dX11_count_98 : decode cX11_count 98 = .ok (.getfield 213, 3) := by decide +kernel
theorem dX11_count_101 : decode cX11_count 101 = .ok (.getfield 179, 3) := by decide +kernel
theorem dX11_count_104 : decode cX11_count 104 = .ok (.ireturn, 1) := by decide +kernel
theorem dX11_count_105 : decode cX11_count 105 = .ok (.aload_n 0, 1) := by decide +kernel
theorem dX11_count_106 : decode cX11_count 106 = .ok (.getfield 32, 3) := by decide +kernel
theorem dX11_count_109 : decode cX11_count 109 = .ok (.getfield 179, 3) := by decide +kernel
theorem dX11_count_112 : decode cX11_count 112 = .ok (.ireturn, 1) := by decide +kernel
theorem dX11_count_113 : decode cX11_count 113 = .ok (.aload_n 0, 1) := by decide +kernel
theorem dX11_count_114 : decode cX11_count 114 = .ok (.getfield 54, 3) := by decide +kernel
theorem dX11_count_117 : decode cX11_count 117 = .ok (.invokevirtual 245, 3) := by decide +kernel
theorem dX11_count_120 : decode cX11_count 120 = .ok (.ireturn, 1) := by decide +kernel
theorem dX11_count_121 : decode cX11_count 121 = .ok (.bipush (-2), 2) := by decide +kernel
theorem dX11_count_123 : decode cX11_count 123 = .ok (.ireturn, 1) := by decide +kernel
theorem dX11_tape_0 : decode cX11_tape 0 = .ok (.iload_n 1, 1) := by decide +kernel
theorem dX11_tape_1 : decode cX11_tape 1 = .ok (.invokestatic 216, 3) := by decide +kernel
theorem dX11_tape_4 : decode cX11_tape 4 = .ok (.ifCond .ne 5, 3) := by decide +kernel
theorem dX11_tape_7 : decode cX11_tape 7 = .ok (.iconst (-1), 1) := by decide +kernel
theorem dX11_tape_8 : decode cX11_tape 8 = .ok (.ireturn, 1) := by decide +kernel
theorem dX11_tape_9 : decode cX11_tape 9 = .ok (.iload_n 2, 1) := by decide +kernel
theorem dX11_tape_10 : decode cX11_tape 10 = .ok (.iconst (-1), 1) := by decide +kernel
theorem dX11_tape_11 : decode cX11_tape 11 = .ok (.if_icmp .lt 8, 3) := by decide +kernel
theorem dX11_tape_14 : decode cX11_tape 14 = .ok (.iload_n 2, 1) := by decide +kernel
theorem dX11_tape_15 : decode cX11_tape 15 = .ok (.iconst 4, 1) := by decide +kernel
theorem dX11_tape_16 : decode cX11_tape 16 = .ok (.if_icmp .le 6, 3) := by decide +kernel
theorem dX11_tape_19 : decode cX11_tape 19 = .ok (.bipush (-2), 2) := by decide +kernel
theorem dX11_tape_21 : decode cX11_tape 21 = .ok (.ireturn, 1) := by decide +kernel
theorem dX11_tape_22 : decode cX11_tape 22 = .ok (.iload_n 2, 1) := by decide +kernel
theorem dX11_tape_23 : decode cX11_tape 23 = .ok (.iconst (-1), 1) := by decide +kernel
theorem dX11_tape_24 : decode cX11_tape 24 = .ok (.if_icmp .ne 16, 3) := by decide +kernel
theorem dX11_tape_27 : decode cX11_tape 27 = .ok (.aload_n 0, 1) := by decide +kernel
theorem dX11_tape_28 : decode cX11_tape 28 = .ok (.getfield 47, 3) := by decide +kernel
theorem dX11_tape_31 : decode cX11_tape 31 = .ok (.iload_n 1, 1) := by decide +kernel
theorem dX11_tape_32 : decode cX11_tape 32 = .ok (.aaload, 1) := by decide +kernel
theorem dX11_tape_33 : decode cX11_tape 33 = .ok (.iconst (-1), 1) := by decide +kernel
theorem dX11_tape_34 : decode cX11_tape 34 = .ok (.iconst 0, 1) := by decide +kernel
theorem dX11_tape_35 : decode cX11_tape 35 = .ok (.invokevirtual 256, 3) := by decide +kernel
theorem dX11_tape_38 : decode cX11_tape 38 = .ok (.iconst 1, 1) := by decide +kernel
theorem dX11_tape_39 : decode cX11_tape 39 = .ok (.ireturn, 1) := by decide +kernel
theorem dX11_tape_40 : decode cX11_tape 40 = .ok (.iload_n 3, 1) := by decide +kernel
theorem dX11_tape_41 : decode cX11_tape 41 = .ok (.bipush 60, 2) := by decide +kernel
theorem dX11_tape_43 : decode cX11_tape 43 = .ok (.if_icmp .le 6, 3) := by decide +kernel
theorem dX11_tape_46 : decode cX11_tape 46 = .ok (.bipush (-2), 2) := by decide +kernel
theorem dX11_tape_48 : decode cX11_tape 48 = .ok (.ireturn, 1) := by decide +kernel
theorem dX11_tape_49 : decode cX11_tape 49 = .ok (.iload_n 3, 1) := by decide +kernel
theorem dX11_tape_50 : decode cX11_tape 50 = .ok (.ifCond .ge 6, 3) := by decide +kernel
theorem dX11_tape_53 : decode cX11_tape 53 = .ok (.bipush (-14), 2) := by decide +kernel
theorem dX11_tape_55 : decode cX11_tape 55 = .ok (.ireturn, 1) := by decide +kernel
theorem dX11_tape_56 : decode cX11_tape 56 = .ok (.aload_n 0, 1) := by decide +kernel
theorem dX11_tape_57 : decode cX11_tape 57 = .ok (.getfield 47, 3) := by decide +kernel
theorem dX11_tape_60 : decode cX11_tape 60 = .ok (.iload_n 1, 1) := by decide +kernel
theorem dX11_tape_61 : decode cX11_tape 61 = .ok (.aaload, 1) := by decide +kernel
theorem dX11_tape_62 : decode cX11_tape 62 = .ok (.iload_n 2, 1) := by decide +kernel
theorem dX11_tape_63 : decode cX11_tape 63 = .ok (.iload_n 3, 1) := by decide +kernel
theorem dX11_tape_64 : decode cX11_tape 64 = .ok (.invokevirtual 256, 3) := by decide +kernel
theorem dX11_tape_67 : decode cX11_tape 67 = .ok (.iconst 1, 1) := by decide +kernel
theorem dX11_tape_68 : decode cX11_tape 68 = .ok (.ireturn, 1) := by decide +kernel
theorem dX11_item_0 : decode cX11_item 0 = .ok (.iload_n 1, 1) := by decide +kernel
theorem dX11_item_1 : decode cX11_item 1 = .ok (.invokestatic 216, 3) := by decide +kernel
theorem dX11_item_4 : decode cX11_item 4 = .ok (.ifCond .ne 5, 3) := by decide +kernel
theorem dX11_item_7 : decode cX11_item 7 = .ok (.iconst (-1), 1) := by decide +kernel
theorem dX11_item_8 : decode cX11_item 8 = .ok (.ireturn, 1) := by decide +kernel
theorem dX11_item_9 : decode cX11_item 9 = .ok (.aload_n 0, 1) := by decide +kernel
theorem dX11_item_10 : decode cX11_item 10 = .ok (.getfield 47, 3) := by decide +kernel
theorem dX11_item_13 : decode cX11_item 13 = .ok (.iload_n 1, 1) := by decide +kernel
theorem dX11_item_14 : decode cX11_item 14 = .ok (.aaload, 1) := by decide +kernel
theorem dX11_item_15 : decode cX11_item 15 = .ok (.astore 5, 2) := by decide +kernel
theorem dX11_item_17 : decode cX11_item 17 = .ok (.aload 5, 2) := by decide +kernel
theorem dX11_item_19 : decode cX11_item 19 = .ok (.getfield 219, 3) := by decide +kernel
theorem dX11_item_22 : decode cX11_item 22 = .ok (.iconst (-1), 1) := by decide +kernel
theorem dX11_item_23 : decode cX11_item 23 = .ok (.if_icmp .ne 6, 3) := by decide +kernel
theorem dX11_item_26 : decode cX11_item 26 = .ok (.bipush (-11), 2) := by decide +kernel
theorem dX11_item_28 : decode cX11_item 28 = .ok (.ireturn, 1) := by decide +kernel
theorem dX11_item_29 : decode cX11_item 29 = .ok (.aload 5, 2) := by decide +kernel
theorem dX11_item_31 : decode cX11_item 31 = .ok (.iload_n 2, 1) := by decide +kernel
theorem dX11_item_32 : decode cX11_item 32 = .ok (.invokevirtual 222, 3) := by decide +kernel
theorem dX11_item_35 : decode cX11_item 35 = .ok (.ifCond .ne 6, 3) := by decide +kernel
theorem dX11_item_38 : decode cX11_item 38 = .ok (.bipush (-13), 2) := by decide +kernel
theorem dX11_item_40 : decode cX11_item 40 = .ok (.ireturn, 1) := by decide +kernel
theorem dX11_item_41 : decode cX11_item 41 = .ok (.aload 5, 2) := by decide +kernel
theorem dX11_item_43 : decode cX11_item 43 = .ok (.getfield 225, 3) := by decide +kernel
theorem dX11_item_46 : decode cX11_item 46 = .ok (.iload_n 2, 1) := by decide +kernel
theorem dX11_item_47 : decode cX11_item 47 = .ok (.aload 5, 2) := by decide +kernel
theorem dX11_item_49 : decode cX11_item 49 = .ok (.getfield 219, 3) := by decide +kernel
theorem dX11_item_52 : decode cX11_item 52 = .ok (.lload_n 3, 1) := by decide +kernel
theorem dX11_item_53 : decode cX11_item 53 = .ok (.invokestatic 259, 3) := by decide +kernel
theorem dX11_item_56 : decode cX11_item 56 = .ok (.lastore, 1) := by decide +kernel
theorem dX11_item_57 : decode cX11_item 57 = .ok (.iconst 1, 1) := by decide +kernel
theorem dX11_item_58 : decode cX11_item 58 = .ok (.ireturn, 1) := by decide +kernel
theorem dX11_read_0 : decode cX11_read 0 = .ok (.iload_n 1, 1) := by decide +kernel
theorem dX11_read_1 : decode cX11_read 1 = .ok (.invokestatic 216, 3) := by decide +kernel
theorem dX11_read_4 : decode cX11_read 4 = .ok (.ifCond .eq 30, 3) := by decide +kernel
theorem dX11_read_7 : decode cX11_read 7 = .ok (.aload_n 0, 1) := by decide +kernel
theorem dX11_read_8 : decode cX11_read 8 = .ok (.getfield 47, 3) := by decide +kernel
theorem dX11_read_11 : decode cX11_read 11 = .ok (.iload_n 1, 1) := by decide +kernel
theorem dX11_read_12 : decode cX11_read 12 = .ok (.aaload, 1) := by decide +kernel
theorem dX11_read_13 : decode cX11_read 13 = .ok (.iload_n 2, 1) := by decide +kernel
theorem dX11_read_14 : decode cX11_read 14 = .ok (.invokevirtual 222, 3) := by decide +kernel
theorem dX11_read_17 : decode cX11_read 17 = .ok (.ifCond .eq 17, 3) := by decide +kernel
theorem dX11_read_20 : decode cX11_read 20 = .ok (.aload_n 0, 1) := by decide +kernel
theorem dX11_read_21 : decode cX11_read 21 = .ok (.getfield 47, 3) := by decide +kernel
theorem dX11_read_24 : decode cX11_read 24 = .ok (.iload_n 1, 1) := by decide +kernel
theorem dX11_read_25 : decode cX11_read 25 = .ok (.aaload, 1) := by decide +kernel
theorem dX11_read_26 : decode cX11_read 26 = .ok (.getfield 225, 3) := by decide +kernel
theorem dX11_read_29 : decode cX11_read 29 = .ok (.iload_n 2, 1) := by decide +kernel
theorem dX11_read_30 : decode cX11_read 30 = .ok (.laload, 1) := by decide +kernel
theorem dX11_read_31 : decode cX11_read 31 = .ok (.goto 6, 3) := by decide +kernel
theorem dX11_read_34 : decode cX11_read 34 = .ok (.ldc2_w 195, 3) := by decide +kernel
theorem dX11_read_37 : decode cX11_read 37 = .ok (.lreturn, 1) := by decide +kernel
theorem dX11_shift_0 : decode cX11_shift 0 = .ok (.iload_n 1, 1) := by decide +kernel
theorem dX11_shift_1 : decode cX11_shift 1 = .ok (.invokestatic 216, 3) := by decide +kernel
theorem dX11_shift_4 : decode cX11_shift 4 = .ok (.ifCond .eq 10, 3) := by decide +kernel
theorem dX11_shift_7 : decode cX11_shift 7 = .ok (.iload_n 3, 1) := by decide +kernel
theorem dX11_shift_8 : decode cX11_shift 8 = .ok (.invokestatic 216, 3) := by decide +kernel
theorem dX11_shift_11 : decode cX11_shift 11 = .ok (.ifCond .ne 5, 3) := by decide +kernel
theorem dX11_shift_14 : decode cX11_shift 14 = .ok (.iconst (-1), 1) := by decide +kernel
theorem dX11_shift_15 : decode cX11_shift 15 = .ok (.ireturn, 1) := by decide +kernel
theorem dX11_shift_16 : decode cX11_shift 16 = .ok (.aload_n 0, 1) := by decide +kernel
theorem dX11_shift_17 : decode cX11_shift 17 = .ok (.getfield 47, 3) := by decide +kernel
theorem dX11_shift_20 : decode cX11_shift 20 = .ok (.iload_n 1, 1) := by decide +kernel
theorem dX11_shift_21 : decode cX11_shift 21 = .ok (.aaload, 1) := by decide +kernel
theorem dX11_shift_22 : decode cX11_shift 22 = .ok (.astore 6, 2) := by decide +kernel
theorem dX11_shift_24 : decode cX11_shift 24 = .ok (.aload_n 0, 1) := by decide +kernel
theorem dX11_shift_25 : decode cX11_shift 25 = .ok (.getfield 47, 3) := by decide +kernel
theorem dX11_shift_28 : decode cX11_shift 28 = .ok (.iload_n 3, 1) := by decide +kernel
theorem dX11_shift_29 : decode cX11_shift 29 = .ok (.aaload, 1) := by decide +kernel
theorem dX11_shift_30 : decode cX11_shift 30 = .ok (.astore 7, 2) := by decide +kernel
theorem dX11_shift_32 : decode cX11_shift 32 = .ok (.aload 6, 2) := by decide +kernel
theorem dX11_shift_34 : decode cX11_shift 34 = .ok (.getfield 219, 3) := by decide +kernel
theorem dX11_shift_37 : decode cX11_shift 37 = .ok (.iconst (-1), 1) := by decide +kernel
theorem dX11_shift_38 : decode cX11_shift 38 = .ok (.if_icmp .eq 12, 3) := by decide +kernel
theorem dX11_shift_41 : decode cX11_shift 41 = .ok (.aload 7, 2) := by decide +kernel
theorem dX11_shift_43 : decode cX11_shift 43 = .ok (.getfield 219, 3) := by decide +kernel
theorem dX11_shift_46 : decode cX11_shift 46 = .ok (.iconst (-1), 1) := by decide +kernel
theorem dX11_shift_47 : decode cX11_shift 47 = .ok (.if_icmp .ne 6, 3) := by decide +kernel
theorem dX11_shift_50 : decode cX11_shift 50 = .ok (.bipush (-11), 2) := by decide +kernel
theorem dX11_shift_52 : decode cX11_shift 52 = .ok (.ireturn, 1) := by decide +kernel
theorem dX11_shift_53 : decode cX11_shift 53 = .ok (.aload 6, 2) := by decide +kernel
theorem dX11_shift_55 : decode cX11_shift 55 = .ok (.getfield 219, 3) := by decide +kernel
theorem dX11_shift_58 : decode cX11_shift 58 = .ok (.aload 7, 2) := by decide +kernel
theorem dX11_shift_60 : decode cX11_shift 60 = .ok (.getfield 219, 3) := by decide +kernel
theorem dX11_shift_63 : decode cX11_shift 63 = .ok (.if_icmp .eq 6, 3) := by decide +kernel
theorem dX11_shift_66 : decode cX11_shift 66 = .ok (.bipush (-12), 2) := by decide +kernel
theorem dX11_shift_68 : decode cX11_shift 68 = .ok (.ireturn, 1) := by decide +kernel
theorem dX11_shift_69 : decode cX11_shift 69 = .ok (.aload 6, 2) := by decide +kernel
theorem dX11_shift_71 : decode cX11_shift 71 = .ok (.iload_n 2, 1) := by decide +kernel
theorem dX11_shift_72 : decode cX11_shift 72 = .ok (.iload 5, 2) := by decide +kernel
theorem dX11_shift_74 : decode cX11_shift 74 = .ok (.invokevirtual 263, 3) := by decide +kernel
theorem dX11_shift_77 : decode cX11_shift 77 = .ok (.ifCond .eq 15, 3) := by decide +kernel
theorem dX11_shift_80 : decode cX11_shift 80 = .ok (.aload 7, 2) := by decide +kernel
theorem dX11_shift_82 : decode cX11_shift 82 = .ok (.iload 4, 2) := by decide +kernel
theorem dX11_shift_84 : decode cX11_shift 84 = .ok (.iload 5, 2) := by decide +kernel
theorem dX11_shift_86 : decode cX11_shift 86 = .ok (.invokevirtual 263, 3) := by decide +kernel
theorem dX11_shift_89 : decode cX11_shift 89 = .ok (.ifCond .ne 6, 3) := by decide +kernel
theorem dX11_shift_92 : decode cX11_shift 92 = .ok (.bipush (-13), 2) := by decide +kernel
theorem dX11_shift_94 : decode cX11_shift 94 = .ok (.ireturn, 1) := by decide +kernel
theorem dX11_shift_95 : decode cX11_shift 95 = .ok (.aload 6, 2) := by decide +kernel
theorem dX11_shift_97 : decode cX11_shift 97 = .ok (.getfield 225, 3) := by decide +kernel
theorem dX11_shift_100 : decode cX11_shift 100 = .ok (.iload_n 2, 1) := by decide +kernel
theorem dX11_shift_101 : decode cX11_shift 101 = .ok (.aload 7, 2) := by decide +kernel
theorem dX11_shift_103 : decode cX11_shift 103 = .ok (.getfield 225, 3) := by decide +kernel
theorem dX11_shift_106 : decode cX11_shift 106 = .ok (.iload 4, 2) := by decide +kernel
theorem dX11_shift_108 : decode cX11_shift 108 = .ok (.iload 5, 2) := by decide +kernel
theorem dX11_shift_110 : decode cX11_shift 110 = .ok (.invokestatic 267, 3) := by decide +kernel
theorem dX11_shift_113 : decode cX11_shift 113 = .ok (.iload 5, 2) := by decide +kernel
theorem dX11_shift_115 : decode cX11_shift 115 = .ok (.ireturn, 1) := by decide +kernel
theorem dX11_isSign_0 : decode cX11_isSign 0 = .ok (.iload_n 0, 1) := by decide +kernel
theorem dX11_isSign_1 : decode cX11_isSign 1 = .ok (.ifCond .lt 14, 3) := by decide +kernel
theorem dX11_isSign_4 : decode cX11_isSign 4 = .ok (.iload_n 0, 1) := by decide +kernel
theorem dX11_isSign_5 : decode cX11_isSign 5 = .ok (.sipush 1024, 3) := by decide +kernel
theorem dX11_isSign_8 : decode cX11_isSign 8 = .ok (.if_icmp .ge 7, 3) := by decide +kernel
theorem dX11_isSign_11 : decode cX11_isSign 11 = .ok (.iconst 1, 1) := by decide +kernel
theorem dX11_isSign_12 : decode cX11_isSign 12 = .ok (.goto 4, 3) := by decide +kernel
theorem dX11_isSign_15 : decode cX11_isSign 15 = .ok (.iconst 0, 1) := by decide +kernel
theorem dX11_isSign_16 : decode cX11_isSign 16 = .ok (.ireturn, 1) := by decide +kernel
theorem dX11_isDigit_0 : decode cX11_isDigit 0 = .ok (.iload_n 0, 1) := by decide +kernel
theorem dX11_isDigit_1 : decode cX11_isDigit 1 = .ok (.ifCond .lt 13, 3) := by decide +kernel
theorem dX11_isDigit_4 : decode cX11_isDigit 4 = .ok (.iload_n 0, 1) := by decide +kernel
theorem dX11_isDigit_5 : decode cX11_isDigit 5 = .ok (.bipush 10, 2) := by decide +kernel
theorem dX11_isDigit_7 : decode cX11_isDigit 7 = .ok (.if_icmp .ge 7, 3) := by decide +kernel
theorem dX11_isDigit_10 : decode cX11_isDigit 10 = .ok (.iconst 1, 1) := by decide +kernel
theorem dX11_isDigit_11 : decode cX11_isDigit 11 = .ok (.goto 4, 3) := by decide +kernel
theorem dX11_isDigit_14 : decode cX11_isDigit 14 = .ok (.iconst 0, 1) := by decide +kernel
theorem dX11_isDigit_15 : decode cX11_isDigit 15 = .ok (.ireturn, 1) := by decide +kernel
theorem dX11_isPart_0 : decode cX11_isPart 0 = .ok (.iload_n 0, 1) := by decide +kernel
theorem dX11_isPart_1 : decode cX11_isPart 1 = .ok (.ifCond .eq 8, 3) := by decide +kernel
theorem dX11_isPart_4 : decode cX11_isPart 4 = .ok (.iload_n 0, 1) := by decide +kernel
theorem dX11_isPart_5 : decode cX11_isPart 5 = .ok (.iconst 1, 1) := by decide +kernel
theorem dX11_isPart_6 : decode cX11_isPart 6 = .ok (.if_icmp .ne 7, 3) := by decide +kernel
theorem dX11_isPart_9 : decode cX11_isPart 9 = .ok (.iconst 1, 1) := by decide +kernel
theorem dX11_isPart_10 : decode cX11_isPart 10 = .ok (.goto 4, 3) := by decide +kernel
theorem dX11_isPart_13 : decode cX11_isPart 13 = .ok (.iconst 0, 1) := by decide +kernel
theorem dX11_isPart_14 : decode cX11_isPart 14 = .ok (.ireturn, 1) := by decide +kernel
theorem dX11_isTape_0 : decode cX11_isTape 0 = .ok (.iload_n 0, 1) := by decide +kernel
theorem dX11_isTape_1 : decode cX11_isTape 1 = .ok (.ifCond .lt 13, 3) := by decide +kernel
theorem dX11_isTape_4 : decode cX11_isTape 4 = .ok (.iload_n 0, 1) := by decide +kernel
theorem dX11_isTape_5 : decode cX11_isTape 5 = .ok (.bipush 6, 2) := by decide +kernel
theorem dX11_isTape_7 : decode cX11_isTape 7 = .ok (.if_icmp .ge 7, 3) := by decide +kernel
theorem dX11_isTape_10 : decode cX11_isTape 10 = .ok (.iconst 1, 1) := by decide +kernel
theorem dX11_isTape_11 : decode cX11_isTape 11 = .ok (.goto 4, 3) := by decide +kernel
theorem dX11_isTape_14 : decode cX11_isTape 14 = .ok (.iconst 0, 1) := by decide +kernel
theorem dX11_isTape_15 : decode cX11_isTape 15 = .ok (.ireturn, 1) := by decide +kernel
theorem dX11_isWord_0 : decode cX11_isWord 0 = .ok (.iload_n 1, 1) := by decide +kernel
theorem dX11_isWord_1 : decode cX11_isWord 1 = .ok (.ifCond .lt 21, 3) := by decide +kernel
theorem dX11_isWord_4 : decode cX11_isWord 4 = .ok (.iload_n 1, 1) := by decide +kernel
theorem dX11_isWord_5 : decode cX11_isWord 5 = .ok (.aload_n 0, 1) := by decide +kernel
theorem dX11_isWord_6 : decode cX11_isWord 6 = .ok (.getfield 14, 3) := by decide +kernel
theorem dX11_isWord_9 : decode cX11_isWord 9 = .ok (.getfield 77, 3) := by decide +kernel
theorem dX11_isWord_12 : decode cX11_isWord 12 = .ok (.getfield 179, 3) := by decide +kernel
theorem dX11_isWord_15 : decode cX11_isWord 15 = .ok (.if_icmp .ge 7, 3) := by decide +kernel
theorem dX11_isWord_18 : decode cX11_isWord 18 = .ok (.iconst 1, 1) := by decide +kernel
theorem dX11_isWord_19 : decode cX11_isWord 19 = .ok (.goto 4, 3) := by decide +kernel
theorem dX11_isWord_22 : decode cX11_isWord 22 = .ok (.iconst 0, 1) := by decide +kernel
theorem dX11_isWord_23 : decode cX11_isWord 23 = .ok (.ireturn, 1) := by decide +kernel
theorem dX11_isSender_0 : decode cX11_isSender 0 = .ok (.iload_n 1, 1) := by decide +kernel
theorem dX11_isSender_1 : decode cX11_isSender 1 = .ok (.ifCond .lt 30, 3) := by decide +kernel
theorem dX11_isSender_4 : decode cX11_isSender 4 = .ok (.iload_n 1, 1) := by decide +kernel
theorem dX11_isSender_5 : decode cX11_isSender 5 = .ok (.aload_n 0, 1) := by decide +kernel
theorem dX11_isSender_6 : decode cX11_isSender 6 = .ok (.getfield 14, 3) := by decide +kernel
theorem dX11_isSender_9 : decode cX11_isSender 9 = .ok (.getfield 101, 3) := by decide +kernel
theorem dX11_isSender_12 : decode cX11_isSender 12 = .ok (.if_icmp .ge 19, 3) := by decide +kernel
theorem dX11_isSender_15 : decode cX11_isSender 15 = .ok (.aload_n 0, 1) := by decide +kernel
theorem dX11_isSender_16 : decode cX11_isSender 16 = .ok (.getfield 14, 3) := by decide +kernel
theorem dX11_isSender_19 : decode cX11_isSender 19 = .ok (.getfield 115, 3) := by decide +kernel
theorem dX11_isSender_22 : decode cX11_isSender 22 = .ok (.iload_n 1, 1) := by decide +kernel
theorem dX11_isSender_23 : decode cX11_isSender 23 = .ok (.aaload, 1) := by decide +kernel
theorem dX11_isSender_24 : decode cX11_isSender 24 = .ok (.ifnull 7, 3) := by decide +kernel
theorem dX11_isSender_27 : decode cX11_isSender 27 = .ok (.iconst 1, 1) := by decide +kernel
theorem dX11_isSender_28 : decode cX11_isSender 28 = .ok (.goto 4, 3) := by decide +kernel
theorem dX11_isSender_31 : decode cX11_isSender 31 = .ok (.iconst 0, 1) := by decide +kernel
theorem dX11_isSender_32 : decode cX11_isSender 32 = .ok (.ireturn, 1) := by decide +kernel
theorem dX11_apart_0 : decode cX11_apart 0 = .ok (.iload_n 0, 1) := by decide +kernel
theorem dX11_apart_1 : decode cX11_apart 1 = .ok (.iload_n 1, 1) := by decide +kernel
theorem dX11_apart_2 : decode cX11_apart 2 = .ok (.ixor, 1) := by decide +kernel
theorem dX11_apart_3 : decode cX11_apart 3 = .ok (.invokestatic 201, 3) := by decide +kernel
theorem dX11_apart_6 : decode cX11_apart 6 = .ok (.ireturn, 1) := by decide +kernel
theorem dX11_turned_0 : decode cX11_turned 0 = .ok (.iload_n 1, 1) := by decide +kernel
theorem dX11_turned_1 : decode cX11_turned 1 = .ok (.bipush 10, 2) := by decide +kernel
theorem dX11_turned_3 : decode cX11_turned 3 = .ok (.irem, 1) := by decide +kernel
theorem dX11_turned_4 : decode cX11_turned 4 = .ok (.istore_n 2, 1) := by decide +kernel
theorem dX11_turned_5 : decode cX11_turned 5 = .ok (.iload_n 0, 1) := by decide +kernel
theorem dX11_turned_6 : decode cX11_turned 6 = .ok (.iload_n 2, 1) := by decide +kernel
theorem dX11_turned_7 : decode cX11_turned 7 = .ok (.ishl, 1) := by decide +kernel
theorem dX11_turned_8 : decode cX11_turned 8 = .ok (.iload_n 0, 1) := by decide +kernel
theorem dX11_turned_9 : decode cX11_turned 9 = .ok (.bipush 10, 2) := by decide +kernel
theorem dX11_turned_11 : decode cX11_turned 11 = .ok (.iload_n 2, 1) := by decide +kernel
theorem dX11_turned_12 : decode cX11_turned 12 = .ok (.isub, 1) := by decide +kernel
theorem dX11_turned_13 : decode cX11_turned 13 = .ok (.ishr, 1) := by decide +kernel
theorem dX11_turned_14 : decode cX11_turned 14 = .ok (.ior, 1) := by decide +kernel
theorem dX11_turned_15 : decode cX11_turned 15 = .ok (.sipush 1023, 3) := by decide +kernel
theorem dX11_turned_18 : decode cX11_turned 18 = .ok (.iand, 1) := by decide +kernel
theorem dX11_turned_19 : decode cX11_turned 19 = .ok (.ireturn, 1) := by decide +kernel
theorem dX11_mirrored_0 : decode cX11_mirrored 0 = .ok (.iconst 0, 1) := by decide +kernel
theorem dX11_mirrored_1 : decode cX11_mirrored 1 = .ok (.istore_n 1, 1) := by decide +kernel
theorem dX11_mirrored_2 : decode cX11_mirrored 2 = .ok (.iconst 0, 1) := by decide +kernel
theorem dX11_mirrored_3 : decode cX11_mirrored 3 = .ok (.istore_n 2, 1) := by decide +kernel
theorem dX11_mirrored_4 : decode cX11_mirrored 4 = .ok (.iload_n 2, 1) := by decide +kernel
theorem dX11_mirrored_5 : decode cX11_mirrored 5 = .ok (.bipush 10, 2) := by decide +kernel
theorem dX11_mirrored_7 : decode cX11_mirrored 7 = .ok (.if_icmp .ge 26, 3) := by decide +kernel
theorem dX11_mirrored_10 : decode cX11_mirrored 10 = .ok (.iload_n 0, 1) := by decide +kernel
theorem dX11_mirrored_11 : decode cX11_mirrored 11 = .ok (.iconst 1, 1) := by decide +kernel
theorem dX11_mirrored_12 : decode cX11_mirrored 12 = .ok (.iload_n 2, 1) := by decide +kernel
theorem dX11_mirrored_13 : decode cX11_mirrored 13 = .ok (.ishl, 1) := by decide +kernel
theorem dX11_mirrored_14 : decode cX11_mirrored 14 = .ok (.iand, 1) := by decide +kernel
theorem dX11_mirrored_15 : decode cX11_mirrored 15 = .ok (.ifCond .eq 12, 3) := by decide +kernel
theorem dX11_mirrored_18 : decode cX11_mirrored 18 = .ok (.iload_n 1, 1) := by decide +kernel
theorem dX11_mirrored_19 : decode cX11_mirrored 19 = .ok (.iconst 1, 1) := by decide +kernel
theorem dX11_mirrored_20 : decode cX11_mirrored 20 = .ok (.bipush 9, 2) := by decide +kernel
theorem dX11_mirrored_22 : decode cX11_mirrored 22 = .ok (.iload_n 2, 1) := by decide +kernel
theorem dX11_mirrored_23 : decode cX11_mirrored 23 = .ok (.isub, 1) := by decide +kernel
theorem dX11_mirrored_24 : decode cX11_mirrored 24 = .ok (.ishl, 1) := by decide +kernel
theorem dX11_mirrored_25 : decode cX11_mirrored 25 = .ok (.ior, 1) := by decide +kernel
theorem dX11_mirrored_26 : decode cX11_mirrored 26 = .ok (.istore_n 1, 1) := by decide +kernel
theorem dX11_mirrored_27 : decode cX11_mirrored 27 = .ok (.iinc 2 1, 3) := by decide +kernel
theorem dX11_mirrored_30 : decode cX11_mirrored 30 = .ok (.goto (-26), 3) := by decide +kernel
theorem dX11_mirrored_33 : decode cX11_mirrored 33 = .ok (.iload_n 1, 1) := by decide +kernel
theorem dX11_mirrored_34 : decode cX11_mirrored 34 = .ok (.ireturn, 1) := by decide +kernel
theorem dX11_shownNow_0 : decode cX11_shownNow 0 = .ok (.aload_n 0, 1) := by decide +kernel
theorem dX11_shownNow_1 : decode cX11_shownNow 1 = .ok (.iload_n 1, 1) := by decide +kernel
theorem dX11_shownNow_2 : decode cX11_shownNow 2 = .ok (.aload_n 0, 1) := by decide +kernel
theorem dX11_shownNow_3 : decode cX11_shownNow 3 = .ok (.getfield 14, 3) := by decide +kernel
theorem dX11_shownNow_6 : decode cX11_shownNow 6 = .ok (.getfield 115, 3) := by decide +kernel
theorem dX11_shownNow_9 : decode cX11_shownNow 9 = .ok (.iload_n 1, 1) := by decide +kernel
theorem dX11_shownNow_10 : decode cX11_shownNow 10 = .ok (.aaload, 1) := by decide +kernel
theorem dX11_shownNow_11 : decode cX11_shownNow 11 = .ok (.getfield 124, 3) := by decide +kernel
theorem dX11_shownNow_14 : decode cX11_shownNow 14 = .ok (.aload_n 0, 1) := by decide +kernel
theorem dX11_shownNow_15 : decode cX11_shownNow 15 = .ok (.getfield 14, 3) := by decide +kernel
theorem dX11_shownNow_18 : decode cX11_shownNow 18 = .ok (.getfield 158, 3) := by decide +kernel
theorem dX11_shownNow_21 : decode cX11_shownNow 21 = .ok (.iload_n 2, 1) := by decide +kernel
theorem dX11_shownNow_22 : decode cX11_shownNow 22 = .ok (.invokevirtual 209, 3) := by decide +kernel
theorem dX11_shownNow_25 : decode cX11_shownNow 25 = .ok (.ireturn, 1) := by decide +kernel
theorem dX11_shown_0 : decode cX11_shown 0 = .ok (.aload_n 0, 1) := by decide +kernel
theorem dX11_shown_1 : decode cX11_shown 1 = .ok (.getfield 14, 3) := by decide +kernel
theorem dX11_shown_4 : decode cX11_shown 4 = .ok (.getfield 115, 3) := by decide +kernel
theorem dX11_shown_7 : decode cX11_shown 7 = .ok (.iload_n 1, 1) := by decide +kernel
theorem dX11_shown_8 : decode cX11_shown 8 = .ok (.aaload, 1) := by decide +kernel
theorem dX11_shown_9 : decode cX11_shown 9 = .ok (.astore 5, 2) := by decide +kernel
theorem dX11_shown_11 : decode cX11_shown 11 = .ok (.iload 4, 2) := by decide +kernel
theorem dX11_shown_13 : decode cX11_shown 13 = .ok (.istore 6, 2) := by decide +kernel
theorem dX11_shown_15 : decode cX11_shown 15 = .ok (.aload_n 0, 1) := by decide +kernel
theorem dX11_shown_16 : decode cX11_shown 16 = .ok (.getfield 14, 3) := by decide +kernel
theorem dX11_shown_19 : decode cX11_shown 19 = .ok (.getfield 155, 3) := by decide +kernel
theorem dX11_shown_22 : decode cX11_shown 22 = .ok (.ifnull 85, 3) := by decide +kernel
theorem dX11_shown_25 : decode cX11_shown 25 = .ok (.aload_n 0, 1) := by decide +kernel
theorem dX11_shown_26 : decode cX11_shown 26 = .ok (.getfield 58, 3) := by decide +kernel
theorem dX11_shown_29 : decode cX11_shown 29 = .ok (.iconst 0, 1) := by decide +kernel
theorem dX11_shown_30 : decode cX11_shown 30 = .ok (.iload_n 1, 1) := by decide +kernel
theorem dX11_shown_31 : decode cX11_shown 31 = .ok (.iastore, 1) := by decide +kernel
theorem dX11_shown_32 : decode cX11_shown 32 = .ok (.aload_n 0, 1) := by decide +kernel
theorem dX11_shown_33 : decode cX11_shown 33 = .ok (.getfield 58, 3) := by decide +kernel
theorem dX11_shown_36 : decode cX11_shown 36 = .ok (.iconst 1, 1) := by decide +kernel
theorem dX11_shown_37 : decode cX11_shown 37 = .ok (.aload 5, 2) := by decide +kernel
theorem dX11_shown_39 : decode cX11_shown 39 = .ok (.getfield 119, 3) := by decide +kernel
theorem dX11_shown_42 : decode cX11_shown 42 = .ok (.iastore, 1) := by decide +kernel
theorem dX11_shown_43 : decode cX11_shown 43 = .ok (.aload_n 0, 1) := by decide +kernel
theorem dX11_shown_44 : decode cX11_shown 44 = .ok (.getfield 58, 3) := by decide +kernel
theorem dX11_shown_47 : decode cX11_shown 47 = .ok (.iconst 2, 1) := by decide +kernel
theorem dX11_shown_48 : decode cX11_shown 48 = .ok (.iload_n 2, 1) := by decide +kernel
theorem dX11_shown_49 : decode cX11_shown 49 = .ok (.iastore, 1) := by decide +kernel
theorem dX11_shown_50 : decode cX11_shown 50 = .ok (.aload_n 0, 1) := by decide +kernel
theorem dX11_shown_51 : decode cX11_shown 51 = .ok (.getfield 58, 3) := by decide +kernel
theorem dX11_shown_54 : decode cX11_shown 54 = .ok (.iconst 3, 1) := by decide +kernel
theorem dX11_shown_55 : decode cX11_shown 55 = .ok (.iload 4, 2) := by decide +kernel
theorem dX11_shown_57 : decode cX11_shown 57 = .ok (.invokestatic 201, 3) := by decide +kernel
theorem dX11_shown_60 : decode cX11_shown 60 = .ok (.iastore, 1) := by decide +kernel
theorem dX11_shown_61 : decode cX11_shown 61 = .ok (.aload_n 0, 1) := by decide +kernel
theorem dX11_shown_62 : decode cX11_shown 62 = .ok (.getfield 58, 3) := by decide +kernel
theorem dX11_shown_65 : decode cX11_shown 65 = .ok (.iconst 4, 1) := by decide +kernel
theorem dX11_shown_66 : decode cX11_shown 66 = .ok (.aload_n 0, 1) := by decide +kernel
theorem dX11_shown_67 : decode cX11_shown 67 = .ok (.getfield 14, 3) := by decide +kernel
theorem dX11_shown_70 : decode cX11_shown 70 = .ok (.getfield 127, 3) := by decide +kernel
theorem dX11_shown_73 : decode cX11_shown 73 = .ok (.iload_n 1, 1) := by decide +kernel
theorem dX11_shown_74 : decode cX11_shown 74 = .ok (.iaload, 1) := by decide +kernel
theorem dX11_shown_75 : decode cX11_shown 75 = .ok (.bipush 10, 2) := by decide +kernel
theorem dX11_shown_77 : decode cX11_shown 77 = .ok (.irem, 1) := by decide +kernel
theorem dX11_shown_78 : decode cX11_shown 78 = .ok (.iastore, 1) := by decide +kernel
theorem dX11_shown_79 : decode cX11_shown 79 = .ok (.aload_n 0, 1) := by decide +kernel
theorem dX11_shown_80 : decode cX11_shown 80 = .ok (.getfield 58, 3) := by decide +kernel
theorem dX11_shown_83 : decode cX11_shown 83 = .ok (.iconst 5, 1) := by decide +kernel
theorem dX11_shown_84 : decode cX11_shown 84 = .ok (.iload_n 3, 1) := by decide +kernel
theorem dX11_shown_85 : decode cX11_shown 85 = .ok (.bipush 24, 2) := by decide +kernel
theorem dX11_shown_87 : decode cX11_shown 87 = .ok (.irem, 1) := by decide +kernel
theorem dX11_shown_88 : decode cX11_shown 88 = .ok (.iastore, 1) := by decide +kernel
theorem dX11_shown_89 : decode cX11_shown 89 = .ok (.aload_n 0, 1) := by decide +kernel
theorem dX11_shown_90 : decode cX11_shown 90 = .ok (.getfield 14, 3) := by decide +kernel
theorem dX11_shown_93 : decode cX11_shown 93 = .ok (.getfield 155, 3) := by decide +kernel
theorem dX11_shown_96 : decode cX11_shown 96 = .ok (.iload 4, 2) := by decide +kernel
theorem dX11_shown_98 : decode cX11_shown 98 = .ok (.aload_n 0, 1) := by decide +kernel
theorem dX11_shown_99 : decode cX11_shown 99 = .ok (.getfield 58, 3) := by decide +kernel
theorem dX11_shown_102 : decode cX11_shown 102 = .ok (.invokevirtual 273, 3) := by decide +kernel
theorem dX11_shown_105 : decode cX11_shown 105 = .ok (.istore 6, 2) := by decide +kernel
theorem dX11_shown_107 : decode cX11_shown 107 = .ok (.aload 5, 2) := by decide +kernel
theorem dX11_shown_109 : decode cX11_shown 109 = .ok (.iload 6, 2) := by decide +kernel
theorem dX11_shown_111 : decode cX11_shown 111 = .ok (.iload_n 2, 1) := by decide +kernel
theorem dX11_shown_112 : decode cX11_shown 112 = .ok (.iload_n 3, 1) := by decide +kernel
theorem dX11_shown_113 : decode cX11_shown 113 = .ok (.aload_n 0, 1) := by decide +kernel
theorem dX11_shown_114 : decode cX11_shown 114 = .ok (.getfield 14, 3) := by decide +kernel
theorem dX11_shown_117 : decode cX11_shown 117 = .ok (.getfield 145, 3) := by decide +kernel
theorem dX11_shown_120 : decode cX11_shown 120 = .ok (.iload_n 1, 1) := by decide +kernel
theorem dX11_shown_121 : decode cX11_shown 121 = .ok (.iconst 4, 1) := by decide +kernel
theorem dX11_shown_122 : decode cX11_shown 122 = .ok (.imul, 1) := by decide +kernel
theorem dX11_shown_123 : decode cX11_shown 123 = .ok (.iload_n 3, 1) := by decide +kernel
theorem dX11_shown_124 : decode cX11_shown 124 = .ok (.iconst 4, 1) := by decide +kernel
theorem dX11_shown_125 : decode cX11_shown 125 = .ok (.irem, 1) := by decide +kernel
theorem dX11_shown_126 : decode cX11_shown 126 = .ok (.iadd, 1) := by decide +kernel
theorem dX11_shown_127 : decode cX11_shown 127 = .ok (.iaload, 1) := by decide +kernel
theorem dX11_shown_128 : decode cX11_shown 128 = .ok (.invokevirtual 277, 3) := by decide +kernel
theorem dX11_shown_131 : decode cX11_shown 131 = .ok (.ireturn, 1) := by decide +kernel
theorem dX11_near_0 : decode cX11_near 0 = .ok (.aload_n 0, 1) := by decide +kernel
theorem dX11_near_1 : decode cX11_near 1 = .ok (.getfield 14, 3) := by decide +kernel
theorem dX11_near_4 : decode cX11_near 4 = .ok (.getfield 155, 3) := by decide +kernel
theorem dX11_near_7 : decode cX11_near 7 = .ok (.ifnonnull 7, 3) := by decide +kernel
theorem dX11_near_10 : decode cX11_near 10 = .ok (.iconst 2, 1) := by decide +kernel
theorem dX11_near_11 : decode cX11_near 11 = .ok (.goto 13, 3) := by decide +kernel
theorem dX11_near_14 : decode cX11_near 14 = .ok (.aload_n 0, 1) := by decide +kernel
theorem dX11_near_15 : decode cX11_near 15 = .ok (.getfield 14, 3) := by decide +kernel
theorem dX11_near_18 : decode cX11_near 18 = .ok (.getfield 155, 3) := by decide +kernel
theorem dX11_near_21 : decode cX11_near 21 = .ok (.getfield 280, 3) := by decide +kernel
theorem dX11_near_24 : decode cX11_near 24 = .ok (.ireturn, 1) := by decide +kernel
theorem dX11_readAs_0 : decode cX11_readAs 0 = .ok (.bipush (-5), 2) := by decide +kernel
theorem dX11_readAs_2 : decode cX11_readAs 2 = .ok (.istore_n 2, 1) := by decide +kernel
theorem dX11_readAs_3 : decode cX11_readAs 3 = .ok (.aload_n 0, 1) := by decide +kernel
theorem dX11_readAs_4 : decode cX11_readAs 4 = .ok (.invokevirtual 161, 3) := by decide +kernel
theorem dX11_readAs_7 : decode cX11_readAs 7 = .ok (.iconst 1, 1) := by decide +kernel
theorem dX11_readAs_8 : decode cX11_readAs 8 = .ok (.iadd, 1) := by decide +kernel
theorem dX11_readAs_9 : decode cX11_readAs 9 = .ok (.istore_n 3, 1) := by decide +kernel
theorem dX11_readAs_10 : decode cX11_readAs 10 = .ok (.iconst 0, 1) := by decide +kernel
theorem dX11_readAs_11 : decode cX11_readAs 11 = .ok (.istore 4, 2) := by decide +kernel
theorem dX11_readAs_13 : decode cX11_readAs 13 = .ok (.iload 4, 2) := by decide +kernel
theorem dX11_readAs_15 : decode cX11_readAs 15 = .ok (.aload_n 0, 1) := by decide +kernel
theorem dX11_readAs_16 : decode cX11_readAs 16 = .ok (.getfield 14, 3) := by decide +kernel
theorem dX11_readAs_19 : decode cX11_readAs 19 = .ok (.getfield 77, 3) := by decide +kernel
theorem dX11_readAs_22 : decode cX11_readAs 22 = .ok (.getfield 179, 3) := by decide +kernel
theorem dX11_readAs_25 : decode cX11_readAs 25 = .ok (.if_icmp .ge 39, 3) := by decide +kernel
theorem dX11_readAs_28 : decode cX11_readAs 28 = .ok (.iload_n 1, 1) := by decide +kernel
theorem dX11_readAs_29 : decode cX11_readAs 29 = .ok (.aload_n 0, 1) := by decide +kernel
theorem dX11_readAs_30 : decode cX11_readAs 30 = .ok (.getfield 14, 3) := by decide +kernel
theorem dX11_readAs_33 : decode cX11_readAs 33 = .ok (.getfield 77, 3) := by decide +kernel
theorem dX11_readAs_36 : decode cX11_readAs 36 = .ok (.iload 4, 2) := by decide +kernel
theorem dX11_readAs_38 : decode cX11_readAs 38 = .ok (.invokevirtual 91, 3) := by decide +kernel
theorem dX11_readAs_41 : decode cX11_readAs 41 = .ok (.invokestatic 282, 3) := by decide +kernel
theorem dX11_readAs_44 : decode cX11_readAs 44 = .ok (.istore 5, 2) := by decide +kernel
theorem dX11_readAs_46 : decode cX11_readAs 46 = .ok (.iload 5, 2) := by decide +kernel
theorem dX11_readAs_48 : decode cX11_readAs 48 = .ok (.iload_n 3, 1) := by decide +kernel
theorem dX11_readAs_49 : decode cX11_readAs 49 = .ok (.if_icmp .ge 9, 3) := by decide +kernel
theorem dX11_readAs_52 : decode cX11_readAs 52 = .ok (.iload 5, 2) := by decide +kernel
theorem dX11_readAs_54 : decode cX11_readAs 54 = .ok (.istore_n 3, 1) := by decide +kernel
theorem dX11_readAs_55 : decode cX11_readAs 55 = .ok (.iload 4, 2) := by decide +kernel
theorem dX11_readAs_57 : decode cX11_readAs 57 = .ok (.istore_n 2, 1) := by decide +kernel
theorem dX11_readAs_58 : decode cX11_readAs 58 = .ok (.iinc 4 1, 3) := by decide +kernel
theorem dX11_readAs_61 : decode cX11_readAs 61 = .ok (.goto (-48), 3) := by decide +kernel
theorem dX11_readAs_64 : decode cX11_readAs 64 = .ok (.iload_n 2, 1) := by decide +kernel
theorem dX11_readAs_65 : decode cX11_readAs 65 = .ok (.ireturn, 1) := by decide +kernel
theorem dX11_comes_0 : decode cX11_comes 0 = .ok (.aload_n 0, 1) := by decide +kernel
theorem dX11_comes_1 : decode cX11_comes 1 = .ok (.aload_n 0, 1) := by decide +kernel
theorem dX11_comes_2 : decode cX11_comes 2 = .ok (.iload_n 1, 1) := by decide +kernel
theorem dX11_comes_3 : decode cX11_comes 3 = .ok (.aload_n 0, 1) := by decide +kernel
theorem dX11_comes_4 : decode cX11_comes 4 = .ok (.getfield 14, 3) := by decide +kernel
theorem dX11_comes_7 : decode cX11_comes 7 = .ok (.getfield 115, 3) := by decide +kernel
theorem dX11_comes_10 : decode cX11_comes 10 = .ok (.iload_n 1, 1) := by decide +kernel
theorem dX11_comes_11 : decode cX11_comes 11 = .ok (.aaload, 1) := by decide +kernel
theorem dX11_comes_12 : decode cX11_comes 12 = .ok (.getfield 124, 3) := by decide +kernel
theorem dX11_comes_15 : decode cX11_comes 15 = .ok (.iload_n 3, 1) := by decide +kernel
theorem dX11_comes_16 : decode cX11_comes 16 = .ok (.aload_n 0, 1) := by decide +kernel
theorem dX11_comes_17 : decode cX11_comes 17 = .ok (.getfield 14, 3) := by decide +kernel
theorem dX11_comes_20 : decode cX11_comes 20 = .ok (.getfield 77, 3) := by decide +kernel
theorem dX11_comes_23 : decode cX11_comes 23 = .ok (.iload_n 2, 1) := by decide +kernel
theorem dX11_comes_24 : decode cX11_comes 24 = .ok (.invokevirtual 91, 3) := by decide +kernel
theorem dX11_comes_27 : decode cX11_comes 27 = .ok (.invokevirtual 209, 3) := by decide +kernel
theorem dX11_comes_30 : decode cX11_comes 30 = .ok (.invokevirtual 140, 3) := by decide +kernel
theorem dX11_comes_33 : decode cX11_comes 33 = .ok (.iload_n 2, 1) := by decide +kernel
theorem dX11_comes_34 : decode cX11_comes 34 = .ok (.if_icmp .ne 7, 3) := by decide +kernel
theorem dX11_comes_37 : decode cX11_comes 37 = .ok (.iconst 1, 1) := by decide +kernel
theorem dX11_comes_38 : decode cX11_comes 38 = .ok (.goto 4, 3) := by decide +kernel
theorem dX11_comes_41 : decode cX11_comes 41 = .ok (.iconst 0, 1) := by decide +kernel
theorem dX11_comes_42 : decode cX11_comes 42 = .ok (.ireturn, 1) := by decide +kernel
theorem dX11_wordsThrough_0 : decode cX11_wordsThrough 0 = .ok (.iconst 0, 1) := by decide +kernel
theorem dX11_wordsThrough_1 : decode cX11_wordsThrough 1 = .ok (.istore_n 2, 1) := by decide +kernel
theorem dX11_wordsThrough_2 : decode cX11_wordsThrough 2 = .ok (.iconst 0, 1) := by decide +kernel
theorem dX11_wordsThrough_3 : decode cX11_wordsThrough 3 = .ok (.istore_n 3, 1) := by decide +kernel
theorem dX11_wordsThrough_4 : decode cX11_wordsThrough 4 = .ok (.iload_n 3, 1) := by decide +kernel
theorem dX11_wordsThrough_5 : decode cX11_wordsThrough 5 = .ok (.aload_n 0, 1) := by decide +kernel
theorem dX11_wordsThrough_6 : decode cX11_wordsThrough 6 = .ok (.getfield 14, 3) := by decide +kernel
theorem dX11_wordsThrough_9 : decode cX11_wordsThrough 9 = .ok (.getfield 77, 3) := by decide +kernel
theorem dX11_wordsThrough_12 : decode cX11_wordsThrough 12 = .ok (.getfield 179, 3) := by decide +kernel
theorem dX11_wordsThrough_15 : decode cX11_wordsThrough 15 = .ok (.if_icmp .ge 31, 3) := by decide +kernel
theorem dX11_wordsThrough_18 : decode cX11_wordsThrough 18 = .ok (.aload_n 0, 1) := by decide +kernel
theorem dX11_wordsThrough_19 : decode cX11_wordsThrough 19 = .ok (.iload_n 1, 1) := by decide +kernel
theorem dX11_wordsThrough_20 : decode cX11_wordsThrough 20 = .ok (.iload_n 3, 1) := by decide +kernel
theorem dX11_wordsThrough_21 : decode cX11_wordsThrough 21 = .ok (.aload_n 0, 1) := by decide +kernel
theorem dX11_wordsThrough_22 : decode cX11_wordsThrough 22 = .ok (.getfield 14, 3) := by decide +kernel
theorem dX11_wordsThrough_25 : decode cX11_wordsThrough 25 = .ok (.getfield 158, 3) := by decide +kernel
theorem dX11_wordsThrough_28 : decode cX11_wordsThrough 28 = .ok (.invokevirtual 175, 3) := by decide +kernel
theorem dX11_wordsThrough_31 : decode cX11_wordsThrough 31 = .ok (.ifCond .eq 9, 3) := by decide +kernel
theorem dX11_wordsThrough_34 : decode cX11_wordsThrough 34 = .ok (.iload_n 2, 1) := by decide +kernel
theorem dX11_wordsThrough_35 : decode cX11_wordsThrough 35 = .ok (.iconst 1, 1) := by decide +kernel
theorem dX11_wordsThrough_36 : decode cX11_wordsThrough 36 = .ok (.iload_n 3, 1) := by decide +kernel
theorem dX11_wordsThrough_37 : decode cX11_wordsThrough 37 = .ok (.ishl, 1) := by decide +kernel
theorem dX11_wordsThrough_38 : decode cX11_wordsThrough 38 = .ok (.ior, 1) := by decide +kernel
theorem dX11_wordsThrough_39 : decode cX11_wordsThrough 39 = .ok (.istore_n 2, 1) := by decide +kernel
theorem dX11_wordsThrough_40 : decode cX11_wordsThrough 40 = .ok (.iinc 3 1, 3) := by decide +kernel
theorem dX11_wordsThrough_43 : decode cX11_wordsThrough 43 = .ok (.goto (-39), 3) := by decide +kernel
theorem dX11_wordsThrough_46 : decode cX11_wordsThrough 46 = .ok (.iload_n 2, 1) := by decide +kernel
theorem dX11_wordsThrough_47 : decode cX11_wordsThrough 47 = .ok (.ireturn, 1) := by decide +kernel
theorem dX11_unlikeSigns_0 : decode cX11_unlikeSigns 0 = .ok (.iconst 0, 1) := by decide +kernel
theorem dX11_unlikeSigns_1 : decode cX11_unlikeSigns 1 = .ok (.istore_n 2, 1) := by decide +kernel
theorem dX11_unlikeSigns_2 : decode cX11_unlikeSigns 2 = .ok (.iload_n 2, 1) := by decide +kernel
theorem dX11_unlikeSigns_3 : decode cX11_unlikeSigns 3 = .ok (.aload_n 0, 1) := by decide +kernel
theorem dX11_unlikeSigns_4 : decode cX11_unlikeSigns 4 = .ok (.getfield 62, 3) := by decide +kernel
theorem dX11_unlikeSigns_7 : decode cX11_unlikeSigns 7 = .ok (.arraylength, 1) := by decide +kernel
theorem dX11_unlikeSigns_8 : decode cX11_unlikeSigns 8 = .ok (.if_icmp .ge 16, 3) := by decide +kernel
theorem dX11_unlikeSigns_11 : decode cX11_unlikeSigns 11 = .ok (.aload_n 0, 1) := by decide +kernel
theorem dX11_unlikeSigns_12 : decode cX11_unlikeSigns 12 = .ok (.getfield 62, 3) := by decide +kernel
theorem dX11_unlikeSigns_15 : decode cX11_unlikeSigns 15 = .ok (.iload_n 2, 1) := by decide +kernel
theorem dX11_unlikeSigns_16 : decode cX11_unlikeSigns 16 = .ok (.lconst 0, 1) := by decide +kernel
theorem dX11_unlikeSigns_17 : decode cX11_unlikeSigns 17 = .ok (.lastore, 1) := by decide +kernel
theorem dX11_unlikeSigns_18 : decode cX11_unlikeSigns 18 = .ok (.iinc 2 1, 3) := by decide +kernel
theorem dX11_unlikeSigns_21 : decode cX11_unlikeSigns 21 = .ok (.goto (-19), 3) := by decide +kernel
theorem dX11_unlikeSigns_24 : decode cX11_unlikeSigns 24 = .ok (.iconst 0, 1) := by decide +kernel
theorem dX11_unlikeSigns_25 : decode cX11_unlikeSigns 25 = .ok (.istore_n 2, 1) := by decide +kernel
theorem dX11_unlikeSigns_26 : decode cX11_unlikeSigns 26 = .ok (.iload_n 2, 1) := by decide +kernel
theorem dX11_unlikeSigns_27 : decode cX11_unlikeSigns 27 = .ok (.sipush 1024, 3) := by decide +kernel
theorem dX11_unlikeSigns_30 : decode cX11_unlikeSigns 30 = .ok (.if_icmp .ge 34, 3) := by decide +kernel
theorem dX11_unlikeSigns_33 : decode cX11_unlikeSigns 33 = .ok (.aload_n 0, 1) := by decide +kernel
theorem dX11_unlikeSigns_34 : decode cX11_unlikeSigns 34 = .ok (.iload_n 1, 1) := by decide +kernel
theorem dX11_unlikeSigns_35 : decode cX11_unlikeSigns 35 = .ok (.iload_n 2, 1) := by decide +kernel
theorem dX11_unlikeSigns_36 : decode cX11_unlikeSigns 36 = .ok (.invokevirtual 136, 3) := by decide +kernel
theorem dX11_unlikeSigns_39 : decode cX11_unlikeSigns 39 = .ok (.istore_n 3, 1) := by decide +kernel
theorem dX11_unlikeSigns_40 : decode cX11_unlikeSigns 40 = .ok (.aload_n 0, 1) := by decide +kernel
theorem dX11_unlikeSigns_41 : decode cX11_unlikeSigns 41 = .ok (.getfield 62, 3) := by decide +kernel
theorem dX11_unlikeSigns_44 : decode cX11_unlikeSigns 44 = .ok (.iload_n 3, 1) := by decide +kernel
theorem dX11_unlikeSigns_45 : decode cX11_unlikeSigns 45 = .ok (.bipush 64, 2) := by decide +kernel
theorem dX11_unlikeSigns_47 : decode cX11_unlikeSigns 47 = .ok (.idiv, 1) := by decide +kernel
theorem dX11_unlikeSigns_48 : decode cX11_unlikeSigns 48 = .ok (.dup2, 1) := by decide +kernel
theorem dX11_unlikeSigns_49 : decode cX11_unlikeSigns 49 = .ok (.laload, 1) := by decide +kernel
theorem dX11_unlikeSigns_50 : decode cX11_unlikeSigns 50 = .ok (.lconst 1, 1) := by decide +kernel
theorem dX11_unlikeSigns_51 : decode cX11_unlikeSigns 51 = .ok (.iload_n 3, 1) := by decide +kernel
theorem dX11_unlikeSigns_52 : decode cX11_unlikeSigns 52 = .ok (.bipush 64, 2) := by decide +kernel
theorem dX11_unlikeSigns_54 : decode cX11_unlikeSigns 54 = .ok (.irem, 1) := by decide +kernel
theorem dX11_unlikeSigns_55 : decode cX11_unlikeSigns 55 = .ok (.lshl, 1) := by decide +kernel
theorem dX11_unlikeSigns_56 : decode cX11_unlikeSigns 56 = .ok (.lor, 1) := by decide +kernel
theorem dX11_unlikeSigns_57 : decode cX11_unlikeSigns 57 = .ok (.lastore, 1) := by decide +kernel
theorem dX11_unlikeSigns_58 : decode cX11_unlikeSigns 58 = .ok (.iinc 2 1, 3) := by decide +kernel
theorem dX11_unlikeSigns_61 : decode cX11_unlikeSigns 61 = .ok (.goto (-35), 3) := by decide +kernel
theorem dX11_unlikeSigns_64 : decode cX11_unlikeSigns 64 = .ok (.iconst 0, 1) := by decide +kernel
theorem dX11_unlikeSigns_65 : decode cX11_unlikeSigns 65 = .ok (.istore_n 2, 1) := by decide +kernel
theorem dX11_unlikeSigns_66 : decode cX11_unlikeSigns 66 = .ok (.iconst 0, 1) := by decide +kernel
theorem dX11_unlikeSigns_67 : decode cX11_unlikeSigns 67 = .ok (.istore_n 3, 1) := by decide +kernel
theorem dX11_unlikeSigns_68 : decode cX11_unlikeSigns 68 = .ok (.iload_n 3, 1) := by decide +kernel
theorem dX11_unlikeSigns_69 : decode cX11_unlikeSigns 69 = .ok (.aload_n 0, 1) := by decide +kernel
theorem dX11_unlikeSigns_70 : decode cX11_unlikeSigns 70 = .ok (.getfield 62, 3) := by decide +kernel
theorem dX11_unlikeSigns_73 : decode cX11_unlikeSigns 73 = .ok (.arraylength, 1) := by decide +kernel
theorem dX11_unlikeSigns_74 : decode cX11_unlikeSigns 74 = .ok (.if_icmp .ge 21, 3) := by decide +kernel
theorem dX11_unlikeSigns_77 : decode cX11_unlikeSigns 77 = .ok (.iload_n 2, 1) := by decide +kernel
theorem dX11_unlikeSigns_78 : decode cX11_unlikeSigns 78 = .ok (.aload_n 0, 1) := by decide +kernel
theorem dX11_unlikeSigns_79 : decode cX11_unlikeSigns 79 = .ok (.getfield 62, 3) := by decide +kernel
theorem dX11_unlikeSigns_82 : decode cX11_unlikeSigns 82 = .ok (.iload_n 3, 1) := by decide +kernel
theorem dX11_unlikeSigns_83 : decode cX11_unlikeSigns 83 = .ok (.laload, 1) := by decide +kernel
theorem dX11_unlikeSigns_84 : decode cX11_unlikeSigns 84 = .ok (.invokestatic 285, 3) := by decide +kernel
theorem dX11_unlikeSigns_87 : decode cX11_unlikeSigns 87 = .ok (.iadd, 1) := by decide +kernel
theorem dX11_unlikeSigns_88 : decode cX11_unlikeSigns 88 = .ok (.istore_n 2, 1) := by decide +kernel
theorem dX11_unlikeSigns_89 : decode cX11_unlikeSigns 89 = .ok (.iinc 3 1, 3) := by decide +kernel
theorem dX11_unlikeSigns_92 : decode cX11_unlikeSigns 92 = .ok (.goto (-24), 3) := by decide +kernel
theorem dX11_unlikeSigns_95 : decode cX11_unlikeSigns 95 = .ok (.iload_n 2, 1) := by decide +kernel
theorem dX11_unlikeSigns_96 : decode cX11_unlikeSigns 96 = .ok (.ireturn, 1) := by decide +kernel
theorem dX11_closestWords_0 : decode cX11_closestWords 0 = .ok (.bipush 11, 2) := by decide +kernel
theorem dX11_closestWords_2 : decode cX11_closestWords 2 = .ok (.istore_n 2, 1) := by decide +kernel
theorem dX11_closestWords_3 : decode cX11_closestWords 3 = .ok (.bipush (-5), 2) := by decide +kernel
theorem dX11_closestWords_5 : decode cX11_closestWords 5 = .ok (.istore_n 3, 1) := by decide +kernel
theorem dX11_closestWords_6 : decode cX11_closestWords 6 = .ok (.iconst 0, 1) := by decide +kernel
theorem dX11_closestWords_7 : decode cX11_closestWords 7 = .ok (.istore 4, 2) := by decide +kernel
theorem dX11_closestWords_9 : decode cX11_closestWords 9 = .ok (.iload 4, 2) := by decide +kernel
theorem dX11_closestWords_11 : decode cX11_closestWords 11 = .ok (.aload_n 0, 1) := by decide +kernel
theorem dX11_closestWords_12 : decode cX11_closestWords 12 = .ok (.getfield 14, 3) := by decide +kernel
theorem dX11_closestWords_15 : decode cX11_closestWords 15 = .ok (.getfield 77, 3) := by decide +kernel
theorem dX11_closestWords_18 : decode cX11_closestWords 18 = .ok (.getfield 179, 3) := by decide +kernel
theorem dX11_closestWords_21 : decode cX11_closestWords 21 = .ok (.if_icmp .ge 83, 3) := by decide +kernel
theorem dX11_closestWords_24 : decode cX11_closestWords 24 = .ok (.iload 4, 2) := by decide +kernel
theorem dX11_closestWords_26 : decode cX11_closestWords 26 = .ok (.iconst 1, 1) := by decide +kernel
theorem dX11_closestWords_27 : decode cX11_closestWords 27 = .ok (.iadd, 1) := by decide +kernel
theorem dX11_closestWords_28 : decode cX11_closestWords 28 = .ok (.istore 5, 2) := by decide +kernel
theorem dX11_closestWords_30 : decode cX11_closestWords 30 = .ok (.iload 5, 2) := by decide +kernel
theorem dX11_closestWords_32 : decode cX11_closestWords 32 = .ok (.aload_n 0, 1) := by decide +kernel
theorem dX11_closestWords_33 : decode cX11_closestWords 33 = .ok (.getfield 14, 3) := by decide +kernel
theorem dX11_closestWords_36 : decode cX11_closestWords 36 = .ok (.getfield 77, 3) := by decide +kernel
theorem dX11_closestWords_39 : decode cX11_closestWords 39 = .ok (.getfield 179, 3) := by decide +kernel
theorem dX11_closestWords_42 : decode cX11_closestWords 42 = .ok (.if_icmp .ge 56, 3) := by decide +kernel
theorem dX11_closestWords_45 : decode cX11_closestWords 45 = .ok (.aload_n 0, 1) := by decide +kernel
theorem dX11_closestWords_46 : decode cX11_closestWords 46 = .ok (.getfield 14, 3) := by decide +kernel
theorem dX11_closestWords_49 : decode cX11_closestWords 49 = .ok (.getfield 77, 3) := by decide +kernel
theorem dX11_closestWords_52 : decode cX11_closestWords 52 = .ok (.iload 4, 2) := by decide +kernel
theorem dX11_closestWords_54 : decode cX11_closestWords 54 = .ok (.invokevirtual 91, 3) := by decide +kernel
theorem dX11_closestWords_57 : decode cX11_closestWords 57 = .ok (.aload_n 0, 1) := by decide +kernel
theorem dX11_closestWords_58 : decode cX11_closestWords 58 = .ok (.getfield 14, 3) := by decide +kernel
theorem dX11_closestWords_61 : decode cX11_closestWords 61 = .ok (.getfield 77, 3) := by decide +kernel
theorem dX11_closestWords_64 : decode cX11_closestWords 64 = .ok (.iload 5, 2) := by decide +kernel
theorem dX11_closestWords_66 : decode cX11_closestWords 66 = .ok (.invokevirtual 91, 3) := by decide +kernel
theorem dX11_closestWords_69 : decode cX11_closestWords 69 = .ok (.invokestatic 282, 3) := by decide +kernel
theorem dX11_closestWords_72 : decode cX11_closestWords 72 = .ok (.istore 6, 2) := by decide +kernel
theorem dX11_closestWords_74 : decode cX11_closestWords 74 = .ok (.iload 6, 2) := by decide +kernel
theorem dX11_closestWords_76 : decode cX11_closestWords 76 = .ok (.iload_n 2, 1) := by decide +kernel
theorem dX11_closestWords_77 : decode cX11_closestWords 77 = .ok (.if_icmp .ge 15, 3) := by decide +kernel
theorem dX11_closestWords_80 : decode cX11_closestWords 80 = .ok (.iload 6, 2) := by decide +kernel
theorem dX11_closestWords_82 : decode cX11_closestWords 82 = .ok (.istore_n 2, 1) := by decide +kernel
theorem dX11_closestWords_83 : decode cX11_closestWords 83 = .ok (.bipush 10, 2) := by decide +kernel
theorem dX11_closestWords_85 : decode cX11_closestWords 85 = .ok (.iload 4, 2) := by decide +kernel
theorem dX11_closestWords_87 : decode cX11_closestWords 87 = .ok (.imul, 1) := by decide +kernel
theorem dX11_closestWords_88 : decode cX11_closestWords 88 = .ok (.iload 5, 2) := by decide +kernel
theorem dX11_closestWords_90 : decode cX11_closestWords 90 = .ok (.iadd, 1) := by decide +kernel
theorem dX11_closestWords_91 : decode cX11_closestWords 91 = .ok (.istore_n 3, 1) := by decide +kernel
theorem dX11_closestWords_92 : decode cX11_closestWords 92 = .ok (.iinc 5 1, 3) := by decide +kernel
theorem dX11_closestWords_95 : decode cX11_closestWords 95 = .ok (.goto (-65), 3) := by decide +kernel
theorem dX11_closestWords_98 : decode cX11_closestWords 98 = .ok (.iinc 4 1, 3) := by decide +kernel
theorem dX11_closestWords_101 : decode cX11_closestWords 101 = .ok (.goto (-92), 3) := by decide +kernel
theorem dX11_closestWords_104 : decode cX11_closestWords 104 = .ok (.iload_n 1, 1) := by decide +kernel
theorem dX11_closestWords_105 : decode cX11_closestWords 105 = .ok (.ifCond .ne 9, 3) := by decide +kernel
theorem dX11_closestWords_108 : decode cX11_closestWords 108 = .ok (.iload_n 3, 1) := by decide +kernel
theorem dX11_closestWords_109 : decode cX11_closestWords 109 = .ok (.bipush (-5), 2) := by decide +kernel
theorem dX11_closestWords_111 : decode cX11_closestWords 111 = .ok (.if_icmp .ne 7, 3) := by decide +kernel
theorem dX11_closestWords_114 : decode cX11_closestWords 114 = .ok (.iload_n 3, 1) := by decide +kernel
theorem dX11_closestWords_115 : decode cX11_closestWords 115 = .ok (.goto 4, 3) := by decide +kernel
theorem dX11_closestWords_118 : decode cX11_closestWords 118 = .ok (.iload_n 2, 1) := by decide +kernel
theorem dX11_closestWords_119 : decode cX11_closestWords 119 = .ok (.ireturn, 1) := by decide +kernel
theorem dX11_newSign_0 : decode cX11_newSign 0 = .ok (.aload_n 0, 1) := by decide +kernel
theorem dX11_newSign_1 : decode cX11_newSign 1 = .ok (.getfield 14, 3) := by decide +kernel
theorem dX11_newSign_4 : decode cX11_newSign 4 = .ok (.getfield 77, 3) := by decide +kernel
theorem dX11_newSign_7 : decode cX11_newSign 7 = .ok (.getfield 179, 3) := by decide +kernel
theorem dX11_newSign_10 : decode cX11_newSign 10 = .ok (.ifCond .ne 14, 3) := by decide +kernel
theorem dX11_newSign_13 : decode cX11_newSign 13 = .ok (.iload_n 1, 1) := by decide +kernel
theorem dX11_newSign_14 : decode cX11_newSign 14 = .ok (.ifCond .eq 8, 3) := by decide +kernel
theorem dX11_newSign_17 : decode cX11_newSign 17 = .ok (.bipush (-5), 2) := by decide +kernel
theorem dX11_newSign_19 : decode cX11_newSign 19 = .ok (.goto 4, 3) := by decide +kernel
theorem dX11_newSign_22 : decode cX11_newSign 22 = .ok (.iconst 0, 1) := by decide +kernel
theorem dX11_newSign_23 : decode cX11_newSign 23 = .ok (.ireturn, 1) := by decide +kernel
theorem dX11_newSign_24 : decode cX11_newSign 24 = .ok (.iconst (-1), 1) := by decide +kernel
theorem dX11_newSign_25 : decode cX11_newSign 25 = .ok (.istore_n 2, 1) := by decide +kernel
theorem dX11_newSign_26 : decode cX11_newSign 26 = .ok (.iconst 0, 1) := by decide +kernel
theorem dX11_newSign_27 : decode cX11_newSign 27 = .ok (.istore_n 3, 1) := by decide +kernel
theorem dX11_newSign_28 : decode cX11_newSign 28 = .ok (.iconst 0, 1) := by decide +kernel
theorem dX11_newSign_29 : decode cX11_newSign 29 = .ok (.istore 4, 2) := by decide +kernel
theorem dX11_newSign_31 : decode cX11_newSign 31 = .ok (.iload 4, 2) := by decide +kernel
theorem dX11_newSign_33 : decode cX11_newSign 33 = .ok (.sipush 1024, 3) := by decide +kernel
theorem dX11_newSign_36 : decode cX11_newSign 36 = .ok (.if_icmp .ge 29, 3) := by decide +kernel
theorem dX11_newSign_39 : decode cX11_newSign 39 = .ok (.aload_n 0, 1) := by decide +kernel
theorem dX11_newSign_40 : decode cX11_newSign 40 = .ok (.iload 4, 2) := by decide +kernel
theorem dX11_newSign_42 : decode cX11_newSign 42 = .ok (.invokevirtual 288, 3) := by decide +kernel
theorem dX11_newSign_45 : decode cX11_newSign 45 = .ok (.istore 5, 2) := by decide +kernel
theorem dX11_newSign_47 : decode cX11_newSign 47 = .ok (.iload 5, 2) := by decide +kernel
theorem dX11_newSign_49 : decode cX11_newSign 49 = .ok (.iload_n 2, 1) := by decide +kernel
theorem dX11_newSign_50 : decode cX11_newSign 50 = .ok (.if_icmp .le 9, 3) := by decide +kernel
theorem dX11_newSign_53 : decode cX11_newSign 53 = .ok (.iload 5, 2) := by decide +kernel
theorem dX11_newSign_55 : decode cX11_newSign 55 = .ok (.istore_n 2, 1) := by decide +kernel
theorem dX11_newSign_56 : decode cX11_newSign 56 = .ok (.iload 4, 2) := by decide +kernel
theorem dX11_newSign_58 : decode cX11_newSign 58 = .ok (.istore_n 3, 1) := by decide +kernel
theorem dX11_newSign_59 : decode cX11_newSign 59 = .ok (.iinc 4 1, 3) := by decide +kernel
theorem dX11_newSign_62 : decode cX11_newSign 62 = .ok (.goto (-31), 3) := by decide +kernel
theorem dX11_newSign_65 : decode cX11_newSign 65 = .ok (.iload_n 1, 1) := by decide +kernel
theorem dX11_newSign_66 : decode cX11_newSign 66 = .ok (.ifCond .eq 7, 3) := by decide +kernel
theorem dX11_newSign_69 : decode cX11_newSign 69 = .ok (.iload_n 2, 1) := by decide +kernel
theorem dX11_newSign_70 : decode cX11_newSign 70 = .ok (.goto 4, 3) := by decide +kernel
theorem dX11_newSign_73 : decode cX11_newSign 73 = .ok (.iload_n 3, 1) := by decide +kernel
theorem dX11_newSign_74 : decode cX11_newSign 74 = .ok (.ireturn, 1) := by decide +kernel
theorem dX11_leastApart_0 : decode cX11_leastApart 0 = .ok (.bipush 11, 2) := by decide +kernel
theorem dX11_leastApart_2 : decode cX11_leastApart 2 = .ok (.istore_n 2, 1) := by decide +kernel
theorem dX11_leastApart_3 : decode cX11_leastApart 3 = .ok (.iconst 0, 1) := by decide +kernel
theorem dX11_leastApart_4 : decode cX11_leastApart 4 = .ok (.istore_n 3, 1) := by decide +kernel
theorem dX11_leastApart_5 : decode cX11_leastApart 5 = .ok (.iload_n 3, 1) := by decide +kernel
theorem dX11_leastApart_6 : decode cX11_leastApart 6 = .ok (.aload_n 0, 1) := by decide +kernel
theorem dX11_leastApart_7 : decode cX11_leastApart 7 = .ok (.getfield 14, 3) := by decide +kernel
theorem dX11_leastApart_10 : decode cX11_leastApart 10 = .ok (.getfield 77, 3) := by decide +kernel
theorem dX11_leastApart_13 : decode cX11_leastApart 13 = .ok (.getfield 179, 3) := by decide +kernel
theorem dX11_leastApart_16 : decode cX11_leastApart 16 = .ok (.if_icmp .ge 29, 3) := by decide +kernel
theorem dX11_leastApart_19 : decode cX11_leastApart 19 = .ok (.iload_n 2, 1) := by decide +kernel
theorem dX11_leastApart_20 : decode cX11_leastApart 20 = .ok (.iload_n 1, 1) := by decide +kernel
theorem dX11_leastApart_21 : decode cX11_leastApart 21 = .ok (.aload_n 0, 1) := by decide +kernel
theorem dX11_leastApart_22 : decode cX11_leastApart 22 = .ok (.getfield 14, 3) := by decide +kernel
theorem dX11_leastApart_25 : decode cX11_leastApart 25 = .ok (.getfield 77, 3) := by decide +kernel
theorem dX11_leastApart_28 : decode cX11_leastApart 28 = .ok (.iload_n 3, 1) := by decide +kernel
theorem dX11_leastApart_29 : decode cX11_leastApart 29 = .ok (.invokevirtual 91, 3) := by decide +kernel
theorem dX11_leastApart_32 : decode cX11_leastApart 32 = .ok (.invokestatic 282, 3) := by decide +kernel
theorem dX11_leastApart_35 : decode cX11_leastApart 35 = .ok (.invokestatic 291, 3) := by decide +kernel
theorem dX11_leastApart_38 : decode cX11_leastApart 38 = .ok (.istore_n 2, 1) := by decide +kernel
theorem dX11_leastApart_39 : decode cX11_leastApart 39 = .ok (.iinc 3 1, 3) := by decide +kernel
theorem dX11_leastApart_42 : decode cX11_leastApart 42 = .ok (.goto (-37), 3) := by decide +kernel
theorem dX11_leastApart_45 : decode cX11_leastApart 45 = .ok (.iload_n 2, 1) := by decide +kernel
theorem dX11_leastApart_46 : decode cX11_leastApart 46 = .ok (.ireturn, 1) := by decide +kernel
theorem dX11_leastPassed_0 : decode cX11_leastPassed 0 = .ok (.iconst 0, 1) := by decide +kernel
theorem dX11_leastPassed_1 : decode cX11_leastPassed 1 = .ok (.istore_n 2, 1) := by decide +kernel
theorem dX11_leastPassed_2 : decode cX11_leastPassed 2 = .ok (.iload_n 2, 1) := by decide +kernel
theorem dX11_leastPassed_3 : decode cX11_leastPassed 3 = .ok (.iconst 5, 1) := by decide +kernel
theorem dX11_leastPassed_4 : decode cX11_leastPassed 4 = .ok (.if_icmp .ge 16, 3) := by decide +kernel
theorem dX11_leastPassed_7 : decode cX11_leastPassed 7 = .ok (.aload_n 0, 1) := by decide +kernel
theorem dX11_leastPassed_8 : decode cX11_leastPassed 8 = .ok (.getfield 66, 3) := by decide +kernel
theorem dX11_leastPassed_11 : decode cX11_leastPassed 11 = .ok (.iload_n 2, 1) := by decide +kernel
theorem dX11_leastPassed_12 : decode cX11_leastPassed 12 = .ok (.iload_n 2, 1) := by decide +kernel
theorem dX11_leastPassed_13 : decode cX11_leastPassed 13 = .ok (.iastore, 1) := by decide +kernel
theorem dX11_leastPassed_14 : decode cX11_leastPassed 14 = .ok (.iinc 2 1, 3) := by decide +kernel
theorem dX11_leastPassed_17 : decode cX11_leastPassed 17 = .ok (.goto (-15), 3) := by decide +kernel
theorem dX11_leastPassed_20 : decode cX11_leastPassed 20 = .ok (.bipush 11, 2) := by decide +kernel
theorem dX11_leastPassed_22 : decode cX11_leastPassed 22 = .ok (.istore_n 2, 1) := by decide +kernel
theorem dX11_leastPassed_23 : decode cX11_leastPassed 23 = .ok (.iconst 1, 1) := by decide +kernel
theorem dX11_leastPassed_24 : decode cX11_leastPassed 24 = .ok (.istore_n 3, 1) := by decide +kernel
theorem dX11_leastPassed_25 : decode cX11_leastPassed 25 = .ok (.iconst 0, 1) := by decide +kernel
theorem dX11_leastPassed_26 : decode cX11_leastPassed 26 = .ok (.istore 4, 2) := by decide +kernel
theorem dX11_leastPassed_28 : decode cX11_leastPassed 28 = .ok (.iload 4, 2) := by decide +kernel
theorem dX11_leastPassed_30 : decode cX11_leastPassed 30 = .ok (.bipush 120, 2) := by decide +kernel
theorem dX11_leastPassed_32 : decode cX11_leastPassed 32 = .ok (.if_icmp .ge 59, 3) := by decide +kernel
theorem dX11_leastPassed_35 : decode cX11_leastPassed 35 = .ok (.iload_n 3, 1) := by decide +kernel
theorem dX11_leastPassed_36 : decode cX11_leastPassed 36 = .ok (.ifCond .eq 55, 3) := by decide +kernel
theorem dX11_leastPassed_39 : decode cX11_leastPassed 39 = .ok (.iload_n 1, 1) := by decide +kernel
theorem dX11_leastPassed_40 : decode cX11_leastPassed 40 = .ok (.aload_n 0, 1) := by decide +kernel
theorem dX11_leastPassed_41 : decode cX11_leastPassed 41 = .ok (.iload_n 1, 1) := by decide +kernel
theorem dX11_leastPassed_42 : decode cX11_leastPassed 42 = .ok (.invokevirtual 296, 3) := by decide +kernel
theorem dX11_leastPassed_45 : decode cX11_leastPassed 45 = .ok (.invokestatic 282, 3) := by decide +kernel
theorem dX11_leastPassed_48 : decode cX11_leastPassed 48 = .ok (.istore 5, 2) := by decide +kernel
theorem dX11_leastPassed_50 : decode cX11_leastPassed 50 = .ok (.iload 5, 2) := by decide +kernel
theorem dX11_leastPassed_52 : decode cX11_leastPassed 52 = .ok (.iload_n 2, 1) := by decide +kernel
theorem dX11_leastPassed_53 : decode cX11_leastPassed 53 = .ok (.if_icmp .ge 20, 3) := by decide +kernel
theorem dX11_leastPassed_56 : decode cX11_leastPassed 56 = .ok (.iload 5, 2) := by decide +kernel
theorem dX11_leastPassed_58 : decode cX11_leastPassed 58 = .ok (.istore_n 2, 1) := by decide +kernel
theorem dX11_leastPassed_59 : decode cX11_leastPassed 59 = .ok (.aload_n 0, 1) := by decide +kernel
theorem dX11_leastPassed_60 : decode cX11_leastPassed 60 = .ok (.getfield 66, 3) := by decide +kernel
theorem dX11_leastPassed_63 : decode cX11_leastPassed 63 = .ok (.iconst 0, 1) := by decide +kernel
theorem dX11_leastPassed_64 : decode cX11_leastPassed 64 = .ok (.aload_n 0, 1) := by decide +kernel
theorem dX11_leastPassed_65 : decode cX11_leastPassed 65 = .ok (.getfield 69, 3) := by decide +kernel
theorem dX11_leastPassed_68 : decode cX11_leastPassed 68 = .ok (.iconst 0, 1) := by decide +kernel
theorem dX11_leastPassed_69 : decode cX11_leastPassed 69 = .ok (.iconst 5, 1) := by decide +kernel
theorem dX11_leastPassed_70 : decode cX11_leastPassed 70 = .ok (.invokestatic 267, 3) := by decide +kernel
theorem dX11_leastPassed_73 : decode cX11_leastPassed 73 = .ok (.aload_n 0, 1) := by decide +kernel
theorem dX11_leastPassed_74 : decode cX11_leastPassed 74 = .ok (.aload_n 0, 1) := by decide +kernel
theorem dX11_leastPassed_75 : decode cX11_leastPassed 75 = .ok (.getfield 14, 3) := by decide +kernel
theorem dX11_leastPassed_78 : decode cX11_leastPassed 78 = .ok (.getfield 101, 3) := by decide +kernel
theorem dX11_leastPassed_81 : decode cX11_leastPassed 81 = .ok (.invokevirtual 299, 3) := by decide +kernel
theorem dX11_leastPassed_84 : decode cX11_leastPassed 84 = .ok (.istore_n 3, 1) := by decide +kernel
theorem dX11_leastPassed_85 : decode cX11_leastPassed 85 = .ok (.iinc 4 1, 3) := by decide +kernel
theorem dX11_leastPassed_88 : decode cX11_leastPassed 88 = .ok (.goto (-60), 3) := by decide +kernel
theorem dX11_leastPassed_91 : decode cX11_leastPassed 91 = .ok (.iload_n 2, 1) := by decide +kernel
theorem dX11_leastPassed_92 : decode cX11_leastPassed 92 = .ok (.ireturn, 1) := by decide +kernel
theorem dX11_handedOn_0 : decode cX11_handedOn 0 = .ok (.iload_n 1, 1) := by decide +kernel
theorem dX11_handedOn_1 : decode cX11_handedOn 1 = .ok (.istore_n 2, 1) := by decide +kernel
theorem dX11_handedOn_2 : decode cX11_handedOn 2 = .ok (.iconst 0, 1) := by decide +kernel
theorem dX11_handedOn_3 : decode cX11_handedOn 3 = .ok (.istore_n 3, 1) := by decide +kernel
theorem dX11_handedOn_4 : decode cX11_handedOn 4 = .ok (.iload_n 3, 1) := by decide +kernel
theorem dX11_handedOn_5 : decode cX11_handedOn 5 = .ok (.aload_n 0, 1) := by decide +kernel
theorem dX11_handedOn_6 : decode cX11_handedOn 6 = .ok (.getfield 14, 3) := by decide +kernel
theorem dX11_handedOn_9 : decode cX11_handedOn 9 = .ok (.getfield 101, 3) := by decide +kernel
theorem dX11_handedOn_12 : decode cX11_handedOn 12 = .ok (.if_icmp .ge 21, 3) := by decide +kernel
theorem dX11_handedOn_15 : decode cX11_handedOn 15 = .ok (.aload_n 0, 1) := by decide +kernel
theorem dX11_handedOn_16 : decode cX11_handedOn 16 = .ok (.aload_n 0, 1) := by decide +kernel
theorem dX11_handedOn_17 : decode cX11_handedOn 17 = .ok (.getfield 66, 3) := by decide +kernel
theorem dX11_handedOn_20 : decode cX11_handedOn 20 = .ok (.iload_n 3, 1) := by decide +kernel
theorem dX11_handedOn_21 : decode cX11_handedOn 21 = .ok (.iaload, 1) := by decide +kernel
theorem dX11_handedOn_22 : decode cX11_handedOn 22 = .ok (.iload_n 2, 1) := by decide +kernel
theorem dX11_handedOn_23 : decode cX11_handedOn 23 = .ok (.invokevirtual 136, 3) := by decide +kernel
theorem dX11_handedOn_26 : decode cX11_handedOn 26 = .ok (.istore_n 2, 1) := by decide +kernel
theorem dX11_handedOn_27 : decode cX11_handedOn 27 = .ok (.iinc 3 1, 3) := by decide +kernel
theorem dX11_handedOn_30 : decode cX11_handedOn 30 = .ok (.goto (-26), 3) := by decide +kernel
theorem dX11_handedOn_33 : decode cX11_handedOn 33 = .ok (.iload_n 2, 1) := by decide +kernel
theorem dX11_handedOn_34 : decode cX11_handedOn 34 = .ok (.ireturn, 1) := by decide +kernel
theorem dX11_nextOrder_0 : decode cX11_nextOrder 0 = .ok (.iload_n 1, 1) := by decide +kernel
theorem dX11_nextOrder_1 : decode cX11_nextOrder 1 = .ok (.iconst 2, 1) := by decide +kernel
theorem dX11_nextOrder_2 : decode cX11_nextOrder 2 = .ok (.isub, 1) := by decide +kernel
theorem dX11_nextOrder_3 : decode cX11_nextOrder 3 = .ok (.istore_n 2, 1) := by decide +kernel
theorem dX11_nextOrder_4 : decode cX11_nextOrder 4 = .ok (.iload_n 2, 1) := by decide +kernel
theorem dX11_nextOrder_5 : decode cX11_nextOrder 5 = .ok (.ifCond .lt 26, 3) := by decide +kernel
theorem dX11_nextOrder_8 : decode cX11_nextOrder 8 = .ok (.aload_n 0, 1) := by decide +kernel
theorem dX11_nextOrder_9 : decode cX11_nextOrder 9 = .ok (.getfield 66, 3) := by decide +kernel
theorem dX11_nextOrder_12 : decode cX11_nextOrder 12 = .ok (.iload_n 2, 1) := by decide +kernel
theorem dX11_nextOrder_13 : decode cX11_nextOrder 13 = .ok (.iaload, 1) := by decide +kernel
theorem dX11_nextOrder_14 : decode cX11_nextOrder 14 = .ok (.aload_n 0, 1) := by decide +kernel
theorem dX11_nextOrder_15 : decode cX11_nextOrder 15 = .ok (.getfield 66, 3) := by decide +kernel
theorem dX11_nextOrder_18 : decode cX11_nextOrder 18 = .ok (.iload_n 2, 1) := by decide +kernel
theorem dX11_nextOrder_19 : decode cX11_nextOrder 19 = .ok (.iconst 1, 1) := by decide +kernel
theorem dX11_nextOrder_20 : decode cX11_nextOrder 20 = .ok (.iadd, 1) := by decide +kernel
theorem dX11_nextOrder_21 : decode cX11_nextOrder 21 = .ok (.iaload, 1) := by decide +kernel
theorem dX11_nextOrder_22 : decode cX11_nextOrder 22 = .ok (.if_icmp .le 9, 3) := by decide +kernel
theorem dX11_nextOrder_25 : decode cX11_nextOrder 25 = .ok (.iinc 2 (-1), 3) := by decide +kernel
theorem dX11_nextOrder_28 : decode cX11_nextOrder 28 = .ok (.goto (-24), 3) := by decide +kernel
theorem dX11_nextOrder_31 : decode cX11_nextOrder 31 = .ok (.iload_n 2, 1) := by decide +kernel
theorem dX11_nextOrder_32 : decode cX11_nextOrder 32 = .ok (.ifCond .ge 5, 3) := by decide +kernel
theorem dX11_nextOrder_35 : decode cX11_nextOrder 35 = .ok (.iconst 0, 1) := by decide +kernel
theorem dX11_nextOrder_36 : decode cX11_nextOrder 36 = .ok (.ireturn, 1) := by decide +kernel
theorem dX11_nextOrder_37 : decode cX11_nextOrder 37 = .ok (.iload_n 1, 1) := by decide +kernel
theorem dX11_nextOrder_38 : decode cX11_nextOrder 38 = .ok (.iconst 1, 1) := by decide +kernel
theorem dX11_nextOrder_39 : decode cX11_nextOrder 39 = .ok (.isub, 1) := by decide +kernel
theorem dX11_nextOrder_40 : decode cX11_nextOrder 40 = .ok (.istore_n 3, 1) := by decide +kernel
theorem dX11_nextOrder_41 : decode cX11_nextOrder 41 = .ok (.iload_n 3, 1) := by decide +kernel
theorem dX11_nextOrder_42 : decode cX11_nextOrder 42 = .ok (.iload_n 2, 1) := by decide +kernel
theorem dX11_nextOrder_43 : decode cX11_nextOrder 43 = .ok (.if_icmp .le 24, 3) := by decide +kernel
theorem dX11_nextOrder_46 : decode cX11_nextOrder 46 = .ok (.aload_n 0, 1) := by decide +kernel
theorem dX11_nextOrder_47 : decode cX11_nextOrder 47 = .ok (.getfield 66, 3) := by decide +kernel
theorem dX11_nextOrder_50 : decode cX11_nextOrder 50 = .ok (.iload_n 3, 1) := by decide +kernel
theorem dX11_nextOrder_51 : decode cX11_nextOrder 51 = .ok (.iaload, 1) := by decide +kernel
theorem dX11_nextOrder_52 : decode cX11_nextOrder 52 = .ok (.aload_n 0, 1) := by decide +kernel
theorem dX11_nextOrder_53 : decode cX11_nextOrder 53 = .ok (.getfield 66, 3) := by decide +kernel
theorem dX11_nextOrder_56 : decode cX11_nextOrder 56 = .ok (.iload_n 2, 1) := by decide +kernel
theorem dX11_nextOrder_57 : decode cX11_nextOrder 57 = .ok (.iaload, 1) := by decide +kernel
theorem dX11_nextOrder_58 : decode cX11_nextOrder 58 = .ok (.if_icmp .ge 9, 3) := by decide +kernel
theorem dX11_nextOrder_61 : decode cX11_nextOrder 61 = .ok (.iinc 3 (-1), 3) := by decide +kernel
theorem dX11_nextOrder_64 : decode cX11_nextOrder 64 = .ok (.goto (-23), 3) := by decide +kernel
theorem dX11_nextOrder_67 : decode cX11_nextOrder 67 = .ok (.aload_n 0, 1) := by decide +kernel
theorem dX11_nextOrder_68 : decode cX11_nextOrder 68 = .ok (.iload_n 2, 1) := by decide +kernel
theorem dX11_nextOrder_69 : decode cX11_nextOrder 69 = .ok (.iload_n 3, 1) := by decide +kernel
theorem dX11_nextOrder_70 : decode cX11_nextOrder 70 = .ok (.invokevirtual 302, 3) := by decide +kernel
theorem dX11_nextOrder_73 : decode cX11_nextOrder 73 = .ok (.iload_n 1, 1) := by decide +kernel
theorem dX11_nextOrder_74 : decode cX11_nextOrder 74 = .ok (.iconst 1, 1) := by decide +kernel
theorem dX11_nextOrder_75 : decode cX11_nextOrder 75 = .ok (.isub, 1) := by decide +kernel
theorem dX11_nextOrder_76 : decode cX11_nextOrder 76 = .ok (.istore 4, 2) := by decide +kernel
theorem dX11_nextOrder_78 : decode cX11_nextOrder 78 = .ok (.iload_n 2, 1) := by decide +kernel
theorem dX11_nextOrder_79 : decode cX11_nextOrder 79 = .ok (.iconst 1, 1) := by decide +kernel
theorem dX11_nextOrder_80 : decode cX11_nextOrder 80 = .ok (.iadd, 1) := by decide +kernel
theorem dX11_nextOrder_81 : decode cX11_nextOrder 81 = .ok (.istore 5, 2) := by decide +kernel
theorem dX11_nextOrder_83 : decode cX11_nextOrder 83 = .ok (.iload 5, 2) := by decide +kernel
theorem dX11_nextOrder_85 : decode cX11_nextOrder 85 = .ok (.iload 4, 2) := by decide +kernel
theorem dX11_nextOrder_87 : decode cX11_nextOrder 87 = .ok (.if_icmp .ge 20, 3) := by decide +kernel
theorem dX11_nextOrder_90 : decode cX11_nextOrder 90 = .ok (.aload_n 0, 1) := by decide +kernel
theorem dX11_nextOrder_91 : decode cX11_nextOrder 91 = .ok (.iload 5, 2) := by decide +kernel
theorem dX11_nextOrder_93 : decode cX11_nextOrder 93 = .ok (.iload 4, 2) := by decide +kernel
theorem dX11_nextOrder_95 : decode cX11_nextOrder 95 = .ok (.invokevirtual 302, 3) := by decide +kernel
theorem dX11_nextOrder_98 : decode cX11_nextOrder 98 = .ok (.iinc 4 (-1), 3) := by decide +kernel
theorem dX11_nextOrder_101 : decode cX11_nextOrder 101 = .ok (.iinc 5 1, 3) := by decide +kernel
theorem dX11_nextOrder_104 : decode cX11_nextOrder 104 = .ok (.goto (-21), 3) := by decide +kernel
theorem dX11_nextOrder_107 : decode cX11_nextOrder 107 = .ok (.iconst 1, 1) := by decide +kernel
theorem dX11_nextOrder_108 : decode cX11_nextOrder 108 = .ok (.ireturn, 1) := by decide +kernel
theorem dX11_swapInOrder_0 : decode cX11_swapInOrder 0 = .ok (.aload_n 0, 1) := by decide +kernel
theorem dX11_swapInOrder_1 : decode cX11_swapInOrder 1 = .ok (.getfield 66, 3) := by decide +kernel
theorem dX11_swapInOrder_4 : decode cX11_swapInOrder 4 = .ok (.iload_n 1, 1) := by decide +kernel
theorem dX11_swapInOrder_5 : decode cX11_swapInOrder 5 = .ok (.iaload, 1) := by decide +kernel
theorem dX11_swapInOrder_6 : decode cX11_swapInOrder 6 = .ok (.istore_n 3, 1) := by decide +kernel
theorem dX11_swapInOrder_7 : decode cX11_swapInOrder 7 = .ok (.aload_n 0, 1) := by decide +kernel
theorem dX11_swapInOrder_8 : decode cX11_swapInOrder 8 = .ok (.getfield 66, 3) := by decide +kernel
theorem dX11_swapInOrder_11 : decode cX11_swapInOrder 11 = .ok (.iload_n 1, 1) := by decide +kernel
theorem dX11_swapInOrder_12 : decode cX11_swapInOrder 12 = .ok (.aload_n 0, 1) := by decide +kernel
theorem dX11_swapInOrder_13 : decode cX11_swapInOrder 13 = .ok (.getfield 66, 3) := by decide +kernel
theorem dX11_swapInOrder_16 : decode cX11_swapInOrder 16 = .ok (.iload_n 2, 1) := by decide +kernel
theorem dX11_swapInOrder_17 : decode cX11_swapInOrder 17 = .ok (.iaload, 1) := by decide +kernel
theorem dX11_swapInOrder_18 : decode cX11_swapInOrder 18 = .ok (.iastore, 1) := by decide +kernel
theorem dX11_swapInOrder_19 : decode cX11_swapInOrder 19 = .ok (.aload_n 0, 1) := by decide +kernel
theorem dX11_swapInOrder_20 : decode cX11_swapInOrder 20 = .ok (.getfield 66, 3) := by decide +kernel
theorem dX11_swapInOrder_23 : decode cX11_swapInOrder 23 = .ok (.iload_n 2, 1) := by decide +kernel
theorem dX11_swapInOrder_24 : decode cX11_swapInOrder 24 = .ok (.iload_n 3, 1) := by decide +kernel
theorem dX11_swapInOrder_25 : decode cX11_swapInOrder 25 = .ok (.iastore, 1) := by decide +kernel
theorem dX11_swapInOrder_26 : decode cX11_swapInOrder 26 = .ok (.return_, 1) := by decide +kernel
theorem dX11_addPair_0 : decode cX11_addPair 0 = .ok (.iload_n 2, 1) := by decide +kernel
theorem dX11_addPair_1 : decode cX11_addPair 1 = .ok (.iconst (-1), 1) := by decide +kernel
theorem dX11_addPair_2 : decode cX11_addPair 2 = .ok (.if_icmp .ne 9, 3) := by decide +kernel
theorem dX11_addPair_5 : decode cX11_addPair 5 = .ok (.aload_n 1, 1) := by decide +kernel
theorem dX11_addPair_6 : decode cX11_addPair 6 = .ok (.invokevirtual 152, 3) := by decide +kernel
theorem dX11_addPair_9 : decode cX11_addPair 9 = .ok (.iconst 0, 1) := by decide +kernel
theorem dX11_addPair_10 : decode cX11_addPair 10 = .ok (.ireturn, 1) := by decide +kernel
theorem dX11_addPair_11 : decode cX11_addPair 11 = .ok (.aload_n 0, 1) := by decide +kernel
theorem dX11_addPair_12 : decode cX11_addPair 12 = .ok (.iload_n 2, 1) := by decide +kernel
theorem dX11_addPair_13 : decode cX11_addPair 13 = .ok (.invokevirtual 88, 3) := by decide +kernel
theorem dX11_addPair_16 : decode cX11_addPair 16 = .ok (.ifCond .ne 5, 3) := by decide +kernel
theorem dX11_addPair_19 : decode cX11_addPair 19 = .ok (.iconst (-1), 1) := by decide +kernel
theorem dX11_addPair_20 : decode cX11_addPair 20 = .ok (.ireturn, 1) := by decide +kernel
theorem dX11_addPair_21 : decode cX11_addPair 21 = .ok (.iload_n 3, 1) := by decide +kernel
theorem dX11_addPair_22 : decode cX11_addPair 22 = .ok (.invokestatic 73, 3) := by decide +kernel
theorem dX11_addPair_25 : decode cX11_addPair 25 = .ok (.ifCond .ne 6, 3) := by decide +kernel
theorem dX11_addPair_28 : decode cX11_addPair 28 = .ok (.bipush (-2), 2) := by decide +kernel
theorem dX11_addPair_30 : decode cX11_addPair 30 = .ok (.ireturn, 1) := by decide +kernel
theorem dX11_addPair_31 : decode cX11_addPair 31 = .ok (.aload_n 1, 1) := by decide +kernel
theorem dX11_addPair_32 : decode cX11_addPair 32 = .ok (.invokevirtual 80, 3) := by decide +kernel
theorem dX11_addPair_35 : decode cX11_addPair 35 = .ok (.ifCond .eq 8, 3) := by decide +kernel
theorem dX11_addPair_38 : decode cX11_addPair 38 = .ok (.bipush (-4), 2) := by decide +kernel
theorem dX11_addPair_40 : decode cX11_addPair 40 = .ok (.goto 14, 3) := by decide +kernel
theorem dX11_addPair_43 : decode cX11_addPair 43 = .ok (.aload_n 1, 1) := by decide +kernel
theorem dX11_addPair_44 : decode cX11_addPair 44 = .ok (.iload_n 2, 1) := by decide +kernel
theorem dX11_addPair_45 : decode cX11_addPair 45 = .ok (.sipush 1024, 3) := by decide +kernel
theorem dX11_addPair_48 : decode cX11_addPair 48 = .ok (.imul, 1) := by decide +kernel
theorem dX11_addPair_49 : decode cX11_addPair 49 = .ok (.iload_n 3, 1) := by decide +kernel
theorem dX11_addPair_50 : decode cX11_addPair 50 = .ok (.iadd, 1) := by decide +kernel
theorem dX11_addPair_51 : decode cX11_addPair 51 = .ok (.invokevirtual 84, 3) := by decide +kernel
theorem dX11_addPair_54 : decode cX11_addPair 54 = .ok (.ireturn, 1) := by decide +kernel
theorem dX11_fitsSeen_0 : decode cX11_fitsSeen 0 = .ok (.iconst 0, 1) := by decide +kernel
theorem dX11_fitsSeen_1 : decode cX11_fitsSeen 1 = .ok (.istore 4, 2) := by decide +kernel
theorem dX11_fitsSeen_3 : decode cX11_fitsSeen 3 = .ok (.iload 4, 2) := by decide +kernel
theorem dX11_fitsSeen_5 : decode cX11_fitsSeen 5 = .ok (.aload_n 0, 1) := by decide +kernel
theorem dX11_fitsSeen_6 : decode cX11_fitsSeen 6 = .ok (.getfield 14, 3) := by decide +kernel
theorem dX11_fitsSeen_9 : decode cX11_fitsSeen 9 = .ok (.getfield 185, 3) := by decide +kernel
theorem dX11_fitsSeen_12 : decode cX11_fitsSeen 12 = .ok (.getfield 179, 3) := by decide +kernel
theorem dX11_fitsSeen_15 : decode cX11_fitsSeen 15 = .ok (.if_icmp .ge 57, 3) := by decide +kernel
theorem dX11_fitsSeen_18 : decode cX11_fitsSeen 18 = .ok (.aload_n 0, 1) := by decide +kernel
theorem dX11_fitsSeen_19 : decode cX11_fitsSeen 19 = .ok (.getfield 14, 3) := by decide +kernel
theorem dX11_fitsSeen_22 : decode cX11_fitsSeen 22 = .ok (.getfield 185, 3) := by decide +kernel
theorem dX11_fitsSeen_25 : decode cX11_fitsSeen 25 = .ok (.iload 4, 2) := by decide +kernel
theorem dX11_fitsSeen_27 : decode cX11_fitsSeen 27 = .ok (.invokevirtual 91, 3) := by decide +kernel
theorem dX11_fitsSeen_30 : decode cX11_fitsSeen 30 = .ok (.istore 5, 2) := by decide +kernel
theorem dX11_fitsSeen_32 : decode cX11_fitsSeen 32 = .ok (.aload_n 0, 1) := by decide +kernel
theorem dX11_fitsSeen_33 : decode cX11_fitsSeen 33 = .ok (.iload_n 1, 1) := by decide +kernel
theorem dX11_fitsSeen_34 : decode cX11_fitsSeen 34 = .ok (.iload_n 2, 1) := by decide +kernel
theorem dX11_fitsSeen_35 : decode cX11_fitsSeen 35 = .ok (.iload_n 3, 1) := by decide +kernel
theorem dX11_fitsSeen_36 : decode cX11_fitsSeen 36 = .ok (.aload_n 0, 1) := by decide +kernel
theorem dX11_fitsSeen_37 : decode cX11_fitsSeen 37 = .ok (.getfield 14, 3) := by decide +kernel
theorem dX11_fitsSeen_40 : decode cX11_fitsSeen 40 = .ok (.getfield 77, 3) := by decide +kernel
theorem dX11_fitsSeen_43 : decode cX11_fitsSeen 43 = .ok (.iload 5, 2) := by decide +kernel
theorem dX11_fitsSeen_45 : decode cX11_fitsSeen 45 = .ok (.sipush 1024, 3) := by decide +kernel
theorem dX11_fitsSeen_48 : decode cX11_fitsSeen 48 = .ok (.idiv, 1) := by decide +kernel
theorem dX11_fitsSeen_49 : decode cX11_fitsSeen 49 = .ok (.invokevirtual 91, 3) := by decide +kernel
theorem dX11_fitsSeen_52 : decode cX11_fitsSeen 52 = .ok (.invokevirtual 209, 3) := by decide +kernel
theorem dX11_fitsSeen_55 : decode cX11_fitsSeen 55 = .ok (.iload 5, 2) := by decide +kernel
theorem dX11_fitsSeen_57 : decode cX11_fitsSeen 57 = .ok (.sipush 1024, 3) := by decide +kernel
theorem dX11_fitsSeen_60 : decode cX11_fitsSeen 60 = .ok (.irem, 1) := by decide +kernel
theorem dX11_fitsSeen_61 : decode cX11_fitsSeen 61 = .ok (.if_icmp .eq 5, 3) := by decide +kernel
theorem dX11_fitsSeen_64 : decode cX11_fitsSeen 64 = .ok (.iconst 0, 1) := by decide +kernel
theorem dX11_fitsSeen_65 : decode cX11_fitsSeen 65 = .ok (.ireturn, 1) := by decide +kernel
theorem dX11_fitsSeen_66 : decode cX11_fitsSeen 66 = .ok (.iinc 4 1, 3) := by decide +kernel
theorem dX11_fitsSeen_69 : decode cX11_fitsSeen 69 = .ok (.goto (-66), 3) := by decide +kernel
theorem dX11_fitsSeen_72 : decode cX11_fitsSeen 72 = .ok (.iconst 1, 1) := by decide +kernel
theorem dX11_fitsSeen_73 : decode cX11_fitsSeen 73 = .ok (.ireturn, 1) := by decide +kernel
theorem dX11_lowest_0 : decode cX11_lowest 0 = .ok (.iconst 1, 1) := by decide +kernel
theorem dX11_lowest_1 : decode cX11_lowest 1 = .ok (.istore_n 3, 1) := by decide +kernel
theorem dX11_lowest_2 : decode cX11_lowest 2 = .ok (.iconst 2, 1) := by decide +kernel
theorem dX11_lowest_3 : decode cX11_lowest 3 = .ok (.istore 4, 2) := by decide +kernel
theorem dX11_lowest_5 : decode cX11_lowest 5 = .ok (.iload 4, 2) := by decide +kernel
theorem dX11_lowest_7 : decode cX11_lowest 7 = .ok (.iload_n 1, 1) := by decide +kernel
theorem dX11_lowest_8 : decode cX11_lowest 8 = .ok (.if_icmp .gt 26, 3) := by decide +kernel
theorem dX11_lowest_11 : decode cX11_lowest 11 = .ok (.iload_n 0, 1) := by decide +kernel
theorem dX11_lowest_12 : decode cX11_lowest 12 = .ok (.iload 4, 2) := by decide +kernel
theorem dX11_lowest_14 : decode cX11_lowest 14 = .ok (.irem, 1) := by decide +kernel
theorem dX11_lowest_15 : decode cX11_lowest 15 = .ok (.ifCond .ne 13, 3) := by decide +kernel
theorem dX11_lowest_18 : decode cX11_lowest 18 = .ok (.iload_n 1, 1) := by decide +kernel
theorem dX11_lowest_19 : decode cX11_lowest 19 = .ok (.iload 4, 2) := by decide +kernel
theorem dX11_lowest_21 : decode cX11_lowest 21 = .ok (.irem, 1) := by decide +kernel
theorem dX11_lowest_22 : decode cX11_lowest 22 = .ok (.ifCond .ne 6, 3) := by decide +kernel
theorem dX11_lowest_25 : decode cX11_lowest 25 = .ok (.iload 4, 2) := by decide +kernel
theorem dX11_lowest_27 : decode cX11_lowest 27 = .ok (.istore_n 3, 1) := by decide +kernel
theorem dX11_lowest_28 : decode cX11_lowest 28 = .ok (.iinc 4 1, 3) := by decide +kernel
theorem dX11_lowest_31 : decode cX11_lowest 31 = .ok (.goto (-26), 3) := by decide +kernel
theorem dX11_lowest_34 : decode cX11_lowest 34 = .ok (.iload_n 2, 1) := by decide +kernel
theorem dX11_lowest_35 : decode cX11_lowest 35 = .ok (.ifCond .ne 7, 3) := by decide +kernel
theorem dX11_lowest_38 : decode cX11_lowest 38 = .ok (.iload_n 0, 1) := by decide +kernel
theorem dX11_lowest_39 : decode cX11_lowest 39 = .ok (.goto 4, 3) := by decide +kernel
theorem dX11_lowest_42 : decode cX11_lowest 42 = .ok (.iload_n 1, 1) := by decide +kernel
theorem dX11_lowest_43 : decode cX11_lowest 43 = .ok (.iload_n 3, 1) := by decide +kernel
theorem dX11_lowest_44 : decode cX11_lowest 44 = .ok (.idiv, 1) := by decide +kernel
theorem dX11_lowest_45 : decode cX11_lowest 45 = .ok (.i2l, 1) := by decide +kernel
theorem dX11_lowest_46 : decode cX11_lowest 46 = .ok (.lreturn, 1) := by decide +kernel
theorem dX11_newSender_0 : decode cX11_newSender 0 = .ok (.iload_n 1, 1) := by decide +kernel
theorem dX11_newSender_1 : decode cX11_newSender 1 = .ok (.tableswitch 105 1 6 #[39, 50, 61, 72, 83, 94], 39) := by decide +kernel
theorem dX11_newSender_40 : decode cX11_newSender 40 = .ok (.new 305, 3) := by decide +kernel
theorem dX11_newSender_43 : decode cX11_newSender 43 = .ok (.dup, 1) := by decide +kernel
theorem dX11_newSender_44 : decode cX11_newSender 44 = .ok (.iload_n 0, 1) := by decide +kernel
theorem dX11_newSender_45 : decode cX11_newSender 45 = .ok (.iload_n 1, 1) := by decide +kernel
theorem dX11_newSender_46 : decode cX11_newSender 46 = .ok (.iload_n 2, 1) := by decide +kernel
theorem dX11_newSender_47 : decode cX11_newSender 47 = .ok (.invokespecial 307, 3) := by decide +kernel
theorem dX11_newSender_50 : decode cX11_newSender 50 = .ok (.areturn, 1) := by decide +kernel
theorem dX11_newSender_51 : decode cX11_newSender 51 = .ok (.new 310, 3) := by decide +kernel
theorem dX11_newSender_54 : decode cX11_newSender 54 = .ok (.dup, 1) := by decide +kernel
theorem dX11_newSender_55 : decode cX11_newSender 55 = .ok (.iload_n 0, 1) := by decide +kernel
theorem dX11_newSender_56 : decode cX11_newSender 56 = .ok (.iload_n 1, 1) := by decide +kernel
theorem dX11_newSender_57 : decode cX11_newSender 57 = .ok (.iload_n 2, 1) := by decide +kernel
theorem dX11_newSender_58 : decode cX11_newSender 58 = .ok (.invokespecial 312, 3) := by decide +kernel
theorem dX11_newSender_61 : decode cX11_newSender 61 = .ok (.areturn, 1) := by decide +kernel
theorem dX11_newSender_62 : decode cX11_newSender 62 = .ok (.new 313, 3) := by decide +kernel
theorem dX11_newSender_65 : decode cX11_newSender 65 = .ok (.dup, 1) := by decide +kernel
theorem dX11_newSender_66 : decode cX11_newSender 66 = .ok (.iload_n 0, 1) := by decide +kernel
theorem dX11_newSender_67 : decode cX11_newSender 67 = .ok (.iload_n 1, 1) := by decide +kernel
theorem dX11_newSender_68 : decode cX11_newSender 68 = .ok (.iload_n 2, 1) := by decide +kernel
theorem dX11_newSender_69 : decode cX11_newSender 69 = .ok (.invokespecial 315, 3) := by decide +kernel
theorem dX11_newSender_72 : decode cX11_newSender 72 = .ok (.areturn, 1) := by decide +kernel
theorem dX11_newSender_73 : decode cX11_newSender 73 = .ok (.new 316, 3) := by decide +kernel
theorem dX11_newSender_76 : decode cX11_newSender 76 = .ok (.dup, 1) := by decide +kernel
theorem dX11_newSender_77 : decode cX11_newSender 77 = .ok (.iload_n 0, 1) := by decide +kernel
theorem dX11_newSender_78 : decode cX11_newSender 78 = .ok (.iload_n 1, 1) := by decide +kernel
theorem dX11_newSender_79 : decode cX11_newSender 79 = .ok (.iload_n 2, 1) := by decide +kernel
theorem dX11_newSender_80 : decode cX11_newSender 80 = .ok (.invokespecial 318, 3) := by decide +kernel
theorem dX11_newSender_83 : decode cX11_newSender 83 = .ok (.areturn, 1) := by decide +kernel
theorem dX11_newSender_84 : decode cX11_newSender 84 = .ok (.new 319, 3) := by decide +kernel
theorem dX11_newSender_87 : decode cX11_newSender 87 = .ok (.dup, 1) := by decide +kernel
theorem dX11_newSender_88 : decode cX11_newSender 88 = .ok (.iload_n 0, 1) := by decide +kernel
theorem dX11_newSender_89 : decode cX11_newSender 89 = .ok (.iload_n 1, 1) := by decide +kernel
theorem dX11_newSender_90 : decode cX11_newSender 90 = .ok (.iload_n 2, 1) := by decide +kernel
theorem dX11_newSender_91 : decode cX11_newSender 91 = .ok (.invokespecial 321, 3) := by decide +kernel
theorem dX11_newSender_94 : decode cX11_newSender 94 = .ok (.areturn, 1) := by decide +kernel
theorem dX11_newSender_95 : decode cX11_newSender 95 = .ok (.new 143, 3) := by decide +kernel
theorem dX11_newSender_98 : decode cX11_newSender 98 = .ok (.dup, 1) := by decide +kernel
theorem dX11_newSender_99 : decode cX11_newSender 99 = .ok (.iload_n 0, 1) := by decide +kernel
theorem dX11_newSender_100 : decode cX11_newSender 100 = .ok (.iload_n 1, 1) := by decide +kernel
theorem dX11_newSender_101 : decode cX11_newSender 101 = .ok (.iload_n 2, 1) := by decide +kernel
theorem dX11_newSender_102 : decode cX11_newSender 102 = .ok (.invokespecial 322, 3) := by decide +kernel
theorem dX11_newSender_105 : decode cX11_newSender 105 = .ok (.areturn, 1) := by decide +kernel
theorem dX11_newSender_106 : decode cX11_newSender 106 = .ok (.new 120, 3) := by decide +kernel
theorem dX11_newSender_109 : decode cX11_newSender 109 = .ok (.dup, 1) := by decide +kernel
theorem dX11_newSender_110 : decode cX11_newSender 110 = .ok (.iload_n 0, 1) := by decide +kernel
theorem dX11_newSender_111 : decode cX11_newSender 111 = .ok (.iconst 0, 1) := by decide +kernel
theorem dX11_newSender_112 : decode cX11_newSender 112 = .ok (.iload_n 2, 1) := by decide +kernel
theorem dX11_newSender_113 : decode cX11_newSender 113 = .ok (.invokespecial 323, 3) := by decide +kernel
theorem dX11_newSender_116 : decode cX11_newSender 116 = .ok (.areturn, 1) := by decide +kernel
theorem dX11_isOfKind_0 : decode cX11_isOfKind 0 = .ok (.iload_n 1, 1) := by decide +kernel
theorem dX11_isOfKind_1 : decode cX11_isOfKind 1 = .ok (.tableswitch 75 0 6 #[43, 45, 50, 55, 60, 65, 70], 43) := by decide +kernel
theorem dX11_isOfKind_44 : decode cX11_isOfKind 44 = .ok (.iconst 1, 1) := by decide +kernel
theorem dX11_isOfKind_45 : decode cX11_isOfKind 45 = .ok (.ireturn, 1) := by decide +kernel
theorem dX11_isOfKind_46 : decode cX11_isOfKind 46 = .ok (.aload_n 0, 1) := by decide +kernel
theorem dX11_isOfKind_47 : decode cX11_isOfKind 47 = .ok (.instanceof 305, 3) := by decide +kernel
theorem dX11_isOfKind_50 : decode cX11_isOfKind 50 = .ok (.ireturn, 1) := by decide +kernel
theorem dX11_isOfKind_51 : decode cX11_isOfKind 51 = .ok (.aload_n 0, 1) := by decide +kernel
theorem dX11_isOfKind_52 : decode cX11_isOfKind 52 = .ok (.instanceof 310, 3) := by decide +kernel
theorem dX11_isOfKind_55 : decode cX11_isOfKind 55 = .ok (.ireturn, 1) := by decide +kernel
theorem dX11_isOfKind_56 : decode cX11_isOfKind 56 = .ok (.aload_n 0, 1) := by decide +kernel
theorem dX11_isOfKind_57 : decode cX11_isOfKind 57 = .ok (.instanceof 313, 3) := by decide +kernel
theorem dX11_isOfKind_60 : decode cX11_isOfKind 60 = .ok (.ireturn, 1) := by decide +kernel
theorem dX11_isOfKind_61 : decode cX11_isOfKind 61 = .ok (.aload_n 0, 1) := by decide +kernel
theorem dX11_isOfKind_62 : decode cX11_isOfKind 62 = .ok (.instanceof 316, 3) := by decide +kernel
theorem dX11_isOfKind_65 : decode cX11_isOfKind 65 = .ok (.ireturn, 1) := by decide +kernel
theorem dX11_isOfKind_66 : decode cX11_isOfKind 66 = .ok (.aload_n 0, 1) := by decide +kernel
theorem dX11_isOfKind_67 : decode cX11_isOfKind 67 = .ok (.instanceof 319, 3) := by decide +kernel
theorem dX11_isOfKind_70 : decode cX11_isOfKind 70 = .ok (.ireturn, 1) := by decide +kernel
theorem dX11_isOfKind_71 : decode cX11_isOfKind 71 = .ok (.aload_n 0, 1) := by decide +kernel
theorem dX11_isOfKind_72 : decode cX11_isOfKind 72 = .ok (.instanceof 143, 3) := by decide +kernel
theorem dX11_isOfKind_75 : decode cX11_isOfKind 75 = .ok (.ireturn, 1) := by decide +kernel
theorem dX11_isOfKind_76 : decode cX11_isOfKind 76 = .ok (.iconst 0, 1) := by decide +kernel
theorem dX11_isOfKind_77 : decode cX11_isOfKind 77 = .ok (.ireturn, 1) := by decide +kernel
theorem dX12_init_0 : decode cX12_init 0 = .ok (.aload_n 0, 1) := by decide +kernel
theorem dX12_init_1 : decode cX12_init 1 = .ok (.invokespecial 1, 3) := by decide +kernel
theorem dX12_init_4 : decode cX12_init 4 = .ok (.aload_n 0, 1) := by decide +kernel
theorem dX12_init_5 : decode cX12_init 5 = .ok (.iconst 0, 1) := by decide +kernel
theorem dX12_init_6 : decode cX12_init 6 = .ok (.putfield 7, 3) := by decide +kernel
theorem dX12_init_9 : decode cX12_init 9 = .ok (.aload_n 0, 1) := by decide +kernel
theorem dX12_init_10 : decode cX12_init 10 = .ok (.iconst 0, 1) := by decide +kernel
theorem dX12_init_11 : decode cX12_init 11 = .ok (.putfield 13, 3) := by decide +kernel
theorem dX12_init_14 : decode cX12_init 14 = .ok (.aload_n 0, 1) := by decide +kernel
theorem dX12_init_15 : decode cX12_init 15 = .ok (.iconst 0, 1) := by decide +kernel
theorem dX12_init_16 : decode cX12_init 16 = .ok (.putfield 16, 3) := by decide +kernel
theorem dX12_init_19 : decode cX12_init 19 = .ok (.aload_n 0, 1) := by decide +kernel
theorem dX12_init_20 : decode cX12_init 20 = .ok (.bipush 8, 2) := by decide +kernel
theorem dX12_init_22 : decode cX12_init 22 = .ok (.newarray .int, 2) := by decide +kernel
theorem dX12_init_24 : decode cX12_init 24 = .ok (.putfield 19, 3) := by decide +kernel
theorem dX12_init_27 : decode cX12_init 27 = .ok (.aload_n 0, 1) := by decide +kernel
theorem dX12_init_28 : decode cX12_init 28 = .ok (.iconst 5, 1) := by decide +kernel
theorem dX12_init_29 : decode cX12_init 29 = .ok (.newarray .int, 2) := by decide +kernel
theorem dX12_init_31 : decode cX12_init 31 = .ok (.putfield 23, 3) := by decide +kernel
theorem dX12_init_34 : decode cX12_init 34 = .ok (.aload_n 0, 1) := by decide +kernel
theorem dX12_init_35 : decode cX12_init 35 = .ok (.iconst 5, 1) := by decide +kernel
theorem dX12_init_36 : decode cX12_init 36 = .ok (.newarray .int, 2) := by decide +kernel
theorem dX12_init_38 : decode cX12_init 38 = .ok (.putfield 26, 3) := by decide +kernel
theorem dX12_init_41 : decode cX12_init 41 = .ok (.aload_n 0, 1) := by decide +kernel
theorem dX12_init_42 : decode cX12_init 42 = .ok (.iconst 5, 1) := by decide +kernel
theorem dX12_init_43 : decode cX12_init 43 = .ok (.newarray .int, 2) := by decide +kernel
theorem dX12_init_45 : decode cX12_init 45 = .ok (.putfield 29, 3) := by decide +kernel
theorem dX12_init_48 : decode cX12_init 48 = .ok (.aload_n 0, 1) := by decide +kernel
theorem dX12_init_49 : decode cX12_init 49 = .ok (.bipush 20, 2) := by decide +kernel
theorem dX12_init_51 : decode cX12_init 51 = .ok (.newarray .int, 2) := by decide +kernel
theorem dX12_init_53 : decode cX12_init 53 = .ok (.putfield 32, 3) := by decide +kernel
theorem dX12_init_56 : decode cX12_init 56 = .ok (.aload_n 0, 1) := by decide +kernel
theorem dX12_init_57 : decode cX12_init 57 = .ok (.iconst 0, 1) := by decide +kernel
theorem dX12_init_58 : decode cX12_init 58 = .ok (.putfield 35, 3) := by decide +kernel
theorem dX12_init_61 : decode cX12_init 61 = .ok (.aload_n 0, 1) := by decide +kernel
theorem dX12_init_62 : decode cX12_init 62 = .ok (.iconst (-1), 1) := by decide +kernel
theorem dX12_init_63 : decode cX12_init 63 = .ok (.putfield 38, 3) := by decide +kernel
theorem dX12_init_66 : decode cX12_init 66 = .ok (.aload_n 0, 1) := by decide +kernel
theorem dX12_init_67 : decode cX12_init 67 = .ok (.iconst 0, 1) := by decide +kernel
theorem dX12_init_68 : decode cX12_init 68 = .ok (.putfield 41, 3) := by decide +kernel
theorem dX12_init_71 : decode cX12_init 71 = .ok (.aload_n 0, 1) := by decide +kernel
theorem dX12_init_72 : decode cX12_init 72 = .ok (.iconst 0, 1) := by decide +kernel
theorem dX12_init_73 : decode cX12_init 73 = .ok (.putfield 44, 3) := by decide +kernel
theorem dX12_init_76 : decode cX12_init 76 = .ok (.aload_n 0, 1) := by decide +kernel
theorem dX12_init_77 : decode cX12_init 77 = .ok (.iconst 0, 1) := by decide +kernel
theorem dX12_init_78 : decode cX12_init 78 = .ok (.putfield 47, 3) := by decide +kernel
theorem dX12_init_81 : decode cX12_init 81 = .ok (.aload_n 0, 1) := by decide +kernel
theorem dX12_init_82 : decode cX12_init 82 = .ok (.bipush 100, 2) := by decide +kernel
theorem dX12_init_84 : decode cX12_init 84 = .ok (.newarray .int, 2) := by decide +kernel
theorem dX12_init_86 : decode cX12_init 86 = .ok (.putfield 50, 3) := by decide +kernel
theorem dX12_init_89 : decode cX12_init 89 = .ok (.aload_n 0, 1) := by decide +kernel
theorem dX12_init_90 : decode cX12_init 90 = .ok (.bipush 6, 2) := by decide +kernel
theorem dX12_init_92 : decode cX12_init 92 = .ok (.newarray .int, 2) := by decide +kernel
theorem dX12_init_94 : decode cX12_init 94 = .ok (.putfield 53, 3) := by decide +kernel
theorem dX12_init_97 : decode cX12_init 97 = .ok (.aload_n 0, 1) := by decide +kernel
theorem dX12_init_98 : decode cX12_init 98 = .ok (.bipush 60, 2) := by decide +kernel
theorem dX12_init_100 : decode cX12_init 100 = .ok (.newarray .int, 2) := by decide +kernel
theorem dX12_init_102 : decode cX12_init 102 = .ok (.putfield 56, 3) := by decide +kernel
theorem dX12_init_105 : decode cX12_init 105 = .ok (.aload_n 0, 1) := by decide +kernel
theorem dX12_init_106 : decode cX12_init 106 = .ok (.bipush 60, 2) := by decide +kernel
theorem dX12_init_108 : decode cX12_init 108 = .ok (.newarray .int, 2) := by decide +kernel
theorem dX12_init_110 : decode cX12_init 110 = .ok (.putfield 59, 3) := by decide +kernel
theorem dX12_init_113 : decode cX12_init 113 = .ok (.aload_n 0, 1) := by decide +kernel
theorem dX12_init_114 : decode cX12_init 114 = .ok (.bipush 60, 2) := by decide +kernel
theorem dX12_init_116 : decode cX12_init 116 = .ok (.newarray .int, 2) := by decide +kernel
theorem dX12_init_118 : decode cX12_init 118 = .ok (.putfield 62, 3) := by decide +kernel
theorem dX12_init_121 : decode cX12_init 121 = .ok (.aload_n 0, 1) := by decide +kernel
theorem dX12_init_122 : decode cX12_init 122 = .ok (.bipush 60, 2) := by decide +kernel
theorem dX12_init_124 : decode cX12_init 124 = .ok (.newarray .int, 2) := by decide +kernel
theorem dX12_init_126 : decode cX12_init 126 = .ok (.putfield 65, 3) := by decide +kernel
theorem dX12_init_129 : decode cX12_init 129 = .ok (.aload_n 0, 1) := by decide +kernel
theorem dX12_init_130 : decode cX12_init 130 = .ok (.sipush 600, 3) := by decide +kernel
theorem dX12_init_133 : decode cX12_init 133 = .ok (.newarray .int, 2) := by decide +kernel
theorem dX12_init_135 : decode cX12_init 135 = .ok (.putfield 68, 3) := by decide +kernel
theorem dX12_init_138 : decode cX12_init 138 = .ok (.aload_n 0, 1) := by decide +kernel
theorem dX12_init_139 : decode cX12_init 139 = .ok (.bipush 101, 2) := by decide +kernel
theorem dX12_init_141 : decode cX12_init 141 = .ok (.newarray .int, 2) := by decide +kernel
theorem dX12_init_143 : decode cX12_init 143 = .ok (.putfield 71, 3) := by decide +kernel
theorem dX12_init_146 : decode cX12_init 146 = .ok (.aload_n 0, 1) := by decide +kernel
theorem dX12_init_147 : decode cX12_init 147 = .ok (.iconst 0, 1) := by decide +kernel
theorem dX12_init_148 : decode cX12_init 148 = .ok (.putfield 74, 3) := by decide +kernel
theorem dX12_init_151 : decode cX12_init 151 = .ok (.aload_n 0, 1) := by decide +kernel
theorem dX12_init_152 : decode cX12_init 152 = .ok (.iconst 0, 1) := by decide +kernel
theorem dX12_init_153 : decode cX12_init 153 = .ok (.putfield 77, 3) := by decide +kernel
theorem dX12_init_156 : decode cX12_init 156 = .ok (.aload_n 0, 1) := by decide +kernel
theorem dX12_init_157 : decode cX12_init 157 = .ok (.iconst 0, 1) := by decide +kernel
theorem dX12_init_158 : decode cX12_init 158 = .ok (.putfield 80, 3) := by decide +kernel
theorem dX12_init_161 : decode cX12_init 161 = .ok (.aload_n 0, 1) := by decide +kernel
theorem dX12_init_162 : decode cX12_init 162 = .ok (.bipush 16, 2) := by decide +kernel
theorem dX12_init_164 : decode cX12_init 164 = .ok (.newarray .int, 2) := by decide +kernel
theorem dX12_init_166 : decode cX12_init 166 = .ok (.dup, 1) := by decide +kernel
theorem dX12_init_167 : decode cX12_init 167 = .ok (.iconst 0, 1) := by decide +kernel
theorem dX12_init_168 : decode cX12_init 168 = .ok (.bipush 111, 2) := by decide +kernel
theorem dX12_init_170 : decode cX12_init 170 = .ok (.iastore, 1) := by decide +kernel
theorem dX12_init_171 : decode cX12_init 171 = .ok (.dup, 1) := by decide +kernel
theorem dX12_init_172 : decode cX12_init 172 = .ok (.iconst 1, 1) := by decide +kernel
theorem dX12_init_173 : decode cX12_init 173 = .ok (.bipush 112, 2) := by decide +kernel
theorem dX12_init_175 : decode cX12_init 175 = .ok (.iastore, 1) := by decide +kernel
theorem dX12_init_176 : decode cX12_init 176 = .ok (.dup, 1) := by decide +kernel
theorem dX12_init_177 : decode cX12_init 177 = .ok (.iconst 2, 1) := by decide +kernel
theorem dX12_init_178 : decode cX12_init 178 = .ok (.bipush 101, 2) := by decide +kernel
theorem dX12_init_180 : decode cX12_init 180 = .ok (.iastore, 1) := by decide +kernel
theorem dX12_init_181 : decode cX12_init 181 = .ok (.dup, 1) := by decide +kernel
theorem dX12_init_182 : decode cX12_init 182 = .ok (.iconst 3, 1) := by decide +kernel
theorem dX12_init_183 : decode cX12_init 183 = .ok (.bipush 110, 2) := by decide +kernel
theorem dX12_init_185 : decode cX12_init 185 = .ok (.iastore, 1) := by decide +kernel
theorem dX12_init_186 : decode cX12_init 186 = .ok (.dup, 1) := by decide +kernel
theorem dX12_init_187 : decode cX12_init 187 = .ok (.iconst 4, 1) := by decide +kernel
theorem dX12_init_188 : decode cX12_init 188 = .ok (.bipush 115, 2) := by decide +kernel
theorem dX12_init_190 : decode cX12_init 190 = .ok (.iastore, 1) := by decide +kernel
theorem dX12_init_191 : decode cX12_init 191 = .ok (.dup, 1) := by decide +kernel
theorem dX12_init_192 : decode cX12_init 192 = .ok (.iconst 5, 1) := by decide +kernel
theorem dX12_init_193 : decode cX12_init 193 = .ok (.bipush 104, 2) := by decide +kernel
theorem dX12_init_195 : decode cX12_init 195 = .ok (.iastore, 1) := by decide +kernel
theorem dX12_init_196 : decode cX12_init 196 = .ok (.dup, 1) := by decide +kernel
theorem dX12_init_197 : decode cX12_init 197 = .ok (.bipush 6, 2) := by decide +kernel
theorem dX12_init_199 : decode cX12_init 199 = .ok (.bipush 117, 2) := by decide +kernel
theorem dX12_init_201 : decode cX12_init 201 = .ok (.iastore, 1) := by decide +kernel
theorem dX12_init_202 : decode cX12_init 202 = .ok (.dup, 1) := by decide +kernel
theorem dX12_init_203 : decode cX12_init 203 = .ok (.bipush 7, 2) := by decide +kernel
theorem dX12_init_205 : decode cX12_init 205 = .ok (.bipush 116, 2) := by decide +kernel
theorem dX12_init_207 : decode cX12_init 207 = .ok (.iastore, 1) := by decide +kernel
theorem dX12_init_208 : decode cX12_init 208 = .ok (.dup, 1) := by decide +kernel
theorem dX12_init_209 : decode cX12_init 209 = .ok (.bipush 8, 2) := by decide +kernel
theorem dX12_init_211 : decode cX12_init 211 = .ok (.bipush 116, 2) := by decide +kernel
theorem dX12_init_213 : decode cX12_init 213 = .ok (.iastore, 1) := by decide +kernel
theorem dX12_init_214 : decode cX12_init 214 = .ok (.dup, 1) := by decide +kernel
theorem dX12_init_215 : decode cX12_init 215 = .ok (.bipush 9, 2) := by decide +kernel
theorem dX12_init_217 : decode cX12_init 217 = .ok (.bipush 117, 2) := by decide +kernel
theorem dX12_init_219 : decode cX12_init 219 = .ok (.iastore, 1) := by decide +kernel
theorem dX12_init_220 : decode cX12_init 220 = .ok (.dup, 1) := by decide +kernel
theorem dX12_init_221 : decode cX12_init 221 = .ok (.bipush 10, 2) := by decide +kernel
theorem dX12_init_223 : decode cX12_init 223 = .ok (.bipush 114, 2) := by decide +kernel
theorem dX12_init_225 : decode cX12_init 225 = .ok (.iastore, 1) := by decide +kernel
theorem dX12_init_226 : decode cX12_init 226 = .ok (.dup, 1) := by decide +kernel
theorem dX12_init_227 : decode cX12_init 227 = .ok (.bipush 11, 2) := by decide +kernel
theorem dX12_init_229 : decode cX12_init 229 = .ok (.bipush 110, 2) := by decide +kernel
theorem dX12_init_231 : decode cX12_init 231 = .ok (.iastore, 1) := by decide +kernel
theorem dX12_init_232 : decode cX12_init 232 = .ok (.dup, 1) := by decide +kernel
theorem dX12_init_233 : decode cX12_init 233 = .ok (.bipush 12, 2) := by decide +kernel
theorem dX12_init_235 : decode cX12_init 235 = .ok (.bipush 110, 2) := by decide +kernel
theorem dX12_init_237 : decode cX12_init 237 = .ok (.iastore, 1) := by decide +kernel
theorem dX12_init_238 : decode cX12_init 238 = .ok (.dup, 1) := by decide +kernel
theorem dX12_init_239 : decode cX12_init 239 = .ok (.bipush 13, 2) := by decide +kernel
theorem dX12_init_241 : decode cX12_init 241 = .ok (.bipush 101, 2) := by decide +kernel
theorem dX12_init_243 : decode cX12_init 243 = .ok (.iastore, 1) := by decide +kernel
theorem dX12_init_244 : decode cX12_init 244 = .ok (.dup, 1) := by decide +kernel
theorem dX12_init_245 : decode cX12_init 245 = .ok (.bipush 14, 2) := by decide +kernel
theorem dX12_init_247 : decode cX12_init 247 = .ok (.bipush 97, 2) := by decide +kernel
theorem dX12_init_249 : decode cX12_init 249 = .ok (.iastore, 1) := by decide +kernel
theorem dX12_init_250 : decode cX12_init 250 = .ok (.dup, 1) := by decide +kernel
theorem dX12_init_251 : decode cX12_init 251 = .ok (.bipush 15, 2) := by decide +kernel
theorem dX12_init_253 : decode cX12_init 253 = .ok (.bipush 114, 2) := by decide +kernel
theorem dX12_init_255 : decode cX12_init 255 = .ok (.iastore, 1) := by decide +kernel
theorem dX12_init_256 : decode cX12_init 256 = .ok (.putfield 83, 3) := by decide +kernel
theorem dX12_init_259 : decode cX12_init 259 = .ok (.aload_n 0, 1) := by decide +kernel
theorem dX12_init_260 : decode cX12_init 260 = .ok (.bipush 100, 2) := by decide +kernel
theorem dX12_init_262 : decode cX12_init 262 = .ok (.newarray .boolean, 2) := by decide +kernel
theorem dX12_init_264 : decode cX12_init 264 = .ok (.putfield 86, 3) := by decide +kernel
theorem dX12_init_267 : decode cX12_init 267 = .ok (.aload_n 0, 1) := by decide +kernel
theorem dX12_init_268 : decode cX12_init 268 = .ok (.sipush 1024, 3) := by decide +kernel
theorem dX12_init_271 : decode cX12_init 271 = .ok (.newarray .boolean, 2) := by decide +kernel
theorem dX12_init_273 : decode cX12_init 273 = .ok (.putfield 90, 3) := by decide +kernel
theorem dX12_init_276 : decode cX12_init 276 = .ok (.aload_n 0, 1) := by decide +kernel
theorem dX12_init_277 : decode cX12_init 277 = .ok (.iconst 5, 1) := by decide +kernel
theorem dX12_init_278 : decode cX12_init 278 = .ok (.newarray .int, 2) := by decide +kernel
theorem dX12_init_280 : decode cX12_init 280 = .ok (.putfield 93, 3) := by decide +kernel
theorem dX12_init_283 : decode cX12_init 283 = .ok (.aload_n 0, 1) := by decide +kernel
theorem dX12_init_284 : decode cX12_init 284 = .ok (.iconst 5, 1) := by decide +kernel
theorem dX12_init_285 : decode cX12_init 285 = .ok (.newarray .int, 2) := by decide +kernel
theorem dX12_init_287 : decode cX12_init 287 = .ok (.putfield 96, 3) := by decide +kernel
theorem dX12_init_290 : decode cX12_init 290 = .ok (.aload_n 0, 1) := by decide +kernel
theorem dX12_init_291 : decode cX12_init 291 = .ok (.iconst 0, 1) := by decide +kernel
theorem dX12_init_292 : decode cX12_init 292 = .ok (.putfield 99, 3) := by decide +kernel
theorem dX12_init_295 : decode cX12_init 295 = .ok (.aload_n 0, 1) := by decide +kernel
theorem dX12_init_296 : decode cX12_init 296 = .ok (.iconst 5, 1) := by decide +kernel
theorem dX12_init_297 : decode cX12_init 297 = .ok (.newarray .int, 2) := by decide +kernel
theorem dX12_init_299 : decode cX12_init 299 = .ok (.putfield 102, 3) := by decide +kernel
theorem dX12_init_302 : decode cX12_init 302 = .ok (.aload_n 0, 1) := by decide +kernel
theorem dX12_init_303 : decode cX12_init 303 = .ok (.iconst 5, 1) := by decide +kernel
theorem dX12_init_304 : decode cX12_init 304 = .ok (.newarray .int, 2) := by decide +kernel
theorem dX12_init_306 : decode cX12_init 306 = .ok (.putfield 105, 3) := by decide +kernel
theorem dX12_init_309 : decode cX12_init 309 = .ok (.aload_n 0, 1) := by decide +kernel
theorem dX12_init_310 : decode cX12_init 310 = .ok (.iconst 0, 1) := by decide +kernel
theorem dX12_init_311 : decode cX12_init 311 = .ok (.putfield 108, 3) := by decide +kernel
theorem dX12_init_314 : decode cX12_init 314 = .ok (.aload_n 0, 1) := by decide +kernel
theorem dX12_init_315 : decode cX12_init 315 = .ok (.iconst 0, 1) := by decide +kernel
theorem dX12_init_316 : decode cX12_init 316 = .ok (.putfield 111, 3) := by decide +kernel
theorem dX12_init_319 : decode cX12_init 319 = .ok (.aload_n 0, 1) := by decide +kernel
theorem dX12_init_320 : decode cX12_init 320 = .ok (.bipush 8, 2) := by decide +kernel
theorem dX12_init_322 : decode cX12_init 322 = .ok (.newarray .int, 2) := by decide +kernel
theorem dX12_init_324 : decode cX12_init 324 = .ok (.putfield 114, 3) := by decide +kernel
theorem dX12_init_327 : decode cX12_init 327 = .ok (.aload_n 0, 1) := by decide +kernel
theorem dX12_init_328 : decode cX12_init 328 = .ok (.bipush 8, 2) := by decide +kernel
theorem dX12_init_330 : decode cX12_init 330 = .ok (.newarray .int, 2) := by decide +kernel
theorem dX12_init_332 : decode cX12_init 332 = .ok (.putfield 117, 3) := by decide +kernel
theorem dX12_init_335 : decode cX12_init 335 = .ok (.aload_n 0, 1) := by decide +kernel
theorem dX12_init_336 : decode cX12_init 336 = .ok (.bipush 8, 2) := by decide +kernel
theorem dX12_init_338 : decode cX12_init 338 = .ok (.newarray .int, 2) := by decide +kernel
theorem dX12_init_340 : decode cX12_init 340 = .ok (.putfield 120, 3) := by decide +kernel
theorem dX12_init_343 : decode cX12_init 343 = .ok (.aload_n 0, 1) := by decide +kernel
theorem dX12_init_344 : decode cX12_init 344 = .ok (.iconst 0, 1) := by decide +kernel
theorem dX12_init_345 : decode cX12_init 345 = .ok (.putfield 123, 3) := by decide +kernel
theorem dX12_init_348 : decode cX12_init 348 = .ok (.aload_n 0, 1) := by decide +kernel
theorem dX12_init_349 : decode cX12_init 349 = .ok (.iconst (-1), 1) := by decide +kernel
theorem dX12_init_350 : decode cX12_init 350 = .ok (.putfield 127, 3) := by decide +kernel
theorem dX12_init_353 : decode cX12_init 353 = .ok (.aload_n 0, 1) := by decide +kernel
theorem dX12_init_354 : decode cX12_init 354 = .ok (.iconst 0, 1) := by decide +kernel
theorem dX12_init_355 : decode cX12_init 355 = .ok (.putfield 130, 3) := by decide +kernel
theorem dX12_init_358 : decode cX12_init 358 = .ok (.aload_n 0, 1) := by decide +kernel
theorem dX12_init_359 : decode cX12_init 359 = .ok (.iconst 0, 1) := by decide +kernel
theorem dX12_init_360 : decode cX12_init 360 = .ok (.putfield 133, 3) := by decide +kernel
theorem dX12_init_363 : decode cX12_init 363 = .ok (.aload_n 0, 1) := by decide +kernel
theorem dX12_init_364 : decode cX12_init 364 = .ok (.iconst 0, 1) := by decide +kernel
theorem dX12_init_365 : decode cX12_init 365 = .ok (.putfield 136, 3) := by decide +kernel
theorem dX12_init_368 : decode cX12_init 368 = .ok (.aload_n 0, 1) := by decide +kernel
theorem dX12_init_369 : decode cX12_init 369 = .ok (.iconst 0, 1) := by decide +kernel
theorem dX12_init_370 : decode cX12_init 370 = .ok (.putfield 139, 3) := by decide +kernel
theorem dX12_init_373 : decode cX12_init 373 = .ok (.aload_n 0, 1) := by decide +kernel
theorem dX12_init_374 : decode cX12_init 374 = .ok (.iconst 0, 1) := by decide +kernel
theorem dX12_init_375 : decode cX12_init 375 = .ok (.putfield 142, 3) := by decide +kernel
theorem dX12_init_378 : decode cX12_init 378 = .ok (.aload_n 0, 1) := by decide +kernel
theorem dX12_init_379 : decode cX12_init 379 = .ok (.iconst 0, 1) := by decide +kernel
theorem dX12_init_380 : decode cX12_init 380 = .ok (.putfield 145, 3) := by decide +kernel
theorem dX12_init_383 : decode cX12_init 383 = .ok (.aload_n 0, 1) := by decide +kernel
theorem dX12_init_384 : decode cX12_init 384 = .ok (.bipush 8, 2) := by decide +kernel
theorem dX12_init_386 : decode cX12_init 386 = .ok (.newarray .int, 2) := by decide +kernel
theorem dX12_init_388 : decode cX12_init 388 = .ok (.putfield 148, 3) := by decide +kernel
theorem dX12_init_391 : decode cX12_init 391 = .ok (.aload_n 0, 1) := by decide +kernel
theorem dX12_init_392 : decode cX12_init 392 = .ok (.iconst 5, 1) := by decide +kernel
theorem dX12_init_393 : decode cX12_init 393 = .ok (.newarray .int, 2) := by decide +kernel
theorem dX12_init_395 : decode cX12_init 395 = .ok (.putfield 151, 3) := by decide +kernel
theorem dX12_init_398 : decode cX12_init 398 = .ok (.aload_n 0, 1) := by decide +kernel
theorem dX12_init_399 : decode cX12_init 399 = .ok (.iconst 5, 1) := by decide +kernel
theorem dX12_init_400 : decode cX12_init 400 = .ok (.newarray .int, 2) := by decide +kernel
theorem dX12_init_402 : decode cX12_init 402 = .ok (.putfield 154, 3) := by decide +kernel
theorem dX12_init_405 : decode cX12_init 405 = .ok (.aload_n 0, 1) := by decide +kernel
theorem dX12_init_406 : decode cX12_init 406 = .ok (.iconst 5, 1) := by decide +kernel
theorem dX12_init_407 : decode cX12_init 407 = .ok (.newarray .int, 2) := by decide +kernel
theorem dX12_init_409 : decode cX12_init 409 = .ok (.putfield 157, 3) := by decide +kernel
theorem dX12_init_412 : decode cX12_init 412 = .ok (.aload_n 0, 1) := by decide +kernel
theorem dX12_init_413 : decode cX12_init 413 = .ok (.bipush 20, 2) := by decide +kernel
theorem dX12_init_415 : decode cX12_init 415 = .ok (.newarray .int, 2) := by decide +kernel
theorem dX12_init_417 : decode cX12_init 417 = .ok (.putfield 160, 3) := by decide +kernel
theorem dX12_init_420 : decode cX12_init 420 = .ok (.aload_n 0, 1) := by decide +kernel
theorem dX12_init_421 : decode cX12_init 421 = .ok (.iconst 5, 1) := by decide +kernel
theorem dX12_init_422 : decode cX12_init 422 = .ok (.newarray .int, 2) := by decide +kernel
theorem dX12_init_424 : decode cX12_init 424 = .ok (.putfield 163, 3) := by decide +kernel
theorem dX12_init_427 : decode cX12_init 427 = .ok (.aload_n 0, 1) := by decide +kernel
theorem dX12_init_428 : decode cX12_init 428 = .ok (.iconst 5, 1) := by decide +kernel
theorem dX12_init_429 : decode cX12_init 429 = .ok (.newarray .int, 2) := by decide +kernel
theorem dX12_init_431 : decode cX12_init 431 = .ok (.putfield 166, 3) := by decide +kernel
theorem dX12_init_434 : decode cX12_init 434 = .ok (.aload_n 0, 1) := by decide +kernel
theorem dX12_init_435 : decode cX12_init 435 = .ok (.bipush 8, 2) := by decide +kernel
theorem dX12_init_437 : decode cX12_init 437 = .ok (.newarray .int, 2) := by decide +kernel
theorem dX12_init_439 : decode cX12_init 439 = .ok (.putfield 169, 3) := by decide +kernel
theorem dX12_init_442 : decode cX12_init 442 = .ok (.aload_n 0, 1) := by decide +kernel
theorem dX12_init_443 : decode cX12_init 443 = .ok (.bipush 8, 2) := by decide +kernel
theorem dX12_init_445 : decode cX12_init 445 = .ok (.newarray .int, 2) := by decide +kernel
theorem dX12_init_447 : decode cX12_init 447 = .ok (.putfield 172, 3) := by decide +kernel
theorem dX12_init_450 : decode cX12_init 450 = .ok (.aload_n 0, 1) := by decide +kernel
theorem dX12_init_451 : decode cX12_init 451 = .ok (.bipush 8, 2) := by decide +kernel
theorem dX12_init_453 : decode cX12_init 453 = .ok (.newarray .int, 2) := by decide +kernel
theorem dX12_init_455 : decode cX12_init 455 = .ok (.putfield 175, 3) := by decide +kernel
theorem dX12_init_458 : decode cX12_init 458 = .ok (.aload_n 0, 1) := by decide +kernel
theorem dX12_init_459 : decode cX12_init 459 = .ok (.iconst 0, 1) := by decide +kernel
theorem dX12_init_460 : decode cX12_init 460 = .ok (.putfield 178, 3) := by decide +kernel
theorem dX12_init_463 : decode cX12_init 463 = .ok (.aload_n 0, 1) := by decide +kernel
theorem dX12_init_464 : decode cX12_init 464 = .ok (.bipush 20, 2) := by decide +kernel
theorem dX12_init_466 : decode cX12_init 466 = .ok (.newarray .int, 2) := by decide +kernel
theorem dX12_init_468 : decode cX12_init 468 = .ok (.putfield 181, 3) := by decide +kernel
theorem dX12_init_471 : decode cX12_init 471 = .ok (.aload_n 0, 1) := by decide +kernel
theorem dX12_init_472 : decode cX12_init 472 = .ok (.bipush 6, 2) := by decide +kernel
theorem dX12_init_474 : decode cX12_init 474 = .ok (.newarray .int, 2) := by decide +kernel
theorem dX12_init_476 : decode cX12_init 476 = .ok (.dup, 1) := by decide +kernel
theorem dX12_init_477 : decode cX12_init 477 = .ok (.iconst 0, 1) := by decide +kernel
theorem dX12_init_478 : decode cX12_init 478 = .ok (.iconst (-1), 1) := by decide +kernel
theorem dX12_init_479 : decode cX12_init 479 = .ok (.iastore, 1) := by decide +kernel
theorem dX12_init_480 : decode cX12_init 480 = .ok (.dup, 1) := by decide +kernel
theorem dX12_init_481 : decode cX12_init 481 = .ok (.iconst 1, 1) := by decide +kernel
theorem dX12_init_482 : decode cX12_init 482 = .ok (.iconst (-1), 1) := by decide +kernel
theorem dX12_init_483 : decode cX12_init 483 = .ok (.iastore, 1) := by decide +kernel
theorem dX12_init_484 : decode cX12_init 484 = .ok (.dup, 1) := by decide +kernel
theorem dX12_init_485 : decode cX12_init 485 = .ok (.iconst 2, 1) := by decide +kernel
theorem dX12_init_486 : decode cX12_init 486 = .ok (.iconst (-1), 1) := by decide +kernel
theorem dX12_init_487 : decode cX12_init 487 = .ok (.iastore, 1) := by decide +kernel
theorem dX12_init_488 : decode cX12_init 488 = .ok (.dup, 1) := by decide +kernel
theorem dX12_init_489 : decode cX12_init 489 = .ok (.iconst 3, 1) := by decide +kernel
theorem dX12_init_490 : decode cX12_init 490 = .ok (.iconst (-1), 1) := by decide +kernel
theorem dX12_init_491 : decode cX12_init 491 = .ok (.iastore, 1) := by decide +kernel
theorem dX12_init_492 : decode cX12_init 492 = .ok (.dup, 1) := by decide +kernel
theorem dX12_init_493 : decode cX12_init 493 = .ok (.iconst 4, 1) := by decide +kernel
theorem dX12_init_494 : decode cX12_init 494 = .ok (.iconst (-1), 1) := by decide +kernel
theorem dX12_init_495 : decode cX12_init 495 = .ok (.iastore, 1) := by decide +kernel
theorem dX12_init_496 : decode cX12_init 496 = .ok (.dup, 1) := by decide +kernel
theorem dX12_init_497 : decode cX12_init 497 = .ok (.iconst 5, 1) := by decide +kernel
theorem dX12_init_498 : decode cX12_init 498 = .ok (.iconst (-1), 1) := by decide +kernel
theorem dX12_init_499 : decode cX12_init 499 = .ok (.iastore, 1) := by decide +kernel
theorem dX12_init_500 : decode cX12_init 500 = .ok (.putfield 184, 3) := by decide +kernel
theorem dX12_init_503 : decode cX12_init 503 = .ok (.aload_n 0, 1) := by decide +kernel
theorem dX12_init_504 : decode cX12_init 504 = .ok (.bipush 6, 2) := by decide +kernel
theorem dX12_init_506 : decode cX12_init 506 = .ok (.newarray .int, 2) := by decide +kernel
theorem dX12_init_508 : decode cX12_init 508 = .ok (.putfield 187, 3) := by decide +kernel
theorem dX12_init_511 : decode cX12_init 511 = .ok (.aload_n 0, 1) := by decide +kernel
theorem dX12_init_512 : decode cX12_init 512 = .ok (.sipush 360, 3) := by decide +kernel
theorem dX12_init_515 : decode cX12_init 515 = .ok (.newarray .long, 2) := by decide +kernel
theorem dX12_init_517 : decode cX12_init 517 = .ok (.putfield 190, 3) := by decide +kernel
theorem dX12_init_520 : decode cX12_init 520 = .ok (.aload_n 0, 1) := by decide +kernel
theorem dX12_init_521 : decode cX12_init 521 = .ok (.bipush 60, 2) := by decide +kernel
theorem dX12_init_523 : decode cX12_init 523 = .ok (.newarray .long, 2) := by decide +kernel
theorem dX12_init_525 : decode cX12_init 525 = .ok (.putfield 194, 3) := by decide +kernel
theorem dX12_init_528 : decode cX12_init 528 = .ok (.return_, 1) := by decide +kernel
theorem dX12_in_0 : decode cX12_in 0 = .ok (.iload_n 1, 1) := by decide +kernel
theorem dX12_in_1 : decode cX12_in 1 = .ok (.iload_n 2, 1) := by decide +kernel
theorem dX12_in_2 : decode cX12_in 2 = .ok (.if_icmp .lt 12, 3) := by decide +kernel
theorem dX12_in_5 : decode cX12_in 5 = .ok (.iload_n 1, 1) := by decide +kernel
theorem dX12_in_6 : decode cX12_in 6 = .ok (.iload_n 3, 1) := by decide +kernel
theorem dX12_in_7 : decode cX12_in 7 = .ok (.if_icmp .gt 7, 3) := by decide +kernel
theorem dX12_in_10 : decode cX12_in 10 = .ok (.iconst 1, 1) := by decide +kernel
theorem dX12_in_11 : decode cX12_in 11 = .ok (.goto 4, 3) := by decide +kernel
theorem dX12_in_14 : decode cX12_in 14 = .ok (.iconst 0, 1) := by decide +kernel
theorem dX12_in_15 : decode cX12_in 15 = .ok (.ireturn, 1) := by decide +kernel
theorem dX12_has_0 : decode cX12_has 0 = .ok (.iload_n 1, 1) := by decide +kernel
theorem dX12_has_1 : decode cX12_has 1 = .ok (.iload_n 2, 1) := by decide +kernel
theorem dX12_has_2 : decode cX12_has 2 = .ok (.ishr, 1) := by decide +kernel
theorem dX12_has_3 : decode cX12_has 3 = .ok (.iconst 1, 1) := by decide +kernel
theorem dX12_has_4 : decode cX12_has 4 = .ok (.iand, 1) := by decide +kernel
theorem dX12_has_5 : decode cX12_has 5 = .ok (.iconst 1, 1) := by decide +kernel
theorem dX12_has_6 : decode cX12_has 6 = .ok (.if_icmp .ne 7, 3) := by decide +kernel
theorem dX12_has_9 : decode cX12_has 9 = .ok (.iconst 1, 1) := by decide +kernel
theorem dX12_has_10 : decode cX12_has 10 = .ok (.goto 4, 3) := by decide +kernel
theorem dX12_has_13 : decode cX12_has 13 = .ok (.iconst 0, 1) := by decide +kernel
theorem dX12_has_14 : decode cX12_has 14 = .ok (.ireturn, 1) := by decide +kernel
theorem dX12_bits_0 : decode cX12_bits 0 = .ok (.iconst 0, 1) := by decide +kernel
theorem dX12_bits_1 : decode cX12_bits 1 = .ok (.istore_n 2, 1) := by decide +kernel
theorem dX12_bits_2 : decode cX12_bits 2 = .ok (.iconst 0, 1) := by decide +kernel
theorem dX12_bits_3 : decode cX12_bits 3 = .ok (.istore_n 3, 1) := by decide +kernel
theorem dX12_bits_4 : decode cX12_bits 4 = .ok (.iload_n 3, 1) := by decide +kernel
theorem dX12_bits_5 : decode cX12_bits 5 = .ok (.bipush 10, 2) := by decide +kernel
theorem dX12_bits_7 : decode cX12_bits 7 = .ok (.if_icmp .ge 26, 3) := by decide +kernel
theorem dX12_bits_10 : decode cX12_bits 10 = .ok (.iload_n 2, 1) := by decide +kernel
theorem dX12_bits_11 : decode cX12_bits 11 = .ok (.aload_n 0, 1) := by decide +kernel
theorem dX12_bits_12 : decode cX12_bits 12 = .ok (.iload_n 1, 1) := by decide +kernel
theorem dX12_bits_13 : decode cX12_bits 13 = .ok (.iload_n 3, 1) := by decide +kernel
theorem dX12_bits_14 : decode cX12_bits 14 = .ok (.invokevirtual 197, 3) := by decide +kernel
theorem dX12_bits_17 : decode cX12_bits 17 = .ok (.ifCond .eq 7, 3) := by decide +kernel
theorem dX12_bits_20 : decode cX12_bits 20 = .ok (.iconst 1, 1) := by decide +kernel
theorem dX12_bits_21 : decode cX12_bits 21 = .ok (.goto 4, 3) := by decide +kernel
theorem dX12_bits_24 : decode cX12_bits 24 = .ok (.iconst 0, 1) := by decide +kernel
theorem dX12_bits_25 : decode cX12_bits 25 = .ok (.iadd, 1) := by decide +kernel
theorem dX12_bits_26 : decode cX12_bits 26 = .ok (.istore_n 2, 1) := by decide +kernel
theorem dX12_bits_27 : decode cX12_bits 27 = .ok (.iinc 3 1, 3) := by decide +kernel
theorem dX12_bits_30 : decode cX12_bits 30 = .ok (.goto (-26), 3) := by decide +kernel
theorem dX12_bits_33 : decode cX12_bits 33 = .ok (.iload_n 2, 1) := by decide +kernel
theorem dX12_bits_34 : decode cX12_bits 34 = .ok (.ireturn, 1) := by decide +kernel
theorem dX12_isSign_0 : decode cX12_isSign 0 = .ok (.aload_n 0, 1) := by decide +kernel
theorem dX12_isSign_1 : decode cX12_isSign 1 = .ok (.iload_n 1, 1) := by decide +kernel
theorem dX12_isSign_2 : decode cX12_isSign 2 = .ok (.iconst 0, 1) := by decide +kernel
theorem dX12_isSign_3 : decode cX12_isSign 3 = .ok (.sipush 1023, 3) := by decide +kernel
theorem dX12_isSign_6 : decode cX12_isSign 6 = .ok (.invokevirtual 201, 3) := by decide +kernel
theorem dX12_isSign_9 : decode cX12_isSign 9 = .ok (.ireturn, 1) := by decide +kernel
theorem dX12_isWord_0 : decode cX12_isWord 0 = .ok (.aload_n 0, 1) := by decide +kernel
theorem dX12_isWord_1 : decode cX12_isWord 1 = .ok (.iload_n 1, 1) := by decide +kernel
theorem dX12_isWord_2 : decode cX12_isWord 2 = .ok (.iconst 0, 1) := by decide +kernel
theorem dX12_isWord_3 : decode cX12_isWord 3 = .ok (.aload_n 0, 1) := by decide +kernel
theorem dX12_isWord_4 : decode cX12_isWord 4 = .ok (.getfield 7, 3) := by decide +kernel
theorem dX12_isWord_7 : decode cX12_isWord 7 = .ok (.iconst 1, 1) := by decide +kernel
theorem dX12_isWord_8 : decode cX12_isWord 8 = .ok (.isub, 1) := by decide +kernel
theorem dX12_isWord_9 : decode cX12_isWord 9 = .ok (.invokevirtual 201, 3) := by decide +kernel
theorem dX12_isWord_12 : decode cX12_isWord 12 = .ok (.ireturn, 1) := by decide +kernel
theorem dX12_isSender_0 : decode cX12_isSender 0 = .ok (.aload_n 0, 1) := by decide +kernel
theorem dX12_isSender_1 : decode cX12_isSender 1 = .ok (.iload_n 1, 1) := by decide +kernel
theorem dX12_isSender_2 : decode cX12_isSender 2 = .ok (.iconst 0, 1) := by decide +kernel
theorem dX12_isSender_3 : decode cX12_isSender 3 = .ok (.aload_n 0, 1) := by decide +kernel
theorem dX12_isSender_4 : decode cX12_isSender 4 = .ok (.getfield 13, 3) := by decide +kernel
theorem dX12_isSender_7 : decode cX12_isSender 7 = .ok (.iconst 1, 1) := by decide +kernel
theorem dX12_isSender_8 : decode cX12_isSender 8 = .ok (.isub, 1) := by decide +kernel
theorem dX12_isSender_9 : decode cX12_isSender 9 = .ok (.invokevirtual 201, 3) := by decide +kernel
theorem dX12_isSender_12 : decode cX12_isSender 12 = .ok (.ireturn, 1) := by decide +kernel
theorem dX12_word_0 : decode cX12_word 0 = .ok (.aload_n 0, 1) := by decide +kernel
theorem dX12_word_1 : decode cX12_word 1 = .ok (.iload_n 1, 1) := by decide +kernel
theorem dX12_word_2 : decode cX12_word 2 = .ok (.invokevirtual 205, 3) := by decide +kernel
theorem dX12_word_5 : decode cX12_word 5 = .ok (.ifCond .ne 6, 3) := by decide +kernel
theorem dX12_word_8 : decode cX12_word 8 = .ok (.bipush (-2), 2) := by decide +kernel
theorem dX12_word_10 : decode cX12_word 10 = .ok (.ireturn, 1) := by decide +kernel
theorem dX12_word_11 : decode cX12_word 11 = .ok (.aload_n 0, 1) := by decide +kernel
theorem dX12_word_12 : decode cX12_word 12 = .ok (.getfield 7, 3) := by decide +kernel
theorem dX12_word_15 : decode cX12_word 15 = .ok (.bipush 8, 2) := by decide +kernel
theorem dX12_word_17 : decode cX12_word 17 = .ok (.if_icmp .ne 6, 3) := by decide +kernel
theorem dX12_word_20 : decode cX12_word 20 = .ok (.bipush (-4), 2) := by decide +kernel
theorem dX12_word_22 : decode cX12_word 22 = .ok (.ireturn, 1) := by decide +kernel
theorem dX12_word_23 : decode cX12_word 23 = .ok (.aload_n 0, 1) := by decide +kernel
theorem dX12_word_24 : decode cX12_word 24 = .ok (.getfield 19, 3) := by decide +kernel
theorem dX12_word_27 : decode cX12_word 27 = .ok (.aload_n 0, 1) := by decide +kernel
theorem dX12_word_28 : decode cX12_word 28 = .ok (.getfield 7, 3) := by decide +kernel
theorem dX12_word_31 : decode cX12_word 31 = .ok (.iload_n 1, 1) := by decide +kernel
theorem dX12_word_32 : decode cX12_word 32 = .ok (.iastore, 1) := by decide +kernel
theorem dX12_word_33 : decode cX12_word 33 = .ok (.aload_n 0, 1) := by decide +kernel
theorem dX12_word_34 : decode cX12_word 34 = .ok (.dup, 1) := by decide +kernel
theorem dX12_word_35 : decode cX12_word 35 = .ok (.getfield 7, 3) := by decide +kernel
theorem dX12_word_38 : decode cX12_word 38 = .ok (.iconst 1, 1) := by decide +kernel
theorem dX12_word_39 : decode cX12_word 39 = .ok (.iadd, 1) := by decide +kernel
theorem dX12_word_40 : decode cX12_word 40 = .ok (.putfield 7, 3) := by decide +kernel
theorem dX12_word_43 : decode cX12_word 43 = .ok (.aload_n 0, 1) := by decide +kernel
theorem dX12_word_44 : decode cX12_word 44 = .ok (.getfield 7, 3) := by decide +kernel
theorem dX12_word_47 : decode cX12_word 47 = .ok (.iconst 1, 1) := by decide +kernel
theorem dX12_word_48 : decode cX12_word 48 = .ok (.isub, 1) := by decide +kernel
theorem dX12_word_49 : decode cX12_word 49 = .ok (.ireturn, 1) := by decide +kernel
theorem dX12_alter_0 : decode cX12_alter 0 = .ok (.aload_n 0, 1) := by decide +kernel
theorem dX12_alter_1 : decode cX12_alter 1 = .ok (.iload_n 1, 1) := by decide +kernel
theorem dX12_alter_2 : decode cX12_alter 2 = .ok (.invokevirtual 209, 3) := by decide +kernel
theorem dX12_alter_5 : decode cX12_alter 5 = .ok (.ifCond .ne 5, 3) := by decide +kernel
theorem dX12_alter_8 : decode cX12_alter 8 = .ok (.iconst (-1), 1) := by decide +kernel
theorem dX12_alter_9 : decode cX12_alter 9 = .ok (.ireturn, 1) := by decide +kernel
theorem dX12_alter_10 : decode cX12_alter 10 = .ok (.aload_n 0, 1) := by decide +kernel
theorem dX12_alter_11 : decode cX12_alter 11 = .ok (.iload_n 2, 1) := by decide +kernel
theorem dX12_alter_12 : decode cX12_alter 12 = .ok (.invokevirtual 205, 3) := by decide +kernel
theorem dX12_alter_15 : decode cX12_alter 15 = .ok (.ifCond .ne 6, 3) := by decide +kernel
theorem dX12_alter_18 : decode cX12_alter 18 = .ok (.bipush (-2), 2) := by decide +kernel
theorem dX12_alter_20 : decode cX12_alter 20 = .ok (.ireturn, 1) := by decide +kernel
theorem dX12_alter_21 : decode cX12_alter 21 = .ok (.aload_n 0, 1) := by decide +kernel
theorem dX12_alter_22 : decode cX12_alter 22 = .ok (.getfield 19, 3) := by decide +kernel
theorem dX12_alter_25 : decode cX12_alter 25 = .ok (.iload_n 1, 1) := by decide +kernel
theorem dX12_alter_26 : decode cX12_alter 26 = .ok (.iaload, 1) := by decide +kernel
theorem dX12_alter_27 : decode cX12_alter 27 = .ok (.istore_n 3, 1) := by decide +kernel
theorem dX12_alter_28 : decode cX12_alter 28 = .ok (.aload_n 0, 1) := by decide +kernel
theorem dX12_alter_29 : decode cX12_alter 29 = .ok (.getfield 19, 3) := by decide +kernel
theorem dX12_alter_32 : decode cX12_alter 32 = .ok (.iload_n 1, 1) := by decide +kernel
theorem dX12_alter_33 : decode cX12_alter 33 = .ok (.iload_n 2, 1) := by decide +kernel
theorem dX12_alter_34 : decode cX12_alter 34 = .ok (.iastore, 1) := by decide +kernel
theorem dX12_alter_35 : decode cX12_alter 35 = .ok (.iload_n 3, 1) := by decide +kernel
theorem dX12_alter_36 : decode cX12_alter 36 = .ok (.ireturn, 1) := by decide +kernel
theorem dX12_sender_0 : decode cX12_sender 0 = .ok (.aload_n 0, 1) := by decide +kernel
theorem dX12_sender_1 : decode cX12_sender 1 = .ok (.iload_n 1, 1) := by decide +kernel
theorem dX12_sender_2 : decode cX12_sender 2 = .ok (.iconst 0, 1) := by decide +kernel
theorem dX12_sender_3 : decode cX12_sender 3 = .ok (.bipush 6, 2) := by decide +kernel
theorem dX12_sender_5 : decode cX12_sender 5 = .ok (.invokevirtual 201, 3) := by decide +kernel
theorem dX12_sender_8 : decode cX12_sender 8 = .ok (.ifCond .ne 5, 3) := by decide +kernel
theorem dX12_sender_11 : decode cX12_sender 11 = .ok (.iconst (-1), 1) := by decide +kernel
theorem dX12_sender_12 : decode cX12_sender 12 = .ok (.ireturn, 1) := by decide +kernel
theorem dX12_sender_13 : decode cX12_sender 13 = .ok (.aload_n 0, 1) := by decide +kernel
theorem dX12_sender_14 : decode cX12_sender 14 = .ok (.iload_n 2, 1) := by decide +kernel
theorem dX12_sender_15 : decode cX12_sender 15 = .ok (.iconst 0, 1) := by decide +kernel
theorem dX12_sender_16 : decode cX12_sender 16 = .ok (.bipush 9, 2) := by decide +kernel
theorem dX12_sender_18 : decode cX12_sender 18 = .ok (.invokevirtual 201, 3) := by decide +kernel
theorem dX12_sender_21 : decode cX12_sender 21 = .ok (.ifCond .ne 6, 3) := by decide +kernel
theorem dX12_sender_24 : decode cX12_sender 24 = .ok (.bipush (-2), 2) := by decide +kernel
theorem dX12_sender_26 : decode cX12_sender 26 = .ok (.ireturn, 1) := by decide +kernel
theorem dX12_sender_27 : decode cX12_sender 27 = .ok (.aload_n 0, 1) := by decide +kernel
theorem dX12_sender_28 : decode cX12_sender 28 = .ok (.getfield 13, 3) := by decide +kernel
theorem dX12_sender_31 : decode cX12_sender 31 = .ok (.iconst 5, 1) := by decide +kernel
theorem dX12_sender_32 : decode cX12_sender 32 = .ok (.if_icmp .ne 6, 3) := by decide +kernel
theorem dX12_sender_35 : decode cX12_sender 35 = .ok (.bipush (-4), 2) := by decide +kernel
theorem dX12_sender_37 : decode cX12_sender 37 = .ok (.ireturn, 1) := by decide +kernel
theorem dX12_sender_38 : decode cX12_sender 38 = .ok (.aload_n 0, 1) := by decide +kernel
theorem dX12_sender_39 : decode cX12_sender 39 = .ok (.getfield 23, 3) := by decide +kernel
theorem dX12_sender_42 : decode cX12_sender 42 = .ok (.aload_n 0, 1) := by decide +kernel
theorem dX12_sender_43 : decode cX12_sender 43 = .ok (.getfield 13, 3) := by decide +kernel
theorem dX12_sender_46 : decode cX12_sender 46 = .ok (.iload_n 1, 1) := by decide +kernel
theorem dX12_sender_47 : decode cX12_sender 47 = .ok (.iastore, 1) := by decide +kernel
theorem dX12_sender_48 : decode cX12_sender 48 = .ok (.aload_n 0, 1) := by decide +kernel
theorem dX12_sender_49 : decode cX12_sender 49 = .ok (.getfield 26, 3) := by decide +kernel
theorem dX12_sender_52 : decode cX12_sender 52 = .ok (.aload_n 0, 1) := by decide +kernel
theorem dX12_sender_53 : decode cX12_sender 53 = .ok (.getfield 13, 3) := by decide +kernel
theorem dX12_sender_56 : decode cX12_sender 56 = .ok (.iload_n 2, 1) := by decide +kernel
theorem dX12_sender_57 : decode cX12_sender 57 = .ok (.iastore, 1) := by decide +kernel
theorem dX12_sender_58 : decode cX12_sender 58 = .ok (.aload_n 0, 1) := by decide +kernel
theorem dX12_sender_59 : decode cX12_sender 59 = .ok (.getfield 29, 3) := by decide +kernel
theorem dX12_sender_62 : decode cX12_sender 62 = .ok (.aload_n 0, 1) := by decide +kernel
theorem dX12_sender_63 : decode cX12_sender 63 = .ok (.getfield 13, 3) := by decide +kernel
theorem dX12_sender_66 : decode cX12_sender 66 = .ok (.iconst 0, 1) := by decide +kernel
theorem dX12_sender_67 : decode cX12_sender 67 = .ok (.iastore, 1) := by decide +kernel
theorem dX12_sender_68 : decode cX12_sender 68 = .ok (.iconst 0, 1) := by decide +kernel
theorem dX12_sender_69 : decode cX12_sender 69 = .ok (.istore_n 3, 1) := by decide +kernel
theorem dX12_sender_70 : decode cX12_sender 70 = .ok (.iload_n 3, 1) := by decide +kernel
theorem dX12_sender_71 : decode cX12_sender 71 = .ok (.iconst 4, 1) := by decide +kernel
theorem dX12_sender_72 : decode cX12_sender 72 = .ok (.if_icmp .ge 23, 3) := by decide +kernel
theorem dX12_sender_75 : decode cX12_sender 75 = .ok (.aload_n 0, 1) := by decide +kernel
theorem dX12_sender_76 : decode cX12_sender 76 = .ok (.getfield 32, 3) := by decide +kernel
theorem dX12_sender_79 : decode cX12_sender 79 = .ok (.iconst 4, 1) := by decide +kernel
theorem dX12_sender_80 : decode cX12_sender 80 = .ok (.aload_n 0, 1) := by decide +kernel
theorem dX12_sender_81 : decode cX12_sender 81 = .ok (.getfield 13, 3) := by decide +kernel
theorem dX12_sender_84 : decode cX12_sender 84 = .ok (.imul, 1) := by decide +kernel
theorem dX12_sender_85 : decode cX12_sender 85 = .ok (.iload_n 3, 1) := by decide +kernel
theorem dX12_sender_86 : decode cX12_sender 86 = .ok (.iadd, 1) := by decide +kernel
theorem dX12_sender_87 : decode cX12_sender 87 = .ok (.iconst 0, 1) := by decide +kernel
theorem dX12_sender_88 : decode cX12_sender 88 = .ok (.iastore, 1) := by decide +kernel
theorem dX12_sender_89 : decode cX12_sender 89 = .ok (.iinc 3 1, 3) := by decide +kernel
theorem dX12_sender_92 : decode cX12_sender 92 = .ok (.goto (-22), 3) := by decide +kernel
theorem dX12_sender_95 : decode cX12_sender 95 = .ok (.aload_n 0, 1) := by decide +kernel
theorem dX12_sender_96 : decode cX12_sender 96 = .ok (.dup, 1) := by decide +kernel
theorem dX12_sender_97 : decode cX12_sender 97 = .ok (.getfield 13, 3) := by decide +kernel
theorem dX12_sender_100 : decode cX12_sender 100 = .ok (.iconst 1, 1) := by decide +kernel
theorem dX12_sender_101 : decode cX12_sender 101 = .ok (.iadd, 1) := by decide +kernel
theorem dX12_sender_102 : decode cX12_sender 102 = .ok (.putfield 13, 3) := by decide +kernel
theorem dX12_sender_105 : decode cX12_sender 105 = .ok (.aload_n 0, 1) := by decide +kernel
theorem dX12_sender_106 : decode cX12_sender 106 = .ok (.getfield 13, 3) := by decide +kernel
theorem dX12_sender_109 : decode cX12_sender 109 = .ok (.iconst 1, 1) := by decide +kernel
theorem dX12_sender_110 : decode cX12_sender 110 = .ok (.isub, 1) := by decide +kernel
theorem dX12_sender_111 : decode cX12_sender 111 = .ok (.ireturn, 1) := by decide +kernel
theorem dX12_row_0 : decode cX12_row 0 = .ok (.aload_n 0, 1) := by decide +kernel
theorem dX12_row_1 : decode cX12_row 1 = .ok (.iload_n 1, 1) := by decide +kernel
theorem dX12_row_2 : decode cX12_row 2 = .ok (.invokevirtual 212, 3) := by decide +kernel
theorem dX12_row_5 : decode cX12_row 5 = .ok (.ifCond .eq 13, 3) := by decide +kernel
theorem dX12_row_8 : decode cX12_row 8 = .ok (.aload_n 0, 1) := by decide +kernel
theorem dX12_row_9 : decode cX12_row 9 = .ok (.iload_n 2, 1) := by decide +kernel
theorem dX12_row_10 : decode cX12_row 10 = .ok (.iconst 0, 1) := by decide +kernel
theorem dX12_row_11 : decode cX12_row 11 = .ok (.iconst 3, 1) := by decide +kernel
theorem dX12_row_12 : decode cX12_row 12 = .ok (.invokevirtual 201, 3) := by decide +kernel
theorem dX12_row_15 : decode cX12_row 15 = .ok (.ifCond .ne 5, 3) := by decide +kernel
theorem dX12_row_18 : decode cX12_row 18 = .ok (.iconst (-1), 1) := by decide +kernel
theorem dX12_row_19 : decode cX12_row 19 = .ok (.ireturn, 1) := by decide +kernel
theorem dX12_row_20 : decode cX12_row 20 = .ok (.aload_n 0, 1) := by decide +kernel
theorem dX12_row_21 : decode cX12_row 21 = .ok (.iload_n 3, 1) := by decide +kernel
theorem dX12_row_22 : decode cX12_row 22 = .ok (.iconst 0, 1) := by decide +kernel
theorem dX12_row_23 : decode cX12_row 23 = .ok (.bipush 9, 2) := by decide +kernel
theorem dX12_row_25 : decode cX12_row 25 = .ok (.invokevirtual 201, 3) := by decide +kernel
theorem dX12_row_28 : decode cX12_row 28 = .ok (.ifCond .ne 6, 3) := by decide +kernel
theorem dX12_row_31 : decode cX12_row 31 = .ok (.bipush (-2), 2) := by decide +kernel
theorem dX12_row_33 : decode cX12_row 33 = .ok (.ireturn, 1) := by decide +kernel
theorem dX12_row_34 : decode cX12_row 34 = .ok (.aload_n 0, 1) := by decide +kernel
theorem dX12_row_35 : decode cX12_row 35 = .ok (.getfield 23, 3) := by decide +kernel
theorem dX12_row_38 : decode cX12_row 38 = .ok (.iload_n 1, 1) := by decide +kernel
theorem dX12_row_39 : decode cX12_row 39 = .ok (.iaload, 1) := by decide +kernel
theorem dX12_row_40 : decode cX12_row 40 = .ok (.bipush 6, 2) := by decide +kernel
theorem dX12_row_42 : decode cX12_row 42 = .ok (.if_icmp .eq 6, 3) := by decide +kernel
theorem dX12_row_45 : decode cX12_row 45 = .ok (.bipush (-3), 2) := by decide +kernel
theorem dX12_row_47 : decode cX12_row 47 = .ok (.ireturn, 1) := by decide +kernel
theorem dX12_row_48 : decode cX12_row 48 = .ok (.aload_n 0, 1) := by decide +kernel
theorem dX12_row_49 : decode cX12_row 49 = .ok (.getfield 32, 3) := by decide +kernel
theorem dX12_row_52 : decode cX12_row 52 = .ok (.iconst 4, 1) := by decide +kernel
theorem dX12_row_53 : decode cX12_row 53 = .ok (.iload_n 1, 1) := by decide +kernel
theorem dX12_row_54 : decode cX12_row 54 = .ok (.imul, 1) := by decide +kernel
theorem dX12_row_55 : decode cX12_row 55 = .ok (.iload_n 2, 1) := by decide +kernel
theorem dX12_row_56 : decode cX12_row 56 = .ok (.iadd, 1) := by decide +kernel
theorem dX12_row_57 : decode cX12_row 57 = .ok (.iaload, 1) := by decide +kernel
theorem dX12_row_58 : decode cX12_row 58 = .ok (.istore 4, 2) := by decide +kernel
theorem dX12_row_60 : decode cX12_row 60 = .ok (.aload_n 0, 1) := by decide +kernel
theorem dX12_row_61 : decode cX12_row 61 = .ok (.getfield 32, 3) := by decide +kernel
theorem dX12_row_64 : decode cX12_row 64 = .ok (.iconst 4, 1) := by decide +kernel
theorem dX12_row_65 : decode cX12_row 65 = .ok (.iload_n 1, 1) := by decide +kernel
theorem dX12_row_66 : decode cX12_row 66 = .ok (.imul, 1) := by decide +kernel
theorem dX12_row_67 : decode cX12_row 67 = .ok (.iload_n 2, 1) := by decide +kernel
theorem dX12_row_68 : decode cX12_row 68 = .ok (.iadd, 1) := by decide +kernel
theorem dX12_row_69 : decode cX12_row 69 = .ok (.iload_n 3, 1) := by decide +kernel
theorem dX12_row_70 : decode cX12_row 70 = .ok (.iastore, 1) := by decide +kernel
theorem dX12_row_71 : decode cX12_row 71 = .ok (.iload 4, 2) := by decide +kernel
theorem dX12_row_73 : decode cX12_row 73 = .ok (.ireturn, 1) := by decide +kernel
theorem dX12_feed_0 : decode cX12_feed 0 = .ok (.aload_n 0, 1) := by decide +kernel
theorem dX12_feed_1 : decode cX12_feed 1 = .ok (.iload_n 1, 1) := by decide +kernel
theorem dX12_feed_2 : decode cX12_feed 2 = .ok (.iconst 0, 1) := by decide +kernel
theorem dX12_feed_3 : decode cX12_feed 3 = .ok (.bipush 127, 2) := by decide +kernel
theorem dX12_feed_5 : decode cX12_feed 5 = .ok (.invokevirtual 201, 3) := by decide +kernel
theorem dX12_feed_8 : decode cX12_feed 8 = .ok (.ifCond .ne 6, 3) := by decide +kernel
theorem dX12_feed_11 : decode cX12_feed 11 = .ok (.bipush (-2), 2) := by decide +kernel
theorem dX12_feed_13 : decode cX12_feed 13 = .ok (.ireturn, 1) := by decide +kernel
theorem dX12_feed_14 : decode cX12_feed 14 = .ok (.aload_n 0, 1) := by decide +kernel
theorem dX12_feed_15 : decode cX12_feed 15 = .ok (.getfield 41, 3) := by decide +kernel
theorem dX12_feed_18 : decode cX12_feed 18 = .ok (.bipush 100, 2) := by decide +kernel
theorem dX12_feed_20 : decode cX12_feed 20 = .ok (.if_icmp .ne 6, 3) := by decide +kernel
theorem dX12_feed_23 : decode cX12_feed 23 = .ok (.bipush (-4), 2) := by decide +kernel
theorem dX12_feed_25 : decode cX12_feed 25 = .ok (.ireturn, 1) := by decide +kernel
theorem dX12_feed_26 : decode cX12_feed 26 = .ok (.aload_n 0, 1) := by decide +kernel
theorem dX12_feed_27 : decode cX12_feed 27 = .ok (.getfield 50, 3) := by decide +kernel
theorem dX12_feed_30 : decode cX12_feed 30 = .ok (.aload_n 0, 1) := by decide +kernel
theorem dX12_feed_31 : decode cX12_feed 31 = .ok (.getfield 41, 3) := by decide +kernel
theorem dX12_feed_34 : decode cX12_feed 34 = .ok (.iload_n 1, 1) := by decide +kernel
theorem dX12_feed_35 : decode cX12_feed 35 = .ok (.iastore, 1) := by decide +kernel
theorem dX12_feed_36 : decode cX12_feed 36 = .ok (.aload_n 0, 1) := by decide +kernel
theorem dX12_feed_37 : decode cX12_feed 37 = .ok (.dup, 1) := by decide +kernel
theorem dX12_feed_38 : decode cX12_feed 38 = .ok (.getfield 41, 3) := by decide +kernel
theorem dX12_feed_41 : decode cX12_feed 41 = .ok (.iconst 1, 1) := by decide +kernel
theorem dX12_feed_42 : decode cX12_feed 42 = .ok (.iadd, 1) := by decide +kernel
theorem dX12_feed_43 : decode cX12_feed 43 = .ok (.putfield 41, 3) := by decide +kernel
theorem dX12_feed_46 : decode cX12_feed 46 = .ok (.aload_n 0, 1) := by decide +kernel
theorem dX12_feed_47 : decode cX12_feed 47 = .ok (.getfield 41, 3) := by decide +kernel
theorem dX12_feed_50 : decode cX12_feed 50 = .ok (.ireturn, 1) := by decide +kernel
theorem dX12_next_0 : decode cX12_next 0 = .ok (.aload_n 0, 1) := by decide +kernel
theorem dX12_next_1 : decode cX12_next 1 = .ok (.getfield 44, 3) := by decide +kernel
theorem dX12_next_4 : decode cX12_next 4 = .ok (.aload_n 0, 1) := by decide +kernel
theorem dX12_next_5 : decode cX12_next 5 = .ok (.getfield 41, 3) := by decide +kernel
theorem dX12_next_8 : decode cX12_next 8 = .ok (.if_icmp .ge 15, 3) := by decide +kernel
theorem dX12_next_11 : decode cX12_next 11 = .ok (.aload_n 0, 1) := by decide +kernel
theorem dX12_next_12 : decode cX12_next 12 = .ok (.getfield 50, 3) := by decide +kernel
theorem dX12_next_15 : decode cX12_next 15 = .ok (.aload_n 0, 1) := by decide +kernel
theorem dX12_next_16 : decode cX12_next 16 = .ok (.getfield 44, 3) := by decide +kernel
theorem dX12_next_19 : decode cX12_next 19 = .ok (.iaload, 1) := by decide +kernel
theorem dX12_next_20 : decode cX12_next 20 = .ok (.goto 4, 3) := by decide +kernel
theorem dX12_next_23 : decode cX12_next 23 = .ok (.iconst (-1), 1) := by decide +kernel
theorem dX12_next_24 : decode cX12_next 24 = .ok (.ireturn, 1) := by decide +kernel
theorem dX12_takes_0 : decode cX12_takes 0 = .ok (.aload_n 0, 1) := by decide +kernel
theorem dX12_takes_1 : decode cX12_takes 1 = .ok (.invokevirtual 215, 3) := by decide +kernel
theorem dX12_takes_4 : decode cX12_takes 4 = .ok (.iload_n 1, 1) := by decide +kernel
theorem dX12_takes_5 : decode cX12_takes 5 = .ok (.if_icmp .eq 5, 3) := by decide +kernel
theorem dX12_takes_8 : decode cX12_takes 8 = .ok (.iconst 0, 1) := by decide +kernel
theorem dX12_takes_9 : decode cX12_takes 9 = .ok (.ireturn, 1) := by decide +kernel
theorem dX12_takes_10 : decode cX12_takes 10 = .ok (.aload_n 0, 1) := by decide +kernel
theorem dX12_takes_11 : decode cX12_takes 11 = .ok (.dup, 1) := by decide +kernel
theorem dX12_takes_12 : decode cX12_takes 12 = .ok (.getfield 44, 3) := by decide +kernel
theorem dX12_takes_15 : decode cX12_takes 15 = .ok (.iconst 1, 1) := by decide +kernel
theorem dX12_takes_16 : decode cX12_takes 16 = .ok (.iadd, 1) := by decide +kernel
theorem dX12_takes_17 : decode cX12_takes 17 = .ok (.putfield 44, 3) := by decide +kernel
theorem dX12_takes_20 : decode cX12_takes 20 = .ok (.iconst 1, 1) := by decide +kernel
theorem dX12_takes_21 : decode cX12_takes 21 = .ok (.ireturn, 1) := by decide +kernel
theorem dX12_takesWord_0 : decode cX12_takesWord 0 = .ok (.iconst 0, 1) := by decide +kernel
theorem dX12_takesWord_1 : decode cX12_takesWord 1 = .ok (.istore_n 3, 1) := by decide +kernel
theorem dX12_takesWord_2 : decode cX12_takesWord 2 = .ok (.iload_n 3, 1) := by decide +kernel
theorem dX12_takesWord_3 : decode cX12_takesWord 3 = .ok (.iload_n 2, 1) := by decide +kernel
theorem dX12_takesWord_4 : decode cX12_takesWord 4 = .ok (.if_icmp .ge 26, 3) := by decide +kernel
theorem dX12_takesWord_7 : decode cX12_takesWord 7 = .ok (.aload_n 0, 1) := by decide +kernel
theorem dX12_takesWord_8 : decode cX12_takesWord 8 = .ok (.aload_n 0, 1) := by decide +kernel
theorem dX12_takesWord_9 : decode cX12_takesWord 9 = .ok (.getfield 83, 3) := by decide +kernel
theorem dX12_takesWord_12 : decode cX12_takesWord 12 = .ok (.iload_n 1, 1) := by decide +kernel
theorem dX12_takesWord_13 : decode cX12_takesWord 13 = .ok (.iload_n 3, 1) := by decide +kernel
theorem dX12_takesWord_14 : decode cX12_takesWord 14 = .ok (.iadd, 1) := by decide +kernel
theorem dX12_takesWord_15 : decode cX12_takesWord 15 = .ok (.iaload, 1) := by decide +kernel
theorem dX12_takesWord_16 : decode cX12_takesWord 16 = .ok (.invokevirtual 219, 3) := by decide +kernel
theorem dX12_takesWord_19 : decode cX12_takesWord 19 = .ok (.ifCond .ne 5, 3) := by decide +kernel
theorem dX12_takesWord_22 : decode cX12_takesWord 22 = .ok (.iconst 0, 1) := by decide +kernel
theorem dX12_takesWord_23 : decode cX12_takesWord 23 = .ok (.ireturn, 1) := by decide +kernel
theorem dX12_takesWord_24 : decode cX12_takesWord 24 = .ok (.iinc 3 1, 3) := by decide +kernel
theorem dX12_takesWord_27 : decode cX12_takesWord 27 = .ok (.goto (-25), 3) := by decide +kernel
theorem dX12_takesWord_30 : decode cX12_takesWord 30 = .ok (.aload_n 0, 1) := by decide +kernel
theorem dX12_takesWord_31 : decode cX12_takesWord 31 = .ok (.bipush 32, 2) := by decide +kernel
theorem dX12_takesWord_33 : decode cX12_takesWord 33 = .ok (.invokevirtual 219, 3) := by decide +kernel
theorem dX12_takesWord_36 : decode cX12_takesWord 36 = .ok (.ireturn, 1) := by decide +kernel
theorem dX12_isDigit_0 : decode cX12_isDigit 0 = .ok (.aload_n 0, 1) := by decide +kernel
theorem dX12_isDigit_1 : decode cX12_isDigit 1 = .ok (.aload_n 0, 1) := by decide +kernel
theorem dX12_isDigit_2 : decode cX12_isDigit 2 = .ok (.invokevirtual 215, 3) := by decide +kernel
theorem dX12_isDigit_5 : decode cX12_isDigit 5 = .ok (.bipush 48, 2) := by decide +kernel
theorem dX12_isDigit_7 : decode cX12_isDigit 7 = .ok (.bipush 57, 2) := by decide +kernel
theorem dX12_isDigit_9 : decode cX12_isDigit 9 = .ok (.invokevirtual 201, 3) := by decide +kernel
theorem dX12_isDigit_12 : decode cX12_isDigit 12 = .ok (.ireturn, 1) := by decide +kernel
theorem dX12_takesNumber_0 : decode cX12_takesNumber 0 = .ok (.aload_n 0, 1) := by decide +kernel
theorem dX12_takesNumber_1 : decode cX12_takesNumber 1 = .ok (.invokevirtual 222, 3) := by decide +kernel
theorem dX12_takesNumber_4 : decode cX12_takesNumber 4 = .ok (.ifCond .ne 5, 3) := by decide +kernel
theorem dX12_takesNumber_7 : decode cX12_takesNumber 7 = .ok (.iconst 0, 1) := by decide +kernel
theorem dX12_takesNumber_8 : decode cX12_takesNumber 8 = .ok (.ireturn, 1) := by decide +kernel
theorem dX12_takesNumber_9 : decode cX12_takesNumber 9 = .ok (.aload_n 0, 1) := by decide +kernel
theorem dX12_takesNumber_10 : decode cX12_takesNumber 10 = .ok (.iconst 0, 1) := by decide +kernel
theorem dX12_takesNumber_11 : decode cX12_takesNumber 11 = .ok (.putfield 47, 3) := by decide +kernel
theorem dX12_takesNumber_14 : decode cX12_takesNumber 14 = .ok (.iconst 0, 1) := by decide +kernel
theorem dX12_takesNumber_15 : decode cX12_takesNumber 15 = .ok (.istore_n 1, 1) := by decide +kernel
theorem dX12_takesNumber_16 : decode cX12_takesNumber 16 = .ok (.iload_n 1, 1) := by decide +kernel
theorem dX12_takesNumber_17 : decode cX12_takesNumber 17 = .ok (.iconst 2, 1) := by decide +kernel
theorem dX12_takesNumber_18 : decode cX12_takesNumber 18 = .ok (.if_icmp .ge 45, 3) := by decide +kernel
theorem dX12_takesNumber_21 : decode cX12_takesNumber 21 = .ok (.aload_n 0, 1) := by decide +kernel
theorem dX12_takesNumber_22 : decode cX12_takesNumber 22 = .ok (.invokevirtual 222, 3) := by decide +kernel
theorem dX12_takesNumber_25 : decode cX12_takesNumber 25 = .ok (.ifCond .eq 38, 3) := by decide +kernel
theorem dX12_takesNumber_28 : decode cX12_takesNumber 28 = .ok (.aload_n 0, 1) := by decide +kernel
theorem dX12_takesNumber_29 : decode cX12_takesNumber 29 = .ok (.bipush 10, 2) := by decide +kernel
theorem dX12_takesNumber_31 : decode cX12_takesNumber 31 = .ok (.aload_n 0, 1) := by decide +kernel
theorem dX12_takesNumber_32 : decode cX12_takesNumber 32 = .ok (.getfield 47, 3) := by decide +kernel
theorem dX12_takesNumber_35 : decode cX12_takesNumber 35 = .ok (.imul, 1) := by decide +kernel
theorem dX12_takesNumber_36 : decode cX12_takesNumber 36 = .ok (.aload_n 0, 1) := by decide +kernel
theorem dX12_takesNumber_37 : decode cX12_takesNumber 37 = .ok (.invokevirtual 215, 3) := by decide +kernel
theorem dX12_takesNumber_40 : decode cX12_takesNumber 40 = .ok (.iadd, 1) := by decide +kernel
theorem dX12_takesNumber_41 : decode cX12_takesNumber 41 = .ok (.bipush 48, 2) := by decide +kernel
theorem dX12_takesNumber_43 : decode cX12_takesNumber 43 = .ok (.isub, 1) := by decide +kernel
theorem dX12_takesNumber_44 : decode cX12_takesNumber 44 = .ok (.putfield 47, 3) := by decide +kernel
theorem dX12_takesNumber_47 : decode cX12_takesNumber 47 = .ok (.aload_n 0, 1) := by decide +kernel
theorem dX12_takesNumber_48 : decode cX12_takesNumber 48 = .ok (.dup, 1) := by decide +kernel
theorem dX12_takesNumber_49 : decode cX12_takesNumber 49 = .ok (.getfield 44, 3) := by decide +kernel
theorem dX12_takesNumber_52 : decode cX12_takesNumber 52 = .ok (.iconst 1, 1) := by decide +kernel
theorem dX12_takesNumber_53 : decode cX12_takesNumber 53 = .ok (.iadd, 1) := by decide +kernel
theorem dX12_takesNumber_54 : decode cX12_takesNumber 54 = .ok (.putfield 44, 3) := by decide +kernel
theorem dX12_takesNumber_57 : decode cX12_takesNumber 57 = .ok (.iinc 1 1, 3) := by decide +kernel
theorem dX12_takesNumber_60 : decode cX12_takesNumber 60 = .ok (.goto (-44), 3) := by decide +kernel
theorem dX12_takesNumber_63 : decode cX12_takesNumber 63 = .ok (.iconst 1, 1) := by decide +kernel
theorem dX12_takesNumber_64 : decode cX12_takesNumber 64 = .ok (.ireturn, 1) := by decide +kernel
theorem dX12_emits_0 : decode cX12_emits 0 = .ok (.aload_n 0, 1) := by decide +kernel
theorem dX12_emits_1 : decode cX12_emits 1 = .ok (.getfield 68, 3) := by decide +kernel
theorem dX12_emits_4 : decode cX12_emits 4 = .ok (.aload_n 0, 1) := by decide +kernel
theorem dX12_emits_5 : decode cX12_emits 5 = .ok (.getfield 74, 3) := by decide +kernel
theorem dX12_emits_8 : decode cX12_emits 8 = .ok (.iload_n 1, 1) := by decide +kernel
theorem dX12_emits_9 : decode cX12_emits 9 = .ok (.iastore, 1) := by decide +kernel
theorem dX12_emits_10 : decode cX12_emits 10 = .ok (.aload_n 0, 1) := by decide +kernel
theorem dX12_emits_11 : decode cX12_emits 11 = .ok (.dup, 1) := by decide +kernel
theorem dX12_emits_12 : decode cX12_emits 12 = .ok (.getfield 74, 3) := by decide +kernel
theorem dX12_emits_15 : decode cX12_emits 15 = .ok (.iconst 1, 1) := by decide +kernel
theorem dX12_emits_16 : decode cX12_emits 16 = .ok (.iadd, 1) := by decide +kernel
theorem dX12_emits_17 : decode cX12_emits 17 = .ok (.putfield 74, 3) := by decide +kernel
theorem dX12_emits_20 : decode cX12_emits 20 = .ok (.return_, 1) := by decide +kernel
theorem dX12_whole_0 : decode cX12_whole 0 = .ok (.aload_n 0, 1) := by decide +kernel
theorem dX12_whole_1 : decode cX12_whole 1 = .ok (.getfield 77, 3) := by decide +kernel
theorem dX12_whole_4 : decode cX12_whole 4 = .ok (.ifCond .le 48, 3) := by decide +kernel
theorem dX12_whole_7 : decode cX12_whole 7 = .ok (.aload_n 0, 1) := by decide +kernel
theorem dX12_whole_8 : decode cX12_whole 8 = .ok (.getfield 71, 3) := by decide +kernel
theorem dX12_whole_11 : decode cX12_whole 11 = .ok (.aload_n 0, 1) := by decide +kernel
theorem dX12_whole_12 : decode cX12_whole 12 = .ok (.getfield 77, 3) := by decide +kernel
theorem dX12_whole_15 : decode cX12_whole 15 = .ok (.iconst 1, 1) := by decide +kernel
theorem dX12_whole_16 : decode cX12_whole 16 = .ok (.isub, 1) := by decide +kernel
theorem dX12_whole_17 : decode cX12_whole 17 = .ok (.iaload, 1) := by decide +kernel
theorem dX12_whole_18 : decode cX12_whole 18 = .ok (.bipush 33, 2) := by decide +kernel
theorem dX12_whole_20 : decode cX12_whole 20 = .ok (.if_icmp .ne 32, 3) := by decide +kernel
theorem dX12_whole_23 : decode cX12_whole 23 = .ok (.aload_n 0, 1) := by decide +kernel
theorem dX12_whole_24 : decode cX12_whole 24 = .ok (.bipush (-33), 2) := by decide +kernel
theorem dX12_whole_26 : decode cX12_whole 26 = .ok (.invokevirtual 226, 3) := by decide +kernel
theorem dX12_whole_29 : decode cX12_whole 29 = .ok (.aload_n 0, 1) := by decide +kernel
theorem dX12_whole_30 : decode cX12_whole 30 = .ok (.dup, 1) := by decide +kernel
theorem dX12_whole_31 : decode cX12_whole 31 = .ok (.getfield 77, 3) := by decide +kernel
theorem dX12_whole_34 : decode cX12_whole 34 = .ok (.iconst 1, 1) := by decide +kernel
theorem dX12_whole_35 : decode cX12_whole 35 = .ok (.isub, 1) := by decide +kernel
theorem dX12_whole_36 : decode cX12_whole 36 = .ok (.putfield 77, 3) := by decide +kernel
theorem dX12_whole_39 : decode cX12_whole 39 = .ok (.aload_n 0, 1) := by decide +kernel
theorem dX12_whole_40 : decode cX12_whole 40 = .ok (.dup, 1) := by decide +kernel
theorem dX12_whole_41 : decode cX12_whole 41 = .ok (.getfield 80, 3) := by decide +kernel
theorem dX12_whole_44 : decode cX12_whole 44 = .ok (.iconst 1, 1) := by decide +kernel
theorem dX12_whole_45 : decode cX12_whole 45 = .ok (.isub, 1) := by decide +kernel
theorem dX12_whole_46 : decode cX12_whole 46 = .ok (.putfield 80, 3) := by decide +kernel
theorem dX12_whole_49 : decode cX12_whole 49 = .ok (.goto (-49), 3) := by decide +kernel
theorem dX12_whole_52 : decode cX12_whole 52 = .ok (.return_, 1) := by decide +kernel
theorem dX12_settle_0 : decode cX12_settle 0 = .ok (.aload_n 0, 1) := by decide +kernel
theorem dX12_settle_1 : decode cX12_settle 1 = .ok (.getfield 77, 3) := by decide +kernel
theorem dX12_settle_4 : decode cX12_settle 4 = .ok (.ifCond .le 68, 3) := by decide +kernel
theorem dX12_settle_7 : decode cX12_settle 7 = .ok (.aload_n 0, 1) := by decide +kernel
theorem dX12_settle_8 : decode cX12_settle 8 = .ok (.getfield 71, 3) := by decide +kernel
theorem dX12_settle_11 : decode cX12_settle 11 = .ok (.aload_n 0, 1) := by decide +kernel
theorem dX12_settle_12 : decode cX12_settle 12 = .ok (.getfield 77, 3) := by decide +kernel
theorem dX12_settle_15 : decode cX12_settle 15 = .ok (.iconst 1, 1) := by decide +kernel
theorem dX12_settle_16 : decode cX12_settle 16 = .ok (.isub, 1) := by decide +kernel
theorem dX12_settle_17 : decode cX12_settle 17 = .ok (.iaload, 1) := by decide +kernel
theorem dX12_settle_18 : decode cX12_settle 18 = .ok (.bipush 38, 2) := by decide +kernel
theorem dX12_settle_20 : decode cX12_settle 20 = .ok (.if_icmp .eq 25, 3) := by decide +kernel
theorem dX12_settle_23 : decode cX12_settle 23 = .ok (.aload_n 0, 1) := by decide +kernel
theorem dX12_settle_24 : decode cX12_settle 24 = .ok (.getfield 71, 3) := by decide +kernel
theorem dX12_settle_27 : decode cX12_settle 27 = .ok (.aload_n 0, 1) := by decide +kernel
theorem dX12_settle_28 : decode cX12_settle 28 = .ok (.getfield 77, 3) := by decide +kernel
theorem dX12_settle_31 : decode cX12_settle 31 = .ok (.iconst 1, 1) := by decide +kernel
theorem dX12_settle_32 : decode cX12_settle 32 = .ok (.isub, 1) := by decide +kernel
theorem dX12_settle_33 : decode cX12_settle 33 = .ok (.iaload, 1) := by decide +kernel
theorem dX12_settle_34 : decode cX12_settle 34 = .ok (.bipush 124, 2) := by decide +kernel
theorem dX12_settle_36 : decode cX12_settle 36 = .ok (.if_icmp .ne 36, 3) := by decide +kernel
theorem dX12_settle_39 : decode cX12_settle 39 = .ok (.iload_n 1, 1) := by decide +kernel
theorem dX12_settle_40 : decode cX12_settle 40 = .ok (.bipush 38, 2) := by decide +kernel
theorem dX12_settle_42 : decode cX12_settle 42 = .ok (.if_icmp .eq 30, 3) := by decide +kernel
theorem dX12_settle_45 : decode cX12_settle 45 = .ok (.aload_n 0, 1) := by decide +kernel
theorem dX12_settle_46 : decode cX12_settle 46 = .ok (.dup, 1) := by decide +kernel
theorem dX12_settle_47 : decode cX12_settle 47 = .ok (.getfield 77, 3) := by decide +kernel
theorem dX12_settle_50 : decode cX12_settle 50 = .ok (.iconst 1, 1) := by decide +kernel
theorem dX12_settle_51 : decode cX12_settle 51 = .ok (.isub, 1) := by decide +kernel
theorem dX12_settle_52 : decode cX12_settle 52 = .ok (.putfield 77, 3) := by decide +kernel
theorem dX12_settle_55 : decode cX12_settle 55 = .ok (.aload_n 0, 1) := by decide +kernel
theorem dX12_settle_56 : decode cX12_settle 56 = .ok (.aload_n 0, 1) := by decide +kernel
theorem dX12_settle_57 : decode cX12_settle 57 = .ok (.getfield 71, 3) := by decide +kernel
theorem dX12_settle_60 : decode cX12_settle 60 = .ok (.aload_n 0, 1) := by decide +kernel
theorem dX12_settle_61 : decode cX12_settle 61 = .ok (.getfield 77, 3) := by decide +kernel
theorem dX12_settle_64 : decode cX12_settle 64 = .ok (.iaload, 1) := by decide +kernel
theorem dX12_settle_65 : decode cX12_settle 65 = .ok (.ineg, 1) := by decide +kernel
theorem dX12_settle_66 : decode cX12_settle 66 = .ok (.invokevirtual 226, 3) := by decide +kernel
theorem dX12_settle_69 : decode cX12_settle 69 = .ok (.goto (-69), 3) := by decide +kernel
theorem dX12_settle_72 : decode cX12_settle 72 = .ok (.return_, 1) := by decide +kernel
theorem dX12_place_0 : decode cX12_place 0 = .ok (.iload_n 1, 1) := by decide +kernel
theorem dX12_place_1 : decode cX12_place 1 = .ok (.tableswitch 95 102 118 #[91, 95, 93, 95, 95, 85, 95, 95, 95, 89, 95, 95, 95, 83, 95, 95, 87], 83) := by decide +kernel
theorem dX12_place_84 : decode cX12_place 84 = .ok (.iconst 0, 1) := by decide +kernel
theorem dX12_place_85 : decode cX12_place 85 = .ok (.ireturn, 1) := by decide +kernel
theorem dX12_place_86 : decode cX12_place 86 = .ok (.iconst 1, 1) := by decide +kernel
theorem dX12_place_87 : decode cX12_place 87 = .ok (.ireturn, 1) := by decide +kernel
theorem dX12_place_88 : decode cX12_place 88 = .ok (.iconst 2, 1) := by decide +kernel
theorem dX12_place_89 : decode cX12_place 89 = .ok (.ireturn, 1) := by decide +kernel
theorem dX12_place_90 : decode cX12_place 90 = .ok (.iconst 3, 1) := by decide +kernel
theorem dX12_place_91 : decode cX12_place 91 = .ok (.ireturn, 1) := by decide +kernel
theorem dX12_place_92 : decode cX12_place 92 = .ok (.iconst 4, 1) := by decide +kernel
theorem dX12_place_93 : decode cX12_place 93 = .ok (.ireturn, 1) := by decide +kernel
theorem dX12_place_94 : decode cX12_place 94 = .ok (.iconst 5, 1) := by decide +kernel
theorem dX12_place_95 : decode cX12_place 95 = .ok (.ireturn, 1) := by decide +kernel
theorem dX12_place_96 : decode cX12_place 96 = .ok (.iconst (-1), 1) := by decide +kernel
theorem dX12_place_97 : decode cX12_place 97 = .ok (.ireturn, 1) := by decide +kernel
theorem dX12_takesTest_0 : decode cX12_takesTest 0 = .ok (.aload_n 0, 1) := by decide +kernel
theorem dX12_takesTest_1 : decode cX12_takesTest 1 = .ok (.aload_n 0, 1) := by decide +kernel
theorem dX12_takesTest_2 : decode cX12_takesTest 2 = .ok (.invokevirtual 215, 3) := by decide +kernel
theorem dX12_takesTest_5 : decode cX12_takesTest 5 = .ok (.invokevirtual 230, 3) := by decide +kernel
theorem dX12_takesTest_8 : decode cX12_takesTest 8 = .ok (.istore_n 1, 1) := by decide +kernel
theorem dX12_takesTest_9 : decode cX12_takesTest 9 = .ok (.iload_n 1, 1) := by decide +kernel
theorem dX12_takesTest_10 : decode cX12_takesTest 10 = .ok (.ifCond .ge 5, 3) := by decide +kernel
theorem dX12_takesTest_13 : decode cX12_takesTest 13 = .ok (.iconst 0, 1) := by decide +kernel
theorem dX12_takesTest_14 : decode cX12_takesTest 14 = .ok (.ireturn, 1) := by decide +kernel
theorem dX12_takesTest_15 : decode cX12_takesTest 15 = .ok (.aload_n 0, 1) := by decide +kernel
theorem dX12_takesTest_16 : decode cX12_takesTest 16 = .ok (.dup, 1) := by decide +kernel
theorem dX12_takesTest_17 : decode cX12_takesTest 17 = .ok (.getfield 44, 3) := by decide +kernel
theorem dX12_takesTest_20 : decode cX12_takesTest 20 = .ok (.iconst 1, 1) := by decide +kernel
theorem dX12_takesTest_21 : decode cX12_takesTest 21 = .ok (.iadd, 1) := by decide +kernel
theorem dX12_takesTest_22 : decode cX12_takesTest 22 = .ok (.putfield 44, 3) := by decide +kernel
theorem dX12_takesTest_25 : decode cX12_takesTest 25 = .ok (.aload_n 0, 1) := by decide +kernel
theorem dX12_takesTest_26 : decode cX12_takesTest 26 = .ok (.invokevirtual 215, 3) := by decide +kernel
theorem dX12_takesTest_29 : decode cX12_takesTest 29 = .ok (.istore_n 2, 1) := by decide +kernel
theorem dX12_takesTest_30 : decode cX12_takesTest 30 = .ok (.aload_n 0, 1) := by decide +kernel
theorem dX12_takesTest_31 : decode cX12_takesTest 31 = .ok (.iload_n 2, 1) := by decide +kernel
theorem dX12_takesTest_32 : decode cX12_takesTest 32 = .ok (.bipush 60, 2) := by decide +kernel
theorem dX12_takesTest_34 : decode cX12_takesTest 34 = .ok (.bipush 62, 2) := by decide +kernel
theorem dX12_takesTest_36 : decode cX12_takesTest 36 = .ok (.invokevirtual 201, 3) := by decide +kernel
theorem dX12_takesTest_39 : decode cX12_takesTest 39 = .ok (.ifCond .ne 5, 3) := by decide +kernel
theorem dX12_takesTest_42 : decode cX12_takesTest 42 = .ok (.iconst 0, 1) := by decide +kernel
theorem dX12_takesTest_43 : decode cX12_takesTest 43 = .ok (.ireturn, 1) := by decide +kernel
theorem dX12_takesTest_44 : decode cX12_takesTest 44 = .ok (.aload_n 0, 1) := by decide +kernel
theorem dX12_takesTest_45 : decode cX12_takesTest 45 = .ok (.dup, 1) := by decide +kernel
theorem dX12_takesTest_46 : decode cX12_takesTest 46 = .ok (.getfield 44, 3) := by decide +kernel
theorem dX12_takesTest_49 : decode cX12_takesTest 49 = .ok (.iconst 1, 1) := by decide +kernel
theorem dX12_takesTest_50 : decode cX12_takesTest 50 = .ok (.iadd, 1) := by decide +kernel
theorem dX12_takesTest_51 : decode cX12_takesTest 51 = .ok (.putfield 44, 3) := by decide +kernel
theorem dX12_takesTest_54 : decode cX12_takesTest 54 = .ok (.aload_n 0, 1) := by decide +kernel
theorem dX12_takesTest_55 : decode cX12_takesTest 55 = .ok (.invokevirtual 234, 3) := by decide +kernel
theorem dX12_takesTest_58 : decode cX12_takesTest 58 = .ok (.ifCond .ne 5, 3) := by decide +kernel
theorem dX12_takesTest_61 : decode cX12_takesTest 61 = .ok (.iconst 0, 1) := by decide +kernel
theorem dX12_takesTest_62 : decode cX12_takesTest 62 = .ok (.ireturn, 1) := by decide +kernel
theorem dX12_takesTest_63 : decode cX12_takesTest 63 = .ok (.aload_n 0, 1) := by decide +kernel
theorem dX12_takesTest_64 : decode cX12_takesTest 64 = .ok (.sipush 1000, 3) := by decide +kernel
theorem dX12_takesTest_67 : decode cX12_takesTest 67 = .ok (.iload_n 1, 1) := by decide +kernel
theorem dX12_takesTest_68 : decode cX12_takesTest 68 = .ok (.imul, 1) := by decide +kernel
theorem dX12_takesTest_69 : decode cX12_takesTest 69 = .ok (.bipush 100, 2) := by decide +kernel
theorem dX12_takesTest_71 : decode cX12_takesTest 71 = .ok (.iload_n 2, 1) := by decide +kernel
theorem dX12_takesTest_72 : decode cX12_takesTest 72 = .ok (.bipush 60, 2) := by decide +kernel
theorem dX12_takesTest_74 : decode cX12_takesTest 74 = .ok (.isub, 1) := by decide +kernel
theorem dX12_takesTest_75 : decode cX12_takesTest 75 = .ok (.imul, 1) := by decide +kernel
theorem dX12_takesTest_76 : decode cX12_takesTest 76 = .ok (.iadd, 1) := by decide +kernel
theorem dX12_takesTest_77 : decode cX12_takesTest 77 = .ok (.aload_n 0, 1) := by decide +kernel
theorem dX12_takesTest_78 : decode cX12_takesTest 78 = .ok (.getfield 47, 3) := by decide +kernel
theorem dX12_takesTest_81 : decode cX12_takesTest 81 = .ok (.iadd, 1) := by decide +kernel
theorem dX12_takesTest_82 : decode cX12_takesTest 82 = .ok (.invokevirtual 226, 3) := by decide +kernel
theorem dX12_takesTest_85 : decode cX12_takesTest 85 = .ok (.aload_n 0, 1) := by decide +kernel
theorem dX12_takesTest_86 : decode cX12_takesTest 86 = .ok (.invokevirtual 237, 3) := by decide +kernel
theorem dX12_takesTest_89 : decode cX12_takesTest 89 = .ok (.iconst 1, 1) := by decide +kernel
theorem dX12_takesTest_90 : decode cX12_takesTest 90 = .ok (.ireturn, 1) := by decide +kernel
theorem dX12_takesE_0 : decode cX12_takesE 0 = .ok (.aload_n 0, 1) := by decide +kernel
theorem dX12_takesE_1 : decode cX12_takesE 1 = .ok (.iconst 0, 1) := by decide +kernel
theorem dX12_takesE_2 : decode cX12_takesE 2 = .ok (.putfield 77, 3) := by decide +kernel
theorem dX12_takesE_5 : decode cX12_takesE 5 = .ok (.aload_n 0, 1) := by decide +kernel
theorem dX12_takesE_6 : decode cX12_takesE 6 = .ok (.iconst 0, 1) := by decide +kernel
theorem dX12_takesE_7 : decode cX12_takesE 7 = .ok (.putfield 80, 3) := by decide +kernel
theorem dX12_takesE_10 : decode cX12_takesE 10 = .ok (.aload_n 0, 1) := by decide +kernel
theorem dX12_takesE_11 : decode cX12_takesE 11 = .ok (.getfield 62, 3) := by decide +kernel
theorem dX12_takesE_14 : decode cX12_takesE 14 = .ok (.iload_n 1, 1) := by decide +kernel
theorem dX12_takesE_15 : decode cX12_takesE 15 = .ok (.aload_n 0, 1) := by decide +kernel
theorem dX12_takesE_16 : decode cX12_takesE 16 = .ok (.getfield 74, 3) := by decide +kernel
theorem dX12_takesE_19 : decode cX12_takesE 19 = .ok (.iastore, 1) := by decide +kernel
theorem dX12_takesE_20 : decode cX12_takesE 20 = .ok (.iconst 1, 1) := by decide +kernel
theorem dX12_takesE_21 : decode cX12_takesE 21 = .ok (.istore_n 2, 1) := by decide +kernel
theorem dX12_takesE_22 : decode cX12_takesE 22 = .ok (.aload_n 0, 1) := by decide +kernel
theorem dX12_takesE_23 : decode cX12_takesE 23 = .ok (.invokevirtual 215, 3) := by decide +kernel
theorem dX12_takesE_26 : decode cX12_takesE 26 = .ok (.istore_n 3, 1) := by decide +kernel
theorem dX12_takesE_27 : decode cX12_takesE 27 = .ok (.iload_n 2, 1) := by decide +kernel
theorem dX12_takesE_28 : decode cX12_takesE 28 = .ok (.ifCond .eq 82, 3) := by decide +kernel
theorem dX12_takesE_31 : decode cX12_takesE 31 = .ok (.iload_n 3, 1) := by decide +kernel
theorem dX12_takesE_32 : decode cX12_takesE 32 = .ok (.bipush 33, 2) := by decide +kernel
theorem dX12_takesE_34 : decode cX12_takesE 34 = .ok (.if_icmp .eq 9, 3) := by decide +kernel
theorem dX12_takesE_37 : decode cX12_takesE 37 = .ok (.iload_n 3, 1) := by decide +kernel
theorem dX12_takesE_38 : decode cX12_takesE 38 = .ok (.bipush 40, 2) := by decide +kernel
theorem dX12_takesE_40 : decode cX12_takesE 40 = .ok (.if_icmp .ne 56, 3) := by decide +kernel
theorem dX12_takesE_43 : decode cX12_takesE 43 = .ok (.aload_n 0, 1) := by decide +kernel
theorem dX12_takesE_44 : decode cX12_takesE 44 = .ok (.getfield 80, 3) := by decide +kernel
theorem dX12_takesE_47 : decode cX12_takesE 47 = .ok (.iconst 4, 1) := by decide +kernel
theorem dX12_takesE_48 : decode cX12_takesE 48 = .ok (.if_icmp .ne 5, 3) := by decide +kernel
theorem dX12_takesE_51 : decode cX12_takesE 51 = .ok (.iconst 0, 1) := by decide +kernel
theorem dX12_takesE_52 : decode cX12_takesE 52 = .ok (.ireturn, 1) := by decide +kernel
theorem dX12_takesE_53 : decode cX12_takesE 53 = .ok (.aload_n 0, 1) := by decide +kernel
theorem dX12_takesE_54 : decode cX12_takesE 54 = .ok (.dup, 1) := by decide +kernel
theorem dX12_takesE_55 : decode cX12_takesE 55 = .ok (.getfield 80, 3) := by decide +kernel
theorem dX12_takesE_58 : decode cX12_takesE 58 = .ok (.iconst 1, 1) := by decide +kernel
theorem dX12_takesE_59 : decode cX12_takesE 59 = .ok (.iadd, 1) := by decide +kernel
theorem dX12_takesE_60 : decode cX12_takesE 60 = .ok (.putfield 80, 3) := by decide +kernel
theorem dX12_takesE_63 : decode cX12_takesE 63 = .ok (.aload_n 0, 1) := by decide +kernel
theorem dX12_takesE_64 : decode cX12_takesE 64 = .ok (.getfield 71, 3) := by decide +kernel
theorem dX12_takesE_67 : decode cX12_takesE 67 = .ok (.aload_n 0, 1) := by decide +kernel
theorem dX12_takesE_68 : decode cX12_takesE 68 = .ok (.getfield 77, 3) := by decide +kernel
theorem dX12_takesE_71 : decode cX12_takesE 71 = .ok (.iload_n 3, 1) := by decide +kernel
theorem dX12_takesE_72 : decode cX12_takesE 72 = .ok (.iastore, 1) := by decide +kernel
theorem dX12_takesE_73 : decode cX12_takesE 73 = .ok (.aload_n 0, 1) := by decide +kernel
theorem dX12_takesE_74 : decode cX12_takesE 74 = .ok (.dup, 1) := by decide +kernel
theorem dX12_takesE_75 : decode cX12_takesE 75 = .ok (.getfield 77, 3) := by decide +kernel
theorem dX12_takesE_78 : decode cX12_takesE 78 = .ok (.iconst 1, 1) := by decide +kernel
theorem dX12_takesE_79 : decode cX12_takesE 79 = .ok (.iadd, 1) := by decide +kernel
theorem dX12_takesE_80 : decode cX12_takesE 80 = .ok (.putfield 77, 3) := by decide +kernel
theorem dX12_takesE_83 : decode cX12_takesE 83 = .ok (.aload_n 0, 1) := by decide +kernel
theorem dX12_takesE_84 : decode cX12_takesE 84 = .ok (.dup, 1) := by decide +kernel
theorem dX12_takesE_85 : decode cX12_takesE 85 = .ok (.getfield 44, 3) := by decide +kernel
theorem dX12_takesE_88 : decode cX12_takesE 88 = .ok (.iconst 1, 1) := by decide +kernel
theorem dX12_takesE_89 : decode cX12_takesE 89 = .ok (.iadd, 1) := by decide +kernel
theorem dX12_takesE_90 : decode cX12_takesE 90 = .ok (.putfield 44, 3) := by decide +kernel
theorem dX12_takesE_93 : decode cX12_takesE 93 = .ok (.goto (-71), 3) := by decide +kernel
theorem dX12_takesE_96 : decode cX12_takesE 96 = .ok (.aload_n 0, 1) := by decide +kernel
theorem dX12_takesE_97 : decode cX12_takesE 97 = .ok (.invokevirtual 240, 3) := by decide +kernel
theorem dX12_takesE_100 : decode cX12_takesE 100 = .ok (.ifCond .eq 8, 3) := by decide +kernel
theorem dX12_takesE_103 : decode cX12_takesE 103 = .ok (.iconst 0, 1) := by decide +kernel
theorem dX12_takesE_104 : decode cX12_takesE 104 = .ok (.istore_n 2, 1) := by decide +kernel
theorem dX12_takesE_105 : decode cX12_takesE 105 = .ok (.goto (-83), 3) := by decide +kernel
theorem dX12_takesE_108 : decode cX12_takesE 108 = .ok (.iconst 0, 1) := by decide +kernel
theorem dX12_takesE_109 : decode cX12_takesE 109 = .ok (.ireturn, 1) := by decide +kernel
theorem dX12_takesE_110 : decode cX12_takesE 110 = .ok (.iload_n 3, 1) := by decide +kernel
theorem dX12_takesE_111 : decode cX12_takesE 111 = .ok (.bipush 38, 2) := by decide +kernel
theorem dX12_takesE_113 : decode cX12_takesE 113 = .ok (.if_icmp .eq 9, 3) := by decide +kernel
theorem dX12_takesE_116 : decode cX12_takesE 116 = .ok (.iload_n 3, 1) := by decide +kernel
theorem dX12_takesE_117 : decode cX12_takesE 117 = .ok (.bipush 124, 2) := by decide +kernel
theorem dX12_takesE_119 : decode cX12_takesE 119 = .ok (.if_icmp .ne 43, 3) := by decide +kernel
theorem dX12_takesE_122 : decode cX12_takesE 122 = .ok (.aload_n 0, 1) := by decide +kernel
theorem dX12_takesE_123 : decode cX12_takesE 123 = .ok (.iload_n 3, 1) := by decide +kernel
theorem dX12_takesE_124 : decode cX12_takesE 124 = .ok (.invokevirtual 243, 3) := by decide +kernel
theorem dX12_takesE_127 : decode cX12_takesE 127 = .ok (.aload_n 0, 1) := by decide +kernel
theorem dX12_takesE_128 : decode cX12_takesE 128 = .ok (.getfield 71, 3) := by decide +kernel
theorem dX12_takesE_131 : decode cX12_takesE 131 = .ok (.aload_n 0, 1) := by decide +kernel
theorem dX12_takesE_132 : decode cX12_takesE 132 = .ok (.getfield 77, 3) := by decide +kernel
theorem dX12_takesE_135 : decode cX12_takesE 135 = .ok (.iload_n 3, 1) := by decide +kernel
theorem dX12_takesE_136 : decode cX12_takesE 136 = .ok (.iastore, 1) := by decide +kernel
theorem dX12_takesE_137 : decode cX12_takesE 137 = .ok (.aload_n 0, 1) := by decide +kernel
theorem dX12_takesE_138 : decode cX12_takesE 138 = .ok (.dup, 1) := by decide +kernel
theorem dX12_takesE_139 : decode cX12_takesE 139 = .ok (.getfield 77, 3) := by decide +kernel
theorem dX12_takesE_142 : decode cX12_takesE 142 = .ok (.iconst 1, 1) := by decide +kernel
theorem dX12_takesE_143 : decode cX12_takesE 143 = .ok (.iadd, 1) := by decide +kernel
theorem dX12_takesE_144 : decode cX12_takesE 144 = .ok (.putfield 77, 3) := by decide +kernel
theorem dX12_takesE_147 : decode cX12_takesE 147 = .ok (.iconst 1, 1) := by decide +kernel
theorem dX12_takesE_148 : decode cX12_takesE 148 = .ok (.istore_n 2, 1) := by decide +kernel
theorem dX12_takesE_149 : decode cX12_takesE 149 = .ok (.aload_n 0, 1) := by decide +kernel
theorem dX12_takesE_150 : decode cX12_takesE 150 = .ok (.dup, 1) := by decide +kernel
theorem dX12_takesE_151 : decode cX12_takesE 151 = .ok (.getfield 44, 3) := by decide +kernel
theorem dX12_takesE_154 : decode cX12_takesE 154 = .ok (.iconst 1, 1) := by decide +kernel
theorem dX12_takesE_155 : decode cX12_takesE 155 = .ok (.iadd, 1) := by decide +kernel
theorem dX12_takesE_156 : decode cX12_takesE 156 = .ok (.putfield 44, 3) := by decide +kernel
theorem dX12_takesE_159 : decode cX12_takesE 159 = .ok (.goto (-137), 3) := by decide +kernel
theorem dX12_takesE_162 : decode cX12_takesE 162 = .ok (.aload_n 0, 1) := by decide +kernel
theorem dX12_takesE_163 : decode cX12_takesE 163 = .ok (.bipush 124, 2) := by decide +kernel
theorem dX12_takesE_165 : decode cX12_takesE 165 = .ok (.invokevirtual 243, 3) := by decide +kernel
theorem dX12_takesE_168 : decode cX12_takesE 168 = .ok (.aload_n 0, 1) := by decide +kernel
theorem dX12_takesE_169 : decode cX12_takesE 169 = .ok (.getfield 65, 3) := by decide +kernel
theorem dX12_takesE_172 : decode cX12_takesE 172 = .ok (.iload_n 1, 1) := by decide +kernel
theorem dX12_takesE_173 : decode cX12_takesE 173 = .ok (.aload_n 0, 1) := by decide +kernel
theorem dX12_takesE_174 : decode cX12_takesE 174 = .ok (.getfield 74, 3) := by decide +kernel
theorem dX12_takesE_177 : decode cX12_takesE 177 = .ok (.iastore, 1) := by decide +kernel
theorem dX12_takesE_178 : decode cX12_takesE 178 = .ok (.aload_n 0, 1) := by decide +kernel
theorem dX12_takesE_179 : decode cX12_takesE 179 = .ok (.getfield 77, 3) := by decide +kernel
theorem dX12_takesE_182 : decode cX12_takesE 182 = .ok (.ifCond .ne 5, 3) := by decide +kernel
theorem dX12_takesE_185 : decode cX12_takesE 185 = .ok (.iconst 1, 1) := by decide +kernel
theorem dX12_takesE_186 : decode cX12_takesE 186 = .ok (.ireturn, 1) := by decide +kernel
theorem dX12_takesE_187 : decode cX12_takesE 187 = .ok (.iload_n 3, 1) := by decide +kernel
theorem dX12_takesE_188 : decode cX12_takesE 188 = .ok (.bipush 41, 2) := by decide +kernel
theorem dX12_takesE_190 : decode cX12_takesE 190 = .ok (.if_icmp .eq 5, 3) := by decide +kernel
theorem dX12_takesE_193 : decode cX12_takesE 193 = .ok (.iconst 0, 1) := by decide +kernel
theorem dX12_takesE_194 : decode cX12_takesE 194 = .ok (.ireturn, 1) := by decide +kernel
theorem dX12_takesE_195 : decode cX12_takesE 195 = .ok (.aload_n 0, 1) := by decide +kernel
theorem dX12_takesE_196 : decode cX12_takesE 196 = .ok (.dup, 1) := by decide +kernel
theorem dX12_takesE_197 : decode cX12_takesE 197 = .ok (.getfield 77, 3) := by decide +kernel
theorem dX12_takesE_200 : decode cX12_takesE 200 = .ok (.iconst 1, 1) := by decide +kernel
theorem dX12_takesE_201 : decode cX12_takesE 201 = .ok (.isub, 1) := by decide +kernel
theorem dX12_takesE_202 : decode cX12_takesE 202 = .ok (.putfield 77, 3) := by decide +kernel
theorem dX12_takesE_205 : decode cX12_takesE 205 = .ok (.aload_n 0, 1) := by decide +kernel
theorem dX12_takesE_206 : decode cX12_takesE 206 = .ok (.dup, 1) := by decide +kernel
theorem dX12_takesE_207 : decode cX12_takesE 207 = .ok (.getfield 80, 3) := by decide +kernel
theorem dX12_takesE_210 : decode cX12_takesE 210 = .ok (.iconst 1, 1) := by decide +kernel
theorem dX12_takesE_211 : decode cX12_takesE 211 = .ok (.isub, 1) := by decide +kernel
theorem dX12_takesE_212 : decode cX12_takesE 212 = .ok (.putfield 80, 3) := by decide +kernel
theorem dX12_takesE_215 : decode cX12_takesE 215 = .ok (.aload_n 0, 1) := by decide +kernel
theorem dX12_takesE_216 : decode cX12_takesE 216 = .ok (.dup, 1) := by decide +kernel
theorem dX12_takesE_217 : decode cX12_takesE 217 = .ok (.getfield 44, 3) := by decide +kernel
theorem dX12_takesE_220 : decode cX12_takesE 220 = .ok (.iconst 1, 1) := by decide +kernel
theorem dX12_takesE_221 : decode cX12_takesE 221 = .ok (.iadd, 1) := by decide +kernel
theorem dX12_takesE_222 : decode cX12_takesE 222 = .ok (.putfield 44, 3) := by decide +kernel
theorem dX12_takesE_225 : decode cX12_takesE 225 = .ok (.aload_n 0, 1) := by decide +kernel
theorem dX12_takesE_226 : decode cX12_takesE 226 = .ok (.invokevirtual 237, 3) := by decide +kernel
theorem dX12_takesE_229 : decode cX12_takesE 229 = .ok (.goto (-207), 3) := by decide +kernel
theorem dX12_takesHead_0 : decode cX12_takesHead 0 = .ok (.aload_n 0, 1) := by decide +kernel
theorem dX12_takesHead_1 : decode cX12_takesHead 1 = .ok (.invokevirtual 215, 3) := by decide +kernel
theorem dX12_takesHead_4 : decode cX12_takesHead 4 = .ok (.lookupswitch 79 #[(111, 36), (115, 50), (116, 64)], 36) := by decide +kernel
theorem dX12_takesHead_40 : decode cX12_takesHead 40 = .ok (.aload_n 0, 1) := by decide +kernel
theorem dX12_takesHead_41 : decode cX12_takesHead 41 = .ok (.getfield 56, 3) := by decide +kernel
theorem dX12_takesHead_44 : decode cX12_takesHead 44 = .ok (.iload_n 1, 1) := by decide +kernel
theorem dX12_takesHead_45 : decode cX12_takesHead 45 = .ok (.iconst 0, 1) := by decide +kernel
theorem dX12_takesHead_46 : decode cX12_takesHead 46 = .ok (.iastore, 1) := by decide +kernel
theorem dX12_takesHead_47 : decode cX12_takesHead 47 = .ok (.aload_n 0, 1) := by decide +kernel
theorem dX12_takesHead_48 : decode cX12_takesHead 48 = .ok (.iconst 0, 1) := by decide +kernel
theorem dX12_takesHead_49 : decode cX12_takesHead 49 = .ok (.iconst 4, 1) := by decide +kernel
theorem dX12_takesHead_50 : decode cX12_takesHead 50 = .ok (.invokevirtual 246, 3) := by decide +kernel
theorem dX12_takesHead_53 : decode cX12_takesHead 53 = .ok (.ireturn, 1) := by decide +kernel
theorem dX12_takesHead_54 : decode cX12_takesHead 54 = .ok (.aload_n 0, 1) := by decide +kernel
theorem dX12_takesHead_55 : decode cX12_takesHead 55 = .ok (.getfield 56, 3) := by decide +kernel
theorem dX12_takesHead_58 : decode cX12_takesHead 58 = .ok (.iload_n 1, 1) := by decide +kernel
theorem dX12_takesHead_59 : decode cX12_takesHead 59 = .ok (.iconst 1, 1) := by decide +kernel
theorem dX12_takesHead_60 : decode cX12_takesHead 60 = .ok (.iastore, 1) := by decide +kernel
theorem dX12_takesHead_61 : decode cX12_takesHead 61 = .ok (.aload_n 0, 1) := by decide +kernel
theorem dX12_takesHead_62 : decode cX12_takesHead 62 = .ok (.iconst 4, 1) := by decide +kernel
theorem dX12_takesHead_63 : decode cX12_takesHead 63 = .ok (.iconst 4, 1) := by decide +kernel
theorem dX12_takesHead_64 : decode cX12_takesHead 64 = .ok (.invokevirtual 246, 3) := by decide +kernel
theorem dX12_takesHead_67 : decode cX12_takesHead 67 = .ok (.ireturn, 1) := by decide +kernel
theorem dX12_takesHead_68 : decode cX12_takesHead 68 = .ok (.aload_n 0, 1) := by decide +kernel
theorem dX12_takesHead_69 : decode cX12_takesHead 69 = .ok (.getfield 56, 3) := by decide +kernel
theorem dX12_takesHead_72 : decode cX12_takesHead 72 = .ok (.iload_n 1, 1) := by decide +kernel
theorem dX12_takesHead_73 : decode cX12_takesHead 73 = .ok (.iconst 2, 1) := by decide +kernel
theorem dX12_takesHead_74 : decode cX12_takesHead 74 = .ok (.iastore, 1) := by decide +kernel
theorem dX12_takesHead_75 : decode cX12_takesHead 75 = .ok (.aload_n 0, 1) := by decide +kernel
theorem dX12_takesHead_76 : decode cX12_takesHead 76 = .ok (.bipush 8, 2) := by decide +kernel
theorem dX12_takesHead_78 : decode cX12_takesHead 78 = .ok (.iconst 4, 1) := by decide +kernel
theorem dX12_takesHead_79 : decode cX12_takesHead 79 = .ok (.invokevirtual 246, 3) := by decide +kernel
theorem dX12_takesHead_82 : decode cX12_takesHead 82 = .ok (.ireturn, 1) := by decide +kernel
theorem dX12_takesHead_83 : decode cX12_takesHead 83 = .ok (.aload_n 0, 1) := by decide +kernel
theorem dX12_takesHead_84 : decode cX12_takesHead 84 = .ok (.getfield 56, 3) := by decide +kernel
theorem dX12_takesHead_87 : decode cX12_takesHead 87 = .ok (.iload_n 1, 1) := by decide +kernel
theorem dX12_takesHead_88 : decode cX12_takesHead 88 = .ok (.iconst 3, 1) := by decide +kernel
theorem dX12_takesHead_89 : decode cX12_takesHead 89 = .ok (.iastore, 1) := by decide +kernel
theorem dX12_takesHead_90 : decode cX12_takesHead 90 = .ok (.aload_n 0, 1) := by decide +kernel
theorem dX12_takesHead_91 : decode cX12_takesHead 91 = .ok (.bipush 12, 2) := by decide +kernel
theorem dX12_takesHead_93 : decode cX12_takesHead 93 = .ok (.iconst 4, 1) := by decide +kernel
theorem dX12_takesHead_94 : decode cX12_takesHead 94 = .ok (.invokevirtual 246, 3) := by decide +kernel
theorem dX12_takesHead_97 : decode cX12_takesHead 97 = .ok (.ireturn, 1) := by decide +kernel
theorem dX12_takesClause_0 : decode cX12_takesClause 0 = .ok (.aload_n 0, 1) := by decide +kernel
theorem dX12_takesClause_1 : decode cX12_takesClause 1 = .ok (.iload_n 1, 1) := by decide +kernel
theorem dX12_takesClause_2 : decode cX12_takesClause 2 = .ok (.invokevirtual 249, 3) := by decide +kernel
theorem dX12_takesClause_5 : decode cX12_takesClause 5 = .ok (.ifCond .eq 10, 3) := by decide +kernel
theorem dX12_takesClause_8 : decode cX12_takesClause 8 = .ok (.aload_n 0, 1) := by decide +kernel
theorem dX12_takesClause_9 : decode cX12_takesClause 9 = .ok (.invokevirtual 234, 3) := by decide +kernel
theorem dX12_takesClause_12 : decode cX12_takesClause 12 = .ok (.ifCond .ne 5, 3) := by decide +kernel
theorem dX12_takesClause_15 : decode cX12_takesClause 15 = .ok (.iconst 0, 1) := by decide +kernel
theorem dX12_takesClause_16 : decode cX12_takesClause 16 = .ok (.ireturn, 1) := by decide +kernel
theorem dX12_takesClause_17 : decode cX12_takesClause 17 = .ok (.aload_n 0, 1) := by decide +kernel
theorem dX12_takesClause_18 : decode cX12_takesClause 18 = .ok (.getfield 59, 3) := by decide +kernel
theorem dX12_takesClause_21 : decode cX12_takesClause 21 = .ok (.iload_n 1, 1) := by decide +kernel
theorem dX12_takesClause_22 : decode cX12_takesClause 22 = .ok (.aload_n 0, 1) := by decide +kernel
theorem dX12_takesClause_23 : decode cX12_takesClause 23 = .ok (.getfield 47, 3) := by decide +kernel
theorem dX12_takesClause_26 : decode cX12_takesClause 26 = .ok (.iastore, 1) := by decide +kernel
theorem dX12_takesClause_27 : decode cX12_takesClause 27 = .ok (.aload_n 0, 1) := by decide +kernel
theorem dX12_takesClause_28 : decode cX12_takesClause 28 = .ok (.getfield 56, 3) := by decide +kernel
theorem dX12_takesClause_31 : decode cX12_takesClause 31 = .ok (.iload_n 1, 1) := by decide +kernel
theorem dX12_takesClause_32 : decode cX12_takesClause 32 = .ok (.iaload, 1) := by decide +kernel
theorem dX12_takesClause_33 : decode cX12_takesClause 33 = .ok (.iconst 3, 1) := by decide +kernel
theorem dX12_takesClause_34 : decode cX12_takesClause 34 = .ok (.if_icmp .eq 20, 3) := by decide +kernel
theorem dX12_takesClause_37 : decode cX12_takesClause 37 = .ok (.aload_n 0, 1) := by decide +kernel
theorem dX12_takesClause_38 : decode cX12_takesClause 38 = .ok (.bipush 32, 2) := by decide +kernel
theorem dX12_takesClause_40 : decode cX12_takesClause 40 = .ok (.invokevirtual 219, 3) := by decide +kernel
theorem dX12_takesClause_43 : decode cX12_takesClause 43 = .ok (.ifCond .eq 15, 3) := by decide +kernel
theorem dX12_takesClause_46 : decode cX12_takesClause 46 = .ok (.aload_n 0, 1) := by decide +kernel
theorem dX12_takesClause_47 : decode cX12_takesClause 47 = .ok (.iload_n 1, 1) := by decide +kernel
theorem dX12_takesClause_48 : decode cX12_takesClause 48 = .ok (.invokevirtual 252, 3) := by decide +kernel
theorem dX12_takesClause_51 : decode cX12_takesClause 51 = .ok (.ifCond .eq 7, 3) := by decide +kernel
theorem dX12_takesClause_54 : decode cX12_takesClause 54 = .ok (.iconst 1, 1) := by decide +kernel
theorem dX12_takesClause_55 : decode cX12_takesClause 55 = .ok (.goto 4, 3) := by decide +kernel
theorem dX12_takesClause_58 : decode cX12_takesClause 58 = .ok (.iconst 0, 1) := by decide +kernel
theorem dX12_takesClause_59 : decode cX12_takesClause 59 = .ok (.ireturn, 1) := by decide +kernel
theorem dX12_goesText_0 : decode cX12_goesText 0 = .ok (.aload_n 0, 1) := by decide +kernel
theorem dX12_goesText_1 : decode cX12_goesText 1 = .ok (.iconst 0, 1) := by decide +kernel
theorem dX12_goesText_2 : decode cX12_goesText 2 = .ok (.putfield 44, 3) := by decide +kernel
theorem dX12_goesText_5 : decode cX12_goesText 5 = .ok (.aload_n 0, 1) := by decide +kernel
theorem dX12_goesText_6 : decode cX12_goesText 6 = .ok (.bipush 100, 2) := by decide +kernel
theorem dX12_goesText_8 : decode cX12_goesText 8 = .ok (.iload_n 1, 1) := by decide +kernel
theorem dX12_goesText_9 : decode cX12_goesText 9 = .ok (.imul, 1) := by decide +kernel
theorem dX12_goesText_10 : decode cX12_goesText 10 = .ok (.putfield 74, 3) := by decide +kernel
theorem dX12_goesText_13 : decode cX12_goesText 13 = .ok (.iconst 0, 1) := by decide +kernel
theorem dX12_goesText_14 : decode cX12_goesText 14 = .ok (.istore_n 2, 1) := by decide +kernel
theorem dX12_goesText_15 : decode cX12_goesText 15 = .ok (.aload_n 0, 1) := by decide +kernel
theorem dX12_goesText_16 : decode cX12_goesText 16 = .ok (.bipush 10, 2) := by decide +kernel
theorem dX12_goesText_18 : decode cX12_goesText 18 = .ok (.iload_n 1, 1) := by decide +kernel
theorem dX12_goesText_19 : decode cX12_goesText 19 = .ok (.imul, 1) := by decide +kernel
theorem dX12_goesText_20 : decode cX12_goesText 20 = .ok (.iload_n 2, 1) := by decide +kernel
theorem dX12_goesText_21 : decode cX12_goesText 21 = .ok (.iadd, 1) := by decide +kernel
theorem dX12_goesText_22 : decode cX12_goesText 22 = .ok (.invokevirtual 255, 3) := by decide +kernel
theorem dX12_goesText_25 : decode cX12_goesText 25 = .ok (.ifCond .ne 5, 3) := by decide +kernel
theorem dX12_goesText_28 : decode cX12_goesText 28 = .ok (.iconst 0, 1) := by decide +kernel
theorem dX12_goesText_29 : decode cX12_goesText 29 = .ok (.ireturn, 1) := by decide +kernel
theorem dX12_goesText_30 : decode cX12_goesText 30 = .ok (.iinc 2 1, 3) := by decide +kernel
theorem dX12_goesText_33 : decode cX12_goesText 33 = .ok (.aload_n 0, 1) := by decide +kernel
theorem dX12_goesText_34 : decode cX12_goesText 34 = .ok (.getfield 53, 3) := by decide +kernel
theorem dX12_goesText_37 : decode cX12_goesText 37 = .ok (.iload_n 1, 1) := by decide +kernel
theorem dX12_goesText_38 : decode cX12_goesText 38 = .ok (.iload_n 2, 1) := by decide +kernel
theorem dX12_goesText_39 : decode cX12_goesText 39 = .ok (.iastore, 1) := by decide +kernel
theorem dX12_goesText_40 : decode cX12_goesText 40 = .ok (.aload_n 0, 1) := by decide +kernel
theorem dX12_goesText_41 : decode cX12_goesText 41 = .ok (.getfield 44, 3) := by decide +kernel
theorem dX12_goesText_44 : decode cX12_goesText 44 = .ok (.aload_n 0, 1) := by decide +kernel
theorem dX12_goesText_45 : decode cX12_goesText 45 = .ok (.getfield 41, 3) := by decide +kernel
theorem dX12_goesText_48 : decode cX12_goesText 48 = .ok (.if_icmp .ne 5, 3) := by decide +kernel
theorem dX12_goesText_51 : decode cX12_goesText 51 = .ok (.iconst 1, 1) := by decide +kernel
theorem dX12_goesText_52 : decode cX12_goesText 52 = .ok (.ireturn, 1) := by decide +kernel
theorem dX12_goesText_53 : decode cX12_goesText 53 = .ok (.iload_n 2, 1) := by decide +kernel
theorem dX12_goesText_54 : decode cX12_goesText 54 = .ok (.bipush 10, 2) := by decide +kernel
theorem dX12_goesText_56 : decode cX12_goesText 56 = .ok (.if_icmp .eq 12, 3) := by decide +kernel
theorem dX12_goesText_59 : decode cX12_goesText 59 = .ok (.aload_n 0, 1) := by decide +kernel
theorem dX12_goesText_60 : decode cX12_goesText 60 = .ok (.bipush 59, 2) := by decide +kernel
theorem dX12_goesText_62 : decode cX12_goesText 62 = .ok (.invokevirtual 219, 3) := by decide +kernel
theorem dX12_goesText_65 : decode cX12_goesText 65 = .ok (.ifCond .ne (-50), 3) := by decide +kernel
theorem dX12_goesText_68 : decode cX12_goesText 68 = .ok (.iconst 0, 1) := by decide +kernel
theorem dX12_goesText_69 : decode cX12_goesText 69 = .ok (.ireturn, 1) := by decide +kernel
theorem dX12_ward_0 : decode cX12_ward 0 = .ok (.aload_n 0, 1) := by decide +kernel
theorem dX12_ward_1 : decode cX12_ward 1 = .ok (.getfield 35, 3) := by decide +kernel
theorem dX12_ward_4 : decode cX12_ward 4 = .ok (.bipush 6, 2) := by decide +kernel
theorem dX12_ward_6 : decode cX12_ward 6 = .ok (.if_icmp .ne 6, 3) := by decide +kernel
theorem dX12_ward_9 : decode cX12_ward 9 = .ok (.bipush (-4), 2) := by decide +kernel
theorem dX12_ward_11 : decode cX12_ward 11 = .ok (.ireturn, 1) := by decide +kernel
theorem dX12_ward_12 : decode cX12_ward 12 = .ok (.aload_n 0, 1) := by decide +kernel
theorem dX12_ward_13 : decode cX12_ward 13 = .ok (.aload_n 0, 1) := by decide +kernel
theorem dX12_ward_14 : decode cX12_ward 14 = .ok (.getfield 35, 3) := by decide +kernel
theorem dX12_ward_17 : decode cX12_ward 17 = .ok (.invokevirtual 258, 3) := by decide +kernel
theorem dX12_ward_20 : decode cX12_ward 20 = .ok (.istore_n 1, 1) := by decide +kernel
theorem dX12_ward_21 : decode cX12_ward 21 = .ok (.aload_n 0, 1) := by decide +kernel
theorem dX12_ward_22 : decode cX12_ward 22 = .ok (.iconst 0, 1) := by decide +kernel
theorem dX12_ward_23 : decode cX12_ward 23 = .ok (.putfield 41, 3) := by decide +kernel
theorem dX12_ward_26 : decode cX12_ward 26 = .ok (.iload_n 1, 1) := by decide +kernel
theorem dX12_ward_27 : decode cX12_ward 27 = .ok (.ifCond .ne 11, 3) := by decide +kernel
theorem dX12_ward_30 : decode cX12_ward 30 = .ok (.bipush (-10), 2) := by decide +kernel
theorem dX12_ward_32 : decode cX12_ward 32 = .ok (.aload_n 0, 1) := by decide +kernel
theorem dX12_ward_33 : decode cX12_ward 33 = .ok (.getfield 44, 3) := by decide +kernel
theorem dX12_ward_36 : decode cX12_ward 36 = .ok (.isub, 1) := by decide +kernel
theorem dX12_ward_37 : decode cX12_ward 37 = .ok (.ireturn, 1) := by decide +kernel
theorem dX12_ward_38 : decode cX12_ward 38 = .ok (.aload_n 0, 1) := by decide +kernel
theorem dX12_ward_39 : decode cX12_ward 39 = .ok (.aload_n 0, 1) := by decide +kernel
theorem dX12_ward_40 : decode cX12_ward 40 = .ok (.getfield 35, 3) := by decide +kernel
theorem dX12_ward_43 : decode cX12_ward 43 = .ok (.putfield 38, 3) := by decide +kernel
theorem dX12_ward_46 : decode cX12_ward 46 = .ok (.aload_n 0, 1) := by decide +kernel
theorem dX12_ward_47 : decode cX12_ward 47 = .ok (.dup, 1) := by decide +kernel
theorem dX12_ward_48 : decode cX12_ward 48 = .ok (.getfield 35, 3) := by decide +kernel
theorem dX12_ward_51 : decode cX12_ward 51 = .ok (.iconst 1, 1) := by decide +kernel
theorem dX12_ward_52 : decode cX12_ward 52 = .ok (.iadd, 1) := by decide +kernel
theorem dX12_ward_53 : decode cX12_ward 53 = .ok (.putfield 35, 3) := by decide +kernel
theorem dX12_ward_56 : decode cX12_ward 56 = .ok (.aload_n 0, 1) := by decide +kernel
theorem dX12_ward_57 : decode cX12_ward 57 = .ok (.getfield 38, 3) := by decide +kernel
theorem dX12_ward_60 : decode cX12_ward 60 = .ok (.ireturn, 1) := by decide +kernel
theorem dX12_begin_0 : decode cX12_begin 0 = .ok (.aload_n 0, 1) := by decide +kernel
theorem dX12_begin_1 : decode cX12_begin 1 = .ok (.getfield 38, 3) := by decide +kernel
theorem dX12_begin_4 : decode cX12_begin 4 = .ok (.ifCond .ge 7, 3) := by decide +kernel
theorem dX12_begin_7 : decode cX12_begin 7 = .ok (.iconst 0, 1) := by decide +kernel
theorem dX12_begin_8 : decode cX12_begin 8 = .ok (.goto 10, 3) := by decide +kernel
theorem dX12_begin_11 : decode cX12_begin 11 = .ok (.bipush 10, 2) := by decide +kernel
theorem dX12_begin_13 : decode cX12_begin 13 = .ok (.aload_n 0, 1) := by decide +kernel
theorem dX12_begin_14 : decode cX12_begin 14 = .ok (.getfield 38, 3) := by decide +kernel
theorem dX12_begin_17 : decode cX12_begin 17 = .ok (.imul, 1) := by decide +kernel
theorem dX12_begin_18 : decode cX12_begin 18 = .ok (.ireturn, 1) := by decide +kernel
theorem dX12_behind_0 : decode cX12_behind 0 = .ok (.aload_n 0, 1) := by decide +kernel
theorem dX12_behind_1 : decode cX12_behind 1 = .ok (.getfield 38, 3) := by decide +kernel
theorem dX12_behind_4 : decode cX12_behind 4 = .ok (.ifCond .ge 7, 3) := by decide +kernel
theorem dX12_behind_7 : decode cX12_behind 7 = .ok (.iconst 0, 1) := by decide +kernel
theorem dX12_behind_8 : decode cX12_behind 8 = .ok (.goto 20, 3) := by decide +kernel
theorem dX12_behind_11 : decode cX12_behind 11 = .ok (.bipush 10, 2) := by decide +kernel
theorem dX12_behind_13 : decode cX12_behind 13 = .ok (.aload_n 0, 1) := by decide +kernel
theorem dX12_behind_14 : decode cX12_behind 14 = .ok (.getfield 38, 3) := by decide +kernel
theorem dX12_behind_17 : decode cX12_behind 17 = .ok (.imul, 1) := by decide +kernel
theorem dX12_behind_18 : decode cX12_behind 18 = .ok (.aload_n 0, 1) := by decide +kernel
theorem dX12_behind_19 : decode cX12_behind 19 = .ok (.getfield 53, 3) := by decide +kernel
theorem dX12_behind_22 : decode cX12_behind 22 = .ok (.aload_n 0, 1) := by decide +kernel
theorem dX12_behind_23 : decode cX12_behind 23 = .ok (.getfield 38, 3) := by decide +kernel
theorem dX12_behind_26 : decode cX12_behind 26 = .ok (.iaload, 1) := by decide +kernel
theorem dX12_behind_27 : decode cX12_behind 27 = .ok (.iadd, 1) := by decide +kernel
theorem dX12_behind_28 : decode cX12_behind 28 = .ok (.ireturn, 1) := by decide +kernel
theorem dX12_near_0 : decode cX12_near 0 = .ok (.iconst 2, 1) := by decide +kernel
theorem dX12_near_1 : decode cX12_near 1 = .ok (.istore_n 1, 1) := by decide +kernel
theorem dX12_near_2 : decode cX12_near 2 = .ok (.aload_n 0, 1) := by decide +kernel
theorem dX12_near_3 : decode cX12_near 3 = .ok (.invokevirtual 261, 3) := by decide +kernel
theorem dX12_near_6 : decode cX12_near 6 = .ok (.istore_n 2, 1) := by decide +kernel
theorem dX12_near_7 : decode cX12_near 7 = .ok (.iload_n 2, 1) := by decide +kernel
theorem dX12_near_8 : decode cX12_near 8 = .ok (.aload_n 0, 1) := by decide +kernel
theorem dX12_near_9 : decode cX12_near 9 = .ok (.invokevirtual 264, 3) := by decide +kernel
theorem dX12_near_12 : decode cX12_near 12 = .ok (.if_icmp .ge 30, 3) := by decide +kernel
theorem dX12_near_15 : decode cX12_near 15 = .ok (.aload_n 0, 1) := by decide +kernel
theorem dX12_near_16 : decode cX12_near 16 = .ok (.getfield 56, 3) := by decide +kernel
theorem dX12_near_19 : decode cX12_near 19 = .ok (.iload_n 2, 1) := by decide +kernel
theorem dX12_near_20 : decode cX12_near 20 = .ok (.iaload, 1) := by decide +kernel
theorem dX12_near_21 : decode cX12_near 21 = .ok (.iconst 3, 1) := by decide +kernel
theorem dX12_near_22 : decode cX12_near 22 = .ok (.if_icmp .ne 12, 3) := by decide +kernel
theorem dX12_near_25 : decode cX12_near 25 = .ok (.aload_n 0, 1) := by decide +kernel
theorem dX12_near_26 : decode cX12_near 26 = .ok (.getfield 59, 3) := by decide +kernel
theorem dX12_near_29 : decode cX12_near 29 = .ok (.iload_n 2, 1) := by decide +kernel
theorem dX12_near_30 : decode cX12_near 30 = .ok (.iaload, 1) := by decide +kernel
theorem dX12_near_31 : decode cX12_near 31 = .ok (.goto 4, 3) := by decide +kernel
theorem dX12_near_34 : decode cX12_near 34 = .ok (.iload_n 1, 1) := by decide +kernel
theorem dX12_near_35 : decode cX12_near 35 = .ok (.istore_n 1, 1) := by decide +kernel
theorem dX12_near_36 : decode cX12_near 36 = .ok (.iinc 2 1, 3) := by decide +kernel
theorem dX12_near_39 : decode cX12_near 39 = .ok (.goto (-32), 3) := by decide +kernel
theorem dX12_near_42 : decode cX12_near 42 = .ok (.iload_n 1, 1) := by decide +kernel
theorem dX12_near_43 : decode cX12_near 43 = .ok (.ireturn, 1) := by decide +kernel
theorem dX12_factOf_0 : decode cX12_factOf 0 = .ok (.iload_n 1, 1) := by decide +kernel
theorem dX12_factOf_1 : decode cX12_factOf 1 = .ok (.tableswitch 67 0 4 #[35, 37, 44, 51, 57], 35) := by decide +kernel
theorem dX12_factOf_36 : decode cX12_factOf 36 = .ok (.iload_n 2, 1) := by decide +kernel
theorem dX12_factOf_37 : decode cX12_factOf 37 = .ok (.ireturn, 1) := by decide +kernel
theorem dX12_factOf_38 : decode cX12_factOf 38 = .ok (.aload_n 0, 1) := by decide +kernel
theorem dX12_factOf_39 : decode cX12_factOf 39 = .ok (.getfield 23, 3) := by decide +kernel
end
section
theorem dX12_factOf_42 : decode cX12_factOf 42 = .ok (.iload_n 2, 1) := by decide +kernel
theorem dX12_factOf_43 : decode cX12_factOf 43 = .ok (.iaload, 1) := by decide +kernel
theorem dX12_factOf_44 : decode cX12_factOf 44 = .ok (.ireturn, 1) := by decide +kernel
theorem dX12_factOf_45 : decode cX12_factOf 45 = .ok (.aload_n 0, 1) := by decide +kernel
theorem dX12_factOf_46 : decode cX12_factOf 46 = .ok (.getfield 26, 3) := by decide +kernel
theorem dX12_factOf_49 : decode cX12_factOf 49 = .ok (.iload_n 2, 1) := by decide +kernel
theorem dX12_factOf_50 : decode cX12_factOf 50 = .ok (.iaload, 1) := by decide +kernel
theorem dX12_factOf_51 : decode cX12_factOf 51 = .ok (.ireturn, 1) := by decide +kernel
theorem dX12_factOf_52 : decode cX12_factOf 52 = .ok (.aload_n 0, 1) := by decide +kernel
theorem dX12_factOf_53 : decode cX12_factOf 53 = .ok (.iload_n 3, 1) := by decide +kernel
theorem dX12_factOf_54 : decode cX12_factOf 54 = .ok (.invokevirtual 267, 3) := by decide +kernel
theorem dX12_factOf_57 : decode cX12_factOf 57 = .ok (.ireturn, 1) := by decide +kernel
theorem dX12_factOf_58 : decode cX12_factOf 58 = .ok (.aload_n 0, 1) := by decide +kernel
theorem dX12_factOf_59 : decode cX12_factOf 59 = .ok (.getfield 29, 3) := by decide +kernel
theorem dX12_factOf_62 : decode cX12_factOf 62 = .ok (.iload_n 2, 1) := by decide +kernel
theorem dX12_factOf_63 : decode cX12_factOf 63 = .ok (.iaload, 1) := by decide +kernel
theorem dX12_factOf_64 : decode cX12_factOf 64 = .ok (.bipush 10, 2) := by decide +kernel
theorem dX12_factOf_66 : decode cX12_factOf 66 = .ok (.irem, 1) := by decide +kernel
theorem dX12_factOf_67 : decode cX12_factOf 67 = .ok (.ireturn, 1) := by decide +kernel
theorem dX12_factOf_68 : decode cX12_factOf 68 = .ok (.aload_n 0, 1) := by decide +kernel
theorem dX12_factOf_69 : decode cX12_factOf 69 = .ok (.getfield 16, 3) := by decide +kernel
theorem dX12_factOf_72 : decode cX12_factOf 72 = .ok (.bipush 24, 2) := by decide +kernel
theorem dX12_factOf_74 : decode cX12_factOf 74 = .ok (.irem, 1) := by decide +kernel
theorem dX12_factOf_75 : decode cX12_factOf 75 = .ok (.ireturn, 1) := by decide +kernel
theorem dX12_holds_0 : decode cX12_holds 0 = .ok (.iconst 0, 1) := by decide +kernel
theorem dX12_holds_1 : decode cX12_holds 1 = .ok (.istore 4, 2) := by decide +kernel
theorem dX12_holds_3 : decode cX12_holds 3 = .ok (.aload_n 0, 1) := by decide +kernel
theorem dX12_holds_4 : decode cX12_holds 4 = .ok (.getfield 62, 3) := by decide +kernel
theorem dX12_holds_7 : decode cX12_holds 7 = .ok (.iload_n 1, 1) := by decide +kernel
theorem dX12_holds_8 : decode cX12_holds 8 = .ok (.iaload, 1) := by decide +kernel
theorem dX12_holds_9 : decode cX12_holds 9 = .ok (.istore 5, 2) := by decide +kernel
theorem dX12_holds_11 : decode cX12_holds 11 = .ok (.iload 5, 2) := by decide +kernel
theorem dX12_holds_13 : decode cX12_holds 13 = .ok (.aload_n 0, 1) := by decide +kernel
theorem dX12_holds_14 : decode cX12_holds 14 = .ok (.getfield 65, 3) := by decide +kernel
theorem dX12_holds_17 : decode cX12_holds 17 = .ok (.iload_n 1, 1) := by decide +kernel
theorem dX12_holds_18 : decode cX12_holds 18 = .ok (.iaload, 1) := by decide +kernel
theorem dX12_holds_19 : decode cX12_holds 19 = .ok (.if_icmp .ge 234, 3) := by decide +kernel
theorem dX12_holds_22 : decode cX12_holds 22 = .ok (.aload_n 0, 1) := by decide +kernel
theorem dX12_holds_23 : decode cX12_holds 23 = .ok (.getfield 68, 3) := by decide +kernel
theorem dX12_holds_26 : decode cX12_holds 26 = .ok (.iload 5, 2) := by decide +kernel
theorem dX12_holds_28 : decode cX12_holds 28 = .ok (.iaload, 1) := by decide +kernel
theorem dX12_holds_29 : decode cX12_holds 29 = .ok (.istore 6, 2) := by decide +kernel
theorem dX12_holds_31 : decode cX12_holds 31 = .ok (.iload 6, 2) := by decide +kernel
theorem dX12_holds_33 : decode cX12_holds 33 = .ok (.bipush (-33), 2) := by decide +kernel
theorem dX12_holds_35 : decode cX12_holds 35 = .ok (.if_icmp .ne 32, 3) := by decide +kernel
theorem dX12_holds_38 : decode cX12_holds 38 = .ok (.aload_n 0, 1) := by decide +kernel
theorem dX12_holds_39 : decode cX12_holds 39 = .ok (.getfield 86, 3) := by decide +kernel
theorem dX12_holds_42 : decode cX12_holds 42 = .ok (.iload 4, 2) := by decide +kernel
theorem dX12_holds_44 : decode cX12_holds 44 = .ok (.iconst 1, 1) := by decide +kernel
theorem dX12_holds_45 : decode cX12_holds 45 = .ok (.isub, 1) := by decide +kernel
theorem dX12_holds_46 : decode cX12_holds 46 = .ok (.aload_n 0, 1) := by decide +kernel
theorem dX12_holds_47 : decode cX12_holds 47 = .ok (.getfield 86, 3) := by decide +kernel
theorem dX12_holds_50 : decode cX12_holds 50 = .ok (.iload 4, 2) := by decide +kernel
theorem dX12_holds_52 : decode cX12_holds 52 = .ok (.iconst 1, 1) := by decide +kernel
theorem dX12_holds_53 : decode cX12_holds 53 = .ok (.isub, 1) := by decide +kernel
theorem dX12_holds_54 : decode cX12_holds 54 = .ok (.baload, 1) := by decide +kernel
theorem dX12_holds_55 : decode cX12_holds 55 = .ok (.ifCond .ne 7, 3) := by decide +kernel
theorem dX12_holds_58 : decode cX12_holds 58 = .ok (.iconst 1, 1) := by decide +kernel
theorem dX12_holds_59 : decode cX12_holds 59 = .ok (.goto 4, 3) := by decide +kernel
theorem dX12_holds_62 : decode cX12_holds 62 = .ok (.iconst 0, 1) := by decide +kernel
theorem dX12_holds_63 : decode cX12_holds 63 = .ok (.bastore, 1) := by decide +kernel
theorem dX12_holds_64 : decode cX12_holds 64 = .ok (.goto 183, 3) := by decide +kernel
theorem dX12_holds_67 : decode cX12_holds 67 = .ok (.iload 6, 2) := by decide +kernel
theorem dX12_holds_69 : decode cX12_holds 69 = .ok (.ifCond .ge 82, 3) := by decide +kernel
theorem dX12_holds_72 : decode cX12_holds 72 = .ok (.iinc 4 (-1), 3) := by decide +kernel
theorem dX12_holds_75 : decode cX12_holds 75 = .ok (.aload_n 0, 1) := by decide +kernel
theorem dX12_holds_76 : decode cX12_holds 76 = .ok (.getfield 86, 3) := by decide +kernel
theorem dX12_holds_79 : decode cX12_holds 79 = .ok (.iload 4, 2) := by decide +kernel
theorem dX12_holds_81 : decode cX12_holds 81 = .ok (.iconst 1, 1) := by decide +kernel
theorem dX12_holds_82 : decode cX12_holds 82 = .ok (.isub, 1) := by decide +kernel
theorem dX12_holds_83 : decode cX12_holds 83 = .ok (.iload 6, 2) := by decide +kernel
theorem dX12_holds_85 : decode cX12_holds 85 = .ok (.bipush (-38), 2) := by decide +kernel
theorem dX12_holds_87 : decode cX12_holds 87 = .ok (.if_icmp .ne 33, 3) := by decide +kernel
theorem dX12_holds_90 : decode cX12_holds 90 = .ok (.aload_n 0, 1) := by decide +kernel
theorem dX12_holds_91 : decode cX12_holds 91 = .ok (.getfield 86, 3) := by decide +kernel
theorem dX12_holds_94 : decode cX12_holds 94 = .ok (.iload 4, 2) := by decide +kernel
theorem dX12_holds_96 : decode cX12_holds 96 = .ok (.iconst 1, 1) := by decide +kernel
theorem dX12_holds_97 : decode cX12_holds 97 = .ok (.isub, 1) := by decide +kernel
theorem dX12_holds_98 : decode cX12_holds 98 = .ok (.baload, 1) := by decide +kernel
theorem dX12_holds_99 : decode cX12_holds 99 = .ok (.ifCond .eq 17, 3) := by decide +kernel
theorem dX12_holds_102 : decode cX12_holds 102 = .ok (.aload_n 0, 1) := by decide +kernel
theorem dX12_holds_103 : decode cX12_holds 103 = .ok (.getfield 86, 3) := by decide +kernel
theorem dX12_holds_106 : decode cX12_holds 106 = .ok (.iload 4, 2) := by decide +kernel
theorem dX12_holds_108 : decode cX12_holds 108 = .ok (.baload, 1) := by decide +kernel
theorem dX12_holds_109 : decode cX12_holds 109 = .ok (.ifCond .eq 7, 3) := by decide +kernel
theorem dX12_holds_112 : decode cX12_holds 112 = .ok (.iconst 1, 1) := by decide +kernel
theorem dX12_holds_113 : decode cX12_holds 113 = .ok (.goto 34, 3) := by decide +kernel
theorem dX12_holds_116 : decode cX12_holds 116 = .ok (.iconst 0, 1) := by decide +kernel
theorem dX12_holds_117 : decode cX12_holds 117 = .ok (.goto 30, 3) := by decide +kernel
theorem dX12_holds_120 : decode cX12_holds 120 = .ok (.aload_n 0, 1) := by decide +kernel
theorem dX12_holds_121 : decode cX12_holds 121 = .ok (.getfield 86, 3) := by decide +kernel
theorem dX12_holds_124 : decode cX12_holds 124 = .ok (.iload 4, 2) := by decide +kernel
theorem dX12_holds_126 : decode cX12_holds 126 = .ok (.iconst 1, 1) := by decide +kernel
theorem dX12_holds_127 : decode cX12_holds 127 = .ok (.isub, 1) := by decide +kernel
theorem dX12_holds_128 : decode cX12_holds 128 = .ok (.baload, 1) := by decide +kernel
theorem dX12_holds_129 : decode cX12_holds 129 = .ok (.ifCond .ne 13, 3) := by decide +kernel
theorem dX12_holds_132 : decode cX12_holds 132 = .ok (.aload_n 0, 1) := by decide +kernel
theorem dX12_holds_133 : decode cX12_holds 133 = .ok (.getfield 86, 3) := by decide +kernel
theorem dX12_holds_136 : decode cX12_holds 136 = .ok (.iload 4, 2) := by decide +kernel
theorem dX12_holds_138 : decode cX12_holds 138 = .ok (.baload, 1) := by decide +kernel
theorem dX12_holds_139 : decode cX12_holds 139 = .ok (.ifCond .eq 7, 3) := by decide +kernel
theorem dX12_holds_142 : decode cX12_holds 142 = .ok (.iconst 1, 1) := by decide +kernel
theorem dX12_holds_143 : decode cX12_holds 143 = .ok (.goto 4, 3) := by decide +kernel
theorem dX12_holds_146 : decode cX12_holds 146 = .ok (.iconst 0, 1) := by decide +kernel
theorem dX12_holds_147 : decode cX12_holds 147 = .ok (.bastore, 1) := by decide +kernel
theorem dX12_holds_148 : decode cX12_holds 148 = .ok (.goto 99, 3) := by decide +kernel
theorem dX12_holds_151 : decode cX12_holds 151 = .ok (.aload_n 0, 1) := by decide +kernel
theorem dX12_holds_152 : decode cX12_holds 152 = .ok (.iload 6, 2) := by decide +kernel
theorem dX12_holds_154 : decode cX12_holds 154 = .ok (.sipush 1000, 3) := by decide +kernel
theorem dX12_holds_157 : decode cX12_holds 157 = .ok (.idiv, 1) := by decide +kernel
theorem dX12_holds_158 : decode cX12_holds 158 = .ok (.iload_n 2, 1) := by decide +kernel
theorem dX12_holds_159 : decode cX12_holds 159 = .ok (.iload_n 3, 1) := by decide +kernel
theorem dX12_holds_160 : decode cX12_holds 160 = .ok (.invokevirtual 270, 3) := by decide +kernel
theorem dX12_holds_163 : decode cX12_holds 163 = .ok (.istore 7, 2) := by decide +kernel
theorem dX12_holds_165 : decode cX12_holds 165 = .ok (.iload 6, 2) := by decide +kernel
theorem dX12_holds_167 : decode cX12_holds 167 = .ok (.bipush 100, 2) := by decide +kernel
theorem dX12_holds_169 : decode cX12_holds 169 = .ok (.idiv, 1) := by decide +kernel
theorem dX12_holds_170 : decode cX12_holds 170 = .ok (.bipush 10, 2) := by decide +kernel
theorem dX12_holds_172 : decode cX12_holds 172 = .ok (.irem, 1) := by decide +kernel
theorem dX12_holds_173 : decode cX12_holds 173 = .ok (.istore 8, 2) := by decide +kernel
theorem dX12_holds_175 : decode cX12_holds 175 = .ok (.aload_n 0, 1) := by decide +kernel
theorem dX12_holds_176 : decode cX12_holds 176 = .ok (.getfield 86, 3) := by decide +kernel
theorem dX12_holds_179 : decode cX12_holds 179 = .ok (.iload 4, 2) := by decide +kernel
theorem dX12_holds_181 : decode cX12_holds 181 = .ok (.iload 8, 2) := by decide +kernel
theorem dX12_holds_183 : decode cX12_holds 183 = .ok (.ifCond .ne 21, 3) := by decide +kernel
theorem dX12_holds_186 : decode cX12_holds 186 = .ok (.iload 7, 2) := by decide +kernel
theorem dX12_holds_188 : decode cX12_holds 188 = .ok (.iload 6, 2) := by decide +kernel
theorem dX12_holds_190 : decode cX12_holds 190 = .ok (.bipush 100, 2) := by decide +kernel
theorem dX12_holds_192 : decode cX12_holds 192 = .ok (.irem, 1) := by decide +kernel
theorem dX12_holds_193 : decode cX12_holds 193 = .ok (.if_icmp .ge 7, 3) := by decide +kernel
theorem dX12_holds_196 : decode cX12_holds 196 = .ok (.iconst 1, 1) := by decide +kernel
theorem dX12_holds_197 : decode cX12_holds 197 = .ok (.goto 46, 3) := by decide +kernel
theorem dX12_holds_200 : decode cX12_holds 200 = .ok (.iconst 0, 1) := by decide +kernel
theorem dX12_holds_201 : decode cX12_holds 201 = .ok (.goto 42, 3) := by decide +kernel
theorem dX12_holds_204 : decode cX12_holds 204 = .ok (.iload 8, 2) := by decide +kernel
theorem dX12_holds_206 : decode cX12_holds 206 = .ok (.iconst 1, 1) := by decide +kernel
theorem dX12_holds_207 : decode cX12_holds 207 = .ok (.if_icmp .ne 21, 3) := by decide +kernel
theorem dX12_holds_210 : decode cX12_holds 210 = .ok (.iload 7, 2) := by decide +kernel
theorem dX12_holds_212 : decode cX12_holds 212 = .ok (.iload 6, 2) := by decide +kernel
theorem dX12_holds_214 : decode cX12_holds 214 = .ok (.bipush 100, 2) := by decide +kernel
theorem dX12_holds_216 : decode cX12_holds 216 = .ok (.irem, 1) := by decide +kernel
theorem dX12_holds_217 : decode cX12_holds 217 = .ok (.if_icmp .ne 7, 3) := by decide +kernel
theorem dX12_holds_220 : decode cX12_holds 220 = .ok (.iconst 1, 1) := by decide +kernel
theorem dX12_holds_221 : decode cX12_holds 221 = .ok (.goto 22, 3) := by decide +kernel
theorem dX12_holds_224 : decode cX12_holds 224 = .ok (.iconst 0, 1) := by decide +kernel
theorem dX12_holds_225 : decode cX12_holds 225 = .ok (.goto 18, 3) := by decide +kernel
theorem dX12_holds_228 : decode cX12_holds 228 = .ok (.iload 7, 2) := by decide +kernel
theorem dX12_holds_230 : decode cX12_holds 230 = .ok (.iload 6, 2) := by decide +kernel
theorem dX12_holds_232 : decode cX12_holds 232 = .ok (.bipush 100, 2) := by decide +kernel
theorem dX12_holds_234 : decode cX12_holds 234 = .ok (.irem, 1) := by decide +kernel
theorem dX12_holds_235 : decode cX12_holds 235 = .ok (.if_icmp .le 7, 3) := by decide +kernel
theorem dX12_holds_238 : decode cX12_holds 238 = .ok (.iconst 1, 1) := by decide +kernel
theorem dX12_holds_239 : decode cX12_holds 239 = .ok (.goto 4, 3) := by decide +kernel
theorem dX12_holds_242 : decode cX12_holds 242 = .ok (.iconst 0, 1) := by decide +kernel
theorem dX12_holds_243 : decode cX12_holds 243 = .ok (.bastore, 1) := by decide +kernel
theorem dX12_holds_244 : decode cX12_holds 244 = .ok (.iinc 4 1, 3) := by decide +kernel
theorem dX12_holds_247 : decode cX12_holds 247 = .ok (.iinc 5 1, 3) := by decide +kernel
theorem dX12_holds_250 : decode cX12_holds 250 = .ok (.goto (-239), 3) := by decide +kernel
theorem dX12_holds_253 : decode cX12_holds 253 = .ok (.aload_n 0, 1) := by decide +kernel
theorem dX12_holds_254 : decode cX12_holds 254 = .ok (.getfield 86, 3) := by decide +kernel
theorem dX12_holds_257 : decode cX12_holds 257 = .ok (.iconst 0, 1) := by decide +kernel
theorem dX12_holds_258 : decode cX12_holds 258 = .ok (.baload, 1) := by decide +kernel
theorem dX12_holds_259 : decode cX12_holds 259 = .ok (.ireturn, 1) := by decide +kernel
theorem dX12_turned_0 : decode cX12_turned 0 = .ok (.iload_n 2, 1) := by decide +kernel
theorem dX12_turned_1 : decode cX12_turned 1 = .ok (.bipush 10, 2) := by decide +kernel
theorem dX12_turned_3 : decode cX12_turned 3 = .ok (.irem, 1) := by decide +kernel
theorem dX12_turned_4 : decode cX12_turned 4 = .ok (.istore_n 3, 1) := by decide +kernel
theorem dX12_turned_5 : decode cX12_turned 5 = .ok (.iload_n 1, 1) := by decide +kernel
theorem dX12_turned_6 : decode cX12_turned 6 = .ok (.iload_n 3, 1) := by decide +kernel
theorem dX12_turned_7 : decode cX12_turned 7 = .ok (.ishl, 1) := by decide +kernel
theorem dX12_turned_8 : decode cX12_turned 8 = .ok (.iload_n 1, 1) := by decide +kernel
theorem dX12_turned_9 : decode cX12_turned 9 = .ok (.bipush 10, 2) := by decide +kernel
theorem dX12_turned_11 : decode cX12_turned 11 = .ok (.iload_n 3, 1) := by decide +kernel
theorem dX12_turned_12 : decode cX12_turned 12 = .ok (.isub, 1) := by decide +kernel
theorem dX12_turned_13 : decode cX12_turned 13 = .ok (.ishr, 1) := by decide +kernel
theorem dX12_turned_14 : decode cX12_turned 14 = .ok (.ior, 1) := by decide +kernel
theorem dX12_turned_15 : decode cX12_turned 15 = .ok (.sipush 1023, 3) := by decide +kernel
theorem dX12_turned_18 : decode cX12_turned 18 = .ok (.iand, 1) := by decide +kernel
theorem dX12_turned_19 : decode cX12_turned 19 = .ok (.ireturn, 1) := by decide +kernel
theorem dX12_mirrored_0 : decode cX12_mirrored 0 = .ok (.iconst 0, 1) := by decide +kernel
theorem dX12_mirrored_1 : decode cX12_mirrored 1 = .ok (.istore_n 2, 1) := by decide +kernel
theorem dX12_mirrored_2 : decode cX12_mirrored 2 = .ok (.iconst 0, 1) := by decide +kernel
theorem dX12_mirrored_3 : decode cX12_mirrored 3 = .ok (.istore_n 3, 1) := by decide +kernel
theorem dX12_mirrored_4 : decode cX12_mirrored 4 = .ok (.iload_n 3, 1) := by decide +kernel
theorem dX12_mirrored_5 : decode cX12_mirrored 5 = .ok (.bipush 10, 2) := by decide +kernel
theorem dX12_mirrored_7 : decode cX12_mirrored 7 = .ok (.if_icmp .ge 31, 3) := by decide +kernel
theorem dX12_mirrored_10 : decode cX12_mirrored 10 = .ok (.iload_n 2, 1) := by decide +kernel
theorem dX12_mirrored_11 : decode cX12_mirrored 11 = .ok (.aload_n 0, 1) := by decide +kernel
theorem dX12_mirrored_12 : decode cX12_mirrored 12 = .ok (.iload_n 1, 1) := by decide +kernel
theorem dX12_mirrored_13 : decode cX12_mirrored 13 = .ok (.bipush 9, 2) := by decide +kernel
theorem dX12_mirrored_15 : decode cX12_mirrored 15 = .ok (.iload_n 3, 1) := by decide +kernel
theorem dX12_mirrored_16 : decode cX12_mirrored 16 = .ok (.isub, 1) := by decide +kernel
theorem dX12_mirrored_17 : decode cX12_mirrored 17 = .ok (.invokevirtual 197, 3) := by decide +kernel
theorem dX12_mirrored_20 : decode cX12_mirrored 20 = .ok (.ifCond .eq 9, 3) := by decide +kernel
theorem dX12_mirrored_23 : decode cX12_mirrored 23 = .ok (.iconst 1, 1) := by decide +kernel
theorem dX12_mirrored_24 : decode cX12_mirrored 24 = .ok (.iload_n 3, 1) := by decide +kernel
theorem dX12_mirrored_25 : decode cX12_mirrored 25 = .ok (.ishl, 1) := by decide +kernel
theorem dX12_mirrored_26 : decode cX12_mirrored 26 = .ok (.goto 4, 3) := by decide +kernel
theorem dX12_mirrored_29 : decode cX12_mirrored 29 = .ok (.iconst 0, 1) := by decide +kernel
theorem dX12_mirrored_30 : decode cX12_mirrored 30 = .ok (.ior, 1) := by decide +kernel
theorem dX12_mirrored_31 : decode cX12_mirrored 31 = .ok (.istore_n 2, 1) := by decide +kernel
theorem dX12_mirrored_32 : decode cX12_mirrored 32 = .ok (.iinc 3 1, 3) := by decide +kernel
theorem dX12_mirrored_35 : decode cX12_mirrored 35 = .ok (.goto (-31), 3) := by decide +kernel
theorem dX12_mirrored_38 : decode cX12_mirrored 38 = .ok (.iload_n 2, 1) := by decide +kernel
theorem dX12_mirrored_39 : decode cX12_mirrored 39 = .ok (.ireturn, 1) := by decide +kernel
theorem dX12_blind_0 : decode cX12_blind 0 = .ok (.iload_n 2, 1) := by decide +kernel
theorem dX12_blind_1 : decode cX12_blind 1 = .ok (.istore_n 3, 1) := by decide +kernel
theorem dX12_blind_2 : decode cX12_blind 2 = .ok (.aload_n 0, 1) := by decide +kernel
theorem dX12_blind_3 : decode cX12_blind 3 = .ok (.invokevirtual 261, 3) := by decide +kernel
theorem dX12_blind_6 : decode cX12_blind 6 = .ok (.istore 4, 2) := by decide +kernel
theorem dX12_blind_8 : decode cX12_blind 8 = .ok (.iload 4, 2) := by decide +kernel
theorem dX12_blind_10 : decode cX12_blind 10 = .ok (.aload_n 0, 1) := by decide +kernel
theorem dX12_blind_11 : decode cX12_blind 11 = .ok (.invokevirtual 264, 3) := by decide +kernel
theorem dX12_blind_14 : decode cX12_blind 14 = .ok (.if_icmp .ge 98, 3) := by decide +kernel
theorem dX12_blind_17 : decode cX12_blind 17 = .ok (.aload_n 0, 1) := by decide +kernel
theorem dX12_blind_18 : decode cX12_blind 18 = .ok (.getfield 56, 3) := by decide +kernel
theorem dX12_blind_21 : decode cX12_blind 21 = .ok (.iload 4, 2) := by decide +kernel
theorem dX12_blind_23 : decode cX12_blind 23 = .ok (.iaload, 1) := by decide +kernel
theorem dX12_blind_24 : decode cX12_blind 24 = .ok (.iconst 3, 1) := by decide +kernel
theorem dX12_blind_25 : decode cX12_blind 25 = .ok (.if_icmp .eq 81, 3) := by decide +kernel
theorem dX12_blind_28 : decode cX12_blind 28 = .ok (.aload_n 0, 1) := by decide +kernel
theorem dX12_blind_29 : decode cX12_blind 29 = .ok (.iload 4, 2) := by decide +kernel
theorem dX12_blind_31 : decode cX12_blind 31 = .ok (.iload_n 1, 1) := by decide +kernel
theorem dX12_blind_32 : decode cX12_blind 32 = .ok (.iload_n 2, 1) := by decide +kernel
theorem dX12_blind_33 : decode cX12_blind 33 = .ok (.invokevirtual 274, 3) := by decide +kernel
theorem dX12_blind_36 : decode cX12_blind 36 = .ok (.ifCond .ne 6, 3) := by decide +kernel
theorem dX12_blind_39 : decode cX12_blind 39 = .ok (.goto 67, 3) := by decide +kernel
theorem dX12_blind_42 : decode cX12_blind 42 = .ok (.iconst 1, 1) := by decide +kernel
theorem dX12_blind_43 : decode cX12_blind 43 = .ok (.aload_n 0, 1) := by decide +kernel
theorem dX12_blind_44 : decode cX12_blind 44 = .ok (.getfield 59, 3) := by decide +kernel
theorem dX12_blind_47 : decode cX12_blind 47 = .ok (.iload 4, 2) := by decide +kernel
theorem dX12_blind_49 : decode cX12_blind 49 = .ok (.iaload, 1) := by decide +kernel
theorem dX12_blind_50 : decode cX12_blind 50 = .ok (.bipush 10, 2) := by decide +kernel
theorem dX12_blind_52 : decode cX12_blind 52 = .ok (.irem, 1) := by decide +kernel
theorem dX12_blind_53 : decode cX12_blind 53 = .ok (.ishl, 1) := by decide +kernel
theorem dX12_blind_54 : decode cX12_blind 54 = .ok (.istore 5, 2) := by decide +kernel
theorem dX12_blind_56 : decode cX12_blind 56 = .ok (.aload_n 0, 1) := by decide +kernel
theorem dX12_blind_57 : decode cX12_blind 57 = .ok (.getfield 56, 3) := by decide +kernel
theorem dX12_blind_60 : decode cX12_blind 60 = .ok (.iload 4, 2) := by decide +kernel
theorem dX12_blind_62 : decode cX12_blind 62 = .ok (.iaload, 1) := by decide +kernel
theorem dX12_blind_63 : decode cX12_blind 63 = .ok (.ifCond .ne 10, 3) := by decide +kernel
theorem dX12_blind_66 : decode cX12_blind 66 = .ok (.iload_n 3, 1) := by decide +kernel
theorem dX12_blind_67 : decode cX12_blind 67 = .ok (.iload 5, 2) := by decide +kernel
theorem dX12_blind_69 : decode cX12_blind 69 = .ok (.ior, 1) := by decide +kernel
theorem dX12_blind_70 : decode cX12_blind 70 = .ok (.goto 35, 3) := by decide +kernel
theorem dX12_blind_73 : decode cX12_blind 73 = .ok (.aload_n 0, 1) := by decide +kernel
theorem dX12_blind_74 : decode cX12_blind 74 = .ok (.getfield 56, 3) := by decide +kernel
theorem dX12_blind_77 : decode cX12_blind 77 = .ok (.iload 4, 2) := by decide +kernel
theorem dX12_blind_79 : decode cX12_blind 79 = .ok (.iaload, 1) := by decide +kernel
theorem dX12_blind_80 : decode cX12_blind 80 = .ok (.iconst 1, 1) := by decide +kernel
theorem dX12_blind_81 : decode cX12_blind 81 = .ok (.if_icmp .ne 12, 3) := by decide +kernel
theorem dX12_blind_84 : decode cX12_blind 84 = .ok (.iload_n 3, 1) := by decide +kernel
theorem dX12_blind_85 : decode cX12_blind 85 = .ok (.iload 5, 2) := by decide +kernel
theorem dX12_blind_87 : decode cX12_blind 87 = .ok (.iconst (-1), 1) := by decide +kernel
theorem dX12_blind_88 : decode cX12_blind 88 = .ok (.ixor, 1) := by decide +kernel
theorem dX12_blind_89 : decode cX12_blind 89 = .ok (.iand, 1) := by decide +kernel
theorem dX12_blind_90 : decode cX12_blind 90 = .ok (.goto 15, 3) := by decide +kernel
theorem dX12_blind_93 : decode cX12_blind 93 = .ok (.aload_n 0, 1) := by decide +kernel
theorem dX12_blind_94 : decode cX12_blind 94 = .ok (.iload_n 3, 1) := by decide +kernel
theorem dX12_blind_95 : decode cX12_blind 95 = .ok (.aload_n 0, 1) := by decide +kernel
theorem dX12_blind_96 : decode cX12_blind 96 = .ok (.getfield 59, 3) := by decide +kernel
theorem dX12_blind_99 : decode cX12_blind 99 = .ok (.iload 4, 2) := by decide +kernel
theorem dX12_blind_101 : decode cX12_blind 101 = .ok (.iaload, 1) := by decide +kernel
theorem dX12_blind_102 : decode cX12_blind 102 = .ok (.invokevirtual 277, 3) := by decide +kernel
theorem dX12_blind_105 : decode cX12_blind 105 = .ok (.istore_n 3, 1) := by decide +kernel
theorem dX12_blind_106 : decode cX12_blind 106 = .ok (.iinc 4 1, 3) := by decide +kernel
theorem dX12_blind_109 : decode cX12_blind 109 = .ok (.goto (-101), 3) := by decide +kernel
theorem dX12_blind_112 : decode cX12_blind 112 = .ok (.iload_n 3, 1) := by decide +kernel
theorem dX12_blind_113 : decode cX12_blind 113 = .ok (.ireturn, 1) := by decide +kernel
theorem dX12_showsOf_0 : decode cX12_showsOf 0 = .ok (.aload_n 0, 1) := by decide +kernel
theorem dX12_showsOf_1 : decode cX12_showsOf 1 = .ok (.iload_n 1, 1) := by decide +kernel
theorem dX12_showsOf_2 : decode cX12_showsOf 2 = .ok (.iload_n 2, 1) := by decide +kernel
theorem dX12_showsOf_3 : decode cX12_showsOf 3 = .ok (.invokevirtual 281, 3) := by decide +kernel
theorem dX12_showsOf_6 : decode cX12_showsOf 6 = .ok (.istore_n 3, 1) := by decide +kernel
theorem dX12_showsOf_7 : decode cX12_showsOf 7 = .ok (.aload_n 0, 1) := by decide +kernel
theorem dX12_showsOf_8 : decode cX12_showsOf 8 = .ok (.getfield 23, 3) := by decide +kernel
theorem dX12_showsOf_11 : decode cX12_showsOf 11 = .ok (.iload_n 1, 1) := by decide +kernel
theorem dX12_showsOf_12 : decode cX12_showsOf 12 = .ok (.iaload, 1) := by decide +kernel
theorem dX12_showsOf_13 : decode cX12_showsOf 13 = .ok (.tableswitch 120 1 6 #[39, 46, 52, 63, 74, 93], 39) := by decide +kernel
theorem dX12_showsOf_52 : decode cX12_showsOf 52 = .ok (.aload_n 0, 1) := by decide +kernel
theorem dX12_showsOf_53 : decode cX12_showsOf 53 = .ok (.iload_n 3, 1) := by decide +kernel
theorem dX12_showsOf_54 : decode cX12_showsOf 54 = .ok (.iconst 1, 1) := by decide +kernel
theorem dX12_showsOf_55 : decode cX12_showsOf 55 = .ok (.invokevirtual 277, 3) := by decide +kernel
theorem dX12_showsOf_58 : decode cX12_showsOf 58 = .ok (.ireturn, 1) := by decide +kernel
theorem dX12_showsOf_59 : decode cX12_showsOf 59 = .ok (.iload_n 3, 1) := by decide +kernel
theorem dX12_showsOf_60 : decode cX12_showsOf 60 = .ok (.sipush 341, 3) := by decide +kernel
theorem dX12_showsOf_63 : decode cX12_showsOf 63 = .ok (.iand, 1) := by decide +kernel
theorem dX12_showsOf_64 : decode cX12_showsOf 64 = .ok (.ireturn, 1) := by decide +kernel
theorem dX12_showsOf_65 : decode cX12_showsOf 65 = .ok (.iload_n 3, 1) := by decide +kernel
theorem dX12_showsOf_66 : decode cX12_showsOf 66 = .ok (.iconst 1, 1) := by decide +kernel
theorem dX12_showsOf_67 : decode cX12_showsOf 67 = .ok (.aload_n 0, 1) := by decide +kernel
theorem dX12_showsOf_68 : decode cX12_showsOf 68 = .ok (.getfield 26, 3) := by decide +kernel
theorem dX12_showsOf_71 : decode cX12_showsOf 71 = .ok (.iload_n 1, 1) := by decide +kernel
theorem dX12_showsOf_72 : decode cX12_showsOf 72 = .ok (.iaload, 1) := by decide +kernel
theorem dX12_showsOf_73 : decode cX12_showsOf 73 = .ok (.ishl, 1) := by decide +kernel
theorem dX12_showsOf_74 : decode cX12_showsOf 74 = .ok (.ixor, 1) := by decide +kernel
theorem dX12_showsOf_75 : decode cX12_showsOf 75 = .ok (.ireturn, 1) := by decide +kernel
theorem dX12_showsOf_76 : decode cX12_showsOf 76 = .ok (.aload_n 0, 1) := by decide +kernel
theorem dX12_showsOf_77 : decode cX12_showsOf 77 = .ok (.aload_n 0, 1) := by decide +kernel
theorem dX12_showsOf_78 : decode cX12_showsOf 78 = .ok (.iload_n 3, 1) := by decide +kernel
theorem dX12_showsOf_79 : decode cX12_showsOf 79 = .ok (.iconst 1, 1) := by decide +kernel
theorem dX12_showsOf_80 : decode cX12_showsOf 80 = .ok (.invokevirtual 277, 3) := by decide +kernel
theorem dX12_showsOf_83 : decode cX12_showsOf 83 = .ok (.invokevirtual 284, 3) := by decide +kernel
theorem dX12_showsOf_86 : decode cX12_showsOf 86 = .ok (.ireturn, 1) := by decide +kernel
theorem dX12_showsOf_87 : decode cX12_showsOf 87 = .ok (.aload_n 0, 1) := by decide +kernel
theorem dX12_showsOf_88 : decode cX12_showsOf 88 = .ok (.getfield 16, 3) := by decide +kernel
theorem dX12_showsOf_91 : decode cX12_showsOf 91 = .ok (.iconst 2, 1) := by decide +kernel
theorem dX12_showsOf_92 : decode cX12_showsOf 92 = .ok (.irem, 1) := by decide +kernel
theorem dX12_showsOf_93 : decode cX12_showsOf 93 = .ok (.ifCond .ne 11, 3) := by decide +kernel
theorem dX12_showsOf_96 : decode cX12_showsOf 96 = .ok (.iload_n 3, 1) := by decide +kernel
theorem dX12_showsOf_97 : decode cX12_showsOf 97 = .ok (.sipush 341, 3) := by decide +kernel
theorem dX12_showsOf_100 : decode cX12_showsOf 100 = .ok (.iand, 1) := by decide +kernel
theorem dX12_showsOf_101 : decode cX12_showsOf 101 = .ok (.goto 4, 3) := by decide +kernel
theorem dX12_showsOf_104 : decode cX12_showsOf 104 = .ok (.iload_n 3, 1) := by decide +kernel
theorem dX12_showsOf_105 : decode cX12_showsOf 105 = .ok (.ireturn, 1) := by decide +kernel
theorem dX12_showsOf_106 : decode cX12_showsOf 106 = .ok (.iload_n 3, 1) := by decide +kernel
theorem dX12_showsOf_107 : decode cX12_showsOf 107 = .ok (.iconst 1, 1) := by decide +kernel
theorem dX12_showsOf_108 : decode cX12_showsOf 108 = .ok (.aload_n 0, 1) := by decide +kernel
theorem dX12_showsOf_109 : decode cX12_showsOf 109 = .ok (.getfield 26, 3) := by decide +kernel
theorem dX12_showsOf_112 : decode cX12_showsOf 112 = .ok (.iload_n 1, 1) := by decide +kernel
theorem dX12_showsOf_113 : decode cX12_showsOf 113 = .ok (.iaload, 1) := by decide +kernel
theorem dX12_showsOf_114 : decode cX12_showsOf 114 = .ok (.ishl, 1) := by decide +kernel
theorem dX12_showsOf_115 : decode cX12_showsOf 115 = .ok (.ixor, 1) := by decide +kernel
theorem dX12_showsOf_116 : decode cX12_showsOf 116 = .ok (.aload_n 0, 1) := by decide +kernel
theorem dX12_showsOf_117 : decode cX12_showsOf 117 = .ok (.getfield 32, 3) := by decide +kernel
theorem dX12_showsOf_120 : decode cX12_showsOf 120 = .ok (.iconst 4, 1) := by decide +kernel
theorem dX12_showsOf_121 : decode cX12_showsOf 121 = .ok (.iload_n 1, 1) := by decide +kernel
theorem dX12_showsOf_122 : decode cX12_showsOf 122 = .ok (.imul, 1) := by decide +kernel
theorem dX12_showsOf_123 : decode cX12_showsOf 123 = .ok (.aload_n 0, 1) := by decide +kernel
theorem dX12_showsOf_124 : decode cX12_showsOf 124 = .ok (.getfield 16, 3) := by decide +kernel
theorem dX12_showsOf_127 : decode cX12_showsOf 127 = .ok (.iconst 4, 1) := by decide +kernel
theorem dX12_showsOf_128 : decode cX12_showsOf 128 = .ok (.irem, 1) := by decide +kernel
theorem dX12_showsOf_129 : decode cX12_showsOf 129 = .ok (.iadd, 1) := by decide +kernel
theorem dX12_showsOf_130 : decode cX12_showsOf 130 = .ok (.iaload, 1) := by decide +kernel
theorem dX12_showsOf_131 : decode cX12_showsOf 131 = .ok (.ixor, 1) := by decide +kernel
theorem dX12_showsOf_132 : decode cX12_showsOf 132 = .ok (.ireturn, 1) := by decide +kernel
theorem dX12_showsOf_133 : decode cX12_showsOf 133 = .ok (.iload_n 3, 1) := by decide +kernel
theorem dX12_showsOf_134 : decode cX12_showsOf 134 = .ok (.ireturn, 1) := by decide +kernel
theorem dX12_readOf_0 : decode cX12_readOf 0 = .ok (.bipush (-5), 2) := by decide +kernel
theorem dX12_readOf_2 : decode cX12_readOf 2 = .ok (.istore_n 2, 1) := by decide +kernel
theorem dX12_readOf_3 : decode cX12_readOf 3 = .ok (.aload_n 0, 1) := by decide +kernel
theorem dX12_readOf_4 : decode cX12_readOf 4 = .ok (.invokevirtual 287, 3) := by decide +kernel
theorem dX12_readOf_7 : decode cX12_readOf 7 = .ok (.iconst 1, 1) := by decide +kernel
theorem dX12_readOf_8 : decode cX12_readOf 8 = .ok (.iadd, 1) := by decide +kernel
theorem dX12_readOf_9 : decode cX12_readOf 9 = .ok (.istore_n 3, 1) := by decide +kernel
theorem dX12_readOf_10 : decode cX12_readOf 10 = .ok (.iconst 0, 1) := by decide +kernel
theorem dX12_readOf_11 : decode cX12_readOf 11 = .ok (.istore 4, 2) := by decide +kernel
theorem dX12_readOf_13 : decode cX12_readOf 13 = .ok (.iload 4, 2) := by decide +kernel
theorem dX12_readOf_15 : decode cX12_readOf 15 = .ok (.aload_n 0, 1) := by decide +kernel
theorem dX12_readOf_16 : decode cX12_readOf 16 = .ok (.getfield 7, 3) := by decide +kernel
theorem dX12_readOf_19 : decode cX12_readOf 19 = .ok (.if_icmp .ge 39, 3) := by decide +kernel
theorem dX12_readOf_22 : decode cX12_readOf 22 = .ok (.aload_n 0, 1) := by decide +kernel
theorem dX12_readOf_23 : decode cX12_readOf 23 = .ok (.aload_n 0, 1) := by decide +kernel
theorem dX12_readOf_24 : decode cX12_readOf 24 = .ok (.getfield 19, 3) := by decide +kernel
theorem dX12_readOf_27 : decode cX12_readOf 27 = .ok (.iload 4, 2) := by decide +kernel
theorem dX12_readOf_29 : decode cX12_readOf 29 = .ok (.iaload, 1) := by decide +kernel
theorem dX12_readOf_30 : decode cX12_readOf 30 = .ok (.iload_n 1, 1) := by decide +kernel
theorem dX12_readOf_31 : decode cX12_readOf 31 = .ok (.ixor, 1) := by decide +kernel
theorem dX12_readOf_32 : decode cX12_readOf 32 = .ok (.invokevirtual 267, 3) := by decide +kernel
theorem dX12_readOf_35 : decode cX12_readOf 35 = .ok (.istore 5, 2) := by decide +kernel
theorem dX12_readOf_37 : decode cX12_readOf 37 = .ok (.iload 5, 2) := by decide +kernel
theorem dX12_readOf_39 : decode cX12_readOf 39 = .ok (.iload_n 3, 1) := by decide +kernel
theorem dX12_readOf_40 : decode cX12_readOf 40 = .ok (.if_icmp .lt 6, 3) := by decide +kernel
theorem dX12_readOf_43 : decode cX12_readOf 43 = .ok (.goto 9, 3) := by decide +kernel
theorem dX12_readOf_46 : decode cX12_readOf 46 = .ok (.iload 4, 2) := by decide +kernel
theorem dX12_readOf_48 : decode cX12_readOf 48 = .ok (.istore_n 2, 1) := by decide +kernel
theorem dX12_readOf_49 : decode cX12_readOf 49 = .ok (.iload 5, 2) := by decide +kernel
theorem dX12_readOf_51 : decode cX12_readOf 51 = .ok (.istore_n 3, 1) := by decide +kernel
theorem dX12_readOf_52 : decode cX12_readOf 52 = .ok (.iinc 4 1, 3) := by decide +kernel
theorem dX12_readOf_55 : decode cX12_readOf 55 = .ok (.goto (-42), 3) := by decide +kernel
theorem dX12_readOf_58 : decode cX12_readOf 58 = .ok (.iload_n 2, 1) := by decide +kernel
theorem dX12_readOf_59 : decode cX12_readOf 59 = .ok (.ireturn, 1) := by decide +kernel
theorem dX12_isThrough_0 : decode cX12_isThrough 0 = .ok (.aload_n 0, 1) := by decide +kernel
theorem dX12_isThrough_1 : decode cX12_isThrough 1 = .ok (.aload_n 0, 1) := by decide +kernel
theorem dX12_isThrough_2 : decode cX12_isThrough 2 = .ok (.iload_n 1, 1) := by decide +kernel
theorem dX12_isThrough_3 : decode cX12_isThrough 3 = .ok (.aload_n 0, 1) := by decide +kernel
theorem dX12_isThrough_4 : decode cX12_isThrough 4 = .ok (.getfield 19, 3) := by decide +kernel
theorem dX12_isThrough_7 : decode cX12_isThrough 7 = .ok (.iload_n 2, 1) := by decide +kernel
theorem dX12_isThrough_8 : decode cX12_isThrough 8 = .ok (.iaload, 1) := by decide +kernel
theorem dX12_isThrough_9 : decode cX12_isThrough 9 = .ok (.invokevirtual 290, 3) := by decide +kernel
theorem dX12_isThrough_12 : decode cX12_isThrough 12 = .ok (.invokevirtual 293, 3) := by decide +kernel
theorem dX12_isThrough_15 : decode cX12_isThrough 15 = .ok (.iload_n 2, 1) := by decide +kernel
theorem dX12_isThrough_16 : decode cX12_isThrough 16 = .ok (.if_icmp .ne 7, 3) := by decide +kernel
theorem dX12_isThrough_19 : decode cX12_isThrough 19 = .ok (.iconst 1, 1) := by decide +kernel
theorem dX12_isThrough_20 : decode cX12_isThrough 20 = .ok (.goto 4, 3) := by decide +kernel
theorem dX12_isThrough_23 : decode cX12_isThrough 23 = .ok (.iconst 0, 1) := by decide +kernel
theorem dX12_isThrough_24 : decode cX12_isThrough 24 = .ok (.ireturn, 1) := by decide +kernel
theorem dX12_through_0 : decode cX12_through 0 = .ok (.iconst 0, 1) := by decide +kernel
theorem dX12_through_1 : decode cX12_through 1 = .ok (.istore_n 2, 1) := by decide +kernel
theorem dX12_through_2 : decode cX12_through 2 = .ok (.iconst 0, 1) := by decide +kernel
theorem dX12_through_3 : decode cX12_through 3 = .ok (.istore_n 3, 1) := by decide +kernel
theorem dX12_through_4 : decode cX12_through 4 = .ok (.iload_n 3, 1) := by decide +kernel
theorem dX12_through_5 : decode cX12_through 5 = .ok (.aload_n 0, 1) := by decide +kernel
theorem dX12_through_6 : decode cX12_through 6 = .ok (.getfield 7, 3) := by decide +kernel
theorem dX12_through_9 : decode cX12_through 9 = .ok (.if_icmp .ge 28, 3) := by decide +kernel
theorem dX12_through_12 : decode cX12_through 12 = .ok (.iload_n 2, 1) := by decide +kernel
theorem dX12_through_13 : decode cX12_through 13 = .ok (.aload_n 0, 1) := by decide +kernel
theorem dX12_through_14 : decode cX12_through 14 = .ok (.iload_n 1, 1) := by decide +kernel
theorem dX12_through_15 : decode cX12_through 15 = .ok (.iload_n 3, 1) := by decide +kernel
theorem dX12_through_16 : decode cX12_through 16 = .ok (.invokevirtual 296, 3) := by decide +kernel
theorem dX12_through_19 : decode cX12_through 19 = .ok (.ifCond .eq 9, 3) := by decide +kernel
theorem dX12_through_22 : decode cX12_through 22 = .ok (.iconst 1, 1) := by decide +kernel
theorem dX12_through_23 : decode cX12_through 23 = .ok (.iload_n 3, 1) := by decide +kernel
theorem dX12_through_24 : decode cX12_through 24 = .ok (.ishl, 1) := by decide +kernel
theorem dX12_through_25 : decode cX12_through 25 = .ok (.goto 4, 3) := by decide +kernel
theorem dX12_through_28 : decode cX12_through 28 = .ok (.iconst 0, 1) := by decide +kernel
theorem dX12_through_29 : decode cX12_through 29 = .ok (.ior, 1) := by decide +kernel
theorem dX12_through_30 : decode cX12_through 30 = .ok (.istore_n 2, 1) := by decide +kernel
theorem dX12_through_31 : decode cX12_through 31 = .ok (.iinc 3 1, 3) := by decide +kernel
theorem dX12_through_34 : decode cX12_through 34 = .ok (.goto (-30), 3) := by decide +kernel
theorem dX12_through_37 : decode cX12_through 37 = .ok (.iload_n 2, 1) := by decide +kernel
theorem dX12_through_38 : decode cX12_through 38 = .ok (.ireturn, 1) := by decide +kernel
theorem dX12_clear_0 : decode cX12_clear 0 = .ok (.iconst 0, 1) := by decide +kernel
theorem dX12_clear_1 : decode cX12_clear 1 = .ok (.istore_n 2, 1) := by decide +kernel
theorem dX12_clear_2 : decode cX12_clear 2 = .ok (.iload_n 2, 1) := by decide +kernel
theorem dX12_clear_3 : decode cX12_clear 3 = .ok (.sipush 1024, 3) := by decide +kernel
theorem dX12_clear_6 : decode cX12_clear 6 = .ok (.if_icmp .ge 16, 3) := by decide +kernel
theorem dX12_clear_9 : decode cX12_clear 9 = .ok (.aload_n 0, 1) := by decide +kernel
theorem dX12_clear_10 : decode cX12_clear 10 = .ok (.getfield 90, 3) := by decide +kernel
theorem dX12_clear_13 : decode cX12_clear 13 = .ok (.iload_n 2, 1) := by decide +kernel
theorem dX12_clear_14 : decode cX12_clear 14 = .ok (.iconst 0, 1) := by decide +kernel
theorem dX12_clear_15 : decode cX12_clear 15 = .ok (.bastore, 1) := by decide +kernel
theorem dX12_clear_16 : decode cX12_clear 16 = .ok (.iinc 2 1, 3) := by decide +kernel
theorem dX12_clear_19 : decode cX12_clear 19 = .ok (.goto (-17), 3) := by decide +kernel
theorem dX12_clear_22 : decode cX12_clear 22 = .ok (.iconst 0, 1) := by decide +kernel
theorem dX12_clear_23 : decode cX12_clear 23 = .ok (.istore_n 2, 1) := by decide +kernel
theorem dX12_clear_24 : decode cX12_clear 24 = .ok (.iload_n 2, 1) := by decide +kernel
theorem dX12_clear_25 : decode cX12_clear 25 = .ok (.sipush 1024, 3) := by decide +kernel
theorem dX12_clear_28 : decode cX12_clear 28 = .ok (.if_icmp .ge 21, 3) := by decide +kernel
theorem dX12_clear_31 : decode cX12_clear 31 = .ok (.aload_n 0, 1) := by decide +kernel
theorem dX12_clear_32 : decode cX12_clear 32 = .ok (.getfield 90, 3) := by decide +kernel
theorem dX12_clear_35 : decode cX12_clear 35 = .ok (.aload_n 0, 1) := by decide +kernel
theorem dX12_clear_36 : decode cX12_clear 36 = .ok (.iload_n 1, 1) := by decide +kernel
theorem dX12_clear_37 : decode cX12_clear 37 = .ok (.iload_n 2, 1) := by decide +kernel
theorem dX12_clear_38 : decode cX12_clear 38 = .ok (.invokevirtual 290, 3) := by decide +kernel
theorem dX12_clear_41 : decode cX12_clear 41 = .ok (.iconst 1, 1) := by decide +kernel
theorem dX12_clear_42 : decode cX12_clear 42 = .ok (.bastore, 1) := by decide +kernel
theorem dX12_clear_43 : decode cX12_clear 43 = .ok (.iinc 2 1, 3) := by decide +kernel
theorem dX12_clear_46 : decode cX12_clear 46 = .ok (.goto (-22), 3) := by decide +kernel
theorem dX12_clear_49 : decode cX12_clear 49 = .ok (.iconst 0, 1) := by decide +kernel
theorem dX12_clear_50 : decode cX12_clear 50 = .ok (.istore_n 2, 1) := by decide +kernel
theorem dX12_clear_51 : decode cX12_clear 51 = .ok (.iconst 0, 1) := by decide +kernel
theorem dX12_clear_52 : decode cX12_clear 52 = .ok (.istore_n 3, 1) := by decide +kernel
theorem dX12_clear_53 : decode cX12_clear 53 = .ok (.iload_n 3, 1) := by decide +kernel
theorem dX12_clear_54 : decode cX12_clear 54 = .ok (.sipush 1024, 3) := by decide +kernel
theorem dX12_clear_57 : decode cX12_clear 57 = .ok (.if_icmp .ge 26, 3) := by decide +kernel
theorem dX12_clear_60 : decode cX12_clear 60 = .ok (.iload_n 2, 1) := by decide +kernel
theorem dX12_clear_61 : decode cX12_clear 61 = .ok (.aload_n 0, 1) := by decide +kernel
theorem dX12_clear_62 : decode cX12_clear 62 = .ok (.getfield 90, 3) := by decide +kernel
theorem dX12_clear_65 : decode cX12_clear 65 = .ok (.iload_n 3, 1) := by decide +kernel
theorem dX12_clear_66 : decode cX12_clear 66 = .ok (.baload, 1) := by decide +kernel
theorem dX12_clear_67 : decode cX12_clear 67 = .ok (.ifCond .eq 7, 3) := by decide +kernel
theorem dX12_clear_70 : decode cX12_clear 70 = .ok (.iconst 1, 1) := by decide +kernel
theorem dX12_clear_71 : decode cX12_clear 71 = .ok (.goto 4, 3) := by decide +kernel
theorem dX12_clear_74 : decode cX12_clear 74 = .ok (.iconst 0, 1) := by decide +kernel
theorem dX12_clear_75 : decode cX12_clear 75 = .ok (.iadd, 1) := by decide +kernel
theorem dX12_clear_76 : decode cX12_clear 76 = .ok (.istore_n 2, 1) := by decide +kernel
theorem dX12_clear_77 : decode cX12_clear 77 = .ok (.iinc 3 1, 3) := by decide +kernel
theorem dX12_clear_80 : decode cX12_clear 80 = .ok (.goto (-27), 3) := by decide +kernel
theorem dX12_clear_83 : decode cX12_clear 83 = .ok (.iload_n 2, 1) := by decide +kernel
theorem dX12_clear_84 : decode cX12_clear 84 = .ok (.ireturn, 1) := by decide +kernel
theorem dX12_of_0 : decode cX12_of 0 = .ok (.aload_n 0, 1) := by decide +kernel
theorem dX12_of_1 : decode cX12_of 1 = .ok (.iload_n 1, 1) := by decide +kernel
theorem dX12_of_2 : decode cX12_of 2 = .ok (.invokevirtual 212, 3) := by decide +kernel
theorem dX12_of_5 : decode cX12_of 5 = .ok (.ifCond .ne 5, 3) := by decide +kernel
theorem dX12_of_8 : decode cX12_of 8 = .ok (.iconst (-1), 1) := by decide +kernel
theorem dX12_of_9 : decode cX12_of 9 = .ok (.ireturn, 1) := by decide +kernel
theorem dX12_of_10 : decode cX12_of 10 = .ok (.iload_n 2, 1) := by decide +kernel
theorem dX12_of_11 : decode cX12_of 11 = .ok (.tableswitch 66 0 4 #[33, 40, 47, 54, 60], 33) := by decide +kernel
theorem dX12_of_44 : decode cX12_of 44 = .ok (.aload_n 0, 1) := by decide +kernel
theorem dX12_of_45 : decode cX12_of 45 = .ok (.getfield 23, 3) := by decide +kernel
theorem dX12_of_48 : decode cX12_of 48 = .ok (.iload_n 1, 1) := by decide +kernel
theorem dX12_of_49 : decode cX12_of 49 = .ok (.iaload, 1) := by decide +kernel
theorem dX12_of_50 : decode cX12_of 50 = .ok (.ireturn, 1) := by decide +kernel
theorem dX12_of_51 : decode cX12_of 51 = .ok (.aload_n 0, 1) := by decide +kernel
theorem dX12_of_52 : decode cX12_of 52 = .ok (.getfield 26, 3) := by decide +kernel
theorem dX12_of_55 : decode cX12_of 55 = .ok (.iload_n 1, 1) := by decide +kernel
theorem dX12_of_56 : decode cX12_of 56 = .ok (.iaload, 1) := by decide +kernel
theorem dX12_of_57 : decode cX12_of 57 = .ok (.ireturn, 1) := by decide +kernel
theorem dX12_of_58 : decode cX12_of 58 = .ok (.aload_n 0, 1) := by decide +kernel
theorem dX12_of_59 : decode cX12_of 59 = .ok (.getfield 29, 3) := by decide +kernel
theorem dX12_of_62 : decode cX12_of 62 = .ok (.iload_n 1, 1) := by decide +kernel
theorem dX12_of_63 : decode cX12_of 63 = .ok (.iaload, 1) := by decide +kernel
theorem dX12_of_64 : decode cX12_of 64 = .ok (.ireturn, 1) := by decide +kernel
theorem dX12_of_65 : decode cX12_of 65 = .ok (.aload_n 0, 1) := by decide +kernel
theorem dX12_of_66 : decode cX12_of 66 = .ok (.iload_n 1, 1) := by decide +kernel
theorem dX12_of_67 : decode cX12_of 67 = .ok (.invokevirtual 299, 3) := by decide +kernel
theorem dX12_of_70 : decode cX12_of 70 = .ok (.ireturn, 1) := by decide +kernel
theorem dX12_of_71 : decode cX12_of 71 = .ok (.aload_n 0, 1) := by decide +kernel
theorem dX12_of_72 : decode cX12_of 72 = .ok (.iload_n 1, 1) := by decide +kernel
theorem dX12_of_73 : decode cX12_of 73 = .ok (.invokevirtual 302, 3) := by decide +kernel
theorem dX12_of_76 : decode cX12_of 76 = .ok (.ireturn, 1) := by decide +kernel
theorem dX12_of_77 : decode cX12_of 77 = .ok (.iconst (-1), 1) := by decide +kernel
theorem dX12_of_78 : decode cX12_of 78 = .ok (.ireturn, 1) := by decide +kernel
theorem dX12_shows_0 : decode cX12_shows 0 = .ok (.aload_n 0, 1) := by decide +kernel
theorem dX12_shows_1 : decode cX12_shows 1 = .ok (.iload_n 1, 1) := by decide +kernel
theorem dX12_shows_2 : decode cX12_shows 2 = .ok (.invokevirtual 212, 3) := by decide +kernel
theorem dX12_shows_5 : decode cX12_shows 5 = .ok (.ifCond .ne 5, 3) := by decide +kernel
theorem dX12_shows_8 : decode cX12_shows 8 = .ok (.iconst (-1), 1) := by decide +kernel
theorem dX12_shows_9 : decode cX12_shows 9 = .ok (.ireturn, 1) := by decide +kernel
theorem dX12_shows_10 : decode cX12_shows 10 = .ok (.aload_n 0, 1) := by decide +kernel
theorem dX12_shows_11 : decode cX12_shows 11 = .ok (.iload_n 2, 1) := by decide +kernel
theorem dX12_shows_12 : decode cX12_shows 12 = .ok (.invokevirtual 205, 3) := by decide +kernel
theorem dX12_shows_15 : decode cX12_shows 15 = .ok (.ifCond .eq 12, 3) := by decide +kernel
theorem dX12_shows_18 : decode cX12_shows 18 = .ok (.aload_n 0, 1) := by decide +kernel
theorem dX12_shows_19 : decode cX12_shows 19 = .ok (.iload_n 1, 1) := by decide +kernel
theorem dX12_shows_20 : decode cX12_shows 20 = .ok (.iload_n 2, 1) := by decide +kernel
theorem dX12_shows_21 : decode cX12_shows 21 = .ok (.invokevirtual 290, 3) := by decide +kernel
theorem dX12_shows_24 : decode cX12_shows 24 = .ok (.goto 5, 3) := by decide +kernel
theorem dX12_shows_27 : decode cX12_shows 27 = .ok (.bipush (-2), 2) := by decide +kernel
theorem dX12_shows_29 : decode cX12_shows 29 = .ok (.ireturn, 1) := by decide +kernel
theorem dX12_meaning_0 : decode cX12_meaning 0 = .ok (.aload_n 0, 1) := by decide +kernel
theorem dX12_meaning_1 : decode cX12_meaning 1 = .ok (.iload_n 1, 1) := by decide +kernel
theorem dX12_meaning_2 : decode cX12_meaning 2 = .ok (.invokevirtual 205, 3) := by decide +kernel
theorem dX12_meaning_5 : decode cX12_meaning 5 = .ok (.ifCond .eq 11, 3) := by decide +kernel
theorem dX12_meaning_8 : decode cX12_meaning 8 = .ok (.aload_n 0, 1) := by decide +kernel
theorem dX12_meaning_9 : decode cX12_meaning 9 = .ok (.iload_n 1, 1) := by decide +kernel
theorem dX12_meaning_10 : decode cX12_meaning 10 = .ok (.invokevirtual 293, 3) := by decide +kernel
theorem dX12_meaning_13 : decode cX12_meaning 13 = .ok (.goto 5, 3) := by decide +kernel
theorem dX12_meaning_16 : decode cX12_meaning 16 = .ok (.bipush (-2), 2) := by decide +kernel
theorem dX12_meaning_18 : decode cX12_meaning 18 = .ok (.ireturn, 1) := by decide +kernel
theorem dX12_say_0 : decode cX12_say 0 = .ok (.aload_n 0, 1) := by decide +kernel
theorem dX12_say_1 : decode cX12_say 1 = .ok (.iload_n 1, 1) := by decide +kernel
theorem dX12_say_2 : decode cX12_say 2 = .ok (.invokevirtual 212, 3) := by decide +kernel
theorem dX12_say_5 : decode cX12_say 5 = .ok (.ifCond .eq 11, 3) := by decide +kernel
theorem dX12_say_8 : decode cX12_say 8 = .ok (.aload_n 0, 1) := by decide +kernel
theorem dX12_say_9 : decode cX12_say 9 = .ok (.iload_n 2, 1) := by decide +kernel
theorem dX12_say_10 : decode cX12_say 10 = .ok (.invokevirtual 209, 3) := by decide +kernel
theorem dX12_say_13 : decode cX12_say 13 = .ok (.ifCond .ne 5, 3) := by decide +kernel
theorem dX12_say_16 : decode cX12_say 16 = .ok (.iconst (-1), 1) := by decide +kernel
theorem dX12_say_17 : decode cX12_say 17 = .ok (.ireturn, 1) := by decide +kernel
theorem dX12_say_18 : decode cX12_say 18 = .ok (.aload_n 0, 1) := by decide +kernel
theorem dX12_say_19 : decode cX12_say 19 = .ok (.getfield 29, 3) := by decide +kernel
theorem dX12_say_22 : decode cX12_say 22 = .ok (.iload_n 1, 1) := by decide +kernel
theorem dX12_say_23 : decode cX12_say 23 = .ok (.iaload, 1) := by decide +kernel
theorem dX12_say_24 : decode cX12_say 24 = .ok (.sipush 9999, 3) := by decide +kernel
theorem dX12_say_27 : decode cX12_say 27 = .ok (.if_icmp .ne 6, 3) := by decide +kernel
theorem dX12_say_30 : decode cX12_say 30 = .ok (.bipush (-3), 2) := by decide +kernel
theorem dX12_say_32 : decode cX12_say 32 = .ok (.ireturn, 1) := by decide +kernel
theorem dX12_say_33 : decode cX12_say 33 = .ok (.aload_n 0, 1) := by decide +kernel
theorem dX12_say_34 : decode cX12_say 34 = .ok (.aload_n 0, 1) := by decide +kernel
theorem dX12_say_35 : decode cX12_say 35 = .ok (.iload_n 1, 1) := by decide +kernel
theorem dX12_say_36 : decode cX12_say 36 = .ok (.aload_n 0, 1) := by decide +kernel
theorem dX12_say_37 : decode cX12_say 37 = .ok (.getfield 19, 3) := by decide +kernel
theorem dX12_say_40 : decode cX12_say 40 = .ok (.iload_n 2, 1) := by decide +kernel
theorem dX12_say_41 : decode cX12_say 41 = .ok (.iaload, 1) := by decide +kernel
theorem dX12_say_42 : decode cX12_say 42 = .ok (.invokevirtual 290, 3) := by decide +kernel
theorem dX12_say_45 : decode cX12_say 45 = .ok (.invokevirtual 293, 3) := by decide +kernel
theorem dX12_say_48 : decode cX12_say 48 = .ok (.istore_n 3, 1) := by decide +kernel
theorem dX12_say_49 : decode cX12_say 49 = .ok (.aload_n 0, 1) := by decide +kernel
theorem dX12_say_50 : decode cX12_say 50 = .ok (.getfield 29, 3) := by decide +kernel
theorem dX12_say_53 : decode cX12_say 53 = .ok (.iload_n 1, 1) := by decide +kernel
theorem dX12_say_54 : decode cX12_say 54 = .ok (.dup2, 1) := by decide +kernel
theorem dX12_say_55 : decode cX12_say 55 = .ok (.iaload, 1) := by decide +kernel
theorem dX12_say_56 : decode cX12_say 56 = .ok (.iconst 1, 1) := by decide +kernel
theorem dX12_say_57 : decode cX12_say 57 = .ok (.iadd, 1) := by decide +kernel
theorem dX12_say_58 : decode cX12_say 58 = .ok (.iastore, 1) := by decide +kernel
theorem dX12_say_59 : decode cX12_say 59 = .ok (.iload_n 3, 1) := by decide +kernel
theorem dX12_say_60 : decode cX12_say 60 = .ok (.ireturn, 1) := by decide +kernel
theorem dX12_wordsApart_0 : decode cX12_wordsApart 0 = .ok (.bipush (-5), 2) := by decide +kernel
theorem dX12_wordsApart_2 : decode cX12_wordsApart 2 = .ok (.istore_n 2, 1) := by decide +kernel
theorem dX12_wordsApart_3 : decode cX12_wordsApart 3 = .ok (.bipush (-5), 2) := by decide +kernel
theorem dX12_wordsApart_5 : decode cX12_wordsApart 5 = .ok (.istore_n 3, 1) := by decide +kernel
theorem dX12_wordsApart_6 : decode cX12_wordsApart 6 = .ok (.iconst 0, 1) := by decide +kernel
theorem dX12_wordsApart_7 : decode cX12_wordsApart 7 = .ok (.istore 4, 2) := by decide +kernel
theorem dX12_wordsApart_9 : decode cX12_wordsApart 9 = .ok (.iload 4, 2) := by decide +kernel
theorem dX12_wordsApart_11 : decode cX12_wordsApart 11 = .ok (.aload_n 0, 1) := by decide +kernel
theorem dX12_wordsApart_12 : decode cX12_wordsApart 12 = .ok (.getfield 7, 3) := by decide +kernel
theorem dX12_wordsApart_15 : decode cX12_wordsApart 15 = .ok (.if_icmp .ge 76, 3) := by decide +kernel
theorem dX12_wordsApart_18 : decode cX12_wordsApart 18 = .ok (.iload 4, 2) := by decide +kernel
theorem dX12_wordsApart_20 : decode cX12_wordsApart 20 = .ok (.iconst 1, 1) := by decide +kernel
theorem dX12_wordsApart_21 : decode cX12_wordsApart 21 = .ok (.iadd, 1) := by decide +kernel
theorem dX12_wordsApart_22 : decode cX12_wordsApart 22 = .ok (.istore 5, 2) := by decide +kernel
theorem dX12_wordsApart_24 : decode cX12_wordsApart 24 = .ok (.iload 5, 2) := by decide +kernel
theorem dX12_wordsApart_26 : decode cX12_wordsApart 26 = .ok (.aload_n 0, 1) := by decide +kernel
theorem dX12_wordsApart_27 : decode cX12_wordsApart 27 = .ok (.getfield 7, 3) := by decide +kernel
theorem dX12_wordsApart_30 : decode cX12_wordsApart 30 = .ok (.if_icmp .ge 55, 3) := by decide +kernel
theorem dX12_wordsApart_33 : decode cX12_wordsApart 33 = .ok (.aload_n 0, 1) := by decide +kernel
theorem dX12_wordsApart_34 : decode cX12_wordsApart 34 = .ok (.aload_n 0, 1) := by decide +kernel
theorem dX12_wordsApart_35 : decode cX12_wordsApart 35 = .ok (.getfield 19, 3) := by decide +kernel
theorem dX12_wordsApart_38 : decode cX12_wordsApart 38 = .ok (.iload 4, 2) := by decide +kernel
theorem dX12_wordsApart_40 : decode cX12_wordsApart 40 = .ok (.iaload, 1) := by decide +kernel
theorem dX12_wordsApart_41 : decode cX12_wordsApart 41 = .ok (.aload_n 0, 1) := by decide +kernel
theorem dX12_wordsApart_42 : decode cX12_wordsApart 42 = .ok (.getfield 19, 3) := by decide +kernel
theorem dX12_wordsApart_45 : decode cX12_wordsApart 45 = .ok (.iload 5, 2) := by decide +kernel
theorem dX12_wordsApart_47 : decode cX12_wordsApart 47 = .ok (.iaload, 1) := by decide +kernel
theorem dX12_wordsApart_48 : decode cX12_wordsApart 48 = .ok (.ixor, 1) := by decide +kernel
theorem dX12_wordsApart_49 : decode cX12_wordsApart 49 = .ok (.invokevirtual 267, 3) := by decide +kernel
theorem dX12_wordsApart_52 : decode cX12_wordsApart 52 = .ok (.istore 6, 2) := by decide +kernel
theorem dX12_wordsApart_54 : decode cX12_wordsApart 54 = .ok (.iload_n 2, 1) := by decide +kernel
theorem dX12_wordsApart_55 : decode cX12_wordsApart 55 = .ok (.ifCond .lt 12, 3) := by decide +kernel
theorem dX12_wordsApart_58 : decode cX12_wordsApart 58 = .ok (.iload 6, 2) := by decide +kernel
theorem dX12_wordsApart_60 : decode cX12_wordsApart 60 = .ok (.iload_n 3, 1) := by decide +kernel
theorem dX12_wordsApart_61 : decode cX12_wordsApart 61 = .ok (.if_icmp .lt 6, 3) := by decide +kernel
theorem dX12_wordsApart_64 : decode cX12_wordsApart 64 = .ok (.goto 15, 3) := by decide +kernel
theorem dX12_wordsApart_67 : decode cX12_wordsApart 67 = .ok (.bipush 10, 2) := by decide +kernel
theorem dX12_wordsApart_69 : decode cX12_wordsApart 69 = .ok (.iload 4, 2) := by decide +kernel
theorem dX12_wordsApart_71 : decode cX12_wordsApart 71 = .ok (.imul, 1) := by decide +kernel
theorem dX12_wordsApart_72 : decode cX12_wordsApart 72 = .ok (.iload 5, 2) := by decide +kernel
theorem dX12_wordsApart_74 : decode cX12_wordsApart 74 = .ok (.iadd, 1) := by decide +kernel
theorem dX12_wordsApart_75 : decode cX12_wordsApart 75 = .ok (.istore_n 2, 1) := by decide +kernel
theorem dX12_wordsApart_76 : decode cX12_wordsApart 76 = .ok (.iload 6, 2) := by decide +kernel
theorem dX12_wordsApart_78 : decode cX12_wordsApart 78 = .ok (.istore_n 3, 1) := by decide +kernel
theorem dX12_wordsApart_79 : decode cX12_wordsApart 79 = .ok (.iinc 5 1, 3) := by decide +kernel
theorem dX12_wordsApart_82 : decode cX12_wordsApart 82 = .ok (.goto (-58), 3) := by decide +kernel
theorem dX12_wordsApart_85 : decode cX12_wordsApart 85 = .ok (.iinc 4 1, 3) := by decide +kernel
theorem dX12_wordsApart_88 : decode cX12_wordsApart 88 = .ok (.goto (-79), 3) := by decide +kernel
theorem dX12_wordsApart_91 : decode cX12_wordsApart 91 = .ok (.iload_n 1, 1) := by decide +kernel
theorem dX12_wordsApart_92 : decode cX12_wordsApart 92 = .ok (.ifCond .eq 7, 3) := by decide +kernel
theorem dX12_wordsApart_95 : decode cX12_wordsApart 95 = .ok (.iload_n 3, 1) := by decide +kernel
theorem dX12_wordsApart_96 : decode cX12_wordsApart 96 = .ok (.goto 4, 3) := by decide +kernel
theorem dX12_wordsApart_99 : decode cX12_wordsApart 99 = .ok (.iload_n 2, 1) := by decide +kernel
theorem dX12_wordsApart_100 : decode cX12_wordsApart 100 = .ok (.ireturn, 1) := by decide +kernel
theorem dX12_leastApart_0 : decode cX12_leastApart 0 = .ok (.bipush 99, 2) := by decide +kernel
theorem dX12_leastApart_2 : decode cX12_leastApart 2 = .ok (.istore_n 2, 1) := by decide +kernel
theorem dX12_leastApart_3 : decode cX12_leastApart 3 = .ok (.iconst 0, 1) := by decide +kernel
theorem dX12_leastApart_4 : decode cX12_leastApart 4 = .ok (.istore_n 3, 1) := by decide +kernel
theorem dX12_leastApart_5 : decode cX12_leastApart 5 = .ok (.iload_n 3, 1) := by decide +kernel
theorem dX12_leastApart_6 : decode cX12_leastApart 6 = .ok (.aload_n 0, 1) := by decide +kernel
theorem dX12_leastApart_7 : decode cX12_leastApart 7 = .ok (.getfield 7, 3) := by decide +kernel
theorem dX12_leastApart_10 : decode cX12_leastApart 10 = .ok (.if_icmp .ge 36, 3) := by decide +kernel
theorem dX12_leastApart_13 : decode cX12_leastApart 13 = .ok (.aload_n 0, 1) := by decide +kernel
theorem dX12_leastApart_14 : decode cX12_leastApart 14 = .ok (.aload_n 0, 1) := by decide +kernel
theorem dX12_leastApart_15 : decode cX12_leastApart 15 = .ok (.getfield 19, 3) := by decide +kernel
theorem dX12_leastApart_18 : decode cX12_leastApart 18 = .ok (.iload_n 3, 1) := by decide +kernel
theorem dX12_leastApart_19 : decode cX12_leastApart 19 = .ok (.iaload, 1) := by decide +kernel
theorem dX12_leastApart_20 : decode cX12_leastApart 20 = .ok (.iload_n 1, 1) := by decide +kernel
theorem dX12_leastApart_21 : decode cX12_leastApart 21 = .ok (.ixor, 1) := by decide +kernel
theorem dX12_leastApart_22 : decode cX12_leastApart 22 = .ok (.invokevirtual 267, 3) := by decide +kernel
theorem dX12_leastApart_25 : decode cX12_leastApart 25 = .ok (.istore 4, 2) := by decide +kernel
theorem dX12_leastApart_27 : decode cX12_leastApart 27 = .ok (.iload 4, 2) := by decide +kernel
theorem dX12_leastApart_29 : decode cX12_leastApart 29 = .ok (.iload_n 2, 1) := by decide +kernel
theorem dX12_leastApart_30 : decode cX12_leastApart 30 = .ok (.if_icmp .ge 8, 3) := by decide +kernel
theorem dX12_leastApart_33 : decode cX12_leastApart 33 = .ok (.iload 4, 2) := by decide +kernel
theorem dX12_leastApart_35 : decode cX12_leastApart 35 = .ok (.goto 4, 3) := by decide +kernel
theorem dX12_leastApart_38 : decode cX12_leastApart 38 = .ok (.iload_n 2, 1) := by decide +kernel
theorem dX12_leastApart_39 : decode cX12_leastApart 39 = .ok (.istore_n 2, 1) := by decide +kernel
theorem dX12_leastApart_40 : decode cX12_leastApart 40 = .ok (.iinc 3 1, 3) := by decide +kernel
theorem dX12_leastApart_43 : decode cX12_leastApart 43 = .ok (.goto (-38), 3) := by decide +kernel
theorem dX12_leastApart_46 : decode cX12_leastApart 46 = .ok (.iload_n 2, 1) := by decide +kernel
theorem dX12_leastApart_47 : decode cX12_leastApart 47 = .ok (.ireturn, 1) := by decide +kernel
theorem dX12_newSign_0 : decode cX12_newSign 0 = .ok (.aload_n 0, 1) := by decide +kernel
theorem dX12_newSign_1 : decode cX12_newSign 1 = .ok (.getfield 7, 3) := by decide +kernel
theorem dX12_newSign_4 : decode cX12_newSign 4 = .ok (.ifCond .ne 5, 3) := by decide +kernel
theorem dX12_newSign_7 : decode cX12_newSign 7 = .ok (.iconst 0, 1) := by decide +kernel
theorem dX12_newSign_8 : decode cX12_newSign 8 = .ok (.ireturn, 1) := by decide +kernel
theorem dX12_newSign_9 : decode cX12_newSign 9 = .ok (.iconst 0, 1) := by decide +kernel
theorem dX12_newSign_10 : decode cX12_newSign 10 = .ok (.istore_n 1, 1) := by decide +kernel
theorem dX12_newSign_11 : decode cX12_newSign 11 = .ok (.iconst (-1), 1) := by decide +kernel
theorem dX12_newSign_12 : decode cX12_newSign 12 = .ok (.istore_n 2, 1) := by decide +kernel
theorem dX12_newSign_13 : decode cX12_newSign 13 = .ok (.iconst 0, 1) := by decide +kernel
theorem dX12_newSign_14 : decode cX12_newSign 14 = .ok (.istore_n 3, 1) := by decide +kernel
theorem dX12_newSign_15 : decode cX12_newSign 15 = .ok (.iload_n 3, 1) := by decide +kernel
theorem dX12_newSign_16 : decode cX12_newSign 16 = .ok (.sipush 1024, 3) := by decide +kernel
theorem dX12_newSign_19 : decode cX12_newSign 19 = .ok (.if_icmp .ge 30, 3) := by decide +kernel
theorem dX12_newSign_22 : decode cX12_newSign 22 = .ok (.aload_n 0, 1) := by decide +kernel
theorem dX12_newSign_23 : decode cX12_newSign 23 = .ok (.iload_n 3, 1) := by decide +kernel
theorem dX12_newSign_24 : decode cX12_newSign 24 = .ok (.invokevirtual 305, 3) := by decide +kernel
theorem dX12_newSign_27 : decode cX12_newSign 27 = .ok (.istore 4, 2) := by decide +kernel
theorem dX12_newSign_29 : decode cX12_newSign 29 = .ok (.iload 4, 2) := by decide +kernel
theorem dX12_newSign_31 : decode cX12_newSign 31 = .ok (.iload_n 2, 1) := by decide +kernel
theorem dX12_newSign_32 : decode cX12_newSign 32 = .ok (.if_icmp .gt 6, 3) := by decide +kernel
theorem dX12_newSign_35 : decode cX12_newSign 35 = .ok (.goto 8, 3) := by decide +kernel
theorem dX12_newSign_38 : decode cX12_newSign 38 = .ok (.iload_n 3, 1) := by decide +kernel
theorem dX12_newSign_39 : decode cX12_newSign 39 = .ok (.istore_n 1, 1) := by decide +kernel
theorem dX12_newSign_40 : decode cX12_newSign 40 = .ok (.iload 4, 2) := by decide +kernel
theorem dX12_newSign_42 : decode cX12_newSign 42 = .ok (.istore_n 2, 1) := by decide +kernel
theorem dX12_newSign_43 : decode cX12_newSign 43 = .ok (.iinc 3 1, 3) := by decide +kernel
theorem dX12_newSign_46 : decode cX12_newSign 46 = .ok (.goto (-31), 3) := by decide +kernel
theorem dX12_newSign_49 : decode cX12_newSign 49 = .ok (.iload_n 1, 1) := by decide +kernel
theorem dX12_newSign_50 : decode cX12_newSign 50 = .ok (.ireturn, 1) := by decide +kernel
theorem dX12_told_0 : decode cX12_told 0 = .ok (.aload_n 0, 1) := by decide +kernel
theorem dX12_told_1 : decode cX12_told 1 = .ok (.iload_n 1, 1) := by decide +kernel
theorem dX12_told_2 : decode cX12_told 2 = .ok (.bipush 10, 2) := by decide +kernel
theorem dX12_told_4 : decode cX12_told 4 = .ok (.bipush 9, 2) := by decide +kernel
theorem dX12_told_6 : decode cX12_told 6 = .ok (.aload_n 0, 1) := by decide +kernel
theorem dX12_told_7 : decode cX12_told 7 = .ok (.getfield 7, 3) := by decide +kernel
theorem dX12_told_10 : decode cX12_told 10 = .ok (.iadd, 1) := by decide +kernel
theorem dX12_told_11 : decode cX12_told 11 = .ok (.invokevirtual 201, 3) := by decide +kernel
theorem dX12_told_14 : decode cX12_told 14 = .ok (.ifCond .eq 13, 3) := by decide +kernel
theorem dX12_told_17 : decode cX12_told 17 = .ok (.aload_n 0, 1) := by decide +kernel
theorem dX12_told_18 : decode cX12_told 18 = .ok (.getfield 19, 3) := by decide +kernel
theorem dX12_told_21 : decode cX12_told 21 = .ok (.iload_n 1, 1) := by decide +kernel
theorem dX12_told_22 : decode cX12_told 22 = .ok (.bipush 10, 2) := by decide +kernel
theorem dX12_told_24 : decode cX12_told 24 = .ok (.isub, 1) := by decide +kernel
theorem dX12_told_25 : decode cX12_told 25 = .ok (.iaload, 1) := by decide +kernel
theorem dX12_told_26 : decode cX12_told 26 = .ok (.ireturn, 1) := by decide +kernel
theorem dX12_told_27 : decode cX12_told 27 = .ok (.iload_n 1, 1) := by decide +kernel
theorem dX12_told_28 : decode cX12_told 28 = .ok (.tableswitch 88 0 5 #[40, 45, 50, 56, 62, 67], 40) := by decide +kernel
theorem dX12_told_68 : decode cX12_told 68 = .ok (.aload_n 0, 1) := by decide +kernel
theorem dX12_told_69 : decode cX12_told 69 = .ok (.getfield 16, 3) := by decide +kernel
theorem dX12_told_72 : decode cX12_told 72 = .ok (.ireturn, 1) := by decide +kernel
theorem dX12_told_73 : decode cX12_told 73 = .ok (.aload_n 0, 1) := by decide +kernel
theorem dX12_told_74 : decode cX12_told 74 = .ok (.invokevirtual 287, 3) := by decide +kernel
theorem dX12_told_77 : decode cX12_told 77 = .ok (.ireturn, 1) := by decide +kernel
theorem dX12_told_78 : decode cX12_told 78 = .ok (.aload_n 0, 1) := by decide +kernel
theorem dX12_told_79 : decode cX12_told 79 = .ok (.iconst 1, 1) := by decide +kernel
theorem dX12_told_80 : decode cX12_told 80 = .ok (.invokevirtual 308, 3) := by decide +kernel
theorem dX12_told_83 : decode cX12_told 83 = .ok (.ireturn, 1) := by decide +kernel
theorem dX12_told_84 : decode cX12_told 84 = .ok (.aload_n 0, 1) := by decide +kernel
theorem dX12_told_85 : decode cX12_told 85 = .ok (.iconst 0, 1) := by decide +kernel
theorem dX12_told_86 : decode cX12_told 86 = .ok (.invokevirtual 308, 3) := by decide +kernel
theorem dX12_told_89 : decode cX12_told 89 = .ok (.ireturn, 1) := by decide +kernel
theorem dX12_told_90 : decode cX12_told 90 = .ok (.aload_n 0, 1) := by decide +kernel
theorem dX12_told_91 : decode cX12_told 91 = .ok (.invokevirtual 312, 3) := by decide +kernel
theorem dX12_told_94 : decode cX12_told 94 = .ok (.ireturn, 1) := by decide +kernel
theorem dX12_told_95 : decode cX12_told 95 = .ok (.aload_n 0, 1) := by decide +kernel
theorem dX12_told_96 : decode cX12_told 96 = .ok (.getfield 7, 3) := by decide +kernel
theorem dX12_told_99 : decode cX12_told 99 = .ok (.ifCond .ne 8, 3) := by decide +kernel
theorem dX12_told_102 : decode cX12_told 102 = .ok (.bipush (-5), 2) := by decide +kernel
theorem dX12_told_104 : decode cX12_told 104 = .ok (.goto 11, 3) := by decide +kernel
theorem dX12_told_107 : decode cX12_told 107 = .ok (.aload_n 0, 1) := by decide +kernel
theorem dX12_told_108 : decode cX12_told 108 = .ok (.aload_n 0, 1) := by decide +kernel
theorem dX12_told_109 : decode cX12_told 109 = .ok (.invokevirtual 312, 3) := by decide +kernel
theorem dX12_told_112 : decode cX12_told 112 = .ok (.invokevirtual 305, 3) := by decide +kernel
theorem dX12_told_115 : decode cX12_told 115 = .ok (.ireturn, 1) := by decide +kernel
theorem dX12_told_116 : decode cX12_told 116 = .ok (.iconst (-1), 1) := by decide +kernel
theorem dX12_told_117 : decode cX12_told 117 = .ok (.ireturn, 1) := by decide +kernel
theorem dX12_pass_0 : decode cX12_pass 0 = .ok (.aload_n 0, 1) := by decide +kernel
theorem dX12_pass_1 : decode cX12_pass 1 = .ok (.iload_n 1, 1) := by decide +kernel
theorem dX12_pass_2 : decode cX12_pass 2 = .ok (.iconst 0, 1) := by decide +kernel
theorem dX12_pass_3 : decode cX12_pass 3 = .ok (.bipush 60, 2) := by decide +kernel
theorem dX12_pass_5 : decode cX12_pass 5 = .ok (.invokevirtual 201, 3) := by decide +kernel
theorem dX12_pass_8 : decode cX12_pass 8 = .ok (.ifCond .ne 6, 3) := by decide +kernel
theorem dX12_pass_11 : decode cX12_pass 11 = .ok (.bipush (-2), 2) := by decide +kernel
theorem dX12_pass_13 : decode cX12_pass 13 = .ok (.ireturn, 1) := by decide +kernel
theorem dX12_pass_14 : decode cX12_pass 14 = .ok (.aload_n 0, 1) := by decide +kernel
theorem dX12_pass_15 : decode cX12_pass 15 = .ok (.getfield 16, 3) := by decide +kernel
theorem dX12_pass_18 : decode cX12_pass 18 = .ok (.iload_n 1, 1) := by decide +kernel
theorem dX12_pass_19 : decode cX12_pass 19 = .ok (.iadd, 1) := by decide +kernel
theorem dX12_pass_20 : decode cX12_pass 20 = .ok (.sipush 9999, 3) := by decide +kernel
theorem dX12_pass_23 : decode cX12_pass 23 = .ok (.if_icmp .le 6, 3) := by decide +kernel
theorem dX12_pass_26 : decode cX12_pass 26 = .ok (.bipush (-3), 2) := by decide +kernel
theorem dX12_pass_28 : decode cX12_pass 28 = .ok (.ireturn, 1) := by decide +kernel
theorem dX12_pass_29 : decode cX12_pass 29 = .ok (.aload_n 0, 1) := by decide +kernel
theorem dX12_pass_30 : decode cX12_pass 30 = .ok (.dup, 1) := by decide +kernel
theorem dX12_pass_31 : decode cX12_pass 31 = .ok (.getfield 16, 3) := by decide +kernel
theorem dX12_pass_34 : decode cX12_pass 34 = .ok (.iload_n 1, 1) := by decide +kernel
theorem dX12_pass_35 : decode cX12_pass 35 = .ok (.iadd, 1) := by decide +kernel
theorem dX12_pass_36 : decode cX12_pass 36 = .ok (.putfield 16, 3) := by decide +kernel
theorem dX12_pass_39 : decode cX12_pass 39 = .ok (.aload_n 0, 1) := by decide +kernel
theorem dX12_pass_40 : decode cX12_pass 40 = .ok (.getfield 16, 3) := by decide +kernel
theorem dX12_pass_43 : decode cX12_pass 43 = .ok (.ireturn, 1) := by decide +kernel
theorem dX12_saying_0 : decode cX12_saying 0 = .ok (.aload_n 0, 1) := by decide +kernel
theorem dX12_saying_1 : decode cX12_saying 1 = .ok (.iload_n 1, 1) := by decide +kernel
theorem dX12_saying_2 : decode cX12_saying 2 = .ok (.invokevirtual 212, 3) := by decide +kernel
theorem dX12_saying_5 : decode cX12_saying 5 = .ok (.ifCond .eq 21, 3) := by decide +kernel
theorem dX12_saying_8 : decode cX12_saying 8 = .ok (.aload_n 0, 1) := by decide +kernel
theorem dX12_saying_9 : decode cX12_saying 9 = .ok (.iload_n 2, 1) := by decide +kernel
theorem dX12_saying_10 : decode cX12_saying 10 = .ok (.invokevirtual 209, 3) := by decide +kernel
theorem dX12_saying_13 : decode cX12_saying 13 = .ok (.ifCond .eq 13, 3) := by decide +kernel
theorem dX12_saying_16 : decode cX12_saying 16 = .ok (.aload_n 0, 1) := by decide +kernel
theorem dX12_saying_17 : decode cX12_saying 17 = .ok (.iload_n 3, 1) := by decide +kernel
theorem dX12_saying_18 : decode cX12_saying 18 = .ok (.iconst 0, 1) := by decide +kernel
theorem dX12_saying_19 : decode cX12_saying 19 = .ok (.iconst 1, 1) := by decide +kernel
theorem dX12_saying_20 : decode cX12_saying 20 = .ok (.invokevirtual 201, 3) := by decide +kernel
theorem dX12_saying_23 : decode cX12_saying 23 = .ok (.ifCond .ne 5, 3) := by decide +kernel
theorem dX12_saying_26 : decode cX12_saying 26 = .ok (.iconst (-1), 1) := by decide +kernel
theorem dX12_saying_27 : decode cX12_saying 27 = .ok (.ireturn, 1) := by decide +kernel
theorem dX12_saying_28 : decode cX12_saying 28 = .ok (.iconst 0, 1) := by decide +kernel
theorem dX12_saying_29 : decode cX12_saying 29 = .ok (.istore 4, 2) := by decide +kernel
theorem dX12_saying_31 : decode cX12_saying 31 = .ok (.bipush (-5), 2) := by decide +kernel
theorem dX12_saying_33 : decode cX12_saying 33 = .ok (.istore 5, 2) := by decide +kernel
theorem dX12_saying_35 : decode cX12_saying 35 = .ok (.sipush 1023, 3) := by decide +kernel
theorem dX12_saying_38 : decode cX12_saying 38 = .ok (.istore 6, 2) := by decide +kernel
theorem dX12_saying_40 : decode cX12_saying 40 = .ok (.iload 6, 2) := by decide +kernel
theorem dX12_saying_42 : decode cX12_saying 42 = .ok (.ifCond .lt 35, 3) := by decide +kernel
theorem dX12_saying_45 : decode cX12_saying 45 = .ok (.aload_n 0, 1) := by decide +kernel
theorem dX12_saying_46 : decode cX12_saying 46 = .ok (.iload_n 1, 1) := by decide +kernel
theorem dX12_saying_47 : decode cX12_saying 47 = .ok (.iload 6, 2) := by decide +kernel
theorem dX12_saying_49 : decode cX12_saying 49 = .ok (.invokevirtual 290, 3) := by decide +kernel
theorem dX12_saying_52 : decode cX12_saying 52 = .ok (.aload_n 0, 1) := by decide +kernel
theorem dX12_saying_53 : decode cX12_saying 53 = .ok (.getfield 19, 3) := by decide +kernel
theorem dX12_saying_56 : decode cX12_saying 56 = .ok (.iload_n 2, 1) := by decide +kernel
theorem dX12_saying_57 : decode cX12_saying 57 = .ok (.iaload, 1) := by decide +kernel
theorem dX12_saying_58 : decode cX12_saying 58 = .ok (.if_icmp .eq 6, 3) := by decide +kernel
theorem dX12_saying_61 : decode cX12_saying 61 = .ok (.goto 10, 3) := by decide +kernel
theorem dX12_saying_64 : decode cX12_saying 64 = .ok (.iinc 4 1, 3) := by decide +kernel
theorem dX12_saying_67 : decode cX12_saying 67 = .ok (.iload 6, 2) := by decide +kernel
theorem dX12_saying_69 : decode cX12_saying 69 = .ok (.istore 5, 2) := by decide +kernel
theorem dX12_saying_71 : decode cX12_saying 71 = .ok (.iinc 6 (-1), 3) := by decide +kernel
theorem dX12_saying_74 : decode cX12_saying 74 = .ok (.goto (-34), 3) := by decide +kernel
theorem dX12_saying_77 : decode cX12_saying 77 = .ok (.iload_n 3, 1) := by decide +kernel
theorem dX12_saying_78 : decode cX12_saying 78 = .ok (.ifCond .ne 8, 3) := by decide +kernel
theorem dX12_saying_81 : decode cX12_saying 81 = .ok (.iload 5, 2) := by decide +kernel
theorem dX12_saying_83 : decode cX12_saying 83 = .ok (.goto 5, 3) := by decide +kernel
theorem dX12_saying_86 : decode cX12_saying 86 = .ok (.iload 4, 2) := by decide +kernel
theorem dX12_saying_88 : decode cX12_saying 88 = .ok (.ireturn, 1) := by decide +kernel
theorem dX12_hours_0 : decode cX12_hours 0 = .ok (.aload_n 0, 1) := by decide +kernel
theorem dX12_hours_1 : decode cX12_hours 1 = .ok (.iload_n 1, 1) := by decide +kernel
theorem dX12_hours_2 : decode cX12_hours 2 = .ok (.invokevirtual 212, 3) := by decide +kernel
theorem dX12_hours_5 : decode cX12_hours 5 = .ok (.ifCond .eq 11, 3) := by decide +kernel
theorem dX12_hours_8 : decode cX12_hours 8 = .ok (.aload_n 0, 1) := by decide +kernel
theorem dX12_hours_9 : decode cX12_hours 9 = .ok (.iload_n 2, 1) := by decide +kernel
theorem dX12_hours_10 : decode cX12_hours 10 = .ok (.invokevirtual 209, 3) := by decide +kernel
theorem dX12_hours_13 : decode cX12_hours 13 = .ok (.ifCond .ne 5, 3) := by decide +kernel
theorem dX12_hours_16 : decode cX12_hours 16 = .ok (.iconst (-1), 1) := by decide +kernel
theorem dX12_hours_17 : decode cX12_hours 17 = .ok (.ireturn, 1) := by decide +kernel
theorem dX12_hours_18 : decode cX12_hours 18 = .ok (.iconst 0, 1) := by decide +kernel
theorem dX12_hours_19 : decode cX12_hours 19 = .ok (.istore_n 3, 1) := by decide +kernel
theorem dX12_hours_20 : decode cX12_hours 20 = .ok (.iconst 0, 1) := by decide +kernel
theorem dX12_hours_21 : decode cX12_hours 21 = .ok (.istore 4, 2) := by decide +kernel
theorem dX12_hours_23 : decode cX12_hours 23 = .ok (.iload 4, 2) := by decide +kernel
theorem dX12_hours_25 : decode cX12_hours 25 = .ok (.bipush 24, 2) := by decide +kernel
theorem dX12_hours_27 : decode cX12_hours 27 = .ok (.if_icmp .ge 39, 3) := by decide +kernel
theorem dX12_hours_30 : decode cX12_hours 30 = .ok (.iload_n 3, 1) := by decide +kernel
theorem dX12_hours_31 : decode cX12_hours 31 = .ok (.aload_n 0, 1) := by decide +kernel
theorem dX12_hours_32 : decode cX12_hours 32 = .ok (.iload_n 1, 1) := by decide +kernel
theorem dX12_hours_33 : decode cX12_hours 33 = .ok (.iload_n 2, 1) := by decide +kernel
theorem dX12_hours_34 : decode cX12_hours 34 = .ok (.invokevirtual 296, 3) := by decide +kernel
theorem dX12_hours_37 : decode cX12_hours 37 = .ok (.ifCond .eq 10, 3) := by decide +kernel
theorem dX12_hours_40 : decode cX12_hours 40 = .ok (.iconst 1, 1) := by decide +kernel
theorem dX12_hours_41 : decode cX12_hours 41 = .ok (.iload 4, 2) := by decide +kernel
theorem dX12_hours_43 : decode cX12_hours 43 = .ok (.ishl, 1) := by decide +kernel
theorem dX12_hours_44 : decode cX12_hours 44 = .ok (.goto 4, 3) := by decide +kernel
theorem dX12_hours_47 : decode cX12_hours 47 = .ok (.iconst 0, 1) := by decide +kernel
theorem dX12_hours_48 : decode cX12_hours 48 = .ok (.ior, 1) := by decide +kernel
theorem dX12_hours_49 : decode cX12_hours 49 = .ok (.istore_n 3, 1) := by decide +kernel
theorem dX12_hours_50 : decode cX12_hours 50 = .ok (.aload_n 0, 1) := by decide +kernel
theorem dX12_hours_51 : decode cX12_hours 51 = .ok (.dup, 1) := by decide +kernel
theorem dX12_hours_52 : decode cX12_hours 52 = .ok (.getfield 16, 3) := by decide +kernel
theorem dX12_hours_55 : decode cX12_hours 55 = .ok (.iconst 1, 1) := by decide +kernel
theorem dX12_hours_56 : decode cX12_hours 56 = .ok (.iadd, 1) := by decide +kernel
theorem dX12_hours_57 : decode cX12_hours 57 = .ok (.putfield 16, 3) := by decide +kernel
theorem dX12_hours_60 : decode cX12_hours 60 = .ok (.iinc 4 1, 3) := by decide +kernel
theorem dX12_hours_63 : decode cX12_hours 63 = .ok (.goto (-40), 3) := by decide +kernel
theorem dX12_hours_66 : decode cX12_hours 66 = .ok (.aload_n 0, 1) := by decide +kernel
theorem dX12_hours_67 : decode cX12_hours 67 = .ok (.dup, 1) := by decide +kernel
theorem dX12_hours_68 : decode cX12_hours 68 = .ok (.getfield 16, 3) := by decide +kernel
theorem dX12_hours_71 : decode cX12_hours 71 = .ok (.bipush 24, 2) := by decide +kernel
theorem dX12_hours_73 : decode cX12_hours 73 = .ok (.isub, 1) := by decide +kernel
theorem dX12_hours_74 : decode cX12_hours 74 = .ok (.putfield 16, 3) := by decide +kernel
theorem dX12_hours_77 : decode cX12_hours 77 = .ok (.iload_n 3, 1) := by decide +kernel
theorem dX12_hours_78 : decode cX12_hours 78 = .ok (.ireturn, 1) := by decide +kernel
theorem dX12_senders_0 : decode cX12_senders 0 = .ok (.aload_n 0, 1) := by decide +kernel
theorem dX12_senders_1 : decode cX12_senders 1 = .ok (.iload_n 1, 1) := by decide +kernel
theorem dX12_senders_2 : decode cX12_senders 2 = .ok (.invokevirtual 209, 3) := by decide +kernel
theorem dX12_senders_5 : decode cX12_senders 5 = .ok (.ifCond .ne 5, 3) := by decide +kernel
theorem dX12_senders_8 : decode cX12_senders 8 = .ok (.iconst (-1), 1) := by decide +kernel
theorem dX12_senders_9 : decode cX12_senders 9 = .ok (.ireturn, 1) := by decide +kernel
theorem dX12_senders_10 : decode cX12_senders 10 = .ok (.aload_n 0, 1) := by decide +kernel
theorem dX12_senders_11 : decode cX12_senders 11 = .ok (.iload_n 2, 1) := by decide +kernel
theorem dX12_senders_12 : decode cX12_senders 12 = .ok (.invokevirtual 205, 3) := by decide +kernel
theorem dX12_senders_15 : decode cX12_senders 15 = .ok (.ifCond .ne 6, 3) := by decide +kernel
theorem dX12_senders_18 : decode cX12_senders 18 = .ok (.bipush (-2), 2) := by decide +kernel
theorem dX12_senders_20 : decode cX12_senders 20 = .ok (.ireturn, 1) := by decide +kernel
theorem dX12_senders_21 : decode cX12_senders 21 = .ok (.iconst 0, 1) := by decide +kernel
theorem dX12_senders_22 : decode cX12_senders 22 = .ok (.istore_n 3, 1) := by decide +kernel
theorem dX12_senders_23 : decode cX12_senders 23 = .ok (.iconst 0, 1) := by decide +kernel
theorem dX12_senders_24 : decode cX12_senders 24 = .ok (.istore 4, 2) := by decide +kernel
theorem dX12_senders_26 : decode cX12_senders 26 = .ok (.iload 4, 2) := by decide +kernel
theorem dX12_senders_28 : decode cX12_senders 28 = .ok (.aload_n 0, 1) := by decide +kernel
theorem dX12_senders_29 : decode cX12_senders 29 = .ok (.getfield 13, 3) := by decide +kernel
theorem dX12_senders_32 : decode cX12_senders 32 = .ok (.if_icmp .ge 36, 3) := by decide +kernel
theorem dX12_senders_35 : decode cX12_senders 35 = .ok (.iload_n 3, 1) := by decide +kernel
theorem dX12_senders_36 : decode cX12_senders 36 = .ok (.aload_n 0, 1) := by decide +kernel
theorem dX12_senders_37 : decode cX12_senders 37 = .ok (.iload 4, 2) := by decide +kernel
theorem dX12_senders_39 : decode cX12_senders 39 = .ok (.aload_n 0, 1) := by decide +kernel
theorem dX12_senders_40 : decode cX12_senders 40 = .ok (.getfield 19, 3) := by decide +kernel
theorem dX12_senders_43 : decode cX12_senders 43 = .ok (.iload_n 1, 1) := by decide +kernel
theorem dX12_senders_44 : decode cX12_senders 44 = .ok (.iaload, 1) := by decide +kernel
theorem dX12_senders_45 : decode cX12_senders 45 = .ok (.invokevirtual 290, 3) := by decide +kernel
theorem dX12_senders_48 : decode cX12_senders 48 = .ok (.iload_n 2, 1) := by decide +kernel
theorem dX12_senders_49 : decode cX12_senders 49 = .ok (.if_icmp .ne 10, 3) := by decide +kernel
theorem dX12_senders_52 : decode cX12_senders 52 = .ok (.iconst 1, 1) := by decide +kernel
theorem dX12_senders_53 : decode cX12_senders 53 = .ok (.iload 4, 2) := by decide +kernel
theorem dX12_senders_55 : decode cX12_senders 55 = .ok (.ishl, 1) := by decide +kernel
theorem dX12_senders_56 : decode cX12_senders 56 = .ok (.goto 4, 3) := by decide +kernel
theorem dX12_senders_59 : decode cX12_senders 59 = .ok (.iconst 0, 1) := by decide +kernel
theorem dX12_senders_60 : decode cX12_senders 60 = .ok (.ior, 1) := by decide +kernel
theorem dX12_senders_61 : decode cX12_senders 61 = .ok (.istore_n 3, 1) := by decide +kernel
theorem dX12_senders_62 : decode cX12_senders 62 = .ok (.iinc 4 1, 3) := by decide +kernel
theorem dX12_senders_65 : decode cX12_senders 65 = .ok (.goto (-39), 3) := by decide +kernel
theorem dX12_senders_68 : decode cX12_senders 68 = .ok (.iload_n 3, 1) := by decide +kernel
theorem dX12_senders_69 : decode cX12_senders 69 = .ok (.ireturn, 1) := by decide +kernel
theorem dX12_meant_0 : decode cX12_meant 0 = .ok (.aload_n 0, 1) := by decide +kernel
theorem dX12_meant_1 : decode cX12_meant 1 = .ok (.iload_n 1, 1) := by decide +kernel
theorem dX12_meant_2 : decode cX12_meant 2 = .ok (.invokevirtual 212, 3) := by decide +kernel
theorem dX12_meant_5 : decode cX12_meant 5 = .ok (.ifCond .ne 5, 3) := by decide +kernel
theorem dX12_meant_8 : decode cX12_meant 8 = .ok (.iconst (-1), 1) := by decide +kernel
theorem dX12_meant_9 : decode cX12_meant 9 = .ok (.ireturn, 1) := by decide +kernel
theorem dX12_meant_10 : decode cX12_meant 10 = .ok (.aload_n 0, 1) := by decide +kernel
theorem dX12_meant_11 : decode cX12_meant 11 = .ok (.iload_n 2, 1) := by decide +kernel
theorem dX12_meant_12 : decode cX12_meant 12 = .ok (.invokevirtual 205, 3) := by decide +kernel
theorem dX12_meant_15 : decode cX12_meant 15 = .ok (.ifCond .ne 6, 3) := by decide +kernel
theorem dX12_meant_18 : decode cX12_meant 18 = .ok (.bipush (-2), 2) := by decide +kernel
theorem dX12_meant_20 : decode cX12_meant 20 = .ok (.ireturn, 1) := by decide +kernel
theorem dX12_meant_21 : decode cX12_meant 21 = .ok (.iconst 0, 1) := by decide +kernel
theorem dX12_meant_22 : decode cX12_meant 22 = .ok (.istore_n 3, 1) := by decide +kernel
theorem dX12_meant_23 : decode cX12_meant 23 = .ok (.iconst 0, 1) := by decide +kernel
theorem dX12_meant_24 : decode cX12_meant 24 = .ok (.istore 4, 2) := by decide +kernel
theorem dX12_meant_26 : decode cX12_meant 26 = .ok (.iload 4, 2) := by decide +kernel
theorem dX12_meant_28 : decode cX12_meant 28 = .ok (.aload_n 0, 1) := by decide +kernel
theorem dX12_meant_29 : decode cX12_meant 29 = .ok (.getfield 7, 3) := by decide +kernel
theorem dX12_meant_32 : decode cX12_meant 32 = .ok (.if_icmp .ge 36, 3) := by decide +kernel
theorem dX12_meant_35 : decode cX12_meant 35 = .ok (.iload_n 3, 1) := by decide +kernel
theorem dX12_meant_36 : decode cX12_meant 36 = .ok (.aload_n 0, 1) := by decide +kernel
theorem dX12_meant_37 : decode cX12_meant 37 = .ok (.iload_n 1, 1) := by decide +kernel
theorem dX12_meant_38 : decode cX12_meant 38 = .ok (.aload_n 0, 1) := by decide +kernel
theorem dX12_meant_39 : decode cX12_meant 39 = .ok (.getfield 19, 3) := by decide +kernel
theorem dX12_meant_42 : decode cX12_meant 42 = .ok (.iload 4, 2) := by decide +kernel
theorem dX12_meant_44 : decode cX12_meant 44 = .ok (.iaload, 1) := by decide +kernel
theorem dX12_meant_45 : decode cX12_meant 45 = .ok (.invokevirtual 290, 3) := by decide +kernel
theorem dX12_meant_48 : decode cX12_meant 48 = .ok (.iload_n 2, 1) := by decide +kernel
theorem dX12_meant_49 : decode cX12_meant 49 = .ok (.if_icmp .ne 10, 3) := by decide +kernel
theorem dX12_meant_52 : decode cX12_meant 52 = .ok (.iconst 1, 1) := by decide +kernel
theorem dX12_meant_53 : decode cX12_meant 53 = .ok (.iload 4, 2) := by decide +kernel
theorem dX12_meant_55 : decode cX12_meant 55 = .ok (.ishl, 1) := by decide +kernel
theorem dX12_meant_56 : decode cX12_meant 56 = .ok (.goto 4, 3) := by decide +kernel
theorem dX12_meant_59 : decode cX12_meant 59 = .ok (.iconst 0, 1) := by decide +kernel
theorem dX12_meant_60 : decode cX12_meant 60 = .ok (.ior, 1) := by decide +kernel
theorem dX12_meant_61 : decode cX12_meant 61 = .ok (.istore_n 3, 1) := by decide +kernel
theorem dX12_meant_62 : decode cX12_meant 62 = .ok (.iinc 4 1, 3) := by decide +kernel
theorem dX12_meant_65 : decode cX12_meant 65 = .ok (.goto (-39), 3) := by decide +kernel
theorem dX12_meant_68 : decode cX12_meant 68 = .ok (.iload_n 3, 1) := by decide +kernel
theorem dX12_meant_69 : decode cX12_meant 69 = .ok (.ireturn, 1) := by decide +kernel
theorem dX12_layTurn_0 : decode cX12_layTurn 0 = .ok (.iload_n 1, 1) := by decide +kernel
theorem dX12_layTurn_1 : decode cX12_layTurn 1 = .ok (.istore_n 2, 1) := by decide +kernel
theorem dX12_layTurn_2 : decode cX12_layTurn 2 = .ok (.iconst 0, 1) := by decide +kernel
theorem dX12_layTurn_3 : decode cX12_layTurn 3 = .ok (.istore_n 3, 1) := by decide +kernel
theorem dX12_layTurn_4 : decode cX12_layTurn 4 = .ok (.aload_n 0, 1) := by decide +kernel
theorem dX12_layTurn_5 : decode cX12_layTurn 5 = .ok (.getfield 13, 3) := by decide +kernel
theorem dX12_layTurn_8 : decode cX12_layTurn 8 = .ok (.iconst 1, 1) := by decide +kernel
theorem dX12_layTurn_9 : decode cX12_layTurn 9 = .ok (.isub, 1) := by decide +kernel
theorem dX12_layTurn_10 : decode cX12_layTurn 10 = .ok (.istore 4, 2) := by decide +kernel
theorem dX12_layTurn_12 : decode cX12_layTurn 12 = .ok (.iload 4, 2) := by decide +kernel
theorem dX12_layTurn_14 : decode cX12_layTurn 14 = .ok (.ifCond .lt 66, 3) := by decide +kernel
theorem dX12_layTurn_17 : decode cX12_layTurn 17 = .ok (.aload_n 0, 1) := by decide +kernel
theorem dX12_layTurn_18 : decode cX12_layTurn 18 = .ok (.getfield 93, 3) := by decide +kernel
theorem dX12_layTurn_21 : decode cX12_layTurn 21 = .ok (.iload 4, 2) := by decide +kernel
theorem dX12_layTurn_23 : decode cX12_layTurn 23 = .ok (.iload_n 2, 1) := by decide +kernel
theorem dX12_layTurn_24 : decode cX12_layTurn 24 = .ok (.iconst 5, 1) := by decide +kernel
theorem dX12_layTurn_25 : decode cX12_layTurn 25 = .ok (.irem, 1) := by decide +kernel
theorem dX12_layTurn_26 : decode cX12_layTurn 26 = .ok (.iastore, 1) := by decide +kernel
theorem dX12_layTurn_27 : decode cX12_layTurn 27 = .ok (.iload_n 2, 1) := by decide +kernel
theorem dX12_layTurn_28 : decode cX12_layTurn 28 = .ok (.iconst 5, 1) := by decide +kernel
theorem dX12_layTurn_29 : decode cX12_layTurn 29 = .ok (.idiv, 1) := by decide +kernel
theorem dX12_layTurn_30 : decode cX12_layTurn 30 = .ok (.istore_n 2, 1) := by decide +kernel
theorem dX12_layTurn_31 : decode cX12_layTurn 31 = .ok (.aload_n 0, 1) := by decide +kernel
theorem dX12_layTurn_32 : decode cX12_layTurn 32 = .ok (.getfield 93, 3) := by decide +kernel
theorem dX12_layTurn_35 : decode cX12_layTurn 35 = .ok (.iload 4, 2) := by decide +kernel
theorem dX12_layTurn_37 : decode cX12_layTurn 37 = .ok (.iaload, 1) := by decide +kernel
theorem dX12_layTurn_38 : decode cX12_layTurn 38 = .ok (.aload_n 0, 1) := by decide +kernel
theorem dX12_layTurn_39 : decode cX12_layTurn 39 = .ok (.getfield 13, 3) := by decide +kernel
theorem dX12_layTurn_42 : decode cX12_layTurn 42 = .ok (.if_icmp .ge 18, 3) := by decide +kernel
theorem dX12_layTurn_45 : decode cX12_layTurn 45 = .ok (.aload_n 0, 1) := by decide +kernel
theorem dX12_layTurn_46 : decode cX12_layTurn 46 = .ok (.iload_n 3, 1) := by decide +kernel
theorem dX12_layTurn_47 : decode cX12_layTurn 47 = .ok (.aload_n 0, 1) := by decide +kernel
theorem dX12_layTurn_48 : decode cX12_layTurn 48 = .ok (.getfield 93, 3) := by decide +kernel
theorem dX12_layTurn_51 : decode cX12_layTurn 51 = .ok (.iload 4, 2) := by decide +kernel
theorem dX12_layTurn_53 : decode cX12_layTurn 53 = .ok (.iaload, 1) := by decide +kernel
theorem dX12_layTurn_54 : decode cX12_layTurn 54 = .ok (.invokevirtual 197, 3) := by decide +kernel
theorem dX12_layTurn_57 : decode cX12_layTurn 57 = .ok (.ifCond .eq 5, 3) := by decide +kernel
theorem dX12_layTurn_60 : decode cX12_layTurn 60 = .ok (.iconst 0, 1) := by decide +kernel
theorem dX12_layTurn_61 : decode cX12_layTurn 61 = .ok (.ireturn, 1) := by decide +kernel
theorem dX12_layTurn_62 : decode cX12_layTurn 62 = .ok (.iload_n 3, 1) := by decide +kernel
theorem dX12_layTurn_63 : decode cX12_layTurn 63 = .ok (.iconst 1, 1) := by decide +kernel
theorem dX12_layTurn_64 : decode cX12_layTurn 64 = .ok (.aload_n 0, 1) := by decide +kernel
theorem dX12_layTurn_65 : decode cX12_layTurn 65 = .ok (.getfield 93, 3) := by decide +kernel
theorem dX12_layTurn_68 : decode cX12_layTurn 68 = .ok (.iload 4, 2) := by decide +kernel
theorem dX12_layTurn_70 : decode cX12_layTurn 70 = .ok (.iaload, 1) := by decide +kernel
theorem dX12_layTurn_71 : decode cX12_layTurn 71 = .ok (.ishl, 1) := by decide +kernel
theorem dX12_layTurn_72 : decode cX12_layTurn 72 = .ok (.ior, 1) := by decide +kernel
theorem dX12_layTurn_73 : decode cX12_layTurn 73 = .ok (.istore_n 3, 1) := by decide +kernel
theorem dX12_layTurn_74 : decode cX12_layTurn 74 = .ok (.iinc 4 (-1), 3) := by decide +kernel
theorem dX12_layTurn_77 : decode cX12_layTurn 77 = .ok (.goto (-65), 3) := by decide +kernel
theorem dX12_layTurn_80 : decode cX12_layTurn 80 = .ok (.iconst 1, 1) := by decide +kernel
theorem dX12_layTurn_81 : decode cX12_layTurn 81 = .ok (.ireturn, 1) := by decide +kernel
theorem dX12_passed_0 : decode cX12_passed 0 = .ok (.aload_n 0, 1) := by decide +kernel
theorem dX12_passed_1 : decode cX12_passed 1 = .ok (.iload_n 1, 1) := by decide +kernel
theorem dX12_passed_2 : decode cX12_passed 2 = .ok (.invokevirtual 209, 3) := by decide +kernel
theorem dX12_passed_5 : decode cX12_passed 5 = .ok (.ifCond .eq 13, 3) := by decide +kernel
theorem dX12_passed_8 : decode cX12_passed 8 = .ok (.aload_n 0, 1) := by decide +kernel
theorem dX12_passed_9 : decode cX12_passed 9 = .ok (.iload_n 2, 1) := by decide +kernel
theorem dX12_passed_10 : decode cX12_passed 10 = .ok (.iconst (-1), 1) := by decide +kernel
theorem dX12_passed_11 : decode cX12_passed 11 = .ok (.iconst 4, 1) := by decide +kernel
theorem dX12_passed_12 : decode cX12_passed 12 = .ok (.invokevirtual 201, 3) := by decide +kernel
theorem dX12_passed_15 : decode cX12_passed 15 = .ok (.ifCond .ne 5, 3) := by decide +kernel
theorem dX12_passed_18 : decode cX12_passed 18 = .ok (.iconst (-1), 1) := by decide +kernel
theorem dX12_passed_19 : decode cX12_passed 19 = .ok (.ireturn, 1) := by decide +kernel
theorem dX12_passed_20 : decode cX12_passed 20 = .ok (.iconst 1, 1) := by decide +kernel
theorem dX12_passed_21 : decode cX12_passed 21 = .ok (.istore_n 3, 1) := by decide +kernel
theorem dX12_passed_22 : decode cX12_passed 22 = .ok (.iconst 0, 1) := by decide +kernel
theorem dX12_passed_23 : decode cX12_passed 23 = .ok (.istore 4, 2) := by decide +kernel
theorem dX12_passed_25 : decode cX12_passed 25 = .ok (.iload 4, 2) := by decide +kernel
theorem dX12_passed_27 : decode cX12_passed 27 = .ok (.aload_n 0, 1) := by decide +kernel
theorem dX12_passed_28 : decode cX12_passed 28 = .ok (.getfield 13, 3) := by decide +kernel
theorem dX12_passed_31 : decode cX12_passed 31 = .ok (.if_icmp .ge 13, 3) := by decide +kernel
theorem dX12_passed_34 : decode cX12_passed 34 = .ok (.iload_n 3, 1) := by decide +kernel
theorem dX12_passed_35 : decode cX12_passed 35 = .ok (.iconst 5, 1) := by decide +kernel
theorem dX12_passed_36 : decode cX12_passed 36 = .ok (.imul, 1) := by decide +kernel
theorem dX12_passed_37 : decode cX12_passed 37 = .ok (.istore_n 3, 1) := by decide +kernel
theorem dX12_passed_38 : decode cX12_passed 38 = .ok (.iinc 4 1, 3) := by decide +kernel
theorem dX12_passed_41 : decode cX12_passed 41 = .ok (.goto (-16), 3) := by decide +kernel
theorem dX12_passed_44 : decode cX12_passed 44 = .ok (.bipush 99, 2) := by decide +kernel
theorem dX12_passed_46 : decode cX12_passed 46 = .ok (.istore 4, 2) := by decide +kernel
theorem dX12_passed_48 : decode cX12_passed 48 = .ok (.iconst 0, 1) := by decide +kernel
theorem dX12_passed_49 : decode cX12_passed 49 = .ok (.istore 5, 2) := by decide +kernel
theorem dX12_passed_51 : decode cX12_passed 51 = .ok (.iload 5, 2) := by decide +kernel
theorem dX12_passed_53 : decode cX12_passed 53 = .ok (.iload_n 3, 1) := by decide +kernel
theorem dX12_passed_54 : decode cX12_passed 54 = .ok (.if_icmp .ge 120, 3) := by decide +kernel
theorem dX12_passed_57 : decode cX12_passed 57 = .ok (.aload_n 0, 1) := by decide +kernel
theorem dX12_passed_58 : decode cX12_passed 58 = .ok (.iload 5, 2) := by decide +kernel
theorem dX12_passed_60 : decode cX12_passed 60 = .ok (.invokevirtual 315, 3) := by decide +kernel
theorem dX12_passed_63 : decode cX12_passed 63 = .ok (.ifCond .ne 6, 3) := by decide +kernel
theorem dX12_passed_66 : decode cX12_passed 66 = .ok (.goto 102, 3) := by decide +kernel
theorem dX12_passed_69 : decode cX12_passed 69 = .ok (.aload_n 0, 1) := by decide +kernel
theorem dX12_passed_70 : decode cX12_passed 70 = .ok (.getfield 19, 3) := by decide +kernel
theorem dX12_passed_73 : decode cX12_passed 73 = .ok (.iload_n 1, 1) := by decide +kernel
theorem dX12_passed_74 : decode cX12_passed 74 = .ok (.iaload, 1) := by decide +kernel
theorem dX12_passed_75 : decode cX12_passed 75 = .ok (.istore 6, 2) := by decide +kernel
theorem dX12_passed_77 : decode cX12_passed 77 = .ok (.iconst 0, 1) := by decide +kernel
theorem dX12_passed_78 : decode cX12_passed 78 = .ok (.istore 7, 2) := by decide +kernel
theorem dX12_passed_80 : decode cX12_passed 80 = .ok (.iload 7, 2) := by decide +kernel
theorem dX12_passed_82 : decode cX12_passed 82 = .ok (.aload_n 0, 1) := by decide +kernel
theorem dX12_passed_83 : decode cX12_passed 83 = .ok (.getfield 13, 3) := by decide +kernel
theorem dX12_passed_86 : decode cX12_passed 86 = .ok (.if_icmp .ge 24, 3) := by decide +kernel
theorem dX12_passed_89 : decode cX12_passed 89 = .ok (.aload_n 0, 1) := by decide +kernel
theorem dX12_passed_90 : decode cX12_passed 90 = .ok (.aload_n 0, 1) := by decide +kernel
theorem dX12_passed_91 : decode cX12_passed 91 = .ok (.getfield 93, 3) := by decide +kernel
theorem dX12_passed_94 : decode cX12_passed 94 = .ok (.iload 7, 2) := by decide +kernel
theorem dX12_passed_96 : decode cX12_passed 96 = .ok (.iaload, 1) := by decide +kernel
theorem dX12_passed_97 : decode cX12_passed 97 = .ok (.iload 6, 2) := by decide +kernel
theorem dX12_passed_99 : decode cX12_passed 99 = .ok (.invokevirtual 290, 3) := by decide +kernel
theorem dX12_passed_102 : decode cX12_passed 102 = .ok (.istore 6, 2) := by decide +kernel
theorem dX12_passed_104 : decode cX12_passed 104 = .ok (.iinc 7 1, 3) := by decide +kernel
theorem dX12_passed_107 : decode cX12_passed 107 = .ok (.goto (-27), 3) := by decide +kernel
theorem dX12_passed_110 : decode cX12_passed 110 = .ok (.aload_n 0, 1) := by decide +kernel
theorem dX12_passed_111 : decode cX12_passed 111 = .ok (.iload 6, 2) := by decide +kernel
theorem dX12_passed_113 : decode cX12_passed 113 = .ok (.aload_n 0, 1) := by decide +kernel
theorem dX12_passed_114 : decode cX12_passed 114 = .ok (.getfield 19, 3) := by decide +kernel
theorem dX12_passed_117 : decode cX12_passed 117 = .ok (.iload_n 1, 1) := by decide +kernel
theorem dX12_passed_118 : decode cX12_passed 118 = .ok (.iaload, 1) := by decide +kernel
theorem dX12_passed_119 : decode cX12_passed 119 = .ok (.ixor, 1) := by decide +kernel
theorem dX12_passed_120 : decode cX12_passed 120 = .ok (.invokevirtual 267, 3) := by decide +kernel
theorem dX12_passed_123 : decode cX12_passed 123 = .ok (.istore 7, 2) := by decide +kernel
theorem dX12_passed_125 : decode cX12_passed 125 = .ok (.iload 7, 2) := by decide +kernel
theorem dX12_passed_127 : decode cX12_passed 127 = .ok (.iload 4, 2) := by decide +kernel
theorem dX12_passed_129 : decode cX12_passed 129 = .ok (.if_icmp .lt 6, 3) := by decide +kernel
theorem dX12_passed_132 : decode cX12_passed 132 = .ok (.goto 36, 3) := by decide +kernel
theorem dX12_passed_135 : decode cX12_passed 135 = .ok (.iload 7, 2) := by decide +kernel
theorem dX12_passed_137 : decode cX12_passed 137 = .ok (.istore 4, 2) := by decide +kernel
theorem dX12_passed_139 : decode cX12_passed 139 = .ok (.iconst 0, 1) := by decide +kernel
theorem dX12_passed_140 : decode cX12_passed 140 = .ok (.istore 8, 2) := by decide +kernel
theorem dX12_passed_142 : decode cX12_passed 142 = .ok (.iload 8, 2) := by decide +kernel
theorem dX12_passed_144 : decode cX12_passed 144 = .ok (.iconst 5, 1) := by decide +kernel
theorem dX12_passed_145 : decode cX12_passed 145 = .ok (.if_icmp .ge 23, 3) := by decide +kernel
theorem dX12_passed_148 : decode cX12_passed 148 = .ok (.aload_n 0, 1) := by decide +kernel
theorem dX12_passed_149 : decode cX12_passed 149 = .ok (.getfield 96, 3) := by decide +kernel
theorem dX12_passed_152 : decode cX12_passed 152 = .ok (.iload 8, 2) := by decide +kernel
theorem dX12_passed_154 : decode cX12_passed 154 = .ok (.aload_n 0, 1) := by decide +kernel
theorem dX12_passed_155 : decode cX12_passed 155 = .ok (.getfield 93, 3) := by decide +kernel
theorem dX12_passed_158 : decode cX12_passed 158 = .ok (.iload 8, 2) := by decide +kernel
theorem dX12_passed_160 : decode cX12_passed 160 = .ok (.iaload, 1) := by decide +kernel
theorem dX12_passed_161 : decode cX12_passed 161 = .ok (.iastore, 1) := by decide +kernel
theorem dX12_passed_162 : decode cX12_passed 162 = .ok (.iinc 8 1, 3) := by decide +kernel
theorem dX12_passed_165 : decode cX12_passed 165 = .ok (.goto (-23), 3) := by decide +kernel
theorem dX12_passed_168 : decode cX12_passed 168 = .ok (.iinc 5 1, 3) := by decide +kernel
theorem dX12_passed_171 : decode cX12_passed 171 = .ok (.goto (-120), 3) := by decide +kernel
theorem dX12_passed_174 : decode cX12_passed 174 = .ok (.iload_n 2, 1) := by decide +kernel
theorem dX12_passed_175 : decode cX12_passed 175 = .ok (.ifCond .ge 6, 3) := by decide +kernel
theorem dX12_passed_178 : decode cX12_passed 178 = .ok (.iload 4, 2) := by decide +kernel
theorem dX12_passed_180 : decode cX12_passed 180 = .ok (.ireturn, 1) := by decide +kernel
theorem dX12_passed_181 : decode cX12_passed 181 = .ok (.iload_n 2, 1) := by decide +kernel
theorem dX12_passed_182 : decode cX12_passed 182 = .ok (.aload_n 0, 1) := by decide +kernel
theorem dX12_passed_183 : decode cX12_passed 183 = .ok (.getfield 13, 3) := by decide +kernel
theorem dX12_passed_186 : decode cX12_passed 186 = .ok (.if_icmp .ge 12, 3) := by decide +kernel
theorem dX12_passed_189 : decode cX12_passed 189 = .ok (.aload_n 0, 1) := by decide +kernel
theorem dX12_passed_190 : decode cX12_passed 190 = .ok (.getfield 96, 3) := by decide +kernel
theorem dX12_passed_193 : decode cX12_passed 193 = .ok (.iload_n 2, 1) := by decide +kernel
theorem dX12_passed_194 : decode cX12_passed 194 = .ok (.iaload, 1) := by decide +kernel
theorem dX12_passed_195 : decode cX12_passed 195 = .ok (.goto 5, 3) := by decide +kernel
theorem dX12_passed_198 : decode cX12_passed 198 = .ok (.bipush (-5), 2) := by decide +kernel
theorem dX12_passed_200 : decode cX12_passed 200 = .ok (.ireturn, 1) := by decide +kernel
theorem dX12_see_0 : decode cX12_see 0 = .ok (.iload_n 1, 1) := by decide +kernel
theorem dX12_see_1 : decode cX12_see 1 = .ok (.iconst (-1), 1) := by decide +kernel
theorem dX12_see_2 : decode cX12_see 2 = .ok (.if_icmp .ne 10, 3) := by decide +kernel
theorem dX12_see_5 : decode cX12_see 5 = .ok (.aload_n 0, 1) := by decide +kernel
theorem dX12_see_6 : decode cX12_see 6 = .ok (.iconst 0, 1) := by decide +kernel
theorem dX12_see_7 : decode cX12_see 7 = .ok (.putfield 99, 3) := by decide +kernel
theorem dX12_see_10 : decode cX12_see 10 = .ok (.iconst 0, 1) := by decide +kernel
theorem dX12_see_11 : decode cX12_see 11 = .ok (.ireturn, 1) := by decide +kernel
theorem dX12_see_12 : decode cX12_see 12 = .ok (.aload_n 0, 1) := by decide +kernel
theorem dX12_see_13 : decode cX12_see 13 = .ok (.iload_n 1, 1) := by decide +kernel
theorem dX12_see_14 : decode cX12_see 14 = .ok (.invokevirtual 209, 3) := by decide +kernel
theorem dX12_see_17 : decode cX12_see 17 = .ok (.ifCond .ne 5, 3) := by decide +kernel
theorem dX12_see_20 : decode cX12_see 20 = .ok (.iconst (-1), 1) := by decide +kernel
theorem dX12_see_21 : decode cX12_see 21 = .ok (.ireturn, 1) := by decide +kernel
theorem dX12_see_22 : decode cX12_see 22 = .ok (.aload_n 0, 1) := by decide +kernel
theorem dX12_see_23 : decode cX12_see 23 = .ok (.iload_n 2, 1) := by decide +kernel
theorem dX12_see_24 : decode cX12_see 24 = .ok (.invokevirtual 205, 3) := by decide +kernel
theorem dX12_see_27 : decode cX12_see 27 = .ok (.ifCond .ne 6, 3) := by decide +kernel
theorem dX12_see_30 : decode cX12_see 30 = .ok (.bipush (-2), 2) := by decide +kernel
theorem dX12_see_32 : decode cX12_see 32 = .ok (.ireturn, 1) := by decide +kernel
theorem dX12_see_33 : decode cX12_see 33 = .ok (.aload_n 0, 1) := by decide +kernel
theorem dX12_see_34 : decode cX12_see 34 = .ok (.getfield 99, 3) := by decide +kernel
theorem dX12_see_37 : decode cX12_see 37 = .ok (.iconst 5, 1) := by decide +kernel
theorem dX12_see_38 : decode cX12_see 38 = .ok (.if_icmp .ne 6, 3) := by decide +kernel
theorem dX12_see_41 : decode cX12_see 41 = .ok (.bipush (-4), 2) := by decide +kernel
theorem dX12_see_43 : decode cX12_see 43 = .ok (.ireturn, 1) := by decide +kernel
theorem dX12_see_44 : decode cX12_see 44 = .ok (.aload_n 0, 1) := by decide +kernel
theorem dX12_see_45 : decode cX12_see 45 = .ok (.getfield 102, 3) := by decide +kernel
theorem dX12_see_48 : decode cX12_see 48 = .ok (.aload_n 0, 1) := by decide +kernel
theorem dX12_see_49 : decode cX12_see 49 = .ok (.getfield 99, 3) := by decide +kernel
theorem dX12_see_52 : decode cX12_see 52 = .ok (.iload_n 1, 1) := by decide +kernel
theorem dX12_see_53 : decode cX12_see 53 = .ok (.iastore, 1) := by decide +kernel
theorem dX12_see_54 : decode cX12_see 54 = .ok (.aload_n 0, 1) := by decide +kernel
theorem dX12_see_55 : decode cX12_see 55 = .ok (.getfield 105, 3) := by decide +kernel
theorem dX12_see_58 : decode cX12_see 58 = .ok (.aload_n 0, 1) := by decide +kernel
theorem dX12_see_59 : decode cX12_see 59 = .ok (.getfield 99, 3) := by decide +kernel
theorem dX12_see_62 : decode cX12_see 62 = .ok (.iload_n 2, 1) := by decide +kernel
theorem dX12_see_63 : decode cX12_see 63 = .ok (.iastore, 1) := by decide +kernel
theorem dX12_see_64 : decode cX12_see 64 = .ok (.aload_n 0, 1) := by decide +kernel
theorem dX12_see_65 : decode cX12_see 65 = .ok (.dup, 1) := by decide +kernel
theorem dX12_see_66 : decode cX12_see 66 = .ok (.getfield 99, 3) := by decide +kernel
theorem dX12_see_69 : decode cX12_see 69 = .ok (.iconst 1, 1) := by decide +kernel
theorem dX12_see_70 : decode cX12_see 70 = .ok (.iadd, 1) := by decide +kernel
theorem dX12_see_71 : decode cX12_see 71 = .ok (.putfield 99, 3) := by decide +kernel
theorem dX12_see_74 : decode cX12_see 74 = .ok (.aload_n 0, 1) := by decide +kernel
theorem dX12_see_75 : decode cX12_see 75 = .ok (.getfield 99, 3) := by decide +kernel
theorem dX12_see_78 : decode cX12_see 78 = .ok (.ireturn, 1) := by decide +kernel
theorem dX12_isSeen_0 : decode cX12_isSeen 0 = .ok (.iconst 0, 1) := by decide +kernel
theorem dX12_isSeen_1 : decode cX12_isSeen 1 = .ok (.istore_n 2, 1) := by decide +kernel
theorem dX12_isSeen_2 : decode cX12_isSeen 2 = .ok (.iload_n 2, 1) := by decide +kernel
theorem dX12_isSeen_3 : decode cX12_isSeen 3 = .ok (.aload_n 0, 1) := by decide +kernel
theorem dX12_isSeen_4 : decode cX12_isSeen 4 = .ok (.getfield 99, 3) := by decide +kernel
theorem dX12_isSeen_7 : decode cX12_isSeen 7 = .ok (.if_icmp .ge 36, 3) := by decide +kernel
theorem dX12_isSeen_10 : decode cX12_isSeen 10 = .ok (.aload_n 0, 1) := by decide +kernel
theorem dX12_isSeen_11 : decode cX12_isSeen 11 = .ok (.iload_n 1, 1) := by decide +kernel
theorem dX12_isSeen_12 : decode cX12_isSeen 12 = .ok (.aload_n 0, 1) := by decide +kernel
theorem dX12_isSeen_13 : decode cX12_isSeen 13 = .ok (.getfield 19, 3) := by decide +kernel
theorem dX12_isSeen_16 : decode cX12_isSeen 16 = .ok (.aload_n 0, 1) := by decide +kernel
theorem dX12_isSeen_17 : decode cX12_isSeen 17 = .ok (.getfield 102, 3) := by decide +kernel
theorem dX12_isSeen_20 : decode cX12_isSeen 20 = .ok (.iload_n 2, 1) := by decide +kernel
theorem dX12_isSeen_21 : decode cX12_isSeen 21 = .ok (.iaload, 1) := by decide +kernel
theorem dX12_isSeen_22 : decode cX12_isSeen 22 = .ok (.iaload, 1) := by decide +kernel
theorem dX12_isSeen_23 : decode cX12_isSeen 23 = .ok (.invokevirtual 290, 3) := by decide +kernel
theorem dX12_isSeen_26 : decode cX12_isSeen 26 = .ok (.aload_n 0, 1) := by decide +kernel
theorem dX12_isSeen_27 : decode cX12_isSeen 27 = .ok (.getfield 105, 3) := by decide +kernel
theorem dX12_isSeen_30 : decode cX12_isSeen 30 = .ok (.iload_n 2, 1) := by decide +kernel
theorem dX12_isSeen_31 : decode cX12_isSeen 31 = .ok (.iaload, 1) := by decide +kernel
theorem dX12_isSeen_32 : decode cX12_isSeen 32 = .ok (.if_icmp .eq 5, 3) := by decide +kernel
theorem dX12_isSeen_35 : decode cX12_isSeen 35 = .ok (.iconst 0, 1) := by decide +kernel
theorem dX12_isSeen_36 : decode cX12_isSeen 36 = .ok (.ireturn, 1) := by decide +kernel
theorem dX12_isSeen_37 : decode cX12_isSeen 37 = .ok (.iinc 2 1, 3) := by decide +kernel
theorem dX12_isSeen_40 : decode cX12_isSeen 40 = .ok (.goto (-38), 3) := by decide +kernel
theorem dX12_isSeen_43 : decode cX12_isSeen 43 = .ok (.iconst 1, 1) := by decide +kernel
theorem dX12_isSeen_44 : decode cX12_isSeen 44 = .ok (.ireturn, 1) := by decide +kernel
theorem dX12_can_0 : decode cX12_can 0 = .ok (.aload_n 0, 1) := by decide +kernel
theorem dX12_can_1 : decode cX12_can 1 = .ok (.iload_n 1, 1) := by decide +kernel
theorem dX12_can_2 : decode cX12_can 2 = .ok (.invokevirtual 212, 3) := by decide +kernel
theorem dX12_can_5 : decode cX12_can 5 = .ok (.ifCond .eq 13, 3) := by decide +kernel
theorem dX12_can_8 : decode cX12_can 8 = .ok (.aload_n 0, 1) := by decide +kernel
theorem dX12_can_9 : decode cX12_can 9 = .ok (.iload_n 2, 1) := by decide +kernel
theorem dX12_can_10 : decode cX12_can 10 = .ok (.iconst 0, 1) := by decide +kernel
theorem dX12_can_11 : decode cX12_can 11 = .ok (.iconst 1, 1) := by decide +kernel
theorem dX12_can_12 : decode cX12_can 12 = .ok (.invokevirtual 201, 3) := by decide +kernel
theorem dX12_can_15 : decode cX12_can 15 = .ok (.ifCond .ne 5, 3) := by decide +kernel
theorem dX12_can_18 : decode cX12_can 18 = .ok (.iconst (-1), 1) := by decide +kernel
theorem dX12_can_19 : decode cX12_can 19 = .ok (.ireturn, 1) := by decide +kernel
theorem dX12_can_20 : decode cX12_can 20 = .ok (.aload_n 0, 1) := by decide +kernel
theorem dX12_can_21 : decode cX12_can 21 = .ok (.getfield 26, 3) := by decide +kernel
theorem dX12_can_24 : decode cX12_can 24 = .ok (.iload_n 1, 1) := by decide +kernel
theorem dX12_can_25 : decode cX12_can 25 = .ok (.iaload, 1) := by decide +kernel
theorem dX12_can_26 : decode cX12_can 26 = .ok (.istore_n 3, 1) := by decide +kernel
theorem dX12_can_27 : decode cX12_can 27 = .ok (.iconst 0, 1) := by decide +kernel
theorem dX12_can_28 : decode cX12_can 28 = .ok (.istore 4, 2) := by decide +kernel
theorem dX12_can_30 : decode cX12_can 30 = .ok (.bipush (-5), 2) := by decide +kernel
theorem dX12_can_32 : decode cX12_can 32 = .ok (.istore 5, 2) := by decide +kernel
theorem dX12_can_34 : decode cX12_can 34 = .ok (.bipush 9, 2) := by decide +kernel
theorem dX12_can_36 : decode cX12_can 36 = .ok (.istore 6, 2) := by decide +kernel
theorem dX12_can_38 : decode cX12_can 38 = .ok (.iload 6, 2) := by decide +kernel
theorem dX12_can_40 : decode cX12_can 40 = .ok (.ifCond .lt 35, 3) := by decide +kernel
theorem dX12_can_43 : decode cX12_can 43 = .ok (.aload_n 0, 1) := by decide +kernel
theorem dX12_can_44 : decode cX12_can 44 = .ok (.getfield 26, 3) := by decide +kernel
theorem dX12_can_47 : decode cX12_can 47 = .ok (.iload_n 1, 1) := by decide +kernel
theorem dX12_can_48 : decode cX12_can 48 = .ok (.iload 6, 2) := by decide +kernel
theorem dX12_can_50 : decode cX12_can 50 = .ok (.iastore, 1) := by decide +kernel
theorem dX12_can_51 : decode cX12_can 51 = .ok (.aload_n 0, 1) := by decide +kernel
theorem dX12_can_52 : decode cX12_can 52 = .ok (.iload_n 1, 1) := by decide +kernel
theorem dX12_can_53 : decode cX12_can 53 = .ok (.invokevirtual 318, 3) := by decide +kernel
theorem dX12_can_56 : decode cX12_can 56 = .ok (.ifCond .ne 6, 3) := by decide +kernel
theorem dX12_can_59 : decode cX12_can 59 = .ok (.goto 10, 3) := by decide +kernel
theorem dX12_can_62 : decode cX12_can 62 = .ok (.iinc 4 1, 3) := by decide +kernel
theorem dX12_can_65 : decode cX12_can 65 = .ok (.iload 6, 2) := by decide +kernel
theorem dX12_can_67 : decode cX12_can 67 = .ok (.istore 5, 2) := by decide +kernel
theorem dX12_can_69 : decode cX12_can 69 = .ok (.iinc 6 (-1), 3) := by decide +kernel
theorem dX12_can_72 : decode cX12_can 72 = .ok (.goto (-34), 3) := by decide +kernel
theorem dX12_can_75 : decode cX12_can 75 = .ok (.aload_n 0, 1) := by decide +kernel
theorem dX12_can_76 : decode cX12_can 76 = .ok (.getfield 26, 3) := by decide +kernel
theorem dX12_can_79 : decode cX12_can 79 = .ok (.iload_n 1, 1) := by decide +kernel
theorem dX12_can_80 : decode cX12_can 80 = .ok (.iload_n 3, 1) := by decide +kernel
theorem dX12_can_81 : decode cX12_can 81 = .ok (.iastore, 1) := by decide +kernel
theorem dX12_can_82 : decode cX12_can 82 = .ok (.iload_n 2, 1) := by decide +kernel
theorem dX12_can_83 : decode cX12_can 83 = .ok (.ifCond .ne 8, 3) := by decide +kernel
theorem dX12_can_86 : decode cX12_can 86 = .ok (.iload 4, 2) := by decide +kernel
theorem dX12_can_88 : decode cX12_can 88 = .ok (.goto 5, 3) := by decide +kernel
theorem dX12_can_91 : decode cX12_can 91 = .ok (.iload 5, 2) := by decide +kernel
theorem dX12_can_93 : decode cX12_can 93 = .ok (.ireturn, 1) := by decide +kernel
theorem dX12_when_0 : decode cX12_when 0 = .ok (.aload_n 0, 1) := by decide +kernel
theorem dX12_when_1 : decode cX12_when 1 = .ok (.iload_n 1, 1) := by decide +kernel
theorem dX12_when_2 : decode cX12_when 2 = .ok (.invokevirtual 212, 3) := by decide +kernel
theorem dX12_when_5 : decode cX12_when 5 = .ok (.ifCond .eq 13, 3) := by decide +kernel
theorem dX12_when_8 : decode cX12_when 8 = .ok (.aload_n 0, 1) := by decide +kernel
theorem dX12_when_9 : decode cX12_when 9 = .ok (.iload_n 2, 1) := by decide +kernel
theorem dX12_when_10 : decode cX12_when 10 = .ok (.iconst 0, 1) := by decide +kernel
theorem dX12_when_11 : decode cX12_when 11 = .ok (.iconst 1, 1) := by decide +kernel
theorem dX12_when_12 : decode cX12_when 12 = .ok (.invokevirtual 201, 3) := by decide +kernel
theorem dX12_when_15 : decode cX12_when 15 = .ok (.ifCond .ne 5, 3) := by decide +kernel
theorem dX12_when_18 : decode cX12_when 18 = .ok (.iconst (-1), 1) := by decide +kernel
theorem dX12_when_19 : decode cX12_when 19 = .ok (.ireturn, 1) := by decide +kernel
theorem dX12_when_20 : decode cX12_when 20 = .ok (.aload_n 0, 1) := by decide +kernel
theorem dX12_when_21 : decode cX12_when 21 = .ok (.getfield 16, 3) := by decide +kernel
theorem dX12_when_24 : decode cX12_when 24 = .ok (.istore_n 3, 1) := by decide +kernel
theorem dX12_when_25 : decode cX12_when 25 = .ok (.iconst 0, 1) := by decide +kernel
theorem dX12_when_26 : decode cX12_when 26 = .ok (.istore 4, 2) := by decide +kernel
theorem dX12_when_28 : decode cX12_when 28 = .ok (.bipush (-5), 2) := by decide +kernel
theorem dX12_when_30 : decode cX12_when 30 = .ok (.istore 5, 2) := by decide +kernel
theorem dX12_when_32 : decode cX12_when 32 = .ok (.bipush 23, 2) := by decide +kernel
theorem dX12_when_34 : decode cX12_when 34 = .ok (.istore 6, 2) := by decide +kernel
theorem dX12_when_36 : decode cX12_when 36 = .ok (.iload 6, 2) := by decide +kernel
theorem dX12_when_38 : decode cX12_when 38 = .ok (.ifCond .lt 35, 3) := by decide +kernel
theorem dX12_when_41 : decode cX12_when 41 = .ok (.aload_n 0, 1) := by decide +kernel
theorem dX12_when_42 : decode cX12_when 42 = .ok (.iload_n 3, 1) := by decide +kernel
theorem dX12_when_43 : decode cX12_when 43 = .ok (.iload 6, 2) := by decide +kernel
theorem dX12_when_45 : decode cX12_when 45 = .ok (.iadd, 1) := by decide +kernel
theorem dX12_when_46 : decode cX12_when 46 = .ok (.putfield 16, 3) := by decide +kernel
theorem dX12_when_49 : decode cX12_when 49 = .ok (.aload_n 0, 1) := by decide +kernel
theorem dX12_when_50 : decode cX12_when 50 = .ok (.iload_n 1, 1) := by decide +kernel
theorem dX12_when_51 : decode cX12_when 51 = .ok (.invokevirtual 318, 3) := by decide +kernel
theorem dX12_when_54 : decode cX12_when 54 = .ok (.ifCond .ne 6, 3) := by decide +kernel
theorem dX12_when_57 : decode cX12_when 57 = .ok (.goto 10, 3) := by decide +kernel
theorem dX12_when_60 : decode cX12_when 60 = .ok (.iinc 4 1, 3) := by decide +kernel
theorem dX12_when_63 : decode cX12_when 63 = .ok (.iload 6, 2) := by decide +kernel
theorem dX12_when_65 : decode cX12_when 65 = .ok (.istore 5, 2) := by decide +kernel
theorem dX12_when_67 : decode cX12_when 67 = .ok (.iinc 6 (-1), 3) := by decide +kernel
theorem dX12_when_70 : decode cX12_when 70 = .ok (.goto (-34), 3) := by decide +kernel
theorem dX12_when_73 : decode cX12_when 73 = .ok (.aload_n 0, 1) := by decide +kernel
theorem dX12_when_74 : decode cX12_when 74 = .ok (.iload_n 3, 1) := by decide +kernel
theorem dX12_when_75 : decode cX12_when 75 = .ok (.putfield 16, 3) := by decide +kernel
theorem dX12_when_78 : decode cX12_when 78 = .ok (.iload_n 2, 1) := by decide +kernel
theorem dX12_when_79 : decode cX12_when 79 = .ok (.ifCond .ne 8, 3) := by decide +kernel
theorem dX12_when_82 : decode cX12_when 82 = .ok (.iload 4, 2) := by decide +kernel
theorem dX12_when_84 : decode cX12_when 84 = .ok (.goto 5, 3) := by decide +kernel
theorem dX12_when_87 : decode cX12_when 87 = .ok (.iload 5, 2) := by decide +kernel
theorem dX12_when_89 : decode cX12_when 89 = .ok (.ireturn, 1) := by decide +kernel
theorem dX12_divisor_0 : decode cX12_divisor 0 = .ok (.iload_n 1, 1) := by decide +kernel
theorem dX12_divisor_1 : decode cX12_divisor 1 = .ok (.istore_n 3, 1) := by decide +kernel
theorem dX12_divisor_2 : decode cX12_divisor 2 = .ok (.iload_n 2, 1) := by decide +kernel
theorem dX12_divisor_3 : decode cX12_divisor 3 = .ok (.istore 4, 2) := by decide +kernel
theorem dX12_divisor_5 : decode cX12_divisor 5 = .ok (.iload 4, 2) := by decide +kernel
theorem dX12_divisor_7 : decode cX12_divisor 7 = .ok (.ifCond .eq 19, 3) := by decide +kernel
theorem dX12_divisor_10 : decode cX12_divisor 10 = .ok (.iload_n 3, 1) := by decide +kernel
theorem dX12_divisor_11 : decode cX12_divisor 11 = .ok (.iload 4, 2) := by decide +kernel
theorem dX12_divisor_13 : decode cX12_divisor 13 = .ok (.irem, 1) := by decide +kernel
theorem dX12_divisor_14 : decode cX12_divisor 14 = .ok (.istore 5, 2) := by decide +kernel
theorem dX12_divisor_16 : decode cX12_divisor 16 = .ok (.iload 4, 2) := by decide +kernel
theorem dX12_divisor_18 : decode cX12_divisor 18 = .ok (.istore_n 3, 1) := by decide +kernel
theorem dX12_divisor_19 : decode cX12_divisor 19 = .ok (.iload 5, 2) := by decide +kernel
theorem dX12_divisor_21 : decode cX12_divisor 21 = .ok (.istore 4, 2) := by decide +kernel
theorem dX12_divisor_23 : decode cX12_divisor 23 = .ok (.goto (-18), 3) := by decide +kernel
theorem dX12_divisor_26 : decode cX12_divisor 26 = .ok (.iload_n 3, 1) := by decide +kernel
theorem dX12_divisor_27 : decode cX12_divisor 27 = .ok (.ireturn, 1) := by decide +kernel
theorem dX12_lowest_0 : decode cX12_lowest 0 = .ok (.aload_n 0, 1) := by decide +kernel
theorem dX12_lowest_1 : decode cX12_lowest 1 = .ok (.iload_n 1, 1) := by decide +kernel
theorem dX12_lowest_2 : decode cX12_lowest 2 = .ok (.iload_n 2, 1) := by decide +kernel
theorem dX12_lowest_3 : decode cX12_lowest 3 = .ok (.invokevirtual 321, 3) := by decide +kernel
theorem dX12_lowest_6 : decode cX12_lowest 6 = .ok (.istore 4, 2) := by decide +kernel
theorem dX12_lowest_8 : decode cX12_lowest 8 = .ok (.iload_n 3, 1) := by decide +kernel
theorem dX12_lowest_9 : decode cX12_lowest 9 = .ok (.ifCond .ne 11, 3) := by decide +kernel
theorem dX12_lowest_12 : decode cX12_lowest 12 = .ok (.iload_n 1, 1) := by decide +kernel
theorem dX12_lowest_13 : decode cX12_lowest 13 = .ok (.iload 4, 2) := by decide +kernel
theorem dX12_lowest_15 : decode cX12_lowest 15 = .ok (.idiv, 1) := by decide +kernel
theorem dX12_lowest_16 : decode cX12_lowest 16 = .ok (.i2l, 1) := by decide +kernel
theorem dX12_lowest_17 : decode cX12_lowest 17 = .ok (.goto 8, 3) := by decide +kernel
theorem dX12_lowest_20 : decode cX12_lowest 20 = .ok (.iload_n 2, 1) := by decide +kernel
theorem dX12_lowest_21 : decode cX12_lowest 21 = .ok (.iload 4, 2) := by decide +kernel
theorem dX12_lowest_23 : decode cX12_lowest 23 = .ok (.idiv, 1) := by decide +kernel
theorem dX12_lowest_24 : decode cX12_lowest 24 = .ok (.i2l, 1) := by decide +kernel
theorem dX12_lowest_25 : decode cX12_lowest 25 = .ok (.lreturn, 1) := by decide +kernel
theorem dX12_odds_0 : decode cX12_odds 0 = .ok (.aload_n 0, 1) := by decide +kernel
theorem dX12_odds_1 : decode cX12_odds 1 = .ok (.iload_n 1, 1) := by decide +kernel
theorem dX12_odds_2 : decode cX12_odds 2 = .ok (.invokevirtual 212, 3) := by decide +kernel
theorem dX12_odds_5 : decode cX12_odds 5 = .ok (.ifCond .eq 21, 3) := by decide +kernel
theorem dX12_odds_8 : decode cX12_odds 8 = .ok (.aload_n 0, 1) := by decide +kernel
theorem dX12_odds_9 : decode cX12_odds 9 = .ok (.iload_n 2, 1) := by decide +kernel
theorem dX12_odds_10 : decode cX12_odds 10 = .ok (.invokevirtual 209, 3) := by decide +kernel
theorem dX12_odds_13 : decode cX12_odds 13 = .ok (.ifCond .eq 13, 3) := by decide +kernel
theorem dX12_odds_16 : decode cX12_odds 16 = .ok (.aload_n 0, 1) := by decide +kernel
theorem dX12_odds_17 : decode cX12_odds 17 = .ok (.iload_n 3, 1) := by decide +kernel
theorem dX12_odds_18 : decode cX12_odds 18 = .ok (.iconst 0, 1) := by decide +kernel
theorem dX12_odds_19 : decode cX12_odds 19 = .ok (.iconst 1, 1) := by decide +kernel
theorem dX12_odds_20 : decode cX12_odds 20 = .ok (.invokevirtual 201, 3) := by decide +kernel
theorem dX12_odds_23 : decode cX12_odds 23 = .ok (.ifCond .ne 7, 3) := by decide +kernel
theorem dX12_odds_26 : decode cX12_odds 26 = .ok (.ldc2_w 324, 3) := by decide +kernel
theorem dX12_odds_29 : decode cX12_odds 29 = .ok (.lreturn, 1) := by decide +kernel
theorem dX12_odds_30 : decode cX12_odds 30 = .ok (.aload_n 0, 1) := by decide +kernel
theorem dX12_odds_31 : decode cX12_odds 31 = .ok (.iload_n 1, 1) := by decide +kernel
theorem dX12_odds_32 : decode cX12_odds 32 = .ok (.aload_n 0, 1) := by decide +kernel
theorem dX12_odds_33 : decode cX12_odds 33 = .ok (.getfield 19, 3) := by decide +kernel
theorem dX12_odds_36 : decode cX12_odds 36 = .ok (.iload_n 2, 1) := by decide +kernel
theorem dX12_odds_37 : decode cX12_odds 37 = .ok (.iaload, 1) := by decide +kernel
theorem dX12_odds_38 : decode cX12_odds 38 = .ok (.invokevirtual 290, 3) := by decide +kernel
theorem dX12_odds_41 : decode cX12_odds 41 = .ok (.istore 4, 2) := by decide +kernel
theorem dX12_odds_43 : decode cX12_odds 43 = .ok (.iconst 0, 1) := by decide +kernel
theorem dX12_odds_44 : decode cX12_odds 44 = .ok (.istore 5, 2) := by decide +kernel
theorem dX12_odds_46 : decode cX12_odds 46 = .ok (.iconst 0, 1) := by decide +kernel
theorem dX12_odds_47 : decode cX12_odds 47 = .ok (.istore 6, 2) := by decide +kernel
theorem dX12_odds_49 : decode cX12_odds 49 = .ok (.iload 6, 2) := by decide +kernel
theorem dX12_odds_51 : decode cX12_odds 51 = .ok (.bipush 10, 2) := by decide +kernel
theorem dX12_odds_53 : decode cX12_odds 53 = .ok (.if_icmp .ge 34, 3) := by decide +kernel
theorem dX12_odds_56 : decode cX12_odds 56 = .ok (.iload 5, 2) := by decide +kernel
theorem dX12_odds_58 : decode cX12_odds 58 = .ok (.aload_n 0, 1) := by decide +kernel
theorem dX12_odds_59 : decode cX12_odds 59 = .ok (.iload 4, 2) := by decide +kernel
theorem dX12_odds_61 : decode cX12_odds 61 = .ok (.iconst 1, 1) := by decide +kernel
theorem dX12_odds_62 : decode cX12_odds 62 = .ok (.iload 6, 2) := by decide +kernel
theorem dX12_odds_64 : decode cX12_odds 64 = .ok (.ishl, 1) := by decide +kernel
theorem dX12_odds_65 : decode cX12_odds 65 = .ok (.ixor, 1) := by decide +kernel
theorem dX12_odds_66 : decode cX12_odds 66 = .ok (.invokevirtual 293, 3) := by decide +kernel
theorem dX12_odds_69 : decode cX12_odds 69 = .ok (.iload_n 2, 1) := by decide +kernel
theorem dX12_odds_70 : decode cX12_odds 70 = .ok (.if_icmp .ne 7, 3) := by decide +kernel
theorem dX12_odds_73 : decode cX12_odds 73 = .ok (.iconst 1, 1) := by decide +kernel
theorem dX12_odds_74 : decode cX12_odds 74 = .ok (.goto 4, 3) := by decide +kernel
theorem dX12_odds_77 : decode cX12_odds 77 = .ok (.iconst 0, 1) := by decide +kernel
theorem dX12_odds_78 : decode cX12_odds 78 = .ok (.iadd, 1) := by decide +kernel
theorem dX12_odds_79 : decode cX12_odds 79 = .ok (.istore 5, 2) := by decide +kernel
theorem dX12_odds_81 : decode cX12_odds 81 = .ok (.iinc 6 1, 3) := by decide +kernel
theorem dX12_odds_84 : decode cX12_odds 84 = .ok (.goto (-35), 3) := by decide +kernel
theorem dX12_odds_87 : decode cX12_odds 87 = .ok (.aload_n 0, 1) := by decide +kernel
theorem dX12_odds_88 : decode cX12_odds 88 = .ok (.iload 5, 2) := by decide +kernel
theorem dX12_odds_90 : decode cX12_odds 90 = .ok (.bipush 10, 2) := by decide +kernel
theorem dX12_odds_92 : decode cX12_odds 92 = .ok (.iload_n 3, 1) := by decide +kernel
theorem dX12_odds_93 : decode cX12_odds 93 = .ok (.invokevirtual 326, 3) := by decide +kernel
theorem dX12_odds_96 : decode cX12_odds 96 = .ok (.lreturn, 1) := by decide +kernel
theorem dX12_mean_0 : decode cX12_mean 0 = .ok (.aload_n 0, 1) := by decide +kernel
theorem dX12_mean_1 : decode cX12_mean 1 = .ok (.iload_n 1, 1) := by decide +kernel
theorem dX12_mean_2 : decode cX12_mean 2 = .ok (.iconst 0, 1) := by decide +kernel
theorem dX12_mean_3 : decode cX12_mean 3 = .ok (.iconst 1, 1) := by decide +kernel
theorem dX12_mean_4 : decode cX12_mean 4 = .ok (.invokevirtual 201, 3) := by decide +kernel
theorem dX12_mean_7 : decode cX12_mean 7 = .ok (.ifCond .eq 10, 3) := by decide +kernel
theorem dX12_mean_10 : decode cX12_mean 10 = .ok (.aload_n 0, 1) := by decide +kernel
theorem dX12_mean_11 : decode cX12_mean 11 = .ok (.getfield 7, 3) := by decide +kernel
theorem dX12_mean_14 : decode cX12_mean 14 = .ok (.ifCond .ne 7, 3) := by decide +kernel
theorem dX12_mean_17 : decode cX12_mean 17 = .ok (.ldc2_w 324, 3) := by decide +kernel
theorem dX12_mean_20 : decode cX12_mean 20 = .ok (.lreturn, 1) := by decide +kernel
theorem dX12_mean_21 : decode cX12_mean 21 = .ok (.iconst 0, 1) := by decide +kernel
theorem dX12_mean_22 : decode cX12_mean 22 = .ok (.istore_n 2, 1) := by decide +kernel
theorem dX12_mean_23 : decode cX12_mean 23 = .ok (.iconst 0, 1) := by decide +kernel
theorem dX12_mean_24 : decode cX12_mean 24 = .ok (.istore_n 3, 1) := by decide +kernel
theorem dX12_mean_25 : decode cX12_mean 25 = .ok (.iload_n 3, 1) := by decide +kernel
theorem dX12_mean_26 : decode cX12_mean 26 = .ok (.aload_n 0, 1) := by decide +kernel
theorem dX12_mean_27 : decode cX12_mean 27 = .ok (.getfield 7, 3) := by decide +kernel
theorem dX12_mean_30 : decode cX12_mean 30 = .ok (.if_icmp .ge 22, 3) := by decide +kernel
theorem dX12_mean_33 : decode cX12_mean 33 = .ok (.iload_n 2, 1) := by decide +kernel
theorem dX12_mean_34 : decode cX12_mean 34 = .ok (.aload_n 0, 1) := by decide +kernel
theorem dX12_mean_35 : decode cX12_mean 35 = .ok (.aload_n 0, 1) := by decide +kernel
theorem dX12_mean_36 : decode cX12_mean 36 = .ok (.getfield 19, 3) := by decide +kernel
theorem dX12_mean_39 : decode cX12_mean 39 = .ok (.iload_n 3, 1) := by decide +kernel
theorem dX12_mean_40 : decode cX12_mean 40 = .ok (.iaload, 1) := by decide +kernel
theorem dX12_mean_41 : decode cX12_mean 41 = .ok (.invokevirtual 267, 3) := by decide +kernel
theorem dX12_mean_44 : decode cX12_mean 44 = .ok (.iadd, 1) := by decide +kernel
theorem dX12_mean_45 : decode cX12_mean 45 = .ok (.istore_n 2, 1) := by decide +kernel
theorem dX12_mean_46 : decode cX12_mean 46 = .ok (.iinc 3 1, 3) := by decide +kernel
theorem dX12_mean_49 : decode cX12_mean 49 = .ok (.goto (-24), 3) := by decide +kernel
theorem dX12_mean_52 : decode cX12_mean 52 = .ok (.aload_n 0, 1) := by decide +kernel
theorem dX12_mean_53 : decode cX12_mean 53 = .ok (.iload_n 2, 1) := by decide +kernel
theorem dX12_mean_54 : decode cX12_mean 54 = .ok (.aload_n 0, 1) := by decide +kernel
theorem dX12_mean_55 : decode cX12_mean 55 = .ok (.getfield 7, 3) := by decide +kernel
theorem dX12_mean_58 : decode cX12_mean 58 = .ok (.iload_n 1, 1) := by decide +kernel
theorem dX12_mean_59 : decode cX12_mean 59 = .ok (.invokevirtual 326, 3) := by decide +kernel
theorem dX12_mean_62 : decode cX12_mean 62 = .ok (.lreturn, 1) := by decide +kernel
theorem dX12_relay_0 : decode cX12_relay 0 = .ok (.iload_n 1, 1) := by decide +kernel
theorem dX12_relay_1 : decode cX12_relay 1 = .ok (.iconst (-1), 1) := by decide +kernel
theorem dX12_relay_2 : decode cX12_relay 2 = .ok (.if_icmp .ne 10, 3) := by decide +kernel
theorem dX12_relay_5 : decode cX12_relay 5 = .ok (.aload_n 0, 1) := by decide +kernel
theorem dX12_relay_6 : decode cX12_relay 6 = .ok (.iconst 0, 1) := by decide +kernel
theorem dX12_relay_7 : decode cX12_relay 7 = .ok (.putfield 108, 3) := by decide +kernel
theorem dX12_relay_10 : decode cX12_relay 10 = .ok (.iconst 0, 1) := by decide +kernel
theorem dX12_relay_11 : decode cX12_relay 11 = .ok (.ireturn, 1) := by decide +kernel
theorem dX12_relay_12 : decode cX12_relay 12 = .ok (.iload_n 1, 1) := by decide +kernel
theorem dX12_relay_13 : decode cX12_relay 13 = .ok (.iconst 5, 1) := by decide +kernel
theorem dX12_relay_14 : decode cX12_relay 14 = .ok (.if_icmp .eq 13, 3) := by decide +kernel
theorem dX12_relay_17 : decode cX12_relay 17 = .ok (.aload_n 0, 1) := by decide +kernel
theorem dX12_relay_18 : decode cX12_relay 18 = .ok (.iload_n 1, 1) := by decide +kernel
theorem dX12_relay_19 : decode cX12_relay 19 = .ok (.invokevirtual 212, 3) := by decide +kernel
theorem dX12_relay_22 : decode cX12_relay 22 = .ok (.ifCond .ne 5, 3) := by decide +kernel
theorem dX12_relay_25 : decode cX12_relay 25 = .ok (.iconst (-1), 1) := by decide +kernel
theorem dX12_relay_26 : decode cX12_relay 26 = .ok (.ireturn, 1) := by decide +kernel
theorem dX12_relay_27 : decode cX12_relay 27 = .ok (.aload_n 0, 1) := by decide +kernel
theorem dX12_relay_28 : decode cX12_relay 28 = .ok (.getfield 108, 3) := by decide +kernel
theorem dX12_relay_31 : decode cX12_relay 31 = .ok (.bipush 8, 2) := by decide +kernel
theorem dX12_relay_33 : decode cX12_relay 33 = .ok (.if_icmp .ne 6, 3) := by decide +kernel
theorem dX12_relay_36 : decode cX12_relay 36 = .ok (.bipush (-4), 2) := by decide +kernel
theorem dX12_relay_38 : decode cX12_relay 38 = .ok (.ireturn, 1) := by decide +kernel
theorem dX12_relay_39 : decode cX12_relay 39 = .ok (.aload_n 0, 1) := by decide +kernel
theorem dX12_relay_40 : decode cX12_relay 40 = .ok (.getfield 114, 3) := by decide +kernel
theorem dX12_relay_43 : decode cX12_relay 43 = .ok (.aload_n 0, 1) := by decide +kernel
theorem dX12_relay_44 : decode cX12_relay 44 = .ok (.getfield 108, 3) := by decide +kernel
theorem dX12_relay_47 : decode cX12_relay 47 = .ok (.iload_n 1, 1) := by decide +kernel
theorem dX12_relay_48 : decode cX12_relay 48 = .ok (.iastore, 1) := by decide +kernel
theorem dX12_relay_49 : decode cX12_relay 49 = .ok (.aload_n 0, 1) := by decide +kernel
theorem dX12_relay_50 : decode cX12_relay 50 = .ok (.dup, 1) := by decide +kernel
theorem dX12_relay_51 : decode cX12_relay 51 = .ok (.getfield 108, 3) := by decide +kernel
theorem dX12_relay_54 : decode cX12_relay 54 = .ok (.iconst 1, 1) := by decide +kernel
theorem dX12_relay_55 : decode cX12_relay 55 = .ok (.iadd, 1) := by decide +kernel
theorem dX12_relay_56 : decode cX12_relay 56 = .ok (.putfield 108, 3) := by decide +kernel
theorem dX12_relay_59 : decode cX12_relay 59 = .ok (.aload_n 0, 1) := by decide +kernel
theorem dX12_relay_60 : decode cX12_relay 60 = .ok (.getfield 108, 3) := by decide +kernel
theorem dX12_relay_63 : decode cX12_relay 63 = .ok (.ireturn, 1) := by decide +kernel
theorem dX12_ends_0 : decode cX12_ends 0 = .ok (.aload_n 0, 1) := by decide +kernel
theorem dX12_ends_1 : decode cX12_ends 1 = .ok (.iload_n 1, 1) := by decide +kernel
theorem dX12_ends_2 : decode cX12_ends 2 = .ok (.invokevirtual 209, 3) := by decide +kernel
theorem dX12_ends_5 : decode cX12_ends 5 = .ok (.ifCond .eq 13, 3) := by decide +kernel
theorem dX12_ends_8 : decode cX12_ends 8 = .ok (.aload_n 0, 1) := by decide +kernel
theorem dX12_ends_9 : decode cX12_ends 9 = .ok (.iload_n 2, 1) := by decide +kernel
theorem dX12_ends_10 : decode cX12_ends 10 = .ok (.iconst 0, 1) := by decide +kernel
theorem dX12_ends_11 : decode cX12_ends 11 = .ok (.iconst 1, 1) := by decide +kernel
theorem dX12_ends_12 : decode cX12_ends 12 = .ok (.invokevirtual 201, 3) := by decide +kernel
theorem dX12_ends_15 : decode cX12_ends 15 = .ok (.ifCond .ne 5, 3) := by decide +kernel
theorem dX12_ends_18 : decode cX12_ends 18 = .ok (.iconst (-1), 1) := by decide +kernel
theorem dX12_ends_19 : decode cX12_ends 19 = .ok (.ireturn, 1) := by decide +kernel
theorem dX12_ends_20 : decode cX12_ends 20 = .ok (.aload_n 0, 1) := by decide +kernel
theorem dX12_ends_21 : decode cX12_ends 21 = .ok (.getfield 16, 3) := by decide +kernel
theorem dX12_ends_24 : decode cX12_ends 24 = .ok (.istore_n 3, 1) := by decide +kernel
theorem dX12_ends_25 : decode cX12_ends 25 = .ok (.aload_n 0, 1) := by decide +kernel
theorem dX12_ends_26 : decode cX12_ends 26 = .ok (.getfield 19, 3) := by decide +kernel
theorem dX12_ends_29 : decode cX12_ends 29 = .ok (.iload_n 1, 1) := by decide +kernel
theorem dX12_ends_30 : decode cX12_ends 30 = .ok (.iaload, 1) := by decide +kernel
theorem dX12_ends_31 : decode cX12_ends 31 = .ok (.istore 4, 2) := by decide +kernel
theorem dX12_ends_33 : decode cX12_ends 33 = .ok (.iconst 0, 1) := by decide +kernel
theorem dX12_ends_34 : decode cX12_ends 34 = .ok (.istore 5, 2) := by decide +kernel
theorem dX12_ends_36 : decode cX12_ends 36 = .ok (.iload 5, 2) := by decide +kernel
theorem dX12_ends_38 : decode cX12_ends 38 = .ok (.aload_n 0, 1) := by decide +kernel
theorem dX12_ends_39 : decode cX12_ends 39 = .ok (.getfield 108, 3) := by decide +kernel
theorem dX12_ends_42 : decode cX12_ends 42 = .ok (.if_icmp .ge 48, 3) := by decide +kernel
theorem dX12_ends_45 : decode cX12_ends 45 = .ok (.aload_n 0, 1) := by decide +kernel
theorem dX12_ends_46 : decode cX12_ends 46 = .ok (.getfield 114, 3) := by decide +kernel
theorem dX12_ends_49 : decode cX12_ends 49 = .ok (.iload 5, 2) := by decide +kernel
theorem dX12_ends_51 : decode cX12_ends 51 = .ok (.iaload, 1) := by decide +kernel
theorem dX12_ends_52 : decode cX12_ends 52 = .ok (.iconst 5, 1) := by decide +kernel
theorem dX12_ends_53 : decode cX12_ends 53 = .ok (.if_icmp .ne 16, 3) := by decide +kernel
theorem dX12_ends_56 : decode cX12_ends 56 = .ok (.aload_n 0, 1) := by decide +kernel
theorem dX12_ends_57 : decode cX12_ends 57 = .ok (.dup, 1) := by decide +kernel
theorem dX12_ends_58 : decode cX12_ends 58 = .ok (.getfield 16, 3) := by decide +kernel
theorem dX12_ends_61 : decode cX12_ends 61 = .ok (.iconst 1, 1) := by decide +kernel
theorem dX12_ends_62 : decode cX12_ends 62 = .ok (.iadd, 1) := by decide +kernel
theorem dX12_ends_63 : decode cX12_ends 63 = .ok (.putfield 16, 3) := by decide +kernel
theorem dX12_ends_66 : decode cX12_ends 66 = .ok (.goto 18, 3) := by decide +kernel
theorem dX12_ends_69 : decode cX12_ends 69 = .ok (.aload_n 0, 1) := by decide +kernel
theorem dX12_ends_70 : decode cX12_ends 70 = .ok (.aload_n 0, 1) := by decide +kernel
theorem dX12_ends_71 : decode cX12_ends 71 = .ok (.getfield 114, 3) := by decide +kernel
theorem dX12_ends_74 : decode cX12_ends 74 = .ok (.iload 5, 2) := by decide +kernel
theorem dX12_ends_76 : decode cX12_ends 76 = .ok (.iaload, 1) := by decide +kernel
theorem dX12_ends_77 : decode cX12_ends 77 = .ok (.iload 4, 2) := by decide +kernel
theorem dX12_ends_79 : decode cX12_ends 79 = .ok (.invokevirtual 290, 3) := by decide +kernel
theorem dX12_ends_82 : decode cX12_ends 82 = .ok (.istore 4, 2) := by decide +kernel
theorem dX12_ends_84 : decode cX12_ends 84 = .ok (.iinc 5 1, 3) := by decide +kernel
theorem dX12_ends_87 : decode cX12_ends 87 = .ok (.goto (-51), 3) := by decide +kernel
theorem dX12_ends_90 : decode cX12_ends 90 = .ok (.aload_n 0, 1) := by decide +kernel
theorem dX12_ends_91 : decode cX12_ends 91 = .ok (.iload_n 3, 1) := by decide +kernel
theorem dX12_ends_92 : decode cX12_ends 92 = .ok (.putfield 16, 3) := by decide +kernel
theorem dX12_ends_95 : decode cX12_ends 95 = .ok (.iload_n 2, 1) := by decide +kernel
theorem dX12_ends_96 : decode cX12_ends 96 = .ok (.ifCond .ne 8, 3) := by decide +kernel
theorem dX12_ends_99 : decode cX12_ends 99 = .ok (.iload 4, 2) := by decide +kernel
theorem dX12_ends_101 : decode cX12_ends 101 = .ok (.goto 9, 3) := by decide +kernel
theorem dX12_ends_104 : decode cX12_ends 104 = .ok (.aload_n 0, 1) := by decide +kernel
theorem dX12_ends_105 : decode cX12_ends 105 = .ok (.iload 4, 2) := by decide +kernel
theorem dX12_ends_107 : decode cX12_ends 107 = .ok (.invokevirtual 293, 3) := by decide +kernel
theorem dX12_ends_110 : decode cX12_ends 110 = .ok (.ireturn, 1) := by decide +kernel
theorem dX12_book_0 : decode cX12_book 0 = .ok (.iload_n 1, 1) := by decide +kernel
theorem dX12_book_1 : decode cX12_book 1 = .ok (.iconst (-1), 1) := by decide +kernel
theorem dX12_book_2 : decode cX12_book 2 = .ok (.if_icmp .ne 10, 3) := by decide +kernel
theorem dX12_book_5 : decode cX12_book 5 = .ok (.aload_n 0, 1) := by decide +kernel
theorem dX12_book_6 : decode cX12_book 6 = .ok (.iconst 0, 1) := by decide +kernel
theorem dX12_book_7 : decode cX12_book 7 = .ok (.putfield 111, 3) := by decide +kernel
theorem dX12_book_10 : decode cX12_book 10 = .ok (.iconst 0, 1) := by decide +kernel
theorem dX12_book_11 : decode cX12_book 11 = .ok (.ireturn, 1) := by decide +kernel
theorem dX12_book_12 : decode cX12_book 12 = .ok (.aload_n 0, 1) := by decide +kernel
theorem dX12_book_13 : decode cX12_book 13 = .ok (.iload_n 1, 1) := by decide +kernel
theorem dX12_book_14 : decode cX12_book 14 = .ok (.invokevirtual 209, 3) := by decide +kernel
theorem dX12_book_17 : decode cX12_book 17 = .ok (.ifCond .ne 5, 3) := by decide +kernel
theorem dX12_book_20 : decode cX12_book 20 = .ok (.iconst (-1), 1) := by decide +kernel
theorem dX12_book_21 : decode cX12_book 21 = .ok (.ireturn, 1) := by decide +kernel
theorem dX12_book_22 : decode cX12_book 22 = .ok (.aload_n 0, 1) := by decide +kernel
theorem dX12_book_23 : decode cX12_book 23 = .ok (.iload_n 2, 1) := by decide +kernel
theorem dX12_book_24 : decode cX12_book 24 = .ok (.invokevirtual 205, 3) := by decide +kernel
theorem dX12_book_27 : decode cX12_book 27 = .ok (.ifCond .ne 6, 3) := by decide +kernel
theorem dX12_book_30 : decode cX12_book 30 = .ok (.bipush (-2), 2) := by decide +kernel
theorem dX12_book_32 : decode cX12_book 32 = .ok (.ireturn, 1) := by decide +kernel
theorem dX12_book_33 : decode cX12_book 33 = .ok (.aload_n 0, 1) := by decide +kernel
theorem dX12_book_34 : decode cX12_book 34 = .ok (.getfield 111, 3) := by decide +kernel
theorem dX12_book_37 : decode cX12_book 37 = .ok (.bipush 8, 2) := by decide +kernel
theorem dX12_book_39 : decode cX12_book 39 = .ok (.if_icmp .ne 6, 3) := by decide +kernel
theorem dX12_book_42 : decode cX12_book 42 = .ok (.bipush (-4), 2) := by decide +kernel
theorem dX12_book_44 : decode cX12_book 44 = .ok (.ireturn, 1) := by decide +kernel
theorem dX12_book_45 : decode cX12_book 45 = .ok (.aload_n 0, 1) := by decide +kernel
theorem dX12_book_46 : decode cX12_book 46 = .ok (.getfield 117, 3) := by decide +kernel
theorem dX12_book_49 : decode cX12_book 49 = .ok (.aload_n 0, 1) := by decide +kernel
theorem dX12_book_50 : decode cX12_book 50 = .ok (.getfield 111, 3) := by decide +kernel
theorem dX12_book_53 : decode cX12_book 53 = .ok (.iload_n 1, 1) := by decide +kernel
theorem dX12_book_54 : decode cX12_book 54 = .ok (.iastore, 1) := by decide +kernel
theorem dX12_book_55 : decode cX12_book 55 = .ok (.aload_n 0, 1) := by decide +kernel
theorem dX12_book_56 : decode cX12_book 56 = .ok (.getfield 120, 3) := by decide +kernel
theorem dX12_book_59 : decode cX12_book 59 = .ok (.aload_n 0, 1) := by decide +kernel
theorem dX12_book_60 : decode cX12_book 60 = .ok (.getfield 111, 3) := by decide +kernel
theorem dX12_book_63 : decode cX12_book 63 = .ok (.iload_n 2, 1) := by decide +kernel
theorem dX12_book_64 : decode cX12_book 64 = .ok (.iastore, 1) := by decide +kernel
theorem dX12_book_65 : decode cX12_book 65 = .ok (.aload_n 0, 1) := by decide +kernel
theorem dX12_book_66 : decode cX12_book 66 = .ok (.dup, 1) := by decide +kernel
theorem dX12_book_67 : decode cX12_book 67 = .ok (.getfield 111, 3) := by decide +kernel
theorem dX12_book_70 : decode cX12_book 70 = .ok (.iconst 1, 1) := by decide +kernel
theorem dX12_book_71 : decode cX12_book 71 = .ok (.iadd, 1) := by decide +kernel
theorem dX12_book_72 : decode cX12_book 72 = .ok (.putfield 111, 3) := by decide +kernel
theorem dX12_book_75 : decode cX12_book 75 = .ok (.aload_n 0, 1) := by decide +kernel
theorem dX12_book_76 : decode cX12_book 76 = .ok (.getfield 111, 3) := by decide +kernel
theorem dX12_book_79 : decode cX12_book 79 = .ok (.ireturn, 1) := by decide +kernel
theorem dX12_looked_0 : decode cX12_looked 0 = .ok (.iconst 0, 1) := by decide +kernel
theorem dX12_looked_1 : decode cX12_looked 1 = .ok (.istore_n 1, 1) := by decide +kernel
theorem dX12_looked_2 : decode cX12_looked 2 = .ok (.iload_n 1, 1) := by decide +kernel
theorem dX12_looked_3 : decode cX12_looked 3 = .ok (.aload_n 0, 1) := by decide +kernel
theorem dX12_looked_4 : decode cX12_looked 4 = .ok (.getfield 111, 3) := by decide +kernel
theorem dX12_looked_7 : decode cX12_looked 7 = .ok (.if_icmp .ge 31, 3) := by decide +kernel
theorem dX12_looked_10 : decode cX12_looked 10 = .ok (.aload_n 0, 1) := by decide +kernel
theorem dX12_looked_11 : decode cX12_looked 11 = .ok (.getfield 19, 3) := by decide +kernel
theorem dX12_looked_14 : decode cX12_looked 14 = .ok (.aload_n 0, 1) := by decide +kernel
theorem dX12_looked_15 : decode cX12_looked 15 = .ok (.getfield 117, 3) := by decide +kernel
theorem dX12_looked_18 : decode cX12_looked 18 = .ok (.iload_n 1, 1) := by decide +kernel
theorem dX12_looked_19 : decode cX12_looked 19 = .ok (.iaload, 1) := by decide +kernel
theorem dX12_looked_20 : decode cX12_looked 20 = .ok (.iaload, 1) := by decide +kernel
theorem dX12_looked_21 : decode cX12_looked 21 = .ok (.aload_n 0, 1) := by decide +kernel
theorem dX12_looked_22 : decode cX12_looked 22 = .ok (.getfield 120, 3) := by decide +kernel
theorem dX12_looked_25 : decode cX12_looked 25 = .ok (.iload_n 1, 1) := by decide +kernel
theorem dX12_looked_26 : decode cX12_looked 26 = .ok (.iaload, 1) := by decide +kernel
theorem dX12_looked_27 : decode cX12_looked 27 = .ok (.if_icmp .eq 5, 3) := by decide +kernel
theorem dX12_looked_30 : decode cX12_looked 30 = .ok (.iload_n 1, 1) := by decide +kernel
theorem dX12_looked_31 : decode cX12_looked 31 = .ok (.ireturn, 1) := by decide +kernel
theorem dX12_looked_32 : decode cX12_looked 32 = .ok (.iinc 1 1, 3) := by decide +kernel
theorem dX12_looked_35 : decode cX12_looked 35 = .ok (.goto (-33), 3) := by decide +kernel
theorem dX12_looked_38 : decode cX12_looked 38 = .ok (.bipush (-5), 2) := by decide +kernel
theorem dX12_looked_40 : decode cX12_looked 40 = .ok (.ireturn, 1) := by decide +kernel
theorem dX12_judge_0 : decode cX12_judge 0 = .ok (.aload_n 0, 1) := by decide +kernel
theorem dX12_judge_1 : decode cX12_judge 1 = .ok (.iload_n 1, 1) := by decide +kernel
theorem dX12_judge_2 : decode cX12_judge 2 = .ok (.invokevirtual 330, 3) := by decide +kernel
theorem dX12_judge_5 : decode cX12_judge 5 = .ok (.ifCond .ne 5, 3) := by decide +kernel
theorem dX12_judge_8 : decode cX12_judge 8 = .ok (.iconst (-1), 1) := by decide +kernel
theorem dX12_judge_9 : decode cX12_judge 9 = .ok (.ireturn, 1) := by decide +kernel
theorem dX12_judge_10 : decode cX12_judge 10 = .ok (.aload_n 0, 1) := by decide +kernel
theorem dX12_judge_11 : decode cX12_judge 11 = .ok (.getfield 184, 3) := by decide +kernel
theorem dX12_judge_14 : decode cX12_judge 14 = .ok (.iload_n 1, 1) := by decide +kernel
theorem dX12_judge_15 : decode cX12_judge 15 = .ok (.iaload, 1) := by decide +kernel
theorem dX12_judge_16 : decode cX12_judge 16 = .ok (.ifCond .lt 16, 3) := by decide +kernel
theorem dX12_judge_19 : decode cX12_judge 19 = .ok (.aload_n 0, 1) := by decide +kernel
theorem dX12_judge_20 : decode cX12_judge 20 = .ok (.getfield 184, 3) := by decide +kernel
theorem dX12_judge_23 : decode cX12_judge 23 = .ok (.iload_n 1, 1) := by decide +kernel
theorem dX12_judge_24 : decode cX12_judge 24 = .ok (.iaload, 1) := by decide +kernel
theorem dX12_judge_25 : decode cX12_judge 25 = .ok (.iconst 1, 1) := by decide +kernel
theorem dX12_judge_26 : decode cX12_judge 26 = .ok (.if_icmp .eq 6, 3) := by decide +kernel
theorem dX12_judge_29 : decode cX12_judge 29 = .ok (.bipush (-12), 2) := by decide +kernel
theorem dX12_judge_31 : decode cX12_judge 31 = .ok (.ireturn, 1) := by decide +kernel
theorem dX12_judge_32 : decode cX12_judge 32 = .ok (.iconst 0, 1) := by decide +kernel
theorem dX12_judge_33 : decode cX12_judge 33 = .ok (.istore_n 3, 1) := by decide +kernel
theorem dX12_judge_34 : decode cX12_judge 34 = .ok (.iload_n 3, 1) := by decide +kernel
theorem dX12_judge_35 : decode cX12_judge 35 = .ok (.aload_n 0, 1) := by decide +kernel
theorem dX12_judge_36 : decode cX12_judge 36 = .ok (.getfield 7, 3) := by decide +kernel
theorem dX12_judge_39 : decode cX12_judge 39 = .ok (.if_icmp .ge 67, 3) := by decide +kernel
theorem dX12_judge_42 : decode cX12_judge 42 = .ok (.aload_n 0, 1) := by decide +kernel
theorem dX12_judge_43 : decode cX12_judge 43 = .ok (.getfield 184, 3) := by decide +kernel
theorem dX12_judge_46 : decode cX12_judge 46 = .ok (.iload_n 1, 1) := by decide +kernel
theorem dX12_judge_47 : decode cX12_judge 47 = .ok (.iaload, 1) := by decide +kernel
theorem dX12_judge_48 : decode cX12_judge 48 = .ok (.ifCond .lt 21, 3) := by decide +kernel
theorem dX12_judge_51 : decode cX12_judge 51 = .ok (.iload_n 2, 1) := by decide +kernel
theorem dX12_judge_52 : decode cX12_judge 52 = .ok (.ifCond .lt 17, 3) := by decide +kernel
theorem dX12_judge_55 : decode cX12_judge 55 = .ok (.iload_n 2, 1) := by decide +kernel
theorem dX12_judge_56 : decode cX12_judge 56 = .ok (.aload_n 0, 1) := by decide +kernel
theorem dX12_judge_57 : decode cX12_judge 57 = .ok (.getfield 187, 3) := by decide +kernel
theorem dX12_judge_60 : decode cX12_judge 60 = .ok (.iload_n 1, 1) := by decide +kernel
theorem dX12_judge_61 : decode cX12_judge 61 = .ok (.iaload, 1) := by decide +kernel
theorem dX12_judge_62 : decode cX12_judge 62 = .ok (.iload_n 3, 1) := by decide +kernel
theorem dX12_judge_63 : decode cX12_judge 63 = .ok (.isub, 1) := by decide +kernel
theorem dX12_judge_64 : decode cX12_judge 64 = .ok (.iconst 1, 1) := by decide +kernel
theorem dX12_judge_65 : decode cX12_judge 65 = .ok (.isub, 1) := by decide +kernel
theorem dX12_judge_66 : decode cX12_judge 66 = .ok (.if_icmp .le 8, 3) := by decide +kernel
theorem dX12_judge_69 : decode cX12_judge 69 = .ok (.bipush 100, 2) := by decide +kernel
theorem dX12_judge_71 : decode cX12_judge 71 = .ok (.iload_n 3, 1) := by decide +kernel
theorem dX12_judge_72 : decode cX12_judge 72 = .ok (.iadd, 1) := by decide +kernel
theorem dX12_judge_73 : decode cX12_judge 73 = .ok (.ireturn, 1) := by decide +kernel
theorem dX12_judge_74 : decode cX12_judge 74 = .ok (.aload_n 0, 1) := by decide +kernel
theorem dX12_judge_75 : decode cX12_judge 75 = .ok (.getfield 190, 3) := by decide +kernel
theorem dX12_judge_78 : decode cX12_judge 78 = .ok (.bipush 60, 2) := by decide +kernel
theorem dX12_judge_80 : decode cX12_judge 80 = .ok (.iload_n 1, 1) := by decide +kernel
theorem dX12_judge_81 : decode cX12_judge 81 = .ok (.imul, 1) := by decide +kernel
theorem dX12_judge_82 : decode cX12_judge 82 = .ok (.iload_n 2, 1) := by decide +kernel
theorem dX12_judge_83 : decode cX12_judge 83 = .ok (.iadd, 1) := by decide +kernel
theorem dX12_judge_84 : decode cX12_judge 84 = .ok (.iload_n 3, 1) := by decide +kernel
theorem dX12_judge_85 : decode cX12_judge 85 = .ok (.iadd, 1) := by decide +kernel
theorem dX12_judge_86 : decode cX12_judge 86 = .ok (.laload, 1) := by decide +kernel
theorem dX12_judge_87 : decode cX12_judge 87 = .ok (.aload_n 0, 1) := by decide +kernel
theorem dX12_judge_88 : decode cX12_judge 88 = .ok (.getfield 19, 3) := by decide +kernel
theorem dX12_judge_91 : decode cX12_judge 91 = .ok (.iload_n 3, 1) := by decide +kernel
theorem dX12_judge_92 : decode cX12_judge 92 = .ok (.iaload, 1) := by decide +kernel
theorem dX12_judge_93 : decode cX12_judge 93 = .ok (.i2l, 1) := by decide +kernel
theorem dX12_judge_94 : decode cX12_judge 94 = .ok (.lcmp, 1) := by decide +kernel
theorem dX12_judge_95 : decode cX12_judge 95 = .ok (.ifCond .eq 5, 3) := by decide +kernel
theorem dX12_judge_98 : decode cX12_judge 98 = .ok (.iload_n 3, 1) := by decide +kernel
theorem dX12_judge_99 : decode cX12_judge 99 = .ok (.ireturn, 1) := by decide +kernel
theorem dX12_judge_100 : decode cX12_judge 100 = .ok (.iinc 3 1, 3) := by decide +kernel
theorem dX12_judge_103 : decode cX12_judge 103 = .ok (.goto (-69), 3) := by decide +kernel
theorem dX12_judge_106 : decode cX12_judge 106 = .ok (.bipush (-5), 2) := by decide +kernel
theorem dX12_judge_108 : decode cX12_judge 108 = .ok (.ireturn, 1) := by decide +kernel
theorem dX12_image_0 : decode cX12_image 0 = .ok (.aload_n 0, 1) := by decide +kernel
theorem dX12_image_1 : decode cX12_image 1 = .ok (.iconst 1, 1) := by decide +kernel
theorem dX12_image_2 : decode cX12_image 2 = .ok (.putfield 123, 3) := by decide +kernel
theorem dX12_image_5 : decode cX12_image 5 = .ok (.aload_n 0, 1) := by decide +kernel
theorem dX12_image_6 : decode cX12_image 6 = .ok (.aload_n 0, 1) := by decide +kernel
theorem dX12_image_7 : decode cX12_image 7 = .ok (.getfield 38, 3) := by decide +kernel
theorem dX12_image_10 : decode cX12_image 10 = .ok (.putfield 127, 3) := by decide +kernel
theorem dX12_image_13 : decode cX12_image 13 = .ok (.aload_n 0, 1) := by decide +kernel
theorem dX12_image_14 : decode cX12_image 14 = .ok (.aload_n 0, 1) := by decide +kernel
theorem dX12_image_15 : decode cX12_image 15 = .ok (.getfield 7, 3) := by decide +kernel
theorem dX12_image_18 : decode cX12_image 18 = .ok (.putfield 130, 3) := by decide +kernel
theorem dX12_image_21 : decode cX12_image 21 = .ok (.aload_n 0, 1) := by decide +kernel
theorem dX12_image_22 : decode cX12_image 22 = .ok (.aload_n 0, 1) := by decide +kernel
theorem dX12_image_23 : decode cX12_image 23 = .ok (.getfield 13, 3) := by decide +kernel
theorem dX12_image_26 : decode cX12_image 26 = .ok (.putfield 133, 3) := by decide +kernel
theorem dX12_image_29 : decode cX12_image 29 = .ok (.aload_n 0, 1) := by decide +kernel
theorem dX12_image_30 : decode cX12_image 30 = .ok (.aload_n 0, 1) := by decide +kernel
theorem dX12_image_31 : decode cX12_image 31 = .ok (.getfield 16, 3) := by decide +kernel
theorem dX12_image_34 : decode cX12_image 34 = .ok (.putfield 136, 3) := by decide +kernel
theorem dX12_image_37 : decode cX12_image 37 = .ok (.aload_n 0, 1) := by decide +kernel
theorem dX12_image_38 : decode cX12_image 38 = .ok (.aload_n 0, 1) := by decide +kernel
theorem dX12_image_39 : decode cX12_image 39 = .ok (.getfield 99, 3) := by decide +kernel
theorem dX12_image_42 : decode cX12_image 42 = .ok (.putfield 139, 3) := by decide +kernel
theorem dX12_image_45 : decode cX12_image 45 = .ok (.aload_n 0, 1) := by decide +kernel
theorem dX12_image_46 : decode cX12_image 46 = .ok (.aload_n 0, 1) := by decide +kernel
theorem dX12_image_47 : decode cX12_image 47 = .ok (.getfield 108, 3) := by decide +kernel
theorem dX12_image_50 : decode cX12_image 50 = .ok (.putfield 142, 3) := by decide +kernel
theorem dX12_image_53 : decode cX12_image 53 = .ok (.aload_n 0, 1) := by decide +kernel
theorem dX12_image_54 : decode cX12_image 54 = .ok (.aload_n 0, 1) := by decide +kernel
theorem dX12_image_55 : decode cX12_image 55 = .ok (.getfield 111, 3) := by decide +kernel
theorem dX12_image_58 : decode cX12_image 58 = .ok (.putfield 145, 3) := by decide +kernel
theorem dX12_image_61 : decode cX12_image 61 = .ok (.iconst 0, 1) := by decide +kernel
theorem dX12_image_62 : decode cX12_image 62 = .ok (.istore_n 1, 1) := by decide +kernel
theorem dX12_image_63 : decode cX12_image 63 = .ok (.iload_n 1, 1) := by decide +kernel
theorem dX12_image_64 : decode cX12_image 64 = .ok (.iconst 5, 1) := by decide +kernel
theorem dX12_image_65 : decode cX12_image 65 = .ok (.if_icmp .ge 69, 3) := by decide +kernel
theorem dX12_image_68 : decode cX12_image 68 = .ok (.aload_n 0, 1) := by decide +kernel
theorem dX12_image_69 : decode cX12_image 69 = .ok (.getfield 151, 3) := by decide +kernel
theorem dX12_image_72 : decode cX12_image 72 = .ok (.iload_n 1, 1) := by decide +kernel
theorem dX12_image_73 : decode cX12_image 73 = .ok (.aload_n 0, 1) := by decide +kernel
theorem dX12_image_74 : decode cX12_image 74 = .ok (.getfield 23, 3) := by decide +kernel
theorem dX12_image_77 : decode cX12_image 77 = .ok (.iload_n 1, 1) := by decide +kernel
theorem dX12_image_78 : decode cX12_image 78 = .ok (.iaload, 1) := by decide +kernel
theorem dX12_image_79 : decode cX12_image 79 = .ok (.iastore, 1) := by decide +kernel
theorem dX12_image_80 : decode cX12_image 80 = .ok (.aload_n 0, 1) := by decide +kernel
theorem dX12_image_81 : decode cX12_image 81 = .ok (.getfield 154, 3) := by decide +kernel
theorem dX12_image_84 : decode cX12_image 84 = .ok (.iload_n 1, 1) := by decide +kernel
theorem dX12_image_85 : decode cX12_image 85 = .ok (.aload_n 0, 1) := by decide +kernel
theorem dX12_image_86 : decode cX12_image 86 = .ok (.getfield 26, 3) := by decide +kernel
theorem dX12_image_89 : decode cX12_image 89 = .ok (.iload_n 1, 1) := by decide +kernel
theorem dX12_image_90 : decode cX12_image 90 = .ok (.iaload, 1) := by decide +kernel
theorem dX12_image_91 : decode cX12_image 91 = .ok (.iastore, 1) := by decide +kernel
theorem dX12_image_92 : decode cX12_image 92 = .ok (.aload_n 0, 1) := by decide +kernel
theorem dX12_image_93 : decode cX12_image 93 = .ok (.getfield 157, 3) := by decide +kernel
theorem dX12_image_96 : decode cX12_image 96 = .ok (.iload_n 1, 1) := by decide +kernel
theorem dX12_image_97 : decode cX12_image 97 = .ok (.aload_n 0, 1) := by decide +kernel
theorem dX12_image_98 : decode cX12_image 98 = .ok (.getfield 29, 3) := by decide +kernel
theorem dX12_image_101 : decode cX12_image 101 = .ok (.iload_n 1, 1) := by decide +kernel
theorem dX12_image_102 : decode cX12_image 102 = .ok (.iaload, 1) := by decide +kernel
theorem dX12_image_103 : decode cX12_image 103 = .ok (.iastore, 1) := by decide +kernel
theorem dX12_image_104 : decode cX12_image 104 = .ok (.aload_n 0, 1) := by decide +kernel
theorem dX12_image_105 : decode cX12_image 105 = .ok (.getfield 163, 3) := by decide +kernel
theorem dX12_image_108 : decode cX12_image 108 = .ok (.iload_n 1, 1) := by decide +kernel
theorem dX12_image_109 : decode cX12_image 109 = .ok (.aload_n 0, 1) := by decide +kernel
theorem dX12_image_110 : decode cX12_image 110 = .ok (.getfield 102, 3) := by decide +kernel
theorem dX12_image_113 : decode cX12_image 113 = .ok (.iload_n 1, 1) := by decide +kernel
theorem dX12_image_114 : decode cX12_image 114 = .ok (.iaload, 1) := by decide +kernel
theorem dX12_image_115 : decode cX12_image 115 = .ok (.iastore, 1) := by decide +kernel
theorem dX12_image_116 : decode cX12_image 116 = .ok (.aload_n 0, 1) := by decide +kernel
theorem dX12_image_117 : decode cX12_image 117 = .ok (.getfield 166, 3) := by decide +kernel
theorem dX12_image_120 : decode cX12_image 120 = .ok (.iload_n 1, 1) := by decide +kernel
theorem dX12_image_121 : decode cX12_image 121 = .ok (.aload_n 0, 1) := by decide +kernel
theorem dX12_image_122 : decode cX12_image 122 = .ok (.getfield 105, 3) := by decide +kernel
theorem dX12_image_125 : decode cX12_image 125 = .ok (.iload_n 1, 1) := by decide +kernel
theorem dX12_image_126 : decode cX12_image 126 = .ok (.iaload, 1) := by decide +kernel
theorem dX12_image_127 : decode cX12_image 127 = .ok (.iastore, 1) := by decide +kernel
theorem dX12_image_128 : decode cX12_image 128 = .ok (.iinc 1 1, 3) := by decide +kernel
theorem dX12_image_131 : decode cX12_image 131 = .ok (.goto (-68), 3) := by decide +kernel
theorem dX12_image_134 : decode cX12_image 134 = .ok (.iconst 0, 1) := by decide +kernel
theorem dX12_image_135 : decode cX12_image 135 = .ok (.istore_n 1, 1) := by decide +kernel
theorem dX12_image_136 : decode cX12_image 136 = .ok (.iload_n 1, 1) := by decide +kernel
theorem dX12_image_137 : decode cX12_image 137 = .ok (.bipush 20, 2) := by decide +kernel
theorem dX12_image_139 : decode cX12_image 139 = .ok (.if_icmp .ge 21, 3) := by decide +kernel
theorem dX12_image_142 : decode cX12_image 142 = .ok (.aload_n 0, 1) := by decide +kernel
theorem dX12_image_143 : decode cX12_image 143 = .ok (.getfield 160, 3) := by decide +kernel
theorem dX12_image_146 : decode cX12_image 146 = .ok (.iload_n 1, 1) := by decide +kernel
theorem dX12_image_147 : decode cX12_image 147 = .ok (.aload_n 0, 1) := by decide +kernel
theorem dX12_image_148 : decode cX12_image 148 = .ok (.getfield 32, 3) := by decide +kernel
theorem dX12_image_151 : decode cX12_image 151 = .ok (.iload_n 1, 1) := by decide +kernel
theorem dX12_image_152 : decode cX12_image 152 = .ok (.iaload, 1) := by decide +kernel
theorem dX12_image_153 : decode cX12_image 153 = .ok (.iastore, 1) := by decide +kernel
theorem dX12_image_154 : decode cX12_image 154 = .ok (.iinc 1 1, 3) := by decide +kernel
theorem dX12_image_157 : decode cX12_image 157 = .ok (.goto (-21), 3) := by decide +kernel
theorem dX12_image_160 : decode cX12_image 160 = .ok (.iconst 0, 1) := by decide +kernel
theorem dX12_image_161 : decode cX12_image 161 = .ok (.istore_n 1, 1) := by decide +kernel
theorem dX12_image_162 : decode cX12_image 162 = .ok (.iload_n 1, 1) := by decide +kernel
theorem dX12_image_163 : decode cX12_image 163 = .ok (.bipush 8, 2) := by decide +kernel
theorem dX12_image_165 : decode cX12_image 165 = .ok (.if_icmp .ge 57, 3) := by decide +kernel
theorem dX12_image_168 : decode cX12_image 168 = .ok (.aload_n 0, 1) := by decide +kernel
theorem dX12_image_169 : decode cX12_image 169 = .ok (.getfield 148, 3) := by decide +kernel
theorem dX12_image_172 : decode cX12_image 172 = .ok (.iload_n 1, 1) := by decide +kernel
theorem dX12_image_173 : decode cX12_image 173 = .ok (.aload_n 0, 1) := by decide +kernel
theorem dX12_image_174 : decode cX12_image 174 = .ok (.getfield 19, 3) := by decide +kernel
theorem dX12_image_177 : decode cX12_image 177 = .ok (.iload_n 1, 1) := by decide +kernel
theorem dX12_image_178 : decode cX12_image 178 = .ok (.iaload, 1) := by decide +kernel
theorem dX12_image_179 : decode cX12_image 179 = .ok (.iastore, 1) := by decide +kernel
theorem dX12_image_180 : decode cX12_image 180 = .ok (.aload_n 0, 1) := by decide +kernel
theorem dX12_image_181 : decode cX12_image 181 = .ok (.getfield 169, 3) := by decide +kernel
theorem dX12_image_184 : decode cX12_image 184 = .ok (.iload_n 1, 1) := by decide +kernel
theorem dX12_image_185 : decode cX12_image 185 = .ok (.aload_n 0, 1) := by decide +kernel
theorem dX12_image_186 : decode cX12_image 186 = .ok (.getfield 114, 3) := by decide +kernel
theorem dX12_image_189 : decode cX12_image 189 = .ok (.iload_n 1, 1) := by decide +kernel
theorem dX12_image_190 : decode cX12_image 190 = .ok (.iaload, 1) := by decide +kernel
theorem dX12_image_191 : decode cX12_image 191 = .ok (.iastore, 1) := by decide +kernel
theorem dX12_image_192 : decode cX12_image 192 = .ok (.aload_n 0, 1) := by decide +kernel
theorem dX12_image_193 : decode cX12_image 193 = .ok (.getfield 172, 3) := by decide +kernel
theorem dX12_image_196 : decode cX12_image 196 = .ok (.iload_n 1, 1) := by decide +kernel
theorem dX12_image_197 : decode cX12_image 197 = .ok (.aload_n 0, 1) := by decide +kernel
theorem dX12_image_198 : decode cX12_image 198 = .ok (.getfield 117, 3) := by decide +kernel
theorem dX12_image_201 : decode cX12_image 201 = .ok (.iload_n 1, 1) := by decide +kernel
theorem dX12_image_202 : decode cX12_image 202 = .ok (.iaload, 1) := by decide +kernel
theorem dX12_image_203 : decode cX12_image 203 = .ok (.iastore, 1) := by decide +kernel
theorem dX12_image_204 : decode cX12_image 204 = .ok (.aload_n 0, 1) := by decide +kernel
theorem dX12_image_205 : decode cX12_image 205 = .ok (.getfield 175, 3) := by decide +kernel
theorem dX12_image_208 : decode cX12_image 208 = .ok (.iload_n 1, 1) := by decide +kernel
theorem dX12_image_209 : decode cX12_image 209 = .ok (.aload_n 0, 1) := by decide +kernel
theorem dX12_image_210 : decode cX12_image 210 = .ok (.getfield 120, 3) := by decide +kernel
theorem dX12_image_213 : decode cX12_image 213 = .ok (.iload_n 1, 1) := by decide +kernel
theorem dX12_image_214 : decode cX12_image 214 = .ok (.iaload, 1) := by decide +kernel
theorem dX12_image_215 : decode cX12_image 215 = .ok (.iastore, 1) := by decide +kernel
theorem dX12_image_216 : decode cX12_image 216 = .ok (.iinc 1 1, 3) := by decide +kernel
theorem dX12_image_219 : decode cX12_image 219 = .ok (.goto (-57), 3) := by decide +kernel
theorem dX12_image_222 : decode cX12_image 222 = .ok (.aload_n 0, 1) := by decide +kernel
theorem dX12_image_223 : decode cX12_image 223 = .ok (.getfield 13, 3) := by decide +kernel
theorem dX12_image_226 : decode cX12_image 226 = .ok (.ireturn, 1) := by decide +kernel
theorem dX12_undo_0 : decode cX12_undo 0 = .ok (.aload_n 0, 1) := by decide +kernel
theorem dX12_undo_1 : decode cX12_undo 1 = .ok (.getfield 123, 3) := by decide +kernel
theorem dX12_undo_4 : decode cX12_undo 4 = .ok (.ifCond .ne 6, 3) := by decide +kernel
theorem dX12_undo_7 : decode cX12_undo 7 = .ok (.bipush (-3), 2) := by decide +kernel
theorem dX12_undo_9 : decode cX12_undo 9 = .ok (.ireturn, 1) := by decide +kernel
theorem dX12_undo_10 : decode cX12_undo 10 = .ok (.aload_n 0, 1) := by decide +kernel
theorem dX12_undo_11 : decode cX12_undo 11 = .ok (.aload_n 0, 1) := by decide +kernel
theorem dX12_undo_12 : decode cX12_undo 12 = .ok (.getfield 127, 3) := by decide +kernel
theorem dX12_undo_15 : decode cX12_undo 15 = .ok (.putfield 38, 3) := by decide +kernel
theorem dX12_undo_18 : decode cX12_undo 18 = .ok (.aload_n 0, 1) := by decide +kernel
theorem dX12_undo_19 : decode cX12_undo 19 = .ok (.aload_n 0, 1) := by decide +kernel
theorem dX12_undo_20 : decode cX12_undo 20 = .ok (.getfield 130, 3) := by decide +kernel
theorem dX12_undo_23 : decode cX12_undo 23 = .ok (.putfield 7, 3) := by decide +kernel
theorem dX12_undo_26 : decode cX12_undo 26 = .ok (.aload_n 0, 1) := by decide +kernel
theorem dX12_undo_27 : decode cX12_undo 27 = .ok (.aload_n 0, 1) := by decide +kernel
theorem dX12_undo_28 : decode cX12_undo 28 = .ok (.getfield 133, 3) := by decide +kernel
theorem dX12_undo_31 : decode cX12_undo 31 = .ok (.putfield 13, 3) := by decide +kernel
theorem dX12_undo_34 : decode cX12_undo 34 = .ok (.aload_n 0, 1) := by decide +kernel
theorem dX12_undo_35 : decode cX12_undo 35 = .ok (.aload_n 0, 1) := by decide +kernel
theorem dX12_undo_36 : decode cX12_undo 36 = .ok (.getfield 136, 3) := by decide +kernel
theorem dX12_undo_39 : decode cX12_undo 39 = .ok (.putfield 16, 3) := by decide +kernel
theorem dX12_undo_42 : decode cX12_undo 42 = .ok (.aload_n 0, 1) := by decide +kernel
theorem dX12_undo_43 : decode cX12_undo 43 = .ok (.aload_n 0, 1) := by decide +kernel
theorem dX12_undo_44 : decode cX12_undo 44 = .ok (.getfield 139, 3) := by decide +kernel
theorem dX12_undo_47 : decode cX12_undo 47 = .ok (.putfield 99, 3) := by decide +kernel
theorem dX12_undo_50 : decode cX12_undo 50 = .ok (.aload_n 0, 1) := by decide +kernel
theorem dX12_undo_51 : decode cX12_undo 51 = .ok (.aload_n 0, 1) := by decide +kernel
theorem dX12_undo_52 : decode cX12_undo 52 = .ok (.getfield 142, 3) := by decide +kernel
theorem dX12_undo_55 : decode cX12_undo 55 = .ok (.putfield 108, 3) := by decide +kernel
theorem dX12_undo_58 : decode cX12_undo 58 = .ok (.aload_n 0, 1) := by decide +kernel
theorem dX12_undo_59 : decode cX12_undo 59 = .ok (.aload_n 0, 1) := by decide +kernel
theorem dX12_undo_60 : decode cX12_undo 60 = .ok (.getfield 145, 3) := by decide +kernel
theorem dX12_undo_63 : decode cX12_undo 63 = .ok (.putfield 111, 3) := by decide +kernel
theorem dX12_undo_66 : decode cX12_undo 66 = .ok (.iconst 0, 1) := by decide +kernel
theorem dX12_undo_67 : decode cX12_undo 67 = .ok (.istore_n 1, 1) := by decide +kernel
theorem dX12_undo_68 : decode cX12_undo 68 = .ok (.iload_n 1, 1) := by decide +kernel
theorem dX12_undo_69 : decode cX12_undo 69 = .ok (.iconst 5, 1) := by decide +kernel
theorem dX12_undo_70 : decode cX12_undo 70 = .ok (.if_icmp .ge 69, 3) := by decide +kernel
theorem dX12_undo_73 : decode cX12_undo 73 = .ok (.aload_n 0, 1) := by decide +kernel
theorem dX12_undo_74 : decode cX12_undo 74 = .ok (.getfield 23, 3) := by decide +kernel
theorem dX12_undo_77 : decode cX12_undo 77 = .ok (.iload_n 1, 1) := by decide +kernel
theorem dX12_undo_78 : decode cX12_undo 78 = .ok (.aload_n 0, 1) := by decide +kernel
theorem dX12_undo_79 : decode cX12_undo 79 = .ok (.getfield 151, 3) := by decide +kernel
theorem dX12_undo_82 : decode cX12_undo 82 = .ok (.iload_n 1, 1) := by decide +kernel
theorem dX12_undo_83 : decode cX12_undo 83 = .ok (.iaload, 1) := by decide +kernel
theorem dX12_undo_84 : decode cX12_undo 84 = .ok (.iastore, 1) := by decide +kernel
theorem dX12_undo_85 : decode cX12_undo 85 = .ok (.aload_n 0, 1) := by decide +kernel
theorem dX12_undo_86 : decode cX12_undo 86 = .ok (.getfield 26, 3) := by decide +kernel
theorem dX12_undo_89 : decode cX12_undo 89 = .ok (.iload_n 1, 1) := by decide +kernel
theorem dX12_undo_90 : decode cX12_undo 90 = .ok (.aload_n 0, 1) := by decide +kernel
theorem dX12_undo_91 : decode cX12_undo 91 = .ok (.getfield 154, 3) := by decide +kernel
theorem dX12_undo_94 : decode cX12_undo 94 = .ok (.iload_n 1, 1) := by decide +kernel
theorem dX12_undo_95 : decode cX12_undo 95 = .ok (.iaload, 1) := by decide +kernel
theorem dX12_undo_96 : decode cX12_undo 96 = .ok (.iastore, 1) := by decide +kernel
theorem dX12_undo_97 : decode cX12_undo 97 = .ok (.aload_n 0, 1) := by decide +kernel
theorem dX12_undo_98 : decode cX12_undo 98 = .ok (.getfield 29, 3) := by decide +kernel
theorem dX12_undo_101 : decode cX12_undo 101 = .ok (.iload_n 1, 1) := by decide +kernel
theorem dX12_undo_102 : decode cX12_undo 102 = .ok (.aload_n 0, 1) := by decide +kernel
theorem dX12_undo_103 : decode cX12_undo 103 = .ok (.getfield 157, 3) := by decide +kernel
theorem dX12_undo_106 : decode cX12_undo 106 = .ok (.iload_n 1, 1) := by decide +kernel
theorem dX12_undo_107 : decode cX12_undo 107 = .ok (.iaload, 1) := by decide +kernel
theorem dX12_undo_108 : decode cX12_undo 108 = .ok (.iastore, 1) := by decide +kernel
theorem dX12_undo_109 : decode cX12_undo 109 = .ok (.aload_n 0, 1) := by decide +kernel
theorem dX12_undo_110 : decode cX12_undo 110 = .ok (.getfield 102, 3) := by decide +kernel
theorem dX12_undo_113 : decode cX12_undo 113 = .ok (.iload_n 1, 1) := by decide +kernel
theorem dX12_undo_114 : decode cX12_undo 114 = .ok (.aload_n 0, 1) := by decide +kernel
theorem dX12_undo_115 : decode cX12_undo 115 = .ok (.getfield 163, 3) := by decide +kernel
theorem dX12_undo_118 : decode cX12_undo 118 = .ok (.iload_n 1, 1) := by decide +kernel
theorem dX12_undo_119 : decode cX12_undo 119 = .ok (.iaload, 1) := by decide +kernel
theorem dX12_undo_120 : decode cX12_undo 120 = .ok (.iastore, 1) := by decide +kernel
theorem dX12_undo_121 : decode cX12_undo 121 = .ok (.aload_n 0, 1) := by decide +kernel
theorem dX12_undo_122 : decode cX12_undo 122 = .ok (.getfield 105, 3) := by decide +kernel
theorem dX12_undo_125 : decode cX12_undo 125 = .ok (.iload_n 1, 1) := by decide +kernel
theorem dX12_undo_126 : decode cX12_undo 126 = .ok (.aload_n 0, 1) := by decide +kernel
theorem dX12_undo_127 : decode cX12_undo 127 = .ok (.getfield 166, 3) := by decide +kernel
theorem dX12_undo_130 : decode cX12_undo 130 = .ok (.iload_n 1, 1) := by decide +kernel
theorem dX12_undo_131 : decode cX12_undo 131 = .ok (.iaload, 1) := by decide +kernel
theorem dX12_undo_132 : decode cX12_undo 132 = .ok (.iastore, 1) := by decide +kernel
theorem dX12_undo_133 : decode cX12_undo 133 = .ok (.iinc 1 1, 3) := by decide +kernel
theorem dX12_undo_136 : decode cX12_undo 136 = .ok (.goto (-68), 3) := by decide +kernel
theorem dX12_undo_139 : decode cX12_undo 139 = .ok (.iconst 0, 1) := by decide +kernel
theorem dX12_undo_140 : decode cX12_undo 140 = .ok (.istore_n 1, 1) := by decide +kernel
theorem dX12_undo_141 : decode cX12_undo 141 = .ok (.iload_n 1, 1) := by decide +kernel
theorem dX12_undo_142 : decode cX12_undo 142 = .ok (.bipush 20, 2) := by decide +kernel
theorem dX12_undo_144 : decode cX12_undo 144 = .ok (.if_icmp .ge 21, 3) := by decide +kernel
theorem dX12_undo_147 : decode cX12_undo 147 = .ok (.aload_n 0, 1) := by decide +kernel
theorem dX12_undo_148 : decode cX12_undo 148 = .ok (.getfield 32, 3) := by decide +kernel
theorem dX12_undo_151 : decode cX12_undo 151 = .ok (.iload_n 1, 1) := by decide +kernel
theorem dX12_undo_152 : decode cX12_undo 152 = .ok (.aload_n 0, 1) := by decide +kernel
theorem dX12_undo_153 : decode cX12_undo 153 = .ok (.getfield 160, 3) := by decide +kernel
theorem dX12_undo_156 : decode cX12_undo 156 = .ok (.iload_n 1, 1) := by decide +kernel
theorem dX12_undo_157 : decode cX12_undo 157 = .ok (.iaload, 1) := by decide +kernel
theorem dX12_undo_158 : decode cX12_undo 158 = .ok (.iastore, 1) := by decide +kernel
theorem dX12_undo_159 : decode cX12_undo 159 = .ok (.iinc 1 1, 3) := by decide +kernel
theorem dX12_undo_162 : decode cX12_undo 162 = .ok (.goto (-21), 3) := by decide +kernel
theorem dX12_undo_165 : decode cX12_undo 165 = .ok (.iconst 0, 1) := by decide +kernel
theorem dX12_undo_166 : decode cX12_undo 166 = .ok (.istore_n 1, 1) := by decide +kernel
theorem dX12_undo_167 : decode cX12_undo 167 = .ok (.iload_n 1, 1) := by decide +kernel
theorem dX12_undo_168 : decode cX12_undo 168 = .ok (.bipush 8, 2) := by decide +kernel
theorem dX12_undo_170 : decode cX12_undo 170 = .ok (.if_icmp .ge 57, 3) := by decide +kernel
theorem dX12_undo_173 : decode cX12_undo 173 = .ok (.aload_n 0, 1) := by decide +kernel
theorem dX12_undo_174 : decode cX12_undo 174 = .ok (.getfield 19, 3) := by decide +kernel
theorem dX12_undo_177 : decode cX12_undo 177 = .ok (.iload_n 1, 1) := by decide +kernel
theorem dX12_undo_178 : decode cX12_undo 178 = .ok (.aload_n 0, 1) := by decide +kernel
theorem dX12_undo_179 : decode cX12_undo 179 = .ok (.getfield 148, 3) := by decide +kernel
theorem dX12_undo_182 : decode cX12_undo 182 = .ok (.iload_n 1, 1) := by decide +kernel
theorem dX12_undo_183 : decode cX12_undo 183 = .ok (.iaload, 1) := by decide +kernel
theorem dX12_undo_184 : decode cX12_undo 184 = .ok (.iastore, 1) := by decide +kernel
theorem dX12_undo_185 : decode cX12_undo 185 = .ok (.aload_n 0, 1) := by decide +kernel
theorem dX12_undo_186 : decode cX12_undo 186 = .ok (.getfield 114, 3) := by decide +kernel
theorem dX12_undo_189 : decode cX12_undo 189 = .ok (.iload_n 1, 1) := by decide +kernel
theorem dX12_undo_190 : decode cX12_undo 190 = .ok (.aload_n 0, 1) := by decide +kernel
theorem dX12_undo_191 : decode cX12_undo 191 = .ok (.getfield 169, 3) := by decide +kernel
theorem dX12_undo_194 : decode cX12_undo 194 = .ok (.iload_n 1, 1) := by decide +kernel
theorem dX12_undo_195 : decode cX12_undo 195 = .ok (.iaload, 1) := by decide +kernel
theorem dX12_undo_196 : decode cX12_undo 196 = .ok (.iastore, 1) := by decide +kernel
theorem dX12_undo_197 : decode cX12_undo 197 = .ok (.aload_n 0, 1) := by decide +kernel
theorem dX12_undo_198 : decode cX12_undo 198 = .ok (.getfield 117, 3) := by decide +kernel
theorem dX12_undo_201 : decode cX12_undo 201 = .ok (.iload_n 1, 1) := by decide +kernel
theorem dX12_undo_202 : decode cX12_undo 202 = .ok (.aload_n 0, 1) := by decide +kernel
theorem dX12_undo_203 : decode cX12_undo 203 = .ok (.getfield 172, 3) := by decide +kernel
theorem dX12_undo_206 : decode cX12_undo 206 = .ok (.iload_n 1, 1) := by decide +kernel
theorem dX12_undo_207 : decode cX12_undo 207 = .ok (.iaload, 1) := by decide +kernel
theorem dX12_undo_208 : decode cX12_undo 208 = .ok (.iastore, 1) := by decide +kernel
theorem dX12_undo_209 : decode cX12_undo 209 = .ok (.aload_n 0, 1) := by decide +kernel
theorem dX12_undo_210 : decode cX12_undo 210 = .ok (.getfield 120, 3) := by decide +kernel
theorem dX12_undo_213 : decode cX12_undo 213 = .ok (.iload_n 1, 1) := by decide +kernel
theorem dX12_undo_214 : decode cX12_undo 214 = .ok (.aload_n 0, 1) := by decide +kernel
theorem dX12_undo_215 : decode cX12_undo 215 = .ok (.getfield 175, 3) := by decide +kernel
theorem dX12_undo_218 : decode cX12_undo 218 = .ok (.iload_n 1, 1) := by decide +kernel
theorem dX12_undo_219 : decode cX12_undo 219 = .ok (.iaload, 1) := by decide +kernel
theorem dX12_undo_220 : decode cX12_undo 220 = .ok (.iastore, 1) := by decide +kernel
theorem dX12_undo_221 : decode cX12_undo 221 = .ok (.iinc 1 1, 3) := by decide +kernel
theorem dX12_undo_224 : decode cX12_undo 224 = .ok (.goto (-57), 3) := by decide +kernel
theorem dX12_undo_227 : decode cX12_undo 227 = .ok (.aload_n 0, 1) := by decide +kernel
theorem dX12_undo_228 : decode cX12_undo 228 = .ok (.getfield 13, 3) := by decide +kernel
theorem dX12_undo_231 : decode cX12_undo 231 = .ok (.ireturn, 1) := by decide +kernel
theorem dX12_body_0 : decode cX12_body 0 = .ok (.aload_n 0, 1) := by decide +kernel
theorem dX12_body_1 : decode cX12_body 1 = .ok (.getfield 178, 3) := by decide +kernel
theorem dX12_body_4 : decode cX12_body 4 = .ok (.bipush 20, 2) := by decide +kernel
theorem dX12_body_6 : decode cX12_body 6 = .ok (.if_icmp .ge 13, 3) := by decide +kernel
theorem dX12_body_9 : decode cX12_body 9 = .ok (.aload_n 0, 1) := by decide +kernel
theorem dX12_body_10 : decode cX12_body 10 = .ok (.getfield 181, 3) := by decide +kernel
theorem dX12_body_13 : decode cX12_body 13 = .ok (.aload_n 0, 1) := by decide +kernel
theorem dX12_body_14 : decode cX12_body 14 = .ok (.getfield 178, 3) := by decide +kernel
theorem dX12_body_17 : decode cX12_body 17 = .ok (.iload_n 1, 1) := by decide +kernel
theorem dX12_body_18 : decode cX12_body 18 = .ok (.iastore, 1) := by decide +kernel
theorem dX12_body_19 : decode cX12_body 19 = .ok (.aload_n 0, 1) := by decide +kernel
theorem dX12_body_20 : decode cX12_body 20 = .ok (.dup, 1) := by decide +kernel
theorem dX12_body_21 : decode cX12_body 21 = .ok (.getfield 178, 3) := by decide +kernel
theorem dX12_body_24 : decode cX12_body 24 = .ok (.iconst 1, 1) := by decide +kernel
theorem dX12_body_25 : decode cX12_body 25 = .ok (.iadd, 1) := by decide +kernel
theorem dX12_body_26 : decode cX12_body 26 = .ok (.putfield 178, 3) := by decide +kernel
theorem dX12_body_29 : decode cX12_body 29 = .ok (.return_, 1) := by decide +kernel
theorem dX12_senderTilts_0 : decode cX12_senderTilts 0 = .ok (.aload_n 0, 1) := by decide +kernel
theorem dX12_senderTilts_1 : decode cX12_senderTilts 1 = .ok (.bipush 10, 2) := by decide +kernel
theorem dX12_senderTilts_3 : decode cX12_senderTilts 3 = .ok (.invokevirtual 333, 3) := by decide +kernel
theorem dX12_senderTilts_6 : decode cX12_senderTilts 6 = .ok (.iload_n 2, 1) := by decide +kernel
theorem dX12_senderTilts_7 : decode cX12_senderTilts 7 = .ok (.iload_n 1, 1) := by decide +kernel
theorem dX12_senderTilts_8 : decode cX12_senderTilts 8 = .ok (.iadd, 1) := by decide +kernel
theorem dX12_senderTilts_9 : decode cX12_senderTilts 9 = .ok (.ireturn, 1) := by decide +kernel
theorem dX12_tiltsAct_0 : decode cX12_tiltsAct 0 = .ok (.aload_n 0, 1) := by decide +kernel
theorem dX12_tiltsAct_1 : decode cX12_tiltsAct 1 = .ok (.getfield 23, 3) := by decide +kernel
theorem dX12_tiltsAct_4 : decode cX12_tiltsAct 4 = .ok (.iload_n 1, 1) := by decide +kernel
theorem dX12_tiltsAct_5 : decode cX12_tiltsAct 5 = .ok (.iaload, 1) := by decide +kernel
theorem dX12_tiltsAct_6 : decode cX12_tiltsAct 6 = .ok (.tableswitch 83 2 6 #[34, 83, 49, 34, 63], 34) := by decide +kernel
theorem dX12_tiltsAct_40 : decode cX12_tiltsAct 40 = .ok (.aload_n 0, 1) := by decide +kernel
theorem dX12_tiltsAct_41 : decode cX12_tiltsAct 41 = .ok (.bipush 30, 2) := by decide +kernel
theorem dX12_tiltsAct_43 : decode cX12_tiltsAct 43 = .ok (.invokevirtual 333, 3) := by decide +kernel
theorem dX12_tiltsAct_46 : decode cX12_tiltsAct 46 = .ok (.aload_n 0, 1) := by decide +kernel
theorem dX12_tiltsAct_47 : decode cX12_tiltsAct 47 = .ok (.iload_n 1, 1) := by decide +kernel
theorem dX12_tiltsAct_48 : decode cX12_tiltsAct 48 = .ok (.iload_n 2, 1) := by decide +kernel
theorem dX12_tiltsAct_49 : decode cX12_tiltsAct 49 = .ok (.iconst 3, 1) := by decide +kernel
theorem dX12_tiltsAct_50 : decode cX12_tiltsAct 50 = .ok (.imul, 1) := by decide +kernel
theorem dX12_tiltsAct_51 : decode cX12_tiltsAct 51 = .ok (.invokevirtual 336, 3) := by decide +kernel
theorem dX12_tiltsAct_54 : decode cX12_tiltsAct 54 = .ok (.ireturn, 1) := by decide +kernel
theorem dX12_tiltsAct_55 : decode cX12_tiltsAct 55 = .ok (.aload_n 0, 1) := by decide +kernel
theorem dX12_tiltsAct_56 : decode cX12_tiltsAct 56 = .ok (.bipush 50, 2) := by decide +kernel
theorem dX12_tiltsAct_58 : decode cX12_tiltsAct 58 = .ok (.invokevirtual 333, 3) := by decide +kernel
theorem dX12_tiltsAct_61 : decode cX12_tiltsAct 61 = .ok (.aload_n 0, 1) := by decide +kernel
theorem dX12_tiltsAct_62 : decode cX12_tiltsAct 62 = .ok (.iload_n 1, 1) := by decide +kernel
theorem dX12_tiltsAct_63 : decode cX12_tiltsAct 63 = .ok (.iload_n 2, 1) := by decide +kernel
theorem dX12_tiltsAct_64 : decode cX12_tiltsAct 64 = .ok (.invokevirtual 336, 3) := by decide +kernel
theorem dX12_tiltsAct_67 : decode cX12_tiltsAct 67 = .ok (.ineg, 1) := by decide +kernel
theorem dX12_tiltsAct_68 : decode cX12_tiltsAct 68 = .ok (.ireturn, 1) := by decide +kernel
theorem dX12_tiltsAct_69 : decode cX12_tiltsAct 69 = .ok (.aload_n 0, 1) := by decide +kernel
theorem dX12_tiltsAct_70 : decode cX12_tiltsAct 70 = .ok (.bipush 71, 2) := by decide +kernel
theorem dX12_tiltsAct_72 : decode cX12_tiltsAct 72 = .ok (.invokevirtual 333, 3) := by decide +kernel
theorem dX12_tiltsAct_75 : decode cX12_tiltsAct 75 = .ok (.aload_n 0, 1) := by decide +kernel
theorem dX12_tiltsAct_76 : decode cX12_tiltsAct 76 = .ok (.iload_n 1, 1) := by decide +kernel
theorem dX12_tiltsAct_77 : decode cX12_tiltsAct 77 = .ok (.iload_n 2, 1) := by decide +kernel
theorem dX12_tiltsAct_78 : decode cX12_tiltsAct 78 = .ok (.invokevirtual 336, 3) := by decide +kernel
theorem dX12_tiltsAct_81 : decode cX12_tiltsAct 81 = .ok (.aload_n 0, 1) := by decide +kernel
theorem dX12_tiltsAct_82 : decode cX12_tiltsAct 82 = .ok (.getfield 26, 3) := by decide +kernel
theorem dX12_tiltsAct_85 : decode cX12_tiltsAct 85 = .ok (.iload_n 1, 1) := by decide +kernel
theorem dX12_tiltsAct_86 : decode cX12_tiltsAct 86 = .ok (.iaload, 1) := by decide +kernel
theorem dX12_tiltsAct_87 : decode cX12_tiltsAct 87 = .ok (.ixor, 1) := by decide +kernel
theorem dX12_tiltsAct_88 : decode cX12_tiltsAct 88 = .ok (.ireturn, 1) := by decide +kernel
theorem dX12_tiltsAct_89 : decode cX12_tiltsAct 89 = .ok (.aload_n 0, 1) := by decide +kernel
theorem dX12_tiltsAct_90 : decode cX12_tiltsAct 90 = .ok (.iload_n 1, 1) := by decide +kernel
theorem dX12_tiltsAct_91 : decode cX12_tiltsAct 91 = .ok (.iload_n 2, 1) := by decide +kernel
theorem dX12_tiltsAct_92 : decode cX12_tiltsAct 92 = .ok (.invokevirtual 336, 3) := by decide +kernel
theorem dX12_tiltsAct_95 : decode cX12_tiltsAct 95 = .ok (.ireturn, 1) := by decide +kernel
theorem dX12_senderSends_0 : decode cX12_senderSends 0 = .ok (.aload_n 0, 1) := by decide +kernel
theorem dX12_senderSends_1 : decode cX12_senderSends 1 = .ok (.bipush 11, 2) := by decide +kernel
theorem dX12_senderSends_3 : decode cX12_senderSends 3 = .ok (.invokevirtual 333, 3) := by decide +kernel
theorem dX12_senderSends_6 : decode cX12_senderSends 6 = .ok (.aload_n 0, 1) := by decide +kernel
theorem dX12_senderSends_7 : decode cX12_senderSends 7 = .ok (.iload_n 1, 1) := by decide +kernel
theorem dX12_senderSends_8 : decode cX12_senderSends 8 = .ok (.iload_n 2, 1) := by decide +kernel
theorem dX12_senderSends_9 : decode cX12_senderSends 9 = .ok (.invokevirtual 339, 3) := by decide +kernel
theorem dX12_senderSends_12 : decode cX12_senderSends 12 = .ok (.aload_n 0, 1) := by decide +kernel
theorem dX12_senderSends_13 : decode cX12_senderSends 13 = .ok (.getfield 26, 3) := by decide +kernel
theorem dX12_senderSends_16 : decode cX12_senderSends 16 = .ok (.iload_n 1, 1) := by decide +kernel
theorem dX12_senderSends_17 : decode cX12_senderSends 17 = .ok (.iaload, 1) := by decide +kernel
theorem dX12_senderSends_18 : decode cX12_senderSends 18 = .ok (.isub, 1) := by decide +kernel
theorem dX12_senderSends_19 : decode cX12_senderSends 19 = .ok (.ireturn, 1) := by decide +kernel
theorem dX12_tiltedSends_0 : decode cX12_tiltedSends 0 = .ok (.aload_n 0, 1) := by decide +kernel
theorem dX12_tiltedSends_1 : decode cX12_tiltedSends 1 = .ok (.bipush 20, 2) := by decide +kernel
theorem dX12_tiltedSends_3 : decode cX12_tiltedSends 3 = .ok (.invokevirtual 333, 3) := by decide +kernel
theorem dX12_tiltedSends_6 : decode cX12_tiltedSends 6 = .ok (.aload_n 0, 1) := by decide +kernel
theorem dX12_tiltedSends_7 : decode cX12_tiltedSends 7 = .ok (.iload_n 1, 1) := by decide +kernel
theorem dX12_tiltedSends_8 : decode cX12_tiltedSends 8 = .ok (.iload_n 2, 1) := by decide +kernel
theorem dX12_tiltedSends_9 : decode cX12_tiltedSends 9 = .ok (.invokevirtual 342, 3) := by decide +kernel
theorem dX12_tiltedSends_12 : decode cX12_tiltedSends 12 = .ok (.bipush 6, 2) := by decide +kernel
theorem dX12_tiltedSends_14 : decode cX12_tiltedSends 14 = .ok (.ixor, 1) := by decide +kernel
theorem dX12_tiltedSends_15 : decode cX12_tiltedSends 15 = .ok (.ireturn, 1) := by decide +kernel
theorem dX12_sendsAct_0 : decode cX12_sendsAct 0 = .ok (.aload_n 0, 1) := by decide +kernel
theorem dX12_sendsAct_1 : decode cX12_sendsAct 1 = .ok (.getfield 23, 3) := by decide +kernel
theorem dX12_sendsAct_4 : decode cX12_sendsAct 4 = .ok (.iload_n 1, 1) := by decide +kernel
theorem dX12_sendsAct_5 : decode cX12_sendsAct 5 = .ok (.iaload, 1) := by decide +kernel
theorem dX12_sendsAct_6 : decode cX12_sendsAct 6 = .ok (.lookupswitch 78 #[(1, 34), (4, 41), (6, 56)], 34) := by decide +kernel
theorem dX12_sendsAct_40 : decode cX12_sendsAct 40 = .ok (.aload_n 0, 1) := by decide +kernel
theorem dX12_sendsAct_41 : decode cX12_sendsAct 41 = .ok (.iload_n 1, 1) := by decide +kernel
theorem dX12_sendsAct_42 : decode cX12_sendsAct 42 = .ok (.iload_n 2, 1) := by decide +kernel
theorem dX12_sendsAct_43 : decode cX12_sendsAct 43 = .ok (.invokevirtual 345, 3) := by decide +kernel
theorem dX12_sendsAct_46 : decode cX12_sendsAct 46 = .ok (.ireturn, 1) := by decide +kernel
theorem dX12_sendsAct_47 : decode cX12_sendsAct 47 = .ok (.aload_n 0, 1) := by decide +kernel
theorem dX12_sendsAct_48 : decode cX12_sendsAct 48 = .ok (.bipush 51, 2) := by decide +kernel
theorem dX12_sendsAct_50 : decode cX12_sendsAct 50 = .ok (.invokevirtual 333, 3) := by decide +kernel
theorem dX12_sendsAct_53 : decode cX12_sendsAct 53 = .ok (.aload_n 0, 1) := by decide +kernel
theorem dX12_sendsAct_54 : decode cX12_sendsAct 54 = .ok (.iload_n 1, 1) := by decide +kernel
theorem dX12_sendsAct_55 : decode cX12_sendsAct 55 = .ok (.iload_n 2, 1) := by decide +kernel
theorem dX12_sendsAct_56 : decode cX12_sendsAct 56 = .ok (.iconst 1, 1) := by decide +kernel
theorem dX12_sendsAct_57 : decode cX12_sendsAct 57 = .ok (.iadd, 1) := by decide +kernel
theorem dX12_sendsAct_58 : decode cX12_sendsAct 58 = .ok (.invokevirtual 345, 3) := by decide +kernel
theorem dX12_sendsAct_61 : decode cX12_sendsAct 61 = .ok (.ireturn, 1) := by decide +kernel
theorem dX12_sendsAct_62 : decode cX12_sendsAct 62 = .ok (.aload_n 0, 1) := by decide +kernel
theorem dX12_sendsAct_63 : decode cX12_sendsAct 63 = .ok (.bipush 70, 2) := by decide +kernel
theorem dX12_sendsAct_65 : decode cX12_sendsAct 65 = .ok (.invokevirtual 333, 3) := by decide +kernel
theorem dX12_sendsAct_68 : decode cX12_sendsAct 68 = .ok (.aload_n 0, 1) := by decide +kernel
theorem dX12_sendsAct_69 : decode cX12_sendsAct 69 = .ok (.iload_n 1, 1) := by decide +kernel
theorem dX12_sendsAct_70 : decode cX12_sendsAct 70 = .ok (.iload_n 2, 1) := by decide +kernel
theorem dX12_sendsAct_71 : decode cX12_sendsAct 71 = .ok (.invokevirtual 342, 3) := by decide +kernel
theorem dX12_sendsAct_74 : decode cX12_sendsAct 74 = .ok (.istore_n 3, 1) := by decide +kernel
theorem dX12_sendsAct_75 : decode cX12_sendsAct 75 = .ok (.iload_n 3, 1) := by decide +kernel
theorem dX12_sendsAct_76 : decode cX12_sendsAct 76 = .ok (.aload_n 0, 1) := by decide +kernel
theorem dX12_sendsAct_77 : decode cX12_sendsAct 77 = .ok (.iload_n 1, 1) := by decide +kernel
theorem dX12_sendsAct_78 : decode cX12_sendsAct 78 = .ok (.iconst 2, 1) := by decide +kernel
theorem dX12_sendsAct_79 : decode cX12_sendsAct 79 = .ok (.invokevirtual 336, 3) := by decide +kernel
theorem dX12_sendsAct_82 : decode cX12_sendsAct 82 = .ok (.iadd, 1) := by decide +kernel
theorem dX12_sendsAct_83 : decode cX12_sendsAct 83 = .ok (.ireturn, 1) := by decide +kernel
theorem dX12_sendsAct_84 : decode cX12_sendsAct 84 = .ok (.aload_n 0, 1) := by decide +kernel
theorem dX12_sendsAct_85 : decode cX12_sendsAct 85 = .ok (.iload_n 1, 1) := by decide +kernel
theorem dX12_sendsAct_86 : decode cX12_sendsAct 86 = .ok (.iload_n 2, 1) := by decide +kernel
theorem dX12_sendsAct_87 : decode cX12_sendsAct 87 = .ok (.invokevirtual 342, 3) := by decide +kernel
theorem dX12_sendsAct_90 : decode cX12_sendsAct 90 = .ok (.ireturn, 1) := by decide +kernel
theorem dX12_senderTells_0 : decode cX12_senderTells 0 = .ok (.aload_n 0, 1) := by decide +kernel
theorem dX12_senderTells_1 : decode cX12_senderTells 1 = .ok (.bipush 12, 2) := by decide +kernel
theorem dX12_senderTells_3 : decode cX12_senderTells 3 = .ok (.invokevirtual 333, 3) := by decide +kernel
theorem dX12_senderTells_6 : decode cX12_senderTells 6 = .ok (.aload_n 0, 1) := by decide +kernel
theorem dX12_senderTells_7 : decode cX12_senderTells 7 = .ok (.iload_n 1, 1) := by decide +kernel
theorem dX12_senderTells_8 : decode cX12_senderTells 8 = .ok (.iload_n 2, 1) := by decide +kernel
theorem dX12_senderTells_9 : decode cX12_senderTells 9 = .ok (.invokevirtual 348, 3) := by decide +kernel
theorem dX12_senderTells_12 : decode cX12_senderTells 12 = .ok (.iconst 2, 1) := by decide +kernel
theorem dX12_senderTells_13 : decode cX12_senderTells 13 = .ok (.imul, 1) := by decide +kernel
theorem dX12_senderTells_14 : decode cX12_senderTells 14 = .ok (.ireturn, 1) := by decide +kernel
theorem dX12_tellsAct_0 : decode cX12_tellsAct 0 = .ok (.aload_n 0, 1) := by decide +kernel
theorem dX12_tellsAct_1 : decode cX12_tellsAct 1 = .ok (.getfield 23, 3) := by decide +kernel
theorem dX12_tellsAct_4 : decode cX12_tellsAct 4 = .ok (.iload_n 1, 1) := by decide +kernel
theorem dX12_tellsAct_5 : decode cX12_tellsAct 5 = .ok (.iaload, 1) := by decide +kernel
theorem dX12_tellsAct_6 : decode cX12_tellsAct 6 = .ok (.tableswitch 67 3 6 #[30, 67, 52, 30], 30) := by decide +kernel
theorem dX12_tellsAct_36 : decode cX12_tellsAct 36 = .ok (.aload_n 0, 1) := by decide +kernel
theorem dX12_tellsAct_37 : decode cX12_tellsAct 37 = .ok (.bipush 40, 2) := by decide +kernel
theorem dX12_tellsAct_39 : decode cX12_tellsAct 39 = .ok (.invokevirtual 333, 3) := by decide +kernel
theorem dX12_tellsAct_42 : decode cX12_tellsAct 42 = .ok (.aload_n 0, 1) := by decide +kernel
theorem dX12_tellsAct_43 : decode cX12_tellsAct 43 = .ok (.iload_n 1, 1) := by decide +kernel
theorem dX12_tellsAct_44 : decode cX12_tellsAct 44 = .ok (.iload_n 2, 1) := by decide +kernel
theorem dX12_tellsAct_45 : decode cX12_tellsAct 45 = .ok (.invokevirtual 351, 3) := by decide +kernel
theorem dX12_tellsAct_48 : decode cX12_tellsAct 48 = .ok (.istore_n 3, 1) := by decide +kernel
theorem dX12_tellsAct_49 : decode cX12_tellsAct 49 = .ok (.iload_n 3, 1) := by decide +kernel
theorem dX12_tellsAct_50 : decode cX12_tellsAct 50 = .ok (.aload_n 0, 1) := by decide +kernel
theorem dX12_tellsAct_51 : decode cX12_tellsAct 51 = .ok (.iload_n 1, 1) := by decide +kernel
theorem dX12_tellsAct_52 : decode cX12_tellsAct 52 = .ok (.iconst 1, 1) := by decide +kernel
theorem dX12_tellsAct_53 : decode cX12_tellsAct 53 = .ok (.invokevirtual 348, 3) := by decide +kernel
theorem dX12_tellsAct_56 : decode cX12_tellsAct 56 = .ok (.iadd, 1) := by decide +kernel
theorem dX12_tellsAct_57 : decode cX12_tellsAct 57 = .ok (.ireturn, 1) := by decide +kernel
theorem dX12_tellsAct_58 : decode cX12_tellsAct 58 = .ok (.aload_n 0, 1) := by decide +kernel
theorem dX12_tellsAct_59 : decode cX12_tellsAct 59 = .ok (.bipush 60, 2) := by decide +kernel
theorem dX12_tellsAct_61 : decode cX12_tellsAct 61 = .ok (.invokevirtual 333, 3) := by decide +kernel
theorem dX12_tellsAct_64 : decode cX12_tellsAct 64 = .ok (.aload_n 0, 1) := by decide +kernel
theorem dX12_tellsAct_65 : decode cX12_tellsAct 65 = .ok (.iload_n 1, 1) := by decide +kernel
theorem dX12_tellsAct_66 : decode cX12_tellsAct 66 = .ok (.iload_n 2, 1) := by decide +kernel
theorem dX12_tellsAct_67 : decode cX12_tellsAct 67 = .ok (.iload_n 1, 1) := by decide +kernel
theorem dX12_tellsAct_68 : decode cX12_tellsAct 68 = .ok (.isub, 1) := by decide +kernel
theorem dX12_tellsAct_69 : decode cX12_tellsAct 69 = .ok (.invokevirtual 351, 3) := by decide +kernel
theorem dX12_tellsAct_72 : decode cX12_tellsAct 72 = .ok (.ireturn, 1) := by decide +kernel
theorem dX12_tellsAct_73 : decode cX12_tellsAct 73 = .ok (.aload_n 0, 1) := by decide +kernel
theorem dX12_tellsAct_74 : decode cX12_tellsAct 74 = .ok (.iload_n 1, 1) := by decide +kernel
theorem dX12_tellsAct_75 : decode cX12_tellsAct 75 = .ok (.iload_n 2, 1) := by decide +kernel
theorem dX12_tellsAct_76 : decode cX12_tellsAct 76 = .ok (.invokevirtual 351, 3) := by decide +kernel
theorem dX12_tellsAct_79 : decode cX12_tellsAct 79 = .ok (.ireturn, 1) := by decide +kernel
theorem dX12_act_0 : decode cX12_act 0 = .ok (.aload_n 0, 1) := by decide +kernel
theorem dX12_act_1 : decode cX12_act 1 = .ok (.iconst 0, 1) := by decide +kernel
theorem dX12_act_2 : decode cX12_act 2 = .ok (.putfield 178, 3) := by decide +kernel
theorem dX12_act_5 : decode cX12_act 5 = .ok (.aload_n 0, 1) := by decide +kernel
theorem dX12_act_6 : decode cX12_act 6 = .ok (.iload_n 1, 1) := by decide +kernel
theorem dX12_act_7 : decode cX12_act 7 = .ok (.invokevirtual 212, 3) := by decide +kernel
theorem dX12_act_10 : decode cX12_act 10 = .ok (.ifCond .eq 13, 3) := by decide +kernel
theorem dX12_act_13 : decode cX12_act 13 = .ok (.aload_n 0, 1) := by decide +kernel
theorem dX12_act_14 : decode cX12_act 14 = .ok (.iload_n 2, 1) := by decide +kernel
theorem dX12_act_15 : decode cX12_act 15 = .ok (.iconst 0, 1) := by decide +kernel
theorem dX12_act_16 : decode cX12_act 16 = .ok (.iconst 2, 1) := by decide +kernel
theorem dX12_act_17 : decode cX12_act 17 = .ok (.invokevirtual 201, 3) := by decide +kernel
theorem dX12_act_20 : decode cX12_act 20 = .ok (.ifCond .ne 5, 3) := by decide +kernel
theorem dX12_act_23 : decode cX12_act 23 = .ok (.iconst 0, 1) := by decide +kernel
theorem dX12_act_24 : decode cX12_act 24 = .ok (.ireturn, 1) := by decide +kernel
theorem dX12_act_25 : decode cX12_act 25 = .ok (.iload_n 2, 1) := by decide +kernel
theorem dX12_act_26 : decode cX12_act 26 = .ok (.ifCond .ne 12, 3) := by decide +kernel
theorem dX12_act_29 : decode cX12_act 29 = .ok (.aload_n 0, 1) := by decide +kernel
theorem dX12_act_30 : decode cX12_act 30 = .ok (.iload_n 1, 1) := by decide +kernel
theorem dX12_act_31 : decode cX12_act 31 = .ok (.iload_n 3, 1) := by decide +kernel
theorem dX12_act_32 : decode cX12_act 32 = .ok (.invokevirtual 339, 3) := by decide +kernel
theorem dX12_act_35 : decode cX12_act 35 = .ok (.goto 23, 3) := by decide +kernel
theorem dX12_act_38 : decode cX12_act 38 = .ok (.iload_n 2, 1) := by decide +kernel
theorem dX12_act_39 : decode cX12_act 39 = .ok (.iconst 1, 1) := by decide +kernel
theorem dX12_act_40 : decode cX12_act 40 = .ok (.if_icmp .ne 12, 3) := by decide +kernel
theorem dX12_act_43 : decode cX12_act 43 = .ok (.aload_n 0, 1) := by decide +kernel
theorem dX12_act_44 : decode cX12_act 44 = .ok (.iload_n 1, 1) := by decide +kernel
theorem dX12_act_45 : decode cX12_act 45 = .ok (.iload_n 3, 1) := by decide +kernel
theorem dX12_act_46 : decode cX12_act 46 = .ok (.invokevirtual 348, 3) := by decide +kernel
theorem dX12_act_49 : decode cX12_act 49 = .ok (.goto 9, 3) := by decide +kernel
theorem dX12_act_52 : decode cX12_act 52 = .ok (.aload_n 0, 1) := by decide +kernel
theorem dX12_act_53 : decode cX12_act 53 = .ok (.iload_n 1, 1) := by decide +kernel
theorem dX12_act_54 : decode cX12_act 54 = .ok (.iload_n 3, 1) := by decide +kernel
theorem dX12_act_55 : decode cX12_act 55 = .ok (.invokevirtual 354, 3) := by decide +kernel
theorem dX12_act_58 : decode cX12_act 58 = .ok (.ireturn, 1) := by decide +kernel
theorem dX12_trace_0 : decode cX12_trace 0 = .ok (.aload_n 0, 1) := by decide +kernel
theorem dX12_trace_1 : decode cX12_trace 1 = .ok (.iload_n 1, 1) := by decide +kernel
theorem dX12_trace_2 : decode cX12_trace 2 = .ok (.iconst 0, 1) := by decide +kernel
theorem dX12_trace_3 : decode cX12_trace 3 = .ok (.bipush 19, 2) := by decide +kernel
theorem dX12_trace_5 : decode cX12_trace 5 = .ok (.invokevirtual 201, 3) := by decide +kernel
theorem dX12_trace_8 : decode cX12_trace 8 = .ok (.ifCond .eq 20, 3) := by decide +kernel
theorem dX12_trace_11 : decode cX12_trace 11 = .ok (.iload_n 1, 1) := by decide +kernel
theorem dX12_trace_12 : decode cX12_trace 12 = .ok (.aload_n 0, 1) := by decide +kernel
theorem dX12_trace_13 : decode cX12_trace 13 = .ok (.getfield 178, 3) := by decide +kernel
theorem dX12_trace_16 : decode cX12_trace 16 = .ok (.if_icmp .ge 12, 3) := by decide +kernel
theorem dX12_trace_19 : decode cX12_trace 19 = .ok (.aload_n 0, 1) := by decide +kernel
theorem dX12_trace_20 : decode cX12_trace 20 = .ok (.getfield 181, 3) := by decide +kernel
theorem dX12_trace_23 : decode cX12_trace 23 = .ok (.iload_n 1, 1) := by decide +kernel
theorem dX12_trace_24 : decode cX12_trace 24 = .ok (.iaload, 1) := by decide +kernel
theorem dX12_trace_25 : decode cX12_trace 25 = .ok (.goto 4, 3) := by decide +kernel
theorem dX12_trace_28 : decode cX12_trace 28 = .ok (.iconst (-1), 1) := by decide +kernel
theorem dX12_trace_29 : decode cX12_trace 29 = .ok (.ireturn, 1) := by decide +kernel
theorem dX12_taken_0 : decode cX12_taken 0 = .ok (.aload_n 0, 1) := by decide +kernel
theorem dX12_taken_1 : decode cX12_taken 1 = .ok (.iload_n 2, 1) := by decide +kernel
theorem dX12_taken_2 : decode cX12_taken 2 = .ok (.iconst 0, 1) := by decide +kernel
theorem dX12_taken_3 : decode cX12_taken 3 = .ok (.bipush 6, 2) := by decide +kernel
theorem dX12_taken_5 : decode cX12_taken 5 = .ok (.invokevirtual 201, 3) := by decide +kernel
theorem dX12_taken_8 : decode cX12_taken 8 = .ok (.ifCond .ne 6, 3) := by decide +kernel
theorem dX12_taken_11 : decode cX12_taken 11 = .ok (.bipush (-2), 2) := by decide +kernel
theorem dX12_taken_13 : decode cX12_taken 13 = .ok (.ireturn, 1) := by decide +kernel
theorem dX12_taken_14 : decode cX12_taken 14 = .ok (.aload_n 0, 1) := by decide +kernel
theorem dX12_taken_15 : decode cX12_taken 15 = .ok (.iload_n 1, 1) := by decide +kernel
theorem dX12_taken_16 : decode cX12_taken 16 = .ok (.invokevirtual 212, 3) := by decide +kernel
theorem dX12_taken_19 : decode cX12_taken 19 = .ok (.ifCond .ne 6, 3) := by decide +kernel
theorem dX12_taken_22 : decode cX12_taken 22 = .ok (.bipush (-11), 2) := by decide +kernel
theorem dX12_taken_24 : decode cX12_taken 24 = .ok (.ireturn, 1) := by decide +kernel
theorem dX12_taken_25 : decode cX12_taken 25 = .ok (.aload_n 0, 1) := by decide +kernel
theorem dX12_taken_26 : decode cX12_taken 26 = .ok (.getfield 23, 3) := by decide +kernel
theorem dX12_taken_29 : decode cX12_taken 29 = .ok (.iload_n 1, 1) := by decide +kernel
theorem dX12_taken_30 : decode cX12_taken 30 = .ok (.iaload, 1) := by decide +kernel
theorem dX12_taken_31 : decode cX12_taken 31 = .ok (.istore_n 3, 1) := by decide +kernel
theorem dX12_taken_32 : decode cX12_taken 32 = .ok (.iload_n 2, 1) := by decide +kernel
theorem dX12_taken_33 : decode cX12_taken 33 = .ok (.ifCond .eq 39, 3) := by decide +kernel
theorem dX12_taken_36 : decode cX12_taken 36 = .ok (.iload_n 3, 1) := by decide +kernel
theorem dX12_taken_37 : decode cX12_taken 37 = .ok (.iload_n 2, 1) := by decide +kernel
theorem dX12_taken_38 : decode cX12_taken 38 = .ok (.if_icmp .eq 34, 3) := by decide +kernel
theorem dX12_taken_41 : decode cX12_taken 41 = .ok (.iload_n 2, 1) := by decide +kernel
theorem dX12_taken_42 : decode cX12_taken 42 = .ok (.iconst 1, 1) := by decide +kernel
theorem dX12_taken_43 : decode cX12_taken 43 = .ok (.if_icmp .ne 8, 3) := by decide +kernel
theorem dX12_taken_46 : decode cX12_taken 46 = .ok (.iload_n 3, 1) := by decide +kernel
theorem dX12_taken_47 : decode cX12_taken 47 = .ok (.iconst 4, 1) := by decide +kernel
theorem dX12_taken_48 : decode cX12_taken 48 = .ok (.if_icmp .eq 24, 3) := by decide +kernel
theorem dX12_taken_51 : decode cX12_taken 51 = .ok (.iload_n 2, 1) := by decide +kernel
theorem dX12_taken_52 : decode cX12_taken 52 = .ok (.iconst 2, 1) := by decide +kernel
theorem dX12_taken_53 : decode cX12_taken 53 = .ok (.if_icmp .ne 8, 3) := by decide +kernel
theorem dX12_taken_56 : decode cX12_taken 56 = .ok (.iload_n 3, 1) := by decide +kernel
theorem dX12_taken_57 : decode cX12_taken 57 = .ok (.iconst 5, 1) := by decide +kernel
theorem dX12_taken_58 : decode cX12_taken 58 = .ok (.if_icmp .eq 14, 3) := by decide +kernel
theorem dX12_taken_61 : decode cX12_taken 61 = .ok (.iload_n 2, 1) := by decide +kernel
theorem dX12_taken_62 : decode cX12_taken 62 = .ok (.iconst 3, 1) := by decide +kernel
theorem dX12_taken_63 : decode cX12_taken 63 = .ok (.if_icmp .ne 13, 3) := by decide +kernel
theorem dX12_taken_66 : decode cX12_taken 66 = .ok (.iload_n 3, 1) := by decide +kernel
theorem dX12_taken_67 : decode cX12_taken 67 = .ok (.bipush 6, 2) := by decide +kernel
theorem dX12_taken_69 : decode cX12_taken 69 = .ok (.if_icmp .ne 7, 3) := by decide +kernel
theorem dX12_taken_72 : decode cX12_taken 72 = .ok (.iload_n 3, 1) := by decide +kernel
theorem dX12_taken_73 : decode cX12_taken 73 = .ok (.goto 5, 3) := by decide +kernel
theorem dX12_taken_76 : decode cX12_taken 76 = .ok (.bipush (-12), 2) := by decide +kernel
theorem dX12_taken_78 : decode cX12_taken 78 = .ok (.ireturn, 1) := by decide +kernel
theorem dX12_count_0 : decode cX12_count 0 = .ok (.iload_n 1, 1) := by decide +kernel
theorem dX12_count_1 : decode cX12_count 1 = .ok (.tableswitch 87 0 7 #[47, 52, 57, 62, 67, 72, 77, 82], 47) := by decide +kernel
theorem dX12_count_48 : decode cX12_count 48 = .ok (.aload_n 0, 1) := by decide +kernel
theorem dX12_count_49 : decode cX12_count 49 = .ok (.getfield 13, 3) := by decide +kernel
theorem dX12_count_52 : decode cX12_count 52 = .ok (.ireturn, 1) := by decide +kernel
theorem dX12_count_53 : decode cX12_count 53 = .ok (.aload_n 0, 1) := by decide +kernel
theorem dX12_count_54 : decode cX12_count 54 = .ok (.getfield 7, 3) := by decide +kernel
theorem dX12_count_57 : decode cX12_count 57 = .ok (.ireturn, 1) := by decide +kernel
theorem dX12_count_58 : decode cX12_count 58 = .ok (.aload_n 0, 1) := by decide +kernel
theorem dX12_count_59 : decode cX12_count 59 = .ok (.getfield 35, 3) := by decide +kernel
theorem dX12_count_62 : decode cX12_count 62 = .ok (.ireturn, 1) := by decide +kernel
theorem dX12_count_63 : decode cX12_count 63 = .ok (.aload_n 0, 1) := by decide +kernel
theorem dX12_count_64 : decode cX12_count 64 = .ok (.getfield 99, 3) := by decide +kernel
theorem dX12_count_67 : decode cX12_count 67 = .ok (.ireturn, 1) := by decide +kernel
theorem dX12_count_68 : decode cX12_count 68 = .ok (.aload_n 0, 1) := by decide +kernel
theorem dX12_count_69 : decode cX12_count 69 = .ok (.getfield 108, 3) := by decide +kernel
theorem dX12_count_72 : decode cX12_count 72 = .ok (.ireturn, 1) := by decide +kernel
theorem dX12_count_73 : decode cX12_count 73 = .ok (.aload_n 0, 1) := by decide +kernel
theorem dX12_count_74 : decode cX12_count 74 = .ok (.getfield 111, 3) := by decide +kernel
theorem dX12_count_77 : decode cX12_count 77 = .ok (.ireturn, 1) := by decide +kernel
theorem dX12_count_78 : decode cX12_count 78 = .ok (.aload_n 0, 1) := by decide +kernel
theorem dX12_count_79 : decode cX12_count 79 = .ok (.getfield 41, 3) := by decide +kernel
theorem dX12_count_82 : decode cX12_count 82 = .ok (.ireturn, 1) := by decide +kernel
theorem dX12_count_83 : decode cX12_count 83 = .ok (.aload_n 0, 1) := by decide +kernel
theorem dX12_count_84 : decode cX12_count 84 = .ok (.getfield 178, 3) := by decide +kernel
theorem dX12_count_87 : decode cX12_count 87 = .ok (.ireturn, 1) := by decide +kernel
theorem dX12_count_88 : decode cX12_count 88 = .ok (.bipush (-2), 2) := by decide +kernel
theorem dX12_count_90 : decode cX12_count 90 = .ok (.ireturn, 1) := by decide +kernel
theorem dX12_isTape_0 : decode cX12_isTape 0 = .ok (.aload_n 0, 1) := by decide +kernel
theorem dX12_isTape_1 : decode cX12_isTape 1 = .ok (.iload_n 1, 1) := by decide +kernel
theorem dX12_isTape_2 : decode cX12_isTape 2 = .ok (.iconst 0, 1) := by decide +kernel
theorem dX12_isTape_3 : decode cX12_isTape 3 = .ok (.iconst 5, 1) := by decide +kernel
theorem dX12_isTape_4 : decode cX12_isTape 4 = .ok (.invokevirtual 201, 3) := by decide +kernel
theorem dX12_isTape_7 : decode cX12_isTape 7 = .ok (.ireturn, 1) := by decide +kernel
theorem dX12_tape_0 : decode cX12_tape 0 = .ok (.aload_n 0, 1) := by decide +kernel
theorem dX12_tape_1 : decode cX12_tape 1 = .ok (.iload_n 1, 1) := by decide +kernel
theorem dX12_tape_2 : decode cX12_tape 2 = .ok (.invokevirtual 330, 3) := by decide +kernel
theorem dX12_tape_5 : decode cX12_tape 5 = .ok (.ifCond .ne 5, 3) := by decide +kernel
theorem dX12_tape_8 : decode cX12_tape 8 = .ok (.iconst (-1), 1) := by decide +kernel
theorem dX12_tape_9 : decode cX12_tape 9 = .ok (.ireturn, 1) := by decide +kernel
theorem dX12_tape_10 : decode cX12_tape 10 = .ok (.aload_n 0, 1) := by decide +kernel
theorem dX12_tape_11 : decode cX12_tape 11 = .ok (.iload_n 2, 1) := by decide +kernel
theorem dX12_tape_12 : decode cX12_tape 12 = .ok (.iconst (-1), 1) := by decide +kernel
theorem dX12_tape_13 : decode cX12_tape 13 = .ok (.iconst 4, 1) := by decide +kernel
theorem dX12_tape_14 : decode cX12_tape 14 = .ok (.invokevirtual 201, 3) := by decide +kernel
theorem dX12_tape_17 : decode cX12_tape 17 = .ok (.ifCond .eq 13, 3) := by decide +kernel
theorem dX12_tape_20 : decode cX12_tape 20 = .ok (.iload_n 2, 1) := by decide +kernel
theorem dX12_tape_21 : decode cX12_tape 21 = .ok (.ifCond .lt 12, 3) := by decide +kernel
theorem dX12_tape_24 : decode cX12_tape 24 = .ok (.iload_n 3, 1) := by decide +kernel
theorem dX12_tape_25 : decode cX12_tape 25 = .ok (.bipush 60, 2) := by decide +kernel
theorem dX12_tape_27 : decode cX12_tape 27 = .ok (.if_icmp .le 6, 3) := by decide +kernel
end
section
theorem dX12_tape_30 : decode cX12_tape 30 = .ok (.bipush (-2), 2) := by decide +kernel
theorem dX12_tape_32 : decode cX12_tape 32 = .ok (.ireturn, 1) := by decide +kernel
theorem dX12_tape_33 : decode cX12_tape 33 = .ok (.iload_n 2, 1) := by decide +kernel
theorem dX12_tape_34 : decode cX12_tape 34 = .ok (.ifCond .lt 10, 3) := by decide +kernel
theorem dX12_tape_37 : decode cX12_tape 37 = .ok (.iload_n 3, 1) := by decide +kernel
theorem dX12_tape_38 : decode cX12_tape 38 = .ok (.ifCond .ge 6, 3) := by decide +kernel
theorem dX12_tape_41 : decode cX12_tape 41 = .ok (.bipush (-14), 2) := by decide +kernel
theorem dX12_tape_43 : decode cX12_tape 43 = .ok (.ireturn, 1) := by decide +kernel
theorem dX12_tape_44 : decode cX12_tape 44 = .ok (.aload_n 0, 1) := by decide +kernel
theorem dX12_tape_45 : decode cX12_tape 45 = .ok (.getfield 184, 3) := by decide +kernel
theorem dX12_tape_48 : decode cX12_tape 48 = .ok (.iload_n 1, 1) := by decide +kernel
theorem dX12_tape_49 : decode cX12_tape 49 = .ok (.iload_n 2, 1) := by decide +kernel
theorem dX12_tape_50 : decode cX12_tape 50 = .ok (.iastore, 1) := by decide +kernel
theorem dX12_tape_51 : decode cX12_tape 51 = .ok (.aload_n 0, 1) := by decide +kernel
theorem dX12_tape_52 : decode cX12_tape 52 = .ok (.getfield 187, 3) := by decide +kernel
theorem dX12_tape_55 : decode cX12_tape 55 = .ok (.iload_n 1, 1) := by decide +kernel
theorem dX12_tape_56 : decode cX12_tape 56 = .ok (.iload_n 2, 1) := by decide +kernel
theorem dX12_tape_57 : decode cX12_tape 57 = .ok (.ifCond .ge 7, 3) := by decide +kernel
theorem dX12_tape_60 : decode cX12_tape 60 = .ok (.iconst 0, 1) := by decide +kernel
theorem dX12_tape_61 : decode cX12_tape 61 = .ok (.goto 4, 3) := by decide +kernel
theorem dX12_tape_64 : decode cX12_tape 64 = .ok (.iload_n 3, 1) := by decide +kernel
theorem dX12_tape_65 : decode cX12_tape 65 = .ok (.iastore, 1) := by decide +kernel
theorem dX12_tape_66 : decode cX12_tape 66 = .ok (.iconst 0, 1) := by decide +kernel
theorem dX12_tape_67 : decode cX12_tape 67 = .ok (.istore 4, 2) := by decide +kernel
theorem dX12_tape_69 : decode cX12_tape 69 = .ok (.iload 4, 2) := by decide +kernel
theorem dX12_tape_71 : decode cX12_tape 71 = .ok (.bipush 60, 2) := by decide +kernel
theorem dX12_tape_73 : decode cX12_tape 73 = .ok (.if_icmp .ge 22, 3) := by decide +kernel
theorem dX12_tape_76 : decode cX12_tape 76 = .ok (.aload_n 0, 1) := by decide +kernel
theorem dX12_tape_77 : decode cX12_tape 77 = .ok (.getfield 190, 3) := by decide +kernel
theorem dX12_tape_80 : decode cX12_tape 80 = .ok (.bipush 60, 2) := by decide +kernel
theorem dX12_tape_82 : decode cX12_tape 82 = .ok (.iload_n 1, 1) := by decide +kernel
theorem dX12_tape_83 : decode cX12_tape 83 = .ok (.imul, 1) := by decide +kernel
theorem dX12_tape_84 : decode cX12_tape 84 = .ok (.iload 4, 2) := by decide +kernel
theorem dX12_tape_86 : decode cX12_tape 86 = .ok (.iadd, 1) := by decide +kernel
theorem dX12_tape_87 : decode cX12_tape 87 = .ok (.lconst 0, 1) := by decide +kernel
theorem dX12_tape_88 : decode cX12_tape 88 = .ok (.lastore, 1) := by decide +kernel
theorem dX12_tape_89 : decode cX12_tape 89 = .ok (.iinc 4 1, 3) := by decide +kernel
theorem dX12_tape_92 : decode cX12_tape 92 = .ok (.goto (-23), 3) := by decide +kernel
theorem dX12_tape_95 : decode cX12_tape 95 = .ok (.iconst 1, 1) := by decide +kernel
theorem dX12_tape_96 : decode cX12_tape 96 = .ok (.ireturn, 1) := by decide +kernel
theorem dX12_narrow_0 : decode cX12_narrow 0 = .ok (.iload_n 1, 1) := by decide +kernel
theorem dX12_narrow_1 : decode cX12_narrow 1 = .ok (.ifCond .ne 10, 3) := by decide +kernel
theorem dX12_narrow_4 : decode cX12_narrow 4 = .ok (.lload_n 2, 1) := by decide +kernel
theorem dX12_narrow_5 : decode cX12_narrow 5 = .ok (.l2i, 1) := by decide +kernel
theorem dX12_narrow_6 : decode cX12_narrow 6 = .ok (.i2b, 1) := by decide +kernel
theorem dX12_narrow_7 : decode cX12_narrow 7 = .ok (.i2l, 1) := by decide +kernel
theorem dX12_narrow_8 : decode cX12_narrow 8 = .ok (.goto 46, 3) := by decide +kernel
theorem dX12_narrow_11 : decode cX12_narrow 11 = .ok (.iload_n 1, 1) := by decide +kernel
theorem dX12_narrow_12 : decode cX12_narrow 12 = .ok (.iconst 1, 1) := by decide +kernel
theorem dX12_narrow_13 : decode cX12_narrow 13 = .ok (.if_icmp .ne 10, 3) := by decide +kernel
theorem dX12_narrow_16 : decode cX12_narrow 16 = .ok (.lload_n 2, 1) := by decide +kernel
theorem dX12_narrow_17 : decode cX12_narrow 17 = .ok (.l2i, 1) := by decide +kernel
theorem dX12_narrow_18 : decode cX12_narrow 18 = .ok (.i2s, 1) := by decide +kernel
theorem dX12_narrow_19 : decode cX12_narrow 19 = .ok (.i2l, 1) := by decide +kernel
theorem dX12_narrow_20 : decode cX12_narrow 20 = .ok (.goto 34, 3) := by decide +kernel
theorem dX12_narrow_23 : decode cX12_narrow 23 = .ok (.iload_n 1, 1) := by decide +kernel
theorem dX12_narrow_24 : decode cX12_narrow 24 = .ok (.iconst 2, 1) := by decide +kernel
theorem dX12_narrow_25 : decode cX12_narrow 25 = .ok (.if_icmp .ne 9, 3) := by decide +kernel
theorem dX12_narrow_28 : decode cX12_narrow 28 = .ok (.lload_n 2, 1) := by decide +kernel
theorem dX12_narrow_29 : decode cX12_narrow 29 = .ok (.l2i, 1) := by decide +kernel
theorem dX12_narrow_30 : decode cX12_narrow 30 = .ok (.i2l, 1) := by decide +kernel
theorem dX12_narrow_31 : decode cX12_narrow 31 = .ok (.goto 23, 3) := by decide +kernel
theorem dX12_narrow_34 : decode cX12_narrow 34 = .ok (.iload_n 1, 1) := by decide +kernel
theorem dX12_narrow_35 : decode cX12_narrow 35 = .ok (.iconst 4, 1) := by decide +kernel
theorem dX12_narrow_36 : decode cX12_narrow 36 = .ok (.if_icmp .ne 17, 3) := by decide +kernel
theorem dX12_narrow_39 : decode cX12_narrow 39 = .ok (.lload_n 2, 1) := by decide +kernel
theorem dX12_narrow_40 : decode cX12_narrow 40 = .ok (.lconst 0, 1) := by decide +kernel
theorem dX12_narrow_41 : decode cX12_narrow 41 = .ok (.lcmp, 1) := by decide +kernel
theorem dX12_narrow_42 : decode cX12_narrow 42 = .ok (.ifCond .eq 7, 3) := by decide +kernel
theorem dX12_narrow_45 : decode cX12_narrow 45 = .ok (.lconst 1, 1) := by decide +kernel
theorem dX12_narrow_46 : decode cX12_narrow 46 = .ok (.goto 8, 3) := by decide +kernel
theorem dX12_narrow_49 : decode cX12_narrow 49 = .ok (.lconst 0, 1) := by decide +kernel
theorem dX12_narrow_50 : decode cX12_narrow 50 = .ok (.goto 4, 3) := by decide +kernel
theorem dX12_narrow_53 : decode cX12_narrow 53 = .ok (.lload_n 2, 1) := by decide +kernel
theorem dX12_narrow_54 : decode cX12_narrow 54 = .ok (.lreturn, 1) := by decide +kernel
theorem dX12_item_0 : decode cX12_item 0 = .ok (.aload_n 0, 1) := by decide +kernel
theorem dX12_item_1 : decode cX12_item 1 = .ok (.iload_n 1, 1) := by decide +kernel
theorem dX12_item_2 : decode cX12_item 2 = .ok (.invokevirtual 330, 3) := by decide +kernel
theorem dX12_item_5 : decode cX12_item 5 = .ok (.ifCond .ne 5, 3) := by decide +kernel
theorem dX12_item_8 : decode cX12_item 8 = .ok (.iconst (-1), 1) := by decide +kernel
theorem dX12_item_9 : decode cX12_item 9 = .ok (.ireturn, 1) := by decide +kernel
theorem dX12_item_10 : decode cX12_item 10 = .ok (.aload_n 0, 1) := by decide +kernel
theorem dX12_item_11 : decode cX12_item 11 = .ok (.getfield 184, 3) := by decide +kernel
theorem dX12_item_14 : decode cX12_item 14 = .ok (.iload_n 1, 1) := by decide +kernel
theorem dX12_item_15 : decode cX12_item 15 = .ok (.iaload, 1) := by decide +kernel
theorem dX12_item_16 : decode cX12_item 16 = .ok (.ifCond .ge 6, 3) := by decide +kernel
theorem dX12_item_19 : decode cX12_item 19 = .ok (.bipush (-11), 2) := by decide +kernel
theorem dX12_item_21 : decode cX12_item 21 = .ok (.ireturn, 1) := by decide +kernel
theorem dX12_item_22 : decode cX12_item 22 = .ok (.aload_n 0, 1) := by decide +kernel
theorem dX12_item_23 : decode cX12_item 23 = .ok (.iload_n 2, 1) := by decide +kernel
theorem dX12_item_24 : decode cX12_item 24 = .ok (.iconst 0, 1) := by decide +kernel
theorem dX12_item_25 : decode cX12_item 25 = .ok (.aload_n 0, 1) := by decide +kernel
theorem dX12_item_26 : decode cX12_item 26 = .ok (.getfield 187, 3) := by decide +kernel
theorem dX12_item_29 : decode cX12_item 29 = .ok (.iload_n 1, 1) := by decide +kernel
theorem dX12_item_30 : decode cX12_item 30 = .ok (.iaload, 1) := by decide +kernel
theorem dX12_item_31 : decode cX12_item 31 = .ok (.iconst 1, 1) := by decide +kernel
theorem dX12_item_32 : decode cX12_item 32 = .ok (.isub, 1) := by decide +kernel
theorem dX12_item_33 : decode cX12_item 33 = .ok (.invokevirtual 201, 3) := by decide +kernel
theorem dX12_item_36 : decode cX12_item 36 = .ok (.ifCond .ne 6, 3) := by decide +kernel
theorem dX12_item_39 : decode cX12_item 39 = .ok (.bipush (-13), 2) := by decide +kernel
theorem dX12_item_41 : decode cX12_item 41 = .ok (.ireturn, 1) := by decide +kernel
theorem dX12_item_42 : decode cX12_item 42 = .ok (.aload_n 0, 1) := by decide +kernel
theorem dX12_item_43 : decode cX12_item 43 = .ok (.getfield 190, 3) := by decide +kernel
theorem dX12_item_46 : decode cX12_item 46 = .ok (.bipush 60, 2) := by decide +kernel
theorem dX12_item_48 : decode cX12_item 48 = .ok (.iload_n 1, 1) := by decide +kernel
theorem dX12_item_49 : decode cX12_item 49 = .ok (.imul, 1) := by decide +kernel
theorem dX12_item_50 : decode cX12_item 50 = .ok (.iload_n 2, 1) := by decide +kernel
theorem dX12_item_51 : decode cX12_item 51 = .ok (.iadd, 1) := by decide +kernel
theorem dX12_item_52 : decode cX12_item 52 = .ok (.aload_n 0, 1) := by decide +kernel
theorem dX12_item_53 : decode cX12_item 53 = .ok (.aload_n 0, 1) := by decide +kernel
theorem dX12_item_54 : decode cX12_item 54 = .ok (.getfield 184, 3) := by decide +kernel
theorem dX12_item_57 : decode cX12_item 57 = .ok (.iload_n 1, 1) := by decide +kernel
theorem dX12_item_58 : decode cX12_item 58 = .ok (.iaload, 1) := by decide +kernel
theorem dX12_item_59 : decode cX12_item 59 = .ok (.lload_n 3, 1) := by decide +kernel
theorem dX12_item_60 : decode cX12_item 60 = .ok (.invokevirtual 357, 3) := by decide +kernel
theorem dX12_item_63 : decode cX12_item 63 = .ok (.lastore, 1) := by decide +kernel
theorem dX12_item_64 : decode cX12_item 64 = .ok (.iconst 1, 1) := by decide +kernel
theorem dX12_item_65 : decode cX12_item 65 = .ok (.ireturn, 1) := by decide +kernel
theorem dX12_read_0 : decode cX12_read 0 = .ok (.aload_n 0, 1) := by decide +kernel
theorem dX12_read_1 : decode cX12_read 1 = .ok (.iload_n 1, 1) := by decide +kernel
theorem dX12_read_2 : decode cX12_read 2 = .ok (.invokevirtual 330, 3) := by decide +kernel
theorem dX12_read_5 : decode cX12_read 5 = .ok (.ifCond .eq 29, 3) := by decide +kernel
theorem dX12_read_8 : decode cX12_read 8 = .ok (.aload_n 0, 1) := by decide +kernel
theorem dX12_read_9 : decode cX12_read 9 = .ok (.getfield 184, 3) := by decide +kernel
theorem dX12_read_12 : decode cX12_read 12 = .ok (.iload_n 1, 1) := by decide +kernel
theorem dX12_read_13 : decode cX12_read 13 = .ok (.iaload, 1) := by decide +kernel
theorem dX12_read_14 : decode cX12_read 14 = .ok (.ifCond .lt 20, 3) := by decide +kernel
theorem dX12_read_17 : decode cX12_read 17 = .ok (.aload_n 0, 1) := by decide +kernel
theorem dX12_read_18 : decode cX12_read 18 = .ok (.iload_n 2, 1) := by decide +kernel
theorem dX12_read_19 : decode cX12_read 19 = .ok (.iconst 0, 1) := by decide +kernel
theorem dX12_read_20 : decode cX12_read 20 = .ok (.aload_n 0, 1) := by decide +kernel
theorem dX12_read_21 : decode cX12_read 21 = .ok (.getfield 187, 3) := by decide +kernel
theorem dX12_read_24 : decode cX12_read 24 = .ok (.iload_n 1, 1) := by decide +kernel
theorem dX12_read_25 : decode cX12_read 25 = .ok (.iaload, 1) := by decide +kernel
theorem dX12_read_26 : decode cX12_read 26 = .ok (.iconst 1, 1) := by decide +kernel
theorem dX12_read_27 : decode cX12_read 27 = .ok (.isub, 1) := by decide +kernel
theorem dX12_read_28 : decode cX12_read 28 = .ok (.invokevirtual 201, 3) := by decide +kernel
theorem dX12_read_31 : decode cX12_read 31 = .ok (.ifCond .ne 9, 3) := by decide +kernel
theorem dX12_read_34 : decode cX12_read 34 = .ok (.ldc2_w 324, 3) := by decide +kernel
theorem dX12_read_37 : decode cX12_read 37 = .ok (.goto 14, 3) := by decide +kernel
theorem dX12_read_40 : decode cX12_read 40 = .ok (.aload_n 0, 1) := by decide +kernel
theorem dX12_read_41 : decode cX12_read 41 = .ok (.getfield 190, 3) := by decide +kernel
theorem dX12_read_44 : decode cX12_read 44 = .ok (.bipush 60, 2) := by decide +kernel
theorem dX12_read_46 : decode cX12_read 46 = .ok (.iload_n 1, 1) := by decide +kernel
theorem dX12_read_47 : decode cX12_read 47 = .ok (.imul, 1) := by decide +kernel
theorem dX12_read_48 : decode cX12_read 48 = .ok (.iload_n 2, 1) := by decide +kernel
theorem dX12_read_49 : decode cX12_read 49 = .ok (.iadd, 1) := by decide +kernel
theorem dX12_read_50 : decode cX12_read 50 = .ok (.laload, 1) := by decide +kernel
theorem dX12_read_51 : decode cX12_read 51 = .ok (.lreturn, 1) := by decide +kernel
theorem dX12_shift_0 : decode cX12_shift 0 = .ok (.aload_n 0, 1) := by decide +kernel
theorem dX12_shift_1 : decode cX12_shift 1 = .ok (.iload_n 1, 1) := by decide +kernel
theorem dX12_shift_2 : decode cX12_shift 2 = .ok (.invokevirtual 330, 3) := by decide +kernel
theorem dX12_shift_5 : decode cX12_shift 5 = .ok (.ifCond .eq 11, 3) := by decide +kernel
theorem dX12_shift_8 : decode cX12_shift 8 = .ok (.aload_n 0, 1) := by decide +kernel
theorem dX12_shift_9 : decode cX12_shift 9 = .ok (.iload_n 3, 1) := by decide +kernel
theorem dX12_shift_10 : decode cX12_shift 10 = .ok (.invokevirtual 330, 3) := by decide +kernel
theorem dX12_shift_13 : decode cX12_shift 13 = .ok (.ifCond .ne 5, 3) := by decide +kernel
theorem dX12_shift_16 : decode cX12_shift 16 = .ok (.iconst (-1), 1) := by decide +kernel
theorem dX12_shift_17 : decode cX12_shift 17 = .ok (.ireturn, 1) := by decide +kernel
theorem dX12_shift_18 : decode cX12_shift 18 = .ok (.aload_n 0, 1) := by decide +kernel
theorem dX12_shift_19 : decode cX12_shift 19 = .ok (.getfield 184, 3) := by decide +kernel
theorem dX12_shift_22 : decode cX12_shift 22 = .ok (.iload_n 1, 1) := by decide +kernel
theorem dX12_shift_23 : decode cX12_shift 23 = .ok (.iaload, 1) := by decide +kernel
theorem dX12_shift_24 : decode cX12_shift 24 = .ok (.ifCond .lt 12, 3) := by decide +kernel
theorem dX12_shift_27 : decode cX12_shift 27 = .ok (.aload_n 0, 1) := by decide +kernel
theorem dX12_shift_28 : decode cX12_shift 28 = .ok (.getfield 184, 3) := by decide +kernel
theorem dX12_shift_31 : decode cX12_shift 31 = .ok (.iload_n 3, 1) := by decide +kernel
theorem dX12_shift_32 : decode cX12_shift 32 = .ok (.iaload, 1) := by decide +kernel
theorem dX12_shift_33 : decode cX12_shift 33 = .ok (.ifCond .ge 6, 3) := by decide +kernel
theorem dX12_shift_36 : decode cX12_shift 36 = .ok (.bipush (-11), 2) := by decide +kernel
theorem dX12_shift_38 : decode cX12_shift 38 = .ok (.ireturn, 1) := by decide +kernel
theorem dX12_shift_39 : decode cX12_shift 39 = .ok (.aload_n 0, 1) := by decide +kernel
theorem dX12_shift_40 : decode cX12_shift 40 = .ok (.getfield 184, 3) := by decide +kernel
theorem dX12_shift_43 : decode cX12_shift 43 = .ok (.iload_n 1, 1) := by decide +kernel
theorem dX12_shift_44 : decode cX12_shift 44 = .ok (.iaload, 1) := by decide +kernel
theorem dX12_shift_45 : decode cX12_shift 45 = .ok (.aload_n 0, 1) := by decide +kernel
theorem dX12_shift_46 : decode cX12_shift 46 = .ok (.getfield 184, 3) := by decide +kernel
theorem dX12_shift_49 : decode cX12_shift 49 = .ok (.iload_n 3, 1) := by decide +kernel
theorem dX12_shift_50 : decode cX12_shift 50 = .ok (.iaload, 1) := by decide +kernel
theorem dX12_shift_51 : decode cX12_shift 51 = .ok (.if_icmp .eq 6, 3) := by decide +kernel
theorem dX12_shift_54 : decode cX12_shift 54 = .ok (.bipush (-12), 2) := by decide +kernel
theorem dX12_shift_56 : decode cX12_shift 56 = .ok (.ireturn, 1) := by decide +kernel
theorem dX12_shift_57 : decode cX12_shift 57 = .ok (.iload 5, 2) := by decide +kernel
theorem dX12_shift_59 : decode cX12_shift 59 = .ok (.ifCond .lt 39, 3) := by decide +kernel
theorem dX12_shift_62 : decode cX12_shift 62 = .ok (.iload_n 2, 1) := by decide +kernel
theorem dX12_shift_63 : decode cX12_shift 63 = .ok (.ifCond .lt 35, 3) := by decide +kernel
theorem dX12_shift_66 : decode cX12_shift 66 = .ok (.iload 4, 2) := by decide +kernel
theorem dX12_shift_68 : decode cX12_shift 68 = .ok (.ifCond .lt 30, 3) := by decide +kernel
theorem dX12_shift_71 : decode cX12_shift 71 = .ok (.iload_n 2, 1) := by decide +kernel
theorem dX12_shift_72 : decode cX12_shift 72 = .ok (.aload_n 0, 1) := by decide +kernel
theorem dX12_shift_73 : decode cX12_shift 73 = .ok (.getfield 187, 3) := by decide +kernel
theorem dX12_shift_76 : decode cX12_shift 76 = .ok (.iload_n 1, 1) := by decide +kernel
theorem dX12_shift_77 : decode cX12_shift 77 = .ok (.iaload, 1) := by decide +kernel
theorem dX12_shift_78 : decode cX12_shift 78 = .ok (.iload 5, 2) := by decide +kernel
theorem dX12_shift_80 : decode cX12_shift 80 = .ok (.isub, 1) := by decide +kernel
theorem dX12_shift_81 : decode cX12_shift 81 = .ok (.if_icmp .gt 17, 3) := by decide +kernel
theorem dX12_shift_84 : decode cX12_shift 84 = .ok (.iload 4, 2) := by decide +kernel
theorem dX12_shift_86 : decode cX12_shift 86 = .ok (.aload_n 0, 1) := by decide +kernel
theorem dX12_shift_87 : decode cX12_shift 87 = .ok (.getfield 187, 3) := by decide +kernel
theorem dX12_shift_90 : decode cX12_shift 90 = .ok (.iload_n 3, 1) := by decide +kernel
theorem dX12_shift_91 : decode cX12_shift 91 = .ok (.iaload, 1) := by decide +kernel
theorem dX12_shift_92 : decode cX12_shift 92 = .ok (.iload 5, 2) := by decide +kernel
theorem dX12_shift_94 : decode cX12_shift 94 = .ok (.isub, 1) := by decide +kernel
theorem dX12_shift_95 : decode cX12_shift 95 = .ok (.if_icmp .le 6, 3) := by decide +kernel
theorem dX12_shift_98 : decode cX12_shift 98 = .ok (.bipush (-13), 2) := by decide +kernel
theorem dX12_shift_100 : decode cX12_shift 100 = .ok (.ireturn, 1) := by decide +kernel
theorem dX12_shift_101 : decode cX12_shift 101 = .ok (.iconst 0, 1) := by decide +kernel
theorem dX12_shift_102 : decode cX12_shift 102 = .ok (.istore 6, 2) := by decide +kernel
theorem dX12_shift_104 : decode cX12_shift 104 = .ok (.iload 6, 2) := by decide +kernel
theorem dX12_shift_106 : decode cX12_shift 106 = .ok (.iload 5, 2) := by decide +kernel
theorem dX12_shift_108 : decode cX12_shift 108 = .ok (.if_icmp .ge 30, 3) := by decide +kernel
theorem dX12_shift_111 : decode cX12_shift 111 = .ok (.aload_n 0, 1) := by decide +kernel
theorem dX12_shift_112 : decode cX12_shift 112 = .ok (.getfield 194, 3) := by decide +kernel
theorem dX12_shift_115 : decode cX12_shift 115 = .ok (.iload 6, 2) := by decide +kernel
theorem dX12_shift_117 : decode cX12_shift 117 = .ok (.aload_n 0, 1) := by decide +kernel
theorem dX12_shift_118 : decode cX12_shift 118 = .ok (.getfield 190, 3) := by decide +kernel
theorem dX12_shift_121 : decode cX12_shift 121 = .ok (.bipush 60, 2) := by decide +kernel
theorem dX12_shift_123 : decode cX12_shift 123 = .ok (.iload_n 1, 1) := by decide +kernel
theorem dX12_shift_124 : decode cX12_shift 124 = .ok (.imul, 1) := by decide +kernel
theorem dX12_shift_125 : decode cX12_shift 125 = .ok (.iload_n 2, 1) := by decide +kernel
theorem dX12_shift_126 : decode cX12_shift 126 = .ok (.iadd, 1) := by decide +kernel
theorem dX12_shift_127 : decode cX12_shift 127 = .ok (.iload 6, 2) := by decide +kernel
theorem dX12_shift_129 : decode cX12_shift 129 = .ok (.iadd, 1) := by decide +kernel
theorem dX12_shift_130 : decode cX12_shift 130 = .ok (.laload, 1) := by decide +kernel
theorem dX12_shift_131 : decode cX12_shift 131 = .ok (.lastore, 1) := by decide +kernel
theorem dX12_shift_132 : decode cX12_shift 132 = .ok (.iinc 6 1, 3) := by decide +kernel
theorem dX12_shift_135 : decode cX12_shift 135 = .ok (.goto (-31), 3) := by decide +kernel
theorem dX12_shift_138 : decode cX12_shift 138 = .ok (.iconst 0, 1) := by decide +kernel
theorem dX12_shift_139 : decode cX12_shift 139 = .ok (.istore 6, 2) := by decide +kernel
theorem dX12_shift_141 : decode cX12_shift 141 = .ok (.iload 6, 2) := by decide +kernel
theorem dX12_shift_143 : decode cX12_shift 143 = .ok (.iload 5, 2) := by decide +kernel
theorem dX12_shift_145 : decode cX12_shift 145 = .ok (.if_icmp .ge 31, 3) := by decide +kernel
theorem dX12_shift_148 : decode cX12_shift 148 = .ok (.aload_n 0, 1) := by decide +kernel
theorem dX12_shift_149 : decode cX12_shift 149 = .ok (.getfield 190, 3) := by decide +kernel
theorem dX12_shift_152 : decode cX12_shift 152 = .ok (.bipush 60, 2) := by decide +kernel
theorem dX12_shift_154 : decode cX12_shift 154 = .ok (.iload_n 3, 1) := by decide +kernel
theorem dX12_shift_155 : decode cX12_shift 155 = .ok (.imul, 1) := by decide +kernel
theorem dX12_shift_156 : decode cX12_shift 156 = .ok (.iload 4, 2) := by decide +kernel
theorem dX12_shift_158 : decode cX12_shift 158 = .ok (.iadd, 1) := by decide +kernel
theorem dX12_shift_159 : decode cX12_shift 159 = .ok (.iload 6, 2) := by decide +kernel
theorem dX12_shift_161 : decode cX12_shift 161 = .ok (.iadd, 1) := by decide +kernel
theorem dX12_shift_162 : decode cX12_shift 162 = .ok (.aload_n 0, 1) := by decide +kernel
theorem dX12_shift_163 : decode cX12_shift 163 = .ok (.getfield 194, 3) := by decide +kernel
theorem dX12_shift_166 : decode cX12_shift 166 = .ok (.iload 6, 2) := by decide +kernel
theorem dX12_shift_168 : decode cX12_shift 168 = .ok (.laload, 1) := by decide +kernel
theorem dX12_shift_169 : decode cX12_shift 169 = .ok (.lastore, 1) := by decide +kernel
theorem dX12_shift_170 : decode cX12_shift 170 = .ok (.iinc 6 1, 3) := by decide +kernel
theorem dX12_shift_173 : decode cX12_shift 173 = .ok (.goto (-32), 3) := by decide +kernel
theorem dX12_shift_176 : decode cX12_shift 176 = .ok (.iload 5, 2) := by decide +kernel
theorem dX12_shift_178 : decode cX12_shift 178 = .ok (.ireturn, 1) := by decide +kernel
theorem dJ5_init_d00df_0 : decode cJ5_init_d00df 0 = .ok (.aload_n 0, 1) := by decide +kernel
theorem dJ5_init_d00df_1 : decode cJ5_init_d00df 1 = .ok (.invokespecial 3, 3) := by decide +kernel
theorem dJ5_init_d00df_4 : decode cJ5_init_d00df 4 = .ok (.getstatic 18, 3) := by decide +kernel
theorem dJ5_init_d00df_7 : decode cJ5_init_d00df 7 = .ok (.ifCond .eq 18, 3) := by decide +kernel
theorem dJ5_init_d00df_10 : decode cJ5_init_d00df 10 = .ok (.aload_n 0, 1) := by decide +kernel
theorem dJ5_init_d00df_11 : decode cJ5_init_d00df 11 = .ok (.iload_n 1, 1) := by decide +kernel
theorem dJ5_init_d00df_12 : decode cJ5_init_d00df 12 = .ok (.newarray .byte, 2) := by decide +kernel
theorem dJ5_init_d00df_14 : decode cJ5_init_d00df 14 = .ok (.putfield 15, 3) := by decide +kernel
theorem dJ5_init_d00df_17 : decode cJ5_init_d00df 17 = .ok (.aload_n 0, 1) := by decide +kernel
theorem dJ5_init_d00df_18 : decode cJ5_init_d00df 18 = .ok (.iconst 0, 1) := by decide +kernel
theorem dJ5_init_d00df_19 : decode cJ5_init_d00df 19 = .ok (.putfield 22, 3) := by decide +kernel
theorem dJ5_init_d00df_22 : decode cJ5_init_d00df 22 = .ok (.goto 16, 3) := by decide +kernel
theorem dJ5_init_d00df_25 : decode cJ5_init_d00df 25 = .ok (.aload_n 0, 1) := by decide +kernel
theorem dJ5_init_d00df_26 : decode cJ5_init_d00df 26 = .ok (.iload_n 1, 1) := by decide +kernel
theorem dJ5_init_d00df_27 : decode cJ5_init_d00df 27 = .ok (.invokestatic 26, 3) := by decide +kernel
theorem dJ5_init_d00df_30 : decode cJ5_init_d00df 30 = .ok (.putfield 15, 3) := by decide +kernel
theorem dJ5_init_d00df_33 : decode cJ5_init_d00df 33 = .ok (.aload_n 0, 1) := by decide +kernel
theorem dJ5_init_d00df_34 : decode cJ5_init_d00df 34 = .ok (.iconst 1, 1) := by decide +kernel
theorem dJ5_init_d00df_35 : decode cJ5_init_d00df 35 = .ok (.putfield 22, 3) := by decide +kernel
theorem dJ5_init_d00df_38 : decode cJ5_init_d00df 38 = .ok (.return_, 1) := by decide +kernel
theorem dJ5_length_8abf5_0 : decode cJ5_length_8abf5 0 = .ok (.aload_n 0, 1) := by decide +kernel
theorem dJ5_length_8abf5_1 : decode cJ5_length_8abf5 1 = .ok (.getfield 79, 3) := by decide +kernel
theorem dJ5_length_8abf5_4 : decode cJ5_length_8abf5 4 = .ok (.ireturn, 1) := by decide +kernel
theorem dJ5_ensureCapacityInternal_d00df_0 : decode cJ5_ensureCapacityInternal_d00df 0 = .ok (.aload_n 0, 1) := by decide +kernel
theorem dJ5_ensureCapacityInternal_d00df_1 : decode cJ5_ensureCapacityInternal_d00df 1 = .ok (.getfield 15, 3) := by decide +kernel
theorem dJ5_ensureCapacityInternal_d00df_4 : decode cJ5_ensureCapacityInternal_d00df 4 = .ok (.arraylength, 1) := by decide +kernel
theorem dJ5_ensureCapacityInternal_d00df_5 : decode cJ5_ensureCapacityInternal_d00df 5 = .ok (.aload_n 0, 1) := by decide +kernel
theorem dJ5_ensureCapacityInternal_d00df_6 : decode cJ5_ensureCapacityInternal_d00df 6 = .ok (.getfield 22, 3) := by decide +kernel
theorem dJ5_ensureCapacityInternal_d00df_9 : decode cJ5_ensureCapacityInternal_d00df 9 = .ok (.ishr, 1) := by decide +kernel
theorem dJ5_ensureCapacityInternal_d00df_10 : decode cJ5_ensureCapacityInternal_d00df 10 = .ok (.istore_n 2, 1) := by decide +kernel
theorem dJ5_ensureCapacityInternal_d00df_11 : decode cJ5_ensureCapacityInternal_d00df 11 = .ok (.iload_n 1, 1) := by decide +kernel
theorem dJ5_ensureCapacityInternal_d00df_12 : decode cJ5_ensureCapacityInternal_d00df 12 = .ok (.iload_n 2, 1) := by decide +kernel
theorem dJ5_ensureCapacityInternal_d00df_13 : decode cJ5_ensureCapacityInternal_d00df 13 = .ok (.isub, 1) := by decide +kernel
theorem dJ5_ensureCapacityInternal_d00df_14 : decode cJ5_ensureCapacityInternal_d00df 14 = .ok (.ifCond .le 24, 3) := by decide +kernel
theorem dJ5_ensureCapacityInternal_d00df_17 : decode cJ5_ensureCapacityInternal_d00df 17 = .ok (.aload_n 0, 1) := by decide +kernel
theorem dJ5_ensureCapacityInternal_d00df_18 : decode cJ5_ensureCapacityInternal_d00df 18 = .ok (.aload_n 0, 1) := by decide +kernel
theorem dJ5_ensureCapacityInternal_d00df_19 : decode cJ5_ensureCapacityInternal_d00df 19 = .ok (.getfield 15, 3) := by decide +kernel
theorem dJ5_ensureCapacityInternal_d00df_22 : decode cJ5_ensureCapacityInternal_d00df 22 = .ok (.aload_n 0, 1) := by decide +kernel
theorem dJ5_ensureCapacityInternal_d00df_23 : decode cJ5_ensureCapacityInternal_d00df 23 = .ok (.iload_n 1, 1) := by decide +kernel
theorem dJ5_ensureCapacityInternal_d00df_24 : decode cJ5_ensureCapacityInternal_d00df 24 = .ok (.invokevirtual 104, 3) := by decide +kernel
theorem dJ5_ensureCapacityInternal_d00df_27 : decode cJ5_ensureCapacityInternal_d00df 27 = .ok (.aload_n 0, 1) := by decide +kernel
theorem dJ5_ensureCapacityInternal_d00df_28 : decode cJ5_ensureCapacityInternal_d00df 28 = .ok (.getfield 22, 3) := by decide +kernel
theorem dJ5_ensureCapacityInternal_d00df_31 : decode cJ5_ensureCapacityInternal_d00df 31 = .ok (.ishl, 1) := by decide +kernel
theorem dJ5_ensureCapacityInternal_d00df_32 : decode cJ5_ensureCapacityInternal_d00df 32 = .ok (.invokestatic 108, 3) := by decide +kernel
theorem dJ5_ensureCapacityInternal_d00df_35 : decode cJ5_ensureCapacityInternal_d00df 35 = .ok (.putfield 15, 3) := by decide +kernel
theorem dJ5_ensureCapacityInternal_d00df_38 : decode cJ5_ensureCapacityInternal_d00df 38 = .ok (.return_, 1) := by decide +kernel
theorem dJ5_newCapacity_0f7a4_0 : decode cJ5_newCapacity_0f7a4 0 = .ok (.aload_n 0, 1) := by decide +kernel
theorem dJ5_newCapacity_0f7a4_1 : decode cJ5_newCapacity_0f7a4 1 = .ok (.getfield 15, 3) := by decide +kernel
theorem dJ5_newCapacity_0f7a4_4 : decode cJ5_newCapacity_0f7a4 4 = .ok (.arraylength, 1) := by decide +kernel
theorem dJ5_newCapacity_0f7a4_5 : decode cJ5_newCapacity_0f7a4 5 = .ok (.istore_n 2, 1) := by decide +kernel
theorem dJ5_newCapacity_0f7a4_6 : decode cJ5_newCapacity_0f7a4 6 = .ok (.iload_n 1, 1) := by decide +kernel
theorem dJ5_newCapacity_0f7a4_7 : decode cJ5_newCapacity_0f7a4 7 = .ok (.aload_n 0, 1) := by decide +kernel
theorem dJ5_newCapacity_0f7a4_8 : decode cJ5_newCapacity_0f7a4 8 = .ok (.getfield 22, 3) := by decide +kernel
theorem dJ5_newCapacity_0f7a4_11 : decode cJ5_newCapacity_0f7a4 11 = .ok (.ishl, 1) := by decide +kernel
theorem dJ5_newCapacity_0f7a4_12 : decode cJ5_newCapacity_0f7a4 12 = .ok (.istore_n 3, 1) := by decide +kernel
theorem dJ5_newCapacity_0f7a4_13 : decode cJ5_newCapacity_0f7a4 13 = .ok (.iload_n 3, 1) := by decide +kernel
theorem dJ5_newCapacity_0f7a4_14 : decode cJ5_newCapacity_0f7a4 14 = .ok (.iload_n 2, 1) := by decide +kernel
theorem dJ5_newCapacity_0f7a4_15 : decode cJ5_newCapacity_0f7a4 15 = .ok (.isub, 1) := by decide +kernel
theorem dJ5_newCapacity_0f7a4_16 : decode cJ5_newCapacity_0f7a4 16 = .ok (.istore 4, 2) := by decide +kernel
theorem dJ5_newCapacity_0f7a4_18 : decode cJ5_newCapacity_0f7a4 18 = .ok (.iload_n 2, 1) := by decide +kernel
theorem dJ5_newCapacity_0f7a4_19 : decode cJ5_newCapacity_0f7a4 19 = .ok (.iload 4, 2) := by decide +kernel
theorem dJ5_newCapacity_0f7a4_21 : decode cJ5_newCapacity_0f7a4 21 = .ok (.iload_n 2, 1) := by decide +kernel
theorem dJ5_newCapacity_0f7a4_22 : decode cJ5_newCapacity_0f7a4 22 = .ok (.iconst 2, 1) := by decide +kernel
theorem dJ5_newCapacity_0f7a4_23 : decode cJ5_newCapacity_0f7a4 23 = .ok (.aload_n 0, 1) := by decide +kernel
theorem dJ5_newCapacity_0f7a4_24 : decode cJ5_newCapacity_0f7a4 24 = .ok (.getfield 22, 3) := by decide +kernel
theorem dJ5_newCapacity_0f7a4_27 : decode cJ5_newCapacity_0f7a4 27 = .ok (.ishl, 1) := by decide +kernel
theorem dJ5_newCapacity_0f7a4_28 : decode cJ5_newCapacity_0f7a4 28 = .ok (.iadd, 1) := by decide +kernel
theorem dJ5_newCapacity_0f7a4_29 : decode cJ5_newCapacity_0f7a4 29 = .ok (.invokestatic 114, 3) := by decide +kernel
theorem dJ5_newCapacity_0f7a4_32 : decode cJ5_newCapacity_0f7a4 32 = .ok (.istore 5, 2) := by decide +kernel
theorem dJ5_newCapacity_0f7a4_34 : decode cJ5_newCapacity_0f7a4 34 = .ok (.iload 5, 2) := by decide +kernel
theorem dJ5_newCapacity_0f7a4_36 : decode cJ5_newCapacity_0f7a4 36 = .ok (.ldc 39, 2) := by decide +kernel
theorem dJ5_newCapacity_0f7a4_38 : decode cJ5_newCapacity_0f7a4 38 = .ok (.if_icmp .ne 13, 3) := by decide +kernel
theorem dJ5_newCapacity_0f7a4_41 : decode cJ5_newCapacity_0f7a4 41 = .ok (.new 120, 3) := by decide +kernel
theorem dJ5_newCapacity_0f7a4_44 : decode cJ5_newCapacity_0f7a4 44 = .ok (.dup, 1) := by decide +kernel
theorem dJ5_newCapacity_0f7a4_45 : decode cJ5_newCapacity_0f7a4 45 = .ok (.ldc 122, 2) := by decide +kernel
theorem dJ5_newCapacity_0f7a4_47 : decode cJ5_newCapacity_0f7a4 47 = .ok (.invokespecial 124, 3) := by decide +kernel
theorem dJ5_newCapacity_0f7a4_50 : decode cJ5_newCapacity_0f7a4 50 = .ok (.athrow, 1) := by decide +kernel
theorem dJ5_newCapacity_0f7a4_51 : decode cJ5_newCapacity_0f7a4 51 = .ok (.iload 5, 2) := by decide +kernel
theorem dJ5_newCapacity_0f7a4_53 : decode cJ5_newCapacity_0f7a4 53 = .ok (.aload_n 0, 1) := by decide +kernel
theorem dJ5_newCapacity_0f7a4_54 : decode cJ5_newCapacity_0f7a4 54 = .ok (.getfield 22, 3) := by decide +kernel
theorem dJ5_newCapacity_0f7a4_57 : decode cJ5_newCapacity_0f7a4 57 = .ok (.ishr, 1) := by decide +kernel
theorem dJ5_newCapacity_0f7a4_58 : decode cJ5_newCapacity_0f7a4 58 = .ok (.ireturn, 1) := by decide +kernel
theorem dJ5_inflate_da8c8_0 : decode cJ5_inflate_da8c8 0 = .ok (.aload_n 0, 1) := by decide +kernel
theorem dJ5_inflate_da8c8_1 : decode cJ5_inflate_da8c8 1 = .ok (.invokevirtual 83, 3) := by decide +kernel
theorem dJ5_inflate_da8c8_4 : decode cJ5_inflate_da8c8 4 = .ok (.ifCond .ne 4, 3) := by decide +kernel
theorem dJ5_inflate_da8c8_7 : decode cJ5_inflate_da8c8 7 = .ok (.return_, 1) := by decide +kernel
theorem dJ5_inflate_da8c8_8 : decode cJ5_inflate_da8c8 8 = .ok (.aload_n 0, 1) := by decide +kernel
theorem dJ5_inflate_da8c8_9 : decode cJ5_inflate_da8c8 9 = .ok (.getfield 15, 3) := by decide +kernel
theorem dJ5_inflate_da8c8_12 : decode cJ5_inflate_da8c8 12 = .ok (.arraylength, 1) := by decide +kernel
theorem dJ5_inflate_da8c8_13 : decode cJ5_inflate_da8c8 13 = .ok (.invokestatic 26, 3) := by decide +kernel
theorem dJ5_inflate_da8c8_16 : decode cJ5_inflate_da8c8 16 = .ok (.astore_n 1, 1) := by decide +kernel
theorem dJ5_inflate_da8c8_17 : decode cJ5_inflate_da8c8 17 = .ok (.aload_n 0, 1) := by decide +kernel
theorem dJ5_inflate_da8c8_18 : decode cJ5_inflate_da8c8 18 = .ok (.getfield 15, 3) := by decide +kernel
theorem dJ5_inflate_da8c8_21 : decode cJ5_inflate_da8c8 21 = .ok (.iconst 0, 1) := by decide +kernel
theorem dJ5_inflate_da8c8_22 : decode cJ5_inflate_da8c8 22 = .ok (.aload_n 1, 1) := by decide +kernel
theorem dJ5_inflate_da8c8_23 : decode cJ5_inflate_da8c8 23 = .ok (.iconst 0, 1) := by decide +kernel
theorem dJ5_inflate_da8c8_24 : decode cJ5_inflate_da8c8 24 = .ok (.aload_n 0, 1) := by decide +kernel
theorem dJ5_inflate_da8c8_25 : decode cJ5_inflate_da8c8 25 = .ok (.getfield 79, 3) := by decide +kernel
theorem dJ5_inflate_da8c8_28 : decode cJ5_inflate_da8c8 28 = .ok (.invokestatic 125, 3) := by decide +kernel
theorem dJ5_inflate_da8c8_31 : decode cJ5_inflate_da8c8 31 = .ok (.aload_n 0, 1) := by decide +kernel
theorem dJ5_inflate_da8c8_32 : decode cJ5_inflate_da8c8 32 = .ok (.aload_n 1, 1) := by decide +kernel
theorem dJ5_inflate_da8c8_33 : decode cJ5_inflate_da8c8 33 = .ok (.putfield 15, 3) := by decide +kernel
theorem dJ5_inflate_da8c8_36 : decode cJ5_inflate_da8c8 36 = .ok (.aload_n 0, 1) := by decide +kernel
theorem dJ5_inflate_da8c8_37 : decode cJ5_inflate_da8c8 37 = .ok (.iconst 1, 1) := by decide +kernel
theorem dJ5_inflate_da8c8_38 : decode cJ5_inflate_da8c8 38 = .ok (.putfield 22, 3) := by decide +kernel
theorem dJ5_inflate_da8c8_41 : decode cJ5_inflate_da8c8 41 = .ok (.return_, 1) := by decide +kernel
theorem dJ5_setLength_d00df_0 : decode cJ5_setLength_d00df 0 = .ok (.iload_n 1, 1) := by decide +kernel
theorem dJ5_setLength_d00df_1 : decode cJ5_setLength_d00df 1 = .ok (.ifCond .ge 12, 3) := by decide +kernel
theorem dJ5_setLength_d00df_4 : decode cJ5_setLength_d00df 4 = .ok (.new 129, 3) := by decide +kernel
theorem dJ5_setLength_d00df_7 : decode cJ5_setLength_d00df 7 = .ok (.dup, 1) := by decide +kernel
theorem dJ5_setLength_d00df_8 : decode cJ5_setLength_d00df 8 = .ok (.iload_n 1, 1) := by decide +kernel
theorem dJ5_setLength_d00df_9 : decode cJ5_setLength_d00df 9 = .ok (.invokespecial 131, 3) := by decide +kernel
theorem dJ5_setLength_d00df_12 : decode cJ5_setLength_d00df 12 = .ok (.athrow, 1) := by decide +kernel
theorem dJ5_setLength_d00df_13 : decode cJ5_setLength_d00df 13 = .ok (.aload_n 0, 1) := by decide +kernel
theorem dJ5_setLength_d00df_14 : decode cJ5_setLength_d00df 14 = .ok (.iload_n 1, 1) := by decide +kernel
theorem dJ5_setLength_d00df_15 : decode cJ5_setLength_d00df 15 = .ok (.invokevirtual 100, 3) := by decide +kernel
theorem dJ5_setLength_d00df_18 : decode cJ5_setLength_d00df 18 = .ok (.aload_n 0, 1) := by decide +kernel
theorem dJ5_setLength_d00df_19 : decode cJ5_setLength_d00df 19 = .ok (.getfield 79, 3) := by decide +kernel
theorem dJ5_setLength_d00df_22 : decode cJ5_setLength_d00df 22 = .ok (.iload_n 1, 1) := by decide +kernel
theorem dJ5_setLength_d00df_23 : decode cJ5_setLength_d00df 23 = .ok (.if_icmp .ge 40, 3) := by decide +kernel
theorem dJ5_setLength_d00df_26 : decode cJ5_setLength_d00df 26 = .ok (.aload_n 0, 1) := by decide +kernel
theorem dJ5_setLength_d00df_27 : decode cJ5_setLength_d00df 27 = .ok (.invokevirtual 83, 3) := by decide +kernel
theorem dJ5_setLength_d00df_30 : decode cJ5_setLength_d00df 30 = .ok (.ifCond .eq 18, 3) := by decide +kernel
theorem dJ5_setLength_d00df_33 : decode cJ5_setLength_d00df 33 = .ok (.aload_n 0, 1) := by decide +kernel
theorem dJ5_setLength_d00df_34 : decode cJ5_setLength_d00df 34 = .ok (.getfield 15, 3) := by decide +kernel
theorem dJ5_setLength_d00df_37 : decode cJ5_setLength_d00df 37 = .ok (.aload_n 0, 1) := by decide +kernel
theorem dJ5_setLength_d00df_38 : decode cJ5_setLength_d00df 38 = .ok (.getfield 79, 3) := by decide +kernel
theorem dJ5_setLength_d00df_41 : decode cJ5_setLength_d00df 41 = .ok (.iload_n 1, 1) := by decide +kernel
theorem dJ5_setLength_d00df_42 : decode cJ5_setLength_d00df 42 = .ok (.invokestatic 133, 3) := by decide +kernel
theorem dJ5_setLength_d00df_45 : decode cJ5_setLength_d00df 45 = .ok (.goto 31, 3) := by decide +kernel
theorem dJ5_setLength_d00df_48 : decode cJ5_setLength_d00df 48 = .ok (.aload_n 0, 1) := by decide +kernel
theorem dJ5_setLength_d00df_49 : decode cJ5_setLength_d00df 49 = .ok (.getfield 15, 3) := by decide +kernel
theorem dJ5_setLength_d00df_52 : decode cJ5_setLength_d00df 52 = .ok (.aload_n 0, 1) := by decide +kernel
theorem dJ5_setLength_d00df_53 : decode cJ5_setLength_d00df 53 = .ok (.getfield 79, 3) := by decide +kernel
theorem dJ5_setLength_d00df_56 : decode cJ5_setLength_d00df 56 = .ok (.iload_n 1, 1) := by decide +kernel
theorem dJ5_setLength_d00df_57 : decode cJ5_setLength_d00df 57 = .ok (.invokestatic 137, 3) := by decide +kernel
theorem dJ5_setLength_d00df_60 : decode cJ5_setLength_d00df 60 = .ok (.goto 16, 3) := by decide +kernel
theorem dJ5_setLength_d00df_63 : decode cJ5_setLength_d00df 63 = .ok (.aload_n 0, 1) := by decide +kernel
theorem dJ5_setLength_d00df_64 : decode cJ5_setLength_d00df 64 = .ok (.getfield 79, 3) := by decide +kernel
theorem dJ5_setLength_d00df_67 : decode cJ5_setLength_d00df 67 = .ok (.iload_n 1, 1) := by decide +kernel
theorem dJ5_setLength_d00df_68 : decode cJ5_setLength_d00df 68 = .ok (.if_icmp .le 8, 3) := by decide +kernel
theorem dJ5_setLength_d00df_71 : decode cJ5_setLength_d00df 71 = .ok (.aload_n 0, 1) := by decide +kernel
theorem dJ5_setLength_d00df_72 : decode cJ5_setLength_d00df 72 = .ok (.iconst 1, 1) := by decide +kernel
theorem dJ5_setLength_d00df_73 : decode cJ5_setLength_d00df 73 = .ok (.putfield 73, 3) := by decide +kernel
theorem dJ5_setLength_d00df_76 : decode cJ5_setLength_d00df 76 = .ok (.aload_n 0, 1) := by decide +kernel
theorem dJ5_setLength_d00df_77 : decode cJ5_setLength_d00df 77 = .ok (.iload_n 1, 1) := by decide +kernel
theorem dJ5_setLength_d00df_78 : decode cJ5_setLength_d00df 78 = .ok (.putfield 79, 3) := by decide +kernel
theorem dJ5_setLength_d00df_81 : decode cJ5_setLength_d00df 81 = .ok (.return_, 1) := by decide +kernel
theorem dJ5_charAt_5068e_0 : decode cJ5_charAt_5068e 0 = .ok (.aload_n 0, 1) := by decide +kernel
theorem dJ5_charAt_5068e_1 : decode cJ5_charAt_5068e 1 = .ok (.getfield 22, 3) := by decide +kernel
theorem dJ5_charAt_5068e_4 : decode cJ5_charAt_5068e 4 = .ok (.istore_n 2, 1) := by decide +kernel
theorem dJ5_charAt_5068e_5 : decode cJ5_charAt_5068e 5 = .ok (.aload_n 0, 1) := by decide +kernel
theorem dJ5_charAt_5068e_6 : decode cJ5_charAt_5068e 6 = .ok (.getfield 15, 3) := by decide +kernel
theorem dJ5_charAt_5068e_9 : decode cJ5_charAt_5068e 9 = .ok (.astore_n 3, 1) := by decide +kernel
theorem dJ5_charAt_5068e_10 : decode cJ5_charAt_5068e 10 = .ok (.aload_n 0, 1) := by decide +kernel
theorem dJ5_charAt_5068e_11 : decode cJ5_charAt_5068e 11 = .ok (.getfield 79, 3) := by decide +kernel
theorem dJ5_charAt_5068e_14 : decode cJ5_charAt_5068e 14 = .ok (.aload_n 3, 1) := by decide +kernel
theorem dJ5_charAt_5068e_15 : decode cJ5_charAt_5068e 15 = .ok (.arraylength, 1) := by decide +kernel
theorem dJ5_charAt_5068e_16 : decode cJ5_charAt_5068e 16 = .ok (.iload_n 2, 1) := by decide +kernel
theorem dJ5_charAt_5068e_17 : decode cJ5_charAt_5068e 17 = .ok (.ishr, 1) := by decide +kernel
theorem dJ5_charAt_5068e_18 : decode cJ5_charAt_5068e 18 = .ok (.invokestatic 138, 3) := by decide +kernel
theorem dJ5_charAt_5068e_21 : decode cJ5_charAt_5068e 21 = .ok (.istore 4, 2) := by decide +kernel
theorem dJ5_charAt_5068e_23 : decode cJ5_charAt_5068e 23 = .ok (.iload_n 1, 1) := by decide +kernel
theorem dJ5_charAt_5068e_24 : decode cJ5_charAt_5068e 24 = .ok (.iload 4, 2) := by decide +kernel
theorem dJ5_charAt_5068e_26 : decode cJ5_charAt_5068e 26 = .ok (.invokestatic 144, 3) := by decide +kernel
theorem dJ5_charAt_5068e_29 : decode cJ5_charAt_5068e 29 = .ok (.iload_n 2, 1) := by decide +kernel
theorem dJ5_charAt_5068e_30 : decode cJ5_charAt_5068e 30 = .ok (.ifCond .ne 12, 3) := by decide +kernel
theorem dJ5_charAt_5068e_33 : decode cJ5_charAt_5068e 33 = .ok (.aload_n 3, 1) := by decide +kernel
theorem dJ5_charAt_5068e_34 : decode cJ5_charAt_5068e 34 = .ok (.iload_n 1, 1) := by decide +kernel
theorem dJ5_charAt_5068e_35 : decode cJ5_charAt_5068e 35 = .ok (.baload, 1) := by decide +kernel
theorem dJ5_charAt_5068e_36 : decode cJ5_charAt_5068e 36 = .ok (.sipush 255, 3) := by decide +kernel
theorem dJ5_charAt_5068e_39 : decode cJ5_charAt_5068e 39 = .ok (.iand, 1) := by decide +kernel
theorem dJ5_charAt_5068e_40 : decode cJ5_charAt_5068e 40 = .ok (.i2c, 1) := by decide +kernel
theorem dJ5_charAt_5068e_41 : decode cJ5_charAt_5068e 41 = .ok (.ireturn, 1) := by decide +kernel
theorem dJ5_charAt_5068e_42 : decode cJ5_charAt_5068e 42 = .ok (.aload_n 3, 1) := by decide +kernel
theorem dJ5_charAt_5068e_43 : decode cJ5_charAt_5068e 43 = .ok (.iload_n 1, 1) := by decide +kernel
theorem dJ5_charAt_5068e_44 : decode cJ5_charAt_5068e 44 = .ok (.invokestatic 148, 3) := by decide +kernel
theorem dJ5_charAt_5068e_47 : decode cJ5_charAt_5068e 47 = .ok (.ireturn, 1) := by decide +kernel
theorem dJ5_append_3fe6f_0 : decode cJ5_append_3fe6f 0 = .ok (.aload_n 0, 1) := by decide +kernel
theorem dJ5_append_3fe6f_1 : decode cJ5_append_3fe6f 1 = .ok (.aload_n 0, 1) := by decide +kernel
theorem dJ5_append_3fe6f_2 : decode cJ5_append_3fe6f 2 = .ok (.getfield 79, 3) := by decide +kernel
theorem dJ5_append_3fe6f_5 : decode cJ5_append_3fe6f 5 = .ok (.iconst 1, 1) := by decide +kernel
theorem dJ5_append_3fe6f_6 : decode cJ5_append_3fe6f 6 = .ok (.iadd, 1) := by decide +kernel
theorem dJ5_append_3fe6f_7 : decode cJ5_append_3fe6f 7 = .ok (.invokevirtual 100, 3) := by decide +kernel
theorem dJ5_append_3fe6f_10 : decode cJ5_append_3fe6f 10 = .ok (.aload_n 0, 1) := by decide +kernel
theorem dJ5_append_3fe6f_11 : decode cJ5_append_3fe6f 11 = .ok (.invokevirtual 83, 3) := by decide +kernel
theorem dJ5_append_3fe6f_14 : decode cJ5_append_3fe6f 14 = .ok (.ifCond .eq 31, 3) := by decide +kernel
theorem dJ5_append_3fe6f_17 : decode cJ5_append_3fe6f 17 = .ok (.iload_n 1, 1) := by decide +kernel
theorem dJ5_append_3fe6f_18 : decode cJ5_append_3fe6f 18 = .ok (.invokestatic 191, 3) := by decide +kernel
theorem dJ5_append_3fe6f_21 : decode cJ5_append_3fe6f 21 = .ok (.ifCond .eq 24, 3) := by decide +kernel
theorem dJ5_append_3fe6f_24 : decode cJ5_append_3fe6f 24 = .ok (.aload_n 0, 1) := by decide +kernel
theorem dJ5_append_3fe6f_25 : decode cJ5_append_3fe6f 25 = .ok (.getfield 15, 3) := by decide +kernel
theorem dJ5_append_3fe6f_28 : decode cJ5_append_3fe6f 28 = .ok (.aload_n 0, 1) := by decide +kernel
theorem dJ5_append_3fe6f_29 : decode cJ5_append_3fe6f 29 = .ok (.dup, 1) := by decide +kernel
theorem dJ5_append_3fe6f_30 : decode cJ5_append_3fe6f 30 = .ok (.getfield 79, 3) := by decide +kernel
theorem dJ5_append_3fe6f_33 : decode cJ5_append_3fe6f 33 = .ok (.dup_x1, 1) := by decide +kernel
theorem dJ5_append_3fe6f_34 : decode cJ5_append_3fe6f 34 = .ok (.iconst 1, 1) := by decide +kernel
theorem dJ5_append_3fe6f_35 : decode cJ5_append_3fe6f 35 = .ok (.iadd, 1) := by decide +kernel
theorem dJ5_append_3fe6f_36 : decode cJ5_append_3fe6f 36 = .ok (.putfield 79, 3) := by decide +kernel
theorem dJ5_append_3fe6f_39 : decode cJ5_append_3fe6f 39 = .ok (.iload_n 1, 1) := by decide +kernel
theorem dJ5_append_3fe6f_40 : decode cJ5_append_3fe6f 40 = .ok (.i2b, 1) := by decide +kernel
theorem dJ5_append_3fe6f_41 : decode cJ5_append_3fe6f 41 = .ok (.bastore, 1) := by decide +kernel
theorem dJ5_append_3fe6f_42 : decode cJ5_append_3fe6f 42 = .ok (.goto 33, 3) := by decide +kernel
theorem dJ5_append_3fe6f_45 : decode cJ5_append_3fe6f 45 = .ok (.aload_n 0, 1) := by decide +kernel
theorem dJ5_append_3fe6f_46 : decode cJ5_append_3fe6f 46 = .ok (.invokevirtual 83, 3) := by decide +kernel
theorem dJ5_append_3fe6f_49 : decode cJ5_append_3fe6f 49 = .ok (.ifCond .eq 7, 3) := by decide +kernel
theorem dJ5_append_3fe6f_52 : decode cJ5_append_3fe6f 52 = .ok (.aload_n 0, 1) := by decide +kernel
theorem dJ5_append_3fe6f_53 : decode cJ5_append_3fe6f 53 = .ok (.invokevirtual 195, 3) := by decide +kernel
theorem dJ5_append_3fe6f_56 : decode cJ5_append_3fe6f 56 = .ok (.aload_n 0, 1) := by decide +kernel
theorem dJ5_append_3fe6f_57 : decode cJ5_append_3fe6f 57 = .ok (.getfield 15, 3) := by decide +kernel
theorem dJ5_append_3fe6f_60 : decode cJ5_append_3fe6f 60 = .ok (.aload_n 0, 1) := by decide +kernel
theorem dJ5_append_3fe6f_61 : decode cJ5_append_3fe6f 61 = .ok (.dup, 1) := by decide +kernel
theorem dJ5_append_3fe6f_62 : decode cJ5_append_3fe6f 62 = .ok (.getfield 79, 3) := by decide +kernel
theorem dJ5_append_3fe6f_65 : decode cJ5_append_3fe6f 65 = .ok (.dup_x1, 1) := by decide +kernel
theorem dJ5_append_3fe6f_66 : decode cJ5_append_3fe6f 66 = .ok (.iconst 1, 1) := by decide +kernel
theorem dJ5_append_3fe6f_67 : decode cJ5_append_3fe6f 67 = .ok (.iadd, 1) := by decide +kernel
theorem dJ5_append_3fe6f_68 : decode cJ5_append_3fe6f 68 = .ok (.putfield 79, 3) := by decide +kernel
theorem dJ5_append_3fe6f_71 : decode cJ5_append_3fe6f 71 = .ok (.iload_n 1, 1) := by decide +kernel
theorem dJ5_append_3fe6f_72 : decode cJ5_append_3fe6f 72 = .ok (.invokestatic 197, 3) := by decide +kernel
theorem dJ5_append_3fe6f_75 : decode cJ5_append_3fe6f 75 = .ok (.aload_n 0, 1) := by decide +kernel
theorem dJ5_append_3fe6f_76 : decode cJ5_append_3fe6f 76 = .ok (.areturn, 1) := by decide +kernel
theorem dJ5_isLatin1_aae02_0 : decode cJ5_isLatin1_aae02 0 = .ok (.getstatic 18, 3) := by decide +kernel
theorem dJ5_isLatin1_aae02_3 : decode cJ5_isLatin1_aae02 3 = .ok (.ifCond .eq 14, 3) := by decide +kernel
theorem dJ5_isLatin1_aae02_6 : decode cJ5_isLatin1_aae02 6 = .ok (.aload_n 0, 1) := by decide +kernel
theorem dJ5_isLatin1_aae02_7 : decode cJ5_isLatin1_aae02 7 = .ok (.getfield 22, 3) := by decide +kernel
theorem dJ5_isLatin1_aae02_10 : decode cJ5_isLatin1_aae02 10 = .ok (.ifCond .ne 7, 3) := by decide +kernel
theorem dJ5_isLatin1_aae02_13 : decode cJ5_isLatin1_aae02 13 = .ok (.iconst 1, 1) := by decide +kernel
theorem dJ5_isLatin1_aae02_14 : decode cJ5_isLatin1_aae02 14 = .ok (.goto 4, 3) := by decide +kernel
theorem dJ5_isLatin1_aae02_17 : decode cJ5_isLatin1_aae02 17 = .ok (.iconst 0, 1) := by decide +kernel
theorem dJ5_isLatin1_aae02_18 : decode cJ5_isLatin1_aae02 18 = .ok (.ireturn, 1) := by decide +kernel
theorem dJ11_isValidCodePoint_9a6ad_0 : decode cJ11_isValidCodePoint_9a6ad 0 = .ok (.iload_n 0, 1) := by decide +kernel
theorem dJ11_isValidCodePoint_9a6ad_1 : decode cJ11_isValidCodePoint_9a6ad 1 = .ok (.bipush 16, 2) := by decide +kernel
theorem dJ11_isValidCodePoint_9a6ad_3 : decode cJ11_isValidCodePoint_9a6ad 3 = .ok (.iushr, 1) := by decide +kernel
theorem dJ11_isValidCodePoint_9a6ad_4 : decode cJ11_isValidCodePoint_9a6ad 4 = .ok (.istore_n 1, 1) := by decide +kernel
theorem dJ11_isValidCodePoint_9a6ad_5 : decode cJ11_isValidCodePoint_9a6ad 5 = .ok (.iload_n 1, 1) := by decide +kernel
theorem dJ11_isValidCodePoint_9a6ad_6 : decode cJ11_isValidCodePoint_9a6ad 6 = .ok (.bipush 17, 2) := by decide +kernel
theorem dJ11_isValidCodePoint_9a6ad_8 : decode cJ11_isValidCodePoint_9a6ad 8 = .ok (.if_icmp .ge 7, 3) := by decide +kernel
theorem dJ11_isValidCodePoint_9a6ad_11 : decode cJ11_isValidCodePoint_9a6ad 11 = .ok (.iconst 1, 1) := by decide +kernel
theorem dJ11_isValidCodePoint_9a6ad_12 : decode cJ11_isValidCodePoint_9a6ad 12 = .ok (.goto 4, 3) := by decide +kernel
theorem dJ11_isValidCodePoint_9a6ad_15 : decode cJ11_isValidCodePoint_9a6ad 15 = .ok (.iconst 0, 1) := by decide +kernel
theorem dJ11_isValidCodePoint_9a6ad_16 : decode cJ11_isValidCodePoint_9a6ad 16 = .ok (.ireturn, 1) := by decide +kernel
theorem dJ11_highSurrogate_5068e_0 : decode cJ11_highSurrogate_5068e 0 = .ok (.iload_n 0, 1) := by decide +kernel
theorem dJ11_highSurrogate_5068e_1 : decode cJ11_highSurrogate_5068e 1 = .ok (.bipush 10, 2) := by decide +kernel
theorem dJ11_highSurrogate_5068e_3 : decode cJ11_highSurrogate_5068e 3 = .ok (.iushr, 1) := by decide +kernel
theorem dJ11_highSurrogate_5068e_4 : decode cJ11_highSurrogate_5068e 4 = .ok (.ldc 110, 2) := by decide +kernel
theorem dJ11_highSurrogate_5068e_6 : decode cJ11_highSurrogate_5068e 6 = .ok (.iadd, 1) := by decide +kernel
theorem dJ11_highSurrogate_5068e_7 : decode cJ11_highSurrogate_5068e 7 = .ok (.i2c, 1) := by decide +kernel
theorem dJ11_highSurrogate_5068e_8 : decode cJ11_highSurrogate_5068e 8 = .ok (.ireturn, 1) := by decide +kernel
theorem dJ11_lowSurrogate_5068e_0 : decode cJ11_lowSurrogate_5068e 0 = .ok (.iload_n 0, 1) := by decide +kernel
theorem dJ11_lowSurrogate_5068e_1 : decode cJ11_lowSurrogate_5068e 1 = .ok (.sipush 1023, 3) := by decide +kernel
theorem dJ11_lowSurrogate_5068e_4 : decode cJ11_lowSurrogate_5068e 4 = .ok (.iand, 1) := by decide +kernel
theorem dJ11_lowSurrogate_5068e_5 : decode cJ11_lowSurrogate_5068e 5 = .ok (.ldc 76, 2) := by decide +kernel
theorem dJ11_lowSurrogate_5068e_7 : decode cJ11_lowSurrogate_5068e 7 = .ok (.iadd, 1) := by decide +kernel
theorem dJ11_lowSurrogate_5068e_8 : decode cJ11_lowSurrogate_5068e 8 = .ok (.i2c, 1) := by decide +kernel
theorem dJ11_lowSurrogate_5068e_9 : decode cJ11_lowSurrogate_5068e 9 = .ok (.ireturn, 1) := by decide +kernel
theorem dJ6_bitCount_0f7a4_0 : decode cJ6_bitCount_0f7a4 0 = .ok (.iload_n 0, 1) := by decide +kernel
theorem dJ6_bitCount_0f7a4_1 : decode cJ6_bitCount_0f7a4 1 = .ok (.iload_n 0, 1) := by decide +kernel
theorem dJ6_bitCount_0f7a4_2 : decode cJ6_bitCount_0f7a4 2 = .ok (.iconst 1, 1) := by decide +kernel
theorem dJ6_bitCount_0f7a4_3 : decode cJ6_bitCount_0f7a4 3 = .ok (.iushr, 1) := by decide +kernel
theorem dJ6_bitCount_0f7a4_4 : decode cJ6_bitCount_0f7a4 4 = .ok (.ldc_w 265, 3) := by decide +kernel
theorem dJ6_bitCount_0f7a4_7 : decode cJ6_bitCount_0f7a4 7 = .ok (.iand, 1) := by decide +kernel
theorem dJ6_bitCount_0f7a4_8 : decode cJ6_bitCount_0f7a4 8 = .ok (.isub, 1) := by decide +kernel
theorem dJ6_bitCount_0f7a4_9 : decode cJ6_bitCount_0f7a4 9 = .ok (.istore_n 0, 1) := by decide +kernel
theorem dJ6_bitCount_0f7a4_10 : decode cJ6_bitCount_0f7a4 10 = .ok (.iload_n 0, 1) := by decide +kernel
theorem dJ6_bitCount_0f7a4_11 : decode cJ6_bitCount_0f7a4 11 = .ok (.ldc_w 266, 3) := by decide +kernel
theorem dJ6_bitCount_0f7a4_14 : decode cJ6_bitCount_0f7a4 14 = .ok (.iand, 1) := by decide +kernel
theorem dJ6_bitCount_0f7a4_15 : decode cJ6_bitCount_0f7a4 15 = .ok (.iload_n 0, 1) := by decide +kernel
theorem dJ6_bitCount_0f7a4_16 : decode cJ6_bitCount_0f7a4 16 = .ok (.iconst 2, 1) := by decide +kernel
theorem dJ6_bitCount_0f7a4_17 : decode cJ6_bitCount_0f7a4 17 = .ok (.iushr, 1) := by decide +kernel
theorem dJ6_bitCount_0f7a4_18 : decode cJ6_bitCount_0f7a4 18 = .ok (.ldc_w 266, 3) := by decide +kernel
theorem dJ6_bitCount_0f7a4_21 : decode cJ6_bitCount_0f7a4 21 = .ok (.iand, 1) := by decide +kernel
theorem dJ6_bitCount_0f7a4_22 : decode cJ6_bitCount_0f7a4 22 = .ok (.iadd, 1) := by decide +kernel
theorem dJ6_bitCount_0f7a4_23 : decode cJ6_bitCount_0f7a4 23 = .ok (.istore_n 0, 1) := by decide +kernel
theorem dJ6_bitCount_0f7a4_24 : decode cJ6_bitCount_0f7a4 24 = .ok (.iload_n 0, 1) := by decide +kernel
theorem dJ6_bitCount_0f7a4_25 : decode cJ6_bitCount_0f7a4 25 = .ok (.iload_n 0, 1) := by decide +kernel
theorem dJ6_bitCount_0f7a4_26 : decode cJ6_bitCount_0f7a4 26 = .ok (.iconst 4, 1) := by decide +kernel
theorem dJ6_bitCount_0f7a4_27 : decode cJ6_bitCount_0f7a4 27 = .ok (.iushr, 1) := by decide +kernel
theorem dJ6_bitCount_0f7a4_28 : decode cJ6_bitCount_0f7a4 28 = .ok (.iadd, 1) := by decide +kernel
theorem dJ6_bitCount_0f7a4_29 : decode cJ6_bitCount_0f7a4 29 = .ok (.ldc_w 267, 3) := by decide +kernel
theorem dJ6_bitCount_0f7a4_32 : decode cJ6_bitCount_0f7a4 32 = .ok (.iand, 1) := by decide +kernel
theorem dJ6_bitCount_0f7a4_33 : decode cJ6_bitCount_0f7a4 33 = .ok (.istore_n 0, 1) := by decide +kernel
theorem dJ6_bitCount_0f7a4_34 : decode cJ6_bitCount_0f7a4 34 = .ok (.iload_n 0, 1) := by decide +kernel
theorem dJ6_bitCount_0f7a4_35 : decode cJ6_bitCount_0f7a4 35 = .ok (.iload_n 0, 1) := by decide +kernel
theorem dJ6_bitCount_0f7a4_36 : decode cJ6_bitCount_0f7a4 36 = .ok (.bipush 8, 2) := by decide +kernel
theorem dJ6_bitCount_0f7a4_38 : decode cJ6_bitCount_0f7a4 38 = .ok (.iushr, 1) := by decide +kernel
theorem dJ6_bitCount_0f7a4_39 : decode cJ6_bitCount_0f7a4 39 = .ok (.iadd, 1) := by decide +kernel
theorem dJ6_bitCount_0f7a4_40 : decode cJ6_bitCount_0f7a4 40 = .ok (.istore_n 0, 1) := by decide +kernel
theorem dJ6_bitCount_0f7a4_41 : decode cJ6_bitCount_0f7a4 41 = .ok (.iload_n 0, 1) := by decide +kernel
theorem dJ6_bitCount_0f7a4_42 : decode cJ6_bitCount_0f7a4 42 = .ok (.iload_n 0, 1) := by decide +kernel
theorem dJ6_bitCount_0f7a4_43 : decode cJ6_bitCount_0f7a4 43 = .ok (.bipush 16, 2) := by decide +kernel
theorem dJ6_bitCount_0f7a4_45 : decode cJ6_bitCount_0f7a4 45 = .ok (.iushr, 1) := by decide +kernel
theorem dJ6_bitCount_0f7a4_46 : decode cJ6_bitCount_0f7a4 46 = .ok (.iadd, 1) := by decide +kernel
theorem dJ6_bitCount_0f7a4_47 : decode cJ6_bitCount_0f7a4 47 = .ok (.istore_n 0, 1) := by decide +kernel
theorem dJ6_bitCount_0f7a4_48 : decode cJ6_bitCount_0f7a4 48 = .ok (.iload_n 0, 1) := by decide +kernel
theorem dJ6_bitCount_0f7a4_49 : decode cJ6_bitCount_0f7a4 49 = .ok (.bipush 63, 2) := by decide +kernel
theorem dJ6_bitCount_0f7a4_51 : decode cJ6_bitCount_0f7a4 51 = .ok (.iand, 1) := by decide +kernel
theorem dJ6_bitCount_0f7a4_52 : decode cJ6_bitCount_0f7a4 52 = .ok (.ireturn, 1) := by decide +kernel
theorem dJ13_bitCount_95d88_0 : decode cJ13_bitCount_95d88 0 = .ok (.lload_n 0, 1) := by decide +kernel
theorem dJ13_bitCount_95d88_1 : decode cJ13_bitCount_95d88 1 = .ok (.lload_n 0, 1) := by decide +kernel
theorem dJ13_bitCount_95d88_2 : decode cJ13_bitCount_95d88 2 = .ok (.iconst 1, 1) := by decide +kernel
theorem dJ13_bitCount_95d88_3 : decode cJ13_bitCount_95d88 3 = .ok (.lushr, 1) := by decide +kernel
theorem dJ13_bitCount_95d88_4 : decode cJ13_bitCount_95d88 4 = .ok (.ldc2_w 314, 3) := by decide +kernel
theorem dJ13_bitCount_95d88_7 : decode cJ13_bitCount_95d88 7 = .ok (.land, 1) := by decide +kernel
theorem dJ13_bitCount_95d88_8 : decode cJ13_bitCount_95d88 8 = .ok (.lsub, 1) := by decide +kernel
theorem dJ13_bitCount_95d88_9 : decode cJ13_bitCount_95d88 9 = .ok (.lstore_n 0, 1) := by decide +kernel
theorem dJ13_bitCount_95d88_10 : decode cJ13_bitCount_95d88 10 = .ok (.lload_n 0, 1) := by decide +kernel
theorem dJ13_bitCount_95d88_11 : decode cJ13_bitCount_95d88 11 = .ok (.ldc2_w 316, 3) := by decide +kernel
theorem dJ13_bitCount_95d88_14 : decode cJ13_bitCount_95d88 14 = .ok (.land, 1) := by decide +kernel
theorem dJ13_bitCount_95d88_15 : decode cJ13_bitCount_95d88 15 = .ok (.lload_n 0, 1) := by decide +kernel
theorem dJ13_bitCount_95d88_16 : decode cJ13_bitCount_95d88 16 = .ok (.iconst 2, 1) := by decide +kernel
theorem dJ13_bitCount_95d88_17 : decode cJ13_bitCount_95d88 17 = .ok (.lushr, 1) := by decide +kernel
theorem dJ13_bitCount_95d88_18 : decode cJ13_bitCount_95d88 18 = .ok (.ldc2_w 316, 3) := by decide +kernel
theorem dJ13_bitCount_95d88_21 : decode cJ13_bitCount_95d88 21 = .ok (.land, 1) := by decide +kernel
theorem dJ13_bitCount_95d88_22 : decode cJ13_bitCount_95d88 22 = .ok (.ladd, 1) := by decide +kernel
theorem dJ13_bitCount_95d88_23 : decode cJ13_bitCount_95d88 23 = .ok (.lstore_n 0, 1) := by decide +kernel
theorem dJ13_bitCount_95d88_24 : decode cJ13_bitCount_95d88 24 = .ok (.lload_n 0, 1) := by decide +kernel
theorem dJ13_bitCount_95d88_25 : decode cJ13_bitCount_95d88 25 = .ok (.lload_n 0, 1) := by decide +kernel
theorem dJ13_bitCount_95d88_26 : decode cJ13_bitCount_95d88 26 = .ok (.iconst 4, 1) := by decide +kernel
theorem dJ13_bitCount_95d88_27 : decode cJ13_bitCount_95d88 27 = .ok (.lushr, 1) := by decide +kernel
theorem dJ13_bitCount_95d88_28 : decode cJ13_bitCount_95d88 28 = .ok (.ladd, 1) := by decide +kernel
theorem dJ13_bitCount_95d88_29 : decode cJ13_bitCount_95d88 29 = .ok (.ldc2_w 318, 3) := by decide +kernel
theorem dJ13_bitCount_95d88_32 : decode cJ13_bitCount_95d88 32 = .ok (.land, 1) := by decide +kernel
theorem dJ13_bitCount_95d88_33 : decode cJ13_bitCount_95d88 33 = .ok (.lstore_n 0, 1) := by decide +kernel
theorem dJ13_bitCount_95d88_34 : decode cJ13_bitCount_95d88 34 = .ok (.lload_n 0, 1) := by decide +kernel
theorem dJ13_bitCount_95d88_35 : decode cJ13_bitCount_95d88 35 = .ok (.lload_n 0, 1) := by decide +kernel
theorem dJ13_bitCount_95d88_36 : decode cJ13_bitCount_95d88 36 = .ok (.bipush 8, 2) := by decide +kernel
theorem dJ13_bitCount_95d88_38 : decode cJ13_bitCount_95d88 38 = .ok (.lushr, 1) := by decide +kernel
theorem dJ13_bitCount_95d88_39 : decode cJ13_bitCount_95d88 39 = .ok (.ladd, 1) := by decide +kernel
theorem dJ13_bitCount_95d88_40 : decode cJ13_bitCount_95d88 40 = .ok (.lstore_n 0, 1) := by decide +kernel
theorem dJ13_bitCount_95d88_41 : decode cJ13_bitCount_95d88 41 = .ok (.lload_n 0, 1) := by decide +kernel
theorem dJ13_bitCount_95d88_42 : decode cJ13_bitCount_95d88 42 = .ok (.lload_n 0, 1) := by decide +kernel
theorem dJ13_bitCount_95d88_43 : decode cJ13_bitCount_95d88 43 = .ok (.bipush 16, 2) := by decide +kernel
theorem dJ13_bitCount_95d88_45 : decode cJ13_bitCount_95d88 45 = .ok (.lushr, 1) := by decide +kernel
theorem dJ13_bitCount_95d88_46 : decode cJ13_bitCount_95d88 46 = .ok (.ladd, 1) := by decide +kernel
theorem dJ13_bitCount_95d88_47 : decode cJ13_bitCount_95d88 47 = .ok (.lstore_n 0, 1) := by decide +kernel
theorem dJ13_bitCount_95d88_48 : decode cJ13_bitCount_95d88 48 = .ok (.lload_n 0, 1) := by decide +kernel
theorem dJ13_bitCount_95d88_49 : decode cJ13_bitCount_95d88 49 = .ok (.lload_n 0, 1) := by decide +kernel
theorem dJ13_bitCount_95d88_50 : decode cJ13_bitCount_95d88 50 = .ok (.bipush 32, 2) := by decide +kernel
theorem dJ13_bitCount_95d88_52 : decode cJ13_bitCount_95d88 52 = .ok (.lushr, 1) := by decide +kernel
theorem dJ13_bitCount_95d88_53 : decode cJ13_bitCount_95d88 53 = .ok (.ladd, 1) := by decide +kernel
theorem dJ13_bitCount_95d88_54 : decode cJ13_bitCount_95d88 54 = .ok (.lstore_n 0, 1) := by decide +kernel
theorem dJ13_bitCount_95d88_55 : decode cJ13_bitCount_95d88 55 = .ok (.lload_n 0, 1) := by decide +kernel
theorem dJ13_bitCount_95d88_56 : decode cJ13_bitCount_95d88 56 = .ok (.l2i, 1) := by decide +kernel
theorem dJ13_bitCount_95d88_57 : decode cJ13_bitCount_95d88 57 = .ok (.bipush 127, 2) := by decide +kernel
theorem dJ13_bitCount_95d88_59 : decode cJ13_bitCount_95d88 59 = .ok (.iand, 1) := by decide +kernel
theorem dJ13_bitCount_95d88_60 : decode cJ13_bitCount_95d88 60 = .ok (.ireturn, 1) := by decide +kernel
theorem dJ9_max_7cf53_0 : decode cJ9_max_7cf53 0 = .ok (.iload_n 0, 1) := by decide +kernel
theorem dJ9_max_7cf53_1 : decode cJ9_max_7cf53 1 = .ok (.iload_n 1, 1) := by decide +kernel
theorem dJ9_max_7cf53_2 : decode cJ9_max_7cf53 2 = .ok (.if_icmp .lt 7, 3) := by decide +kernel
theorem dJ9_max_7cf53_5 : decode cJ9_max_7cf53 5 = .ok (.iload_n 0, 1) := by decide +kernel
theorem dJ9_max_7cf53_6 : decode cJ9_max_7cf53 6 = .ok (.goto 4, 3) := by decide +kernel
theorem dJ9_max_7cf53_9 : decode cJ9_max_7cf53 9 = .ok (.iload_n 1, 1) := by decide +kernel
theorem dJ9_max_7cf53_10 : decode cJ9_max_7cf53 10 = .ok (.ireturn, 1) := by decide +kernel
theorem dJ9_min_7cf53_0 : decode cJ9_min_7cf53 0 = .ok (.iload_n 0, 1) := by decide +kernel
theorem dJ9_min_7cf53_1 : decode cJ9_min_7cf53 1 = .ok (.iload_n 1, 1) := by decide +kernel
theorem dJ9_min_7cf53_2 : decode cJ9_min_7cf53 2 = .ok (.if_icmp .gt 7, 3) := by decide +kernel
theorem dJ9_min_7cf53_5 : decode cJ9_min_7cf53 5 = .ok (.iload_n 0, 1) := by decide +kernel
theorem dJ9_min_7cf53_6 : decode cJ9_min_7cf53 6 = .ok (.goto 4, 3) := by decide +kernel
theorem dJ9_min_7cf53_9 : decode cJ9_min_7cf53 9 = .ok (.iload_n 1, 1) := by decide +kernel
theorem dJ9_min_7cf53_10 : decode cJ9_min_7cf53 10 = .ok (.ireturn, 1) := by decide +kernel
theorem dJ0_length_8abf5_0 : decode cJ0_length_8abf5 0 = .ok (.aload_n 0, 1) := by decide +kernel
theorem dJ0_length_8abf5_1 : decode cJ0_length_8abf5 1 = .ok (.getfield 9, 3) := by decide +kernel
theorem dJ0_length_8abf5_4 : decode cJ0_length_8abf5 4 = .ok (.arraylength, 1) := by decide +kernel
theorem dJ0_length_8abf5_5 : decode cJ0_length_8abf5 5 = .ok (.aload_n 0, 1) := by decide +kernel
theorem dJ0_length_8abf5_6 : decode cJ0_length_8abf5 6 = .ok (.invokevirtual 335, 3) := by decide +kernel
theorem dJ0_length_8abf5_9 : decode cJ0_length_8abf5 9 = .ok (.ishr, 1) := by decide +kernel
theorem dJ0_length_8abf5_10 : decode cJ0_length_8abf5 10 = .ok (.ireturn, 1) := by decide +kernel
theorem dJ0_charAt_5068e_0 : decode cJ0_charAt_5068e 0 = .ok (.aload_n 0, 1) := by decide +kernel
theorem dJ0_charAt_5068e_1 : decode cJ0_charAt_5068e 1 = .ok (.invokevirtual 492, 3) := by decide +kernel
theorem dJ0_charAt_5068e_4 : decode cJ0_charAt_5068e 4 = .ok (.ifCond .eq 12, 3) := by decide +kernel
theorem dJ0_charAt_5068e_7 : decode cJ0_charAt_5068e 7 = .ok (.aload_n 0, 1) := by decide +kernel
theorem dJ0_charAt_5068e_8 : decode cJ0_charAt_5068e 8 = .ok (.getfield 9, 3) := by decide +kernel
theorem dJ0_charAt_5068e_11 : decode cJ0_charAt_5068e 11 = .ok (.iload_n 1, 1) := by decide +kernel
theorem dJ0_charAt_5068e_12 : decode cJ0_charAt_5068e 12 = .ok (.invokestatic 495, 3) := by decide +kernel
theorem dJ0_charAt_5068e_15 : decode cJ0_charAt_5068e 15 = .ok (.ireturn, 1) := by decide +kernel
theorem dJ0_charAt_5068e_16 : decode cJ0_charAt_5068e 16 = .ok (.aload_n 0, 1) := by decide +kernel
theorem dJ0_charAt_5068e_17 : decode cJ0_charAt_5068e 17 = .ok (.getfield 9, 3) := by decide +kernel
theorem dJ0_charAt_5068e_20 : decode cJ0_charAt_5068e 20 = .ok (.iload_n 1, 1) := by decide +kernel
theorem dJ0_charAt_5068e_21 : decode cJ0_charAt_5068e 21 = .ok (.invokestatic 498, 3) := by decide +kernel
theorem dJ0_charAt_5068e_24 : decode cJ0_charAt_5068e 24 = .ok (.ireturn, 1) := by decide +kernel
theorem dJ0_indexOf_0f7a4_0 : decode cJ0_indexOf_0f7a4 0 = .ok (.aload_n 0, 1) := by decide +kernel
theorem dJ0_indexOf_0f7a4_1 : decode cJ0_indexOf_0f7a4 1 = .ok (.iload_n 1, 1) := by decide +kernel
theorem dJ0_indexOf_0f7a4_2 : decode cJ0_indexOf_0f7a4 2 = .ok (.iconst 0, 1) := by decide +kernel
theorem dJ0_indexOf_0f7a4_3 : decode cJ0_indexOf_0f7a4 3 = .ok (.invokevirtual 633, 3) := by decide +kernel
theorem dJ0_indexOf_0f7a4_6 : decode cJ0_indexOf_0f7a4 6 = .ok (.ireturn, 1) := by decide +kernel
theorem dJ0_indexOf_7cf53_0 : decode cJ0_indexOf_7cf53 0 = .ok (.aload_n 0, 1) := by decide +kernel
theorem dJ0_indexOf_7cf53_1 : decode cJ0_indexOf_7cf53 1 = .ok (.invokevirtual 492, 3) := by decide +kernel
theorem dJ0_indexOf_7cf53_4 : decode cJ0_indexOf_7cf53 4 = .ok (.ifCond .eq 19, 3) := by decide +kernel
theorem dJ0_indexOf_7cf53_7 : decode cJ0_indexOf_7cf53 7 = .ok (.aload_n 0, 1) := by decide +kernel
theorem dJ0_indexOf_7cf53_8 : decode cJ0_indexOf_7cf53 8 = .ok (.getfield 9, 3) := by decide +kernel
theorem dJ0_indexOf_7cf53_11 : decode cJ0_indexOf_7cf53 11 = .ok (.iload_n 1, 1) := by decide +kernel
theorem dJ0_indexOf_7cf53_12 : decode cJ0_indexOf_7cf53 12 = .ok (.iload_n 2, 1) := by decide +kernel
theorem dJ0_indexOf_7cf53_13 : decode cJ0_indexOf_7cf53 13 = .ok (.aload_n 0, 1) := by decide +kernel
theorem dJ0_indexOf_7cf53_14 : decode cJ0_indexOf_7cf53 14 = .ok (.invokevirtual 505, 3) := by decide +kernel
theorem dJ0_indexOf_7cf53_17 : decode cJ0_indexOf_7cf53 17 = .ok (.invokestatic 637, 3) := by decide +kernel
theorem dJ0_indexOf_7cf53_20 : decode cJ0_indexOf_7cf53 20 = .ok (.goto 16, 3) := by decide +kernel
theorem dJ0_indexOf_7cf53_23 : decode cJ0_indexOf_7cf53 23 = .ok (.aload_n 0, 1) := by decide +kernel
theorem dJ0_indexOf_7cf53_24 : decode cJ0_indexOf_7cf53 24 = .ok (.getfield 9, 3) := by decide +kernel
theorem dJ0_indexOf_7cf53_27 : decode cJ0_indexOf_7cf53 27 = .ok (.iload_n 1, 1) := by decide +kernel
theorem dJ0_indexOf_7cf53_28 : decode cJ0_indexOf_7cf53 28 = .ok (.iload_n 2, 1) := by decide +kernel
theorem dJ0_indexOf_7cf53_29 : decode cJ0_indexOf_7cf53 29 = .ok (.aload_n 0, 1) := by decide +kernel
theorem dJ0_indexOf_7cf53_30 : decode cJ0_indexOf_7cf53 30 = .ok (.invokevirtual 505, 3) := by decide +kernel
theorem dJ0_indexOf_7cf53_33 : decode cJ0_indexOf_7cf53 33 = .ok (.invokestatic 640, 3) := by decide +kernel
theorem dJ0_indexOf_7cf53_36 : decode cJ0_indexOf_7cf53 36 = .ok (.ireturn, 1) := by decide +kernel
theorem dJ0_coder_7d493_0 : decode cJ0_coder_7d493 0 = .ok (.getstatic 38, 3) := by decide +kernel
theorem dJ0_coder_7d493_3 : decode cJ0_coder_7d493 3 = .ok (.ifCond .eq 10, 3) := by decide +kernel
theorem dJ0_coder_7d493_6 : decode cJ0_coder_7d493 6 = .ok (.aload_n 0, 1) := by decide +kernel
theorem dJ0_coder_7d493_7 : decode cJ0_coder_7d493 7 = .ok (.getfield 15, 3) := by decide +kernel
theorem dJ0_coder_7d493_10 : decode cJ0_coder_7d493 10 = .ok (.goto 4, 3) := by decide +kernel
theorem dJ0_coder_7d493_13 : decode cJ0_coder_7d493 13 = .ok (.iconst 1, 1) := by decide +kernel
theorem dJ0_coder_7d493_14 : decode cJ0_coder_7d493 14 = .ok (.ireturn, 1) := by decide +kernel
theorem dJ0_isLatin1_aae02_0 : decode cJ0_isLatin1_aae02 0 = .ok (.getstatic 38, 3) := by decide +kernel
theorem dJ0_isLatin1_aae02_3 : decode cJ0_isLatin1_aae02 3 = .ok (.ifCond .eq 14, 3) := by decide +kernel
theorem dJ0_isLatin1_aae02_6 : decode cJ0_isLatin1_aae02 6 = .ok (.aload_n 0, 1) := by decide +kernel
theorem dJ0_isLatin1_aae02_7 : decode cJ0_isLatin1_aae02 7 = .ok (.getfield 15, 3) := by decide +kernel
theorem dJ0_isLatin1_aae02_10 : decode cJ0_isLatin1_aae02 10 = .ok (.ifCond .ne 7, 3) := by decide +kernel
theorem dJ0_isLatin1_aae02_13 : decode cJ0_isLatin1_aae02 13 = .ok (.iconst 1, 1) := by decide +kernel
theorem dJ0_isLatin1_aae02_14 : decode cJ0_isLatin1_aae02 14 = .ok (.goto 4, 3) := by decide +kernel
theorem dJ0_isLatin1_aae02_17 : decode cJ0_isLatin1_aae02 17 = .ok (.iconst 0, 1) := by decide +kernel
theorem dJ0_isLatin1_aae02_18 : decode cJ0_isLatin1_aae02 18 = .ok (.ireturn, 1) := by decide +kernel
theorem dJ0_checkIndex_df160_0 : decode cJ0_checkIndex_df160 0 = .ok (.iload_n 0, 1) := by decide +kernel
theorem dJ0_checkIndex_df160_1 : decode cJ0_checkIndex_df160 1 = .ok (.iload_n 1, 1) := by decide +kernel
theorem dJ0_checkIndex_df160_2 : decode cJ0_checkIndex_df160 2 = .ok (.getstatic 1053, 3) := by decide +kernel
theorem dJ0_checkIndex_df160_5 : decode cJ0_checkIndex_df160 5 = .ok (.invokestatic 1059, 3) := by decide +kernel
theorem dJ0_checkIndex_df160_8 : decode cJ0_checkIndex_df160 8 = .ok (.pop, 1) := by decide +kernel
theorem dJ0_checkIndex_df160_9 : decode cJ0_checkIndex_df160 9 = .ok (.return_, 1) := by decide +kernel
theorem dJ0_checkBoundsOffCount_cabcc_0 : decode cJ0_checkBoundsOffCount_cabcc 0 = .ok (.iload_n 0, 1) := by decide +kernel
theorem dJ0_checkBoundsOffCount_cabcc_1 : decode cJ0_checkBoundsOffCount_cabcc 1 = .ok (.iload_n 1, 1) := by decide +kernel
theorem dJ0_checkBoundsOffCount_cabcc_2 : decode cJ0_checkBoundsOffCount_cabcc 2 = .ok (.iload_n 2, 1) := by decide +kernel
theorem dJ0_checkBoundsOffCount_cabcc_3 : decode cJ0_checkBoundsOffCount_cabcc 3 = .ok (.getstatic 1053, 3) := by decide +kernel
theorem dJ0_checkBoundsOffCount_cabcc_6 : decode cJ0_checkBoundsOffCount_cabcc 6 = .ok (.invokestatic 1065, 3) := by decide +kernel
theorem dJ0_checkBoundsOffCount_cabcc_9 : decode cJ0_checkBoundsOffCount_cabcc 9 = .ok (.ireturn, 1) := by decide +kernel
theorem dJ0_checkBoundsBeginEnd_23922_0 : decode cJ0_checkBoundsBeginEnd_23922 0 = .ok (.iload_n 0, 1) := by decide +kernel
theorem dJ0_checkBoundsBeginEnd_23922_1 : decode cJ0_checkBoundsBeginEnd_23922 1 = .ok (.iload_n 1, 1) := by decide +kernel
theorem dJ0_checkBoundsBeginEnd_23922_2 : decode cJ0_checkBoundsBeginEnd_23922 2 = .ok (.iload_n 2, 1) := by decide +kernel
theorem dJ0_checkBoundsBeginEnd_23922_3 : decode cJ0_checkBoundsBeginEnd_23922 3 = .ok (.getstatic 1053, 3) := by decide +kernel
theorem dJ0_checkBoundsBeginEnd_23922_6 : decode cJ0_checkBoundsBeginEnd_23922 6 = .ok (.invokestatic 1062, 3) := by decide +kernel
theorem dJ0_checkBoundsBeginEnd_23922_9 : decode cJ0_checkBoundsBeginEnd_23922 9 = .ok (.pop, 1) := by decide +kernel
theorem dJ0_checkBoundsBeginEnd_23922_10 : decode cJ0_checkBoundsBeginEnd_23922 10 = .ok (.return_, 1) := by decide +kernel
theorem dJ4_init_da8c8_0 : decode cJ4_init_da8c8 0 = .ok (.aload_n 0, 1) := by decide +kernel
theorem dJ4_init_da8c8_1 : decode cJ4_init_da8c8 1 = .ok (.bipush 16, 2) := by decide +kernel
theorem dJ4_init_da8c8_3 : decode cJ4_init_da8c8 3 = .ok (.invokespecial 1, 3) := by decide +kernel
theorem dJ4_init_da8c8_6 : decode cJ4_init_da8c8 6 = .ok (.return_, 1) := by decide +kernel
theorem dJ4_append_cf468_0 : decode cJ4_append_cf468 0 = .ok (.aload_n 0, 1) := by decide +kernel
theorem dJ4_append_cf468_1 : decode cJ4_append_cf468 1 = .ok (.iload_n 1, 1) := by decide +kernel
theorem dJ4_append_cf468_2 : decode cJ4_append_cf468 2 = .ok (.invokespecial 50, 3) := by decide +kernel
theorem dJ4_append_cf468_5 : decode cJ4_append_cf468 5 = .ok (.pop, 1) := by decide +kernel
theorem dJ4_append_cf468_6 : decode cJ4_append_cf468 6 = .ok (.aload_n 0, 1) := by decide +kernel
theorem dJ4_append_cf468_7 : decode cJ4_append_cf468 7 = .ok (.areturn, 1) := by decide +kernel
theorem dJ4_charAt_5068e_0 : decode cJ4_charAt_5068e 0 = .ok (.aload_n 0, 1) := by decide +kernel
theorem dJ4_charAt_5068e_1 : decode cJ4_charAt_5068e 1 = .ok (.iload_n 1, 1) := by decide +kernel
theorem dJ4_charAt_5068e_2 : decode cJ4_charAt_5068e 2 = .ok (.invokespecial 329, 3) := by decide +kernel
theorem dJ4_charAt_5068e_5 : decode cJ4_charAt_5068e 5 = .ok (.ireturn, 1) := by decide +kernel
theorem dJ4_setLength_d00df_0 : decode cJ4_setLength_d00df 0 = .ok (.aload_n 0, 1) := by decide +kernel
theorem dJ4_setLength_d00df_1 : decode cJ4_setLength_d00df 1 = .ok (.iload_n 1, 1) := by decide +kernel
theorem dJ4_setLength_d00df_2 : decode cJ4_setLength_d00df 2 = .ok (.invokespecial 333, 3) := by decide +kernel
theorem dJ4_setLength_d00df_5 : decode cJ4_setLength_d00df 5 = .ok (.return_, 1) := by decide +kernel
theorem dJ4_length_8abf5_0 : decode cJ4_length_8abf5 0 = .ok (.aload_n 0, 1) := by decide +kernel
theorem dJ4_length_8abf5_1 : decode cJ4_length_8abf5 1 = .ok (.invokespecial 343, 3) := by decide +kernel
theorem dJ4_length_8abf5_4 : decode cJ4_length_8abf5 4 = .ok (.ireturn, 1) := by decide +kernel
theorem dJ1_charAt_3b067_0 : decode cJ1_charAt_3b067 0 = .ok (.iload_n 1, 1) := by decide +kernel
theorem dJ1_charAt_3b067_1 : decode cJ1_charAt_3b067 1 = .ok (.aload_n 0, 1) := by decide +kernel
theorem dJ1_charAt_3b067_2 : decode cJ1_charAt_3b067 2 = .ok (.arraylength, 1) := by decide +kernel
theorem dJ1_charAt_3b067_3 : decode cJ1_charAt_3b067 3 = .ok (.invokestatic 9, 3) := by decide +kernel
theorem dJ1_charAt_3b067_6 : decode cJ1_charAt_3b067 6 = .ok (.aload_n 0, 1) := by decide +kernel
theorem dJ1_charAt_3b067_7 : decode cJ1_charAt_3b067 7 = .ok (.iload_n 1, 1) := by decide +kernel
theorem dJ1_charAt_3b067_8 : decode cJ1_charAt_3b067 8 = .ok (.baload, 1) := by decide +kernel
theorem dJ1_charAt_3b067_9 : decode cJ1_charAt_3b067 9 = .ok (.sipush 255, 3) := by decide +kernel
theorem dJ1_charAt_3b067_12 : decode cJ1_charAt_3b067 12 = .ok (.iand, 1) := by decide +kernel
theorem dJ1_charAt_3b067_13 : decode cJ1_charAt_3b067 13 = .ok (.i2c, 1) := by decide +kernel
theorem dJ1_charAt_3b067_14 : decode cJ1_charAt_3b067 14 = .ok (.ireturn, 1) := by decide +kernel
theorem dJ1_canEncode_fc78d_0 : decode cJ1_canEncode_fc78d 0 = .ok (.iload_n 0, 1) := by decide +kernel
theorem dJ1_canEncode_fc78d_1 : decode cJ1_canEncode_fc78d 1 = .ok (.sipush 255, 3) := by decide +kernel
theorem dJ1_canEncode_fc78d_4 : decode cJ1_canEncode_fc78d 4 = .ok (.if_icmp .gt 7, 3) := by decide +kernel
theorem dJ1_canEncode_fc78d_7 : decode cJ1_canEncode_fc78d 7 = .ok (.iconst 1, 1) := by decide +kernel
theorem dJ1_canEncode_fc78d_8 : decode cJ1_canEncode_fc78d 8 = .ok (.goto 4, 3) := by decide +kernel
theorem dJ1_canEncode_fc78d_11 : decode cJ1_canEncode_fc78d 11 = .ok (.iconst 0, 1) := by decide +kernel
theorem dJ1_canEncode_fc78d_12 : decode cJ1_canEncode_fc78d 12 = .ok (.ireturn, 1) := by decide +kernel
theorem dJ1_canEncode_9a6ad_0 : decode cJ1_canEncode_9a6ad 0 = .ok (.iload_n 0, 1) := by decide +kernel
theorem dJ1_canEncode_9a6ad_1 : decode cJ1_canEncode_9a6ad 1 = .ok (.ifCond .lt 14, 3) := by decide +kernel
theorem dJ1_canEncode_9a6ad_4 : decode cJ1_canEncode_9a6ad 4 = .ok (.iload_n 0, 1) := by decide +kernel
theorem dJ1_canEncode_9a6ad_5 : decode cJ1_canEncode_9a6ad 5 = .ok (.sipush 255, 3) := by decide +kernel
theorem dJ1_canEncode_9a6ad_8 : decode cJ1_canEncode_9a6ad 8 = .ok (.if_icmp .gt 7, 3) := by decide +kernel
theorem dJ1_canEncode_9a6ad_11 : decode cJ1_canEncode_9a6ad 11 = .ok (.iconst 1, 1) := by decide +kernel
theorem dJ1_canEncode_9a6ad_12 : decode cJ1_canEncode_9a6ad 12 = .ok (.goto 4, 3) := by decide +kernel
theorem dJ1_canEncode_9a6ad_15 : decode cJ1_canEncode_9a6ad 15 = .ok (.iconst 0, 1) := by decide +kernel
theorem dJ1_canEncode_9a6ad_16 : decode cJ1_canEncode_9a6ad 16 = .ok (.ireturn, 1) := by decide +kernel
theorem dJ1_indexOf_4cfef_0 : decode cJ1_indexOf_4cfef 0 = .ok (.iload_n 1, 1) := by decide +kernel
theorem dJ1_indexOf_4cfef_1 : decode cJ1_indexOf_4cfef 1 = .ok (.invokestatic 88, 3) := by decide +kernel
theorem dJ1_indexOf_4cfef_4 : decode cJ1_indexOf_4cfef 4 = .ok (.ifCond .ne 5, 3) := by decide +kernel
theorem dJ1_indexOf_4cfef_7 : decode cJ1_indexOf_4cfef 7 = .ok (.iconst (-1), 1) := by decide +kernel
theorem dJ1_indexOf_4cfef_8 : decode cJ1_indexOf_4cfef 8 = .ok (.ireturn, 1) := by decide +kernel
theorem dJ1_indexOf_4cfef_9 : decode cJ1_indexOf_4cfef 9 = .ok (.iload_n 2, 1) := by decide +kernel
theorem dJ1_indexOf_4cfef_10 : decode cJ1_indexOf_4cfef 10 = .ok (.iconst 0, 1) := by decide +kernel
theorem dJ1_indexOf_4cfef_11 : decode cJ1_indexOf_4cfef 11 = .ok (.invokestatic 92, 3) := by decide +kernel
theorem dJ1_indexOf_4cfef_14 : decode cJ1_indexOf_4cfef 14 = .ok (.istore_n 2, 1) := by decide +kernel
theorem dJ1_indexOf_4cfef_15 : decode cJ1_indexOf_4cfef 15 = .ok (.iload_n 3, 1) := by decide +kernel
theorem dJ1_indexOf_4cfef_16 : decode cJ1_indexOf_4cfef 16 = .ok (.aload_n 0, 1) := by decide +kernel
theorem dJ1_indexOf_4cfef_17 : decode cJ1_indexOf_4cfef 17 = .ok (.arraylength, 1) := by decide +kernel
theorem dJ1_indexOf_4cfef_18 : decode cJ1_indexOf_4cfef 18 = .ok (.invokestatic 38, 3) := by decide +kernel
theorem dJ1_indexOf_4cfef_21 : decode cJ1_indexOf_4cfef 21 = .ok (.istore_n 3, 1) := by decide +kernel
theorem dJ1_indexOf_4cfef_22 : decode cJ1_indexOf_4cfef 22 = .ok (.iload_n 2, 1) := by decide +kernel
theorem dJ1_indexOf_4cfef_23 : decode cJ1_indexOf_4cfef 23 = .ok (.iload_n 3, 1) := by decide +kernel
theorem dJ1_indexOf_4cfef_24 : decode cJ1_indexOf_4cfef 24 = .ok (.if_icmp .lt 5, 3) := by decide +kernel
theorem dJ1_indexOf_4cfef_27 : decode cJ1_indexOf_4cfef 27 = .ok (.iconst (-1), 1) := by decide +kernel
theorem dJ1_indexOf_4cfef_28 : decode cJ1_indexOf_4cfef 28 = .ok (.ireturn, 1) := by decide +kernel
theorem dJ1_indexOf_4cfef_29 : decode cJ1_indexOf_4cfef 29 = .ok (.aload_n 0, 1) := by decide +kernel
theorem dJ1_indexOf_4cfef_30 : decode cJ1_indexOf_4cfef 30 = .ok (.iload_n 1, 1) := by decide +kernel
theorem dJ1_indexOf_4cfef_31 : decode cJ1_indexOf_4cfef 31 = .ok (.iload_n 2, 1) := by decide +kernel
theorem dJ1_indexOf_4cfef_32 : decode cJ1_indexOf_4cfef 32 = .ok (.iload_n 3, 1) := by decide +kernel
theorem dJ1_indexOf_4cfef_33 : decode cJ1_indexOf_4cfef 33 = .ok (.invokestatic 95, 3) := by decide +kernel
theorem dJ1_indexOf_4cfef_36 : decode cJ1_indexOf_4cfef 36 = .ok (.ireturn, 1) := by decide +kernel
theorem dJ1_indexOfChar_4cfef_0 : decode cJ1_indexOfChar_4cfef 0 = .ok (.iload_n 1, 1) := by decide +kernel
theorem dJ1_indexOfChar_4cfef_1 : decode cJ1_indexOfChar_4cfef 1 = .ok (.i2b, 1) := by decide +kernel
theorem dJ1_indexOfChar_4cfef_2 : decode cJ1_indexOfChar_4cfef 2 = .ok (.istore 4, 2) := by decide +kernel
theorem dJ1_indexOfChar_4cfef_4 : decode cJ1_indexOfChar_4cfef 4 = .ok (.iload_n 2, 1) := by decide +kernel
theorem dJ1_indexOfChar_4cfef_5 : decode cJ1_indexOfChar_4cfef 5 = .ok (.istore 5, 2) := by decide +kernel
theorem dJ1_indexOfChar_4cfef_7 : decode cJ1_indexOfChar_4cfef 7 = .ok (.iload 5, 2) := by decide +kernel
theorem dJ1_indexOfChar_4cfef_9 : decode cJ1_indexOfChar_4cfef 9 = .ok (.iload_n 3, 1) := by decide +kernel
theorem dJ1_indexOfChar_4cfef_10 : decode cJ1_indexOfChar_4cfef 10 = .ok (.if_icmp .ge 21, 3) := by decide +kernel
theorem dJ1_indexOfChar_4cfef_13 : decode cJ1_indexOfChar_4cfef 13 = .ok (.aload_n 0, 1) := by decide +kernel
theorem dJ1_indexOfChar_4cfef_14 : decode cJ1_indexOfChar_4cfef 14 = .ok (.iload 5, 2) := by decide +kernel
theorem dJ1_indexOfChar_4cfef_16 : decode cJ1_indexOfChar_4cfef 16 = .ok (.baload, 1) := by decide +kernel
theorem dJ1_indexOfChar_4cfef_17 : decode cJ1_indexOfChar_4cfef 17 = .ok (.iload 4, 2) := by decide +kernel
theorem dJ1_indexOfChar_4cfef_19 : decode cJ1_indexOfChar_4cfef 19 = .ok (.if_icmp .ne 6, 3) := by decide +kernel
theorem dJ1_indexOfChar_4cfef_22 : decode cJ1_indexOfChar_4cfef 22 = .ok (.iload 5, 2) := by decide +kernel
theorem dJ1_indexOfChar_4cfef_24 : decode cJ1_indexOfChar_4cfef 24 = .ok (.ireturn, 1) := by decide +kernel
theorem dJ1_indexOfChar_4cfef_25 : decode cJ1_indexOfChar_4cfef 25 = .ok (.iinc 5 1, 3) := by decide +kernel
theorem dJ1_indexOfChar_4cfef_28 : decode cJ1_indexOfChar_4cfef 28 = .ok (.goto (-21), 3) := by decide +kernel
theorem dJ1_indexOfChar_4cfef_31 : decode cJ1_indexOfChar_4cfef 31 = .ok (.iconst (-1), 1) := by decide +kernel
theorem dJ1_indexOfChar_4cfef_32 : decode cJ1_indexOfChar_4cfef 32 = .ok (.ireturn, 1) := by decide +kernel
theorem dJ1_fillNull_b72d1_0 : decode cJ1_fillNull_b72d1 0 = .ok (.aload_n 0, 1) := by decide +kernel
theorem dJ1_fillNull_b72d1_1 : decode cJ1_fillNull_b72d1 1 = .ok (.iload_n 1, 1) := by decide +kernel
theorem dJ1_fillNull_b72d1_2 : decode cJ1_fillNull_b72d1 2 = .ok (.iload_n 2, 1) := by decide +kernel
theorem dJ1_fillNull_b72d1_3 : decode cJ1_fillNull_b72d1 3 = .ok (.iconst 0, 1) := by decide +kernel
theorem dJ1_fillNull_b72d1_4 : decode cJ1_fillNull_b72d1 4 = .ok (.invokestatic 236, 3) := by decide +kernel
theorem dJ1_fillNull_b72d1_7 : decode cJ1_fillNull_b72d1 7 = .ok (.return_, 1) := by decide +kernel
theorem dJ1_inflate_0e8fd_0 : decode cJ1_inflate_0e8fd 0 = .ok (.aload_n 0, 1) := by decide +kernel
theorem dJ1_inflate_0e8fd_1 : decode cJ1_inflate_0e8fd 1 = .ok (.iload_n 1, 1) := by decide +kernel
theorem dJ1_inflate_0e8fd_2 : decode cJ1_inflate_0e8fd 2 = .ok (.aload_n 2, 1) := by decide +kernel
theorem dJ1_inflate_0e8fd_3 : decode cJ1_inflate_0e8fd 3 = .ok (.iload_n 3, 1) := by decide +kernel
theorem dJ1_inflate_0e8fd_4 : decode cJ1_inflate_0e8fd 4 = .ok (.iload 4, 2) := by decide +kernel
theorem dJ1_inflate_0e8fd_6 : decode cJ1_inflate_0e8fd 6 = .ok (.invokestatic 240, 3) := by decide +kernel
theorem dJ1_inflate_0e8fd_9 : decode cJ1_inflate_0e8fd 9 = .ok (.return_, 1) := by decide +kernel
theorem dJ2_newBytesFor_77867_0 : decode cJ2_newBytesFor_77867 0 = .ok (.iload_n 0, 1) := by decide +kernel
theorem dJ2_newBytesFor_77867_1 : decode cJ2_newBytesFor_77867 1 = .ok (.invokestatic 11, 3) := by decide +kernel
theorem dJ2_newBytesFor_77867_4 : decode cJ2_newBytesFor_77867 4 = .ok (.newarray .byte, 2) := by decide +kernel
theorem dJ2_newBytesFor_77867_6 : decode cJ2_newBytesFor_77867 6 = .ok (.areturn, 1) := by decide +kernel
theorem dJ2_newBytesLength_0f7a4_0 : decode cJ2_newBytesLength_0f7a4 0 = .ok (.iload_n 0, 1) := by decide +kernel
theorem dJ2_newBytesLength_0f7a4_1 : decode cJ2_newBytesLength_0f7a4 1 = .ok (.ifCond .ge 11, 3) := by decide +kernel
theorem dJ2_newBytesLength_0f7a4_4 : decode cJ2_newBytesLength_0f7a4 4 = .ok (.new 17, 3) := by decide +kernel
theorem dJ2_newBytesLength_0f7a4_7 : decode cJ2_newBytesLength_0f7a4 7 = .ok (.dup, 1) := by decide +kernel
theorem dJ2_newBytesLength_0f7a4_8 : decode cJ2_newBytesLength_0f7a4 8 = .ok (.invokespecial 19, 3) := by decide +kernel
theorem dJ2_newBytesLength_0f7a4_11 : decode cJ2_newBytesLength_0f7a4 11 = .ok (.athrow, 1) := by decide +kernel
theorem dJ2_newBytesLength_0f7a4_12 : decode cJ2_newBytesLength_0f7a4 12 = .ok (.iload_n 0, 1) := by decide +kernel
theorem dJ2_newBytesLength_0f7a4_13 : decode cJ2_newBytesLength_0f7a4 13 = .ok (.ldc 20, 2) := by decide +kernel
theorem dJ2_newBytesLength_0f7a4_15 : decode cJ2_newBytesLength_0f7a4 15 = .ok (.if_icmp .lt 40, 3) := by decide +kernel
theorem dJ2_newBytesLength_0f7a4_18 : decode cJ2_newBytesLength_0f7a4 18 = .ok (.new 21, 3) := by decide +kernel
theorem dJ2_newBytesLength_0f7a4_21 : decode cJ2_newBytesLength_0f7a4 21 = .ok (.dup, 1) := by decide +kernel
theorem dJ2_newBytesLength_0f7a4_22 : decode cJ2_newBytesLength_0f7a4 22 = .ok (.new 23, 3) := by decide +kernel
theorem dJ2_newBytesLength_0f7a4_25 : decode cJ2_newBytesLength_0f7a4 25 = .ok (.dup, 1) := by decide +kernel
theorem dJ2_newBytesLength_0f7a4_26 : decode cJ2_newBytesLength_0f7a4 26 = .ok (.invokespecial 25, 3) := by decide +kernel
theorem dJ2_newBytesLength_0f7a4_29 : decode cJ2_newBytesLength_0f7a4 29 = .ok (.ldc 26, 2) := by decide +kernel
theorem dJ2_newBytesLength_0f7a4_31 : decode cJ2_newBytesLength_0f7a4 31 = .ok (.invokevirtual 28, 3) := by decide +kernel
theorem dJ2_newBytesLength_0f7a4_34 : decode cJ2_newBytesLength_0f7a4 34 = .ok (.iload_n 0, 1) := by decide +kernel
theorem dJ2_newBytesLength_0f7a4_35 : decode cJ2_newBytesLength_0f7a4 35 = .ok (.invokevirtual 32, 3) := by decide +kernel
theorem dJ2_newBytesLength_0f7a4_38 : decode cJ2_newBytesLength_0f7a4 38 = .ok (.ldc 35, 2) := by decide +kernel
theorem dJ2_newBytesLength_0f7a4_40 : decode cJ2_newBytesLength_0f7a4 40 = .ok (.invokevirtual 28, 3) := by decide +kernel
theorem dJ2_newBytesLength_0f7a4_43 : decode cJ2_newBytesLength_0f7a4 43 = .ok (.ldc 20, 2) := by decide +kernel
theorem dJ2_newBytesLength_0f7a4_45 : decode cJ2_newBytesLength_0f7a4 45 = .ok (.invokevirtual 32, 3) := by decide +kernel
theorem dJ2_newBytesLength_0f7a4_48 : decode cJ2_newBytesLength_0f7a4 48 = .ok (.invokevirtual 37, 3) := by decide +kernel
theorem dJ2_newBytesLength_0f7a4_51 : decode cJ2_newBytesLength_0f7a4 51 = .ok (.invokespecial 41, 3) := by decide +kernel
theorem dJ2_newBytesLength_0f7a4_54 : decode cJ2_newBytesLength_0f7a4 54 = .ok (.athrow, 1) := by decide +kernel
theorem dJ2_newBytesLength_0f7a4_55 : decode cJ2_newBytesLength_0f7a4 55 = .ok (.iload_n 0, 1) := by decide +kernel
theorem dJ2_newBytesLength_0f7a4_56 : decode cJ2_newBytesLength_0f7a4 56 = .ok (.iconst 1, 1) := by decide +kernel
theorem dJ2_newBytesLength_0f7a4_57 : decode cJ2_newBytesLength_0f7a4 57 = .ok (.ishl, 1) := by decide +kernel
theorem dJ2_newBytesLength_0f7a4_58 : decode cJ2_newBytesLength_0f7a4 58 = .ok (.ireturn, 1) := by decide +kernel
theorem dJ2_putChar_b72d1_0 : decode cJ2_putChar_b72d1 0 = .ok (.getstatic 44, 3) := by decide +kernel
theorem dJ2_putChar_b72d1_3 : decode cJ2_putChar_b72d1 3 = .ok (.ifCond .ne 25, 3) := by decide +kernel
theorem dJ2_putChar_b72d1_6 : decode cJ2_putChar_b72d1 6 = .ok (.iload_n 1, 1) := by decide +kernel
theorem dJ2_putChar_b72d1_7 : decode cJ2_putChar_b72d1 7 = .ok (.ifCond .lt 11, 3) := by decide +kernel
theorem dJ2_putChar_b72d1_10 : decode cJ2_putChar_b72d1 10 = .ok (.iload_n 1, 1) := by decide +kernel
theorem dJ2_putChar_b72d1_11 : decode cJ2_putChar_b72d1 11 = .ok (.aload_n 0, 1) := by decide +kernel
theorem dJ2_putChar_b72d1_12 : decode cJ2_putChar_b72d1 12 = .ok (.invokestatic 48, 3) := by decide +kernel
theorem dJ2_putChar_b72d1_15 : decode cJ2_putChar_b72d1 15 = .ok (.if_icmp .lt 13, 3) := by decide +kernel
theorem dJ2_putChar_b72d1_18 : decode cJ2_putChar_b72d1 18 = .ok (.new 52, 3) := by decide +kernel
theorem dJ2_putChar_b72d1_21 : decode cJ2_putChar_b72d1 21 = .ok (.dup, 1) := by decide +kernel
theorem dJ2_putChar_b72d1_22 : decode cJ2_putChar_b72d1 22 = .ok (.ldc 54, 2) := by decide +kernel
theorem dJ2_putChar_b72d1_24 : decode cJ2_putChar_b72d1 24 = .ok (.invokespecial 56, 3) := by decide +kernel
theorem dJ2_putChar_b72d1_27 : decode cJ2_putChar_b72d1 27 = .ok (.athrow, 1) := by decide +kernel
theorem dJ2_putChar_b72d1_28 : decode cJ2_putChar_b72d1 28 = .ok (.iload_n 1, 1) := by decide +kernel
theorem dJ2_putChar_b72d1_29 : decode cJ2_putChar_b72d1 29 = .ok (.iconst 1, 1) := by decide +kernel
theorem dJ2_putChar_b72d1_30 : decode cJ2_putChar_b72d1 30 = .ok (.ishl, 1) := by decide +kernel
theorem dJ2_putChar_b72d1_31 : decode cJ2_putChar_b72d1 31 = .ok (.istore_n 1, 1) := by decide +kernel
theorem dJ2_putChar_b72d1_32 : decode cJ2_putChar_b72d1 32 = .ok (.aload_n 0, 1) := by decide +kernel
theorem dJ2_putChar_b72d1_33 : decode cJ2_putChar_b72d1 33 = .ok (.iload_n 1, 1) := by decide +kernel
theorem dJ2_putChar_b72d1_34 : decode cJ2_putChar_b72d1 34 = .ok (.iinc 1 1, 3) := by decide +kernel
theorem dJ2_putChar_b72d1_37 : decode cJ2_putChar_b72d1 37 = .ok (.iload_n 2, 1) := by decide +kernel
theorem dJ2_putChar_b72d1_38 : decode cJ2_putChar_b72d1 38 = .ok (.getstatic 59, 3) := by decide +kernel
theorem dJ2_putChar_b72d1_41 : decode cJ2_putChar_b72d1 41 = .ok (.ishr, 1) := by decide +kernel
theorem dJ2_putChar_b72d1_42 : decode cJ2_putChar_b72d1 42 = .ok (.i2b, 1) := by decide +kernel
theorem dJ2_putChar_b72d1_43 : decode cJ2_putChar_b72d1 43 = .ok (.bastore, 1) := by decide +kernel
theorem dJ2_putChar_b72d1_44 : decode cJ2_putChar_b72d1 44 = .ok (.aload_n 0, 1) := by decide +kernel
theorem dJ2_putChar_b72d1_45 : decode cJ2_putChar_b72d1 45 = .ok (.iload_n 1, 1) := by decide +kernel
theorem dJ2_putChar_b72d1_46 : decode cJ2_putChar_b72d1 46 = .ok (.iload_n 2, 1) := by decide +kernel
theorem dJ2_putChar_b72d1_47 : decode cJ2_putChar_b72d1 47 = .ok (.getstatic 63, 3) := by decide +kernel
theorem dJ2_putChar_b72d1_50 : decode cJ2_putChar_b72d1 50 = .ok (.ishr, 1) := by decide +kernel
theorem dJ2_putChar_b72d1_51 : decode cJ2_putChar_b72d1 51 = .ok (.i2b, 1) := by decide +kernel
theorem dJ2_putChar_b72d1_52 : decode cJ2_putChar_b72d1 52 = .ok (.bastore, 1) := by decide +kernel
theorem dJ2_putChar_b72d1_53 : decode cJ2_putChar_b72d1 53 = .ok (.return_, 1) := by decide +kernel
theorem dJ2_getChar_3b067_0 : decode cJ2_getChar_3b067 0 = .ok (.getstatic 44, 3) := by decide +kernel
theorem dJ2_getChar_3b067_3 : decode cJ2_getChar_3b067 3 = .ok (.ifCond .ne 25, 3) := by decide +kernel
theorem dJ2_getChar_3b067_6 : decode cJ2_getChar_3b067 6 = .ok (.iload_n 1, 1) := by decide +kernel
theorem dJ2_getChar_3b067_7 : decode cJ2_getChar_3b067 7 = .ok (.ifCond .lt 11, 3) := by decide +kernel
theorem dJ2_getChar_3b067_10 : decode cJ2_getChar_3b067 10 = .ok (.iload_n 1, 1) := by decide +kernel
theorem dJ2_getChar_3b067_11 : decode cJ2_getChar_3b067 11 = .ok (.aload_n 0, 1) := by decide +kernel
theorem dJ2_getChar_3b067_12 : decode cJ2_getChar_3b067 12 = .ok (.invokestatic 48, 3) := by decide +kernel
theorem dJ2_getChar_3b067_15 : decode cJ2_getChar_3b067 15 = .ok (.if_icmp .lt 13, 3) := by decide +kernel
theorem dJ2_getChar_3b067_18 : decode cJ2_getChar_3b067 18 = .ok (.new 52, 3) := by decide +kernel
theorem dJ2_getChar_3b067_21 : decode cJ2_getChar_3b067 21 = .ok (.dup, 1) := by decide +kernel
theorem dJ2_getChar_3b067_22 : decode cJ2_getChar_3b067 22 = .ok (.ldc 54, 2) := by decide +kernel
theorem dJ2_getChar_3b067_24 : decode cJ2_getChar_3b067 24 = .ok (.invokespecial 56, 3) := by decide +kernel
theorem dJ2_getChar_3b067_27 : decode cJ2_getChar_3b067 27 = .ok (.athrow, 1) := by decide +kernel
theorem dJ2_getChar_3b067_28 : decode cJ2_getChar_3b067 28 = .ok (.iload_n 1, 1) := by decide +kernel
theorem dJ2_getChar_3b067_29 : decode cJ2_getChar_3b067 29 = .ok (.iconst 1, 1) := by decide +kernel
theorem dJ2_getChar_3b067_30 : decode cJ2_getChar_3b067 30 = .ok (.ishl, 1) := by decide +kernel
theorem dJ2_getChar_3b067_31 : decode cJ2_getChar_3b067 31 = .ok (.istore_n 1, 1) := by decide +kernel
theorem dJ2_getChar_3b067_32 : decode cJ2_getChar_3b067 32 = .ok (.aload_n 0, 1) := by decide +kernel
theorem dJ2_getChar_3b067_33 : decode cJ2_getChar_3b067 33 = .ok (.iload_n 1, 1) := by decide +kernel
theorem dJ2_getChar_3b067_34 : decode cJ2_getChar_3b067 34 = .ok (.iinc 1 1, 3) := by decide +kernel
theorem dJ2_getChar_3b067_37 : decode cJ2_getChar_3b067 37 = .ok (.baload, 1) := by decide +kernel
theorem dJ2_getChar_3b067_38 : decode cJ2_getChar_3b067 38 = .ok (.sipush 255, 3) := by decide +kernel
theorem dJ2_getChar_3b067_41 : decode cJ2_getChar_3b067 41 = .ok (.iand, 1) := by decide +kernel
theorem dJ2_getChar_3b067_42 : decode cJ2_getChar_3b067 42 = .ok (.getstatic 59, 3) := by decide +kernel
theorem dJ2_getChar_3b067_45 : decode cJ2_getChar_3b067 45 = .ok (.ishl, 1) := by decide +kernel
theorem dJ2_getChar_3b067_46 : decode cJ2_getChar_3b067 46 = .ok (.aload_n 0, 1) := by decide +kernel
theorem dJ2_getChar_3b067_47 : decode cJ2_getChar_3b067 47 = .ok (.iload_n 1, 1) := by decide +kernel
theorem dJ2_getChar_3b067_48 : decode cJ2_getChar_3b067 48 = .ok (.baload, 1) := by decide +kernel
theorem dJ2_getChar_3b067_49 : decode cJ2_getChar_3b067 49 = .ok (.sipush 255, 3) := by decide +kernel
theorem dJ2_getChar_3b067_52 : decode cJ2_getChar_3b067 52 = .ok (.iand, 1) := by decide +kernel
theorem dJ2_getChar_3b067_53 : decode cJ2_getChar_3b067 53 = .ok (.getstatic 63, 3) := by decide +kernel
theorem dJ2_getChar_3b067_56 : decode cJ2_getChar_3b067 56 = .ok (.ishl, 1) := by decide +kernel
theorem dJ2_getChar_3b067_57 : decode cJ2_getChar_3b067 57 = .ok (.ior, 1) := by decide +kernel
theorem dJ2_getChar_3b067_58 : decode cJ2_getChar_3b067 58 = .ok (.i2c, 1) := by decide +kernel
theorem dJ2_getChar_3b067_59 : decode cJ2_getChar_3b067 59 = .ok (.ireturn, 1) := by decide +kernel
theorem dJ2_length_9d52b_0 : decode cJ2_length_9d52b 0 = .ok (.aload_n 0, 1) := by decide +kernel
theorem dJ2_length_9d52b_1 : decode cJ2_length_9d52b 1 = .ok (.arraylength, 1) := by decide +kernel
theorem dJ2_length_9d52b_2 : decode cJ2_length_9d52b 2 = .ok (.iconst 1, 1) := by decide +kernel
theorem dJ2_length_9d52b_3 : decode cJ2_length_9d52b 3 = .ok (.ishr, 1) := by decide +kernel
theorem dJ2_length_9d52b_4 : decode cJ2_length_9d52b 4 = .ok (.ireturn, 1) := by decide +kernel
theorem dJ2_indexOf_4cfef_0 : decode cJ2_indexOf_4cfef 0 = .ok (.iload_n 2, 1) := by decide +kernel
theorem dJ2_indexOf_4cfef_1 : decode cJ2_indexOf_4cfef 1 = .ok (.iconst 0, 1) := by decide +kernel
theorem dJ2_indexOf_4cfef_2 : decode cJ2_indexOf_4cfef 2 = .ok (.invokestatic 224, 3) := by decide +kernel
theorem dJ2_indexOf_4cfef_5 : decode cJ2_indexOf_4cfef 5 = .ok (.istore_n 2, 1) := by decide +kernel
theorem dJ2_indexOf_4cfef_6 : decode cJ2_indexOf_4cfef 6 = .ok (.iload_n 3, 1) := by decide +kernel
theorem dJ2_indexOf_4cfef_7 : decode cJ2_indexOf_4cfef 7 = .ok (.aload_n 0, 1) := by decide +kernel
theorem dJ2_indexOf_4cfef_8 : decode cJ2_indexOf_4cfef 8 = .ok (.arraylength, 1) := by decide +kernel
theorem dJ2_indexOf_4cfef_9 : decode cJ2_indexOf_4cfef 9 = .ok (.iconst 1, 1) := by decide +kernel
theorem dJ2_indexOf_4cfef_10 : decode cJ2_indexOf_4cfef 10 = .ok (.ishr, 1) := by decide +kernel
theorem dJ2_indexOf_4cfef_11 : decode cJ2_indexOf_4cfef 11 = .ok (.invokestatic 183, 3) := by decide +kernel
theorem dJ2_indexOf_4cfef_14 : decode cJ2_indexOf_4cfef 14 = .ok (.istore_n 3, 1) := by decide +kernel
theorem dJ2_indexOf_4cfef_15 : decode cJ2_indexOf_4cfef 15 = .ok (.iload_n 2, 1) := by decide +kernel
theorem dJ2_indexOf_4cfef_16 : decode cJ2_indexOf_4cfef 16 = .ok (.iload_n 3, 1) := by decide +kernel
theorem dJ2_indexOf_4cfef_17 : decode cJ2_indexOf_4cfef 17 = .ok (.if_icmp .lt 5, 3) := by decide +kernel
theorem dJ2_indexOf_4cfef_20 : decode cJ2_indexOf_4cfef 20 = .ok (.iconst (-1), 1) := by decide +kernel
theorem dJ2_indexOf_4cfef_21 : decode cJ2_indexOf_4cfef 21 = .ok (.ireturn, 1) := by decide +kernel
theorem dJ2_indexOf_4cfef_22 : decode cJ2_indexOf_4cfef 22 = .ok (.iload_n 1, 1) := by decide +kernel
theorem dJ2_indexOf_4cfef_23 : decode cJ2_indexOf_4cfef 23 = .ok (.ldc 227, 2) := by decide +kernel
theorem dJ2_indexOf_4cfef_25 : decode cJ2_indexOf_4cfef 25 = .ok (.if_icmp .ge 11, 3) := by decide +kernel
theorem dJ2_indexOf_4cfef_28 : decode cJ2_indexOf_4cfef 28 = .ok (.aload_n 0, 1) := by decide +kernel
theorem dJ2_indexOf_4cfef_29 : decode cJ2_indexOf_4cfef 29 = .ok (.iload_n 1, 1) := by decide +kernel
theorem dJ2_indexOf_4cfef_30 : decode cJ2_indexOf_4cfef 30 = .ok (.iload_n 2, 1) := by decide +kernel
theorem dJ2_indexOf_4cfef_31 : decode cJ2_indexOf_4cfef 31 = .ok (.iload_n 3, 1) := by decide +kernel
theorem dJ2_indexOf_4cfef_32 : decode cJ2_indexOf_4cfef 32 = .ok (.invokestatic 228, 3) := by decide +kernel
theorem dJ2_indexOf_4cfef_35 : decode cJ2_indexOf_4cfef 35 = .ok (.ireturn, 1) := by decide +kernel
theorem dJ2_indexOf_4cfef_36 : decode cJ2_indexOf_4cfef 36 = .ok (.aload_n 0, 1) := by decide +kernel
theorem dJ2_indexOf_4cfef_37 : decode cJ2_indexOf_4cfef 37 = .ok (.iload_n 1, 1) := by decide +kernel
theorem dJ2_indexOf_4cfef_38 : decode cJ2_indexOf_4cfef 38 = .ok (.iload_n 2, 1) := by decide +kernel
theorem dJ2_indexOf_4cfef_39 : decode cJ2_indexOf_4cfef 39 = .ok (.iload_n 3, 1) := by decide +kernel
theorem dJ2_indexOf_4cfef_40 : decode cJ2_indexOf_4cfef 40 = .ok (.invokestatic 232, 3) := by decide +kernel
theorem dJ2_indexOf_4cfef_43 : decode cJ2_indexOf_4cfef 43 = .ok (.ireturn, 1) := by decide +kernel
theorem dJ2_indexOfChar_4cfef_0 : decode cJ2_indexOfChar_4cfef 0 = .ok (.iload_n 2, 1) := by decide +kernel
theorem dJ2_indexOfChar_4cfef_1 : decode cJ2_indexOfChar_4cfef 1 = .ok (.iload_n 3, 1) := by decide +kernel
theorem dJ2_indexOfChar_4cfef_2 : decode cJ2_indexOfChar_4cfef 2 = .ok (.aload_n 0, 1) := by decide +kernel
theorem dJ2_indexOfChar_4cfef_3 : decode cJ2_indexOfChar_4cfef 3 = .ok (.invokestatic 96, 3) := by decide +kernel
theorem dJ2_indexOfChar_4cfef_6 : decode cJ2_indexOfChar_4cfef 6 = .ok (.aload_n 0, 1) := by decide +kernel
theorem dJ2_indexOfChar_4cfef_7 : decode cJ2_indexOfChar_4cfef 7 = .ok (.iload_n 1, 1) := by decide +kernel
theorem dJ2_indexOfChar_4cfef_8 : decode cJ2_indexOfChar_4cfef 8 = .ok (.iload_n 2, 1) := by decide +kernel
theorem dJ2_indexOfChar_4cfef_9 : decode cJ2_indexOfChar_4cfef 9 = .ok (.iload_n 3, 1) := by decide +kernel
theorem dJ2_indexOfChar_4cfef_10 : decode cJ2_indexOfChar_4cfef 10 = .ok (.invokestatic 244, 3) := by decide +kernel
theorem dJ2_indexOfChar_4cfef_13 : decode cJ2_indexOfChar_4cfef 13 = .ok (.ireturn, 1) := by decide +kernel
theorem dJ2_indexOfCharUnsafe_4cfef_0 : decode cJ2_indexOfCharUnsafe_4cfef 0 = .ok (.iload_n 2, 1) := by decide +kernel
theorem dJ2_indexOfCharUnsafe_4cfef_1 : decode cJ2_indexOfCharUnsafe_4cfef 1 = .ok (.istore 4, 2) := by decide +kernel
theorem dJ2_indexOfCharUnsafe_4cfef_3 : decode cJ2_indexOfCharUnsafe_4cfef 3 = .ok (.iload 4, 2) := by decide +kernel
theorem dJ2_indexOfCharUnsafe_4cfef_5 : decode cJ2_indexOfCharUnsafe_4cfef 5 = .ok (.iload_n 3, 1) := by decide +kernel
theorem dJ2_indexOfCharUnsafe_4cfef_6 : decode cJ2_indexOfCharUnsafe_4cfef 6 = .ok (.if_icmp .ge 22, 3) := by decide +kernel
theorem dJ2_indexOfCharUnsafe_4cfef_9 : decode cJ2_indexOfCharUnsafe_4cfef 9 = .ok (.aload_n 0, 1) := by decide +kernel
theorem dJ2_indexOfCharUnsafe_4cfef_10 : decode cJ2_indexOfCharUnsafe_4cfef 10 = .ok (.iload 4, 2) := by decide +kernel
theorem dJ2_indexOfCharUnsafe_4cfef_12 : decode cJ2_indexOfCharUnsafe_4cfef 12 = .ok (.invokestatic 71, 3) := by decide +kernel
theorem dJ2_indexOfCharUnsafe_4cfef_15 : decode cJ2_indexOfCharUnsafe_4cfef 15 = .ok (.iload_n 1, 1) := by decide +kernel
theorem dJ2_indexOfCharUnsafe_4cfef_16 : decode cJ2_indexOfCharUnsafe_4cfef 16 = .ok (.if_icmp .ne 6, 3) := by decide +kernel
theorem dJ2_indexOfCharUnsafe_4cfef_19 : decode cJ2_indexOfCharUnsafe_4cfef 19 = .ok (.iload 4, 2) := by decide +kernel
theorem dJ2_indexOfCharUnsafe_4cfef_21 : decode cJ2_indexOfCharUnsafe_4cfef 21 = .ok (.ireturn, 1) := by decide +kernel
theorem dJ2_indexOfCharUnsafe_4cfef_22 : decode cJ2_indexOfCharUnsafe_4cfef 22 = .ok (.iinc 4 1, 3) := by decide +kernel
theorem dJ2_indexOfCharUnsafe_4cfef_25 : decode cJ2_indexOfCharUnsafe_4cfef 25 = .ok (.goto (-22), 3) := by decide +kernel
theorem dJ2_indexOfCharUnsafe_4cfef_28 : decode cJ2_indexOfCharUnsafe_4cfef 28 = .ok (.iconst (-1), 1) := by decide +kernel
theorem dJ2_indexOfCharUnsafe_4cfef_29 : decode cJ2_indexOfCharUnsafe_4cfef 29 = .ok (.ireturn, 1) := by decide +kernel
theorem dJ2_indexOfSupplementary_4cfef_0 : decode cJ2_indexOfSupplementary_4cfef 0 = .ok (.iload_n 1, 1) := by decide +kernel
theorem dJ2_indexOfSupplementary_4cfef_1 : decode cJ2_indexOfSupplementary_4cfef 1 = .ok (.invokestatic 164, 3) := by decide +kernel
theorem dJ2_indexOfSupplementary_4cfef_4 : decode cJ2_indexOfSupplementary_4cfef 4 = .ok (.ifCond .eq 65, 3) := by decide +kernel
theorem dJ2_indexOfSupplementary_4cfef_7 : decode cJ2_indexOfSupplementary_4cfef 7 = .ok (.iload_n 1, 1) := by decide +kernel
theorem dJ2_indexOfSupplementary_4cfef_8 : decode cJ2_indexOfSupplementary_4cfef 8 = .ok (.invokestatic 157, 3) := by decide +kernel
theorem dJ2_indexOfSupplementary_4cfef_11 : decode cJ2_indexOfSupplementary_4cfef 11 = .ok (.istore 4, 2) := by decide +kernel
theorem dJ2_indexOfSupplementary_4cfef_13 : decode cJ2_indexOfSupplementary_4cfef 13 = .ok (.iload_n 1, 1) := by decide +kernel
theorem dJ2_indexOfSupplementary_4cfef_14 : decode cJ2_indexOfSupplementary_4cfef 14 = .ok (.invokestatic 161, 3) := by decide +kernel
theorem dJ2_indexOfSupplementary_4cfef_17 : decode cJ2_indexOfSupplementary_4cfef 17 = .ok (.istore 5, 2) := by decide +kernel
theorem dJ2_indexOfSupplementary_4cfef_19 : decode cJ2_indexOfSupplementary_4cfef 19 = .ok (.iload_n 2, 1) := by decide +kernel
theorem dJ2_indexOfSupplementary_4cfef_20 : decode cJ2_indexOfSupplementary_4cfef 20 = .ok (.iload_n 3, 1) := by decide +kernel
theorem dJ2_indexOfSupplementary_4cfef_21 : decode cJ2_indexOfSupplementary_4cfef 21 = .ok (.aload_n 0, 1) := by decide +kernel
theorem dJ2_indexOfSupplementary_4cfef_22 : decode cJ2_indexOfSupplementary_4cfef 22 = .ok (.invokestatic 96, 3) := by decide +kernel
theorem dJ2_indexOfSupplementary_4cfef_25 : decode cJ2_indexOfSupplementary_4cfef 25 = .ok (.iload_n 2, 1) := by decide +kernel
theorem dJ2_indexOfSupplementary_4cfef_26 : decode cJ2_indexOfSupplementary_4cfef 26 = .ok (.istore 6, 2) := by decide +kernel
theorem dJ2_indexOfSupplementary_4cfef_28 : decode cJ2_indexOfSupplementary_4cfef 28 = .ok (.iload 6, 2) := by decide +kernel
theorem dJ2_indexOfSupplementary_4cfef_30 : decode cJ2_indexOfSupplementary_4cfef 30 = .ok (.iload_n 3, 1) := by decide +kernel
theorem dJ2_indexOfSupplementary_4cfef_31 : decode cJ2_indexOfSupplementary_4cfef 31 = .ok (.iconst 1, 1) := by decide +kernel
theorem dJ2_indexOfSupplementary_4cfef_32 : decode cJ2_indexOfSupplementary_4cfef 32 = .ok (.isub, 1) := by decide +kernel
theorem dJ2_indexOfSupplementary_4cfef_33 : decode cJ2_indexOfSupplementary_4cfef 33 = .ok (.if_icmp .ge 36, 3) := by decide +kernel
theorem dJ2_indexOfSupplementary_4cfef_36 : decode cJ2_indexOfSupplementary_4cfef 36 = .ok (.aload_n 0, 1) := by decide +kernel
theorem dJ2_indexOfSupplementary_4cfef_37 : decode cJ2_indexOfSupplementary_4cfef 37 = .ok (.iload 6, 2) := by decide +kernel
theorem dJ2_indexOfSupplementary_4cfef_39 : decode cJ2_indexOfSupplementary_4cfef 39 = .ok (.invokestatic 71, 3) := by decide +kernel
theorem dJ2_indexOfSupplementary_4cfef_42 : decode cJ2_indexOfSupplementary_4cfef 42 = .ok (.iload 4, 2) := by decide +kernel
theorem dJ2_indexOfSupplementary_4cfef_44 : decode cJ2_indexOfSupplementary_4cfef 44 = .ok (.if_icmp .ne 19, 3) := by decide +kernel
theorem dJ2_indexOfSupplementary_4cfef_47 : decode cJ2_indexOfSupplementary_4cfef 47 = .ok (.aload_n 0, 1) := by decide +kernel
theorem dJ2_indexOfSupplementary_4cfef_48 : decode cJ2_indexOfSupplementary_4cfef 48 = .ok (.iload 6, 2) := by decide +kernel
theorem dJ2_indexOfSupplementary_4cfef_50 : decode cJ2_indexOfSupplementary_4cfef 50 = .ok (.iconst 1, 1) := by decide +kernel
theorem dJ2_indexOfSupplementary_4cfef_51 : decode cJ2_indexOfSupplementary_4cfef 51 = .ok (.iadd, 1) := by decide +kernel
theorem dJ2_indexOfSupplementary_4cfef_52 : decode cJ2_indexOfSupplementary_4cfef 52 = .ok (.invokestatic 71, 3) := by decide +kernel
theorem dJ2_indexOfSupplementary_4cfef_55 : decode cJ2_indexOfSupplementary_4cfef 55 = .ok (.iload 5, 2) := by decide +kernel
theorem dJ2_indexOfSupplementary_4cfef_57 : decode cJ2_indexOfSupplementary_4cfef 57 = .ok (.if_icmp .ne 6, 3) := by decide +kernel
theorem dJ2_indexOfSupplementary_4cfef_60 : decode cJ2_indexOfSupplementary_4cfef 60 = .ok (.iload 6, 2) := by decide +kernel
theorem dJ2_indexOfSupplementary_4cfef_62 : decode cJ2_indexOfSupplementary_4cfef 62 = .ok (.ireturn, 1) := by decide +kernel
theorem dJ2_indexOfSupplementary_4cfef_63 : decode cJ2_indexOfSupplementary_4cfef 63 = .ok (.iinc 6 1, 3) := by decide +kernel
theorem dJ2_indexOfSupplementary_4cfef_66 : decode cJ2_indexOfSupplementary_4cfef 66 = .ok (.goto (-38), 3) := by decide +kernel
theorem dJ2_indexOfSupplementary_4cfef_69 : decode cJ2_indexOfSupplementary_4cfef 69 = .ok (.iconst (-1), 1) := by decide +kernel
theorem dJ2_indexOfSupplementary_4cfef_70 : decode cJ2_indexOfSupplementary_4cfef 70 = .ok (.ireturn, 1) := by decide +kernel
theorem dJ2_fillNull_b72d1_0 : decode cJ2_fillNull_b72d1 0 = .ok (.aload_n 0, 1) := by decide +kernel
theorem dJ2_fillNull_b72d1_1 : decode cJ2_fillNull_b72d1 1 = .ok (.iload_n 1, 1) := by decide +kernel
theorem dJ2_fillNull_b72d1_2 : decode cJ2_fillNull_b72d1 2 = .ok (.iconst 1, 1) := by decide +kernel
theorem dJ2_fillNull_b72d1_3 : decode cJ2_fillNull_b72d1 3 = .ok (.ishl, 1) := by decide +kernel
theorem dJ2_fillNull_b72d1_4 : decode cJ2_fillNull_b72d1 4 = .ok (.iload_n 2, 1) := by decide +kernel
theorem dJ2_fillNull_b72d1_5 : decode cJ2_fillNull_b72d1 5 = .ok (.iconst 1, 1) := by decide +kernel
theorem dJ2_fillNull_b72d1_6 : decode cJ2_fillNull_b72d1 6 = .ok (.ishl, 1) := by decide +kernel
theorem dJ2_fillNull_b72d1_7 : decode cJ2_fillNull_b72d1 7 = .ok (.iconst 0, 1) := by decide +kernel
theorem dJ2_fillNull_b72d1_8 : decode cJ2_fillNull_b72d1 8 = .ok (.invokestatic 380, 3) := by decide +kernel
theorem dJ2_fillNull_b72d1_11 : decode cJ2_fillNull_b72d1 11 = .ok (.return_, 1) := by decide +kernel
theorem dJ2_putCharSB_b72d1_0 : decode cJ2_putCharSB_b72d1 0 = .ok (.iload_n 1, 1) := by decide +kernel
theorem dJ2_putCharSB_b72d1_1 : decode cJ2_putCharSB_b72d1 1 = .ok (.aload_n 0, 1) := by decide +kernel
theorem dJ2_putCharSB_b72d1_2 : decode cJ2_putCharSB_b72d1 2 = .ok (.invokestatic 67, 3) := by decide +kernel
theorem dJ2_putCharSB_b72d1_5 : decode cJ2_putCharSB_b72d1 5 = .ok (.aload_n 0, 1) := by decide +kernel
theorem dJ2_putCharSB_b72d1_6 : decode cJ2_putCharSB_b72d1 6 = .ok (.iload_n 1, 1) := by decide +kernel
theorem dJ2_putCharSB_b72d1_7 : decode cJ2_putCharSB_b72d1 7 = .ok (.iload_n 2, 1) := by decide +kernel
theorem dJ2_putCharSB_b72d1_8 : decode cJ2_putCharSB_b72d1 8 = .ok (.invokestatic 111, 3) := by decide +kernel
theorem dJ2_putCharSB_b72d1_11 : decode cJ2_putCharSB_b72d1 11 = .ok (.return_, 1) := by decide +kernel
theorem dJ2_charAt_3b067_0 : decode cJ2_charAt_3b067 0 = .ok (.iload_n 1, 1) := by decide +kernel
theorem dJ2_charAt_3b067_1 : decode cJ2_charAt_3b067 1 = .ok (.aload_n 0, 1) := by decide +kernel
theorem dJ2_charAt_3b067_2 : decode cJ2_charAt_3b067 2 = .ok (.invokestatic 67, 3) := by decide +kernel
theorem dJ2_charAt_3b067_5 : decode cJ2_charAt_3b067 5 = .ok (.aload_n 0, 1) := by decide +kernel
theorem dJ2_charAt_3b067_6 : decode cJ2_charAt_3b067 6 = .ok (.iload_n 1, 1) := by decide +kernel
theorem dJ2_charAt_3b067_7 : decode cJ2_charAt_3b067 7 = .ok (.invokestatic 71, 3) := by decide +kernel
theorem dJ2_charAt_3b067_10 : decode cJ2_charAt_3b067 10 = .ok (.ireturn, 1) := by decide +kernel
theorem dJ2_inflate_0e8fd_0 : decode cJ2_inflate_0e8fd 0 = .ok (.iload_n 3, 1) := by decide +kernel
theorem dJ2_inflate_0e8fd_1 : decode cJ2_inflate_0e8fd 1 = .ok (.iload 4, 2) := by decide +kernel
theorem dJ2_inflate_0e8fd_3 : decode cJ2_inflate_0e8fd 3 = .ok (.aload_n 2, 1) := by decide +kernel
theorem dJ2_inflate_0e8fd_4 : decode cJ2_inflate_0e8fd 4 = .ok (.invokestatic 173, 3) := by decide +kernel
theorem dJ2_inflate_0e8fd_7 : decode cJ2_inflate_0e8fd 7 = .ok (.iconst 0, 1) := by decide +kernel
theorem dJ2_inflate_0e8fd_8 : decode cJ2_inflate_0e8fd 8 = .ok (.istore 5, 2) := by decide +kernel
theorem dJ2_inflate_0e8fd_10 : decode cJ2_inflate_0e8fd 10 = .ok (.iload 5, 2) := by decide +kernel
theorem dJ2_inflate_0e8fd_12 : decode cJ2_inflate_0e8fd 12 = .ok (.iload 4, 2) := by decide +kernel
theorem dJ2_inflate_0e8fd_14 : decode cJ2_inflate_0e8fd 14 = .ok (.if_icmp .ge 27, 3) := by decide +kernel
theorem dJ2_inflate_0e8fd_17 : decode cJ2_inflate_0e8fd 17 = .ok (.aload_n 2, 1) := by decide +kernel
theorem dJ2_inflate_0e8fd_18 : decode cJ2_inflate_0e8fd 18 = .ok (.iload_n 3, 1) := by decide +kernel
theorem dJ2_inflate_0e8fd_19 : decode cJ2_inflate_0e8fd 19 = .ok (.iinc 3 1, 3) := by decide +kernel
theorem dJ2_inflate_0e8fd_22 : decode cJ2_inflate_0e8fd 22 = .ok (.aload_n 0, 1) := by decide +kernel
theorem dJ2_inflate_0e8fd_23 : decode cJ2_inflate_0e8fd 23 = .ok (.iload_n 1, 1) := by decide +kernel
theorem dJ2_inflate_0e8fd_24 : decode cJ2_inflate_0e8fd 24 = .ok (.iinc 1 1, 3) := by decide +kernel
theorem dJ2_inflate_0e8fd_27 : decode cJ2_inflate_0e8fd 27 = .ok (.baload, 1) := by decide +kernel
theorem dJ2_inflate_0e8fd_28 : decode cJ2_inflate_0e8fd 28 = .ok (.sipush 255, 3) := by decide +kernel
theorem dJ2_inflate_0e8fd_31 : decode cJ2_inflate_0e8fd 31 = .ok (.iand, 1) := by decide +kernel
theorem dJ2_inflate_0e8fd_32 : decode cJ2_inflate_0e8fd 32 = .ok (.invokestatic 111, 3) := by decide +kernel
theorem dJ2_inflate_0e8fd_35 : decode cJ2_inflate_0e8fd 35 = .ok (.iinc 5 1, 3) := by decide +kernel
theorem dJ2_inflate_0e8fd_38 : decode cJ2_inflate_0e8fd 38 = .ok (.goto (-28), 3) := by decide +kernel
theorem dJ2_inflate_0e8fd_41 : decode cJ2_inflate_0e8fd 41 = .ok (.return_, 1) := by decide +kernel
theorem dJ2_checkIndex_2214a_0 : decode cJ2_checkIndex_2214a 0 = .ok (.iload_n 0, 1) := by decide +kernel
theorem dJ2_checkIndex_2214a_1 : decode cJ2_checkIndex_2214a 1 = .ok (.aload_n 1, 1) := by decide +kernel
theorem dJ2_checkIndex_2214a_2 : decode cJ2_checkIndex_2214a 2 = .ok (.invokestatic 48, 3) := by decide +kernel
theorem dJ2_checkIndex_2214a_5 : decode cJ2_checkIndex_2214a 5 = .ok (.invokestatic 414, 3) := by decide +kernel
theorem dJ2_checkIndex_2214a_8 : decode cJ2_checkIndex_2214a 8 = .ok (.return_, 1) := by decide +kernel
theorem dJ2_checkBoundsBeginEnd_d044e_0 : decode cJ2_checkBoundsBeginEnd_d044e 0 = .ok (.iload_n 0, 1) := by decide +kernel
theorem dJ2_checkBoundsBeginEnd_d044e_1 : decode cJ2_checkBoundsBeginEnd_d044e 1 = .ok (.iload_n 1, 1) := by decide +kernel
theorem dJ2_checkBoundsBeginEnd_d044e_2 : decode cJ2_checkBoundsBeginEnd_d044e 2 = .ok (.aload_n 2, 1) := by decide +kernel
theorem dJ2_checkBoundsBeginEnd_d044e_3 : decode cJ2_checkBoundsBeginEnd_d044e 3 = .ok (.invokestatic 48, 3) := by decide +kernel
theorem dJ2_checkBoundsBeginEnd_d044e_6 : decode cJ2_checkBoundsBeginEnd_d044e 6 = .ok (.invokestatic 241, 3) := by decide +kernel
theorem dJ2_checkBoundsBeginEnd_d044e_9 : decode cJ2_checkBoundsBeginEnd_d044e 9 = .ok (.return_, 1) := by decide +kernel
theorem dJ2_checkBoundsOffCount_d044e_0 : decode cJ2_checkBoundsOffCount_d044e 0 = .ok (.iload_n 0, 1) := by decide +kernel
theorem dJ2_checkBoundsOffCount_d044e_1 : decode cJ2_checkBoundsOffCount_d044e 1 = .ok (.iload_n 1, 1) := by decide +kernel
theorem dJ2_checkBoundsOffCount_d044e_2 : decode cJ2_checkBoundsOffCount_d044e 2 = .ok (.aload_n 2, 1) := by decide +kernel
theorem dJ2_checkBoundsOffCount_d044e_3 : decode cJ2_checkBoundsOffCount_d044e 3 = .ok (.invokestatic 48, 3) := by decide +kernel
theorem dJ2_checkBoundsOffCount_d044e_6 : decode cJ2_checkBoundsOffCount_d044e 6 = .ok (.invokestatic 419, 3) := by decide +kernel
theorem dJ2_checkBoundsOffCount_d044e_9 : decode cJ2_checkBoundsOffCount_d044e 9 = .ok (.pop, 1) := by decide +kernel
theorem dJ2_checkBoundsOffCount_d044e_10 : decode cJ2_checkBoundsOffCount_d044e 10 = .ok (.return_, 1) := by decide +kernel
theorem dJ7_rangeCheck_23922_0 : decode cJ7_rangeCheck_23922 0 = .ok (.iload_n 1, 1) := by decide +kernel
theorem dJ7_rangeCheck_23922_1 : decode cJ7_rangeCheck_23922 1 = .ok (.iload_n 2, 1) := by decide +kernel
theorem dJ7_rangeCheck_23922_2 : decode cJ7_rangeCheck_23922 2 = .ok (.if_icmp .le 44, 3) := by decide +kernel
theorem dJ7_rangeCheck_23922_5 : decode cJ7_rangeCheck_23922 5 = .ok (.new 43, 3) := by decide +kernel
theorem dJ7_rangeCheck_23922_8 : decode cJ7_rangeCheck_23922 8 = .ok (.dup, 1) := by decide +kernel
theorem dJ7_rangeCheck_23922_9 : decode cJ7_rangeCheck_23922 9 = .ok (.new 45, 3) := by decide +kernel
theorem dJ7_rangeCheck_23922_12 : decode cJ7_rangeCheck_23922 12 = .ok (.dup, 1) := by decide +kernel
theorem dJ7_rangeCheck_23922_13 : decode cJ7_rangeCheck_23922 13 = .ok (.invokespecial 47, 3) := by decide +kernel
theorem dJ7_rangeCheck_23922_16 : decode cJ7_rangeCheck_23922 16 = .ok (.ldc 48, 2) := by decide +kernel
theorem dJ7_rangeCheck_23922_18 : decode cJ7_rangeCheck_23922 18 = .ok (.invokevirtual 50, 3) := by decide +kernel
theorem dJ7_rangeCheck_23922_21 : decode cJ7_rangeCheck_23922 21 = .ok (.iload_n 1, 1) := by decide +kernel
theorem dJ7_rangeCheck_23922_22 : decode cJ7_rangeCheck_23922 22 = .ok (.invokevirtual 54, 3) := by decide +kernel
theorem dJ7_rangeCheck_23922_25 : decode cJ7_rangeCheck_23922 25 = .ok (.ldc 57, 2) := by decide +kernel
theorem dJ7_rangeCheck_23922_27 : decode cJ7_rangeCheck_23922 27 = .ok (.invokevirtual 50, 3) := by decide +kernel
theorem dJ7_rangeCheck_23922_30 : decode cJ7_rangeCheck_23922 30 = .ok (.iload_n 2, 1) := by decide +kernel
theorem dJ7_rangeCheck_23922_31 : decode cJ7_rangeCheck_23922 31 = .ok (.invokevirtual 54, 3) := by decide +kernel
theorem dJ7_rangeCheck_23922_34 : decode cJ7_rangeCheck_23922 34 = .ok (.ldc 59, 2) := by decide +kernel
theorem dJ7_rangeCheck_23922_36 : decode cJ7_rangeCheck_23922 36 = .ok (.invokevirtual 50, 3) := by decide +kernel
theorem dJ7_rangeCheck_23922_39 : decode cJ7_rangeCheck_23922 39 = .ok (.invokevirtual 61, 3) := by decide +kernel
theorem dJ7_rangeCheck_23922_42 : decode cJ7_rangeCheck_23922 42 = .ok (.invokespecial 65, 3) := by decide +kernel
theorem dJ7_rangeCheck_23922_45 : decode cJ7_rangeCheck_23922 45 = .ok (.athrow, 1) := by decide +kernel
theorem dJ7_rangeCheck_23922_46 : decode cJ7_rangeCheck_23922 46 = .ok (.iload_n 1, 1) := by decide +kernel
theorem dJ7_rangeCheck_23922_47 : decode cJ7_rangeCheck_23922 47 = .ok (.ifCond .ge 12, 3) := by decide +kernel
theorem dJ7_rangeCheck_23922_50 : decode cJ7_rangeCheck_23922 50 = .ok (.new 68, 3) := by decide +kernel
theorem dJ7_rangeCheck_23922_53 : decode cJ7_rangeCheck_23922 53 = .ok (.dup, 1) := by decide +kernel
theorem dJ7_rangeCheck_23922_54 : decode cJ7_rangeCheck_23922 54 = .ok (.iload_n 1, 1) := by decide +kernel
theorem dJ7_rangeCheck_23922_55 : decode cJ7_rangeCheck_23922 55 = .ok (.invokespecial 70, 3) := by decide +kernel
theorem dJ7_rangeCheck_23922_58 : decode cJ7_rangeCheck_23922 58 = .ok (.athrow, 1) := by decide +kernel
theorem dJ7_rangeCheck_23922_59 : decode cJ7_rangeCheck_23922 59 = .ok (.iload_n 2, 1) := by decide +kernel
theorem dJ7_rangeCheck_23922_60 : decode cJ7_rangeCheck_23922 60 = .ok (.iload_n 0, 1) := by decide +kernel
theorem dJ7_rangeCheck_23922_61 : decode cJ7_rangeCheck_23922 61 = .ok (.if_icmp .le 12, 3) := by decide +kernel
theorem dJ7_rangeCheck_23922_64 : decode cJ7_rangeCheck_23922 64 = .ok (.new 68, 3) := by decide +kernel
theorem dJ7_rangeCheck_23922_67 : decode cJ7_rangeCheck_23922 67 = .ok (.dup, 1) := by decide +kernel
theorem dJ7_rangeCheck_23922_68 : decode cJ7_rangeCheck_23922 68 = .ok (.iload_n 2, 1) := by decide +kernel
theorem dJ7_rangeCheck_23922_69 : decode cJ7_rangeCheck_23922 69 = .ok (.invokespecial 70, 3) := by decide +kernel
theorem dJ7_rangeCheck_23922_72 : decode cJ7_rangeCheck_23922 72 = .ok (.athrow, 1) := by decide +kernel
theorem dJ7_rangeCheck_23922_73 : decode cJ7_rangeCheck_23922 73 = .ok (.return_, 1) := by decide +kernel
theorem dJ7_fill_eb02e_0 : decode cJ7_fill_eb02e 0 = .ok (.aload_n 0, 1) := by decide +kernel
theorem dJ7_fill_eb02e_1 : decode cJ7_fill_eb02e 1 = .ok (.arraylength, 1) := by decide +kernel
theorem dJ7_fill_eb02e_2 : decode cJ7_fill_eb02e 2 = .ok (.iload_n 1, 1) := by decide +kernel
theorem dJ7_fill_eb02e_3 : decode cJ7_fill_eb02e 3 = .ok (.iload_n 2, 1) := by decide +kernel
theorem dJ7_fill_eb02e_4 : decode cJ7_fill_eb02e 4 = .ok (.invokestatic 13, 3) := by decide +kernel
theorem dJ7_fill_eb02e_7 : decode cJ7_fill_eb02e 7 = .ok (.iload_n 1, 1) := by decide +kernel
theorem dJ7_fill_eb02e_8 : decode cJ7_fill_eb02e 8 = .ok (.istore 4, 2) := by decide +kernel
theorem dJ7_fill_eb02e_10 : decode cJ7_fill_eb02e 10 = .ok (.iload 4, 2) := by decide +kernel
theorem dJ7_fill_eb02e_12 : decode cJ7_fill_eb02e 12 = .ok (.iload_n 2, 1) := by decide +kernel
theorem dJ7_fill_eb02e_13 : decode cJ7_fill_eb02e 13 = .ok (.if_icmp .ge 14, 3) := by decide +kernel
theorem dJ7_fill_eb02e_16 : decode cJ7_fill_eb02e 16 = .ok (.aload_n 0, 1) := by decide +kernel
theorem dJ7_fill_eb02e_17 : decode cJ7_fill_eb02e 17 = .ok (.iload 4, 2) := by decide +kernel
theorem dJ7_fill_eb02e_19 : decode cJ7_fill_eb02e 19 = .ok (.iload_n 3, 1) := by decide +kernel
theorem dJ7_fill_eb02e_20 : decode cJ7_fill_eb02e 20 = .ok (.bastore, 1) := by decide +kernel
theorem dJ7_fill_eb02e_21 : decode cJ7_fill_eb02e 21 = .ok (.iinc 4 1, 3) := by decide +kernel
theorem dJ7_fill_eb02e_24 : decode cJ7_fill_eb02e 24 = .ok (.goto (-14), 3) := by decide +kernel
theorem dJ7_fill_eb02e_27 : decode cJ7_fill_eb02e 27 = .ok (.return_, 1) := by decide +kernel
theorem dJ7_copyOf_9075b_0 : decode cJ7_copyOf_9075b 0 = .ok (.iload_n 1, 1) := by decide +kernel
theorem dJ7_copyOf_9075b_1 : decode cJ7_copyOf_9075b 1 = .ok (.aload_n 0, 1) := by decide +kernel
theorem dJ7_copyOf_9075b_2 : decode cJ7_copyOf_9075b 2 = .ok (.arraylength, 1) := by decide +kernel
theorem dJ7_copyOf_9075b_3 : decode cJ7_copyOf_9075b 3 = .ok (.if_icmp .ne 11, 3) := by decide +kernel
theorem dJ7_copyOf_9075b_6 : decode cJ7_copyOf_9075b 6 = .ok (.aload_n 0, 1) := by decide +kernel
theorem dJ7_copyOf_9075b_7 : decode cJ7_copyOf_9075b 7 = .ok (.invokevirtual 310, 3) := by decide +kernel
theorem dJ7_copyOf_9075b_10 : decode cJ7_copyOf_9075b 10 = .ok (.checkcast 311, 3) := by decide +kernel
theorem dJ7_copyOf_9075b_13 : decode cJ7_copyOf_9075b 13 = .ok (.areturn, 1) := by decide +kernel
theorem dJ7_copyOf_9075b_14 : decode cJ7_copyOf_9075b 14 = .ok (.iload_n 1, 1) := by decide +kernel
theorem dJ7_copyOf_9075b_15 : decode cJ7_copyOf_9075b 15 = .ok (.newarray .byte, 2) := by decide +kernel
theorem dJ7_copyOf_9075b_17 : decode cJ7_copyOf_9075b 17 = .ok (.astore_n 2, 1) := by decide +kernel
theorem dJ7_copyOf_9075b_18 : decode cJ7_copyOf_9075b 18 = .ok (.aload_n 0, 1) := by decide +kernel
theorem dJ7_copyOf_9075b_19 : decode cJ7_copyOf_9075b 19 = .ok (.iconst 0, 1) := by decide +kernel
theorem dJ7_copyOf_9075b_20 : decode cJ7_copyOf_9075b 20 = .ok (.aload_n 2, 1) := by decide +kernel
theorem dJ7_copyOf_9075b_21 : decode cJ7_copyOf_9075b 21 = .ok (.iconst 0, 1) := by decide +kernel
theorem dJ7_copyOf_9075b_22 : decode cJ7_copyOf_9075b 22 = .ok (.aload_n 0, 1) := by decide +kernel
theorem dJ7_copyOf_9075b_23 : decode cJ7_copyOf_9075b 23 = .ok (.arraylength, 1) := by decide +kernel
theorem dJ7_copyOf_9075b_24 : decode cJ7_copyOf_9075b 24 = .ok (.iload_n 1, 1) := by decide +kernel
theorem dJ7_copyOf_9075b_25 : decode cJ7_copyOf_9075b 25 = .ok (.invokestatic 304, 3) := by decide +kernel
theorem dJ7_copyOf_9075b_28 : decode cJ7_copyOf_9075b 28 = .ok (.invokestatic 150, 3) := by decide +kernel
theorem dJ7_copyOf_9075b_31 : decode cJ7_copyOf_9075b 31 = .ok (.aload_n 2, 1) := by decide +kernel
theorem dJ7_copyOf_9075b_32 : decode cJ7_copyOf_9075b 32 = .ok (.areturn, 1) := by decide +kernel
theorem dJ8_newLength_cabcc_0 : decode cJ8_newLength_cabcc 0 = .ok (.iload_n 0, 1) := by decide +kernel
theorem dJ8_newLength_cabcc_1 : decode cJ8_newLength_cabcc 1 = .ok (.iload_n 1, 1) := by decide +kernel
theorem dJ8_newLength_cabcc_2 : decode cJ8_newLength_cabcc 2 = .ok (.iload_n 2, 1) := by decide +kernel
theorem dJ8_newLength_cabcc_3 : decode cJ8_newLength_cabcc 3 = .ok (.invokestatic 194, 3) := by decide +kernel
theorem dJ8_newLength_cabcc_6 : decode cJ8_newLength_cabcc 6 = .ok (.iadd, 1) := by decide +kernel
theorem dJ8_newLength_cabcc_7 : decode cJ8_newLength_cabcc 7 = .ok (.istore_n 3, 1) := by decide +kernel
theorem dJ8_newLength_cabcc_8 : decode cJ8_newLength_cabcc 8 = .ok (.iconst 0, 1) := by decide +kernel
theorem dJ8_newLength_cabcc_9 : decode cJ8_newLength_cabcc 9 = .ok (.iload_n 3, 1) := by decide +kernel
theorem dJ8_newLength_cabcc_10 : decode cJ8_newLength_cabcc 10 = .ok (.if_icmp .ge 11, 3) := by decide +kernel
theorem dJ8_newLength_cabcc_13 : decode cJ8_newLength_cabcc 13 = .ok (.iload_n 3, 1) := by decide +kernel
theorem dJ8_newLength_cabcc_14 : decode cJ8_newLength_cabcc 14 = .ok (.ldc 200, 2) := by decide +kernel
theorem dJ8_newLength_cabcc_16 : decode cJ8_newLength_cabcc 16 = .ok (.if_icmp .gt 5, 3) := by decide +kernel
theorem dJ8_newLength_cabcc_19 : decode cJ8_newLength_cabcc 19 = .ok (.iload_n 3, 1) := by decide +kernel
theorem dJ8_newLength_cabcc_20 : decode cJ8_newLength_cabcc 20 = .ok (.ireturn, 1) := by decide +kernel
theorem dJ8_newLength_cabcc_21 : decode cJ8_newLength_cabcc 21 = .ok (.iload_n 0, 1) := by decide +kernel
theorem dJ8_newLength_cabcc_22 : decode cJ8_newLength_cabcc 22 = .ok (.iload_n 1, 1) := by decide +kernel
theorem dJ8_newLength_cabcc_23 : decode cJ8_newLength_cabcc 23 = .ok (.invokestatic 201, 3) := by decide +kernel
theorem dJ8_newLength_cabcc_26 : decode cJ8_newLength_cabcc 26 = .ok (.ireturn, 1) := by decide +kernel
theorem dJ8_hugeLength_7cf53_0 : decode cJ8_hugeLength_7cf53 0 = .ok (.iload_n 0, 1) := by decide +kernel
theorem dJ8_hugeLength_7cf53_1 : decode cJ8_hugeLength_7cf53 1 = .ok (.iload_n 1, 1) := by decide +kernel
theorem dJ8_hugeLength_7cf53_2 : decode cJ8_hugeLength_7cf53 2 = .ok (.iadd, 1) := by decide +kernel
theorem dJ8_hugeLength_7cf53_3 : decode cJ8_hugeLength_7cf53 3 = .ok (.istore_n 2, 1) := by decide +kernel
theorem dJ8_hugeLength_7cf53_4 : decode cJ8_hugeLength_7cf53 4 = .ok (.iload_n 2, 1) := by decide +kernel
theorem dJ8_hugeLength_7cf53_5 : decode cJ8_hugeLength_7cf53 5 = .ok (.ifCond .ge 44, 3) := by decide +kernel
theorem dJ8_hugeLength_7cf53_8 : decode cJ8_hugeLength_7cf53 8 = .ok (.new 204, 3) := by decide +kernel
theorem dJ8_hugeLength_7cf53_11 : decode cJ8_hugeLength_7cf53 11 = .ok (.dup, 1) := by decide +kernel
theorem dJ8_hugeLength_7cf53_12 : decode cJ8_hugeLength_7cf53 12 = .ok (.new 89, 3) := by decide +kernel
theorem dJ8_hugeLength_7cf53_15 : decode cJ8_hugeLength_7cf53 15 = .ok (.dup, 1) := by decide +kernel
theorem dJ8_hugeLength_7cf53_16 : decode cJ8_hugeLength_7cf53 16 = .ok (.invokespecial 91, 3) := by decide +kernel
theorem dJ8_hugeLength_7cf53_19 : decode cJ8_hugeLength_7cf53 19 = .ok (.ldc 206, 2) := by decide +kernel
theorem dJ8_hugeLength_7cf53_21 : decode cJ8_hugeLength_7cf53 21 = .ok (.invokevirtual 94, 3) := by decide +kernel
theorem dJ8_hugeLength_7cf53_24 : decode cJ8_hugeLength_7cf53 24 = .ok (.iload_n 0, 1) := by decide +kernel
theorem dJ8_hugeLength_7cf53_25 : decode cJ8_hugeLength_7cf53 25 = .ok (.invokevirtual 98, 3) := by decide +kernel
theorem dJ8_hugeLength_7cf53_28 : decode cJ8_hugeLength_7cf53 28 = .ok (.ldc 208, 2) := by decide +kernel
theorem dJ8_hugeLength_7cf53_30 : decode cJ8_hugeLength_7cf53 30 = .ok (.invokevirtual 94, 3) := by decide +kernel
theorem dJ8_hugeLength_7cf53_33 : decode cJ8_hugeLength_7cf53 33 = .ok (.iload_n 1, 1) := by decide +kernel
theorem dJ8_hugeLength_7cf53_34 : decode cJ8_hugeLength_7cf53 34 = .ok (.invokevirtual 98, 3) := by decide +kernel
theorem dJ8_hugeLength_7cf53_37 : decode cJ8_hugeLength_7cf53 37 = .ok (.ldc 210, 2) := by decide +kernel
theorem dJ8_hugeLength_7cf53_39 : decode cJ8_hugeLength_7cf53 39 = .ok (.invokevirtual 94, 3) := by decide +kernel
theorem dJ8_hugeLength_7cf53_42 : decode cJ8_hugeLength_7cf53 42 = .ok (.invokevirtual 101, 3) := by decide +kernel
theorem dJ8_hugeLength_7cf53_45 : decode cJ8_hugeLength_7cf53 45 = .ok (.invokespecial 212, 3) := by decide +kernel
theorem dJ8_hugeLength_7cf53_48 : decode cJ8_hugeLength_7cf53 48 = .ok (.athrow, 1) := by decide +kernel
theorem dJ8_hugeLength_7cf53_49 : decode cJ8_hugeLength_7cf53 49 = .ok (.iload_n 2, 1) := by decide +kernel
theorem dJ8_hugeLength_7cf53_50 : decode cJ8_hugeLength_7cf53 50 = .ok (.ldc 200, 2) := by decide +kernel
theorem dJ8_hugeLength_7cf53_52 : decode cJ8_hugeLength_7cf53 52 = .ok (.if_icmp .gt 6, 3) := by decide +kernel
theorem dJ8_hugeLength_7cf53_55 : decode cJ8_hugeLength_7cf53 55 = .ok (.ldc 200, 2) := by decide +kernel
theorem dJ8_hugeLength_7cf53_57 : decode cJ8_hugeLength_7cf53 57 = .ok (.ireturn, 1) := by decide +kernel
theorem dJ8_hugeLength_7cf53_58 : decode cJ8_hugeLength_7cf53 58 = .ok (.iload_n 2, 1) := by decide +kernel
theorem dJ8_hugeLength_7cf53_59 : decode cJ8_hugeLength_7cf53 59 = .ok (.ireturn, 1) := by decide +kernel
theorem dJ3_checkIndex_8e157_0 : decode cJ3_checkIndex_8e157 0 = .ok (.iload_n 0, 1) := by decide +kernel
theorem dJ3_checkIndex_8e157_1 : decode cJ3_checkIndex_8e157 1 = .ok (.ifCond .lt 8, 3) := by decide +kernel
theorem dJ3_checkIndex_8e157_4 : decode cJ3_checkIndex_8e157 4 = .ok (.iload_n 0, 1) := by decide +kernel
theorem dJ3_checkIndex_8e157_5 : decode cJ3_checkIndex_8e157 5 = .ok (.iload_n 1, 1) := by decide +kernel
theorem dJ3_checkIndex_8e157_6 : decode cJ3_checkIndex_8e157 6 = .ok (.if_icmp .lt 10, 3) := by decide +kernel
theorem dJ3_checkIndex_8e157_9 : decode cJ3_checkIndex_8e157 9 = .ok (.aload_n 2, 1) := by decide +kernel
theorem dJ3_checkIndex_8e157_10 : decode cJ3_checkIndex_8e157 10 = .ok (.iload_n 0, 1) := by decide +kernel
theorem dJ3_checkIndex_8e157_11 : decode cJ3_checkIndex_8e157 11 = .ok (.iload_n 1, 1) := by decide +kernel
theorem dJ3_checkIndex_8e157_12 : decode cJ3_checkIndex_8e157 12 = .ok (.invokestatic 95, 3) := by decide +kernel
theorem dJ3_checkIndex_8e157_15 : decode cJ3_checkIndex_8e157 15 = .ok (.athrow, 1) := by decide +kernel
theorem dJ3_checkIndex_8e157_16 : decode cJ3_checkIndex_8e157 16 = .ok (.iload_n 0, 1) := by decide +kernel
theorem dJ3_checkIndex_8e157_17 : decode cJ3_checkIndex_8e157 17 = .ok (.ireturn, 1) := by decide +kernel
theorem dJ3_checkFromToIndex_8c36e_0 : decode cJ3_checkFromToIndex_8c36e 0 = .ok (.iload_n 0, 1) := by decide +kernel
theorem dJ3_checkFromToIndex_8c36e_1 : decode cJ3_checkFromToIndex_8c36e 1 = .ok (.ifCond .lt 13, 3) := by decide +kernel
theorem dJ3_checkFromToIndex_8c36e_4 : decode cJ3_checkFromToIndex_8c36e 4 = .ok (.iload_n 0, 1) := by decide +kernel
theorem dJ3_checkFromToIndex_8c36e_5 : decode cJ3_checkFromToIndex_8c36e 5 = .ok (.iload_n 1, 1) := by decide +kernel
theorem dJ3_checkFromToIndex_8c36e_6 : decode cJ3_checkFromToIndex_8c36e 6 = .ok (.if_icmp .gt 8, 3) := by decide +kernel
theorem dJ3_checkFromToIndex_8c36e_9 : decode cJ3_checkFromToIndex_8c36e 9 = .ok (.iload_n 1, 1) := by decide +kernel
theorem dJ3_checkFromToIndex_8c36e_10 : decode cJ3_checkFromToIndex_8c36e 10 = .ok (.iload_n 2, 1) := by decide +kernel
theorem dJ3_checkFromToIndex_8c36e_11 : decode cJ3_checkFromToIndex_8c36e 11 = .ok (.if_icmp .le 11, 3) := by decide +kernel
theorem dJ3_checkFromToIndex_8c36e_14 : decode cJ3_checkFromToIndex_8c36e 14 = .ok (.aload_n 3, 1) := by decide +kernel
theorem dJ3_checkFromToIndex_8c36e_15 : decode cJ3_checkFromToIndex_8c36e 15 = .ok (.iload_n 0, 1) := by decide +kernel
theorem dJ3_checkFromToIndex_8c36e_16 : decode cJ3_checkFromToIndex_8c36e 16 = .ok (.iload_n 1, 1) := by decide +kernel
theorem dJ3_checkFromToIndex_8c36e_17 : decode cJ3_checkFromToIndex_8c36e 17 = .ok (.iload_n 2, 1) := by decide +kernel
theorem dJ3_checkFromToIndex_8c36e_18 : decode cJ3_checkFromToIndex_8c36e 18 = .ok (.invokestatic 99, 3) := by decide +kernel
theorem dJ3_checkFromToIndex_8c36e_21 : decode cJ3_checkFromToIndex_8c36e 21 = .ok (.athrow, 1) := by decide +kernel
theorem dJ3_checkFromToIndex_8c36e_22 : decode cJ3_checkFromToIndex_8c36e 22 = .ok (.iload_n 0, 1) := by decide +kernel
theorem dJ3_checkFromToIndex_8c36e_23 : decode cJ3_checkFromToIndex_8c36e 23 = .ok (.ireturn, 1) := by decide +kernel
theorem dJ3_checkFromIndexSize_8c36e_0 : decode cJ3_checkFromIndexSize_8c36e 0 = .ok (.iload_n 2, 1) := by decide +kernel
theorem dJ3_checkFromIndexSize_8c36e_1 : decode cJ3_checkFromIndexSize_8c36e 1 = .ok (.iload_n 0, 1) := by decide +kernel
theorem dJ3_checkFromIndexSize_8c36e_2 : decode cJ3_checkFromIndexSize_8c36e 2 = .ok (.ior, 1) := by decide +kernel
theorem dJ3_checkFromIndexSize_8c36e_3 : decode cJ3_checkFromIndexSize_8c36e 3 = .ok (.iload_n 1, 1) := by decide +kernel
theorem dJ3_checkFromIndexSize_8c36e_4 : decode cJ3_checkFromIndexSize_8c36e 4 = .ok (.ior, 1) := by decide +kernel
theorem dJ3_checkFromIndexSize_8c36e_5 : decode cJ3_checkFromIndexSize_8c36e 5 = .ok (.ifCond .lt 10, 3) := by decide +kernel
theorem dJ3_checkFromIndexSize_8c36e_8 : decode cJ3_checkFromIndexSize_8c36e 8 = .ok (.iload_n 1, 1) := by decide +kernel
theorem dJ3_checkFromIndexSize_8c36e_9 : decode cJ3_checkFromIndexSize_8c36e 9 = .ok (.iload_n 2, 1) := by decide +kernel
theorem dJ3_checkFromIndexSize_8c36e_10 : decode cJ3_checkFromIndexSize_8c36e 10 = .ok (.iload_n 0, 1) := by decide +kernel
theorem dJ3_checkFromIndexSize_8c36e_11 : decode cJ3_checkFromIndexSize_8c36e 11 = .ok (.isub, 1) := by decide +kernel
theorem dJ3_checkFromIndexSize_8c36e_12 : decode cJ3_checkFromIndexSize_8c36e 12 = .ok (.if_icmp .le 11, 3) := by decide +kernel
theorem dJ3_checkFromIndexSize_8c36e_15 : decode cJ3_checkFromIndexSize_8c36e 15 = .ok (.aload_n 3, 1) := by decide +kernel
theorem dJ3_checkFromIndexSize_8c36e_16 : decode cJ3_checkFromIndexSize_8c36e 16 = .ok (.iload_n 0, 1) := by decide +kernel
theorem dJ3_checkFromIndexSize_8c36e_17 : decode cJ3_checkFromIndexSize_8c36e 17 = .ok (.iload_n 1, 1) := by decide +kernel
theorem dJ3_checkFromIndexSize_8c36e_18 : decode cJ3_checkFromIndexSize_8c36e 18 = .ok (.iload_n 2, 1) := by decide +kernel
theorem dJ3_checkFromIndexSize_8c36e_19 : decode cJ3_checkFromIndexSize_8c36e 19 = .ok (.invokestatic 103, 3) := by decide +kernel
theorem dJ3_checkFromIndexSize_8c36e_22 : decode cJ3_checkFromIndexSize_8c36e 22 = .ok (.athrow, 1) := by decide +kernel
theorem dJ3_checkFromIndexSize_8c36e_23 : decode cJ3_checkFromIndexSize_8c36e 23 = .ok (.iload_n 0, 1) := by decide +kernel
theorem dJ3_checkFromIndexSize_8c36e_24 : decode cJ3_checkFromIndexSize_8c36e 24 = .ok (.ireturn, 1) := by decide +kernel
theorem dL_law_0 : decode cL_law 0 = .ok (.new 7, 3) := by decide +kernel
theorem dL_law_3 : decode cL_law 3 = .ok (.dup, 1) := by decide +kernel
theorem dL_law_4 : decode cL_law 4 = .ok (.invokespecial 9, 3) := by decide +kernel
theorem dL_law_7 : decode cL_law 7 = .ok (.astore_n 1, 1) := by decide +kernel
theorem dL_law_8 : decode cL_law 8 = .ok (.new 10, 3) := by decide +kernel
theorem dL_law_11 : decode cL_law 11 = .ok (.dup, 1) := by decide +kernel
theorem dL_law_12 : decode cL_law 12 = .ok (.invokespecial 12, 3) := by decide +kernel
theorem dL_law_15 : decode cL_law 15 = .ok (.astore_n 2, 1) := by decide +kernel
theorem dL_law_16 : decode cL_law 16 = .ok (.iconst 0, 1) := by decide +kernel
theorem dL_law_17 : decode cL_law 17 = .ok (.istore_n 3, 1) := by decide +kernel
theorem dL_law_18 : decode cL_law 18 = .ok (.iload_n 3, 1) := by decide +kernel
theorem dL_law_19 : decode cL_law 19 = .ok (.aload_n 0, 1) := by decide +kernel
theorem dL_law_20 : decode cL_law 20 = .ok (.arraylength, 1) := by decide +kernel
theorem dL_law_21 : decode cL_law 21 = .ok (.bipush 6, 2) := by decide +kernel
theorem dL_law_23 : decode cL_law 23 = .ok (.isub, 1) := by decide +kernel
theorem dL_law_24 : decode cL_law 24 = .ok (.if_icmp .gt 1352, 3) := by decide +kernel
theorem dL_law_27 : decode cL_law 27 = .ok (.aload_n 0, 1) := by decide +kernel
theorem dL_law_28 : decode cL_law 28 = .ok (.iload_n 3, 1) := by decide +kernel
theorem dL_law_29 : decode cL_law 29 = .ok (.iaload, 1) := by decide +kernel
theorem dL_law_30 : decode cL_law 30 = .ok (.bipush 63, 2) := by decide +kernel
theorem dL_law_32 : decode cL_law 32 = .ok (.iand, 1) := by decide +kernel
theorem dL_law_33 : decode cL_law 33 = .ok (.tableswitch 1337 0 36 #[163, 186, 219, 252, 285, 318, 341, 374, 417, 440, 453, 476, 499, 542, 575, 608, 641, 674, 707, 740, 773, 817, 841, 864, 897, 930, 943, 976, 989, 1002, 1045, 1068, 1101, 1124, 1167, 1240, 1274], 163) := by decide +kernel
theorem dL_law_196 : decode cL_law 196 = .ok (.aload_n 1, 1) := by decide +kernel
theorem dL_law_197 : decode cL_law 197 = .ok (.aload_n 0, 1) := by decide +kernel
theorem dL_law_198 : decode cL_law 198 = .ok (.iload_n 3, 1) := by decide +kernel
theorem dL_law_199 : decode cL_law 199 = .ok (.iconst 1, 1) := by decide +kernel
theorem dL_law_200 : decode cL_law 200 = .ok (.iadd, 1) := by decide +kernel
theorem dL_law_201 : decode cL_law 201 = .ok (.iaload, 1) := by decide +kernel
theorem dL_law_202 : decode cL_law 202 = .ok (.invokevirtual 13, 3) := by decide +kernel
theorem dL_law_205 : decode cL_law 205 = .ok (.aload_n 2, 1) := by decide +kernel
theorem dL_law_206 : decode cL_law 206 = .ok (.aload_n 0, 1) := by decide +kernel
theorem dL_law_207 : decode cL_law 207 = .ok (.iload_n 3, 1) := by decide +kernel
theorem dL_law_208 : decode cL_law 208 = .ok (.iconst 1, 1) := by decide +kernel
theorem dL_law_209 : decode cL_law 209 = .ok (.iadd, 1) := by decide +kernel
theorem dL_law_210 : decode cL_law 210 = .ok (.iaload, 1) := by decide +kernel
theorem dL_law_211 : decode cL_law 211 = .ok (.invokevirtual 17, 3) := by decide +kernel
theorem dL_law_214 : decode cL_law 214 = .ok (.if_icmp .eq 1156, 3) := by decide +kernel
theorem dL_law_217 : decode cL_law 217 = .ok (.iconst 0, 1) := by decide +kernel
theorem dL_law_218 : decode cL_law 218 = .ok (.ireturn, 1) := by decide +kernel
theorem dL_law_219 : decode cL_law 219 = .ok (.aload_n 1, 1) := by decide +kernel
theorem dL_law_220 : decode cL_law 220 = .ok (.aload_n 0, 1) := by decide +kernel
theorem dL_law_221 : decode cL_law 221 = .ok (.iload_n 3, 1) := by decide +kernel
theorem dL_law_222 : decode cL_law 222 = .ok (.iconst 1, 1) := by decide +kernel
theorem dL_law_223 : decode cL_law 223 = .ok (.iadd, 1) := by decide +kernel
theorem dL_law_224 : decode cL_law 224 = .ok (.iaload, 1) := by decide +kernel
theorem dL_law_225 : decode cL_law 225 = .ok (.aload_n 0, 1) := by decide +kernel
theorem dL_law_226 : decode cL_law 226 = .ok (.iload_n 3, 1) := by decide +kernel
theorem dL_law_227 : decode cL_law 227 = .ok (.iconst 2, 1) := by decide +kernel
theorem dL_law_228 : decode cL_law 228 = .ok (.iadd, 1) := by decide +kernel
theorem dL_law_229 : decode cL_law 229 = .ok (.iaload, 1) := by decide +kernel
theorem dL_law_230 : decode cL_law 230 = .ok (.invokevirtual 18, 3) := by decide +kernel
theorem dL_law_233 : decode cL_law 233 = .ok (.aload_n 2, 1) := by decide +kernel
theorem dL_law_234 : decode cL_law 234 = .ok (.aload_n 0, 1) := by decide +kernel
theorem dL_law_235 : decode cL_law 235 = .ok (.iload_n 3, 1) := by decide +kernel
theorem dL_law_236 : decode cL_law 236 = .ok (.iconst 1, 1) := by decide +kernel
theorem dL_law_237 : decode cL_law 237 = .ok (.iadd, 1) := by decide +kernel
theorem dL_law_238 : decode cL_law 238 = .ok (.iaload, 1) := by decide +kernel
theorem dL_law_239 : decode cL_law 239 = .ok (.aload_n 0, 1) := by decide +kernel
theorem dL_law_240 : decode cL_law 240 = .ok (.iload_n 3, 1) := by decide +kernel
theorem dL_law_241 : decode cL_law 241 = .ok (.iconst 2, 1) := by decide +kernel
theorem dL_law_242 : decode cL_law 242 = .ok (.iadd, 1) := by decide +kernel
theorem dL_law_243 : decode cL_law 243 = .ok (.iaload, 1) := by decide +kernel
theorem dL_law_244 : decode cL_law 244 = .ok (.invokevirtual 22, 3) := by decide +kernel
theorem dL_law_247 : decode cL_law 247 = .ok (.if_icmp .eq 1123, 3) := by decide +kernel
theorem dL_law_250 : decode cL_law 250 = .ok (.iconst 0, 1) := by decide +kernel
theorem dL_law_251 : decode cL_law 251 = .ok (.ireturn, 1) := by decide +kernel
theorem dL_law_252 : decode cL_law 252 = .ok (.aload_n 1, 1) := by decide +kernel
theorem dL_law_253 : decode cL_law 253 = .ok (.aload_n 0, 1) := by decide +kernel
theorem dL_law_254 : decode cL_law 254 = .ok (.iload_n 3, 1) := by decide +kernel
theorem dL_law_255 : decode cL_law 255 = .ok (.iconst 1, 1) := by decide +kernel
theorem dL_law_256 : decode cL_law 256 = .ok (.iadd, 1) := by decide +kernel
theorem dL_law_257 : decode cL_law 257 = .ok (.iaload, 1) := by decide +kernel
theorem dL_law_258 : decode cL_law 258 = .ok (.aload_n 0, 1) := by decide +kernel
theorem dL_law_259 : decode cL_law 259 = .ok (.iload_n 3, 1) := by decide +kernel
theorem dL_law_260 : decode cL_law 260 = .ok (.iconst 2, 1) := by decide +kernel
theorem dL_law_261 : decode cL_law 261 = .ok (.iadd, 1) := by decide +kernel
theorem dL_law_262 : decode cL_law 262 = .ok (.iaload, 1) := by decide +kernel
theorem dL_law_263 : decode cL_law 263 = .ok (.invokevirtual 23, 3) := by decide +kernel
theorem dL_law_266 : decode cL_law 266 = .ok (.aload_n 2, 1) := by decide +kernel
theorem dL_law_267 : decode cL_law 267 = .ok (.aload_n 0, 1) := by decide +kernel
theorem dL_law_268 : decode cL_law 268 = .ok (.iload_n 3, 1) := by decide +kernel
theorem dL_law_269 : decode cL_law 269 = .ok (.iconst 1, 1) := by decide +kernel
theorem dL_law_270 : decode cL_law 270 = .ok (.iadd, 1) := by decide +kernel
theorem dL_law_271 : decode cL_law 271 = .ok (.iaload, 1) := by decide +kernel
theorem dL_law_272 : decode cL_law 272 = .ok (.aload_n 0, 1) := by decide +kernel
theorem dL_law_273 : decode cL_law 273 = .ok (.iload_n 3, 1) := by decide +kernel
theorem dL_law_274 : decode cL_law 274 = .ok (.iconst 2, 1) := by decide +kernel
theorem dL_law_275 : decode cL_law 275 = .ok (.iadd, 1) := by decide +kernel
theorem dL_law_276 : decode cL_law 276 = .ok (.iaload, 1) := by decide +kernel
theorem dL_law_277 : decode cL_law 277 = .ok (.invokevirtual 26, 3) := by decide +kernel
theorem dL_law_280 : decode cL_law 280 = .ok (.if_icmp .eq 1090, 3) := by decide +kernel
theorem dL_law_283 : decode cL_law 283 = .ok (.iconst 0, 1) := by decide +kernel
theorem dL_law_284 : decode cL_law 284 = .ok (.ireturn, 1) := by decide +kernel
theorem dL_law_285 : decode cL_law 285 = .ok (.aload_n 1, 1) := by decide +kernel
theorem dL_law_286 : decode cL_law 286 = .ok (.aload_n 0, 1) := by decide +kernel
theorem dL_law_287 : decode cL_law 287 = .ok (.iload_n 3, 1) := by decide +kernel
theorem dL_law_288 : decode cL_law 288 = .ok (.iconst 1, 1) := by decide +kernel
theorem dL_law_289 : decode cL_law 289 = .ok (.iadd, 1) := by decide +kernel
theorem dL_law_290 : decode cL_law 290 = .ok (.iaload, 1) := by decide +kernel
theorem dL_law_291 : decode cL_law 291 = .ok (.aload_n 0, 1) := by decide +kernel
theorem dL_law_292 : decode cL_law 292 = .ok (.iload_n 3, 1) := by decide +kernel
theorem dL_law_293 : decode cL_law 293 = .ok (.iconst 2, 1) := by decide +kernel
theorem dL_law_294 : decode cL_law 294 = .ok (.iadd, 1) := by decide +kernel
theorem dL_law_295 : decode cL_law 295 = .ok (.iaload, 1) := by decide +kernel
theorem dL_law_296 : decode cL_law 296 = .ok (.invokevirtual 27, 3) := by decide +kernel
theorem dL_law_299 : decode cL_law 299 = .ok (.aload_n 2, 1) := by decide +kernel
theorem dL_law_300 : decode cL_law 300 = .ok (.aload_n 0, 1) := by decide +kernel
theorem dL_law_301 : decode cL_law 301 = .ok (.iload_n 3, 1) := by decide +kernel
theorem dL_law_302 : decode cL_law 302 = .ok (.iconst 1, 1) := by decide +kernel
theorem dL_law_303 : decode cL_law 303 = .ok (.iadd, 1) := by decide +kernel
theorem dL_law_304 : decode cL_law 304 = .ok (.iaload, 1) := by decide +kernel
theorem dL_law_305 : decode cL_law 305 = .ok (.aload_n 0, 1) := by decide +kernel
theorem dL_law_306 : decode cL_law 306 = .ok (.iload_n 3, 1) := by decide +kernel
theorem dL_law_307 : decode cL_law 307 = .ok (.iconst 2, 1) := by decide +kernel
theorem dL_law_308 : decode cL_law 308 = .ok (.iadd, 1) := by decide +kernel
theorem dL_law_309 : decode cL_law 309 = .ok (.iaload, 1) := by decide +kernel
theorem dL_law_310 : decode cL_law 310 = .ok (.invokevirtual 30, 3) := by decide +kernel
theorem dL_law_313 : decode cL_law 313 = .ok (.if_icmp .eq 1057, 3) := by decide +kernel
theorem dL_law_316 : decode cL_law 316 = .ok (.iconst 0, 1) := by decide +kernel
theorem dL_law_317 : decode cL_law 317 = .ok (.ireturn, 1) := by decide +kernel
theorem dL_law_318 : decode cL_law 318 = .ok (.aload_n 1, 1) := by decide +kernel
theorem dL_law_319 : decode cL_law 319 = .ok (.aload_n 0, 1) := by decide +kernel
theorem dL_law_320 : decode cL_law 320 = .ok (.iload_n 3, 1) := by decide +kernel
theorem dL_law_321 : decode cL_law 321 = .ok (.iconst 1, 1) := by decide +kernel
theorem dL_law_322 : decode cL_law 322 = .ok (.iadd, 1) := by decide +kernel
theorem dL_law_323 : decode cL_law 323 = .ok (.iaload, 1) := by decide +kernel
theorem dL_law_324 : decode cL_law 324 = .ok (.aload_n 0, 1) := by decide +kernel
theorem dL_law_325 : decode cL_law 325 = .ok (.iload_n 3, 1) := by decide +kernel
theorem dL_law_326 : decode cL_law 326 = .ok (.iconst 2, 1) := by decide +kernel
theorem dL_law_327 : decode cL_law 327 = .ok (.iadd, 1) := by decide +kernel
theorem dL_law_328 : decode cL_law 328 = .ok (.iaload, 1) := by decide +kernel
theorem dL_law_329 : decode cL_law 329 = .ok (.invokevirtual 31, 3) := by decide +kernel
theorem dL_law_332 : decode cL_law 332 = .ok (.aload_n 2, 1) := by decide +kernel
theorem dL_law_333 : decode cL_law 333 = .ok (.aload_n 0, 1) := by decide +kernel
theorem dL_law_334 : decode cL_law 334 = .ok (.iload_n 3, 1) := by decide +kernel
theorem dL_law_335 : decode cL_law 335 = .ok (.iconst 1, 1) := by decide +kernel
theorem dL_law_336 : decode cL_law 336 = .ok (.iadd, 1) := by decide +kernel
theorem dL_law_337 : decode cL_law 337 = .ok (.iaload, 1) := by decide +kernel
theorem dL_law_338 : decode cL_law 338 = .ok (.aload_n 0, 1) := by decide +kernel
theorem dL_law_339 : decode cL_law 339 = .ok (.iload_n 3, 1) := by decide +kernel
theorem dL_law_340 : decode cL_law 340 = .ok (.iconst 2, 1) := by decide +kernel
theorem dL_law_341 : decode cL_law 341 = .ok (.iadd, 1) := by decide +kernel
theorem dL_law_342 : decode cL_law 342 = .ok (.iaload, 1) := by decide +kernel
theorem dL_law_343 : decode cL_law 343 = .ok (.invokevirtual 34, 3) := by decide +kernel
theorem dL_law_346 : decode cL_law 346 = .ok (.if_icmp .eq 1024, 3) := by decide +kernel
theorem dL_law_349 : decode cL_law 349 = .ok (.iconst 0, 1) := by decide +kernel
theorem dL_law_350 : decode cL_law 350 = .ok (.ireturn, 1) := by decide +kernel
theorem dL_law_351 : decode cL_law 351 = .ok (.aload_n 1, 1) := by decide +kernel
theorem dL_law_352 : decode cL_law 352 = .ok (.aload_n 0, 1) := by decide +kernel
theorem dL_law_353 : decode cL_law 353 = .ok (.iload_n 3, 1) := by decide +kernel
theorem dL_law_354 : decode cL_law 354 = .ok (.iconst 1, 1) := by decide +kernel
theorem dL_law_355 : decode cL_law 355 = .ok (.iadd, 1) := by decide +kernel
theorem dL_law_356 : decode cL_law 356 = .ok (.iaload, 1) := by decide +kernel
theorem dL_law_357 : decode cL_law 357 = .ok (.invokevirtual 35, 3) := by decide +kernel
theorem dL_law_360 : decode cL_law 360 = .ok (.aload_n 2, 1) := by decide +kernel
theorem dL_law_361 : decode cL_law 361 = .ok (.aload_n 0, 1) := by decide +kernel
theorem dL_law_362 : decode cL_law 362 = .ok (.iload_n 3, 1) := by decide +kernel
theorem dL_law_363 : decode cL_law 363 = .ok (.iconst 1, 1) := by decide +kernel
theorem dL_law_364 : decode cL_law 364 = .ok (.iadd, 1) := by decide +kernel
theorem dL_law_365 : decode cL_law 365 = .ok (.iaload, 1) := by decide +kernel
theorem dL_law_366 : decode cL_law 366 = .ok (.invokevirtual 38, 3) := by decide +kernel
theorem dL_law_369 : decode cL_law 369 = .ok (.if_icmp .eq 1001, 3) := by decide +kernel
theorem dL_law_372 : decode cL_law 372 = .ok (.iconst 0, 1) := by decide +kernel
theorem dL_law_373 : decode cL_law 373 = .ok (.ireturn, 1) := by decide +kernel
theorem dL_law_374 : decode cL_law 374 = .ok (.aload_n 1, 1) := by decide +kernel
theorem dL_law_375 : decode cL_law 375 = .ok (.aload_n 0, 1) := by decide +kernel
theorem dL_law_376 : decode cL_law 376 = .ok (.iload_n 3, 1) := by decide +kernel
theorem dL_law_377 : decode cL_law 377 = .ok (.iconst 1, 1) := by decide +kernel
theorem dL_law_378 : decode cL_law 378 = .ok (.iadd, 1) := by decide +kernel
theorem dL_law_379 : decode cL_law 379 = .ok (.iaload, 1) := by decide +kernel
theorem dL_law_380 : decode cL_law 380 = .ok (.aload_n 0, 1) := by decide +kernel
theorem dL_law_381 : decode cL_law 381 = .ok (.iload_n 3, 1) := by decide +kernel
theorem dL_law_382 : decode cL_law 382 = .ok (.iconst 2, 1) := by decide +kernel
theorem dL_law_383 : decode cL_law 383 = .ok (.iadd, 1) := by decide +kernel
theorem dL_law_384 : decode cL_law 384 = .ok (.iaload, 1) := by decide +kernel
theorem dL_law_385 : decode cL_law 385 = .ok (.invokevirtual 39, 3) := by decide +kernel
theorem dL_law_388 : decode cL_law 388 = .ok (.aload_n 2, 1) := by decide +kernel
theorem dL_law_389 : decode cL_law 389 = .ok (.aload_n 0, 1) := by decide +kernel
theorem dL_law_390 : decode cL_law 390 = .ok (.iload_n 3, 1) := by decide +kernel
theorem dL_law_391 : decode cL_law 391 = .ok (.iconst 1, 1) := by decide +kernel
theorem dL_law_392 : decode cL_law 392 = .ok (.iadd, 1) := by decide +kernel
theorem dL_law_393 : decode cL_law 393 = .ok (.iaload, 1) := by decide +kernel
theorem dL_law_394 : decode cL_law 394 = .ok (.aload_n 0, 1) := by decide +kernel
theorem dL_law_395 : decode cL_law 395 = .ok (.iload_n 3, 1) := by decide +kernel
theorem dL_law_396 : decode cL_law 396 = .ok (.iconst 2, 1) := by decide +kernel
theorem dL_law_397 : decode cL_law 397 = .ok (.iadd, 1) := by decide +kernel
theorem dL_law_398 : decode cL_law 398 = .ok (.iaload, 1) := by decide +kernel
theorem dL_law_399 : decode cL_law 399 = .ok (.invokevirtual 42, 3) := by decide +kernel
theorem dL_law_402 : decode cL_law 402 = .ok (.if_icmp .eq 968, 3) := by decide +kernel
theorem dL_law_405 : decode cL_law 405 = .ok (.iconst 0, 1) := by decide +kernel
theorem dL_law_406 : decode cL_law 406 = .ok (.ireturn, 1) := by decide +kernel
theorem dL_law_407 : decode cL_law 407 = .ok (.aload_n 1, 1) := by decide +kernel
theorem dL_law_408 : decode cL_law 408 = .ok (.aload_n 0, 1) := by decide +kernel
theorem dL_law_409 : decode cL_law 409 = .ok (.iload_n 3, 1) := by decide +kernel
theorem dL_law_410 : decode cL_law 410 = .ok (.iconst 1, 1) := by decide +kernel
theorem dL_law_411 : decode cL_law 411 = .ok (.iadd, 1) := by decide +kernel
theorem dL_law_412 : decode cL_law 412 = .ok (.iaload, 1) := by decide +kernel
theorem dL_law_413 : decode cL_law 413 = .ok (.aload_n 0, 1) := by decide +kernel
theorem dL_law_414 : decode cL_law 414 = .ok (.iload_n 3, 1) := by decide +kernel
theorem dL_law_415 : decode cL_law 415 = .ok (.iconst 2, 1) := by decide +kernel
theorem dL_law_416 : decode cL_law 416 = .ok (.iadd, 1) := by decide +kernel
theorem dL_law_417 : decode cL_law 417 = .ok (.iaload, 1) := by decide +kernel
theorem dL_law_418 : decode cL_law 418 = .ok (.aload_n 0, 1) := by decide +kernel
theorem dL_law_419 : decode cL_law 419 = .ok (.iload_n 3, 1) := by decide +kernel
theorem dL_law_420 : decode cL_law 420 = .ok (.iconst 3, 1) := by decide +kernel
theorem dL_law_421 : decode cL_law 421 = .ok (.iadd, 1) := by decide +kernel
theorem dL_law_422 : decode cL_law 422 = .ok (.iaload, 1) := by decide +kernel
theorem dL_law_423 : decode cL_law 423 = .ok (.invokevirtual 43, 3) := by decide +kernel
theorem dL_law_426 : decode cL_law 426 = .ok (.aload_n 2, 1) := by decide +kernel
theorem dL_law_427 : decode cL_law 427 = .ok (.aload_n 0, 1) := by decide +kernel
theorem dL_law_428 : decode cL_law 428 = .ok (.iload_n 3, 1) := by decide +kernel
theorem dL_law_429 : decode cL_law 429 = .ok (.iconst 1, 1) := by decide +kernel
theorem dL_law_430 : decode cL_law 430 = .ok (.iadd, 1) := by decide +kernel
theorem dL_law_431 : decode cL_law 431 = .ok (.iaload, 1) := by decide +kernel
theorem dL_law_432 : decode cL_law 432 = .ok (.aload_n 0, 1) := by decide +kernel
theorem dL_law_433 : decode cL_law 433 = .ok (.iload_n 3, 1) := by decide +kernel
theorem dL_law_434 : decode cL_law 434 = .ok (.iconst 2, 1) := by decide +kernel
theorem dL_law_435 : decode cL_law 435 = .ok (.iadd, 1) := by decide +kernel
theorem dL_law_436 : decode cL_law 436 = .ok (.iaload, 1) := by decide +kernel
theorem dL_law_437 : decode cL_law 437 = .ok (.aload_n 0, 1) := by decide +kernel
theorem dL_law_438 : decode cL_law 438 = .ok (.iload_n 3, 1) := by decide +kernel
theorem dL_law_439 : decode cL_law 439 = .ok (.iconst 3, 1) := by decide +kernel
theorem dL_law_440 : decode cL_law 440 = .ok (.iadd, 1) := by decide +kernel
theorem dL_law_441 : decode cL_law 441 = .ok (.iaload, 1) := by decide +kernel
theorem dL_law_442 : decode cL_law 442 = .ok (.invokevirtual 47, 3) := by decide +kernel
theorem dL_law_445 : decode cL_law 445 = .ok (.if_icmp .eq 925, 3) := by decide +kernel
theorem dL_law_448 : decode cL_law 448 = .ok (.iconst 0, 1) := by decide +kernel
theorem dL_law_449 : decode cL_law 449 = .ok (.ireturn, 1) := by decide +kernel
theorem dL_law_450 : decode cL_law 450 = .ok (.aload_n 1, 1) := by decide +kernel
theorem dL_law_451 : decode cL_law 451 = .ok (.aload_n 0, 1) := by decide +kernel
theorem dL_law_452 : decode cL_law 452 = .ok (.iload_n 3, 1) := by decide +kernel
theorem dL_law_453 : decode cL_law 453 = .ok (.iconst 1, 1) := by decide +kernel
theorem dL_law_454 : decode cL_law 454 = .ok (.iadd, 1) := by decide +kernel
theorem dL_law_455 : decode cL_law 455 = .ok (.iaload, 1) := by decide +kernel
theorem dL_law_456 : decode cL_law 456 = .ok (.invokevirtual 48, 3) := by decide +kernel
theorem dL_law_459 : decode cL_law 459 = .ok (.aload_n 2, 1) := by decide +kernel
theorem dL_law_460 : decode cL_law 460 = .ok (.aload_n 0, 1) := by decide +kernel
theorem dL_law_461 : decode cL_law 461 = .ok (.iload_n 3, 1) := by decide +kernel
theorem dL_law_462 : decode cL_law 462 = .ok (.iconst 1, 1) := by decide +kernel
theorem dL_law_463 : decode cL_law 463 = .ok (.iadd, 1) := by decide +kernel
theorem dL_law_464 : decode cL_law 464 = .ok (.iaload, 1) := by decide +kernel
theorem dL_law_465 : decode cL_law 465 = .ok (.invokevirtual 51, 3) := by decide +kernel
theorem dL_law_468 : decode cL_law 468 = .ok (.if_icmp .eq 902, 3) := by decide +kernel
theorem dL_law_471 : decode cL_law 471 = .ok (.iconst 0, 1) := by decide +kernel
theorem dL_law_472 : decode cL_law 472 = .ok (.ireturn, 1) := by decide +kernel
theorem dL_law_473 : decode cL_law 473 = .ok (.aload_n 1, 1) := by decide +kernel
theorem dL_law_474 : decode cL_law 474 = .ok (.invokevirtual 52, 3) := by decide +kernel
theorem dL_law_477 : decode cL_law 477 = .ok (.aload_n 2, 1) := by decide +kernel
theorem dL_law_478 : decode cL_law 478 = .ok (.invokevirtual 56, 3) := by decide +kernel
theorem dL_law_481 : decode cL_law 481 = .ok (.if_icmp .eq 889, 3) := by decide +kernel
theorem dL_law_484 : decode cL_law 484 = .ok (.iconst 0, 1) := by decide +kernel
theorem dL_law_485 : decode cL_law 485 = .ok (.ireturn, 1) := by decide +kernel
theorem dL_law_486 : decode cL_law 486 = .ok (.aload_n 1, 1) := by decide +kernel
theorem dL_law_487 : decode cL_law 487 = .ok (.aload_n 0, 1) := by decide +kernel
theorem dL_law_488 : decode cL_law 488 = .ok (.iload_n 3, 1) := by decide +kernel
theorem dL_law_489 : decode cL_law 489 = .ok (.iconst 1, 1) := by decide +kernel
theorem dL_law_490 : decode cL_law 490 = .ok (.iadd, 1) := by decide +kernel
theorem dL_law_491 : decode cL_law 491 = .ok (.iaload, 1) := by decide +kernel
theorem dL_law_492 : decode cL_law 492 = .ok (.invokevirtual 57, 3) := by decide +kernel
theorem dL_law_495 : decode cL_law 495 = .ok (.aload_n 2, 1) := by decide +kernel
theorem dL_law_496 : decode cL_law 496 = .ok (.aload_n 0, 1) := by decide +kernel
theorem dL_law_497 : decode cL_law 497 = .ok (.iload_n 3, 1) := by decide +kernel
theorem dL_law_498 : decode cL_law 498 = .ok (.iconst 1, 1) := by decide +kernel
theorem dL_law_499 : decode cL_law 499 = .ok (.iadd, 1) := by decide +kernel
theorem dL_law_500 : decode cL_law 500 = .ok (.iaload, 1) := by decide +kernel
theorem dL_law_501 : decode cL_law 501 = .ok (.invokevirtual 60, 3) := by decide +kernel
theorem dL_law_504 : decode cL_law 504 = .ok (.if_icmp .eq 866, 3) := by decide +kernel
theorem dL_law_507 : decode cL_law 507 = .ok (.iconst 0, 1) := by decide +kernel
theorem dL_law_508 : decode cL_law 508 = .ok (.ireturn, 1) := by decide +kernel
theorem dL_law_509 : decode cL_law 509 = .ok (.aload_n 1, 1) := by decide +kernel
theorem dL_law_510 : decode cL_law 510 = .ok (.aload_n 0, 1) := by decide +kernel
theorem dL_law_511 : decode cL_law 511 = .ok (.iload_n 3, 1) := by decide +kernel
theorem dL_law_512 : decode cL_law 512 = .ok (.iconst 1, 1) := by decide +kernel
theorem dL_law_513 : decode cL_law 513 = .ok (.iadd, 1) := by decide +kernel
theorem dL_law_514 : decode cL_law 514 = .ok (.iaload, 1) := by decide +kernel
theorem dL_law_515 : decode cL_law 515 = .ok (.invokevirtual 61, 3) := by decide +kernel
theorem dL_law_518 : decode cL_law 518 = .ok (.aload_n 2, 1) := by decide +kernel
theorem dL_law_519 : decode cL_law 519 = .ok (.aload_n 0, 1) := by decide +kernel
theorem dL_law_520 : decode cL_law 520 = .ok (.iload_n 3, 1) := by decide +kernel
theorem dL_law_521 : decode cL_law 521 = .ok (.iconst 1, 1) := by decide +kernel
theorem dL_law_522 : decode cL_law 522 = .ok (.iadd, 1) := by decide +kernel
theorem dL_law_523 : decode cL_law 523 = .ok (.iaload, 1) := by decide +kernel
theorem dL_law_524 : decode cL_law 524 = .ok (.invokevirtual 64, 3) := by decide +kernel
theorem dL_law_527 : decode cL_law 527 = .ok (.if_icmp .eq 843, 3) := by decide +kernel
theorem dL_law_530 : decode cL_law 530 = .ok (.iconst 0, 1) := by decide +kernel
theorem dL_law_531 : decode cL_law 531 = .ok (.ireturn, 1) := by decide +kernel
theorem dL_law_532 : decode cL_law 532 = .ok (.aload_n 1, 1) := by decide +kernel
theorem dL_law_533 : decode cL_law 533 = .ok (.aload_n 0, 1) := by decide +kernel
theorem dL_law_534 : decode cL_law 534 = .ok (.iload_n 3, 1) := by decide +kernel
theorem dL_law_535 : decode cL_law 535 = .ok (.iconst 1, 1) := by decide +kernel
theorem dL_law_536 : decode cL_law 536 = .ok (.iadd, 1) := by decide +kernel
theorem dL_law_537 : decode cL_law 537 = .ok (.iaload, 1) := by decide +kernel
theorem dL_law_538 : decode cL_law 538 = .ok (.aload_n 0, 1) := by decide +kernel
theorem dL_law_539 : decode cL_law 539 = .ok (.iload_n 3, 1) := by decide +kernel
theorem dL_law_540 : decode cL_law 540 = .ok (.iconst 2, 1) := by decide +kernel
theorem dL_law_541 : decode cL_law 541 = .ok (.iadd, 1) := by decide +kernel
theorem dL_law_542 : decode cL_law 542 = .ok (.iaload, 1) := by decide +kernel
theorem dL_law_543 : decode cL_law 543 = .ok (.aload_n 0, 1) := by decide +kernel
theorem dL_law_544 : decode cL_law 544 = .ok (.iload_n 3, 1) := by decide +kernel
theorem dL_law_545 : decode cL_law 545 = .ok (.iconst 3, 1) := by decide +kernel
theorem dL_law_546 : decode cL_law 546 = .ok (.iadd, 1) := by decide +kernel
theorem dL_law_547 : decode cL_law 547 = .ok (.iaload, 1) := by decide +kernel
theorem dL_law_548 : decode cL_law 548 = .ok (.invokevirtual 65, 3) := by decide +kernel
theorem dL_law_551 : decode cL_law 551 = .ok (.aload_n 2, 1) := by decide +kernel
theorem dL_law_552 : decode cL_law 552 = .ok (.aload_n 0, 1) := by decide +kernel
theorem dL_law_553 : decode cL_law 553 = .ok (.iload_n 3, 1) := by decide +kernel
theorem dL_law_554 : decode cL_law 554 = .ok (.iconst 1, 1) := by decide +kernel
theorem dL_law_555 : decode cL_law 555 = .ok (.iadd, 1) := by decide +kernel
theorem dL_law_556 : decode cL_law 556 = .ok (.iaload, 1) := by decide +kernel
theorem dL_law_557 : decode cL_law 557 = .ok (.aload_n 0, 1) := by decide +kernel
theorem dL_law_558 : decode cL_law 558 = .ok (.iload_n 3, 1) := by decide +kernel
theorem dL_law_559 : decode cL_law 559 = .ok (.iconst 2, 1) := by decide +kernel
theorem dL_law_560 : decode cL_law 560 = .ok (.iadd, 1) := by decide +kernel
theorem dL_law_561 : decode cL_law 561 = .ok (.iaload, 1) := by decide +kernel
theorem dL_law_562 : decode cL_law 562 = .ok (.aload_n 0, 1) := by decide +kernel
theorem dL_law_563 : decode cL_law 563 = .ok (.iload_n 3, 1) := by decide +kernel
theorem dL_law_564 : decode cL_law 564 = .ok (.iconst 3, 1) := by decide +kernel
theorem dL_law_565 : decode cL_law 565 = .ok (.iadd, 1) := by decide +kernel
theorem dL_law_566 : decode cL_law 566 = .ok (.iaload, 1) := by decide +kernel
theorem dL_law_567 : decode cL_law 567 = .ok (.invokevirtual 68, 3) := by decide +kernel
theorem dL_law_570 : decode cL_law 570 = .ok (.if_icmp .eq 800, 3) := by decide +kernel
theorem dL_law_573 : decode cL_law 573 = .ok (.iconst 0, 1) := by decide +kernel
theorem dL_law_574 : decode cL_law 574 = .ok (.ireturn, 1) := by decide +kernel
theorem dL_law_575 : decode cL_law 575 = .ok (.aload_n 1, 1) := by decide +kernel
theorem dL_law_576 : decode cL_law 576 = .ok (.aload_n 0, 1) := by decide +kernel
theorem dL_law_577 : decode cL_law 577 = .ok (.iload_n 3, 1) := by decide +kernel
theorem dL_law_578 : decode cL_law 578 = .ok (.iconst 1, 1) := by decide +kernel
theorem dL_law_579 : decode cL_law 579 = .ok (.iadd, 1) := by decide +kernel
theorem dL_law_580 : decode cL_law 580 = .ok (.iaload, 1) := by decide +kernel
theorem dL_law_581 : decode cL_law 581 = .ok (.aload_n 0, 1) := by decide +kernel
theorem dL_law_582 : decode cL_law 582 = .ok (.iload_n 3, 1) := by decide +kernel
theorem dL_law_583 : decode cL_law 583 = .ok (.iconst 2, 1) := by decide +kernel
theorem dL_law_584 : decode cL_law 584 = .ok (.iadd, 1) := by decide +kernel
theorem dL_law_585 : decode cL_law 585 = .ok (.iaload, 1) := by decide +kernel
theorem dL_law_586 : decode cL_law 586 = .ok (.invokevirtual 69, 3) := by decide +kernel
theorem dL_law_589 : decode cL_law 589 = .ok (.aload_n 2, 1) := by decide +kernel
theorem dL_law_590 : decode cL_law 590 = .ok (.aload_n 0, 1) := by decide +kernel
theorem dL_law_591 : decode cL_law 591 = .ok (.iload_n 3, 1) := by decide +kernel
theorem dL_law_592 : decode cL_law 592 = .ok (.iconst 1, 1) := by decide +kernel
theorem dL_law_593 : decode cL_law 593 = .ok (.iadd, 1) := by decide +kernel
theorem dL_law_594 : decode cL_law 594 = .ok (.iaload, 1) := by decide +kernel
theorem dL_law_595 : decode cL_law 595 = .ok (.aload_n 0, 1) := by decide +kernel
theorem dL_law_596 : decode cL_law 596 = .ok (.iload_n 3, 1) := by decide +kernel
theorem dL_law_597 : decode cL_law 597 = .ok (.iconst 2, 1) := by decide +kernel
theorem dL_law_598 : decode cL_law 598 = .ok (.iadd, 1) := by decide +kernel
theorem dL_law_599 : decode cL_law 599 = .ok (.iaload, 1) := by decide +kernel
theorem dL_law_600 : decode cL_law 600 = .ok (.invokevirtual 72, 3) := by decide +kernel
theorem dL_law_603 : decode cL_law 603 = .ok (.if_icmp .eq 767, 3) := by decide +kernel
theorem dL_law_606 : decode cL_law 606 = .ok (.iconst 0, 1) := by decide +kernel
theorem dL_law_607 : decode cL_law 607 = .ok (.ireturn, 1) := by decide +kernel
theorem dL_law_608 : decode cL_law 608 = .ok (.aload_n 1, 1) := by decide +kernel
theorem dL_law_609 : decode cL_law 609 = .ok (.aload_n 0, 1) := by decide +kernel
theorem dL_law_610 : decode cL_law 610 = .ok (.iload_n 3, 1) := by decide +kernel
theorem dL_law_611 : decode cL_law 611 = .ok (.iconst 1, 1) := by decide +kernel
theorem dL_law_612 : decode cL_law 612 = .ok (.iadd, 1) := by decide +kernel
theorem dL_law_613 : decode cL_law 613 = .ok (.iaload, 1) := by decide +kernel
theorem dL_law_614 : decode cL_law 614 = .ok (.aload_n 0, 1) := by decide +kernel
theorem dL_law_615 : decode cL_law 615 = .ok (.iload_n 3, 1) := by decide +kernel
theorem dL_law_616 : decode cL_law 616 = .ok (.iconst 2, 1) := by decide +kernel
theorem dL_law_617 : decode cL_law 617 = .ok (.iadd, 1) := by decide +kernel
theorem dL_law_618 : decode cL_law 618 = .ok (.iaload, 1) := by decide +kernel
theorem dL_law_619 : decode cL_law 619 = .ok (.invokevirtual 73, 3) := by decide +kernel
theorem dL_law_622 : decode cL_law 622 = .ok (.aload_n 2, 1) := by decide +kernel
theorem dL_law_623 : decode cL_law 623 = .ok (.aload_n 0, 1) := by decide +kernel
theorem dL_law_624 : decode cL_law 624 = .ok (.iload_n 3, 1) := by decide +kernel
theorem dL_law_625 : decode cL_law 625 = .ok (.iconst 1, 1) := by decide +kernel
theorem dL_law_626 : decode cL_law 626 = .ok (.iadd, 1) := by decide +kernel
theorem dL_law_627 : decode cL_law 627 = .ok (.iaload, 1) := by decide +kernel
theorem dL_law_628 : decode cL_law 628 = .ok (.aload_n 0, 1) := by decide +kernel
theorem dL_law_629 : decode cL_law 629 = .ok (.iload_n 3, 1) := by decide +kernel
theorem dL_law_630 : decode cL_law 630 = .ok (.iconst 2, 1) := by decide +kernel
theorem dL_law_631 : decode cL_law 631 = .ok (.iadd, 1) := by decide +kernel
theorem dL_law_632 : decode cL_law 632 = .ok (.iaload, 1) := by decide +kernel
theorem dL_law_633 : decode cL_law 633 = .ok (.invokevirtual 76, 3) := by decide +kernel
theorem dL_law_636 : decode cL_law 636 = .ok (.if_icmp .eq 734, 3) := by decide +kernel
theorem dL_law_639 : decode cL_law 639 = .ok (.iconst 0, 1) := by decide +kernel
theorem dL_law_640 : decode cL_law 640 = .ok (.ireturn, 1) := by decide +kernel
theorem dL_law_641 : decode cL_law 641 = .ok (.aload_n 1, 1) := by decide +kernel
theorem dL_law_642 : decode cL_law 642 = .ok (.aload_n 0, 1) := by decide +kernel
theorem dL_law_643 : decode cL_law 643 = .ok (.iload_n 3, 1) := by decide +kernel
theorem dL_law_644 : decode cL_law 644 = .ok (.iconst 1, 1) := by decide +kernel
theorem dL_law_645 : decode cL_law 645 = .ok (.iadd, 1) := by decide +kernel
theorem dL_law_646 : decode cL_law 646 = .ok (.iaload, 1) := by decide +kernel
theorem dL_law_647 : decode cL_law 647 = .ok (.aload_n 0, 1) := by decide +kernel
theorem dL_law_648 : decode cL_law 648 = .ok (.iload_n 3, 1) := by decide +kernel
theorem dL_law_649 : decode cL_law 649 = .ok (.iconst 2, 1) := by decide +kernel
theorem dL_law_650 : decode cL_law 650 = .ok (.iadd, 1) := by decide +kernel
theorem dL_law_651 : decode cL_law 651 = .ok (.iaload, 1) := by decide +kernel
theorem dL_law_652 : decode cL_law 652 = .ok (.invokevirtual 77, 3) := by decide +kernel
theorem dL_law_655 : decode cL_law 655 = .ok (.aload_n 2, 1) := by decide +kernel
theorem dL_law_656 : decode cL_law 656 = .ok (.aload_n 0, 1) := by decide +kernel
theorem dL_law_657 : decode cL_law 657 = .ok (.iload_n 3, 1) := by decide +kernel
theorem dL_law_658 : decode cL_law 658 = .ok (.iconst 1, 1) := by decide +kernel
theorem dL_law_659 : decode cL_law 659 = .ok (.iadd, 1) := by decide +kernel
theorem dL_law_660 : decode cL_law 660 = .ok (.iaload, 1) := by decide +kernel
theorem dL_law_661 : decode cL_law 661 = .ok (.aload_n 0, 1) := by decide +kernel
theorem dL_law_662 : decode cL_law 662 = .ok (.iload_n 3, 1) := by decide +kernel
theorem dL_law_663 : decode cL_law 663 = .ok (.iconst 2, 1) := by decide +kernel
theorem dL_law_664 : decode cL_law 664 = .ok (.iadd, 1) := by decide +kernel
theorem dL_law_665 : decode cL_law 665 = .ok (.iaload, 1) := by decide +kernel
theorem dL_law_666 : decode cL_law 666 = .ok (.invokevirtual 80, 3) := by decide +kernel
theorem dL_law_669 : decode cL_law 669 = .ok (.if_icmp .eq 701, 3) := by decide +kernel
theorem dL_law_672 : decode cL_law 672 = .ok (.iconst 0, 1) := by decide +kernel
theorem dL_law_673 : decode cL_law 673 = .ok (.ireturn, 1) := by decide +kernel
theorem dL_law_674 : decode cL_law 674 = .ok (.aload_n 1, 1) := by decide +kernel
theorem dL_law_675 : decode cL_law 675 = .ok (.aload_n 0, 1) := by decide +kernel
theorem dL_law_676 : decode cL_law 676 = .ok (.iload_n 3, 1) := by decide +kernel
theorem dL_law_677 : decode cL_law 677 = .ok (.iconst 1, 1) := by decide +kernel
theorem dL_law_678 : decode cL_law 678 = .ok (.iadd, 1) := by decide +kernel
theorem dL_law_679 : decode cL_law 679 = .ok (.iaload, 1) := by decide +kernel
theorem dL_law_680 : decode cL_law 680 = .ok (.aload_n 0, 1) := by decide +kernel
theorem dL_law_681 : decode cL_law 681 = .ok (.iload_n 3, 1) := by decide +kernel
theorem dL_law_682 : decode cL_law 682 = .ok (.iconst 2, 1) := by decide +kernel
theorem dL_law_683 : decode cL_law 683 = .ok (.iadd, 1) := by decide +kernel
theorem dL_law_684 : decode cL_law 684 = .ok (.iaload, 1) := by decide +kernel
theorem dL_law_685 : decode cL_law 685 = .ok (.invokevirtual 81, 3) := by decide +kernel
theorem dL_law_688 : decode cL_law 688 = .ok (.aload_n 2, 1) := by decide +kernel
theorem dL_law_689 : decode cL_law 689 = .ok (.aload_n 0, 1) := by decide +kernel
theorem dL_law_690 : decode cL_law 690 = .ok (.iload_n 3, 1) := by decide +kernel
theorem dL_law_691 : decode cL_law 691 = .ok (.iconst 1, 1) := by decide +kernel
theorem dL_law_692 : decode cL_law 692 = .ok (.iadd, 1) := by decide +kernel
theorem dL_law_693 : decode cL_law 693 = .ok (.iaload, 1) := by decide +kernel
theorem dL_law_694 : decode cL_law 694 = .ok (.aload_n 0, 1) := by decide +kernel
theorem dL_law_695 : decode cL_law 695 = .ok (.iload_n 3, 1) := by decide +kernel
theorem dL_law_696 : decode cL_law 696 = .ok (.iconst 2, 1) := by decide +kernel
theorem dL_law_697 : decode cL_law 697 = .ok (.iadd, 1) := by decide +kernel
theorem dL_law_698 : decode cL_law 698 = .ok (.iaload, 1) := by decide +kernel
theorem dL_law_699 : decode cL_law 699 = .ok (.invokevirtual 84, 3) := by decide +kernel
theorem dL_law_702 : decode cL_law 702 = .ok (.if_icmp .eq 668, 3) := by decide +kernel
theorem dL_law_705 : decode cL_law 705 = .ok (.iconst 0, 1) := by decide +kernel
theorem dL_law_706 : decode cL_law 706 = .ok (.ireturn, 1) := by decide +kernel
theorem dL_law_707 : decode cL_law 707 = .ok (.aload_n 1, 1) := by decide +kernel
theorem dL_law_708 : decode cL_law 708 = .ok (.aload_n 0, 1) := by decide +kernel
theorem dL_law_709 : decode cL_law 709 = .ok (.iload_n 3, 1) := by decide +kernel
theorem dL_law_710 : decode cL_law 710 = .ok (.iconst 1, 1) := by decide +kernel
theorem dL_law_711 : decode cL_law 711 = .ok (.iadd, 1) := by decide +kernel
theorem dL_law_712 : decode cL_law 712 = .ok (.iaload, 1) := by decide +kernel
theorem dL_law_713 : decode cL_law 713 = .ok (.aload_n 0, 1) := by decide +kernel
theorem dL_law_714 : decode cL_law 714 = .ok (.iload_n 3, 1) := by decide +kernel
theorem dL_law_715 : decode cL_law 715 = .ok (.iconst 2, 1) := by decide +kernel
theorem dL_law_716 : decode cL_law 716 = .ok (.iadd, 1) := by decide +kernel
theorem dL_law_717 : decode cL_law 717 = .ok (.iaload, 1) := by decide +kernel
theorem dL_law_718 : decode cL_law 718 = .ok (.invokevirtual 85, 3) := by decide +kernel
theorem dL_law_721 : decode cL_law 721 = .ok (.aload_n 2, 1) := by decide +kernel
theorem dL_law_722 : decode cL_law 722 = .ok (.aload_n 0, 1) := by decide +kernel
theorem dL_law_723 : decode cL_law 723 = .ok (.iload_n 3, 1) := by decide +kernel
theorem dL_law_724 : decode cL_law 724 = .ok (.iconst 1, 1) := by decide +kernel
theorem dL_law_725 : decode cL_law 725 = .ok (.iadd, 1) := by decide +kernel
theorem dL_law_726 : decode cL_law 726 = .ok (.iaload, 1) := by decide +kernel
theorem dL_law_727 : decode cL_law 727 = .ok (.aload_n 0, 1) := by decide +kernel
theorem dL_law_728 : decode cL_law 728 = .ok (.iload_n 3, 1) := by decide +kernel
theorem dL_law_729 : decode cL_law 729 = .ok (.iconst 2, 1) := by decide +kernel
theorem dL_law_730 : decode cL_law 730 = .ok (.iadd, 1) := by decide +kernel
theorem dL_law_731 : decode cL_law 731 = .ok (.iaload, 1) := by decide +kernel
theorem dL_law_732 : decode cL_law 732 = .ok (.invokevirtual 88, 3) := by decide +kernel
theorem dL_law_735 : decode cL_law 735 = .ok (.if_icmp .eq 635, 3) := by decide +kernel
theorem dL_law_738 : decode cL_law 738 = .ok (.iconst 0, 1) := by decide +kernel
theorem dL_law_739 : decode cL_law 739 = .ok (.ireturn, 1) := by decide +kernel
theorem dL_law_740 : decode cL_law 740 = .ok (.aload_n 1, 1) := by decide +kernel
theorem dL_law_741 : decode cL_law 741 = .ok (.aload_n 0, 1) := by decide +kernel
theorem dL_law_742 : decode cL_law 742 = .ok (.iload_n 3, 1) := by decide +kernel
theorem dL_law_743 : decode cL_law 743 = .ok (.iconst 1, 1) := by decide +kernel
theorem dL_law_744 : decode cL_law 744 = .ok (.iadd, 1) := by decide +kernel
theorem dL_law_745 : decode cL_law 745 = .ok (.iaload, 1) := by decide +kernel
theorem dL_law_746 : decode cL_law 746 = .ok (.aload_n 0, 1) := by decide +kernel
theorem dL_law_747 : decode cL_law 747 = .ok (.iload_n 3, 1) := by decide +kernel
theorem dL_law_748 : decode cL_law 748 = .ok (.iconst 2, 1) := by decide +kernel
theorem dL_law_749 : decode cL_law 749 = .ok (.iadd, 1) := by decide +kernel
theorem dL_law_750 : decode cL_law 750 = .ok (.iaload, 1) := by decide +kernel
theorem dL_law_751 : decode cL_law 751 = .ok (.invokevirtual 89, 3) := by decide +kernel
theorem dL_law_754 : decode cL_law 754 = .ok (.aload_n 2, 1) := by decide +kernel
theorem dL_law_755 : decode cL_law 755 = .ok (.aload_n 0, 1) := by decide +kernel
theorem dL_law_756 : decode cL_law 756 = .ok (.iload_n 3, 1) := by decide +kernel
theorem dL_law_757 : decode cL_law 757 = .ok (.iconst 1, 1) := by decide +kernel
theorem dL_law_758 : decode cL_law 758 = .ok (.iadd, 1) := by decide +kernel
theorem dL_law_759 : decode cL_law 759 = .ok (.iaload, 1) := by decide +kernel
theorem dL_law_760 : decode cL_law 760 = .ok (.aload_n 0, 1) := by decide +kernel
theorem dL_law_761 : decode cL_law 761 = .ok (.iload_n 3, 1) := by decide +kernel
theorem dL_law_762 : decode cL_law 762 = .ok (.iconst 2, 1) := by decide +kernel
theorem dL_law_763 : decode cL_law 763 = .ok (.iadd, 1) := by decide +kernel
theorem dL_law_764 : decode cL_law 764 = .ok (.iaload, 1) := by decide +kernel
theorem dL_law_765 : decode cL_law 765 = .ok (.invokevirtual 92, 3) := by decide +kernel
theorem dL_law_768 : decode cL_law 768 = .ok (.if_icmp .eq 602, 3) := by decide +kernel
theorem dL_law_771 : decode cL_law 771 = .ok (.iconst 0, 1) := by decide +kernel
theorem dL_law_772 : decode cL_law 772 = .ok (.ireturn, 1) := by decide +kernel
theorem dL_law_773 : decode cL_law 773 = .ok (.aload_n 1, 1) := by decide +kernel
theorem dL_law_774 : decode cL_law 774 = .ok (.aload_n 0, 1) := by decide +kernel
theorem dL_law_775 : decode cL_law 775 = .ok (.iload_n 3, 1) := by decide +kernel
theorem dL_law_776 : decode cL_law 776 = .ok (.iconst 1, 1) := by decide +kernel
theorem dL_law_777 : decode cL_law 777 = .ok (.iadd, 1) := by decide +kernel
theorem dL_law_778 : decode cL_law 778 = .ok (.iaload, 1) := by decide +kernel
theorem dL_law_779 : decode cL_law 779 = .ok (.aload_n 0, 1) := by decide +kernel
theorem dL_law_780 : decode cL_law 780 = .ok (.iload_n 3, 1) := by decide +kernel
theorem dL_law_781 : decode cL_law 781 = .ok (.iconst 2, 1) := by decide +kernel
theorem dL_law_782 : decode cL_law 782 = .ok (.iadd, 1) := by decide +kernel
theorem dL_law_783 : decode cL_law 783 = .ok (.iaload, 1) := by decide +kernel
theorem dL_law_784 : decode cL_law 784 = .ok (.invokevirtual 93, 3) := by decide +kernel
theorem dL_law_787 : decode cL_law 787 = .ok (.aload_n 2, 1) := by decide +kernel
theorem dL_law_788 : decode cL_law 788 = .ok (.aload_n 0, 1) := by decide +kernel
theorem dL_law_789 : decode cL_law 789 = .ok (.iload_n 3, 1) := by decide +kernel
theorem dL_law_790 : decode cL_law 790 = .ok (.iconst 1, 1) := by decide +kernel
theorem dL_law_791 : decode cL_law 791 = .ok (.iadd, 1) := by decide +kernel
theorem dL_law_792 : decode cL_law 792 = .ok (.iaload, 1) := by decide +kernel
theorem dL_law_793 : decode cL_law 793 = .ok (.aload_n 0, 1) := by decide +kernel
theorem dL_law_794 : decode cL_law 794 = .ok (.iload_n 3, 1) := by decide +kernel
theorem dL_law_795 : decode cL_law 795 = .ok (.iconst 2, 1) := by decide +kernel
theorem dL_law_796 : decode cL_law 796 = .ok (.iadd, 1) := by decide +kernel
theorem dL_law_797 : decode cL_law 797 = .ok (.iaload, 1) := by decide +kernel
theorem dL_law_798 : decode cL_law 798 = .ok (.invokevirtual 96, 3) := by decide +kernel
theorem dL_law_801 : decode cL_law 801 = .ok (.if_icmp .eq 569, 3) := by decide +kernel
theorem dL_law_804 : decode cL_law 804 = .ok (.iconst 0, 1) := by decide +kernel
theorem dL_law_805 : decode cL_law 805 = .ok (.ireturn, 1) := by decide +kernel
theorem dL_law_806 : decode cL_law 806 = .ok (.aload_n 1, 1) := by decide +kernel
theorem dL_law_807 : decode cL_law 807 = .ok (.aload_n 0, 1) := by decide +kernel
theorem dL_law_808 : decode cL_law 808 = .ok (.iload_n 3, 1) := by decide +kernel
theorem dL_law_809 : decode cL_law 809 = .ok (.iconst 1, 1) := by decide +kernel
theorem dL_law_810 : decode cL_law 810 = .ok (.iadd, 1) := by decide +kernel
theorem dL_law_811 : decode cL_law 811 = .ok (.iaload, 1) := by decide +kernel
theorem dL_law_812 : decode cL_law 812 = .ok (.aload_n 0, 1) := by decide +kernel
theorem dL_law_813 : decode cL_law 813 = .ok (.iload_n 3, 1) := by decide +kernel
theorem dL_law_814 : decode cL_law 814 = .ok (.iconst 2, 1) := by decide +kernel
theorem dL_law_815 : decode cL_law 815 = .ok (.iadd, 1) := by decide +kernel
theorem dL_law_816 : decode cL_law 816 = .ok (.iaload, 1) := by decide +kernel
theorem dL_law_817 : decode cL_law 817 = .ok (.aload_n 0, 1) := by decide +kernel
theorem dL_law_818 : decode cL_law 818 = .ok (.iload_n 3, 1) := by decide +kernel
theorem dL_law_819 : decode cL_law 819 = .ok (.iconst 3, 1) := by decide +kernel
theorem dL_law_820 : decode cL_law 820 = .ok (.iadd, 1) := by decide +kernel
theorem dL_law_821 : decode cL_law 821 = .ok (.iaload, 1) := by decide +kernel
theorem dL_law_822 : decode cL_law 822 = .ok (.invokevirtual 97, 3) := by decide +kernel
theorem dL_law_825 : decode cL_law 825 = .ok (.aload_n 2, 1) := by decide +kernel
theorem dL_law_826 : decode cL_law 826 = .ok (.aload_n 0, 1) := by decide +kernel
theorem dL_law_827 : decode cL_law 827 = .ok (.iload_n 3, 1) := by decide +kernel
theorem dL_law_828 : decode cL_law 828 = .ok (.iconst 1, 1) := by decide +kernel
theorem dL_law_829 : decode cL_law 829 = .ok (.iadd, 1) := by decide +kernel
theorem dL_law_830 : decode cL_law 830 = .ok (.iaload, 1) := by decide +kernel
theorem dL_law_831 : decode cL_law 831 = .ok (.aload_n 0, 1) := by decide +kernel
theorem dL_law_832 : decode cL_law 832 = .ok (.iload_n 3, 1) := by decide +kernel
theorem dL_law_833 : decode cL_law 833 = .ok (.iconst 2, 1) := by decide +kernel
theorem dL_law_834 : decode cL_law 834 = .ok (.iadd, 1) := by decide +kernel
theorem dL_law_835 : decode cL_law 835 = .ok (.iaload, 1) := by decide +kernel
theorem dL_law_836 : decode cL_law 836 = .ok (.aload_n 0, 1) := by decide +kernel
theorem dL_law_837 : decode cL_law 837 = .ok (.iload_n 3, 1) := by decide +kernel
theorem dL_law_838 : decode cL_law 838 = .ok (.iconst 3, 1) := by decide +kernel
theorem dL_law_839 : decode cL_law 839 = .ok (.iadd, 1) := by decide +kernel
theorem dL_law_840 : decode cL_law 840 = .ok (.iaload, 1) := by decide +kernel
theorem dL_law_841 : decode cL_law 841 = .ok (.invokevirtual 101, 3) := by decide +kernel
theorem dL_law_844 : decode cL_law 844 = .ok (.lcmp, 1) := by decide +kernel
theorem dL_law_845 : decode cL_law 845 = .ok (.ifCond .eq 525, 3) := by decide +kernel
theorem dL_law_848 : decode cL_law 848 = .ok (.iconst 0, 1) := by decide +kernel
theorem dL_law_849 : decode cL_law 849 = .ok (.ireturn, 1) := by decide +kernel
theorem dL_law_850 : decode cL_law 850 = .ok (.aload_n 1, 1) := by decide +kernel
theorem dL_law_851 : decode cL_law 851 = .ok (.aload_n 0, 1) := by decide +kernel
theorem dL_law_852 : decode cL_law 852 = .ok (.iload_n 3, 1) := by decide +kernel
theorem dL_law_853 : decode cL_law 853 = .ok (.iconst 1, 1) := by decide +kernel
theorem dL_law_854 : decode cL_law 854 = .ok (.iadd, 1) := by decide +kernel
theorem dL_law_855 : decode cL_law 855 = .ok (.iaload, 1) := by decide +kernel
theorem dL_law_856 : decode cL_law 856 = .ok (.invokevirtual 102, 3) := by decide +kernel
theorem dL_law_859 : decode cL_law 859 = .ok (.aload_n 2, 1) := by decide +kernel
theorem dL_law_860 : decode cL_law 860 = .ok (.aload_n 0, 1) := by decide +kernel
theorem dL_law_861 : decode cL_law 861 = .ok (.iload_n 3, 1) := by decide +kernel
theorem dL_law_862 : decode cL_law 862 = .ok (.iconst 1, 1) := by decide +kernel
theorem dL_law_863 : decode cL_law 863 = .ok (.iadd, 1) := by decide +kernel
theorem dL_law_864 : decode cL_law 864 = .ok (.iaload, 1) := by decide +kernel
theorem dL_law_865 : decode cL_law 865 = .ok (.invokevirtual 106, 3) := by decide +kernel
theorem dL_law_868 : decode cL_law 868 = .ok (.lcmp, 1) := by decide +kernel
theorem dL_law_869 : decode cL_law 869 = .ok (.ifCond .eq 501, 3) := by decide +kernel
theorem dL_law_872 : decode cL_law 872 = .ok (.iconst 0, 1) := by decide +kernel
theorem dL_law_873 : decode cL_law 873 = .ok (.ireturn, 1) := by decide +kernel
theorem dL_law_874 : decode cL_law 874 = .ok (.aload_n 1, 1) := by decide +kernel
theorem dL_law_875 : decode cL_law 875 = .ok (.aload_n 0, 1) := by decide +kernel
theorem dL_law_876 : decode cL_law 876 = .ok (.iload_n 3, 1) := by decide +kernel
theorem dL_law_877 : decode cL_law 877 = .ok (.iconst 1, 1) := by decide +kernel
theorem dL_law_878 : decode cL_law 878 = .ok (.iadd, 1) := by decide +kernel
theorem dL_law_879 : decode cL_law 879 = .ok (.iaload, 1) := by decide +kernel
theorem dL_law_880 : decode cL_law 880 = .ok (.invokevirtual 107, 3) := by decide +kernel
theorem dL_law_883 : decode cL_law 883 = .ok (.aload_n 2, 1) := by decide +kernel
theorem dL_law_884 : decode cL_law 884 = .ok (.aload_n 0, 1) := by decide +kernel
theorem dL_law_885 : decode cL_law 885 = .ok (.iload_n 3, 1) := by decide +kernel
theorem dL_law_886 : decode cL_law 886 = .ok (.iconst 1, 1) := by decide +kernel
theorem dL_law_887 : decode cL_law 887 = .ok (.iadd, 1) := by decide +kernel
theorem dL_law_888 : decode cL_law 888 = .ok (.iaload, 1) := by decide +kernel
theorem dL_law_889 : decode cL_law 889 = .ok (.invokevirtual 110, 3) := by decide +kernel
theorem dL_law_892 : decode cL_law 892 = .ok (.if_icmp .eq 478, 3) := by decide +kernel
theorem dL_law_895 : decode cL_law 895 = .ok (.iconst 0, 1) := by decide +kernel
theorem dL_law_896 : decode cL_law 896 = .ok (.ireturn, 1) := by decide +kernel
theorem dL_law_897 : decode cL_law 897 = .ok (.aload_n 1, 1) := by decide +kernel
theorem dL_law_898 : decode cL_law 898 = .ok (.aload_n 0, 1) := by decide +kernel
theorem dL_law_899 : decode cL_law 899 = .ok (.iload_n 3, 1) := by decide +kernel
theorem dL_law_900 : decode cL_law 900 = .ok (.iconst 1, 1) := by decide +kernel
theorem dL_law_901 : decode cL_law 901 = .ok (.iadd, 1) := by decide +kernel
theorem dL_law_902 : decode cL_law 902 = .ok (.iaload, 1) := by decide +kernel
theorem dL_law_903 : decode cL_law 903 = .ok (.aload_n 0, 1) := by decide +kernel
theorem dL_law_904 : decode cL_law 904 = .ok (.iload_n 3, 1) := by decide +kernel
theorem dL_law_905 : decode cL_law 905 = .ok (.iconst 2, 1) := by decide +kernel
theorem dL_law_906 : decode cL_law 906 = .ok (.iadd, 1) := by decide +kernel
theorem dL_law_907 : decode cL_law 907 = .ok (.iaload, 1) := by decide +kernel
theorem dL_law_908 : decode cL_law 908 = .ok (.invokevirtual 111, 3) := by decide +kernel
theorem dL_law_911 : decode cL_law 911 = .ok (.aload_n 2, 1) := by decide +kernel
theorem dL_law_912 : decode cL_law 912 = .ok (.aload_n 0, 1) := by decide +kernel
theorem dL_law_913 : decode cL_law 913 = .ok (.iload_n 3, 1) := by decide +kernel
theorem dL_law_914 : decode cL_law 914 = .ok (.iconst 1, 1) := by decide +kernel
theorem dL_law_915 : decode cL_law 915 = .ok (.iadd, 1) := by decide +kernel
theorem dL_law_916 : decode cL_law 916 = .ok (.iaload, 1) := by decide +kernel
theorem dL_law_917 : decode cL_law 917 = .ok (.aload_n 0, 1) := by decide +kernel
theorem dL_law_918 : decode cL_law 918 = .ok (.iload_n 3, 1) := by decide +kernel
theorem dL_law_919 : decode cL_law 919 = .ok (.iconst 2, 1) := by decide +kernel
theorem dL_law_920 : decode cL_law 920 = .ok (.iadd, 1) := by decide +kernel
theorem dL_law_921 : decode cL_law 921 = .ok (.iaload, 1) := by decide +kernel
theorem dL_law_922 : decode cL_law 922 = .ok (.invokevirtual 114, 3) := by decide +kernel
theorem dL_law_925 : decode cL_law 925 = .ok (.if_icmp .eq 445, 3) := by decide +kernel
theorem dL_law_928 : decode cL_law 928 = .ok (.iconst 0, 1) := by decide +kernel
theorem dL_law_929 : decode cL_law 929 = .ok (.ireturn, 1) := by decide +kernel
theorem dL_law_930 : decode cL_law 930 = .ok (.aload_n 1, 1) := by decide +kernel
theorem dL_law_931 : decode cL_law 931 = .ok (.aload_n 0, 1) := by decide +kernel
theorem dL_law_932 : decode cL_law 932 = .ok (.iload_n 3, 1) := by decide +kernel
theorem dL_law_933 : decode cL_law 933 = .ok (.iconst 1, 1) := by decide +kernel
theorem dL_law_934 : decode cL_law 934 = .ok (.iadd, 1) := by decide +kernel
theorem dL_law_935 : decode cL_law 935 = .ok (.iaload, 1) := by decide +kernel
theorem dL_law_936 : decode cL_law 936 = .ok (.aload_n 0, 1) := by decide +kernel
theorem dL_law_937 : decode cL_law 937 = .ok (.iload_n 3, 1) := by decide +kernel
theorem dL_law_938 : decode cL_law 938 = .ok (.iconst 2, 1) := by decide +kernel
theorem dL_law_939 : decode cL_law 939 = .ok (.iadd, 1) := by decide +kernel
theorem dL_law_940 : decode cL_law 940 = .ok (.iaload, 1) := by decide +kernel
theorem dL_law_941 : decode cL_law 941 = .ok (.invokevirtual 115, 3) := by decide +kernel
theorem dL_law_944 : decode cL_law 944 = .ok (.aload_n 2, 1) := by decide +kernel
theorem dL_law_945 : decode cL_law 945 = .ok (.aload_n 0, 1) := by decide +kernel
theorem dL_law_946 : decode cL_law 946 = .ok (.iload_n 3, 1) := by decide +kernel
theorem dL_law_947 : decode cL_law 947 = .ok (.iconst 1, 1) := by decide +kernel
theorem dL_law_948 : decode cL_law 948 = .ok (.iadd, 1) := by decide +kernel
theorem dL_law_949 : decode cL_law 949 = .ok (.iaload, 1) := by decide +kernel
theorem dL_law_950 : decode cL_law 950 = .ok (.aload_n 0, 1) := by decide +kernel
theorem dL_law_951 : decode cL_law 951 = .ok (.iload_n 3, 1) := by decide +kernel
theorem dL_law_952 : decode cL_law 952 = .ok (.iconst 2, 1) := by decide +kernel
theorem dL_law_953 : decode cL_law 953 = .ok (.iadd, 1) := by decide +kernel
theorem dL_law_954 : decode cL_law 954 = .ok (.iaload, 1) := by decide +kernel
theorem dL_law_955 : decode cL_law 955 = .ok (.invokevirtual 118, 3) := by decide +kernel
theorem dL_law_958 : decode cL_law 958 = .ok (.if_icmp .eq 412, 3) := by decide +kernel
theorem dL_law_961 : decode cL_law 961 = .ok (.iconst 0, 1) := by decide +kernel
theorem dL_law_962 : decode cL_law 962 = .ok (.ireturn, 1) := by decide +kernel
theorem dL_law_963 : decode cL_law 963 = .ok (.aload_n 1, 1) := by decide +kernel
theorem dL_law_964 : decode cL_law 964 = .ok (.invokevirtual 119, 3) := by decide +kernel
theorem dL_law_967 : decode cL_law 967 = .ok (.aload_n 2, 1) := by decide +kernel
theorem dL_law_968 : decode cL_law 968 = .ok (.invokevirtual 122, 3) := by decide +kernel
theorem dL_law_971 : decode cL_law 971 = .ok (.if_icmp .eq 399, 3) := by decide +kernel
theorem dL_law_974 : decode cL_law 974 = .ok (.iconst 0, 1) := by decide +kernel
theorem dL_law_975 : decode cL_law 975 = .ok (.ireturn, 1) := by decide +kernel
theorem dL_law_976 : decode cL_law 976 = .ok (.aload_n 1, 1) := by decide +kernel
theorem dL_law_977 : decode cL_law 977 = .ok (.aload_n 0, 1) := by decide +kernel
theorem dL_law_978 : decode cL_law 978 = .ok (.iload_n 3, 1) := by decide +kernel
theorem dL_law_979 : decode cL_law 979 = .ok (.iconst 1, 1) := by decide +kernel
theorem dL_law_980 : decode cL_law 980 = .ok (.iadd, 1) := by decide +kernel
theorem dL_law_981 : decode cL_law 981 = .ok (.iaload, 1) := by decide +kernel
theorem dL_law_982 : decode cL_law 982 = .ok (.aload_n 0, 1) := by decide +kernel
theorem dL_law_983 : decode cL_law 983 = .ok (.iload_n 3, 1) := by decide +kernel
theorem dL_law_984 : decode cL_law 984 = .ok (.iconst 2, 1) := by decide +kernel
theorem dL_law_985 : decode cL_law 985 = .ok (.iadd, 1) := by decide +kernel
theorem dL_law_986 : decode cL_law 986 = .ok (.iaload, 1) := by decide +kernel
theorem dL_law_987 : decode cL_law 987 = .ok (.invokevirtual 123, 3) := by decide +kernel
theorem dL_law_990 : decode cL_law 990 = .ok (.aload_n 2, 1) := by decide +kernel
theorem dL_law_991 : decode cL_law 991 = .ok (.aload_n 0, 1) := by decide +kernel
theorem dL_law_992 : decode cL_law 992 = .ok (.iload_n 3, 1) := by decide +kernel
theorem dL_law_993 : decode cL_law 993 = .ok (.iconst 1, 1) := by decide +kernel
theorem dL_law_994 : decode cL_law 994 = .ok (.iadd, 1) := by decide +kernel
theorem dL_law_995 : decode cL_law 995 = .ok (.iaload, 1) := by decide +kernel
theorem dL_law_996 : decode cL_law 996 = .ok (.aload_n 0, 1) := by decide +kernel
theorem dL_law_997 : decode cL_law 997 = .ok (.iload_n 3, 1) := by decide +kernel
theorem dL_law_998 : decode cL_law 998 = .ok (.iconst 2, 1) := by decide +kernel
theorem dL_law_999 : decode cL_law 999 = .ok (.iadd, 1) := by decide +kernel
theorem dL_law_1000 : decode cL_law 1000 = .ok (.iaload, 1) := by decide +kernel
theorem dL_law_1001 : decode cL_law 1001 = .ok (.invokevirtual 126, 3) := by decide +kernel
theorem dL_law_1004 : decode cL_law 1004 = .ok (.if_icmp .eq 366, 3) := by decide +kernel
theorem dL_law_1007 : decode cL_law 1007 = .ok (.iconst 0, 1) := by decide +kernel
theorem dL_law_1008 : decode cL_law 1008 = .ok (.ireturn, 1) := by decide +kernel
theorem dL_law_1009 : decode cL_law 1009 = .ok (.aload_n 1, 1) := by decide +kernel
theorem dL_law_1010 : decode cL_law 1010 = .ok (.invokevirtual 127, 3) := by decide +kernel
theorem dL_law_1013 : decode cL_law 1013 = .ok (.aload_n 2, 1) := by decide +kernel
theorem dL_law_1014 : decode cL_law 1014 = .ok (.invokevirtual 130, 3) := by decide +kernel
theorem dL_law_1017 : decode cL_law 1017 = .ok (.if_icmp .eq 353, 3) := by decide +kernel
theorem dL_law_1020 : decode cL_law 1020 = .ok (.iconst 0, 1) := by decide +kernel
theorem dL_law_1021 : decode cL_law 1021 = .ok (.ireturn, 1) := by decide +kernel
theorem dL_law_1022 : decode cL_law 1022 = .ok (.aload_n 1, 1) := by decide +kernel
theorem dL_law_1023 : decode cL_law 1023 = .ok (.invokevirtual 131, 3) := by decide +kernel
theorem dL_law_1026 : decode cL_law 1026 = .ok (.aload_n 2, 1) := by decide +kernel
theorem dL_law_1027 : decode cL_law 1027 = .ok (.invokevirtual 134, 3) := by decide +kernel
theorem dL_law_1030 : decode cL_law 1030 = .ok (.if_icmp .eq 340, 3) := by decide +kernel
theorem dL_law_1033 : decode cL_law 1033 = .ok (.iconst 0, 1) := by decide +kernel
theorem dL_law_1034 : decode cL_law 1034 = .ok (.ireturn, 1) := by decide +kernel
theorem dL_law_1035 : decode cL_law 1035 = .ok (.aload_n 1, 1) := by decide +kernel
theorem dL_law_1036 : decode cL_law 1036 = .ok (.aload_n 0, 1) := by decide +kernel
theorem dL_law_1037 : decode cL_law 1037 = .ok (.iload_n 3, 1) := by decide +kernel
theorem dL_law_1038 : decode cL_law 1038 = .ok (.iconst 1, 1) := by decide +kernel
theorem dL_law_1039 : decode cL_law 1039 = .ok (.iadd, 1) := by decide +kernel
theorem dL_law_1040 : decode cL_law 1040 = .ok (.iaload, 1) := by decide +kernel
theorem dL_law_1041 : decode cL_law 1041 = .ok (.aload_n 0, 1) := by decide +kernel
theorem dL_law_1042 : decode cL_law 1042 = .ok (.iload_n 3, 1) := by decide +kernel
theorem dL_law_1043 : decode cL_law 1043 = .ok (.iconst 2, 1) := by decide +kernel
theorem dL_law_1044 : decode cL_law 1044 = .ok (.iadd, 1) := by decide +kernel
theorem dL_law_1045 : decode cL_law 1045 = .ok (.iaload, 1) := by decide +kernel
theorem dL_law_1046 : decode cL_law 1046 = .ok (.aload_n 0, 1) := by decide +kernel
theorem dL_law_1047 : decode cL_law 1047 = .ok (.iload_n 3, 1) := by decide +kernel
theorem dL_law_1048 : decode cL_law 1048 = .ok (.iconst 3, 1) := by decide +kernel
theorem dL_law_1049 : decode cL_law 1049 = .ok (.iadd, 1) := by decide +kernel
theorem dL_law_1050 : decode cL_law 1050 = .ok (.iaload, 1) := by decide +kernel
theorem dL_law_1051 : decode cL_law 1051 = .ok (.invokevirtual 135, 3) := by decide +kernel
theorem dL_law_1054 : decode cL_law 1054 = .ok (.aload_n 2, 1) := by decide +kernel
theorem dL_law_1055 : decode cL_law 1055 = .ok (.aload_n 0, 1) := by decide +kernel
theorem dL_law_1056 : decode cL_law 1056 = .ok (.iload_n 3, 1) := by decide +kernel
theorem dL_law_1057 : decode cL_law 1057 = .ok (.iconst 1, 1) := by decide +kernel
theorem dL_law_1058 : decode cL_law 1058 = .ok (.iadd, 1) := by decide +kernel
theorem dL_law_1059 : decode cL_law 1059 = .ok (.iaload, 1) := by decide +kernel
theorem dL_law_1060 : decode cL_law 1060 = .ok (.aload_n 0, 1) := by decide +kernel
theorem dL_law_1061 : decode cL_law 1061 = .ok (.iload_n 3, 1) := by decide +kernel
theorem dL_law_1062 : decode cL_law 1062 = .ok (.iconst 2, 1) := by decide +kernel
theorem dL_law_1063 : decode cL_law 1063 = .ok (.iadd, 1) := by decide +kernel
theorem dL_law_1064 : decode cL_law 1064 = .ok (.iaload, 1) := by decide +kernel
theorem dL_law_1065 : decode cL_law 1065 = .ok (.aload_n 0, 1) := by decide +kernel
theorem dL_law_1066 : decode cL_law 1066 = .ok (.iload_n 3, 1) := by decide +kernel
theorem dL_law_1067 : decode cL_law 1067 = .ok (.iconst 3, 1) := by decide +kernel
theorem dL_law_1068 : decode cL_law 1068 = .ok (.iadd, 1) := by decide +kernel
theorem dL_law_1069 : decode cL_law 1069 = .ok (.iaload, 1) := by decide +kernel
theorem dL_law_1070 : decode cL_law 1070 = .ok (.invokevirtual 138, 3) := by decide +kernel
theorem dL_law_1073 : decode cL_law 1073 = .ok (.if_icmp .eq 297, 3) := by decide +kernel
theorem dL_law_1076 : decode cL_law 1076 = .ok (.iconst 0, 1) := by decide +kernel
theorem dL_law_1077 : decode cL_law 1077 = .ok (.ireturn, 1) := by decide +kernel
theorem dL_law_1078 : decode cL_law 1078 = .ok (.aload_n 1, 1) := by decide +kernel
theorem dL_law_1079 : decode cL_law 1079 = .ok (.aload_n 0, 1) := by decide +kernel
theorem dL_law_1080 : decode cL_law 1080 = .ok (.iload_n 3, 1) := by decide +kernel
theorem dL_law_1081 : decode cL_law 1081 = .ok (.iconst 1, 1) := by decide +kernel
theorem dL_law_1082 : decode cL_law 1082 = .ok (.iadd, 1) := by decide +kernel
theorem dL_law_1083 : decode cL_law 1083 = .ok (.iaload, 1) := by decide +kernel
theorem dL_law_1084 : decode cL_law 1084 = .ok (.invokevirtual 139, 3) := by decide +kernel
theorem dL_law_1087 : decode cL_law 1087 = .ok (.aload_n 2, 1) := by decide +kernel
theorem dL_law_1088 : decode cL_law 1088 = .ok (.aload_n 0, 1) := by decide +kernel
theorem dL_law_1089 : decode cL_law 1089 = .ok (.iload_n 3, 1) := by decide +kernel
theorem dL_law_1090 : decode cL_law 1090 = .ok (.iconst 1, 1) := by decide +kernel
theorem dL_law_1091 : decode cL_law 1091 = .ok (.iadd, 1) := by decide +kernel
theorem dL_law_1092 : decode cL_law 1092 = .ok (.iaload, 1) := by decide +kernel
theorem dL_law_1093 : decode cL_law 1093 = .ok (.invokevirtual 142, 3) := by decide +kernel
theorem dL_law_1096 : decode cL_law 1096 = .ok (.if_icmp .eq 274, 3) := by decide +kernel
theorem dL_law_1099 : decode cL_law 1099 = .ok (.iconst 0, 1) := by decide +kernel
theorem dL_law_1100 : decode cL_law 1100 = .ok (.ireturn, 1) := by decide +kernel
theorem dL_law_1101 : decode cL_law 1101 = .ok (.aload_n 1, 1) := by decide +kernel
theorem dL_law_1102 : decode cL_law 1102 = .ok (.aload_n 0, 1) := by decide +kernel
theorem dL_law_1103 : decode cL_law 1103 = .ok (.iload_n 3, 1) := by decide +kernel
theorem dL_law_1104 : decode cL_law 1104 = .ok (.iconst 1, 1) := by decide +kernel
theorem dL_law_1105 : decode cL_law 1105 = .ok (.iadd, 1) := by decide +kernel
theorem dL_law_1106 : decode cL_law 1106 = .ok (.iaload, 1) := by decide +kernel
theorem dL_law_1107 : decode cL_law 1107 = .ok (.aload_n 0, 1) := by decide +kernel
theorem dL_law_1108 : decode cL_law 1108 = .ok (.iload_n 3, 1) := by decide +kernel
theorem dL_law_1109 : decode cL_law 1109 = .ok (.iconst 2, 1) := by decide +kernel
theorem dL_law_1110 : decode cL_law 1110 = .ok (.iadd, 1) := by decide +kernel
theorem dL_law_1111 : decode cL_law 1111 = .ok (.iaload, 1) := by decide +kernel
theorem dL_law_1112 : decode cL_law 1112 = .ok (.invokevirtual 143, 3) := by decide +kernel
theorem dL_law_1115 : decode cL_law 1115 = .ok (.aload_n 2, 1) := by decide +kernel
theorem dL_law_1116 : decode cL_law 1116 = .ok (.aload_n 0, 1) := by decide +kernel
theorem dL_law_1117 : decode cL_law 1117 = .ok (.iload_n 3, 1) := by decide +kernel
theorem dL_law_1118 : decode cL_law 1118 = .ok (.iconst 1, 1) := by decide +kernel
theorem dL_law_1119 : decode cL_law 1119 = .ok (.iadd, 1) := by decide +kernel
theorem dL_law_1120 : decode cL_law 1120 = .ok (.iaload, 1) := by decide +kernel
theorem dL_law_1121 : decode cL_law 1121 = .ok (.aload_n 0, 1) := by decide +kernel
theorem dL_law_1122 : decode cL_law 1122 = .ok (.iload_n 3, 1) := by decide +kernel
theorem dL_law_1123 : decode cL_law 1123 = .ok (.iconst 2, 1) := by decide +kernel
theorem dL_law_1124 : decode cL_law 1124 = .ok (.iadd, 1) := by decide +kernel
theorem dL_law_1125 : decode cL_law 1125 = .ok (.iaload, 1) := by decide +kernel
theorem dL_law_1126 : decode cL_law 1126 = .ok (.invokevirtual 146, 3) := by decide +kernel
theorem dL_law_1129 : decode cL_law 1129 = .ok (.if_icmp .eq 241, 3) := by decide +kernel
theorem dL_law_1132 : decode cL_law 1132 = .ok (.iconst 0, 1) := by decide +kernel
theorem dL_law_1133 : decode cL_law 1133 = .ok (.ireturn, 1) := by decide +kernel
theorem dL_law_1134 : decode cL_law 1134 = .ok (.aload_n 1, 1) := by decide +kernel
theorem dL_law_1135 : decode cL_law 1135 = .ok (.aload_n 0, 1) := by decide +kernel
theorem dL_law_1136 : decode cL_law 1136 = .ok (.iload_n 3, 1) := by decide +kernel
theorem dL_law_1137 : decode cL_law 1137 = .ok (.iconst 1, 1) := by decide +kernel
theorem dL_law_1138 : decode cL_law 1138 = .ok (.iadd, 1) := by decide +kernel
theorem dL_law_1139 : decode cL_law 1139 = .ok (.iaload, 1) := by decide +kernel
theorem dL_law_1140 : decode cL_law 1140 = .ok (.invokevirtual 147, 3) := by decide +kernel
theorem dL_law_1143 : decode cL_law 1143 = .ok (.aload_n 2, 1) := by decide +kernel
theorem dL_law_1144 : decode cL_law 1144 = .ok (.aload_n 0, 1) := by decide +kernel
theorem dL_law_1145 : decode cL_law 1145 = .ok (.iload_n 3, 1) := by decide +kernel
theorem dL_law_1146 : decode cL_law 1146 = .ok (.iconst 1, 1) := by decide +kernel
theorem dL_law_1147 : decode cL_law 1147 = .ok (.iadd, 1) := by decide +kernel
theorem dL_law_1148 : decode cL_law 1148 = .ok (.iaload, 1) := by decide +kernel
theorem dL_law_1149 : decode cL_law 1149 = .ok (.invokevirtual 150, 3) := by decide +kernel
theorem dL_law_1152 : decode cL_law 1152 = .ok (.if_icmp .eq 218, 3) := by decide +kernel
theorem dL_law_1155 : decode cL_law 1155 = .ok (.iconst 0, 1) := by decide +kernel
theorem dL_law_1156 : decode cL_law 1156 = .ok (.ireturn, 1) := by decide +kernel
theorem dL_law_1157 : decode cL_law 1157 = .ok (.aload_n 1, 1) := by decide +kernel
theorem dL_law_1158 : decode cL_law 1158 = .ok (.aload_n 0, 1) := by decide +kernel
theorem dL_law_1159 : decode cL_law 1159 = .ok (.iload_n 3, 1) := by decide +kernel
theorem dL_law_1160 : decode cL_law 1160 = .ok (.iconst 1, 1) := by decide +kernel
theorem dL_law_1161 : decode cL_law 1161 = .ok (.iadd, 1) := by decide +kernel
theorem dL_law_1162 : decode cL_law 1162 = .ok (.iaload, 1) := by decide +kernel
theorem dL_law_1163 : decode cL_law 1163 = .ok (.aload_n 0, 1) := by decide +kernel
theorem dL_law_1164 : decode cL_law 1164 = .ok (.iload_n 3, 1) := by decide +kernel
theorem dL_law_1165 : decode cL_law 1165 = .ok (.iconst 2, 1) := by decide +kernel
theorem dL_law_1166 : decode cL_law 1166 = .ok (.iadd, 1) := by decide +kernel
theorem dL_law_1167 : decode cL_law 1167 = .ok (.iaload, 1) := by decide +kernel
theorem dL_law_1168 : decode cL_law 1168 = .ok (.aload_n 0, 1) := by decide +kernel
theorem dL_law_1169 : decode cL_law 1169 = .ok (.iload_n 3, 1) := by decide +kernel
theorem dL_law_1170 : decode cL_law 1170 = .ok (.iconst 3, 1) := by decide +kernel
theorem dL_law_1171 : decode cL_law 1171 = .ok (.iadd, 1) := by decide +kernel
theorem dL_law_1172 : decode cL_law 1172 = .ok (.iaload, 1) := by decide +kernel
theorem dL_law_1173 : decode cL_law 1173 = .ok (.invokevirtual 151, 3) := by decide +kernel
theorem dL_law_1176 : decode cL_law 1176 = .ok (.aload_n 2, 1) := by decide +kernel
theorem dL_law_1177 : decode cL_law 1177 = .ok (.aload_n 0, 1) := by decide +kernel
theorem dL_law_1178 : decode cL_law 1178 = .ok (.iload_n 3, 1) := by decide +kernel
theorem dL_law_1179 : decode cL_law 1179 = .ok (.iconst 1, 1) := by decide +kernel
theorem dL_law_1180 : decode cL_law 1180 = .ok (.iadd, 1) := by decide +kernel
theorem dL_law_1181 : decode cL_law 1181 = .ok (.iaload, 1) := by decide +kernel
theorem dL_law_1182 : decode cL_law 1182 = .ok (.aload_n 0, 1) := by decide +kernel
theorem dL_law_1183 : decode cL_law 1183 = .ok (.iload_n 3, 1) := by decide +kernel
theorem dL_law_1184 : decode cL_law 1184 = .ok (.iconst 2, 1) := by decide +kernel
theorem dL_law_1185 : decode cL_law 1185 = .ok (.iadd, 1) := by decide +kernel
theorem dL_law_1186 : decode cL_law 1186 = .ok (.iaload, 1) := by decide +kernel
theorem dL_law_1187 : decode cL_law 1187 = .ok (.aload_n 0, 1) := by decide +kernel
theorem dL_law_1188 : decode cL_law 1188 = .ok (.iload_n 3, 1) := by decide +kernel
theorem dL_law_1189 : decode cL_law 1189 = .ok (.iconst 3, 1) := by decide +kernel
theorem dL_law_1190 : decode cL_law 1190 = .ok (.iadd, 1) := by decide +kernel
theorem dL_law_1191 : decode cL_law 1191 = .ok (.iaload, 1) := by decide +kernel
theorem dL_law_1192 : decode cL_law 1192 = .ok (.invokevirtual 154, 3) := by decide +kernel
theorem dL_law_1195 : decode cL_law 1195 = .ok (.if_icmp .eq 175, 3) := by decide +kernel
theorem dL_law_1198 : decode cL_law 1198 = .ok (.iconst 0, 1) := by decide +kernel
theorem dL_law_1199 : decode cL_law 1199 = .ok (.ireturn, 1) := by decide +kernel
theorem dL_law_1200 : decode cL_law 1200 = .ok (.aload_n 1, 1) := by decide +kernel
theorem dL_law_1201 : decode cL_law 1201 = .ok (.aload_n 0, 1) := by decide +kernel
theorem dL_law_1202 : decode cL_law 1202 = .ok (.iload_n 3, 1) := by decide +kernel
theorem dL_law_1203 : decode cL_law 1203 = .ok (.iconst 1, 1) := by decide +kernel
theorem dL_law_1204 : decode cL_law 1204 = .ok (.iadd, 1) := by decide +kernel
theorem dL_law_1205 : decode cL_law 1205 = .ok (.iaload, 1) := by decide +kernel
theorem dL_law_1206 : decode cL_law 1206 = .ok (.aload_n 0, 1) := by decide +kernel
theorem dL_law_1207 : decode cL_law 1207 = .ok (.iload_n 3, 1) := by decide +kernel
theorem dL_law_1208 : decode cL_law 1208 = .ok (.iconst 2, 1) := by decide +kernel
theorem dL_law_1209 : decode cL_law 1209 = .ok (.iadd, 1) := by decide +kernel
theorem dL_law_1210 : decode cL_law 1210 = .ok (.iaload, 1) := by decide +kernel
theorem dL_law_1211 : decode cL_law 1211 = .ok (.aload_n 0, 1) := by decide +kernel
theorem dL_law_1212 : decode cL_law 1212 = .ok (.iload_n 3, 1) := by decide +kernel
theorem dL_law_1213 : decode cL_law 1213 = .ok (.iconst 3, 1) := by decide +kernel
theorem dL_law_1214 : decode cL_law 1214 = .ok (.iadd, 1) := by decide +kernel
theorem dL_law_1215 : decode cL_law 1215 = .ok (.iaload, 1) := by decide +kernel
theorem dL_law_1216 : decode cL_law 1216 = .ok (.i2l, 1) := by decide +kernel
theorem dL_law_1217 : decode cL_law 1217 = .ok (.bipush 32, 2) := by decide +kernel
theorem dL_law_1219 : decode cL_law 1219 = .ok (.lshl, 1) := by decide +kernel
theorem dL_law_1220 : decode cL_law 1220 = .ok (.aload_n 0, 1) := by decide +kernel
theorem dL_law_1221 : decode cL_law 1221 = .ok (.iload_n 3, 1) := by decide +kernel
theorem dL_law_1222 : decode cL_law 1222 = .ok (.iconst 4, 1) := by decide +kernel
theorem dL_law_1223 : decode cL_law 1223 = .ok (.iadd, 1) := by decide +kernel
theorem dL_law_1224 : decode cL_law 1224 = .ok (.iaload, 1) := by decide +kernel
theorem dL_law_1225 : decode cL_law 1225 = .ok (.i2l, 1) := by decide +kernel
theorem dL_law_1226 : decode cL_law 1226 = .ok (.ldc2_w 155, 3) := by decide +kernel
theorem dL_law_1229 : decode cL_law 1229 = .ok (.land, 1) := by decide +kernel
theorem dL_law_1230 : decode cL_law 1230 = .ok (.lor, 1) := by decide +kernel
theorem dL_law_1231 : decode cL_law 1231 = .ok (.invokevirtual 157, 3) := by decide +kernel
theorem dL_law_1234 : decode cL_law 1234 = .ok (.aload_n 2, 1) := by decide +kernel
theorem dL_law_1235 : decode cL_law 1235 = .ok (.aload_n 0, 1) := by decide +kernel
theorem dL_law_1236 : decode cL_law 1236 = .ok (.iload_n 3, 1) := by decide +kernel
theorem dL_law_1237 : decode cL_law 1237 = .ok (.iconst 1, 1) := by decide +kernel
theorem dL_law_1238 : decode cL_law 1238 = .ok (.iadd, 1) := by decide +kernel
theorem dL_law_1239 : decode cL_law 1239 = .ok (.iaload, 1) := by decide +kernel
theorem dL_law_1240 : decode cL_law 1240 = .ok (.aload_n 0, 1) := by decide +kernel
theorem dL_law_1241 : decode cL_law 1241 = .ok (.iload_n 3, 1) := by decide +kernel
theorem dL_law_1242 : decode cL_law 1242 = .ok (.iconst 2, 1) := by decide +kernel
theorem dL_law_1243 : decode cL_law 1243 = .ok (.iadd, 1) := by decide +kernel
theorem dL_law_1244 : decode cL_law 1244 = .ok (.iaload, 1) := by decide +kernel
theorem dL_law_1245 : decode cL_law 1245 = .ok (.aload_n 0, 1) := by decide +kernel
theorem dL_law_1246 : decode cL_law 1246 = .ok (.iload_n 3, 1) := by decide +kernel
theorem dL_law_1247 : decode cL_law 1247 = .ok (.iconst 3, 1) := by decide +kernel
theorem dL_law_1248 : decode cL_law 1248 = .ok (.iadd, 1) := by decide +kernel
theorem dL_law_1249 : decode cL_law 1249 = .ok (.iaload, 1) := by decide +kernel
theorem dL_law_1250 : decode cL_law 1250 = .ok (.i2l, 1) := by decide +kernel
theorem dL_law_1251 : decode cL_law 1251 = .ok (.bipush 32, 2) := by decide +kernel
theorem dL_law_1253 : decode cL_law 1253 = .ok (.lshl, 1) := by decide +kernel
theorem dL_law_1254 : decode cL_law 1254 = .ok (.aload_n 0, 1) := by decide +kernel
theorem dL_law_1255 : decode cL_law 1255 = .ok (.iload_n 3, 1) := by decide +kernel
theorem dL_law_1256 : decode cL_law 1256 = .ok (.iconst 4, 1) := by decide +kernel
theorem dL_law_1257 : decode cL_law 1257 = .ok (.iadd, 1) := by decide +kernel
theorem dL_law_1258 : decode cL_law 1258 = .ok (.iaload, 1) := by decide +kernel
theorem dL_law_1259 : decode cL_law 1259 = .ok (.i2l, 1) := by decide +kernel
theorem dL_law_1260 : decode cL_law 1260 = .ok (.ldc2_w 155, 3) := by decide +kernel
theorem dL_law_1263 : decode cL_law 1263 = .ok (.land, 1) := by decide +kernel
theorem dL_law_1264 : decode cL_law 1264 = .ok (.lor, 1) := by decide +kernel
theorem dL_law_1265 : decode cL_law 1265 = .ok (.invokevirtual 161, 3) := by decide +kernel
theorem dL_law_1268 : decode cL_law 1268 = .ok (.if_icmp .eq 102, 3) := by decide +kernel
theorem dL_law_1271 : decode cL_law 1271 = .ok (.iconst 0, 1) := by decide +kernel
theorem dL_law_1272 : decode cL_law 1272 = .ok (.ireturn, 1) := by decide +kernel
theorem dL_law_1273 : decode cL_law 1273 = .ok (.aload_n 1, 1) := by decide +kernel
theorem dL_law_1274 : decode cL_law 1274 = .ok (.aload_n 0, 1) := by decide +kernel
theorem dL_law_1275 : decode cL_law 1275 = .ok (.iload_n 3, 1) := by decide +kernel
theorem dL_law_1276 : decode cL_law 1276 = .ok (.iconst 1, 1) := by decide +kernel
theorem dL_law_1277 : decode cL_law 1277 = .ok (.iadd, 1) := by decide +kernel
theorem dL_law_1278 : decode cL_law 1278 = .ok (.iaload, 1) := by decide +kernel
theorem dL_law_1279 : decode cL_law 1279 = .ok (.aload_n 0, 1) := by decide +kernel
theorem dL_law_1280 : decode cL_law 1280 = .ok (.iload_n 3, 1) := by decide +kernel
theorem dL_law_1281 : decode cL_law 1281 = .ok (.iconst 2, 1) := by decide +kernel
theorem dL_law_1282 : decode cL_law 1282 = .ok (.iadd, 1) := by decide +kernel
theorem dL_law_1283 : decode cL_law 1283 = .ok (.iaload, 1) := by decide +kernel
theorem dL_law_1284 : decode cL_law 1284 = .ok (.invokevirtual 162, 3) := by decide +kernel
theorem dL_law_1287 : decode cL_law 1287 = .ok (.aload_n 2, 1) := by decide +kernel
theorem dL_law_1288 : decode cL_law 1288 = .ok (.aload_n 0, 1) := by decide +kernel
theorem dL_law_1289 : decode cL_law 1289 = .ok (.iload_n 3, 1) := by decide +kernel
theorem dL_law_1290 : decode cL_law 1290 = .ok (.iconst 1, 1) := by decide +kernel
theorem dL_law_1291 : decode cL_law 1291 = .ok (.iadd, 1) := by decide +kernel
theorem dL_law_1292 : decode cL_law 1292 = .ok (.iaload, 1) := by decide +kernel
theorem dL_law_1293 : decode cL_law 1293 = .ok (.aload_n 0, 1) := by decide +kernel
theorem dL_law_1294 : decode cL_law 1294 = .ok (.iload_n 3, 1) := by decide +kernel
theorem dL_law_1295 : decode cL_law 1295 = .ok (.iconst 2, 1) := by decide +kernel
theorem dL_law_1296 : decode cL_law 1296 = .ok (.iadd, 1) := by decide +kernel
theorem dL_law_1297 : decode cL_law 1297 = .ok (.iaload, 1) := by decide +kernel
theorem dL_law_1298 : decode cL_law 1298 = .ok (.invokevirtual 166, 3) := by decide +kernel
theorem dL_law_1301 : decode cL_law 1301 = .ok (.lcmp, 1) := by decide +kernel
theorem dL_law_1302 : decode cL_law 1302 = .ok (.ifCond .eq 68, 3) := by decide +kernel
theorem dL_law_1305 : decode cL_law 1305 = .ok (.iconst 0, 1) := by decide +kernel
theorem dL_law_1306 : decode cL_law 1306 = .ok (.ireturn, 1) := by decide +kernel
theorem dL_law_1307 : decode cL_law 1307 = .ok (.aload_n 1, 1) := by decide +kernel
theorem dL_law_1308 : decode cL_law 1308 = .ok (.aload_n 0, 1) := by decide +kernel
theorem dL_law_1309 : decode cL_law 1309 = .ok (.iload_n 3, 1) := by decide +kernel
theorem dL_law_1310 : decode cL_law 1310 = .ok (.iconst 1, 1) := by decide +kernel
theorem dL_law_1311 : decode cL_law 1311 = .ok (.iadd, 1) := by decide +kernel
theorem dL_law_1312 : decode cL_law 1312 = .ok (.iaload, 1) := by decide +kernel
theorem dL_law_1313 : decode cL_law 1313 = .ok (.aload_n 0, 1) := by decide +kernel
theorem dL_law_1314 : decode cL_law 1314 = .ok (.iload_n 3, 1) := by decide +kernel
theorem dL_law_1315 : decode cL_law 1315 = .ok (.iconst 2, 1) := by decide +kernel
theorem dL_law_1316 : decode cL_law 1316 = .ok (.iadd, 1) := by decide +kernel
theorem dL_law_1317 : decode cL_law 1317 = .ok (.iaload, 1) := by decide +kernel
theorem dL_law_1318 : decode cL_law 1318 = .ok (.aload_n 0, 1) := by decide +kernel
theorem dL_law_1319 : decode cL_law 1319 = .ok (.iload_n 3, 1) := by decide +kernel
theorem dL_law_1320 : decode cL_law 1320 = .ok (.iconst 3, 1) := by decide +kernel
theorem dL_law_1321 : decode cL_law 1321 = .ok (.iadd, 1) := by decide +kernel
theorem dL_law_1322 : decode cL_law 1322 = .ok (.iaload, 1) := by decide +kernel
theorem dL_law_1323 : decode cL_law 1323 = .ok (.aload_n 0, 1) := by decide +kernel
theorem dL_law_1324 : decode cL_law 1324 = .ok (.iload_n 3, 1) := by decide +kernel
theorem dL_law_1325 : decode cL_law 1325 = .ok (.iconst 4, 1) := by decide +kernel
theorem dL_law_1326 : decode cL_law 1326 = .ok (.iadd, 1) := by decide +kernel
theorem dL_law_1327 : decode cL_law 1327 = .ok (.iaload, 1) := by decide +kernel
theorem dL_law_1328 : decode cL_law 1328 = .ok (.aload_n 0, 1) := by decide +kernel
theorem dL_law_1329 : decode cL_law 1329 = .ok (.iload_n 3, 1) := by decide +kernel
theorem dL_law_1330 : decode cL_law 1330 = .ok (.iconst 5, 1) := by decide +kernel
theorem dL_law_1331 : decode cL_law 1331 = .ok (.iadd, 1) := by decide +kernel
theorem dL_law_1332 : decode cL_law 1332 = .ok (.iaload, 1) := by decide +kernel
theorem dL_law_1333 : decode cL_law 1333 = .ok (.invokevirtual 167, 3) := by decide +kernel
theorem dL_law_1336 : decode cL_law 1336 = .ok (.aload_n 2, 1) := by decide +kernel
theorem dL_law_1337 : decode cL_law 1337 = .ok (.aload_n 0, 1) := by decide +kernel
theorem dL_law_1338 : decode cL_law 1338 = .ok (.iload_n 3, 1) := by decide +kernel
theorem dL_law_1339 : decode cL_law 1339 = .ok (.iconst 1, 1) := by decide +kernel
theorem dL_law_1340 : decode cL_law 1340 = .ok (.iadd, 1) := by decide +kernel
theorem dL_law_1341 : decode cL_law 1341 = .ok (.iaload, 1) := by decide +kernel
theorem dL_law_1342 : decode cL_law 1342 = .ok (.aload_n 0, 1) := by decide +kernel
theorem dL_law_1343 : decode cL_law 1343 = .ok (.iload_n 3, 1) := by decide +kernel
theorem dL_law_1344 : decode cL_law 1344 = .ok (.iconst 2, 1) := by decide +kernel
theorem dL_law_1345 : decode cL_law 1345 = .ok (.iadd, 1) := by decide +kernel
theorem dL_law_1346 : decode cL_law 1346 = .ok (.iaload, 1) := by decide +kernel
theorem dL_law_1347 : decode cL_law 1347 = .ok (.aload_n 0, 1) := by decide +kernel
theorem dL_law_1348 : decode cL_law 1348 = .ok (.iload_n 3, 1) := by decide +kernel
theorem dL_law_1349 : decode cL_law 1349 = .ok (.iconst 3, 1) := by decide +kernel
theorem dL_law_1350 : decode cL_law 1350 = .ok (.iadd, 1) := by decide +kernel
theorem dL_law_1351 : decode cL_law 1351 = .ok (.iaload, 1) := by decide +kernel
theorem dL_law_1352 : decode cL_law 1352 = .ok (.aload_n 0, 1) := by decide +kernel
theorem dL_law_1353 : decode cL_law 1353 = .ok (.iload_n 3, 1) := by decide +kernel
theorem dL_law_1354 : decode cL_law 1354 = .ok (.iconst 4, 1) := by decide +kernel
theorem dL_law_1355 : decode cL_law 1355 = .ok (.iadd, 1) := by decide +kernel
theorem dL_law_1356 : decode cL_law 1356 = .ok (.iaload, 1) := by decide +kernel
theorem dL_law_1357 : decode cL_law 1357 = .ok (.aload_n 0, 1) := by decide +kernel
theorem dL_law_1358 : decode cL_law 1358 = .ok (.iload_n 3, 1) := by decide +kernel
theorem dL_law_1359 : decode cL_law 1359 = .ok (.iconst 5, 1) := by decide +kernel
theorem dL_law_1360 : decode cL_law 1360 = .ok (.iadd, 1) := by decide +kernel
theorem dL_law_1361 : decode cL_law 1361 = .ok (.iaload, 1) := by decide +kernel
theorem dL_law_1362 : decode cL_law 1362 = .ok (.invokevirtual 171, 3) := by decide +kernel
theorem dL_law_1365 : decode cL_law 1365 = .ok (.if_icmp .eq 5, 3) := by decide +kernel
theorem dL_law_1368 : decode cL_law 1368 = .ok (.iconst 0, 1) := by decide +kernel
theorem dL_law_1369 : decode cL_law 1369 = .ok (.ireturn, 1) := by decide +kernel
theorem dL_law_1370 : decode cL_law 1370 = .ok (.iinc 3 6, 3) := by decide +kernel
theorem dL_law_1373 : decode cL_law 1373 = .ok (.goto (-1355), 3) := by decide +kernel
theorem dL_law_1376 : decode cL_law 1376 = .ok (.iconst 1, 1) := by decide +kernel
theorem dL_law_1377 : decode cL_law 1377 = .ok (.ireturn, 1) := by decide +kernel
end
section
-- ===== the words that every method may use: the good ones of the tables =====
def ALLW : List Cond := lw_tbl.filter goodWord
theorem mT {w : Cond} (h : w ∈ tables_1) (hg : goodWord w = true) : w ∈ ALLW := List.mem_filter.mpr ⟨List.mem_append_right _ h, hg⟩
theorem mT_1 {w : Cond} (i : Nat) (h : tables_1_1[i]? = some w) (hg : goodWord w = true) : w ∈ ALLW := mT (List.mem_append_left _ (List.mem_of_getElem? h)) hg
theorem mT_2 {w : Cond} (i : Nat) (h : tables_1_2[i]? = some w) (hg : goodWord w = true) : w ∈ ALLW := mT (List.mem_append_right _ (List.mem_append_left _ (List.mem_of_getElem? h))) hg
theorem mT_3 {w : Cond} (i : Nat) (h : tables_1_3[i]? = some w) (hg : goodWord w = true) : w ∈ ALLW := mT (List.mem_append_right _ (List.mem_append_right _ (List.mem_append_left _ (List.mem_of_getElem? h)))) hg
theorem mT_4 {w : Cond} (i : Nat) (h : tables_1_4[i]? = some w) (hg : goodWord w = true) : w ∈ ALLW := mT (List.mem_append_right _ (List.mem_append_right _ (List.mem_append_right _ (List.mem_append_left _ (List.mem_of_getElem? h))))) hg
theorem mT_5 {w : Cond} (i : Nat) (h : tables_1_5[i]? = some w) (hg : goodWord w = true) : w ∈ ALLW := mT (List.mem_append_right _ (List.mem_append_right _ (List.mem_append_right _ (List.mem_append_right _ (List.mem_append_left _ (List.mem_of_getElem? h)))))) hg
theorem mT_6 {w : Cond} (i : Nat) (h : tables_1_6[i]? = some w) (hg : goodWord w = true) : w ∈ ALLW := mT (List.mem_append_right _ (List.mem_append_right _ (List.mem_append_right _ (List.mem_append_right _ (List.mem_append_right _ (List.mem_append_left _ (List.mem_of_getElem? h))))))) hg
theorem mT_7 {w : Cond} (i : Nat) (h : tables_1_7[i]? = some w) (hg : goodWord w = true) : w ∈ ALLW := mT (List.mem_append_right _ (List.mem_append_right _ (List.mem_append_right _ (List.mem_append_right _ (List.mem_append_right _ (List.mem_append_right _ (List.mem_of_getElem? h))))))) hg
theorem mTp {q : MethodName × Nat} (h : q ∈ lw_privs) (hg : goodWord (Cond.selects q.1.cls q.1 q.1) = true) : Cond.selects q.1.cls q.1 q.1 ∈ ALLW := List.mem_filter.mpr ⟨List.mem_append_left _ (List.mem_map.mpr ⟨q, h, rfl⟩), hg⟩
theorem allw_in : ∀ w ∈ ALLW, w ∈ lw_tbl := fun _ h => (List.mem_filter.mp h).1
theorem allw_good : ∀ w ∈ ALLW, goodWord w = true := fun _ h => (List.mem_filter.mp h).2
def wA (y : MethodName) (cc : ByteArray) (nL : Nat) (rt : Option FieldType) : List Cond := Cond.code y cc nL rt :: ALLW
theorem goodA {y : MethodName} {cc : ByteArray} {nL : Nat} {rt : Option FieldType} (h : Cond.code y cc nL rt ∈ ALLW) {ws : List Cond} (hw : ∀ w ∈ ws, w ∈ ALLW) : GoodIn ALLW (ws ++ wA y cc nL rt) := by
  intro w h1
  have h2 : w ∈ ALLW := by
    rcases List.mem_append.mp h1 with h1 | h1
    · exact hw w h1
    · rcases List.mem_cons.mp h1 with h1 | h1
      · rw [h1]; exact h
      · exact h1
  exact ⟨h2, good_of_word (allw_good w h2)⟩
-- ===== the abstract heap: fields (ints, references) and rows (ints, longs, references) by the object's number; kinds of those made later =====
abbrev hp : Type := (Nat → Nat → Int32) × (Nat → Nat → Option Nat) × (Nat → Nat → Int32) × (Nat → Nat → Int64) × (Nat → Nat → Option Nat) × (Nat → Nat)
def hI (h : hp) (i k : Nat) : Int32 := h.1 i k
def hR (h : hp) (i k : Nat) : Option Nat := h.2.1 i k
def aI (h : hp) (i k : Nat) : Int32 := h.2.2.1 i k
def aL (h : hp) (i k : Nat) : Int64 := h.2.2.2.1 i k
def aR (h : hp) (i k : Nat) : Option Nat := h.2.2.2.2.1 i k
def up2 {α : Type} (f : Nat → Nat → α) (i k : Nat) (v : α) : Nat → Nat → α := fun a b => if a = i ∧ b = k then v else f a b
def sI (h : hp) (i k : Nat) (v : Int32) : hp := (up2 h.1 i k v, h.2)
def sR (h : hp) (i k : Nat) (v : Option Nat) : hp := (h.1, up2 h.2.1 i k v, h.2.2)
def tI (h : hp) (i k : Nat) (v : Int32) : hp := (h.1, h.2.1, up2 h.2.2.1 i k v, h.2.2.2)
def tL (h : hp) (i k : Nat) (v : Int64) : hp := (h.1, h.2.1, h.2.2.1, up2 h.2.2.2.1 i k v, h.2.2.2.2)
def tR (h : hp) (i k : Nat) (v : Option Nat) : hp := (h.1, h.2.1, h.2.2.1, h.2.2.2.1, up2 h.2.2.2.2.1 i k v, h.2.2.2.2.2)
/-- the kinds of the numbers below 100: a class's place in the list of classes and one more; a row: 20 + 10 times its length + its sort (int, byte, boolean, long, SignalBlind$Sender, SignalBlind$Tape) -/
def stL : List Nat := [13, 5, 4, 100, 74, 70, 220, 4, 70, 4, 100, 4, 100, 5, 4, 100, 74, 70, 220, 4, 70, 4, 100, 4, 100, 4, 1020, 85, 1, 181, 80, 183, 70, 70, 0, 0, 0, 0, 0, 0, 8, 623, 8, 623, 8, 623, 8, 623, 8, 623, 8, 623, 14, 100, 70, 70, 70, 220, 1020, 80, 620, 620, 620, 620, 6020, 1030, 180, 1022, 10262, 70, 70, 70, 70, 100, 100, 100, 100, 70, 70, 70, 220, 70, 70, 100, 100, 100, 220, 80, 80, 3623, 623]
def stK (i : Nat) : Nat := (stL[i]?).getD 0
def kdOf (h : hp) (i : Nat) : Nat := if i < 100 then stK i else h.2.2.2.2.2 i
/-- a class's fields: 0 an int, 1 a reference, n + 2 the object that is n on -/
def ktF (ci : Nat) : List Nat := match ci with
  | 0 => [3, 0, 0, 0]
  | 3 => [3, 0]
  | 4 => [3, 5, 0, 6, 7, 0, 8, 10, 12, 1]
  | 7 => [3, 0, 0]
  | 10 => [3, 4, 5, 0, 6, 0, 0, 1, 0]
  | 12 => [3, 15, 0, 27, 1, 0, 29, 30, 32, 33, 34, 35]
  | 13 => [0, 0, 0, 3, 4, 5, 6, 7, 0, 0, 0, 0, 0, 8, 9, 10, 11, 12, 13, 14, 15, 0, 0, 0, 16, 17, 18, 19, 20, 0, 21, 22, 0, 0, 23, 24, 25, 0, 0, 0, 0, 0, 0, 0, 0, 26, 27, 28, 29, 30, 31, 32, 33, 34, 35, 0, 36, 37, 38, 39, 40]
  | _ => [0, 0, 0]
def fvl (q : Nat → Nat) (h : hp) (i k fd : Nat) : Value := match fd with
  | 0 => .int (hI h i k)
  | 1 => va_rf ((hR h i k).map q)
  | n + 2 => .ref (q (i + n))
def fvs (q : Nat → Nat) (h : hp) (i : Nat) (l : List Nat) : List Value := l.zipIdx.map (fun p => fvl q h i p.2 p.1)
def acn (q : Nat → Nat) (h : hp) (i e : Nat) : (Nat → Int32) ⊕ (Nat → Int64) ⊕ (Nat → UInt32) ⊕ (Nat → UInt64) ⊕ (Nat → Option Nat) :=
  if e = 3 then .inr (.inl (aL h i)) else if 4 ≤ e then .inr (.inr (.inr (.inr (fun j => (aR h i j).map q)))) else .inl (aI h i)
def cellK (E : Nat → ClassId) (q : Nat → Nat) (h : hp) (i c : Nat) : va_E := if c < 20 then .inr (c - 1, fvs q h i (ktF (c - 1))) else .inl (E ((c - 20) % 10), (c - 20) / 10, acn q h i ((c - 20) % 10))
def cellX (E : Nat → ClassId) (q : Nat → Nat) (h : hp) (i : Nat) : va_E := cellK E q h i (kdOf h i)
def XL (E : Nat → ClassId) (L : List Nat) (q : Nat → Nat) (h : hp) : va_W := L.map (fun i => (q i, cellX E q h i))
/-- the numbers of a side: the class's (true), the reference's (false) -/
def sd (b : Bool) (i : Nat) : Bool := if b then decide (i < 52) || decide (100 ≤ i) else decide (52 ≤ i) && decide (i < 100)
def XD (b : Bool) (L : List Nat) (q : Nat → Nat) (h : hp) : Prop := L.Nodup ∧ (∀ i ∈ L, ∀ j ∈ L, q i = q j → i = j) ∧ ∀ i, sd b i = true → kdOf h i ≠ 0 → i ∈ L
theorem XL_at {E : Nat → ClassId} {L : List Nat} {q : Nat → Nat} {h : hp} {i : Nat} (hi : i ∈ L) : ∃ k : Nat, L[k]? = some i ∧ (XL E L q h)[k]? = some (q i, cellX E q h i) := by
  obtain ⟨k, hk⟩ := List.mem_iff_getElem?.mp hi
  exact ⟨k, hk, by simp [XL, hk]⟩
theorem XL_inv {E : Nat → ClassId} {L : List Nat} {q : Nat → Nat} {h : hp} {k : Nat} {r : Nat × va_E} (hk : (XL E L q h)[k]? = some r) : ∃ i, L[k]? = some i ∧ i ∈ L ∧ r = (q i, cellX E q h i) := by
  simp only [XL, List.getElem?_map, Option.map_eq_some_iff] at hk
  obtain ⟨i, h1, h2⟩ := hk
  exact ⟨i, h1, List.mem_of_getElem? h1, h2.symm⟩
theorem XL_D {E : Nat → ClassId} {b : Bool} {L : List Nat} {q : Nat → Nat} {h : hp} {A : Nat → Prop} (hX : XD b L q h) (hA : ∀ i ∈ L, A (q i)) : va_D A (XL E L q h) := by
  refine ⟨fun i j p r hp hr e => ?_, fun k p hp => ?_⟩
  · obtain ⟨a, ha, hal, rfl⟩ := XL_inv hp
    obtain ⟨c, hc, hcl, rfl⟩ := XL_inv hr
    have hac : a = c := hX.2.1 a hal c hcl e
    subst hac
    obtain ⟨hi, ei⟩ := List.getElem?_eq_some_iff.mp ha
    obtain ⟨hj, ej⟩ := List.getElem?_eq_some_iff.mp hc
    exact (List.getElem?_inj hi hX.1).mp (ha.trans hc.symm)
  · obtain ⟨a, ha, hal, rfl⟩ := XL_inv hp
    exact hA a hal
theorem XL_set {E : Nat → ClassId} {L : List Nat} {q : Nat → Nat} {h h' : hp} {i k : Nat} {e : va_E} (hnd : L.Nodup) (hk : L[k]? = some i) (he : cellX E q h' i = e) (ho : ∀ j, j ≠ i → cellX E q h' j = cellX E q h j) : (XL E L q h).set k (q i, e) = XL E L q h' := by
  obtain ⟨hkl, ek⟩ := List.getElem?_eq_some_iff.mp hk
  apply List.ext_getElem?
  intro n
  by_cases hn : k = n
  · subst hn
    rw [List.getElem?_set_self (by simpa [XL] using hkl)]
    simp [XL, hk, he]
  · rw [List.getElem?_set_ne hn]
    simp only [XL, List.getElem?_map]
    cases hj : L[n]? with
    | none => rfl
    | some j =>
      have hji : j ≠ i := by
        intro e1
        subst e1
        obtain ⟨hnl, en⟩ := List.getElem?_eq_some_iff.mp hj
        exact hn ((List.getElem?_inj hkl hnd).mp (hk.trans hj.symm))
      simp [ho j hji]
theorem fvs_get {q : Nat → Nat} {h : hp} {i k fd : Nat} {l : List Nat} (hf : l[k]? = some fd) : (fvs q h i l)[k]? = some (fvl q h i k fd) := by
  simp [fvs, List.getElem?_zipIdx, hf]
theorem fvs_len {q : Nat → Nat} {h : hp} {i : Nat} {l : List Nat} : (fvs q h i l).length = l.length := by simp [fvs]
theorem up2_at {α : Type} {f : Nat → Nat → α} {i k : Nat} {v : α} : up2 f i k v i k = v := if_pos ⟨rfl, rfl⟩
theorem up2_ne {α : Type} {f : Nat → Nat → α} {i k a c : Nat} {v : α} (h : ¬ (a = i ∧ c = k)) : up2 f i k v a c = f a c := if_neg h
theorem fvs_set {q : Nat → Nat} {h h' : hp} {i k fd : Nat} {l : List Nat} {v : Value} (hf : l[k]? = some fd) (hv : fvl q h' i k fd = v) (ho : ∀ j f, j ≠ k → fvl q h' i j f = fvl q h i j f) : (fvs q h i l).set k v = fvs q h' i l := by
  obtain ⟨hkl, ek⟩ := List.getElem?_eq_some_iff.mp hf
  apply List.ext_getElem?
  intro n
  by_cases hn : k = n
  · subst hn
    rw [List.getElem?_set_self (by rw [fvs_len]; exact hkl), fvs_get hf, hv]
  · rw [List.getElem?_set_ne hn]
    cases hj : l[n]? with
    | none =>
      have h1 : l.length ≤ n := by simpa using hj
      rw [List.getElem?_eq_none (by rw [fvs_len]; exact h1), List.getElem?_eq_none (by rw [fvs_len]; exact h1)]
    | some f => rw [fvs_get hj, fvs_get hj, ho n f (fun e => hn e.symm)]
-- what changes of a cell when a part is written
theorem cellK_sI {E : Nat → ClassId} {q : Nat → Nat} {h : hp} {i k : Nat} {v : Int32} {j c : Nat} (hj : j ≠ i) : cellK E q (sI h i k v) j c = cellK E q h j c := by
  have h1 : ∀ n f, fvl q (sI h i k v) j n f = fvl q h j n f := by
    intro n f
    match f with
    | 0 => simp [fvl, hI, sI, up2, hj]
    | 1 => rfl
    | m + 2 => rfl
  have h2 : fvs q (sI h i k v) j = fvs q h j := by funext l; simp only [fvs, h1]
  simp only [cellK, h2]
  rfl
theorem cellX_sI {E : Nat → ClassId} {q : Nat → Nat} {h : hp} {i k : Nat} {v : Int32} {j : Nat} (hj : j ≠ i) : cellX E q (sI h i k v) j = cellX E q h j := cellK_sI hj
theorem cellX_sR {E : Nat → ClassId} {q : Nat → Nat} {h : hp} {i k : Nat} {v : Option Nat} {j : Nat} (hj : j ≠ i) : cellX E q (sR h i k v) j = cellX E q h j := by
  have h1 : ∀ n f, fvl q (sR h i k v) j n f = fvl q h j n f := by
    intro n f
    match f with
    | 0 => rfl
    | 1 => simp [fvl, hR, sR, up2, hj]
    | m + 2 => rfl
  have h2 : fvs q (sR h i k v) j = fvs q h j := by funext l; simp only [fvs, h1]
  show cellK E q (sR h i k v) j (kdOf h j) = cellK E q h j (kdOf h j)
  simp only [cellK, h2]
  rfl
theorem fvs_t {q : Nat → Nat} {h h' : hp} {j : Nat} (h1 : h'.1 = h.1) (h2 : h'.2.1 = h.2.1) : fvs q h' j = fvs q h j := by
  have h3 : ∀ n f, fvl q h' j n f = fvl q h j n f := by
    intro n f
    match f with
    | 0 => simp [fvl, hI, h1]
    | 1 => simp [fvl, hR, h2]
    | m + 2 => rfl
  funext l; simp only [fvs, h3]
theorem cellX_tI {E : Nat → ClassId} {q : Nat → Nat} {h : hp} {i k : Nat} {v : Int32} {j : Nat} (hj : j ≠ i) : cellX E q (tI h i k v) j = cellX E q h j := by
  show cellK E q (tI h i k v) j (kdOf h j) = cellK E q h j (kdOf h j)
  have h2 : fvs q (tI h i k v) j = fvs q h j := fvs_t rfl rfl
  have h3 : aI (tI h i k v) j = aI h j := by funext n; simp [aI, tI, up2, hj]
  simp only [cellK, h2, acn, h3]
  rfl
theorem cellX_tL {E : Nat → ClassId} {q : Nat → Nat} {h : hp} {i k : Nat} {v : Int64} {j : Nat} (hj : j ≠ i) : cellX E q (tL h i k v) j = cellX E q h j := by
  show cellK E q (tL h i k v) j (kdOf h j) = cellK E q h j (kdOf h j)
  have h2 : fvs q (tL h i k v) j = fvs q h j := fvs_t rfl rfl
  have h3 : aL (tL h i k v) j = aL h j := by funext n; simp [aL, tL, up2, hj]
  simp only [cellK, h2, acn, h3]
  rfl
theorem cellX_tR {E : Nat → ClassId} {q : Nat → Nat} {h : hp} {i k : Nat} {v : Option Nat} {j : Nat} (hj : j ≠ i) : cellX E q (tR h i k v) j = cellX E q h j := by
  show cellK E q (tR h i k v) j (kdOf h j) = cellK E q h j (kdOf h j)
  have h2 : fvs q (tR h i k v) j = fvs q h j := fvs_t rfl rfl
  have h3 : aR (tR h i k v) j = aR h j := by funext n; simp [aR, tR, up2, hj]
  simp only [cellK, h2, acn, h3]
  rfl
theorem cellX_obj {E : Nat → ClassId} {q : Nat → Nat} {h : hp} {i ci : Nat} (hk : kdOf h i = ci + 1) (hci : ci < 19) : cellX E q h i = .inr (ci, fvs q h i (ktF ci)) := by
  simp only [cellX, cellK, hk]
  rw [if_pos (by omega)]
  rfl
theorem cellX_row {E : Nat → ClassId} {q : Nat → Nat} {h : hp} {i n e : Nat} (hk : kdOf h i = 20 + 10 * n + e) (he : e < 10) : cellX E q h i = .inl (E e, n, acn q h i e) := by
  have h1 : (20 + 10 * n + e - 20) % 10 = e := by omega
  have h2 : (20 + 10 * n + e - 20) / 10 = n := by omega
  simp only [cellX, cellK, hk]
  rw [if_neg (by omega), h1, h2]
-- ===== pure words: what may fail =====
def chk {α : Type} (x : Int32) (n : Nat) (a : Option α) : Option α := if x < 0 ∨ n ≤ x.toNatClampNeg then none else a
theorem chk_some {α : Type} {x : Int32} {n : Nat} {a : Option α} {r : α} (h : chk x n a = some r) : vp_in x n ∧ a = some r := by
  unfold chk at h
  by_cases hc : x < 0 ∨ n ≤ x.toNatClampNeg
  · rw [if_pos hc] at h; cases h
  · rw [if_neg hc] at h; exact ⟨hc, h⟩
def nz {α : Type} (y : Int32) (a : Option α) : Option α := if y = 0 then none else a
theorem nz_some {α : Type} {y : Int32} {a : Option α} {r : α} (h : nz y a = some r) : ¬ y = 0 ∧ a = some r := by
  unfold nz at h
  by_cases hc : y = 0
  · rw [if_pos hc] at h; cases h
  · rw [if_neg hc] at h; exact ⟨hc, h⟩
def bnd {α β : Type} (o : Option (hp × α)) (k : hp → α → Option β) : Option β := match o with
  | none => none
  | some p => k p.1 p.2
theorem bnd_some {α β : Type} {o : Option (hp × α)} {k : hp → α → Option β} {r : β} (h : bnd o k = some r) : ∃ (h1 : hp) (x : α), o = some (h1, x) ∧ k h1 x = some r := by
  match o, h with
  | some (h1, x), h => exact ⟨h1, x, rfl, h⟩
def bnr {α β : Type} (o : Option α) (k : α → Option β) : Option β := match o with
  | none => none
  | some p => k p
theorem bnr_some {α β : Type} {o : Option α} {k : α → Option β} {r : β} (h : bnr o k = some r) : ∃ x : α, o = some x ∧ k x = some r := by
  match o, h with
  | some x, h => exact ⟨x, rfl, h⟩
def onO {α : Type} (o : Option Nat) (a : α) (b : Nat → α) : α := match o with
  | none => a
  | some i => b i
/-- a value is of a class: its kind, and its side -/
def ckO {α : Type} (b : Bool) (h : hp) (i c : Nat) (a : Option α) : Option α := if sd b i = true ∧ kdOf h i = c then a else none
theorem ckO_some {α : Type} {b : Bool} {h : hp} {i c : Nat} {a : Option α} {r : α} (hh : ckO b h i c a = some r) : (sd b i = true ∧ kdOf h i = c) ∧ a = some r := by
  unfold ckO at hh
  by_cases hc : sd b i = true ∧ kdOf h i = c
  · rw [if_pos hc] at hh; exact ⟨hc, hh⟩
  · rw [if_neg hc] at hh; cases hh
def alen (h : hp) (i : Nat) : Nat := (kdOf h i - 20) / 10
/-- a value is a row of a sort -/
def ckA {α : Type} (b : Bool) (h : hp) (i e : Nat) (a : Option α) : Option α := if sd b i = true ∧ kdOf h i = 20 + 10 * alen h i + e then a else none
theorem ckA_some {α : Type} {b : Bool} {h : hp} {i e : Nat} {a : Option α} {r : α} (hh : ckA b h i e a = some r) : (sd b i = true ∧ kdOf h i = 20 + 10 * alen h i + e) ∧ a = some r := by
  unfold ckA at hh
  by_cases hc : sd b i = true ∧ kdOf h i = 20 + 10 * alen h i + e
  · rw [if_pos hc] at hh; exact ⟨hc, hh⟩
  · rw [if_neg hc] at hh; cases hh
-- ===== the constants: texts, statics (old cells that nothing changes) =====
def xz_len : List Nat := [4, 16, 6, 3, 10]
def xz_byt : List (List Int32) := [[111, 115, 116, 110], [111, 112, 101, 110, 115, 104, 117, 116, 116, 117, 114, 110, 110, 101, 97, 114], [115, 107, 118, 111, 102, 104], [60, 61, 62], [48, 49, 50, 51, 52, 53, 54, 55, 56, 57]]
abbrev XZ : Type := (Nat → Nat) × (Nat → Nat)
def xz (ζ : XZ) (A : Nat → Prop) (U : State) : Prop := va_Z "java/lang/String" "COMPACT_STRINGS" "Z" (.int 1) A U U.heap ∧ va_Zq "jdk/internal/util/Preconditions" "SIOOBE_FORMATTER" "Ljava/util/function/BiFunction;" A U U.heap ∧
  vk_R "SignalBlind$Ward" 54 "ostn" (ζ.1 0) U ∧ vk_R "SignalBlind$Ward" 60 "openshutturnnear" (ζ.1 1) U ∧ vk_R "SignalBlind$Ward" 85 "skvofh" (ζ.1 2) U ∧ vk_R "SignalBlind$Ward" 87 "<=>" (ζ.1 3) U ∧ vk_R "SignalBlind$Ward" 89 "0123456789" (ζ.1 4) U ∧
  vk_S 5 xz_len xz_byt ζ.1 ζ.2 A U U.heap
theorem xz_same {ζ : XZ} {A : Nat → Prop} {u U : State} (hv : U.vm = u.vm) (hh : U.heap = u.heap) (h : xz ζ A u) : xz ζ A U := by
  obtain ⟨h1, h2, h3, h4, h5, h6, h7, h8⟩ := h
  have hvm : u.vm.Alike U.vm := by rw [hv]; exact Vm.Alike.refl _
  exact ⟨by rw [hh]; exact h1.moved hvm, by rw [hh]; exact h2.moved hvm, h3.same hv, h4.same hv, h5.same hv, h6.same hv, h7.same hv, by rw [hh]; exact h8.moved hvm⟩
theorem xz_to {ζ : XZ} {A B : Nat → Prop} {u U : State} {locs : List Loc} (h : xz ζ A u) (hW : u.WarmedH U.vm) (hS : va_S A u.heap U.heap locs) (hAB : ∀ q, B q → A q) : xz ζ B U := by
  obtain ⟨h1, h2, h3, h4, h5, h6, h7, h8⟩ := h
  have hk : ∀ a : Nat, a < u.heap.size → ¬ A a → U.heap[a]? = u.heap[a]? := hS.2.1
  exact ⟨((h1.kept hk).moved hW.alike).narrow hAB, ((h2.kept hk).moved hW.alike).narrow hAB, h3.warm hW, h4.warm hW, h5.warm hW, h6.warm hW, h7.warm hW, ((h8.kept hk).moved hW.alike).narrow hAB⟩
-- ===== what stands all through a method; the goal; the contract =====
abbrev XO : Type := Launch × va_G × (Nat → ClassId) × Bool × XZ
abbrev XK : Type := Program × Env × State × MethodId × Array Value × List Frame × Method × Code × (State → Prop) × (Nat → Prop)
def tysE (E : Nat → ClassId) : List (ClassId × FieldType) := [(E 0, .int), (E 1, .byte), (E 2, .boolean), (E 3, .long), (E 4, .object "SignalBlind$Sender"), (E 5, .object "SignalBlind$Tape")]
def XC (ω : XO) (rm : Room) (nL : Nat) (κ : XK) (cc : ByteArray) (own : String) : Prop := match ω, κ with
  | (_, D, E, _, ζ), (p, _, s, m, args, _, meth, c, _, A) => p.tables.exec = Jvm.exec ∧ c.code = cc ∧ c.maxLocals = nL ∧ s.vm.findClass own = some m.cls ∧ (∀ w ∈ ALLW, w.before args s = true) ∧ va_K D vwCl (tysE E) s ∧ meth.locks = false ∧ (∀ a, s.heap.size ≤ a → A a) ∧ xz ζ A s
def XG (ω : XO) (rm : Room) (nL : Nat) (κ : XK) (L : List Nat) (q : Nat → Nat) (h : hp) (cells slots pc : Nat) (lv : List (Nat × Value)) (st : List Value) : Prop := match ω, κ with
  | (l, D, E, b, _), (p, e, s, m, args, below, meth, c, Q, A) => ∀ (H : Heap) (locs : List Loc) (la : Array Slot), va_P D vwCl (XL E L q h) H → XD b L q h → (∀ i ∈ L, A (q i)) → va_S A s.heap H locs → lv_has la nL lv → W p l e rm s m args below meth c H locs cells slots Q (F0 m pc la st)
def XA (L : List Nat) (q : Nat → Nat) (sz : Nat) : Nat → Prop := fun a => (∃ i, i ∈ L ∧ a = q i) ∨ sz ≤ a
def XB (ω : XO) (L : List Nat) (q : Nat → Nat) (h : hp) (sz : Nat) (U : State) : Prop := match ω with
  | (_, D, E, b, ζ) => U.heap.size = sz ∧ va_P D vwCl (XL E L q h) U.heap ∧ va_K D vwCl (tysE E) U ∧ XD b L q h ∧ xz ζ (XA L q sz) U
def XQ (ω : XO) (L : List Nat) (q : Nat → Nat) (h' : hp) (v : Option Value) (sz : Nat) : Array Value → State → Outcome → State → Prop := match ω with
  | (_, D, E, b, _) => fun _ st oc t => (oc = .returned v ∧ va_P D vwCl (XL E L q h') t.heap ∧ XD b L q h') ∧ va_F (XA L q sz) st t
/-- THE CONTRACT of a method that makes nothing: from the heap h, with these values, it answers v, and the heap is h' then -/
def XM (ω : XO) (y : MethodName) (cc : ByteArray) (nL : Nat) (rt : Option FieldType) (rm : Room) (L : List Nat) (q : Nat → Nat) (h : hp) (as : List Value) (v : Option Value) (h' : hp) : Prop :=
  ∀ sz : Nat, Met ω.1 y (wA y cc nL rt) rm (va_Pc as (XB ω L q h sz)) (XQ ω L q h' v sz) rm.cells rm.slots (XA L q sz)
def XRet (ω : XO) (rm : Room) (κ : XK) (rt : Option FieldType) (L : List Nat) (q : Nat → Nat) (h' : hp) (v : Option Value) : Prop := match κ with
  | (_, _, s, _, args, below, meth, _, Q, A) => meth.sig.returnType = rt ∧ A = XA L q s.heap.size ∧ Q = MQ below (XQ ω L q h' v s.heap.size) args s rm.cells rm.slots A
def XInit (κ : XK) : Prop := match κ with
  | (_, _, _, _, _, _, meth, _, _, _) => meth.name = "<init>"
theorem XM_intro {ω : XO} {y : MethodName} {cc : ByteArray} {nL : Nat} {rt : Option FieldType} {rm : Room} {L : List Nat} {q : Nat → Nat} {h : hp} {as : List Value} {v : Option Value} {h' : hp} (lv : List (Nat × Value)) (own : String) (hy : plainName y.cls = true) (hown : y.cls = own) (hlv : lv_args 0 as = lv) (hfit : (lg_sl as).length ≤ nL)
    (body : ∀ κ : XK, XC ω rm nL κ cc own → XRet ω rm κ rt L q h' v → XG ω rm nL κ L q h 0 0 0 lv []) : XM ω y cc nL rt rm L q h as v h' := by
  obtain ⟨l, D, E, b, ζ⟩ := ω
  intro sz
  refine Met.ofW (cc := cc) (maxL := nL) (ret := rt) hy rfl ?_
  intro p e s m args below meth c s₁ B hml hv
  obtain ⟨rfl, hsz, hP, hK, hX, hz⟩ := hv
  subst hsz
  subst hlv
  subst hown
  have hts := atoms_spec (ws := wA y cc nL rt) B.pre
  have hl := lv_entry as (n := nL) hfit
  have hA : ∀ i ∈ L, XA L q s.heap.size (q i) := fun i hi => Or.inl ⟨i, hi, rfl⟩
  have hg := body (p, e, s, m, as.toArray, below, meth, c, MQ below (XQ (l, D, E, b, ζ) L q h' v s.heap.size) as.toArray s rm.cells rm.slots (XA L q s.heap.size), XA L q s.heap.size)
    ⟨B.exec, B.bytes, hml, findClass_of_methodNamed B.named, fun w hw => hts w (List.mem_cons_of_mem _ hw), hK, B.notSynchronized, fun a ha => Or.inr ha, hz⟩ ⟨B.returns, rfl, rfl⟩
  have hg2 := hg s.heap [] _ hP hX hA va_S.rf hl
  rw [lg_entry_eq]
  exact hg2
/-- the end: an int, a boolean, a long, nothing -/
theorem x_ret {ω : XO} {rm : Room} {nL : Nat} {κ : XK} {cc : ByteArray} {own : String} (X : XC ω rm nL κ cc own) {L : List Nat} {q : Nat → Nat} {h : hp} {rt : Option FieldType} {r : Int32} (R : XRet ω rm κ rt L q h (some (.int r))) {cells slots pc : Nat} {lv : List (Nat × Value)} (hc : cells ≤ rm.cells) (hs : slots ≤ rm.slots) (hrt : rt = some .int ∨ (rt = some .boolean ∧ narrow .boolean (.int r) = .int r) ∨ (rt = some .char ∧ narrow .char (.int r) = .int r) ∨ (rt = some .byte ∧ narrow .byte (.int r) = .int r)) (hd : decode cc pc = .ok (.ireturn, 1)) : XG ω rm nL κ L q h cells slots pc lv [.int r] := by
  obtain ⟨l, D, E, b, ζ⟩ := ω
  obtain ⟨p, e, s, m, args, below, meth, c, Q, A⟩ := κ
  obtain ⟨hx, hb, -, -, -, -, hlocks, -, -⟩ := X
  obtain ⟨hr, rfl, rfl⟩ := R
  intro H locs la hP hX hA hS hl
  refine W.widen hc hs ?_
  rcases hrt with rfl | ⟨rfl, hn⟩ | ⟨rfl, hn⟩ | ⟨rfl, hn⟩
  · exact W.iret hx hb hr (fun t ht _ => ⟨⟨rfl, by rw [ht]; exact hP, hX⟩, hS.F ht⟩) hS.2.2 hd hlocks
  · exact W.zret hx hb hr hn (fun t ht _ => ⟨⟨rfl, by rw [ht]; exact hP, hX⟩, hS.F ht⟩) hS.2.2 hd hlocks
  · exact W.zret hx hb hr hn (fun t ht _ => ⟨⟨rfl, by rw [ht]; exact hP, hX⟩, hS.F ht⟩) hS.2.2 hd hlocks
  · exact W.zret hx hb hr hn (fun t ht _ => ⟨⟨rfl, by rw [ht]; exact hP, hX⟩, hS.F ht⟩) hS.2.2 hd hlocks
theorem x_lret {ω : XO} {rm : Room} {nL : Nat} {κ : XK} {cc : ByteArray} {own : String} (X : XC ω rm nL κ cc own) {L : List Nat} {q : Nat → Nat} {h : hp} {r : Int64} (R : XRet ω rm κ (some .long) L q h (some (.long r))) {cells slots pc : Nat} {lv : List (Nat × Value)} (hc : cells ≤ rm.cells) (hs : slots ≤ rm.slots) (hd : decode cc pc = .ok (.lreturn, 1)) : XG ω rm nL κ L q h cells slots pc lv [.long r] := by
  obtain ⟨l, D, E, b, ζ⟩ := ω
  obtain ⟨p, e, s, m, args, below, meth, c, Q, A⟩ := κ
  obtain ⟨hx, hb, -, -, -, -, hlocks, -, -⟩ := X
  obtain ⟨hr, rfl, rfl⟩ := R
  intro H locs la hP hX hA hS hl
  refine W.widen hc hs ?_
  exact W.lret hx hb hr (fun t ht _ => ⟨⟨rfl, by rw [ht]; exact hP, hX⟩, hS.F ht⟩) hS.2.2 hd hlocks
theorem x_vret {ω : XO} {rm : Room} {nL : Nat} {κ : XK} {cc : ByteArray} {own : String} (X : XC ω rm nL κ cc own) {L : List Nat} {q : Nat → Nat} {h : hp} (R : XRet ω rm κ none L q h none) {cells slots pc : Nat} {lv : List (Nat × Value)} (hc : cells ≤ rm.cells) (hs : slots ≤ rm.slots) (hd : decode cc pc = .ok (.return_, 1)) : XG ω rm nL κ L q h cells slots pc lv [] := by
  obtain ⟨l, D, E, b, ζ⟩ := ω
  obtain ⟨p, e, s, m, args, below, meth, c, Q, A⟩ := κ
  obtain ⟨hx, hb, -, -, -, -, hlocks, -, -⟩ := X
  obtain ⟨hr, rfl, rfl⟩ := R
  intro H locs la hP hX hA hS hl
  refine W.widen hc hs ?_
  exact W.vret hx hb hr (fun t ht _ => ⟨⟨rfl, by rw [ht]; exact hP, hX⟩, hS.F ht⟩) hS.2.2 hd hlocks
end
section
theorem x_iconst {ω : XO} {rm : Room} {nL : Nat} {κ : XK} {cc : ByteArray} {own : String} (X : XC ω rm nL κ cc own) {L : List Nat} {q : Nat → Nat} {h : hp} {cells slots pc : Nat} {lv : List (Nat × Value)} {rest : List Value} {n : Int} {v : Int32} (hd : decode cc pc = .ok (.iconst n, 1)) (hv : Int32.ofInt n = v) (k : XG ω rm nL κ L q h cells slots (pc + 1) lv (.int v :: rest)) : XG ω rm nL κ L q h cells slots pc lv (rest) := by
  obtain ⟨l, D, E, b, ζ⟩ := ω
  obtain ⟨p, e, s, m, args, below, meth, c, Q, A⟩ := κ
  intro H locs la hP hX hA hS hl
  exact lv_iconst X.1 X.2.1 hd hv (k H locs la hP hX hA hS hl)
theorem x_bipush {ω : XO} {rm : Room} {nL : Nat} {κ : XK} {cc : ByteArray} {own : String} (X : XC ω rm nL κ cc own) {L : List Nat} {q : Nat → Nat} {h : hp} {cells slots pc : Nat} {lv : List (Nat × Value)} {rest : List Value} {n : Int} {v : Int32} (hd : decode cc pc = .ok (.bipush n, 2)) (hv : (Int8.ofInt n).toInt32 = v) (k : XG ω rm nL κ L q h cells slots (pc + 2) lv (.int v :: rest)) : XG ω rm nL κ L q h cells slots pc lv (rest) := by
  obtain ⟨l, D, E, b, ζ⟩ := ω
  obtain ⟨p, e, s, m, args, below, meth, c, Q, A⟩ := κ
  intro H locs la hP hX hA hS hl
  exact lv_bipush X.1 X.2.1 hd hv (k H locs la hP hX hA hS hl)
theorem x_sipush {ω : XO} {rm : Room} {nL : Nat} {κ : XK} {cc : ByteArray} {own : String} (X : XC ω rm nL κ cc own) {L : List Nat} {q : Nat → Nat} {h : hp} {cells slots pc : Nat} {lv : List (Nat × Value)} {rest : List Value} {n : Int} {v : Int32} (hd : decode cc pc = .ok (.sipush n, 3)) (hv : (Int16.ofInt n).toInt32 = v) (k : XG ω rm nL κ L q h cells slots (pc + 3) lv (.int v :: rest)) : XG ω rm nL κ L q h cells slots pc lv (rest) := by
  obtain ⟨l, D, E, b, ζ⟩ := ω
  obtain ⟨p, e, s, m, args, below, meth, c, Q, A⟩ := κ
  intro H locs la hP hX hA hS hl
  exact lv_sipush X.1 X.2.1 hd hv (k H locs la hP hX hA hS hl)
theorem x_lconst {ω : XO} {rm : Room} {nL : Nat} {κ : XK} {cc : ByteArray} {own : String} (X : XC ω rm nL κ cc own) {L : List Nat} {q : Nat → Nat} {h : hp} {cells slots pc : Nat} {lv : List (Nat × Value)} {rest : List Value} {n : Fin 2} {v : Int64} (hd : decode cc pc = .ok (.lconst n, 1)) (hv : Int64.ofNat (n : Nat) = v) (k : XG ω rm nL κ L q h cells slots (pc + 1) lv (.long v :: rest)) : XG ω rm nL κ L q h cells slots pc lv (rest) := by
  obtain ⟨l, D, E, b, ζ⟩ := ω
  obtain ⟨p, e, s, m, args, below, meth, c, Q, A⟩ := κ
  intro H locs la hP hX hA hS hl
  exact lv_lconst X.1 X.2.1 hd hv (k H locs la hP hX hA hS hl)
theorem x_iadd {ω : XO} {rm : Room} {nL : Nat} {κ : XK} {cc : ByteArray} {own : String} (X : XC ω rm nL κ cc own) {L : List Nat} {q : Nat → Nat} {h : hp} {cells slots pc : Nat} {lv : List (Nat × Value)} {rest : List Value} {x y : Int32} (hd : decode cc pc = .ok (.iadd, 1)) (k : XG ω rm nL κ L q h cells slots (pc + 1) lv (.int (x + y) :: rest)) : XG ω rm nL κ L q h cells slots pc lv (.int y :: .int x :: rest) := by
  obtain ⟨l, D, E, b, ζ⟩ := ω
  obtain ⟨p, e, s, m, args, below, meth, c, Q, A⟩ := κ
  intro H locs la hP hX hA hS hl
  exact lv_iadd X.1 X.2.1 hd (k H locs la hP hX hA hS hl)
theorem x_isub {ω : XO} {rm : Room} {nL : Nat} {κ : XK} {cc : ByteArray} {own : String} (X : XC ω rm nL κ cc own) {L : List Nat} {q : Nat → Nat} {h : hp} {cells slots pc : Nat} {lv : List (Nat × Value)} {rest : List Value} {x y : Int32} (hd : decode cc pc = .ok (.isub, 1)) (k : XG ω rm nL κ L q h cells slots (pc + 1) lv (.int (x - y) :: rest)) : XG ω rm nL κ L q h cells slots pc lv (.int y :: .int x :: rest) := by
  obtain ⟨l, D, E, b, ζ⟩ := ω
  obtain ⟨p, e, s, m, args, below, meth, c, Q, A⟩ := κ
  intro H locs la hP hX hA hS hl
  exact lv_isub X.1 X.2.1 hd (k H locs la hP hX hA hS hl)
theorem x_imul {ω : XO} {rm : Room} {nL : Nat} {κ : XK} {cc : ByteArray} {own : String} (X : XC ω rm nL κ cc own) {L : List Nat} {q : Nat → Nat} {h : hp} {cells slots pc : Nat} {lv : List (Nat × Value)} {rest : List Value} {x y : Int32} (hd : decode cc pc = .ok (.imul, 1)) (k : XG ω rm nL κ L q h cells slots (pc + 1) lv (.int (x * y) :: rest)) : XG ω rm nL κ L q h cells slots pc lv (.int y :: .int x :: rest) := by
  obtain ⟨l, D, E, b, ζ⟩ := ω
  obtain ⟨p, e, s, m, args, below, meth, c, Q, A⟩ := κ
  intro H locs la hP hX hA hS hl
  exact lv_imul X.1 X.2.1 hd (k H locs la hP hX hA hS hl)
theorem x_iand {ω : XO} {rm : Room} {nL : Nat} {κ : XK} {cc : ByteArray} {own : String} (X : XC ω rm nL κ cc own) {L : List Nat} {q : Nat → Nat} {h : hp} {cells slots pc : Nat} {lv : List (Nat × Value)} {rest : List Value} {x y : Int32} (hd : decode cc pc = .ok (.iand, 1)) (k : XG ω rm nL κ L q h cells slots (pc + 1) lv (.int (x &&& y) :: rest)) : XG ω rm nL κ L q h cells slots pc lv (.int y :: .int x :: rest) := by
  obtain ⟨l, D, E, b, ζ⟩ := ω
  obtain ⟨p, e, s, m, args, below, meth, c, Q, A⟩ := κ
  intro H locs la hP hX hA hS hl
  exact lv_iand X.1 X.2.1 hd (k H locs la hP hX hA hS hl)
theorem x_ior {ω : XO} {rm : Room} {nL : Nat} {κ : XK} {cc : ByteArray} {own : String} (X : XC ω rm nL κ cc own) {L : List Nat} {q : Nat → Nat} {h : hp} {cells slots pc : Nat} {lv : List (Nat × Value)} {rest : List Value} {x y : Int32} (hd : decode cc pc = .ok (.ior, 1)) (k : XG ω rm nL κ L q h cells slots (pc + 1) lv (.int (x ||| y) :: rest)) : XG ω rm nL κ L q h cells slots pc lv (.int y :: .int x :: rest) := by
  obtain ⟨l, D, E, b, ζ⟩ := ω
  obtain ⟨p, e, s, m, args, below, meth, c, Q, A⟩ := κ
  intro H locs la hP hX hA hS hl
  exact lv_ior X.1 X.2.1 hd (k H locs la hP hX hA hS hl)
theorem x_ixor {ω : XO} {rm : Room} {nL : Nat} {κ : XK} {cc : ByteArray} {own : String} (X : XC ω rm nL κ cc own) {L : List Nat} {q : Nat → Nat} {h : hp} {cells slots pc : Nat} {lv : List (Nat × Value)} {rest : List Value} {x y : Int32} (hd : decode cc pc = .ok (.ixor, 1)) (k : XG ω rm nL κ L q h cells slots (pc + 1) lv (.int (x ^^^ y) :: rest)) : XG ω rm nL κ L q h cells slots pc lv (.int y :: .int x :: rest) := by
  obtain ⟨l, D, E, b, ζ⟩ := ω
  obtain ⟨p, e, s, m, args, below, meth, c, Q, A⟩ := κ
  intro H locs la hP hX hA hS hl
  exact lv_ixor X.1 X.2.1 hd (k H locs la hP hX hA hS hl)
theorem x_ishl {ω : XO} {rm : Room} {nL : Nat} {κ : XK} {cc : ByteArray} {own : String} (X : XC ω rm nL κ cc own) {L : List Nat} {q : Nat → Nat} {h : hp} {cells slots pc : Nat} {lv : List (Nat × Value)} {rest : List Value} {x y : Int32} (hd : decode cc pc = .ok (.ishl, 1)) (k : XG ω rm nL κ L q h cells slots (pc + 1) lv (.int (x <<< (y &&& 31)) :: rest)) : XG ω rm nL κ L q h cells slots pc lv (.int y :: .int x :: rest) := by
  obtain ⟨l, D, E, b, ζ⟩ := ω
  obtain ⟨p, e, s, m, args, below, meth, c, Q, A⟩ := κ
  intro H locs la hP hX hA hS hl
  exact lv_ishl X.1 X.2.1 hd (k H locs la hP hX hA hS hl)
theorem x_ishr {ω : XO} {rm : Room} {nL : Nat} {κ : XK} {cc : ByteArray} {own : String} (X : XC ω rm nL κ cc own) {L : List Nat} {q : Nat → Nat} {h : hp} {cells slots pc : Nat} {lv : List (Nat × Value)} {rest : List Value} {x y : Int32} (hd : decode cc pc = .ok (.ishr, 1)) (k : XG ω rm nL κ L q h cells slots (pc + 1) lv (.int (x >>> (y &&& 31)) :: rest)) : XG ω rm nL κ L q h cells slots pc lv (.int y :: .int x :: rest) := by
  obtain ⟨l, D, E, b, ζ⟩ := ω
  obtain ⟨p, e, s, m, args, below, meth, c, Q, A⟩ := κ
  intro H locs la hP hX hA hS hl
  exact lv_ishr X.1 X.2.1 hd (k H locs la hP hX hA hS hl)
theorem x_idiv {ω : XO} {rm : Room} {nL : Nat} {κ : XK} {cc : ByteArray} {own : String} (X : XC ω rm nL κ cc own) {L : List Nat} {q : Nat → Nat} {h : hp} {cells slots pc : Nat} {lv : List (Nat × Value)} {rest : List Value} {x y : Int32} (hd : decode cc pc = .ok (.idiv, 1)) (hne : ¬ y = 0) (k : XG ω rm nL κ L q h cells slots (pc + 1) lv (.int (x / y) :: rest)) : XG ω rm nL κ L q h cells slots pc lv (.int y :: .int x :: rest) := by
  obtain ⟨l, D, E, b, ζ⟩ := ω
  obtain ⟨p, e, s, m, args, below, meth, c, Q, A⟩ := κ
  intro H locs la hP hX hA hS hl
  exact lv_idiv X.1 X.2.1 hd hne (k H locs la hP hX hA hS hl)
theorem x_irem {ω : XO} {rm : Room} {nL : Nat} {κ : XK} {cc : ByteArray} {own : String} (X : XC ω rm nL κ cc own) {L : List Nat} {q : Nat → Nat} {h : hp} {cells slots pc : Nat} {lv : List (Nat × Value)} {rest : List Value} {x y : Int32} (hd : decode cc pc = .ok (.irem, 1)) (hne : ¬ y = 0) (k : XG ω rm nL κ L q h cells slots (pc + 1) lv (.int (x - x / y * y) :: rest)) : XG ω rm nL κ L q h cells slots pc lv (.int y :: .int x :: rest) := by
  obtain ⟨l, D, E, b, ζ⟩ := ω
  obtain ⟨p, e, s, m, args, below, meth, c, Q, A⟩ := κ
  intro H locs la hP hX hA hS hl
  exact lv_irem X.1 X.2.1 hd hne (k H locs la hP hX hA hS hl)
theorem x_ineg {ω : XO} {rm : Room} {nL : Nat} {κ : XK} {cc : ByteArray} {own : String} (X : XC ω rm nL κ cc own) {L : List Nat} {q : Nat → Nat} {h : hp} {cells slots pc : Nat} {lv : List (Nat × Value)} {rest : List Value} {x : Int32} (hd : decode cc pc = .ok (.ineg, 1)) (k : XG ω rm nL κ L q h cells slots (pc + 1) lv (.int (-x) :: rest)) : XG ω rm nL κ L q h cells slots pc lv (.int x :: rest) := by
  obtain ⟨l, D, E, b, ζ⟩ := ω
  obtain ⟨p, e, s, m, args, below, meth, c, Q, A⟩ := κ
  intro H locs la hP hX hA hS hl
  exact lv_ineg X.1 X.2.1 hd (k H locs la hP hX hA hS hl)
theorem x_ladd {ω : XO} {rm : Room} {nL : Nat} {κ : XK} {cc : ByteArray} {own : String} (X : XC ω rm nL κ cc own) {L : List Nat} {q : Nat → Nat} {h : hp} {cells slots pc : Nat} {lv : List (Nat × Value)} {rest : List Value} {x y : Int64} (hd : decode cc pc = .ok (.ladd, 1)) (k : XG ω rm nL κ L q h cells slots (pc + 1) lv (.long (x + y) :: rest)) : XG ω rm nL κ L q h cells slots pc lv (.long y :: .long x :: rest) := by
  obtain ⟨l, D, E, b, ζ⟩ := ω
  obtain ⟨p, e, s, m, args, below, meth, c, Q, A⟩ := κ
  intro H locs la hP hX hA hS hl
  exact lv_ladd X.1 X.2.1 hd (k H locs la hP hX hA hS hl)
theorem x_lsub {ω : XO} {rm : Room} {nL : Nat} {κ : XK} {cc : ByteArray} {own : String} (X : XC ω rm nL κ cc own) {L : List Nat} {q : Nat → Nat} {h : hp} {cells slots pc : Nat} {lv : List (Nat × Value)} {rest : List Value} {x y : Int64} (hd : decode cc pc = .ok (.lsub, 1)) (k : XG ω rm nL κ L q h cells slots (pc + 1) lv (.long (x - y) :: rest)) : XG ω rm nL κ L q h cells slots pc lv (.long y :: .long x :: rest) := by
  obtain ⟨l, D, E, b, ζ⟩ := ω
  obtain ⟨p, e, s, m, args, below, meth, c, Q, A⟩ := κ
  intro H locs la hP hX hA hS hl
  exact lv_lsub X.1 X.2.1 hd (k H locs la hP hX hA hS hl)
theorem x_land {ω : XO} {rm : Room} {nL : Nat} {κ : XK} {cc : ByteArray} {own : String} (X : XC ω rm nL κ cc own) {L : List Nat} {q : Nat → Nat} {h : hp} {cells slots pc : Nat} {lv : List (Nat × Value)} {rest : List Value} {x y : Int64} (hd : decode cc pc = .ok (.land, 1)) (k : XG ω rm nL κ L q h cells slots (pc + 1) lv (.long (x &&& y) :: rest)) : XG ω rm nL κ L q h cells slots pc lv (.long y :: .long x :: rest) := by
  obtain ⟨l, D, E, b, ζ⟩ := ω
  obtain ⟨p, e, s, m, args, below, meth, c, Q, A⟩ := κ
  intro H locs la hP hX hA hS hl
  exact lv_land X.1 X.2.1 hd (k H locs la hP hX hA hS hl)
theorem x_lor {ω : XO} {rm : Room} {nL : Nat} {κ : XK} {cc : ByteArray} {own : String} (X : XC ω rm nL κ cc own) {L : List Nat} {q : Nat → Nat} {h : hp} {cells slots pc : Nat} {lv : List (Nat × Value)} {rest : List Value} {x y : Int64} (hd : decode cc pc = .ok (.lor, 1)) (k : XG ω rm nL κ L q h cells slots (pc + 1) lv (.long (x ||| y) :: rest)) : XG ω rm nL κ L q h cells slots pc lv (.long y :: .long x :: rest) := by
  obtain ⟨l, D, E, b, ζ⟩ := ω
  obtain ⟨p, e, s, m, args, below, meth, c, Q, A⟩ := κ
  intro H locs la hP hX hA hS hl
  exact lv_lor X.1 X.2.1 hd (k H locs la hP hX hA hS hl)
theorem x_lxor {ω : XO} {rm : Room} {nL : Nat} {κ : XK} {cc : ByteArray} {own : String} (X : XC ω rm nL κ cc own) {L : List Nat} {q : Nat → Nat} {h : hp} {cells slots pc : Nat} {lv : List (Nat × Value)} {rest : List Value} {x y : Int64} (hd : decode cc pc = .ok (.lxor, 1)) (k : XG ω rm nL κ L q h cells slots (pc + 1) lv (.long (x ^^^ y) :: rest)) : XG ω rm nL κ L q h cells slots pc lv (.long y :: .long x :: rest) := by
  obtain ⟨l, D, E, b, ζ⟩ := ω
  obtain ⟨p, e, s, m, args, below, meth, c, Q, A⟩ := κ
  intro H locs la hP hX hA hS hl
  exact lv_lxor X.1 X.2.1 hd (k H locs la hP hX hA hS hl)
theorem x_i2l {ω : XO} {rm : Room} {nL : Nat} {κ : XK} {cc : ByteArray} {own : String} (X : XC ω rm nL κ cc own) {L : List Nat} {q : Nat → Nat} {h : hp} {cells slots pc : Nat} {lv : List (Nat × Value)} {rest : List Value} {x : Int32} (hd : decode cc pc = .ok (.i2l, 1)) (k : XG ω rm nL κ L q h cells slots (pc + 1) lv (.long x.toInt64 :: rest)) : XG ω rm nL κ L q h cells slots pc lv (.int x :: rest) := by
  obtain ⟨l, D, E, b, ζ⟩ := ω
  obtain ⟨p, e, s, m, args, below, meth, c, Q, A⟩ := κ
  intro H locs la hP hX hA hS hl
  exact lv_i2l X.1 X.2.1 hd rfl (k H locs la hP hX hA hS hl)
theorem x_l2i {ω : XO} {rm : Room} {nL : Nat} {κ : XK} {cc : ByteArray} {own : String} (X : XC ω rm nL κ cc own) {L : List Nat} {q : Nat → Nat} {h : hp} {cells slots pc : Nat} {lv : List (Nat × Value)} {rest : List Value} {x : Int64} (hd : decode cc pc = .ok (.l2i, 1)) (k : XG ω rm nL κ L q h cells slots (pc + 1) lv (.int x.toInt32 :: rest)) : XG ω rm nL κ L q h cells slots pc lv (.long x :: rest) := by
  obtain ⟨l, D, E, b, ζ⟩ := ω
  obtain ⟨p, e, s, m, args, below, meth, c, Q, A⟩ := κ
  intro H locs la hP hX hA hS hl
  exact lv_l2i X.1 X.2.1 hd rfl (k H locs la hP hX hA hS hl)
theorem x_i2b {ω : XO} {rm : Room} {nL : Nat} {κ : XK} {cc : ByteArray} {own : String} (X : XC ω rm nL κ cc own) {L : List Nat} {q : Nat → Nat} {h : hp} {cells slots pc : Nat} {lv : List (Nat × Value)} {rest : List Value} {x : Int32} (hd : decode cc pc = .ok (.i2b, 1)) (k : XG ω rm nL κ L q h cells slots (pc + 1) lv (.int x.toInt8.toInt32 :: rest)) : XG ω rm nL κ L q h cells slots pc lv (.int x :: rest) := by
  obtain ⟨l, D, E, b, ζ⟩ := ω
  obtain ⟨p, e, s, m, args, below, meth, c, Q, A⟩ := κ
  intro H locs la hP hX hA hS hl
  exact lv_i2b X.1 X.2.1 hd rfl (k H locs la hP hX hA hS hl)
theorem x_i2s {ω : XO} {rm : Room} {nL : Nat} {κ : XK} {cc : ByteArray} {own : String} (X : XC ω rm nL κ cc own) {L : List Nat} {q : Nat → Nat} {h : hp} {cells slots pc : Nat} {lv : List (Nat × Value)} {rest : List Value} {x : Int32} (hd : decode cc pc = .ok (.i2s, 1)) (k : XG ω rm nL κ L q h cells slots (pc + 1) lv (.int x.toInt16.toInt32 :: rest)) : XG ω rm nL κ L q h cells slots pc lv (.int x :: rest) := by
  obtain ⟨l, D, E, b, ζ⟩ := ω
  obtain ⟨p, e, s, m, args, below, meth, c, Q, A⟩ := κ
  intro H locs la hP hX hA hS hl
  exact lv_i2s X.1 X.2.1 hd rfl (k H locs la hP hX hA hS hl)
theorem x_i2c {ω : XO} {rm : Room} {nL : Nat} {κ : XK} {cc : ByteArray} {own : String} (X : XC ω rm nL κ cc own) {L : List Nat} {q : Nat → Nat} {h : hp} {cells slots pc : Nat} {lv : List (Nat × Value)} {rest : List Value} {x : Int32} (hd : decode cc pc = .ok (.i2c, 1)) (k : XG ω rm nL κ L q h cells slots (pc + 1) lv (.int (x.toUInt32 % 65536).toInt32 :: rest)) : XG ω rm nL κ L q h cells slots pc lv (.int x :: rest) := by
  obtain ⟨l, D, E, b, ζ⟩ := ω
  obtain ⟨p, e, s, m, args, below, meth, c, Q, A⟩ := κ
  intro H locs la hP hX hA hS hl
  exact lv_i2c X.1 X.2.1 hd rfl (k H locs la hP hX hA hS hl)
theorem x_iushr {ω : XO} {rm : Room} {nL : Nat} {κ : XK} {cc : ByteArray} {own : String} (X : XC ω rm nL κ cc own) {L : List Nat} {q : Nat → Nat} {h : hp} {cells slots pc : Nat} {lv : List (Nat × Value)} {rest : List Value} {x y : Int32} (hd : decode cc pc = .ok (.iushr, 1)) (k : XG ω rm nL κ L q h cells slots (pc + 1) lv (.int (x.toUInt32 >>> (y.toUInt32 &&& Int32.toUInt32 31)).toInt32 :: rest)) : XG ω rm nL κ L q h cells slots pc lv (.int y :: .int x :: rest) := by
  obtain ⟨l, D, E, b, ζ⟩ := ω
  obtain ⟨p, e, s, m, args, below, meth, c, Q, A⟩ := κ
  intro H locs la hP hX hA hS hl
  exact lv_iushr X.1 X.2.1 hd rfl (k H locs la hP hX hA hS hl)
theorem x_lushr {ω : XO} {rm : Room} {nL : Nat} {κ : XK} {cc : ByteArray} {own : String} (X : XC ω rm nL κ cc own) {L : List Nat} {q : Nat → Nat} {h : hp} {cells slots pc : Nat} {lv : List (Nat × Value)} {rest : List Value} {x : Int64} {y : Int32} (hd : decode cc pc = .ok (.lushr, 1)) (k : XG ω rm nL κ L q h cells slots (pc + 1) lv (.long (x.toUInt64 >>> (y.toInt64.toUInt64 &&& Int64.toUInt64 63)).toInt64 :: rest)) : XG ω rm nL κ L q h cells slots pc lv (.int y :: .long x :: rest) := by
  obtain ⟨l, D, E, b, ζ⟩ := ω
  obtain ⟨p, e, s, m, args, below, meth, c, Q, A⟩ := κ
  intro H locs la hP hX hA hS hl
  exact lv_lushr X.1 X.2.1 hd rfl (k H locs la hP hX hA hS hl)
theorem x_lshl {ω : XO} {rm : Room} {nL : Nat} {κ : XK} {cc : ByteArray} {own : String} (X : XC ω rm nL κ cc own) {L : List Nat} {q : Nat → Nat} {h : hp} {cells slots pc : Nat} {lv : List (Nat × Value)} {rest : List Value} {x : Int64} {y : Int32} (hd : decode cc pc = .ok (.lshl, 1)) (k : XG ω rm nL κ L q h cells slots (pc + 1) lv (.long (x <<< (y.toInt64 &&& 63)) :: rest)) : XG ω rm nL κ L q h cells slots pc lv (.int y :: .long x :: rest) := by
  obtain ⟨l, D, E, b, ζ⟩ := ω
  obtain ⟨p, e, s, m, args, below, meth, c, Q, A⟩ := κ
  intro H locs la hP hX hA hS hl
  exact lv_lshl X.1 X.2.1 hd rfl (k H locs la hP hX hA hS hl)
theorem x_lshr {ω : XO} {rm : Room} {nL : Nat} {κ : XK} {cc : ByteArray} {own : String} (X : XC ω rm nL κ cc own) {L : List Nat} {q : Nat → Nat} {h : hp} {cells slots pc : Nat} {lv : List (Nat × Value)} {rest : List Value} {x : Int64} {y : Int32} (hd : decode cc pc = .ok (.lshr, 1)) (k : XG ω rm nL κ L q h cells slots (pc + 1) lv (.long (x >>> (y.toInt64 &&& 63)) :: rest)) : XG ω rm nL κ L q h cells slots pc lv (.int y :: .long x :: rest) := by
  obtain ⟨l, D, E, b, ζ⟩ := ω
  obtain ⟨p, e, s, m, args, below, meth, c, Q, A⟩ := κ
  intro H locs la hP hX hA hS hl
  exact lv_lshr X.1 X.2.1 hd rfl (k H locs la hP hX hA hS hl)
theorem x_lcmp {ω : XO} {rm : Room} {nL : Nat} {κ : XK} {cc : ByteArray} {own : String} (X : XC ω rm nL κ cc own) {L : List Nat} {q : Nat → Nat} {h : hp} {cells slots pc : Nat} {lv : List (Nat × Value)} {rest : List Value} {x y : Int64} (hd : decode cc pc = .ok (.lcmp, 1)) (k : XG ω rm nL κ L q h cells slots (pc + 1) lv (.int (lg_cmp x y) :: rest)) : XG ω rm nL κ L q h cells slots pc lv (.long y :: .long x :: rest) := by
  obtain ⟨l, D, E, b, ζ⟩ := ω
  obtain ⟨p, e, s, m, args, below, meth, c, Q, A⟩ := κ
  intro H locs la hP hX hA hS hl
  exact W.lcmp X.1 X.2.1 hd (k H locs la hP hX hA hS hl)
theorem x_dup {ω : XO} {rm : Room} {nL : Nat} {κ : XK} {cc : ByteArray} {own : String} (X : XC ω rm nL κ cc own) {L : List Nat} {q : Nat → Nat} {h : hp} {cells slots pc : Nat} {lv : List (Nat × Value)} {rest : List Value} {va : Value} (hd : decode cc pc = .ok (.dup, 1)) (hva : va.category = 1 := by rfl) (k : XG ω rm nL κ L q h cells slots (pc + 1) lv (va :: va :: rest)) : XG ω rm nL κ L q h cells slots pc lv (va :: rest) := by
  obtain ⟨l, D, E, b, ζ⟩ := ω
  obtain ⟨p, e, s, m, args, below, meth, c, Q, A⟩ := κ
  intro H locs la hP hX hA hS hl
  exact lv_dup X.1 X.2.1 hd hva (k H locs la hP hX hA hS hl)
theorem x_pop {ω : XO} {rm : Room} {nL : Nat} {κ : XK} {cc : ByteArray} {own : String} (X : XC ω rm nL κ cc own) {L : List Nat} {q : Nat → Nat} {h : hp} {cells slots pc : Nat} {lv : List (Nat × Value)} {rest : List Value} {va : Value} (hd : decode cc pc = .ok (.pop, 1)) (hva : va.category = 1 := by rfl) (k : XG ω rm nL κ L q h cells slots (pc + 1) lv (rest)) : XG ω rm nL κ L q h cells slots pc lv (va :: rest) := by
  obtain ⟨l, D, E, b, ζ⟩ := ω
  obtain ⟨p, e, s, m, args, below, meth, c, Q, A⟩ := κ
  intro H locs la hP hX hA hS hl
  exact lv_pop X.1 X.2.1 hd hva (k H locs la hP hX hA hS hl)
theorem x_dup_x1 {ω : XO} {rm : Room} {nL : Nat} {κ : XK} {cc : ByteArray} {own : String} (X : XC ω rm nL κ cc own) {L : List Nat} {q : Nat → Nat} {h : hp} {cells slots pc : Nat} {lv : List (Nat × Value)} {rest : List Value} {va vb : Value} (hd : decode cc pc = .ok (.dup_x1, 1)) (hva : va.category = 1 := by rfl) (hvb : vb.category = 1 := by rfl) (k : XG ω rm nL κ L q h cells slots (pc + 1) lv (va :: vb :: va :: rest)) : XG ω rm nL κ L q h cells slots pc lv (va :: vb :: rest) := by
  obtain ⟨l, D, E, b, ζ⟩ := ω
  obtain ⟨p, e, s, m, args, below, meth, c, Q, A⟩ := κ
  intro H locs la hP hX hA hS hl
  exact lv_dup_x1 X.1 X.2.1 hd hva hvb (k H locs la hP hX hA hS hl)
theorem x_dup_x2 {ω : XO} {rm : Room} {nL : Nat} {κ : XK} {cc : ByteArray} {own : String} (X : XC ω rm nL κ cc own) {L : List Nat} {q : Nat → Nat} {h : hp} {cells slots pc : Nat} {lv : List (Nat × Value)} {rest : List Value} {va vb vd : Value} (hd : decode cc pc = .ok (.dup_x2, 1)) (hva : va.category = 1 := by rfl) (hvb : vb.category = 1 := by rfl) (hvd : vd.category = 1 := by rfl) (k : XG ω rm nL κ L q h cells slots (pc + 1) lv (va :: vb :: vd :: va :: rest)) : XG ω rm nL κ L q h cells slots pc lv (va :: vb :: vd :: rest) := by
  obtain ⟨l, D, E, b, ζ⟩ := ω
  obtain ⟨p, e, s, m, args, below, meth, c, Q, A⟩ := κ
  intro H locs la hP hX hA hS hl
  exact lv_dup_x2 X.1 X.2.1 hd hva hvb hvd (k H locs la hP hX hA hS hl)
theorem x_dup2 {ω : XO} {rm : Room} {nL : Nat} {κ : XK} {cc : ByteArray} {own : String} (X : XC ω rm nL κ cc own) {L : List Nat} {q : Nat → Nat} {h : hp} {cells slots pc : Nat} {lv : List (Nat × Value)} {rest : List Value} {va vb : Value} (hd : decode cc pc = .ok (.dup2, 1)) (hva : va.category = 1 := by rfl) (hvb : vb.category = 1 := by rfl) (k : XG ω rm nL κ L q h cells slots (pc + 1) lv (va :: vb :: va :: vb :: rest)) : XG ω rm nL κ L q h cells slots pc lv (va :: vb :: rest) := by
  obtain ⟨l, D, E, b, ζ⟩ := ω
  obtain ⟨p, e, s, m, args, below, meth, c, Q, A⟩ := κ
  intro H locs la hP hX hA hS hl
  exact lv_dup2_11 X.1 X.2.1 hd hva hvb (k H locs la hP hX hA hS hl)
theorem x_null {ω : XO} {rm : Room} {nL : Nat} {κ : XK} {cc : ByteArray} {own : String} (X : XC ω rm nL κ cc own) {L : List Nat} {q : Nat → Nat} {h : hp} {cells slots pc : Nat} {lv : List (Nat × Value)} {rest : List Value}  (hd : decode cc pc = .ok (.aconst_null, 1)) (k : XG ω rm nL κ L q h cells slots (pc + 1) lv (.null :: rest)) : XG ω rm nL κ L q h cells slots pc lv (rest) := by
  obtain ⟨l, D, E, b, ζ⟩ := ω
  obtain ⟨p, e, s, m, args, below, meth, c, Q, A⟩ := κ
  intro H locs la hP hX hA hS hl
  exact lv_null X.1 X.2.1 hd (k H locs la hP hX hA hS hl)
theorem x_iload_n {ω : XO} {rm : Room} {nL : Nat} {κ : XK} {cc : ByteArray} {own : String} (X : XC ω rm nL κ cc own) {L : List Nat} {q : Nat → Nat} {h : hp} {cells slots pc : Nat} {lv : List (Nat × Value)} {rest : List Value} {n : Fin 4} {i : Nat} {x : Int32} (hd : decode cc pc = .ok (.iload_n n, 1)) (j : Nat) (hj : lv[j]? = some (i, .int x)) (hi : (n : Nat) = i) (k : XG ω rm nL κ L q h cells slots (pc + 1) lv (.int x :: rest)) : XG ω rm nL κ L q h cells slots pc lv (rest) := by
  obtain ⟨l, D, E, b, ζ⟩ := ω
  obtain ⟨p, e, s, m, args, below, meth, c, Q, A⟩ := κ
  intro H locs la hP hX hA hS hl
  exact lv_iload_n X.1 X.2.1 hd hi (lv_at hl j hj) (k H locs la hP hX hA hS hl)
theorem x_iload {ω : XO} {rm : Room} {nL : Nat} {κ : XK} {cc : ByteArray} {own : String} (X : XC ω rm nL κ cc own) {L : List Nat} {q : Nat → Nat} {h : hp} {cells slots pc : Nat} {lv : List (Nat × Value)} {rest : List Value} {i : Nat} {x : Int32} (hd : decode cc pc = .ok (.iload i, 2)) (j : Nat) (hj : lv[j]? = some (i, .int x)) (k : XG ω rm nL κ L q h cells slots (pc + 2) lv (.int x :: rest)) : XG ω rm nL κ L q h cells slots pc lv (rest) := by
  obtain ⟨l, D, E, b, ζ⟩ := ω
  obtain ⟨p, e, s, m, args, below, meth, c, Q, A⟩ := κ
  intro H locs la hP hX hA hS hl
  exact lv_iload X.1 X.2.1 hd (lv_at hl j hj) (k H locs la hP hX hA hS hl)
theorem x_istore_n {ω : XO} {rm : Room} {nL : Nat} {κ : XK} {cc : ByteArray} {own : String} (X : XC ω rm nL κ cc own) {L : List Nat} {q : Nat → Nat} {h : hp} {cells slots pc : Nat} {lv : List (Nat × Value)} {rest : List Value} {n : Fin 4} {i : Nat} {x : Int32} (lv' : List (Nat × Value)) (hd : decode cc pc = .ok (.istore_n n, 1)) (hi : (n : Nat) = i) (hn : i < nL) (hv : (i, Value.int x) :: lv.filter (fun q => !(q.1 == i) && !(q.1 + 1 == i && q.2.category == 2)) = lv') (k : XG ω rm nL κ L q h cells slots (pc + 1) lv' (rest)) : XG ω rm nL κ L q h cells slots pc lv (.int x :: rest) := by
  obtain ⟨l, D, E, b, ζ⟩ := ω
  obtain ⟨p, e, s, m, args, below, meth, c, Q, A⟩ := κ
  intro H locs la hP hX hA hS hl
  exact lv_istore_n X.1 X.2.1 hd hi hl hn hv (fun la2 hl2 => k H locs la2 hP hX hA hS hl2)
theorem x_istore {ω : XO} {rm : Room} {nL : Nat} {κ : XK} {cc : ByteArray} {own : String} (X : XC ω rm nL κ cc own) {L : List Nat} {q : Nat → Nat} {h : hp} {cells slots pc : Nat} {lv : List (Nat × Value)} {rest : List Value} {i : Nat} {x : Int32} (lv' : List (Nat × Value)) (hd : decode cc pc = .ok (.istore i, 2)) (hn : i < nL) (hv : (i, Value.int x) :: lv.filter (fun q => !(q.1 == i) && !(q.1 + 1 == i && q.2.category == 2)) = lv') (k : XG ω rm nL κ L q h cells slots (pc + 2) lv' (rest)) : XG ω rm nL κ L q h cells slots pc lv (.int x :: rest) := by
  obtain ⟨l, D, E, b, ζ⟩ := ω
  obtain ⟨p, e, s, m, args, below, meth, c, Q, A⟩ := κ
  intro H locs la hP hX hA hS hl
  exact lv_istore X.1 X.2.1 hd hl hn hv (fun la2 hl2 => k H locs la2 hP hX hA hS hl2)
theorem x_lload_n {ω : XO} {rm : Room} {nL : Nat} {κ : XK} {cc : ByteArray} {own : String} (X : XC ω rm nL κ cc own) {L : List Nat} {q : Nat → Nat} {h : hp} {cells slots pc : Nat} {lv : List (Nat × Value)} {rest : List Value} {n : Fin 4} {i : Nat} {x : Int64} (hd : decode cc pc = .ok (.lload_n n, 1)) (j : Nat) (hj : lv[j]? = some (i, .long x)) (hi : (n : Nat) = i) (k : XG ω rm nL κ L q h cells slots (pc + 1) lv (.long x :: rest)) : XG ω rm nL κ L q h cells slots pc lv (rest) := by
  obtain ⟨l, D, E, b, ζ⟩ := ω
  obtain ⟨p, e, s, m, args, below, meth, c, Q, A⟩ := κ
  intro H locs la hP hX hA hS hl
  exact lv_lload_n X.1 X.2.1 hd hi (lv_at hl j hj) (k H locs la hP hX hA hS hl)
theorem x_lload {ω : XO} {rm : Room} {nL : Nat} {κ : XK} {cc : ByteArray} {own : String} (X : XC ω rm nL κ cc own) {L : List Nat} {q : Nat → Nat} {h : hp} {cells slots pc : Nat} {lv : List (Nat × Value)} {rest : List Value} {i : Nat} {x : Int64} (hd : decode cc pc = .ok (.lload i, 2)) (j : Nat) (hj : lv[j]? = some (i, .long x)) (k : XG ω rm nL κ L q h cells slots (pc + 2) lv (.long x :: rest)) : XG ω rm nL κ L q h cells slots pc lv (rest) := by
  obtain ⟨l, D, E, b, ζ⟩ := ω
  obtain ⟨p, e, s, m, args, below, meth, c, Q, A⟩ := κ
  intro H locs la hP hX hA hS hl
  exact lv_lload X.1 X.2.1 hd (lv_at hl j hj) (k H locs la hP hX hA hS hl)
theorem x_lstore_n {ω : XO} {rm : Room} {nL : Nat} {κ : XK} {cc : ByteArray} {own : String} (X : XC ω rm nL κ cc own) {L : List Nat} {q : Nat → Nat} {h : hp} {cells slots pc : Nat} {lv : List (Nat × Value)} {rest : List Value} {n : Fin 4} {i : Nat} {x : Int64} (lv' : List (Nat × Value)) (hd : decode cc pc = .ok (.lstore_n n, 1)) (hi : (n : Nat) = i) (hn : i + 1 < nL) (hv : (i, Value.long x) :: lv.filter (fun q => !(q.1 == i) && (!(q.1 == i + 1) && !(q.1 + 1 == i && q.2.category == 2))) = lv') (k : XG ω rm nL κ L q h cells slots (pc + 1) lv' (rest)) : XG ω rm nL κ L q h cells slots pc lv (.long x :: rest) := by
  obtain ⟨l, D, E, b, ζ⟩ := ω
  obtain ⟨p, e, s, m, args, below, meth, c, Q, A⟩ := κ
  intro H locs la hP hX hA hS hl
  exact lv_lstore_n X.1 X.2.1 hd hi hl hn hv (fun la2 hl2 => k H locs la2 hP hX hA hS hl2)
theorem x_lstore {ω : XO} {rm : Room} {nL : Nat} {κ : XK} {cc : ByteArray} {own : String} (X : XC ω rm nL κ cc own) {L : List Nat} {q : Nat → Nat} {h : hp} {cells slots pc : Nat} {lv : List (Nat × Value)} {rest : List Value} {i : Nat} {x : Int64} (lv' : List (Nat × Value)) (hd : decode cc pc = .ok (.lstore i, 2)) (hn : i + 1 < nL) (hv : (i, Value.long x) :: lv.filter (fun q => !(q.1 == i) && (!(q.1 == i + 1) && !(q.1 + 1 == i && q.2.category == 2))) = lv') (k : XG ω rm nL κ L q h cells slots (pc + 2) lv' (rest)) : XG ω rm nL κ L q h cells slots pc lv (.long x :: rest) := by
  obtain ⟨l, D, E, b, ζ⟩ := ω
  obtain ⟨p, e, s, m, args, below, meth, c, Q, A⟩ := κ
  intro H locs la hP hX hA hS hl
  exact lv_lstore X.1 X.2.1 hd hl hn hv (fun la2 hl2 => k H locs la2 hP hX hA hS hl2)
theorem x_aload_n {ω : XO} {rm : Room} {nL : Nat} {κ : XK} {cc : ByteArray} {own : String} (X : XC ω rm nL κ cc own) {L : List Nat} {q : Nat → Nat} {h : hp} {cells slots pc : Nat} {lv : List (Nat × Value)} {rest : List Value} {n : Fin 4} {i : Nat} {x : Nat} (hd : decode cc pc = .ok (.aload_n n, 1)) (j : Nat) (hj : lv[j]? = some (i, .ref x)) (hi : (n : Nat) = i) (k : XG ω rm nL κ L q h cells slots (pc + 1) lv (.ref x :: rest)) : XG ω rm nL κ L q h cells slots pc lv (rest) := by
  obtain ⟨l, D, E, b, ζ⟩ := ω
  obtain ⟨p, e, s, m, args, below, meth, c, Q, A⟩ := κ
  intro H locs la hP hX hA hS hl
  exact lv_aload_n X.1 X.2.1 hd hi (lv_at hl j hj) (k H locs la hP hX hA hS hl)
theorem x_aload {ω : XO} {rm : Room} {nL : Nat} {κ : XK} {cc : ByteArray} {own : String} (X : XC ω rm nL κ cc own) {L : List Nat} {q : Nat → Nat} {h : hp} {cells slots pc : Nat} {lv : List (Nat × Value)} {rest : List Value} {i : Nat} {x : Nat} (hd : decode cc pc = .ok (.aload i, 2)) (j : Nat) (hj : lv[j]? = some (i, .ref x)) (k : XG ω rm nL κ L q h cells slots (pc + 2) lv (.ref x :: rest)) : XG ω rm nL κ L q h cells slots pc lv (rest) := by
  obtain ⟨l, D, E, b, ζ⟩ := ω
  obtain ⟨p, e, s, m, args, below, meth, c, Q, A⟩ := κ
  intro H locs la hP hX hA hS hl
  exact lv_aload X.1 X.2.1 hd (lv_at hl j hj) (k H locs la hP hX hA hS hl)
theorem x_astore_n {ω : XO} {rm : Room} {nL : Nat} {κ : XK} {cc : ByteArray} {own : String} (X : XC ω rm nL κ cc own) {L : List Nat} {q : Nat → Nat} {h : hp} {cells slots pc : Nat} {lv : List (Nat × Value)} {rest : List Value} {n : Fin 4} {i : Nat} {x : Nat} (lv' : List (Nat × Value)) (hd : decode cc pc = .ok (.astore_n n, 1)) (hi : (n : Nat) = i) (hn : i < nL) (hv : (i, Value.ref x) :: lv.filter (fun q => !(q.1 == i) && !(q.1 + 1 == i && q.2.category == 2)) = lv') (k : XG ω rm nL κ L q h cells slots (pc + 1) lv' (rest)) : XG ω rm nL κ L q h cells slots pc lv (.ref x :: rest) := by
  obtain ⟨l, D, E, b, ζ⟩ := ω
  obtain ⟨p, e, s, m, args, below, meth, c, Q, A⟩ := κ
  intro H locs la hP hX hA hS hl
  exact lv_astore_n X.1 X.2.1 hd hi hl hn hv (fun la2 hl2 => k H locs la2 hP hX hA hS hl2)
theorem x_astore {ω : XO} {rm : Room} {nL : Nat} {κ : XK} {cc : ByteArray} {own : String} (X : XC ω rm nL κ cc own) {L : List Nat} {q : Nat → Nat} {h : hp} {cells slots pc : Nat} {lv : List (Nat × Value)} {rest : List Value} {i : Nat} {x : Nat} (lv' : List (Nat × Value)) (hd : decode cc pc = .ok (.astore i, 2)) (hn : i < nL) (hv : (i, Value.ref x) :: lv.filter (fun q => !(q.1 == i) && !(q.1 + 1 == i && q.2.category == 2)) = lv') (k : XG ω rm nL κ L q h cells slots (pc + 2) lv' (rest)) : XG ω rm nL κ L q h cells slots pc lv (.ref x :: rest) := by
  obtain ⟨l, D, E, b, ζ⟩ := ω
  obtain ⟨p, e, s, m, args, below, meth, c, Q, A⟩ := κ
  intro H locs la hP hX hA hS hl
  exact lv_astore X.1 X.2.1 hd hl hn hv (fun la2 hl2 => k H locs la2 hP hX hA hS hl2)
theorem x_iinc {ω : XO} {rm : Room} {nL : Nat} {κ : XK} {cc : ByteArray} {own : String} (X : XC ω rm nL κ cc own) {L : List Nat} {q : Nat → Nat} {h : hp} {cells slots pc : Nat} {lv : List (Nat × Value)} {rest : List Value} {i : Nat} {n : Int} {x : Int32} (v : Int32) (lv' : List (Nat × Value)) (hd : decode cc pc = .ok (.iinc i n, 3)) (j : Nat) (hj : lv[j]? = some (i, .int x)) (hv : Int32.ofInt n = v) (hn : i < nL) (hw : (i, Value.int (x + v)) :: lv.filter (fun q => !(q.1 == i) && !(q.1 + 1 == i && q.2.category == 2)) = lv') (k : XG ω rm nL κ L q h cells slots (pc + 3) lv' (rest)) : XG ω rm nL κ L q h cells slots pc lv (rest) := by
  obtain ⟨l, D, E, b, ζ⟩ := ω
  obtain ⟨p, e, s, m, args, below, meth, c, Q, A⟩ := κ
  intro H locs la hP hX hA hS hl
  exact lv_iinc X.1 X.2.1 hd hl hj (by rw [hv]) hn hw (fun la2 hl2 => k H locs la2 hP hX hA hS hl2)
theorem x_lv {ω : XO} {rm : Room} {nL : Nat} {κ : XK} {L : List Nat} {q : Nat → Nat} {h : hp} {cells slots pc : Nat} {lv lv' : List (Nat × Value)} {st : List Value} (ks : List Nat) (hl2 : lv_pick lv ks = lv') (k : XG ω rm nL κ L q h cells slots pc lv' st) : XG ω rm nL κ L q h cells slots pc lv st := by
  obtain ⟨l, D, E, b, ζ⟩ := ω
  obtain ⟨p, e, s, m, args, below, meth, c, Q, A⟩ := κ
  intro H locs la hP hX hA hS hl
  exact k H locs la hP hX hA hS (lv_sub hl ks hl2)
theorem x_goto {ω : XO} {rm : Room} {nL : Nat} {κ : XK} {cc : ByteArray} {own : String} (X : XC ω rm nL κ cc own) {L : List Nat} {q : Nat → Nat} {h : hp} {cells slots pc : Nat} {lv : List (Nat × Value)} {st : List Value} {off : Int} (tgt : Nat) (hd : decode cc pc = .ok (.goto off, 3)) (ht : (pc : Int) + off = (tgt : Int)) (k : XG ω rm nL κ L q h cells slots tgt lv st) : XG ω rm nL κ L q h cells slots pc lv st := by
  obtain ⟨l, D, E, b, ζ⟩ := ω
  obtain ⟨p, e, s, m, args, below, meth, c, Q, A⟩ := κ
  intro H locs la hP hX hA hS hl
  exact lv_goto X.1 X.2.1 hd ht (k H locs la hP hX hA hS hl)
theorem x_if_eq {ω : XO} {rm : Room} {nL : Nat} {κ : XK} {cc : ByteArray} {own : String} (X : XC ω rm nL κ cc own) {L : List Nat} {q : Nat → Nat} {h : hp} {cells slots pc : Nat} {lv : List (Nat × Value)} {rest : List Value} {x : Int32} {off : Int} (tgt : Nat) (hd : decode cc pc = .ok (.ifCond .eq off, 3)) (ht : (pc : Int) + off = (tgt : Int)) (kp : x = 0 → XG ω rm nL κ L q h cells slots tgt lv (rest)) (kn : ¬ (x = 0) → XG ω rm nL κ L q h cells slots (pc + 3) lv (rest)) : XG ω rm nL κ L q h cells slots pc lv (.int x :: rest) := by
  obtain ⟨l, D, E, b, ζ⟩ := ω
  obtain ⟨p, e, s, m, args, below, meth, c, Q, A⟩ := κ
  intro H locs la hP hX hA hS hl
  exact lv_if_eq X.1 X.2.1 hd ht (fun z => kp (z) H locs la hP hX hA hS hl) (fun z => kn (z) H locs la hP hX hA hS hl)
theorem x_if_ne {ω : XO} {rm : Room} {nL : Nat} {κ : XK} {cc : ByteArray} {own : String} (X : XC ω rm nL κ cc own) {L : List Nat} {q : Nat → Nat} {h : hp} {cells slots pc : Nat} {lv : List (Nat × Value)} {rest : List Value} {x : Int32} {off : Int} (tgt : Nat) (hd : decode cc pc = .ok (.ifCond .ne off, 3)) (ht : (pc : Int) + off = (tgt : Int)) (kp : x = 0 → XG ω rm nL κ L q h cells slots (pc + 3) lv (rest)) (kn : ¬ (x = 0) → XG ω rm nL κ L q h cells slots tgt lv (rest)) : XG ω rm nL κ L q h cells slots pc lv (.int x :: rest) := by
  obtain ⟨l, D, E, b, ζ⟩ := ω
  obtain ⟨p, e, s, m, args, below, meth, c, Q, A⟩ := κ
  intro H locs la hP hX hA hS hl
  exact lv_if_ne X.1 X.2.1 hd ht (fun z => kn (z) H locs la hP hX hA hS hl) (fun z => kp (z) H locs la hP hX hA hS hl)
theorem x_if_lt {ω : XO} {rm : Room} {nL : Nat} {κ : XK} {cc : ByteArray} {own : String} (X : XC ω rm nL κ cc own) {L : List Nat} {q : Nat → Nat} {h : hp} {cells slots pc : Nat} {lv : List (Nat × Value)} {rest : List Value} {x : Int32} {off : Int} (tgt : Nat) (hd : decode cc pc = .ok (.ifCond .lt off, 3)) (ht : (pc : Int) + off = (tgt : Int)) (kp : x < 0 → XG ω rm nL κ L q h cells slots tgt lv (rest)) (kn : ¬ (x < 0) → XG ω rm nL κ L q h cells slots (pc + 3) lv (rest)) : XG ω rm nL κ L q h cells slots pc lv (.int x :: rest) := by
  obtain ⟨l, D, E, b, ζ⟩ := ω
  obtain ⟨p, e, s, m, args, below, meth, c, Q, A⟩ := κ
  intro H locs la hP hX hA hS hl
  exact lv_if_lt X.1 X.2.1 hd ht (fun z => kp (z) H locs la hP hX hA hS hl) (fun z => kn (z) H locs la hP hX hA hS hl)
theorem x_if_ge {ω : XO} {rm : Room} {nL : Nat} {κ : XK} {cc : ByteArray} {own : String} (X : XC ω rm nL κ cc own) {L : List Nat} {q : Nat → Nat} {h : hp} {cells slots pc : Nat} {lv : List (Nat × Value)} {rest : List Value} {x : Int32} {off : Int} (tgt : Nat) (hd : decode cc pc = .ok (.ifCond .ge off, 3)) (ht : (pc : Int) + off = (tgt : Int)) (kp : x < 0 → XG ω rm nL κ L q h cells slots (pc + 3) lv (rest)) (kn : ¬ (x < 0) → XG ω rm nL κ L q h cells slots tgt lv (rest)) : XG ω rm nL κ L q h cells slots pc lv (.int x :: rest) := by
  obtain ⟨l, D, E, b, ζ⟩ := ω
  obtain ⟨p, e, s, m, args, below, meth, c, Q, A⟩ := κ
  intro H locs la hP hX hA hS hl
  exact lv_if_ge X.1 X.2.1 hd ht (fun z => kn (Int32.not_lt.mpr z) H locs la hP hX hA hS hl) (fun z => kp (Int32.not_le.mp z) H locs la hP hX hA hS hl)
theorem x_if_gt {ω : XO} {rm : Room} {nL : Nat} {κ : XK} {cc : ByteArray} {own : String} (X : XC ω rm nL κ cc own) {L : List Nat} {q : Nat → Nat} {h : hp} {cells slots pc : Nat} {lv : List (Nat × Value)} {rest : List Value} {x : Int32} {off : Int} (tgt : Nat) (hd : decode cc pc = .ok (.ifCond .gt off, 3)) (ht : (pc : Int) + off = (tgt : Int)) (kp : 0 < x → XG ω rm nL κ L q h cells slots tgt lv (rest)) (kn : ¬ (0 < x) → XG ω rm nL κ L q h cells slots (pc + 3) lv (rest)) : XG ω rm nL κ L q h cells slots pc lv (.int x :: rest) := by
  obtain ⟨l, D, E, b, ζ⟩ := ω
  obtain ⟨p, e, s, m, args, below, meth, c, Q, A⟩ := κ
  intro H locs la hP hX hA hS hl
  exact lv_if_gt X.1 X.2.1 hd ht (fun z => kp (z) H locs la hP hX hA hS hl) (fun z => kn (z) H locs la hP hX hA hS hl)
theorem x_if_le {ω : XO} {rm : Room} {nL : Nat} {κ : XK} {cc : ByteArray} {own : String} (X : XC ω rm nL κ cc own) {L : List Nat} {q : Nat → Nat} {h : hp} {cells slots pc : Nat} {lv : List (Nat × Value)} {rest : List Value} {x : Int32} {off : Int} (tgt : Nat) (hd : decode cc pc = .ok (.ifCond .le off, 3)) (ht : (pc : Int) + off = (tgt : Int)) (kp : 0 < x → XG ω rm nL κ L q h cells slots (pc + 3) lv (rest)) (kn : ¬ (0 < x) → XG ω rm nL κ L q h cells slots tgt lv (rest)) : XG ω rm nL κ L q h cells slots pc lv (.int x :: rest) := by
  obtain ⟨l, D, E, b, ζ⟩ := ω
  obtain ⟨p, e, s, m, args, below, meth, c, Q, A⟩ := κ
  intro H locs la hP hX hA hS hl
  exact lv_if_le X.1 X.2.1 hd ht (fun z => kn (Int32.not_lt.mpr z) H locs la hP hX hA hS hl) (fun z => kp (Int32.not_le.mp z) H locs la hP hX hA hS hl)
theorem x_icmp_eq {ω : XO} {rm : Room} {nL : Nat} {κ : XK} {cc : ByteArray} {own : String} (X : XC ω rm nL κ cc own) {L : List Nat} {q : Nat → Nat} {h : hp} {cells slots pc : Nat} {lv : List (Nat × Value)} {rest : List Value} {x y : Int32} {off : Int} (tgt : Nat) (hd : decode cc pc = .ok (.if_icmp .eq off, 3)) (ht : (pc : Int) + off = (tgt : Int)) (kp : x = y → XG ω rm nL κ L q h cells slots tgt lv (rest)) (kn : ¬ (x = y) → XG ω rm nL κ L q h cells slots (pc + 3) lv (rest)) : XG ω rm nL κ L q h cells slots pc lv (.int y :: .int x :: rest) := by
  obtain ⟨l, D, E, b, ζ⟩ := ω
  obtain ⟨p, e, s, m, args, below, meth, c, Q, A⟩ := κ
  intro H locs la hP hX hA hS hl
  exact lv_icmp_eq X.1 X.2.1 hd ht (fun z => kp (z) H locs la hP hX hA hS hl) (fun z => kn (z) H locs la hP hX hA hS hl)
theorem x_icmp_ne {ω : XO} {rm : Room} {nL : Nat} {κ : XK} {cc : ByteArray} {own : String} (X : XC ω rm nL κ cc own) {L : List Nat} {q : Nat → Nat} {h : hp} {cells slots pc : Nat} {lv : List (Nat × Value)} {rest : List Value} {x y : Int32} {off : Int} (tgt : Nat) (hd : decode cc pc = .ok (.if_icmp .ne off, 3)) (ht : (pc : Int) + off = (tgt : Int)) (kp : x = y → XG ω rm nL κ L q h cells slots (pc + 3) lv (rest)) (kn : ¬ (x = y) → XG ω rm nL κ L q h cells slots tgt lv (rest)) : XG ω rm nL κ L q h cells slots pc lv (.int y :: .int x :: rest) := by
  obtain ⟨l, D, E, b, ζ⟩ := ω
  obtain ⟨p, e, s, m, args, below, meth, c, Q, A⟩ := κ
  intro H locs la hP hX hA hS hl
  exact lv_icmp_ne X.1 X.2.1 hd ht (fun z => kn (z) H locs la hP hX hA hS hl) (fun z => kp (z) H locs la hP hX hA hS hl)
theorem x_icmp_lt {ω : XO} {rm : Room} {nL : Nat} {κ : XK} {cc : ByteArray} {own : String} (X : XC ω rm nL κ cc own) {L : List Nat} {q : Nat → Nat} {h : hp} {cells slots pc : Nat} {lv : List (Nat × Value)} {rest : List Value} {x y : Int32} {off : Int} (tgt : Nat) (hd : decode cc pc = .ok (.if_icmp .lt off, 3)) (ht : (pc : Int) + off = (tgt : Int)) (kp : x < y → XG ω rm nL κ L q h cells slots tgt lv (rest)) (kn : ¬ (x < y) → XG ω rm nL κ L q h cells slots (pc + 3) lv (rest)) : XG ω rm nL κ L q h cells slots pc lv (.int y :: .int x :: rest) := by
  obtain ⟨l, D, E, b, ζ⟩ := ω
  obtain ⟨p, e, s, m, args, below, meth, c, Q, A⟩ := κ
  intro H locs la hP hX hA hS hl
  exact lv_icmp_lt X.1 X.2.1 hd ht (fun z => kp (z) H locs la hP hX hA hS hl) (fun z => kn (z) H locs la hP hX hA hS hl)
theorem x_icmp_ge {ω : XO} {rm : Room} {nL : Nat} {κ : XK} {cc : ByteArray} {own : String} (X : XC ω rm nL κ cc own) {L : List Nat} {q : Nat → Nat} {h : hp} {cells slots pc : Nat} {lv : List (Nat × Value)} {rest : List Value} {x y : Int32} {off : Int} (tgt : Nat) (hd : decode cc pc = .ok (.if_icmp .ge off, 3)) (ht : (pc : Int) + off = (tgt : Int)) (kp : x < y → XG ω rm nL κ L q h cells slots (pc + 3) lv (rest)) (kn : ¬ (x < y) → XG ω rm nL κ L q h cells slots tgt lv (rest)) : XG ω rm nL κ L q h cells slots pc lv (.int y :: .int x :: rest) := by
  obtain ⟨l, D, E, b, ζ⟩ := ω
  obtain ⟨p, e, s, m, args, below, meth, c, Q, A⟩ := κ
  intro H locs la hP hX hA hS hl
  exact lv_icmp_ge X.1 X.2.1 hd ht (fun z => kn (Int32.not_lt.mpr z) H locs la hP hX hA hS hl) (fun z => kp (Int32.not_le.mp z) H locs la hP hX hA hS hl)
theorem x_icmp_gt {ω : XO} {rm : Room} {nL : Nat} {κ : XK} {cc : ByteArray} {own : String} (X : XC ω rm nL κ cc own) {L : List Nat} {q : Nat → Nat} {h : hp} {cells slots pc : Nat} {lv : List (Nat × Value)} {rest : List Value} {x y : Int32} {off : Int} (tgt : Nat) (hd : decode cc pc = .ok (.if_icmp .gt off, 3)) (ht : (pc : Int) + off = (tgt : Int)) (kp : y < x → XG ω rm nL κ L q h cells slots tgt lv (rest)) (kn : ¬ (y < x) → XG ω rm nL κ L q h cells slots (pc + 3) lv (rest)) : XG ω rm nL κ L q h cells slots pc lv (.int y :: .int x :: rest) := by
  obtain ⟨l, D, E, b, ζ⟩ := ω
  obtain ⟨p, e, s, m, args, below, meth, c, Q, A⟩ := κ
  intro H locs la hP hX hA hS hl
  exact lv_icmp_gt X.1 X.2.1 hd ht (fun z => kp (z) H locs la hP hX hA hS hl) (fun z => kn (z) H locs la hP hX hA hS hl)
theorem x_icmp_le {ω : XO} {rm : Room} {nL : Nat} {κ : XK} {cc : ByteArray} {own : String} (X : XC ω rm nL κ cc own) {L : List Nat} {q : Nat → Nat} {h : hp} {cells slots pc : Nat} {lv : List (Nat × Value)} {rest : List Value} {x y : Int32} {off : Int} (tgt : Nat) (hd : decode cc pc = .ok (.if_icmp .le off, 3)) (ht : (pc : Int) + off = (tgt : Int)) (kp : y < x → XG ω rm nL κ L q h cells slots (pc + 3) lv (rest)) (kn : ¬ (y < x) → XG ω rm nL κ L q h cells slots tgt lv (rest)) : XG ω rm nL κ L q h cells slots pc lv (.int y :: .int x :: rest) := by
  obtain ⟨l, D, E, b, ζ⟩ := ω
  obtain ⟨p, e, s, m, args, below, meth, c, Q, A⟩ := κ
  intro H locs la hP hX hA hS hl
  exact lv_icmp_le X.1 X.2.1 hd ht (fun z => kn (Int32.not_lt.mpr z) H locs la hP hX hA hS hl) (fun z => kp (Int32.not_le.mp z) H locs la hP hX hA hS hl)
theorem x_ldc {ω : XO} {rm : Room} {nL : Nat} {κ : XK} {cc : ByteArray} {own : String} (X : XC ω rm nL κ cc own) {L : List Nat} {q : Nat → Nat} {h : hp} {cells slots pc : Nat} {lv : List (Nat × Value)} {rest : List Value} {idx : Nat} {v : Int32} (hw : Cond.constant own idx v ∈ ALLW) (hd : decode cc pc = .ok (.ldc idx, 2)) (k : XG ω rm nL κ L q h cells slots (pc + 2) lv (.int v :: rest)) : XG ω rm nL κ L q h cells slots pc lv rest := by
  obtain ⟨l, D, E, b, ζ⟩ := ω
  obtain ⟨p, e, s, m, args, below, meth, c, Q, A⟩ := κ
  intro H locs la hP hX hA hS hl
  exact lv_ldc X.1 X.2.1 X.2.2.2.1 (X.2.2.2.2.1 _ hw) hd (k H locs la hP hX hA hS hl)
theorem x_ldc2 {ω : XO} {rm : Room} {nL : Nat} {κ : XK} {cc : ByteArray} {own : String} (X : XC ω rm nL κ cc own) {L : List Nat} {q : Nat → Nat} {h : hp} {cells slots pc : Nat} {lv : List (Nat × Value)} {rest : List Value} {idx : Nat} {v : Int64} (hw : Cond.constantLong own idx v ∈ ALLW) (hd : decode cc pc = .ok (.ldc2_w idx, 3)) (k : XG ω rm nL κ L q h cells slots (pc + 3) lv (.long v :: rest)) : XG ω rm nL κ L q h cells slots pc lv rest := by
  obtain ⟨l, D, E, b, ζ⟩ := ω
  obtain ⟨p, e, s, m, args, below, meth, c, Q, A⟩ := κ
  intro H locs la hP hX hA hS hl
  exact lv_ldc2 X.1 X.2.1 X.2.2.2.1 (X.2.2.2.2.1 _ hw) hd (k H locs la hP hX hA hS hl)
-- switches
theorem x_lsw {ω : XO} {rm : Room} {nL : Nat} {κ : XK} {cc : ByteArray} {own : String} (X : XC ω rm nL κ cc own) {L : List Nat} {q : Nat → Nat} {h : hp} {cells slots pc : Nat} {lv : List (Nat × Value)} {rest : List Value} {dflt : Int} {ps : Array (Int × Int)} {len : Nat} {x : Int32} {off : Int} (tgt : Nat) (hd : decode cc pc = .ok (.lookupswitch dflt ps, len)) (hp0 : (ps.toList.zip (ps.toList.drop 1)).all (fun (a, next) => a.1 < next.1) = true) (ho : Op.lookupswitch.offset ps.toList dflt x.toInt = off) (ht : (pc : Int) + off = (tgt : Int)) (k : XG ω rm nL κ L q h cells slots tgt lv rest) : XG ω rm nL κ L q h cells slots pc lv (.int x :: rest) := by
  obtain ⟨l, D, E, b, ζ⟩ := ω
  obtain ⟨p, e, s, m, args, below, meth, c, Q, A⟩ := κ
  intro H locs la hP hX hA hS hl
  exact lv_lookup X.1 X.2.1 hd hp0 ho ht (k H locs la hP hX hA hS hl)
theorem x_tswO {ω : XO} {rm : Room} {nL : Nat} {κ : XK} {cc : ByteArray} {own : String} (X : XC ω rm nL κ cc own) {L : List Nat} {q : Nat → Nat} {h : hp} {cells slots pc : Nat} {lv : List (Nat × Value)} {rest : List Value} {dflt lo hi : Int} {offs : Array Int} {len : Nat} {x : Int32} (tgt : Nat) (hd : decode cc pc = .ok (.tableswitch dflt lo hi offs, len)) (h0 : x.toInt < lo ∨ hi < x.toInt) (ht : (pc : Int) + dflt = (tgt : Int)) (k : XG ω rm nL κ L q h cells slots tgt lv rest) : XG ω rm nL κ L q h cells slots pc lv (.int x :: rest) := by
  obtain ⟨l, D, E, b, ζ⟩ := ω
  obtain ⟨p, e, s, m, args, below, meth, c, Q, A⟩ := κ
  intro H locs la hP hX hA hS hl
  exact lv_tableOut X.1 X.2.1 hd h0 ht (k H locs la hP hX hA hS hl)
theorem x_tswI {ω : XO} {rm : Room} {nL : Nat} {κ : XK} {cc : ByteArray} {own : String} (X : XC ω rm nL κ cc own) {L : List Nat} {q : Nat → Nat} {h : hp} {cells slots pc : Nat} {lv : List (Nat × Value)} {rest : List Value} {dflt lo hi : Int} {offs : Array Int} {len : Nat} {x y : Int32} {off : Int} (tgt : Nat) (hd : decode cc pc = .ok (.tableswitch dflt lo hi offs, len)) (hxy : x = y) (h1 : ¬ y.toInt < lo) (h2 : ¬ hi < y.toInt) (ho : offs[(y.toInt - lo).toNat]? = some off) (ht : (pc : Int) + off = (tgt : Int)) (k : XG ω rm nL κ L q h cells slots tgt lv rest) : XG ω rm nL κ L q h cells slots pc lv (.int x :: rest) := by
  obtain ⟨l, D, E, b, ζ⟩ := ω
  obtain ⟨p, e, s, m, args, below, meth, c, Q, A⟩ := κ
  subst hxy
  intro H locs la hP hX hA hS hl
  exact lv_tableIn X.1 X.2.1 hd h1 h2 ho ht (k H locs la hP hX hA hS hl)
-- ===== fields =====
/-- a field, as the class 'own' names it: the class of the list's place ci, the field's place k -/
def FL (own : String) (idx ci k : Nat) (rf : String) (C : String) (T : u_T) (N : Nat) : Prop := ci < 19 ∧ vwCl[ci]? = some (C, T, N) ∧ k < N ∧ (∀ w ∈ u_ws C T N, w ∈ ALLW) ∧ Cond.fieldLink own idx rf (T k).2.1 (T k).2.2.1 ∈ ALLW ∧ (T k).1 = rf
theorem x_getv {ω : XO} {rm : Room} {nL : Nat} {κ : XK} {cc : ByteArray} {own : String} (X : XC ω rm nL κ cc own) {L : List Nat} {q : Nat → Nat} {h : hp} {cells slots pc : Nat} {lv : List (Nat × Value)} {rest : List Value} {i k ci idx fd : Nat} {rf C : String} {T : u_T} {N : Nat} {v : Value} (F : FL own idx ci k rf C T N) (hs : sd ω.2.2.2.1 i = true) (hk : kdOf h i = ci + 1) (hf : (ktF ci)[k]? = some fd) (hv : fvl q h i k fd = v) (hd : decode cc pc = .ok (.getfield idx, 3)) (kk : XG ω rm nL κ L q h cells slots (pc + 3) lv (v :: rest)) : XG ω rm nL κ L q h cells slots pc lv (.ref (q i) :: rest) := by
  obtain ⟨l, D, E, b, ζ⟩ := ω
  obtain ⟨p, e, s, m, args, below, meth, c, Q, A⟩ := κ
  obtain ⟨f1, f2, f3, f4, f5, f6⟩ := F
  intro H locs la hP hX hA hS hl
  have hi : i ∈ L := hX.2.2 i hs (by rw [hk]; omega)
  obtain ⟨n, -, hn⟩ := XL_at (E := E) (q := q) (h := h) hi
  rw [cellX_obj hk f1] at hn
  exact va_get X.1 X.2.1 X.2.2.2.2.1 f4 X.2.2.2.1 X.2.2.2.2.2.1 hP n hn f2 k f3 (X.2.2.2.2.1 _ f5) (fun x hx => by rw [← f6]; exact hx) ((fvs_get hf).trans (congrArg some hv)) hd (kk H locs la hP hX hA hS hl)
theorem x_geti {ω : XO} {rm : Room} {nL : Nat} {κ : XK} {cc : ByteArray} {own : String} (X : XC ω rm nL κ cc own) {L : List Nat} {q : Nat → Nat} {h : hp} {cells slots pc : Nat} {lv : List (Nat × Value)} {rest : List Value} {i k ci idx : Nat} {rf C : String} {T : u_T} {N : Nat} (F : FL own idx ci k rf C T N) (hs : sd ω.2.2.2.1 i = true) (hk : kdOf h i = ci + 1) (hf : (ktF ci)[k]? = some 0) (hd : decode cc pc = .ok (.getfield idx, 3)) (kk : XG ω rm nL κ L q h cells slots (pc + 3) lv (.int (hI h i k) :: rest)) : XG ω rm nL κ L q h cells slots pc lv (.ref (q i) :: rest) := x_getv X F hs hk hf rfl hd kk
theorem x_gets {ω : XO} {rm : Room} {nL : Nat} {κ : XK} {cc : ByteArray} {own : String} (X : XC ω rm nL κ cc own) {L : List Nat} {q : Nat → Nat} {h : hp} {cells slots pc : Nat} {lv : List (Nat × Value)} {rest : List Value} {i k ci idx : Nat} {rf C : String} {T : u_T} {N : Nat} (n : Nat) (F : FL own idx ci k rf C T N) (hs : sd ω.2.2.2.1 i = true) (hk : kdOf h i = ci + 1) (hf : (ktF ci)[k]? = some (n + 2)) (hd : decode cc pc = .ok (.getfield idx, 3)) (kk : XG ω rm nL κ L q h cells slots (pc + 3) lv (.ref (q (i + n)) :: rest)) : XG ω rm nL κ L q h cells slots pc lv (.ref (q i) :: rest) := x_getv X F hs hk hf rfl hd kk
theorem x_getr {ω : XO} {rm : Room} {nL : Nat} {κ : XK} {cc : ByteArray} {own : String} (X : XC ω rm nL κ cc own) {L : List Nat} {q : Nat → Nat} {h : hp} {cells slots pc : Nat} {lv : List (Nat × Value)} {rest : List Value} {i k ci idx : Nat} {rf C : String} {T : u_T} {N : Nat} (F : FL own idx ci k rf C T N) (hs : sd ω.2.2.2.1 i = true) (hk : kdOf h i = ci + 1) (hf : (ktF ci)[k]? = some 1) (hd : decode cc pc = .ok (.getfield idx, 3)) (kk : XG ω rm nL κ L q h cells slots (pc + 3) lv (va_rf ((hR h i k).map q) :: rest)) : XG ω rm nL κ L q h cells slots pc lv (.ref (q i) :: rest) := x_getv X F hs hk hf rfl hd kk
/-- what a write wants to know of a class's fields -/
def FW (C : String) (T : u_T) (N : Nat) (ty0 : Nat → FieldType) : Prop := (∀ k, k < N → parseFieldDescriptor (T k).2.2.1 = some (ty0 k)) ∧ ∀ a, a < N → ∀ b, b < N → a ≠ b → (T a).2.1 ≠ (T b).2.1
theorem x_putv {ω : XO} {rm : Room} {nL : Nat} {κ : XK} {cc : ByteArray} {own : String} (X : XC ω rm nL κ cc own) {L : List Nat} {q : Nat → Nat} {h h' : hp} {cells slots pc : Nat} {lv : List (Nat × Value)} {rest : List Value} {i k ci idx fd : Nat} {rf C : String} {T : u_T} {N : Nat} {v : Value} {ty0 : Nat → FieldType} (F : FL own idx ci k rf C T N) (P : FW C T N ty0) (hs : sd ω.2.2.2.1 i = true) (hk : kdOf h i = ci + 1) (hf : (ktF ci)[k]? = some fd) (hfin : (T k).2.2.2 = false) (hn : narrow (ty0 k) v = v) (hfit : fits (ty0 k) v = true) (hkd : ∀ j, kdOf h' j = kdOf h j) (he : ∀ E, cellX E q h' i = .inr (ci, (fvs q h i (ktF ci)).set k v)) (ho : ∀ E, ∀ j, j ≠ i → cellX E q h' j = cellX E q h j) (hd : decode cc pc = .ok (.putfield idx, 3)) (kk : XG ω rm nL κ L q h' cells slots (pc + 3) lv rest) : XG ω rm nL κ L q h cells slots pc lv (v :: .ref (q i) :: rest) := by
  obtain ⟨l, D, E, b, ζ⟩ := ω
  obtain ⟨p, e, s, m, args, below, meth, c, Q, A⟩ := κ
  obtain ⟨f1, f2, f3, f4, f5, f6⟩ := F
  intro H locs la hP hX hA hS hl
  have hi : i ∈ L := hX.2.2 i hs (by rw [hk]; omega)
  obtain ⟨n, hLn, hn1⟩ := XL_at (E := E) (q := q) (h := h) hi
  rw [cellX_obj hk f1] at hn1
  have hX' : XD b L q h' := ⟨hX.1, hX.2.1, fun j h1 h2 => hX.2.2 j h1 (by rw [← hkd j]; exact h2)⟩
  refine va_put X.1 X.2.1 X.2.2.2.2.1 f4 ty0 P.1 P.2 X.2.2.2.1 X.2.2.2.2.2.1 hP (XL_D hX hA) hS n hn1 f2 k f3 (X.2.2.2.2.1 _ f5) (fun x hx => by rw [← f6]; exact hx) hfin (P.1 k f3) hn hfit (by rw [fvs_len]; exact (List.getElem?_eq_some_iff.mp hf).1) hd (fun H1 locs1 hP1 hD1 hS1 => ?_)
  rw [XL_set (h' := h') hX.1 hLn (he E) (ho E)] at hP1
  exact kk H1 locs1 la hP1 hX' hA hS1 hl
theorem x_puti {ω : XO} {rm : Room} {nL : Nat} {κ : XK} {cc : ByteArray} {own : String} (X : XC ω rm nL κ cc own) {L : List Nat} {q : Nat → Nat} {h : hp} {cells slots pc : Nat} {lv : List (Nat × Value)} {rest : List Value} {i k ci idx : Nat} {rf C : String} {T : u_T} {N : Nat} {v : Int32} {ty0 : Nat → FieldType} (F : FL own idx ci k rf C T N) (P : FW C T N ty0) (hs : sd ω.2.2.2.1 i = true) (hk : kdOf h i = ci + 1) (hf : (ktF ci)[k]? = some 0) (hfin : (T k).2.2.2 = false) (hn : narrow (ty0 k) (.int v) = .int v) (hfit : fits (ty0 k) (.int v) = true) (hd : decode cc pc = .ok (.putfield idx, 3)) (kk : XG ω rm nL κ L q (sI h i k v) cells slots (pc + 3) lv rest) : XG ω rm nL κ L q h cells slots pc lv (.int v :: .ref (q i) :: rest) := by
  refine x_putv (h' := sI h i k v) X F P hs hk hf hfin hn hfit (fun j => rfl) (fun E => ?_) (fun E j hj => cellX_sI hj) hd kk
  rw [cellX_obj (ci := ci) (show kdOf (sI h i k v) i = ci + 1 from hk) F.1]
  refine congrArg (fun z => Sum.inr (ci, z)) (fvs_set hf ?_ ?_).symm
  · simp [fvl, hI, sI, up2]
  · intro j f hj
    match f with
    | 0 => simp [fvl, hI, sI, up2, hj]
    | 1 => rfl
    | m + 2 => rfl
theorem x_putr {ω : XO} {rm : Room} {nL : Nat} {κ : XK} {cc : ByteArray} {own : String} (X : XC ω rm nL κ cc own) {L : List Nat} {q : Nat → Nat} {h : hp} {cells slots pc : Nat} {lv : List (Nat × Value)} {rest : List Value} {i k ci idx : Nat} {rf C : String} {T : u_T} {N : Nat} {o : Option Nat} {v : Value} {ty0 : Nat → FieldType} (F : FL own idx ci k rf C T N) (P : FW C T N ty0) (hs : sd ω.2.2.2.1 i = true) (hk : kdOf h i = ci + 1) (hf : (ktF ci)[k]? = some 1) (hfin : (T k).2.2.2 = false) (hv : v = va_rf (o.map q)) (hn : narrow (ty0 k) v = v) (hfit : fits (ty0 k) v = true) (hd : decode cc pc = .ok (.putfield idx, 3)) (kk : XG ω rm nL κ L q (sR h i k o) cells slots (pc + 3) lv rest) : XG ω rm nL κ L q h cells slots pc lv (v :: .ref (q i) :: rest) := by
  refine x_putv (h' := sR h i k o) X F P hs hk hf hfin hn hfit (fun j => rfl) (fun E => ?_) (fun E j hj => cellX_sR hj) hd kk
  rw [cellX_obj (ci := ci) (show kdOf (sR h i k o) i = ci + 1 from hk) F.1]
  refine congrArg (fun z => Sum.inr (ci, z)) (fvs_set hf ?_ ?_).symm
  · rw [hv]; simp [fvl, hR, sR, up2]
  · intro j f hj
    match f with
    | 0 => rfl
    | 1 => simp [fvl, hR, sR, up2, hj]
    | m + 2 => rfl
-- ===== rows =====
theorem acn_i {q : Nat → Nat} {h : hp} {i e : Nat} (he : e < 3) : acn q h i e = .inl (aI h i) := by
  unfold acn; rw [if_neg (by omega), if_neg (by omega)]
theorem acn_l {q : Nat → Nat} {h : hp} {i : Nat} : acn q h i 3 = .inr (.inl (aL h i)) := rfl
theorem acn_r {q : Nat → Nat} {h : hp} {i e : Nat} (he : 4 ≤ e) : acn q h i e = .inr (.inr (.inr (.inr (fun j => (aR h i j).map q)))) := by
  unfold acn; rw [if_neg (by omega), if_pos he]
theorem upd_tI {h : hp} {i k : Nat} {v : Int32} : upd (aI h i) k v = aI (tI h i k v) i := by
  funext j; by_cases hj : j = k <;> simp [upd, aI, tI, up2, hj]
theorem upd_tL {h : hp} {i k : Nat} {v : Int64} : vp_updL (aL h i) k v = aL (tL h i k v) i := by
  funext j; by_cases hj : j = k <;> simp [vp_updL, aL, tL, up2, hj]
theorem upd_tR {q : Nat → Nat} {h : hp} {i k v : Nat} : va_up (fun j => (aR h i j).map q) k (some (q v)) = fun j => (aR (tR h i k (some v)) i j).map q := by
  funext j; by_cases hj : j = k <;> simp [va_up, aR, tR, up2, hj]
theorem x_alen {ω : XO} {rm : Room} {nL : Nat} {κ : XK} {cc : ByteArray} {own : String} (X : XC ω rm nL κ cc own) {L : List Nat} {q : Nat → Nat} {h : hp} {cells slots pc : Nat} {lv : List (Nat × Value)} {rest : List Value} {i n e : Nat} {v : Int32} (he : e < 6) (hs : sd ω.2.2.2.1 i = true) (hk : kdOf h i = 20 + 10 * n + e) (hv : Int32.ofNat n = v) (hd : decode cc pc = .ok (.arraylength, 1)) (kk : XG ω rm nL κ L q h cells slots (pc + 1) lv (.int v :: rest)) : XG ω rm nL κ L q h cells slots pc lv (.ref (q i) :: rest) := by
  obtain ⟨l, D, E, b, ζ⟩ := ω
  obtain ⟨p, e2, s, m, args, below, meth, c, Q, A⟩ := κ
  intro H locs la hP hX hA hS hl
  have hi : i ∈ L := hX.2.2 i hs (by rw [hk]; omega)
  obtain ⟨j, -, hj⟩ := XL_at (E := E) (q := q) (h := h) hi
  rw [cellX_row hk (by omega)] at hj
  obtain ⟨ty, hty⟩ : ∃ ty, (tysE E)[e]? = some (E e, ty) := by
    rcases (show e = 0 ∨ e = 1 ∨ e = 2 ∨ e = 3 ∨ e = 4 ∨ e = 5 by omega) with rfl | rfl | rfl | rfl | rfl | rfl <;> exact ⟨_, rfl⟩
  exact va_alen X.1 X.2.1 X.2.2.2.2.2.1 hP j e hj hty hv hd (kk H locs la hP hX hA hS hl)
theorem x_iald {ω : XO} {rm : Room} {nL : Nat} {κ : XK} {cc : ByteArray} {own : String} (X : XC ω rm nL κ cc own) {L : List Nat} {q : Nat → Nat} {h : hp} {cells slots pc : Nat} {lv : List (Nat × Value)} {rest : List Value} {i n : Nat} {x : Int32} (hs : sd ω.2.2.2.1 i = true) (hk : kdOf h i = 20 + 10 * n + 0) (hin : vp_in x n) (hd : decode cc pc = .ok (.iaload, 1)) (kk : XG ω rm nL κ L q h cells slots (pc + 1) lv (.int (aI h i x.toNatClampNeg) :: rest)) : XG ω rm nL κ L q h cells slots pc lv (.int x :: .ref (q i) :: rest) := by
  obtain ⟨l, D, E, b, ζ⟩ := ω
  obtain ⟨p, e2, s, m, args, below, meth, c, Q, A⟩ := κ
  intro H locs la hP hX hA hS hl
  have hi : i ∈ L := hX.2.2 i hs (by rw [hk]; omega)
  obtain ⟨j, hLj, hj⟩ := XL_at (E := E) (q := q) (h := h) hi
  rw [cellX_row hk (by omega), acn_i (by omega)] at hj
  exact va_iald X.1 X.2.1 X.2.2.2.2.2.1 hP j 0 hj rfl hin hd (kk H locs la hP hX hA hS hl)
theorem x_bald {ω : XO} {rm : Room} {nL : Nat} {κ : XK} {cc : ByteArray} {own : String} (X : XC ω rm nL κ cc own) {L : List Nat} {q : Nat → Nat} {h : hp} {cells slots pc : Nat} {lv : List (Nat × Value)} {rest : List Value} {i n : Nat} {x : Int32} (hs : sd ω.2.2.2.1 i = true) (hk : kdOf h i = 20 + 10 * n + 1) (hin : vp_in x n) (hd : decode cc pc = .ok (.baload, 1)) (kk : XG ω rm nL κ L q h cells slots (pc + 1) lv (.int (aI h i x.toNatClampNeg) :: rest)) : XG ω rm nL κ L q h cells slots pc lv (.int x :: .ref (q i) :: rest) := by
  obtain ⟨l, D, E, b, ζ⟩ := ω
  obtain ⟨p, e2, s, m, args, below, meth, c, Q, A⟩ := κ
  intro H locs la hP hX hA hS hl
  have hi : i ∈ L := hX.2.2 i hs (by rw [hk]; omega)
  obtain ⟨j, hLj, hj⟩ := XL_at (E := E) (q := q) (h := h) hi
  rw [cellX_row hk (by omega), acn_i (by omega)] at hj
  exact va_bald X.1 X.2.1 X.2.2.2.2.2.1 hP j 1 hj rfl hin hd (kk H locs la hP hX hA hS hl)
theorem x_zald {ω : XO} {rm : Room} {nL : Nat} {κ : XK} {cc : ByteArray} {own : String} (X : XC ω rm nL κ cc own) {L : List Nat} {q : Nat → Nat} {h : hp} {cells slots pc : Nat} {lv : List (Nat × Value)} {rest : List Value} {i n : Nat} {x : Int32} (hs : sd ω.2.2.2.1 i = true) (hk : kdOf h i = 20 + 10 * n + 2) (hin : vp_in x n) (hd : decode cc pc = .ok (.baload, 1)) (kk : XG ω rm nL κ L q h cells slots (pc + 1) lv (.int (aI h i x.toNatClampNeg) :: rest)) : XG ω rm nL κ L q h cells slots pc lv (.int x :: .ref (q i) :: rest) := by
  obtain ⟨l, D, E, b, ζ⟩ := ω
  obtain ⟨p, e2, s, m, args, below, meth, c, Q, A⟩ := κ
  intro H locs la hP hX hA hS hl
  have hi : i ∈ L := hX.2.2 i hs (by rw [hk]; omega)
  obtain ⟨j, hLj, hj⟩ := XL_at (E := E) (q := q) (h := h) hi
  rw [cellX_row hk (by omega), acn_i (by omega)] at hj
  exact va_zald X.1 X.2.1 X.2.2.2.2.2.1 hP j 2 hj rfl hin hd (kk H locs la hP hX hA hS hl)
theorem x_lald {ω : XO} {rm : Room} {nL : Nat} {κ : XK} {cc : ByteArray} {own : String} (X : XC ω rm nL κ cc own) {L : List Nat} {q : Nat → Nat} {h : hp} {cells slots pc : Nat} {lv : List (Nat × Value)} {rest : List Value} {i n : Nat} {x : Int32} (hs : sd ω.2.2.2.1 i = true) (hk : kdOf h i = 20 + 10 * n + 3) (hin : vp_in x n) (hd : decode cc pc = .ok (.laload, 1)) (kk : XG ω rm nL κ L q h cells slots (pc + 1) lv (.long (aL h i x.toNatClampNeg) :: rest)) : XG ω rm nL κ L q h cells slots pc lv (.int x :: .ref (q i) :: rest) := by
  obtain ⟨l, D, E, b, ζ⟩ := ω
  obtain ⟨p, e2, s, m, args, below, meth, c, Q, A⟩ := κ
  intro H locs la hP hX hA hS hl
  have hi : i ∈ L := hX.2.2 i hs (by rw [hk]; omega)
  obtain ⟨j, hLj, hj⟩ := XL_at (E := E) (q := q) (h := h) hi
  rw [cellX_row hk (by omega), acn_l] at hj
  exact va_lald X.1 X.2.1 X.2.2.2.2.2.1 hP j 3 hj rfl hin hd (kk H locs la hP hX hA hS hl)
theorem x_iast {ω : XO} {rm : Room} {nL : Nat} {κ : XK} {cc : ByteArray} {own : String} (X : XC ω rm nL κ cc own) {L : List Nat} {q : Nat → Nat} {h : hp} {cells slots pc : Nat} {lv : List (Nat × Value)} {rest : List Value} {i n : Nat} {x : Int32} {v : Int32} (hs : sd ω.2.2.2.1 i = true) (hk : kdOf h i = 20 + 10 * n + 0) (hin : vp_in x n) (hd : decode cc pc = .ok (.iastore, 1)) (kk : XG ω rm nL κ L q (tI h i x.toNatClampNeg v) cells slots (pc + 1) lv (rest)) : XG ω rm nL κ L q h cells slots pc lv (.int v :: .int x :: .ref (q i) :: rest) := by
  obtain ⟨l, D, E, b, ζ⟩ := ω
  obtain ⟨p, e2, s, m, args, below, meth, c, Q, A⟩ := κ
  intro H locs la hP hX hA hS hl
  have hi : i ∈ L := hX.2.2 i hs (by rw [hk]; omega)
  obtain ⟨j, hLj, hj⟩ := XL_at (E := E) (q := q) (h := h) hi
  rw [cellX_row hk (by omega), acn_i (by omega)] at hj
  refine va_iast X.1 X.2.1 X.2.2.2.2.2.1 hP (XL_D hX hA) hS j 0 hj rfl hin hd (fun H1 locs1 hP1 hD1 hS1 => ?_)
  rw [upd_tI, XL_set (h' := (tI h i x.toNatClampNeg v)) hX.1 hLj (by rw [cellX_row (show kdOf (tI h i x.toNatClampNeg v) i = _ from hk) (by omega), acn_i (by omega)]) (fun j hj => cellX_tI hj)] at hP1
  exact kk H1 locs1 la hP1 hX hA hS1 hl
theorem x_bast {ω : XO} {rm : Room} {nL : Nat} {κ : XK} {cc : ByteArray} {own : String} (X : XC ω rm nL κ cc own) {L : List Nat} {q : Nat → Nat} {h : hp} {cells slots pc : Nat} {lv : List (Nat × Value)} {rest : List Value} {i n : Nat} {x : Int32} {v : Int32} (hs : sd ω.2.2.2.1 i = true) (hk : kdOf h i = 20 + 10 * n + 1) (hin : vp_in x n) (hd : decode cc pc = .ok (.bastore, 1)) (kk : XG ω rm nL κ L q (tI h i x.toNatClampNeg (vp_nar .byte v)) cells slots (pc + 1) lv (rest)) : XG ω rm nL κ L q h cells slots pc lv (.int v :: .int x :: .ref (q i) :: rest) := by
  obtain ⟨l, D, E, b, ζ⟩ := ω
  obtain ⟨p, e2, s, m, args, below, meth, c, Q, A⟩ := κ
  intro H locs la hP hX hA hS hl
  have hi : i ∈ L := hX.2.2 i hs (by rw [hk]; omega)
  obtain ⟨j, hLj, hj⟩ := XL_at (E := E) (q := q) (h := h) hi
  rw [cellX_row hk (by omega), acn_i (by omega)] at hj
  refine va_bast X.1 X.2.1 X.2.2.2.2.2.1 hP (XL_D hX hA) hS j 1 hj rfl hin hd (fun H1 locs1 hP1 hD1 hS1 => ?_)
  rw [upd_tI, XL_set (h' := (tI h i x.toNatClampNeg (vp_nar .byte v))) hX.1 hLj (by rw [cellX_row (show kdOf (tI h i x.toNatClampNeg (vp_nar .byte v)) i = _ from hk) (by omega), acn_i (by omega)]) (fun j hj => cellX_tI hj)] at hP1
  exact kk H1 locs1 la hP1 hX hA hS1 hl
theorem x_zast {ω : XO} {rm : Room} {nL : Nat} {κ : XK} {cc : ByteArray} {own : String} (X : XC ω rm nL κ cc own) {L : List Nat} {q : Nat → Nat} {h : hp} {cells slots pc : Nat} {lv : List (Nat × Value)} {rest : List Value} {i n : Nat} {x : Int32} {v : Int32} (hs : sd ω.2.2.2.1 i = true) (hk : kdOf h i = 20 + 10 * n + 2) (hin : vp_in x n) (hd : decode cc pc = .ok (.bastore, 1)) (kk : XG ω rm nL κ L q (tI h i x.toNatClampNeg (vp_nar .boolean v)) cells slots (pc + 1) lv (rest)) : XG ω rm nL κ L q h cells slots pc lv (.int v :: .int x :: .ref (q i) :: rest) := by
  obtain ⟨l, D, E, b, ζ⟩ := ω
  obtain ⟨p, e2, s, m, args, below, meth, c, Q, A⟩ := κ
  intro H locs la hP hX hA hS hl
  have hi : i ∈ L := hX.2.2 i hs (by rw [hk]; omega)
  obtain ⟨j, hLj, hj⟩ := XL_at (E := E) (q := q) (h := h) hi
  rw [cellX_row hk (by omega), acn_i (by omega)] at hj
  refine va_zast X.1 X.2.1 X.2.2.2.2.2.1 hP (XL_D hX hA) hS j 2 hj rfl hin hd (fun H1 locs1 hP1 hD1 hS1 => ?_)
  rw [upd_tI, XL_set (h' := (tI h i x.toNatClampNeg (vp_nar .boolean v))) hX.1 hLj (by rw [cellX_row (show kdOf (tI h i x.toNatClampNeg (vp_nar .boolean v)) i = _ from hk) (by omega), acn_i (by omega)]) (fun j hj => cellX_tI hj)] at hP1
  exact kk H1 locs1 la hP1 hX hA hS1 hl
theorem x_last {ω : XO} {rm : Room} {nL : Nat} {κ : XK} {cc : ByteArray} {own : String} (X : XC ω rm nL κ cc own) {L : List Nat} {q : Nat → Nat} {h : hp} {cells slots pc : Nat} {lv : List (Nat × Value)} {rest : List Value} {i n : Nat} {x : Int32} {v : Int64} (hs : sd ω.2.2.2.1 i = true) (hk : kdOf h i = 20 + 10 * n + 3) (hin : vp_in x n) (hd : decode cc pc = .ok (.lastore, 1)) (kk : XG ω rm nL κ L q (tL h i x.toNatClampNeg v) cells slots (pc + 1) lv (rest)) : XG ω rm nL κ L q h cells slots pc lv (.long v :: .int x :: .ref (q i) :: rest) := by
  obtain ⟨l, D, E, b, ζ⟩ := ω
  obtain ⟨p, e2, s, m, args, below, meth, c, Q, A⟩ := κ
  intro H locs la hP hX hA hS hl
  have hi : i ∈ L := hX.2.2 i hs (by rw [hk]; omega)
  obtain ⟨j, hLj, hj⟩ := XL_at (E := E) (q := q) (h := h) hi
  rw [cellX_row hk (by omega), acn_l] at hj
  refine va_last X.1 X.2.1 X.2.2.2.2.2.1 hP (XL_D hX hA) hS j 3 hj rfl hin hd (fun H1 locs1 hP1 hD1 hS1 => ?_)
  rw [upd_tL, XL_set (h' := (tL h i x.toNatClampNeg v)) hX.1 hLj (by rw [cellX_row (show kdOf (tL h i x.toNatClampNeg v) i = _ from hk) (by omega), acn_l]) (fun j hj => cellX_tL hj)] at hP1
  exact kk H1 locs1 la hP1 hX hA hS1 hl
theorem x_aald {ω : XO} {rm : Room} {nL : Nat} {κ : XK} {cc : ByteArray} {own : String} (X : XC ω rm nL κ cc own) {L : List Nat} {q : Nat → Nat} {h : hp} {cells slots pc : Nat} {lv : List (Nat × Value)} {rest : List Value} {i n e : Nat} {x : Int32} (he : e = 4 ∨ e = 5) (hs : sd ω.2.2.2.1 i = true) (hk : kdOf h i = 20 + 10 * n + e) (hin : vp_in x n) (hd : decode cc pc = .ok (.aaload, 1)) (kk : XG ω rm nL κ L q h cells slots (pc + 1) lv (va_rf ((aR h i x.toNatClampNeg).map q) :: rest)) : XG ω rm nL κ L q h cells slots pc lv (.int x :: .ref (q i) :: rest) := by
  obtain ⟨l, D, E, b, ζ⟩ := ω
  obtain ⟨p, e2, s, m, args, below, meth, c, Q, A⟩ := κ
  intro H locs la hP hX hA hS hl
  have hi : i ∈ L := hX.2.2 i hs (by rw [hk]; omega)
  obtain ⟨j, -, hj⟩ := XL_at (E := E) (q := q) (h := h) hi
  rw [cellX_row hk (by omega), acn_r (by omega)] at hj
  rcases he with rfl | rfl
  · exact va_aldq X.1 X.2.1 X.2.2.2.2.2.1 hP j 4 hj rfl hin hd (kk H locs la hP hX hA hS hl)
  · exact va_aldq X.1 X.2.1 X.2.2.2.2.2.1 hP j 5 hj rfl hin hd (kk H locs la hP hX hA hS hl)
-- ===== calls =====
/-- what a call of a method asks of the tables -/
def MT (y : MethodName) (cc : ByteArray) (nL : Nat) (rt : Option FieldType) (C : String) (np : Nat) : Prop := Cond.instanceMethod y ∈ ALLW ∧ Cond.selects C y y ∈ ALLW ∧ Cond.initialized C ∈ ALLW ∧ Cond.code y cc nL rt ∈ ALLW ∧ (y.cls = C ∧ y.cls ≠ "java/lang/invoke/MethodHandle" ∧ y.cls ≠ "java/lang/invoke/VarHandle" ∧ (parseMethodDescriptor y.desc).map (fun d => d.parameters.length) = some np)
def MS (y : MethodName) (cc : ByteArray) (nL : Nat) (rt : Option FieldType) (np : Nat) : Prop := Cond.static y ∈ ALLW ∧ Cond.initialized y.cls ∈ ALLW ∧ Cond.code y cc nL rt ∈ ALLW ∧ (y.cls ≠ "java/lang/invoke/MethodHandle" ∧ y.cls ≠ "java/lang/invoke/VarHandle" ∧ (parseMethodDescriptor y.desc).map (fun d => d.parameters.length) = some np)
theorem xb_blind {ω : XO} {L : List Nat} {q : Nat → Nat} {h : hp} {sz : Nat} {as : List Value} : FrameBlind (va_Pc as (XB ω L q h sz)) := by
  obtain ⟨l, D, E, b, ζ⟩ := ω
  intro a U g mk hh
  obtain ⟨q0, q1, qP, qK, qD, qz⟩ := hh
  exact ⟨q0, q1, qP, va_K.moved (u := U) (U := U.calling g mk a) (Vm.Alike.refl U.vm) qK, qD, xz_same (u := U) (U := U.calling g mk a) rfl rfl qz⟩
theorem xb_pre {ω : XO} {rm : Room} {nL : Nat} {κ : XK} {cc : ByteArray} {own : String} (X : XC ω rm nL κ cc own) {L : List Nat} {q : Nat → Nat} {h : hp} {as : List Value} {H : Heap} {locs : List Loc} {U : State} (hP : va_P ω.2.1 vwCl (XL ω.2.2.1 L q h) H) (hX : XD ω.2.2.2.1 L q h) (hA : ∀ i ∈ L, κ.2.2.2.2.2.2.2.2.2 (q i)) (hS : va_S κ.2.2.2.2.2.2.2.2.2 κ.2.2.1.heap H locs) (hU : U.heap = H) (hW : κ.2.2.1.WarmedH U.vm) : va_Pc as (XB ω L q h H.size) as.toArray U := by
  obtain ⟨l, D, E, b, ζ⟩ := ω
  obtain ⟨p, e, s, m, args, below, meth, c, Q, A⟩ := κ
  obtain ⟨-, -, -, -, -, hK, -, hA0, hz⟩ := X
  subst hU
  refine ⟨rfl, rfl, hP, va_K.moved hW.alike hK, hX, xz_to hz hW hS (fun a ha => ?_)⟩
  rcases ha with ⟨i, hi, rfl⟩ | ha
  · exact hA i hi
  · exact hA0 a (Nat.le_trans hS.1 ha)
theorem xg_call {ω : XO} {rm : Room} {nL : Nat} {κ : XK} {cc : ByteArray} {own : String} (X : XC ω rm nL κ cc own) {L : List Nat} {q : Nat → Nat} {h h' : hp} {cells slots pc : Nat} {lv : List (Nat × Value)} {rest st : List Value} {v : Option Value} {a : Array Value} {rm2 : Room} (h0 : rm2.cells = 0 ∧ rm2.slots = 0)
    (hrun : ∀ (H : Heap) (locs : List Loc) (la : Array Slot), va_P ω.2.1 vwCl (XL ω.2.2.1 L q h) H → XD ω.2.2.2.1 L q h → (∀ i ∈ L, κ.2.2.2.2.2.2.2.2.2 (q i)) → va_S κ.2.2.2.2.2.2.2.2.2 κ.2.2.1.heap H locs → lv_has la nL lv → va_Run κ.1 ω.1 κ.2.1 rm κ.2.2.1 κ.2.2.2.1 κ.2.2.2.2.1 κ.2.2.2.2.2.1 κ.2.2.2.2.2.2.1 κ.2.2.2.2.2.2.2.1 H locs cells slots rm2.cells rm2.slots (F0 κ.2.2.2.1 pc la st) rest (XQ ω L q h' v H.size a) (XA L q H.size))
    (kk : XG ω rm nL κ L q h' cells slots (pc + 3) lv (v.toList ++ rest)) : XG ω rm nL κ L q h cells slots pc lv st := by
  obtain ⟨l, D, E, b, ζ⟩ := ω
  obtain ⟨p, e, s, m, args, below, meth, c, Q, A⟩ := κ
  obtain ⟨-, -, -, -, -, -, -, hA0, -⟩ := X
  intro H locs la hP hX hA hS hl
  intro T hT XS
  obtain ⟨v', st₀, t, T', L2, g0, X', hL, e1, e2, ⟨⟨hv, hP1, hX1⟩, hz, hk⟩, stp⟩ := hrun H locs la hP hX hA hS hl T hT XS
  cases hv
  rw [g0] at hz hk
  rw [h0.1, h0.2] at X'
  have hsub : ∀ a, XA L q H.size a → A a := fun a ha => by
    rcases ha with ⟨i, hi, rfl⟩ | ha
    · exact hA i hi
    · exact hA0 a (Nat.le_trans hS.1 ha)
  obtain ⟨t2, a1, b1⟩ := kk T'.heap (locs ++ L2) la (by rw [e1]; exact hP1) hX1 hA
    ⟨Nat.le_trans hS.1 (by rw [e1]; exact hz), fun a h1 h2 => by rw [e1, hk a (Nat.lt_of_lt_of_le h1 hS.1) (fun z => h2 (hsub a z))]; exact hS.2.1 a h1 h2, fun x hx => by
      rcases List.mem_append.mp hx with h | h
      · exact hS.2.2 x h
      · exact hsub _ (hL x h)⟩ hl T' rfl X'
  exact ⟨t2, stp t2 a1, b1⟩
theorem x_callV {ω : XO} {rm : Room} {nL : Nat} {κ : XK} {cc : ByteArray} {own : String} (X : XC ω rm nL κ cc own) {L : List Nat} {q : Nat → Nat} {h h' : hp} {cells slots pc : Nat} {lv : List (Nat × Value)} {st : List Value} {v : Option Value} {y : MethodName} {bytes : ByteArray} {maxL idx i ci : Nat} {rt : Option FieldType} {rm2 : Room} {C : String} {T : u_T} {N : Nat} (As rest : List Value)
    (hM : XM ω y bytes maxL rt rm2 L q h (.ref (q i) :: As) v h') (hT : MT y bytes maxL rt C As.length) (hl0 : Cond.methodLink own idx y ∈ ALLW) (hR : rm2.frames + 1 ≤ rm.frames ∧ 8 + (maxL + 11) + rm2.locals ≤ rm.locals) (h0 : rm2.cells = 0 ∧ rm2.slots = 0) (hcs : cells ≤ rm.cells ∧ slots ≤ rm.slots)
    (hs : sd ω.2.2.2.1 i = true) (hk : kdOf h i = ci + 1) (hci : ci < 19) (hc : vwCl[ci]? = some (C, T, N)) (hst : st = As.reverse ++ .ref (q i) :: rest) (hroom : (rest.map fun v => v.category).sum ≤ 8) (hd : decode cc pc = .ok (.invokevirtual idx, 3))
    (kk : XG ω rm nL κ L q h' cells slots (pc + 3) lv (v.toList ++ rest)) : XG ω rm nL κ L q h cells slots pc lv st := by
  refine xg_call (a := (Value.ref (q i) :: As).toArray) X h0 (fun H locs la hP hX hA hS hl => ?_) kk
  have X2 := X
  have hpre := fun (U : State) (hU : U.heap = H) hW => xb_pre X (as := .ref (q i) :: As) hP hX hA hS hU hW
  obtain ⟨l, D, E, b, ζ⟩ := ω
  obtain ⟨p, e, s, m, args, below, meth, c, Q, A⟩ := κ
  obtain ⟨hx, hb, hml, hown, hts, hK, hlocks, hA0, hz⟩ := X2
  have hi : i ∈ L := hX.2.2 i hs (by rw [hk]; omega)
  obtain ⟨n, -, hn⟩ := XL_at (E := E) (q := q) (h := h) hi
  rw [cellX_obj hk hci] at hn
  obtain ⟨m1, m2, m3, m4, m5⟩ := hT
  have hG : GoodIn ALLW (wsV own idx C y (wA y bytes maxL rt)) := goodA m4 (by
    intro w hw
    simp only [List.mem_cons, List.not_mem_nil, or_false] at hw
    rcases hw with rfl | rfl | rfl | rfl <;> assumption)
  exact va_runV (As := As) (rest := rest) ⟨hx, hb, hml, hown, hts⟩ (hM H.size) (cwV As.length hts hG rfl rfl rfl m5 hR) ⟨xb_blind, va_recv hK hP hc hn, hpre⟩ rfl rfl hl.1 hst (lv_room hroom) hd ⟨by rw [h0.1]; exact hcs.1, by rw [h0.2]; exact hcs.2⟩
theorem x_callS {ω : XO} {rm : Room} {nL : Nat} {κ : XK} {cc : ByteArray} {own : String} (X : XC ω rm nL κ cc own) {L : List Nat} {q : Nat → Nat} {h h' : hp} {cells slots pc : Nat} {lv : List (Nat × Value)} {st : List Value} {v : Option Value} {y : MethodName} {bytes : ByteArray} {maxL idx : Nat} {rt : Option FieldType} {rm2 : Room} (As rest : List Value)
    (hM : XM ω y bytes maxL rt rm2 L q h As v h') (hT : MS y bytes maxL rt As.length) (hl0 : Cond.methodLink own idx y ∈ ALLW) (hR : rm2.frames + 1 ≤ rm.frames ∧ 8 + (maxL + 11) + rm2.locals ≤ rm.locals) (h0 : rm2.cells = 0 ∧ rm2.slots = 0) (hcs : cells ≤ rm.cells ∧ slots ≤ rm.slots)
    (hst : st = As.reverse ++ rest) (hroom : (rest.map fun v => v.category).sum ≤ 8) (hd : decode cc pc = .ok (.invokestatic idx, 3))
    (kk : XG ω rm nL κ L q h' cells slots (pc + 3) lv (v.toList ++ rest)) : XG ω rm nL κ L q h cells slots pc lv st := by
  refine xg_call (a := As.toArray) X h0 (fun H locs la hP hX hA hS hl => ?_) kk
  have X2 := X
  have hpre := fun (U : State) (hU : U.heap = H) hW => xb_pre X (as := As) hP hX hA hS hU hW
  obtain ⟨l, D, E, b, ζ⟩ := ω
  obtain ⟨p, e, s, m, args, below, meth, c, Q, A⟩ := κ
  obtain ⟨hx, hb, hml, hown, hts, hK, hlocks, hA0, hz⟩ := X2
  obtain ⟨m2, m3, m4, m5⟩ := hT
  have hG : GoodIn ALLW (va_wsS own idx y (wA y bytes maxL rt)) := goodA m4 (by
    intro w hw
    simp only [List.mem_cons, List.not_mem_nil, or_false] at hw
    rcases hw with rfl | rfl | rfl <;> assumption)
  exact va_runS (As := As) (rest := rest) ⟨hx, hb, hml, hown, hts⟩ (hM H.size) (va_cwS As.length hts hG rfl rfl rfl m5 hR) ⟨xb_blind, hpre⟩ rfl rfl hl.1 hst (lv_room hroom) hd ⟨by rw [h0.1]; exact hcs.1, by rw [h0.2]; exact hcs.2⟩
end
