section
-- ===== PART A: goes FIRST, ahead of the names: the tables' words, and 'selects' of the private methods out of them =====
/-- a private method of a class that the tables say can be made, by its rows of tables_1 -/
def lw_okq (q : MethodName × Nat) : Prop := (q.1.cls ≠ "java/lang/invoke/MethodHandle" ∧ q.1.cls ≠ "java/lang/invoke/VarHandle") ∧ Cond.instantiable q.1.cls q.2 ∈ tables_1 ∧ Cond.privateMethod q.1 ∈ tables_1 ∧ Cond.instanceMethod q.1 ∈ tables_1
theorem lw_p0 : lw_okq (⟨"java/lang/Throwable", "fillInStackTrace", "(I)Ljava/lang/Throwable;"⟩, 6) := ⟨⟨by decide +kernel, by decide +kernel⟩, List.mem_of_getElem? (i := 454) (by decide +kernel), List.mem_of_getElem? (i := 452) (by decide +kernel), List.mem_of_getElem? (i := 453) (by decide +kernel)⟩
theorem lw_p1 : lw_okq (⟨"DictionaryHouse", "added", "(III)I"⟩, 6) := ⟨⟨by decide +kernel, by decide +kernel⟩, List.mem_of_getElem? (i := 31) (by decide +kernel), List.mem_of_getElem? (i := 565) (by decide +kernel), List.mem_of_getElem? (i := 566) (by decide +kernel)⟩
theorem lw_p2 : lw_okq (⟨"DictionaryHouse$Expressions", "placesFor", "(III)I"⟩, 5) := ⟨⟨by decide +kernel, by decide +kernel⟩, List.mem_of_getElem? (i := 91) (by decide +kernel), List.mem_of_getElem? (i := 573) (by decide +kernel), List.mem_of_getElem? (i := 574) (by decide +kernel)⟩
theorem lw_p3 : lw_okq (⟨"DictionaryHouse$Typing", "layOut", "(I)V"⟩, 14) := ⟨⟨by decide +kernel, by decide +kernel⟩, List.mem_of_getElem? (i := 146) (by decide +kernel), List.mem_of_getElem? (i := 674) (by decide +kernel), List.mem_of_getElem? (i := 675) (by decide +kernel)⟩
theorem lw_p4 : lw_okq (⟨"DictionaryHouse$Typing", "lay", "(III)V"⟩, 14) := ⟨⟨by decide +kernel, by decide +kernel⟩, List.mem_of_getElem? (i := 146) (by decide +kernel), List.mem_of_getElem? (i := 682) (by decide +kernel), List.mem_of_getElem? (i := 683) (by decide +kernel)⟩
theorem lw_p5 : lw_okq (⟨"DictionaryHouse$Typing", "placeOfOther", "(I)I"⟩, 14) := ⟨⟨by decide +kernel, by decide +kernel⟩, List.mem_of_getElem? (i := 146) (by decide +kernel), List.mem_of_getElem? (i := 694) (by decide +kernel), List.mem_of_getElem? (i := 695) (by decide +kernel)⟩
theorem lw_p6 : lw_okq (⟨"DictionaryHouse$Typing", "findTypeAt", "(I)Z"⟩, 14) := ⟨⟨by decide +kernel, by decide +kernel⟩, List.mem_of_getElem? (i := 146) (by decide +kernel), List.mem_of_getElem? (i := 715) (by decide +kernel), List.mem_of_getElem? (i := 716) (by decide +kernel)⟩
theorem lw_p7 : lw_okq (⟨"DictionaryHouse$Graph", "addParts", "(III)I"⟩, 10) := ⟨⟨by decide +kernel, by decide +kernel⟩, List.mem_of_getElem? (i := 152) (by decide +kernel), List.mem_of_getElem? (i := 735) (by decide +kernel), List.mem_of_getElem? (i := 736) (by decide +kernel)⟩
theorem lw_p8 : lw_okq (⟨"DictionaryHouse$Typing", "primitiveNode", "(I)I"⟩, 14) := ⟨⟨by decide +kernel, by decide +kernel⟩, List.mem_of_getElem? (i := 146) (by decide +kernel), List.mem_of_getElem? (i := 739) (by decide +kernel), List.mem_of_getElem? (i := 740) (by decide +kernel)⟩
theorem lw_p9 : lw_okq (⟨"DictionaryHouse$Typing", "arrow", "(II)I"⟩, 14) := ⟨⟨by decide +kernel, by decide +kernel⟩, List.mem_of_getElem? (i := 146) (by decide +kernel), List.mem_of_getElem? (i := 743) (by decide +kernel), List.mem_of_getElem? (i := 744) (by decide +kernel)⟩
theorem lw_p10 : lw_okq (⟨"DictionaryHouse$Typing", "joinLocal", "(II)Z"⟩, 14) := ⟨⟨by decide +kernel, by decide +kernel⟩, List.mem_of_getElem? (i := 146) (by decide +kernel), List.mem_of_getElem? (i := 747) (by decide +kernel), List.mem_of_getElem? (i := 748) (by decide +kernel)⟩
theorem lw_p11 : lw_okq (⟨"DictionaryHouse$Typing", "joinFilled", "(II)Z"⟩, 14) := ⟨⟨by decide +kernel, by decide +kernel⟩, List.mem_of_getElem? (i := 146) (by decide +kernel), List.mem_of_getElem? (i := 755) (by decide +kernel), List.mem_of_getElem? (i := 756) (by decide +kernel)⟩
theorem lw_p12 : lw_okq (⟨"DictionaryHouse$Typing", "nodeFor", "(II)I"⟩, 14) := ⟨⟨by decide +kernel, by decide +kernel⟩, List.mem_of_getElem? (i := 146) (by decide +kernel), List.mem_of_getElem? (i := 769) (by decide +kernel), List.mem_of_getElem? (i := 770) (by decide +kernel)⟩
theorem lw_p13 : lw_okq (⟨"DictionaryHouse$Typing", "markWanted", "(I)V"⟩, 14) := ⟨⟨by decide +kernel, by decide +kernel⟩, List.mem_of_getElem? (i := 146) (by decide +kernel), List.mem_of_getElem? (i := 773) (by decide +kernel), List.mem_of_getElem? (i := 774) (by decide +kernel)⟩
theorem lw_p14 : lw_okq (⟨"DictionaryHouse$Checker", "nodeForShape", "(I)I"⟩, 9) := ⟨⟨by decide +kernel, by decide +kernel⟩, List.mem_of_getElem? (i := 232) (by decide +kernel), List.mem_of_getElem? (i := 794) (by decide +kernel), List.mem_of_getElem? (i := 795) (by decide +kernel)⟩
theorem lw_p15 : lw_okq (⟨"DictionaryHouse$Graph", "countUsers", "()I"⟩, 10) := ⟨⟨by decide +kernel, by decide +kernel⟩, List.mem_of_getElem? (i := 152) (by decide +kernel), List.mem_of_getElem? (i := 807) (by decide +kernel), List.mem_of_getElem? (i := 808) (by decide +kernel)⟩
def lw_privs_1 : List (MethodName × Nat) := [(⟨"java/lang/Throwable", "fillInStackTrace", "(I)Ljava/lang/Throwable;"⟩, 6), (⟨"DictionaryHouse", "added", "(III)I"⟩, 6), (⟨"DictionaryHouse$Expressions", "placesFor", "(III)I"⟩, 5), (⟨"DictionaryHouse$Typing", "layOut", "(I)V"⟩, 14), (⟨"DictionaryHouse$Typing", "lay", "(III)V"⟩, 14), (⟨"DictionaryHouse$Typing", "placeOfOther", "(I)I"⟩, 14), (⟨"DictionaryHouse$Typing", "findTypeAt", "(I)Z"⟩, 14), (⟨"DictionaryHouse$Graph", "addParts", "(III)I"⟩, 10), (⟨"DictionaryHouse$Typing", "primitiveNode", "(I)I"⟩, 14), (⟨"DictionaryHouse$Typing", "arrow", "(II)I"⟩, 14), (⟨"DictionaryHouse$Typing", "joinLocal", "(II)Z"⟩, 14), (⟨"DictionaryHouse$Typing", "joinFilled", "(II)Z"⟩, 14), (⟨"DictionaryHouse$Typing", "nodeFor", "(II)I"⟩, 14), (⟨"DictionaryHouse$Typing", "markWanted", "(I)V"⟩, 14), (⟨"DictionaryHouse$Checker", "nodeForShape", "(I)I"⟩, 9), (⟨"DictionaryHouse$Graph", "countUsers", "()I"⟩, 10)]
theorem lw_r1 : ∀ q ∈ lw_privs_1, lw_okq q := List.forall_mem_cons.mpr ⟨lw_p0, List.forall_mem_cons.mpr ⟨lw_p1, List.forall_mem_cons.mpr ⟨lw_p2, List.forall_mem_cons.mpr ⟨lw_p3, List.forall_mem_cons.mpr ⟨lw_p4, List.forall_mem_cons.mpr ⟨lw_p5, List.forall_mem_cons.mpr ⟨lw_p6, List.forall_mem_cons.mpr ⟨lw_p7, List.forall_mem_cons.mpr ⟨lw_p8, List.forall_mem_cons.mpr ⟨lw_p9, List.forall_mem_cons.mpr ⟨lw_p10, List.forall_mem_cons.mpr ⟨lw_p11, List.forall_mem_cons.mpr ⟨lw_p12, List.forall_mem_cons.mpr ⟨lw_p13, List.forall_mem_cons.mpr ⟨lw_p14, List.forall_mem_cons.mpr ⟨lw_p15, fun _ h => absurd h List.not_mem_nil⟩⟩⟩⟩⟩⟩⟩⟩⟩⟩⟩⟩⟩⟩⟩⟩
theorem lw_p16 : lw_okq (⟨"DictionaryHouse$Graph", "addUser", "(I)V"⟩, 10) := ⟨⟨by decide +kernel, by decide +kernel⟩, List.mem_of_getElem? (i := 152) (by decide +kernel), List.mem_of_getElem? (i := 1071) (by decide +kernel), List.mem_of_getElem? (i := 1072) (by decide +kernel)⟩
theorem lw_p17 : lw_okq (⟨"DictionaryHouse$Graph", "release", "(II)I"⟩, 10) := ⟨⟨by decide +kernel, by decide +kernel⟩, List.mem_of_getElem? (i := 152) (by decide +kernel), List.mem_of_getElem? (i := 1075) (by decide +kernel), List.mem_of_getElem? (i := 1076) (by decide +kernel)⟩
theorem lw_p18 : lw_okq (⟨"DictionaryHouse$Conditions", "followThoseAt", "(I)V"⟩, 9) := ⟨⟨by decide +kernel, by decide +kernel⟩, List.mem_of_getElem? (i := 242) (by decide +kernel), List.mem_of_getElem? (i := 1100) (by decide +kernel), List.mem_of_getElem? (i := 1101) (by decide +kernel)⟩
theorem lw_p19 : lw_okq (⟨"DictionaryHouse$Conditions", "follow", "(II)V"⟩, 9) := ⟨⟨by decide +kernel, by decide +kernel⟩, List.mem_of_getElem? (i := 242) (by decide +kernel), List.mem_of_getElem? (i := 1110) (by decide +kernel), List.mem_of_getElem? (i := 1111) (by decide +kernel)⟩
theorem lw_p20 : lw_okq (⟨"DictionaryHouse$Conditions", "judge", "(II)V"⟩, 9) := ⟨⟨by decide +kernel, by decide +kernel⟩, List.mem_of_getElem? (i := 242) (by decide +kernel), List.mem_of_getElem? (i := 1124) (by decide +kernel), List.mem_of_getElem? (i := 1125) (by decide +kernel)⟩
theorem lw_p21 : lw_okq (⟨"DictionaryHouse$Graph", "see", "(II)I"⟩, 10) := ⟨⟨by decide +kernel, by decide +kernel⟩, List.mem_of_getElem? (i := 152) (by decide +kernel), List.mem_of_getElem? (i := 1204) (by decide +kernel), List.mem_of_getElem? (i := 1205) (by decide +kernel)⟩
theorem lw_p22 : lw_okq (⟨"DictionaryHouse$Checker", "gatherRemaining", "()I"⟩, 9) := ⟨⟨by decide +kernel, by decide +kernel⟩, List.mem_of_getElem? (i := 232) (by decide +kernel), List.mem_of_getElem? (i := 1208) (by decide +kernel), List.mem_of_getElem? (i := 1209) (by decide +kernel)⟩
theorem lw_p23 : lw_okq (⟨"DictionaryHouse$Checker", "numberedTypeOfWhole", "()I"⟩, 9) := ⟨⟨by decide +kernel, by decide +kernel⟩, List.mem_of_getElem? (i := 232) (by decide +kernel), List.mem_of_getElem? (i := 1225) (by decide +kernel), List.mem_of_getElem? (i := 1226) (by decide +kernel)⟩
theorem lw_p24 : lw_okq (⟨"DictionaryHouse$Checker", "numberedType", "(II)I"⟩, 9) := ⟨⟨by decide +kernel, by decide +kernel⟩, List.mem_of_getElem? (i := 232) (by decide +kernel), List.mem_of_getElem? (i := 1236) (by decide +kernel), List.mem_of_getElem? (i := 1237) (by decide +kernel)⟩
theorem lw_p25 : lw_okq (⟨"DictionaryHouse", "isMember", "(II)Z"⟩, 6) := ⟨⟨by decide +kernel, by decide +kernel⟩, List.mem_of_getElem? (i := 31) (by decide +kernel), List.mem_of_getElem? (i := 1277) (by decide +kernel), List.mem_of_getElem? (i := 1278) (by decide +kernel)⟩
theorem lw_p26 : lw_okq (⟨"DictionaryHouse", "canBeShown", "(I)Z"⟩, 6) := ⟨⟨by decide +kernel, by decide +kernel⟩, List.mem_of_getElem? (i := 31) (by decide +kernel), List.mem_of_getElem? (i := 1291) (by decide +kernel), List.mem_of_getElem? (i := 1292) (by decide +kernel)⟩
theorem lw_p27 : lw_okq (⟨"DictionaryHouse$Machine", "enter", "(III)V"⟩, 17) := ⟨⟨by decide +kernel, by decide +kernel⟩, List.mem_of_getElem? (i := 305) (by decide +kernel), List.mem_of_getElem? (i := 1313) (by decide +kernel), List.mem_of_getElem? (i := 1314) (by decide +kernel)⟩
theorem lw_p28 : lw_okq (⟨"DictionaryHouse$Machine", "isGoing", "()Z"⟩, 17) := ⟨⟨by decide +kernel, by decide +kernel⟩, List.mem_of_getElem? (i := 305) (by decide +kernel), List.mem_of_getElem? (i := 1317) (by decide +kernel), List.mem_of_getElem? (i := 1318) (by decide +kernel)⟩
theorem lw_p29 : lw_okq (⟨"DictionaryHouse$Machine", "evaluate", "()V"⟩, 17) := ⟨⟨by decide +kernel, by decide +kernel⟩, List.mem_of_getElem? (i := 305) (by decide +kernel), List.mem_of_getElem? (i := 1325) (by decide +kernel), List.mem_of_getElem? (i := 1326) (by decide +kernel)⟩
theorem lw_p30 : lw_okq (⟨"DictionaryHouse$Machine", "takeStep", "()Z"⟩, 17) := ⟨⟨by decide +kernel, by decide +kernel⟩, List.mem_of_getElem? (i := 305) (by decide +kernel), List.mem_of_getElem? (i := 1329) (by decide +kernel), List.mem_of_getElem? (i := 1330) (by decide +kernel)⟩
theorem lw_p31 : lw_okq (⟨"DictionaryHouse$Machine", "yieldValue", "(I)V"⟩, 17) := ⟨⟨by decide +kernel, by decide +kernel⟩, List.mem_of_getElem? (i := 305) (by decide +kernel), List.mem_of_getElem? (i := 1343) (by decide +kernel), List.mem_of_getElem? (i := 1344) (by decide +kernel)⟩
def lw_privs_2 : List (MethodName × Nat) := [(⟨"DictionaryHouse$Graph", "addUser", "(I)V"⟩, 10), (⟨"DictionaryHouse$Graph", "release", "(II)I"⟩, 10), (⟨"DictionaryHouse$Conditions", "followThoseAt", "(I)V"⟩, 9), (⟨"DictionaryHouse$Conditions", "follow", "(II)V"⟩, 9), (⟨"DictionaryHouse$Conditions", "judge", "(II)V"⟩, 9), (⟨"DictionaryHouse$Graph", "see", "(II)I"⟩, 10), (⟨"DictionaryHouse$Checker", "gatherRemaining", "()I"⟩, 9), (⟨"DictionaryHouse$Checker", "numberedTypeOfWhole", "()I"⟩, 9), (⟨"DictionaryHouse$Checker", "numberedType", "(II)I"⟩, 9), (⟨"DictionaryHouse", "isMember", "(II)Z"⟩, 6), (⟨"DictionaryHouse", "canBeShown", "(I)Z"⟩, 6), (⟨"DictionaryHouse$Machine", "enter", "(III)V"⟩, 17), (⟨"DictionaryHouse$Machine", "isGoing", "()Z"⟩, 17), (⟨"DictionaryHouse$Machine", "evaluate", "()V"⟩, 17), (⟨"DictionaryHouse$Machine", "takeStep", "()Z"⟩, 17), (⟨"DictionaryHouse$Machine", "yieldValue", "(I)V"⟩, 17)]
theorem lw_r2 : ∀ q ∈ lw_privs_2, lw_okq q := List.forall_mem_cons.mpr ⟨lw_p16, List.forall_mem_cons.mpr ⟨lw_p17, List.forall_mem_cons.mpr ⟨lw_p18, List.forall_mem_cons.mpr ⟨lw_p19, List.forall_mem_cons.mpr ⟨lw_p20, List.forall_mem_cons.mpr ⟨lw_p21, List.forall_mem_cons.mpr ⟨lw_p22, List.forall_mem_cons.mpr ⟨lw_p23, List.forall_mem_cons.mpr ⟨lw_p24, List.forall_mem_cons.mpr ⟨lw_p25, List.forall_mem_cons.mpr ⟨lw_p26, List.forall_mem_cons.mpr ⟨lw_p27, List.forall_mem_cons.mpr ⟨lw_p28, List.forall_mem_cons.mpr ⟨lw_p29, List.forall_mem_cons.mpr ⟨lw_p30, List.forall_mem_cons.mpr ⟨lw_p31, fun _ h => absurd h List.not_mem_nil⟩⟩⟩⟩⟩⟩⟩⟩⟩⟩⟩⟩⟩⟩⟩⟩
theorem lw_p32 : lw_okq (⟨"DictionaryHouse$Machine", "primitiveCell", "(I)I"⟩, 17) := ⟨⟨by decide +kernel, by decide +kernel⟩, List.mem_of_getElem? (i := 305) (by decide +kernel), List.mem_of_getElem? (i := 1347) (by decide +kernel), List.mem_of_getElem? (i := 1348) (by decide +kernel)⟩
theorem lw_p33 : lw_okq (⟨"DictionaryHouse$Machine", "letWait", "(IIIII)V"⟩, 17) := ⟨⟨by decide +kernel, by decide +kernel⟩, List.mem_of_getElem? (i := 305) (by decide +kernel), List.mem_of_getElem? (i := 1362) (by decide +kernel), List.mem_of_getElem? (i := 1363) (by decide +kernel)⟩
theorem lw_p34 : lw_okq (⟨"DictionaryHouse$Machine", "enterMethod", "(II)V"⟩, 17) := ⟨⟨by decide +kernel, by decide +kernel⟩, List.mem_of_getElem? (i := 305) (by decide +kernel), List.mem_of_getElem? (i := 1366) (by decide +kernel), List.mem_of_getElem? (i := 1367) (by decide +kernel)⟩
theorem lw_p35 : lw_okq (⟨"DictionaryHouse$Machine", "enterDefinition", "(I)V"⟩, 17) := ⟨⟨by decide +kernel, by decide +kernel⟩, List.mem_of_getElem? (i := 305) (by decide +kernel), List.mem_of_getElem? (i := 1391) (by decide +kernel), List.mem_of_getElem? (i := 1392) (by decide +kernel)⟩
theorem lw_p36 : lw_okq (⟨"DictionaryHouse$Machine", "goOn", "()V"⟩, 17) := ⟨⟨by decide +kernel, by decide +kernel⟩, List.mem_of_getElem? (i := 305) (by decide +kernel), List.mem_of_getElem? (i := 1395) (by decide +kernel), List.mem_of_getElem? (i := 1396) (by decide +kernel)⟩
theorem lw_p37 : lw_okq (⟨"DictionaryHouse$Machine", "call", "(II)V"⟩, 17) := ⟨⟨by decide +kernel, by decide +kernel⟩, List.mem_of_getElem? (i := 305) (by decide +kernel), List.mem_of_getElem? (i := 1399) (by decide +kernel), List.mem_of_getElem? (i := 1400) (by decide +kernel)⟩
theorem lw_p38 : lw_okq (⟨"DictionaryHouse$Machine", "finish", "(IIII)V"⟩, 17) := ⟨⟨by decide +kernel, by decide +kernel⟩, List.mem_of_getElem? (i := 305) (by decide +kernel), List.mem_of_getElem? (i := 1409) (by decide +kernel), List.mem_of_getElem? (i := 1410) (by decide +kernel)⟩
theorem lw_p39 : lw_okq (⟨"DictionaryHouse$Machine", "fold", "(IIII)V"⟩, 17) := ⟨⟨by decide +kernel, by decide +kernel⟩, List.mem_of_getElem? (i := 305) (by decide +kernel), List.mem_of_getElem? (i := 1427) (by decide +kernel), List.mem_of_getElem? (i := 1428) (by decide +kernel)⟩
theorem lw_p40 : lw_okq (⟨"DictionaryHouse$Machine", "keepResult", "()V"⟩, 17) := ⟨⟨by decide +kernel, by decide +kernel⟩, List.mem_of_getElem? (i := 305) (by decide +kernel), List.mem_of_getElem? (i := 1431) (by decide +kernel), List.mem_of_getElem? (i := 1432) (by decide +kernel)⟩
theorem lw_p41 : lw_okq (⟨"DictionaryHouseModel", "isType", "(I)Z"⟩, 81) := ⟨⟨by decide +kernel, by decide +kernel⟩, List.mem_of_getElem? (i := 1451) (by decide +kernel), List.mem_of_getElem? (i := 1711) (by decide +kernel), List.mem_of_getElem? (i := 1712) (by decide +kernel)⟩
theorem lw_p42 : lw_okq (⟨"DictionaryHouseModel", "intern", "(III)I"⟩, 81) := ⟨⟨by decide +kernel, by decide +kernel⟩, List.mem_of_getElem? (i := 1451) (by decide +kernel), List.mem_of_getElem? (i := 1715) (by decide +kernel), List.mem_of_getElem? (i := 1716) (by decide +kernel)⟩
theorem lw_p43 : lw_okq (⟨"DictionaryHouseModel", "find", "(III)I"⟩, 81) := ⟨⟨by decide +kernel, by decide +kernel⟩, List.mem_of_getElem? (i := 1451) (by decide +kernel), List.mem_of_getElem? (i := 1719) (by decide +kernel), List.mem_of_getElem? (i := 1720) (by decide +kernel)⟩
theorem lw_p44 : lw_okq (⟨"DictionaryHouseModel", "isClass", "(I)Z"⟩, 81) := ⟨⟨by decide +kernel, by decide +kernel⟩, List.mem_of_getElem? (i := 1451) (by decide +kernel), List.mem_of_getElem? (i := 1731) (by decide +kernel), List.mem_of_getElem? (i := 1732) (by decide +kernel)⟩
theorem lw_p45 : lw_okq (⟨"DictionaryHouseModel", "variablesOf", "(I)I"⟩, 81) := ⟨⟨by decide +kernel, by decide +kernel⟩, List.mem_of_getElem? (i := 1451) (by decide +kernel), List.mem_of_getElem? (i := 1739) (by decide +kernel), List.mem_of_getElem? (i := 1740) (by decide +kernel)⟩
theorem lw_p46 : lw_okq (⟨"DictionaryHouseModel", "hasInstance", "(I)Z"⟩, 81) := ⟨⟨by decide +kernel, by decide +kernel⟩, List.mem_of_getElem? (i := 1451) (by decide +kernel), List.mem_of_getElem? (i := 1743) (by decide +kernel), List.mem_of_getElem? (i := 1744) (by decide +kernel)⟩
theorem lw_p47 : lw_okq (⟨"DictionaryHouseModel", "add", "(IIII)I"⟩, 81) := ⟨⟨by decide +kernel, by decide +kernel⟩, List.mem_of_getElem? (i := 1451) (by decide +kernel), List.mem_of_getElem? (i := 1755) (by decide +kernel), List.mem_of_getElem? (i := 1756) (by decide +kernel)⟩
def lw_privs_3 : List (MethodName × Nat) := [(⟨"DictionaryHouse$Machine", "primitiveCell", "(I)I"⟩, 17), (⟨"DictionaryHouse$Machine", "letWait", "(IIIII)V"⟩, 17), (⟨"DictionaryHouse$Machine", "enterMethod", "(II)V"⟩, 17), (⟨"DictionaryHouse$Machine", "enterDefinition", "(I)V"⟩, 17), (⟨"DictionaryHouse$Machine", "goOn", "()V"⟩, 17), (⟨"DictionaryHouse$Machine", "call", "(II)V"⟩, 17), (⟨"DictionaryHouse$Machine", "finish", "(IIII)V"⟩, 17), (⟨"DictionaryHouse$Machine", "fold", "(IIII)V"⟩, 17), (⟨"DictionaryHouse$Machine", "keepResult", "()V"⟩, 17), (⟨"DictionaryHouseModel", "isType", "(I)Z"⟩, 81), (⟨"DictionaryHouseModel", "intern", "(III)I"⟩, 81), (⟨"DictionaryHouseModel", "find", "(III)I"⟩, 81), (⟨"DictionaryHouseModel", "isClass", "(I)Z"⟩, 81), (⟨"DictionaryHouseModel", "variablesOf", "(I)I"⟩, 81), (⟨"DictionaryHouseModel", "hasInstance", "(I)Z"⟩, 81), (⟨"DictionaryHouseModel", "add", "(IIII)I"⟩, 81)]
theorem lw_r3 : ∀ q ∈ lw_privs_3, lw_okq q := List.forall_mem_cons.mpr ⟨lw_p32, List.forall_mem_cons.mpr ⟨lw_p33, List.forall_mem_cons.mpr ⟨lw_p34, List.forall_mem_cons.mpr ⟨lw_p35, List.forall_mem_cons.mpr ⟨lw_p36, List.forall_mem_cons.mpr ⟨lw_p37, List.forall_mem_cons.mpr ⟨lw_p38, List.forall_mem_cons.mpr ⟨lw_p39, List.forall_mem_cons.mpr ⟨lw_p40, List.forall_mem_cons.mpr ⟨lw_p41, List.forall_mem_cons.mpr ⟨lw_p42, List.forall_mem_cons.mpr ⟨lw_p43, List.forall_mem_cons.mpr ⟨lw_p44, List.forall_mem_cons.mpr ⟨lw_p45, List.forall_mem_cons.mpr ⟨lw_p46, List.forall_mem_cons.mpr ⟨lw_p47, fun _ h => absurd h List.not_mem_nil⟩⟩⟩⟩⟩⟩⟩⟩⟩⟩⟩⟩⟩⟩⟩⟩
theorem lw_p48 : lw_okq (⟨"DictionaryHouseModel", "make", "(ZIIII)I"⟩, 81) := ⟨⟨by decide +kernel, by decide +kernel⟩, List.mem_of_getElem? (i := 1451) (by decide +kernel), List.mem_of_getElem? (i := 1763) (by decide +kernel), List.mem_of_getElem? (i := 1764) (by decide +kernel)⟩
theorem lw_p49 : lw_okq (⟨"DictionaryHouseModel", "isExpression", "(I)Z"⟩, 81) := ⟨⟨by decide +kernel, by decide +kernel⟩, List.mem_of_getElem? (i := 1451) (by decide +kernel), List.mem_of_getElem? (i := 1775) (by decide +kernel), List.mem_of_getElem? (i := 1776) (by decide +kernel)⟩
theorem lw_p50 : lw_okq (⟨"DictionaryHouseModel", "typeAll", "(I)Z"⟩, 81) := ⟨⟨by decide +kernel, by decide +kernel⟩, List.mem_of_getElem? (i := 1451) (by decide +kernel), List.mem_of_getElem? (i := 1795) (by decide +kernel), List.mem_of_getElem? (i := 1796) (by decide +kernel)⟩
theorem lw_p51 : lw_okq (⟨"DictionaryHouseModel", "layOut", "(I)V"⟩, 81) := ⟨⟨by decide +kernel, by decide +kernel⟩, List.mem_of_getElem? (i := 1451) (by decide +kernel), List.mem_of_getElem? (i := 1799) (by decide +kernel), List.mem_of_getElem? (i := 1800) (by decide +kernel)⟩
theorem lw_p52 : lw_okq (⟨"DictionaryHouseModel", "variable", "()I"⟩, 81) := ⟨⟨by decide +kernel, by decide +kernel⟩, List.mem_of_getElem? (i := 1451) (by decide +kernel), List.mem_of_getElem? (i := 1803) (by decide +kernel), List.mem_of_getElem? (i := 1804) (by decide +kernel)⟩
theorem lw_p53 : lw_okq (⟨"DictionaryHouseModel", "node", "(III)I"⟩, 81) := ⟨⟨by decide +kernel, by decide +kernel⟩, List.mem_of_getElem? (i := 1451) (by decide +kernel), List.mem_of_getElem? (i := 1807) (by decide +kernel), List.mem_of_getElem? (i := 1808) (by decide +kernel)⟩
theorem lw_p54 : lw_okq (⟨"DictionaryHouseModel", "typePlace", "(I)Z"⟩, 81) := ⟨⟨by decide +kernel, by decide +kernel⟩, List.mem_of_getElem? (i := 1451) (by decide +kernel), List.mem_of_getElem? (i := 1811) (by decide +kernel), List.mem_of_getElem? (i := 1812) (by decide +kernel)⟩
theorem lw_p55 : lw_okq (⟨"DictionaryHouseModel", "unify", "(II)Z"⟩, 81) := ⟨⟨by decide +kernel, by decide +kernel⟩, List.mem_of_getElem? (i := 1451) (by decide +kernel), List.mem_of_getElem? (i := 1815) (by decide +kernel), List.mem_of_getElem? (i := 1816) (by decide +kernel)⟩
theorem lw_p56 : lw_okq (⟨"DictionaryHouseModel", "root", "(I)I"⟩, 81) := ⟨⟨by decide +kernel, by decide +kernel⟩, List.mem_of_getElem? (i := 1451) (by decide +kernel), List.mem_of_getElem? (i := 1819) (by decide +kernel), List.mem_of_getElem? (i := 1820) (by decide +kernel)⟩
theorem lw_p57 : lw_okq (⟨"DictionaryHouseModel", "primitiveNode", "(I)I"⟩, 81) := ⟨⟨by decide +kernel, by decide +kernel⟩, List.mem_of_getElem? (i := 1451) (by decide +kernel), List.mem_of_getElem? (i := 1823) (by decide +kernel), List.mem_of_getElem? (i := 1824) (by decide +kernel)⟩
theorem lw_p58 : lw_okq (⟨"DictionaryHouseModel", "arrow", "(II)I"⟩, 81) := ⟨⟨by decide +kernel, by decide +kernel⟩, List.mem_of_getElem? (i := 1451) (by decide +kernel), List.mem_of_getElem? (i := 1827) (by decide +kernel), List.mem_of_getElem? (i := 1828) (by decide +kernel)⟩
theorem lw_p59 : lw_okq (⟨"DictionaryHouseModel", "localNode", "(II)I"⟩, 81) := ⟨⟨by decide +kernel, by decide +kernel⟩, List.mem_of_getElem? (i := 1451) (by decide +kernel), List.mem_of_getElem? (i := 1831) (by decide +kernel), List.mem_of_getElem? (i := 1832) (by decide +kernel)⟩
theorem lw_p60 : lw_okq (⟨"DictionaryHouseModel", "useNode", "(III)I"⟩, 81) := ⟨⟨by decide +kernel, by decide +kernel⟩, List.mem_of_getElem? (i := 1451) (by decide +kernel), List.mem_of_getElem? (i := 1835) (by decide +kernel), List.mem_of_getElem? (i := 1836) (by decide +kernel)⟩
theorem lw_p61 : lw_okq (⟨"DictionaryHouseModel", "want", "(II)V"⟩, 81) := ⟨⟨by decide +kernel, by decide +kernel⟩, List.mem_of_getElem? (i := 1451) (by decide +kernel), List.mem_of_getElem? (i := 1839) (by decide +kernel), List.mem_of_getElem? (i := 1840) (by decide +kernel)⟩
theorem lw_p62 : lw_okq (⟨"DictionaryHouseModel", "copy", "(I)I"⟩, 81) := ⟨⟨by decide +kernel, by decide +kernel⟩, List.mem_of_getElem? (i := 1451) (by decide +kernel), List.mem_of_getElem? (i := 1843) (by decide +kernel), List.mem_of_getElem? (i := 1844) (by decide +kernel)⟩
theorem lw_p63 : lw_okq (⟨"DictionaryHouseModel", "givenNode", "(II)I"⟩, 81) := ⟨⟨by decide +kernel, by decide +kernel⟩, List.mem_of_getElem? (i := 1451) (by decide +kernel), List.mem_of_getElem? (i := 1847) (by decide +kernel), List.mem_of_getElem? (i := 1848) (by decide +kernel)⟩
def lw_privs_4 : List (MethodName × Nat) := [(⟨"DictionaryHouseModel", "make", "(ZIIII)I"⟩, 81), (⟨"DictionaryHouseModel", "isExpression", "(I)Z"⟩, 81), (⟨"DictionaryHouseModel", "typeAll", "(I)Z"⟩, 81), (⟨"DictionaryHouseModel", "layOut", "(I)V"⟩, 81), (⟨"DictionaryHouseModel", "variable", "()I"⟩, 81), (⟨"DictionaryHouseModel", "node", "(III)I"⟩, 81), (⟨"DictionaryHouseModel", "typePlace", "(I)Z"⟩, 81), (⟨"DictionaryHouseModel", "unify", "(II)Z"⟩, 81), (⟨"DictionaryHouseModel", "root", "(I)I"⟩, 81), (⟨"DictionaryHouseModel", "primitiveNode", "(I)I"⟩, 81), (⟨"DictionaryHouseModel", "arrow", "(II)I"⟩, 81), (⟨"DictionaryHouseModel", "localNode", "(II)I"⟩, 81), (⟨"DictionaryHouseModel", "useNode", "(III)I"⟩, 81), (⟨"DictionaryHouseModel", "want", "(II)V"⟩, 81), (⟨"DictionaryHouseModel", "copy", "(I)I"⟩, 81), (⟨"DictionaryHouseModel", "givenNode", "(II)I"⟩, 81)]
theorem lw_r4 : ∀ q ∈ lw_privs_4, lw_okq q := List.forall_mem_cons.mpr ⟨lw_p48, List.forall_mem_cons.mpr ⟨lw_p49, List.forall_mem_cons.mpr ⟨lw_p50, List.forall_mem_cons.mpr ⟨lw_p51, List.forall_mem_cons.mpr ⟨lw_p52, List.forall_mem_cons.mpr ⟨lw_p53, List.forall_mem_cons.mpr ⟨lw_p54, List.forall_mem_cons.mpr ⟨lw_p55, List.forall_mem_cons.mpr ⟨lw_p56, List.forall_mem_cons.mpr ⟨lw_p57, List.forall_mem_cons.mpr ⟨lw_p58, List.forall_mem_cons.mpr ⟨lw_p59, List.forall_mem_cons.mpr ⟨lw_p60, List.forall_mem_cons.mpr ⟨lw_p61, List.forall_mem_cons.mpr ⟨lw_p62, List.forall_mem_cons.mpr ⟨lw_p63, fun _ h => absurd h List.not_mem_nil⟩⟩⟩⟩⟩⟩⟩⟩⟩⟩⟩⟩⟩⟩⟩⟩
theorem lw_p64 : lw_okq (⟨"DictionaryHouseModel", "isEndless", "()Z"⟩, 81) := ⟨⟨by decide +kernel, by decide +kernel⟩, List.mem_of_getElem? (i := 1451) (by decide +kernel), List.mem_of_getElem? (i := 1851) (by decide +kernel), List.mem_of_getElem? (i := 1852) (by decide +kernel)⟩
theorem lw_p65 : lw_okq (⟨"DictionaryHouseModel", "findVariables", "(I)V"⟩, 81) := ⟨⟨by decide +kernel, by decide +kernel⟩, List.mem_of_getElem? (i := 1451) (by decide +kernel), List.mem_of_getElem? (i := 1855) (by decide +kernel), List.mem_of_getElem? (i := 1856) (by decide +kernel)⟩
theorem lw_p66 : lw_okq (⟨"DictionaryHouseModel", "followAll", "()V"⟩, 81) := ⟨⟨by decide +kernel, by decide +kernel⟩, List.mem_of_getElem? (i := 1451) (by decide +kernel), List.mem_of_getElem? (i := 1859) (by decide +kernel), List.mem_of_getElem? (i := 1860) (by decide +kernel)⟩
theorem lw_p67 : lw_okq (⟨"DictionaryHouseModel", "follow", "(II)V"⟩, 81) := ⟨⟨by decide +kernel, by decide +kernel⟩, List.mem_of_getElem? (i := 1451) (by decide +kernel), List.mem_of_getElem? (i := 1863) (by decide +kernel), List.mem_of_getElem? (i := 1864) (by decide +kernel)⟩
theorem lw_p68 : lw_okq (⟨"DictionaryHouseModel", "implies", "(II)Z"⟩, 81) := ⟨⟨by decide +kernel, by decide +kernel⟩, List.mem_of_getElem? (i := 1451) (by decide +kernel), List.mem_of_getElem? (i := 1867) (by decide +kernel), List.mem_of_getElem? (i := 1868) (by decide +kernel)⟩
theorem lw_p69 : lw_okq (⟨"DictionaryHouseModel", "indexOf", "(I)I"⟩, 81) := ⟨⟨by decide +kernel, by decide +kernel⟩, List.mem_of_getElem? (i := 1451) (by decide +kernel), List.mem_of_getElem? (i := 1871) (by decide +kernel), List.mem_of_getElem? (i := 1872) (by decide +kernel)⟩
theorem lw_p70 : lw_okq (⟨"DictionaryHouseModel", "lowest", "(I)I"⟩, 81) := ⟨⟨by decide +kernel, by decide +kernel⟩, List.mem_of_getElem? (i := 1451) (by decide +kernel), List.mem_of_getElem? (i := 1875) (by decide +kernel), List.mem_of_getElem? (i := 1876) (by decide +kernel)⟩
theorem lw_p71 : lw_okq (⟨"DictionaryHouseModel", "typeOf", "(I)I"⟩, 81) := ⟨⟨by decide +kernel, by decide +kernel⟩, List.mem_of_getElem? (i := 1451) (by decide +kernel), List.mem_of_getElem? (i := 1882) (by decide +kernel), List.mem_of_getElem? (i := 1883) (by decide +kernel)⟩
theorem lw_p72 : lw_okq (⟨"DictionaryHouseModel", "keep", "(I)V"⟩, 81) := ⟨⟨by decide +kernel, by decide +kernel⟩, List.mem_of_getElem? (i := 1451) (by decide +kernel), List.mem_of_getElem? (i := 1886) (by decide +kernel), List.mem_of_getElem? (i := 1887) (by decide +kernel)⟩
theorem lw_p73 : lw_okq (⟨"DictionaryHouseModel", "termOf", "(I)I"⟩, 81) := ⟨⟨by decide +kernel, by decide +kernel⟩, List.mem_of_getElem? (i := 1451) (by decide +kernel), List.mem_of_getElem? (i := 1890) (by decide +kernel), List.mem_of_getElem? (i := 1891) (by decide +kernel)⟩
theorem lw_p74 : lw_okq (⟨"DictionaryHouseModel", "hasAbove", "(III)Z"⟩, 81) := ⟨⟨by decide +kernel, by decide +kernel⟩, List.mem_of_getElem? (i := 1451) (by decide +kernel), List.mem_of_getElem? (i := 1902) (by decide +kernel), List.mem_of_getElem? (i := 1903) (by decide +kernel)⟩
theorem lw_p75 : lw_okq (⟨"DictionaryHouseModel", "checkMethod", "(IIII)I"⟩, 81) := ⟨⟨by decide +kernel, by decide +kernel⟩, List.mem_of_getElem? (i := 1451) (by decide +kernel), List.mem_of_getElem? (i := 1906) (by decide +kernel), List.mem_of_getElem? (i := 1907) (by decide +kernel)⟩
theorem lw_p76 : lw_okq (⟨"DictionaryHouseModel", "isPlain", "(I)Z"⟩, 81) := ⟨⟨by decide +kernel, by decide +kernel⟩, List.mem_of_getElem? (i := 1451) (by decide +kernel), List.mem_of_getElem? (i := 1917) (by decide +kernel), List.mem_of_getElem? (i := 1918) (by decide +kernel)⟩
theorem lw_p77 : lw_okq (⟨"DictionaryHouseModel", "push", "(IIIIII)V"⟩, 81) := ⟨⟨by decide +kernel, by decide +kernel⟩, List.mem_of_getElem? (i := 1451) (by decide +kernel), List.mem_of_getElem? (i := 1921) (by decide +kernel), List.mem_of_getElem? (i := 1922) (by decide +kernel)⟩
theorem lw_p78 : lw_okq (⟨"DictionaryHouseModel", "work", "()V"⟩, 81) := ⟨⟨by decide +kernel, by decide +kernel⟩, List.mem_of_getElem? (i := 1451) (by decide +kernel), List.mem_of_getElem? (i := 1925) (by decide +kernel), List.mem_of_getElem? (i := 1926) (by decide +kernel)⟩
theorem lw_p79 : lw_okq (⟨"DictionaryHouseModel", "evaluate", "(IIIII)V"⟩, 81) := ⟨⟨by decide +kernel, by decide +kernel⟩, List.mem_of_getElem? (i := 1451) (by decide +kernel), List.mem_of_getElem? (i := 1929) (by decide +kernel), List.mem_of_getElem? (i := 1930) (by decide +kernel)⟩
def lw_privs_5 : List (MethodName × Nat) := [(⟨"DictionaryHouseModel", "isEndless", "()Z"⟩, 81), (⟨"DictionaryHouseModel", "findVariables", "(I)V"⟩, 81), (⟨"DictionaryHouseModel", "followAll", "()V"⟩, 81), (⟨"DictionaryHouseModel", "follow", "(II)V"⟩, 81), (⟨"DictionaryHouseModel", "implies", "(II)Z"⟩, 81), (⟨"DictionaryHouseModel", "indexOf", "(I)I"⟩, 81), (⟨"DictionaryHouseModel", "lowest", "(I)I"⟩, 81), (⟨"DictionaryHouseModel", "typeOf", "(I)I"⟩, 81), (⟨"DictionaryHouseModel", "keep", "(I)V"⟩, 81), (⟨"DictionaryHouseModel", "termOf", "(I)I"⟩, 81), (⟨"DictionaryHouseModel", "hasAbove", "(III)Z"⟩, 81), (⟨"DictionaryHouseModel", "checkMethod", "(IIII)I"⟩, 81), (⟨"DictionaryHouseModel", "isPlain", "(I)Z"⟩, 81), (⟨"DictionaryHouseModel", "push", "(IIIIII)V"⟩, 81), (⟨"DictionaryHouseModel", "work", "()V"⟩, 81), (⟨"DictionaryHouseModel", "evaluate", "(IIIII)V"⟩, 81)]
theorem lw_r5 : ∀ q ∈ lw_privs_5, lw_okq q := List.forall_mem_cons.mpr ⟨lw_p64, List.forall_mem_cons.mpr ⟨lw_p65, List.forall_mem_cons.mpr ⟨lw_p66, List.forall_mem_cons.mpr ⟨lw_p67, List.forall_mem_cons.mpr ⟨lw_p68, List.forall_mem_cons.mpr ⟨lw_p69, List.forall_mem_cons.mpr ⟨lw_p70, List.forall_mem_cons.mpr ⟨lw_p71, List.forall_mem_cons.mpr ⟨lw_p72, List.forall_mem_cons.mpr ⟨lw_p73, List.forall_mem_cons.mpr ⟨lw_p74, List.forall_mem_cons.mpr ⟨lw_p75, List.forall_mem_cons.mpr ⟨lw_p76, List.forall_mem_cons.mpr ⟨lw_p77, List.forall_mem_cons.mpr ⟨lw_p78, List.forall_mem_cons.mpr ⟨lw_p79, fun _ h => absurd h List.not_mem_nil⟩⟩⟩⟩⟩⟩⟩⟩⟩⟩⟩⟩⟩⟩⟩⟩
theorem lw_p80 : lw_okq (⟨"DictionaryHouseModel", "step", "()Z"⟩, 81) := ⟨⟨by decide +kernel, by decide +kernel⟩, List.mem_of_getElem? (i := 1451) (by decide +kernel), List.mem_of_getElem? (i := 1933) (by decide +kernel), List.mem_of_getElem? (i := 1934) (by decide +kernel)⟩
theorem lw_p81 : lw_okq (⟨"DictionaryHouseModel", "cell", "(IIIIII)I"⟩, 81) := ⟨⟨by decide +kernel, by decide +kernel⟩, List.mem_of_getElem? (i := 1451) (by decide +kernel), List.mem_of_getElem? (i := 1937) (by decide +kernel), List.mem_of_getElem? (i := 1938) (by decide +kernel)⟩
theorem lw_p82 : lw_okq (⟨"DictionaryHouseModel", "resolve", "(II)V"⟩, 81) := ⟨⟨by decide +kernel, by decide +kernel⟩, List.mem_of_getElem? (i := 1451) (by decide +kernel), List.mem_of_getElem? (i := 1941) (by decide +kernel), List.mem_of_getElem? (i := 1942) (by decide +kernel)⟩
theorem lw_p83 : lw_okq (⟨"DictionaryHouseModel", "enter", "(II)V"⟩, 81) := ⟨⟨by decide +kernel, by decide +kernel⟩, List.mem_of_getElem? (i := 1451) (by decide +kernel), List.mem_of_getElem? (i := 1945) (by decide +kernel), List.mem_of_getElem? (i := 1946) (by decide +kernel)⟩
theorem lw_p84 : lw_okq (⟨"DictionaryHouseModel", "call", "(II)V"⟩, 81) := ⟨⟨by decide +kernel, by decide +kernel⟩, List.mem_of_getElem? (i := 1451) (by decide +kernel), List.mem_of_getElem? (i := 1949) (by decide +kernel), List.mem_of_getElem? (i := 1950) (by decide +kernel)⟩
theorem lw_p85 : lw_okq (⟨"DictionaryHouseModel", "fold", "(III)V"⟩, 81) := ⟨⟨by decide +kernel, by decide +kernel⟩, List.mem_of_getElem? (i := 1451) (by decide +kernel), List.mem_of_getElem? (i := 1956) (by decide +kernel), List.mem_of_getElem? (i := 1957) (by decide +kernel)⟩
def lw_privs_6 : List (MethodName × Nat) := [(⟨"DictionaryHouseModel", "step", "()Z"⟩, 81), (⟨"DictionaryHouseModel", "cell", "(IIIIII)I"⟩, 81), (⟨"DictionaryHouseModel", "resolve", "(II)V"⟩, 81), (⟨"DictionaryHouseModel", "enter", "(II)V"⟩, 81), (⟨"DictionaryHouseModel", "call", "(II)V"⟩, 81), (⟨"DictionaryHouseModel", "fold", "(III)V"⟩, 81)]
theorem lw_r6 : ∀ q ∈ lw_privs_6, lw_okq q := List.forall_mem_cons.mpr ⟨lw_p80, List.forall_mem_cons.mpr ⟨lw_p81, List.forall_mem_cons.mpr ⟨lw_p82, List.forall_mem_cons.mpr ⟨lw_p83, List.forall_mem_cons.mpr ⟨lw_p84, List.forall_mem_cons.mpr ⟨lw_p85, fun _ h => absurd h List.not_mem_nil⟩⟩⟩⟩⟩⟩
def lw_privs : List (MethodName × Nat) := lw_privs_1 ++ (lw_privs_2 ++ (lw_privs_3 ++ (lw_privs_4 ++ (lw_privs_5 ++ (lw_privs_6)))))
def lw_tbl : List Cond := k2_sels lw_privs ++ tables_1
theorem lw_privs_ok : ∀ q ∈ lw_privs, lw_okq q := by
  show ∀ q ∈ lw_privs_1 ++ (lw_privs_2 ++ (lw_privs_3 ++ (lw_privs_4 ++ (lw_privs_5 ++ (lw_privs_6))))), lw_okq q
  exact List.forall_mem_append.mpr ⟨lw_r1, List.forall_mem_append.mpr ⟨lw_r2, List.forall_mem_append.mpr ⟨lw_r3, List.forall_mem_append.mpr ⟨lw_r4, List.forall_mem_append.mpr ⟨lw_r5, lw_r6⟩⟩⟩⟩⟩
-- ===== end of PART A; then your names; then what follows =====
end
section
/-! ===== BEGIN words of one list among another's, by their places ===== -/
theorem goodIn_r {big : List Cond} (ws : List Cond) (ps : List Nat) (hp : ws = ps.filterMap (fun i => big[i]?)) (h : ws.all goodWord = true) : GoodIn big ws := by
  intro w hw
  have h1 := List.all_eq_true.mp h w hw
  rw [hp] at hw
  obtain ⟨i, -, hi⟩ := List.mem_filterMap.mp hw
  have hm : w ∈ big := by first | exact List.mem_of_getElem? hi | exact List.getElem?_mem hi
  exact ⟨hm, good_of_word h1⟩
theorem goodIn_app {big a b : List Cond} (ha : GoodIn big a) (hb : GoodIn big b) : GoodIn big (a ++ b) := fun w h => (List.mem_append.mp h).elim (ha w) (hb w)
theorem goodIn_ca {big a b : List Cond} {c : Cond} (ha : GoodIn big (c :: a)) (hb : GoodIn big b) : GoodIn big (c :: (a ++ b)) := fun w h => (List.mem_cons.mp h).elim (fun e => ha w (List.mem_cons.mpr (Or.inl e))) (fun h => (List.mem_append.mp h).elim (fun h => ha w (List.mem_cons.mpr (Or.inr h))) (hb w))
theorem goodIn_sub {big ws : List Cond} (hm : ∀ w ∈ ws, w ∈ big) (h : ws.all goodWord = true) : GoodIn big ws := fun w hw => ⟨hm w hw, good_of_word (List.all_eq_true.mp h w hw)⟩
/-! ===== END ===== -/

/-! ===== BEGIN exceptions that leave a method, and their catching by the caller (launches without stack traces) ===== -/
section VXA
/-! The laws vx_back, vx_callV, vx_callS, vx_callSW, vx_throw0, vx_throwS follow proofs of the library, with one case more: JvmDerived/Free/Laws.lean (Back.of_free), Shelf42/LK1.lean (callV, callS), Shelf/KitTraced.lean (throwNew0V, throwNewS). -/
/-- where a method has thrown q: the class by its name, the cell, what was written, the world -/
def vx_T (XC : String → State → State → Prop) (st : State) (q : Addr) (t : State) (mc ms : Nat) (free : Addr → Prop) : Prop :=
  ∃ (E : String) (ce : Cell) (L : List Loc), XC E st t ∧ t.heap[q]? = some ce ∧ ce.vm = .none ∧ st.vm.findClass E = some ce.cls ∧ st.WarmedH t.vm ∧ st.sameButNew ({ t with vm := st.vm } : State) L mc ms ∧ ∀ z ∈ L, free z.base
def vx_Q (Qc : Array Value → State → Outcome → State → Prop) (XC : String → State → State → Prop) (mc ms : Nat) (free : Addr → Prop) : Array Value → State → Outcome → State → Prop := fun a st o t =>
  (Qc a st o t ∧ ∃ L, FrameEnd st o t L mc ms ∧ ∀ q ∈ L, free q.base) ∨ ∃ q, o = .threw q ∧ vx_T XC st q t mc ms free
/-- a callee that returns or throws -/
def vx_Met (l : Launch) (y : MethodName) (ws : List Cond) (rm : Room) (Pc : Array Value → State → Prop) (Qc : Array Value → State → Outcome → State → Prop) (XC : String → State → State → Prop) (mc ms : Nat) (free : Addr → Prop) : Prop :=
  MetFree l y (headSpec ws rm) Pc (fun _ _ _ _ _ => True) (vx_Q Qc XC mc ms free)
def vx_Post (XC : String → State → State → Prop) (mc ms : Nat) (free : Addr → Prop) : Pt → Array Value → Addr → Pt → Prop := fun A a q B =>
  ∃ (g : JFrame) (mk : MethodId) (t : State) (L : List Loc) (E : String) (ce : Cell), B.U.heap = t.heap ∧ B.U.vm = t.vm ∧ XC E (A.U.calling g mk a) t ∧ t.heap[q]? = some ce ∧ ce.vm = .none ∧ A.U.vm.findClass E = some ce.cls ∧ B.locs = A.locs ++ L ∧ (∀ z ∈ L, free z.base) ∧ B.cells = A.cells + mc ∧ B.slots = A.slots + ms
def vx_Back (l : Launch) (R : Room) (p : Program) (e : Env) (below : List Frame) (s : State) (sargs : Array Value) (y : MethodName) (len W9 : Nat)
    (Pre : Pt → Array Value → Prop) (Post : Pt → Array Value → Option Value → Pt → Prop) (PostX : Pt → Array Value → Addr → Pt → Prop) : Prop :=
  ∀ (m : MethodId) (meth : Method) (c : Code) (A : Pt) (g : JFrame) (ig : Instr) (mk : MethodId) (a : Array Value),
    Stand p l e R s m sargs below meth c A.U A.locs A.cells A.slots → g.method = m → g.locals.size = c.maxLocals → decode c.code g.pc = .ok (ig, len) →
    2 * g.monitorRoom + (g.stack.map fun v => v.category).sum ≤ W9 → A.U.methodNamed? y = some mk → Pre A a →
    (∃ (v : Option Value) (B : Pt), Stand p l e R s m sargs below meth c B.U B.locs B.cells B.slots ∧ Post A a v B ∧
      Steps p.tables e below (doInvoke e (A.U.setTop g) [] mk a).1 (B.U.setTop { g with pc := g.pc + len, stack := v.toList ++ g.stack })) ∨
    (∃ (q : Addr) (B : Pt), Stand p l e R s m sargs below meth c B.U B.locs B.cells B.slots ∧ PostX A a q B ∧
      Steps p.tables e below (doInvoke e (A.U.setTop g) [] mk a).1 ((B.U.setTop g).pushFrame (.throwing q)))
section Payer
variable {l : Launch} {R : Room} {p : Program} {e : Env} {below : List Frame} {s : State} {sargs : Array Value} {y : MethodName} {len W9 : Nat}
theorem vx_back {ws : List Cond} {rm : Room} {Pc : Array Value → State → Prop} {Qc : Array Value → State → Outcome → State → Prop} {XC : String → State → State → Prop} {mc ms : Nat} {free : Addr → Prop} {bytes : ByteArray} {maxL : Nat} {ret : Option FieldType}
    (hM : vx_Met l y ws rm Pc Qc XC mc ms free) (hblind : FrameBlind Pc) (hrc : rm.cells = mc) (hrs : rm.slots = ms)
    (hframes : rm.frames + 1 ≤ R.frames) (hlocals : W9 + (maxL + 11) + rm.locals ≤ R.locals)
    (hws : ∀ w ∈ ws, ∀ a' U, s.WarmedH U.vm → w.before a' U = true) (hcode : Cond.code y bytes maxL ret ∈ ws) (hinit : ∀ a' U, s.WarmedH U.vm → (Cond.initialized y.cls).before a' U = true) :
    vx_Back l R p e below s sargs y len W9 (PreOf R mc ms Pc) (PostOf Qc mc ms free) (vx_Post XC mc ms free) := by
  intro m meth c A g ig mk a X hg hsize hdg hW hn hp
  have h1 : (headSpec ws rm).pre.before a A.U = true := atoms_intro fun w hw => hws w hw _ _ X.warmed
  have h2 : (Cond.code y bytes maxL ret).before a A.U = true := hws _ hcode _ _ X.warmed
  have h3 : (Cond.initialized y.cls).before a A.U = true := hinit _ _ X.warmed
  have h4 : A.cells + (headSpec ws rm).room.cells ≤ R.cells := by rw [show (headSpec ws rm).room.cells = mc from hrc]; exact hp.1
  have h5 : A.slots + (headSpec ws rm).room.slots ≤ R.slots := by rw [show (headSpec ws rm).room.slots = ms from hrs]; exact hp.2.1
  have hPc : Pc a (A.U.calling g mk a) := hblind _ _ _ _ hp.2.2
  obtain ⟨U, Ls, c0, s0⟩ := A
  dsimp only [Pt.U, Pt.locs, Pt.cells, Pt.slots] at h1 h2 h3 h4 h5 X hn hPc ⊢
  obtain ⟨methY, cY, hmY, hcY, -, hlY, -, -, -, -⟩ := Cond.code_spec hn h2
  obtain ⟨kY, hkY, -⟩ := className_of_methodNamed hn
  have hinitY : kY.init = .initialized := Cond.initialized_spec (findClass_of_methodNamed hn) hkY h3
  have h : At U g.method c below := by rw [hg]; exact X.here
  have hlocals9 : W9 + (maxL + 11) + (headSpec ws rm).room.locals ≤ R.locals := hlocals
  have happ : (headSpec ws rm).appliesLoose y e.platform (U.calling g mk a) = true :=
    Spec.appliesLoose_calling (g := g) h hdg hn hkY hinitY
      (X.room_calling (g := g) (R' := (headSpec ws rm).room) hsize hmY hcY hframes (by rw [hlY]; omega) h4 h5) h1
  obtain ⟨mid, hmid⟩ := h.above
  have hfr : (U.setTop g).frames = (.java g :: mid) ++ below := by rw [State.frames_setTop' g h.top, hmid]; rfl
  obtain ⟨o, s₂, hsteps, -, hend, hq⟩ := Steps.callFree hM p X.admits X.cas X.clock (acts := []) hfr happ hPc trivial
  have hq' : vx_Q Qc XC mc ms free a (U.calling g mk a) o s₂ := hq
  rw [State.frames_setTop' g h.top] at hend
  obtain ⟨g₀, hg0⟩ := Option.isSome_iff_exists.mp h.top
  obtain ⟨r, hr⟩ := State.topJava?_eq_some.mp hg0
  have hr' : (({ U with heap := s₂.heap, slotsUsed := s₂.slotsUsed } : State).setVm s₂.vm).frames = .java g₀ :: r := hr
  rcases hq' with ⟨hqc, L, hfe, hL⟩ | ⟨q, rfl, E, ce, L, hx, hce, hcv, hcl, hW₂, hsm, hL⟩
  · obtain ⟨⟨v, rfl⟩, hW₂, e2, q2, q3, q4, q5, q6⟩ := id hfe
    have e3 : s₂ = ({ (U.calling g mk a).setFrames s₂.frames with heap := s₂.heap, slotsUsed := s₂.slotsUsed } : State).setVm s₂.vm := by
      have : s₂ = ({ s₂ with vm := (U.calling g mk a).vm } : State).setVm s₂.vm := rfl
      rw [e2] at this
      exact this
    obtain ⟨c₂, i₂, len₂, hc₂, hd₂, hf₂⟩ := hend
    have hW' : U.WarmedH s₂.vm := hW₂
    have hcc : c₂ = c := by
      have h1 : s₂.code? g.method = U.code? g.method := by
        rw [State.code?_eq, State.code?_eq, hW'.alike.method?]
      exact Option.some.inj (hc₂.symm.trans (h1.trans h.code))
    subst hcc
    have hlen : len₂ = len := by rw [hdg] at hd₂; cases hd₂; rfl
    subst hlen
    have hs₂ : s₂ = (({ U with heap := s₂.heap, slotsUsed := s₂.slotsUsed } : State).setVm s₂.vm).setTop { g with pc := g.pc + len₂, stack := v.toList ++ g.stack } := by
      refine e3.trans ?_
      rw [hf₂, State.calling_eq h.top, State.setFrames_setFrames, State.setTop_of_frames _ hr', hr]
      rfl
    have hsame : U.sameButNew ({ U with heap := s₂.heap, slotsUsed := s₂.slotsUsed } : State) L mc ms := by
      refine ⟨?_, q2, q3, q4, q5, q6⟩
      obtain ⟨t, ht, -⟩ := State.frames_cons hr
      show ({ U with heap := s₂.heap, slotsUsed := s₂.slotsUsed } : State) = { U.setFrames U.frames with heap := s₂.heap, slotsUsed := s₂.slotsUsed }
      rw [State.setFrames_self ht]
    subst hg
    refine Or.inl ⟨v, ⟨(({ U with heap := s₂.heap, slotsUsed := s₂.slotsUsed } : State).setVm s₂.vm), Ls ++ L, c0 + mc, s0 + ms⟩,
      ⟨X.admits, X.cas, X.clock, X.frames, X.room, X.hears, X.method, X.code, (X.here.setHeapUsed s₂.heap s₂.slotsUsed).setVm hW'.alike, X.tail, State.WarmedH.trans X.warmed hW', X.limits, X.bytes, X.same.trans (hsame.setVm s.vm)⟩,
      ⟨g, mk, s₂, L, rfl, rfl, hqc, rfl, hL, rfl, rfl⟩, ?_⟩
    show Steps p.tables e below _ ((({ U with heap := s₂.heap, slotsUsed := s₂.slotsUsed } : State).setVm s₂.vm).setTop { g with pc := g.pc + len₂, stack := v.toList ++ g.stack })
    rw [← hs₂]
    exact hsteps
  · obtain ⟨e2, q2, q3, q4, q5, q6⟩ := id hsm
    have e3 : s₂ = ({ (U.calling g mk a).setFrames s₂.frames with heap := s₂.heap, slotsUsed := s₂.slotsUsed } : State).setVm s₂.vm := by
      have : s₂ = ({ s₂ with vm := (U.calling g mk a).vm } : State).setVm s₂.vm := rfl
      rw [e2] at this
      exact this
    have hf₂ : s₂.frames = .throwing q :: .java g :: U.frames.tail := hend
    have hW' : U.WarmedH s₂.vm := hW₂
    have hs₂ : s₂ = ((({ U with heap := s₂.heap, slotsUsed := s₂.slotsUsed } : State).setVm s₂.vm).setTop g).pushFrame (.throwing q) := by
      refine e3.trans ?_
      rw [hf₂, State.calling_eq h.top, State.setFrames_setFrames, State.pushFrame, State.frames_setTop _ hr', State.setTop_of_frames _ hr', State.setFrames_setFrames, hr]
      rfl
    have hsame : U.sameButNew ({ U with heap := s₂.heap, slotsUsed := s₂.slotsUsed } : State) L mc ms := by
      refine ⟨?_, q2, q3, q4, q5, q6⟩
      obtain ⟨t, ht, -⟩ := State.frames_cons hr
      show ({ U with heap := s₂.heap, slotsUsed := s₂.slotsUsed } : State) = { U.setFrames U.frames with heap := s₂.heap, slotsUsed := s₂.slotsUsed }
      rw [State.setFrames_self ht]
    subst hg
    refine Or.inr ⟨q, ⟨(({ U with heap := s₂.heap, slotsUsed := s₂.slotsUsed } : State).setVm s₂.vm), Ls ++ L, c0 + mc, s0 + ms⟩,
      ⟨X.admits, X.cas, X.clock, X.frames, X.room, X.hears, X.method, X.code, (X.here.setHeapUsed s₂.heap s₂.slotsUsed).setVm hW'.alike, X.tail, State.WarmedH.trans X.warmed hW', X.limits, X.bytes, X.same.trans (hsame.setVm s.vm)⟩,
      ⟨g, mk, s₂, L, E, ce, rfl, rfl, hx, hce, hcv, hcl, rfl, hL, rfl, rfl⟩, ?_⟩
    show Steps p.tables e below _ (((({ U with heap := s₂.heap, slotsUsed := s₂.slotsUsed } : State).setVm s₂.vm).setTop g).pushFrame (.throwing q))
    rw [← hs₂]
    exact hsteps
end Payer
section Calls
variable {p : Program} {l : Launch} {e : Env} {R : Room} {s : State} {m : MethodId} {args : Array Value} {below : List Frame} {meth : Method} {c : Code} {T : State} {locs : List Loc} {cells slots : Nat}
theorem vx_callV (X : Stand p l e R s m args below meth c T locs cells slots) (hexec : p.tables.exec = Jvm.exec) {own C : String} {index : Nat} {y : MethodName} {bytes : ByteArray} {maxL : Nat} {ret : Option FieldType}
    (hown : s.vm.findClass own = some m.cls) (hlink : (Cond.methodLink own index y).before args s = true) (hinst : (Cond.instanceMethod y).before args s = true) (hsel : (Cond.selects C y y).before args s = true)
    (hcode : (Cond.code y bytes maxL ret).before args s = true) (hy : y.cls ≠ "java/lang/invoke/MethodHandle" ∧ y.cls ≠ "java/lang/invoke/VarHandle")
    {W9 : Nat} {Pre : Pt → Array Value → Prop} {Post : Pt → Array Value → Option Value → Pt → Prop} {PostX : Pt → Array Value → Addr → Pt → Prop} (hK : vx_Back l R p e below s args y 3 W9 Pre Post PostX)
    {b : Addr} {cellB : Cell} (hcell : T.heap[b]? = some cellB) (hobj : cellB.vm.isStatics = false) (hcls : s.vm.findClass C = some cellB.cls)
    {g : JFrame} (hg : g.method = m) (hsize : g.locals.size = c.maxLocals) {argsL rest : List Value} (hlen : ∀ sig, parseMethodDescriptor y.desc = some sig → argsL.length = sig.parameters.length)
    (hstack : g.stack = argsL.reverse ++ .ref b :: rest) (hW : 2 * g.monitorRoom + (rest.map fun v => v.category).sum ≤ W9) (hdg : decode c.code g.pc = .ok (.invokevirtual index, 3))
    (hpre : ∀ vm₁, s.WarmedH vm₁ → Pre ⟨T.setVm vm₁, locs, cells, slots⟩ (Value.ref b :: argsL).toArray) :
    (∃ (v : Option Value) (vm₁ : Vm) (B : Pt), s.WarmedH vm₁ ∧ Stand p l e R s m args below meth c B.U B.locs B.cells B.slots ∧ Post ⟨T.setVm vm₁, locs, cells, slots⟩ (Value.ref b :: argsL).toArray v B ∧
      ∀ target, Steps p.tables e below (B.U.setTop { g with pc := g.pc + 3, stack := v.toList ++ rest }) target → Steps p.tables e below (T.setTop g) target) ∨
    (∃ (q : Addr) (vm₁ : Vm) (B : Pt), s.WarmedH vm₁ ∧ Stand p l e R s m args below meth c B.U B.locs B.cells B.slots ∧ PostX ⟨T.setVm vm₁, locs, cells, slots⟩ (Value.ref b :: argsL).toArray q B ∧
      Steps p.tables e below (T.setTop g) ((B.U.setTop { g with stack := rest }).pushFrame (.throwing q))) := by
  obtain ⟨mk, methM, hnamed, hmethM, hstM, habM⟩ := Cond.instanceMethod_spec hinst
  obtain ⟨methM', cM, hmethM', -, -, -, -, -, -, hsigM⟩ := Cond.code_spec hnamed hcode
  cases hmethM.symm.trans hmethM'
  obtain ⟨c2, r2, m2, q1, q2, q3, q4, kP, hkP, hkPi⟩ := Cond.selects_spec hsel
  cases hcls.symm.trans q1
  cases (State.methodFound?_of_named hnamed hy).symm.trans q2
  cases hnamed.symm.trans q3
  have hselP : selectMethod e.platform s.vm cellB.cls mk = .method mk := by rw [Launch.admits_selectMethod X.admits]; exact q4
  obtain ⟨vm₁, X₁, hstep₁⟩ := X.invokevirtual hexec hown hlink hnamed hmethM hstM hkP hkPi hy (a := b) (cell := cellB) hcell
    (fun z h => by rw [h] at hobj; cases hobj) hselP hmethM habM hkP hkPi (g := g) hg (argsL := argsL) (rest := rest) (hlen _ hsigM) hstack hdg
  rcases hK m meth c ⟨T.setVm vm₁, locs, cells, slots⟩ { g with stack := rest } (.invokevirtual index) mk (Value.ref b :: argsL).toArray X₁ hg hsize hdg hW (X₁.named hnamed) (hpre vm₁ X₁.warmed) with ⟨v, B, X', hpost, hsteps⟩ | ⟨q, B, X', hpost, hsteps⟩
  · exact Or.inl ⟨v, vm₁, B, X₁.warmed, X', hpost, fun target h => hstep₁ _ fun acts => by rw [doInvoke_state]; exact hsteps.trans h⟩
  · exact Or.inr ⟨q, vm₁, B, X₁.warmed, X', hpost, hstep₁ _ fun acts => by rw [doInvoke_state]; exact hsteps⟩
theorem vx_callS (X : Stand p l e R s m args below meth c T locs cells slots) (hexec : p.tables.exec = Jvm.exec) {own : String} {index : Nat} {y : MethodName} {bytes : ByteArray} {maxL : Nat} {ret : Option FieldType}
    (hown : s.vm.findClass own = some m.cls) (hlink : (Cond.methodLink own index y).before args s = true) (hstat : (Cond.static y).before args s = true) (hinit : (Cond.initialized y.cls).before args s = true)
    (hcode : (Cond.code y bytes maxL ret).before args s = true) (hy : y.cls ≠ "java/lang/invoke/MethodHandle" ∧ y.cls ≠ "java/lang/invoke/VarHandle")
    {W9 : Nat} {Pre : Pt → Array Value → Prop} {Post : Pt → Array Value → Option Value → Pt → Prop} {PostX : Pt → Array Value → Addr → Pt → Prop} (hK : vx_Back l R p e below s args y 3 W9 Pre Post PostX)
    {g : JFrame} (hg : g.method = m) (hsize : g.locals.size = c.maxLocals) {argsL rest : List Value} (hlen : ∀ sig, parseMethodDescriptor y.desc = some sig → argsL.length = sig.parameters.length)
    (hstack : g.stack = argsL.reverse ++ rest) (hW : 2 * g.monitorRoom + (rest.map fun v => v.category).sum ≤ W9) (hdg : decode c.code g.pc = .ok (.invokestatic index, 3))
    (hpre : ∀ vm₁, s.WarmedH vm₁ → Pre ⟨T.setVm vm₁, locs, cells, slots⟩ argsL.toArray) :
    (∃ (v : Option Value) (vm₁ : Vm) (B : Pt), s.WarmedH vm₁ ∧ Stand p l e R s m args below meth c B.U B.locs B.cells B.slots ∧ Post ⟨T.setVm vm₁, locs, cells, slots⟩ argsL.toArray v B ∧
      ∀ target, Steps p.tables e below (B.U.setTop { g with pc := g.pc + 3, stack := v.toList ++ rest }) target → Steps p.tables e below (T.setTop g) target) ∨
    (∃ (q : Addr) (vm₁ : Vm) (B : Pt), s.WarmedH vm₁ ∧ Stand p l e R s m args below meth c B.U B.locs B.cells B.slots ∧ PostX ⟨T.setVm vm₁, locs, cells, slots⟩ argsL.toArray q B ∧
      Steps p.tables e below (T.setTop g) ((B.U.setTop { g with stack := rest }).pushFrame (.throwing q))) := by
  obtain ⟨mk, hnamed⟩ := Cond.code_named hcode
  obtain ⟨methM, cM, hmethM, -, -, -, -, -, -, hsigM⟩ := Cond.code_spec hnamed hcode
  have hstatic : methM.isStatic = true := Cond.static_spec hnamed hmethM hstat
  obtain ⟨kP, hkP, -⟩ := className_of_methodNamed hnamed
  have hinitP : kP.init = .initialized := Cond.initialized_spec (findClass_of_methodNamed hnamed) hkP hinit
  obtain ⟨vm₁, X₁, hstep₁⟩ := X.invokestatic hexec hown hlink hnamed hmethM hstatic hkP hinitP hy (g := g) hg (argsL := argsL) (rest := rest) (hlen _ hsigM) hstack hdg
  rcases hK m meth c ⟨T.setVm vm₁, locs, cells, slots⟩ { g with stack := rest } (.invokestatic index) mk argsL.toArray X₁ hg hsize hdg hW (X₁.named hnamed) (hpre vm₁ X₁.warmed) with ⟨v, B, X', hpost, hsteps⟩ | ⟨q, B, X', hpost, hsteps⟩
  · exact Or.inl ⟨v, vm₁, B, X₁.warmed, X', hpost, fun target h => hstep₁ _ fun acts => by rw [doInvoke_state]; exact hsteps.trans h⟩
  · exact Or.inr ⟨q, vm₁, B, X₁.warmed, X', hpost, hstep₁ _ fun acts => by rw [doInvoke_state]; exact hsteps⟩
end Calls
theorem vx_cls {s : State} {T : State} {vm₁ : Vm} {E : String} {k : ClassId} (hW : s.WarmedH vm₁) (h : (T.setVm vm₁).vm.findClass E = some k) : s.vm.findClass E = some k := by
  have h1 : vm₁.findClass E = some k := h
  rw [hW.alike.findClass] at h1
  exact h1
/-- the method's frame g, with q thrown over it -/
def vx_W (p : Program) (l : Launch) (e : Env) (R : Room) (s : State) (m : MethodId) (args : Array Value) (below : List Frame) (meth : Method) (c : Code) (H : Heap) (locs : List Loc) (cells slots : Nat) (Q : State → Prop) (g : JFrame) (q : Addr) : Prop :=
  ∀ T : State, T.heap = H → Stand p l e R s m args below meth c T locs cells slots → ∃ t, Steps p.tables e below ((T.setTop g).pushFrame (.throwing q)) t ∧ Q t
def vx_Run (p : Program) (l : Launch) (e : Env) (R : Room) (s : State) (m : MethodId) (args : Array Value) (below : List Frame) (meth : Method) (c : Code) (H : Heap) (locs : List Loc) (cells slots mc ms : Nat) (g : JFrame) (rest : List Value) (Qa : State → Outcome → State → Prop) (XC : String → State → State → Prop) (free : Addr → Prop) : Prop :=
  ∀ T : State, T.heap = H → Stand p l e R s m args below meth c T locs cells slots →
    (∃ (v : Option Value) (st₀ t T' : State) (L : List Loc), st₀.heap = H ∧ Stand p l e R s m args below meth c T' (locs ++ L) (cells + mc) (slots + ms) ∧ (∀ q ∈ L, free q.base) ∧ T'.heap = t.heap ∧ T'.vm = t.vm ∧ Qa st₀ (.returned v) t ∧
      Goes p e below T g T' { g with pc := g.pc + 3, stack := v.toList ++ rest }) ∨
    (∃ (q : Addr) (st₀ t T' : State) (L : List Loc) (E : String) (ce : Cell), st₀.heap = H ∧ Stand p l e R s m args below meth c T' (locs ++ L) (cells + mc) (slots + ms) ∧ (∀ z ∈ L, free z.base) ∧ T'.heap = t.heap ∧ T'.vm = t.vm ∧ XC E st₀ t ∧ t.heap[q]? = some ce ∧ ce.vm = .none ∧ s.vm.findClass E = some ce.cls ∧
      Steps p.tables e below (T.setTop g) ((T'.setTop { g with stack := rest }).pushFrame (.throwing q)))
def vx_X {S : Type} (px : S → Prop) (B : String → S → State → Prop) (A : Nat → Prop) : String → State → State → Prop := fun E st t => ∃ u : S, px u ∧ B E u t ∧ va_F A st t
section Runs
variable {p : Program} {l : Launch} {e : Env} {R : Room} {s : State} {m : MethodId} {args : Array Value} {below : List Frame} {meth : Method} {c : Code} {H : Heap} {locs : List Loc} {cells slots : Nat}
variable {y : MethodName} {bytes cc : ByteArray} {maxL nL mc ms n index : Nat} {ret : Option FieldType} {ws : List Cond} {rm : Room} {Pc : Array Value → State → Prop} {Qc : Array Value → State → Outcome → State → Prop} {XC : String → State → State → Prop} {free : Addr → Prop} {Ts : List Cond} {own C : String} {b : Addr} {As rest : List Value} {g : JFrame}
theorem vx_callBack (cb : CallB R s args own index y bytes maxL ret ws rm mc ms n) (hM : vx_Met l y ws rm Pc Qc XC mc ms free) (hbl : FrameBlind Pc) : vx_Back l R p e below s args y 3 8 (PreOf R mc ms Pc) (PostOf Qc mc ms free) (vx_Post XC mc ms free) := by
  obtain ⟨hrc, hrs, hfr, hlo, hws, hcw, -, hini, -⟩ := cb
  exact vx_back (bytes := bytes) (maxL := maxL) (ret := ret) hM hbl hrc hrs hfr hlo hws hcw (fun a' U hW => word_at hW (Or.inl (by first | rfl | simp [Cond.onTables, Cond.keeps, Cond.steady])) hini)
theorem vx_runV (S : CallFix p m c cc nL s args Ts own) (hM : vx_Met l y ws rm Pc Qc XC mc ms free) (cw : CallW R s args own C index y bytes maxL ret ws rm mc ms n) (hp : PreV s H C b Pc As)
    (hg : g.method = m) (hn : As.length = n) (hsize : g.locals.size = nL) (hstack : g.stack = As.reverse ++ .ref b :: rest) (hW : 2 * g.monitorRoom + (rest.map fun v => v.category).sum ≤ 8) (hdg : decode cc g.pc = .ok (.invokevirtual index, 3)) (hf : cells + mc ≤ R.cells ∧ slots + ms ≤ R.slots) :
    vx_Run p l e R s m args below meth c H locs cells slots mc ms g rest (Qc (Value.ref b :: As).toArray) XC free := by
  have hK : vx_Back l R p e below s args y 3 8 (PreOf R mc ms Pc) (PostOf Qc mc ms free) (vx_Post XC mc ms free) := vx_callBack cw.1 hM hp.1
  obtain ⟨⟨-, -, -, -, -, -, hcode, -, hy, hlen, hl⟩, hin, hse⟩ := cw
  obtain ⟨hx, hb, hml, ho, -⟩ := S
  obtain ⟨-, ⟨cellB, hcB, hoB, hclB⟩, hPc⟩ := hp
  intro T hT X
  rcases vx_callV X hx (C := C) (bytes := bytes) (maxL := maxL) (ret := ret) ho hl hin hse hcode hy hK (by rw [hT]; exact hcB) hoB hclB hg (hsize.trans hml.symm) (argsL := As) (rest := rest) (fun sig h => hn.trans (hlen sig h)) hstack hW (by rw [hb]; exact hdg)
    (fun vm₁ hW₁ => ⟨hf.1, hf.2, hPc (T.setVm vm₁) hT hW₁⟩) with ⟨v, vm₁, ⟨U', l2, c2, s2⟩, hW₁, X', ⟨g', mk, t, L, e1, e2, hq, h1, hL, h2, h3⟩, st⟩ | ⟨q, vm₁, ⟨U', l2, c2, s2⟩, hW₁, X', ⟨g', mk, t, L, E, ce, e1, e2, hq, hce, hcv, hcl, h1, hL, h2, h3⟩, st⟩
  · dsimp only [Pt.U, Pt.locs, Pt.cells, Pt.slots] at X' e1 e2 h1 h2 h3 st
    subst h1; subst h2; subst h3
    exact Or.inl ⟨v, (T.setVm vm₁).calling g' mk (Value.ref b :: As).toArray, t, U', L, hT, X', hL, e1, e2, hq, st⟩
  · dsimp only [Pt.U, Pt.locs, Pt.cells, Pt.slots] at X' e1 e2 h1 h2 h3 st hcl
    subst h1; subst h2; subst h3
    exact Or.inr ⟨q, (T.setVm vm₁).calling g' mk (Value.ref b :: As).toArray, t, U', L, E, ce, hT, X', hL, e1, e2, hq, hce, hcv, vx_cls hW₁ hcl, st⟩
theorem vx_runS (S : CallFix p m c cc nL s args Ts own) (hM : vx_Met l y ws rm Pc Qc XC mc ms free) (cw : CallB R s args own index y bytes maxL ret ws rm mc ms n ∧ (Cond.static y).before args s = true) (hp : PreS s H Pc As)
    (hg : g.method = m) (hn : As.length = n) (hsize : g.locals.size = nL) (hstack : g.stack = As.reverse ++ rest) (hW : 2 * g.monitorRoom + (rest.map fun v => v.category).sum ≤ 8) (hdg : decode cc g.pc = .ok (.invokestatic index, 3)) (hf : cells + mc ≤ R.cells ∧ slots + ms ≤ R.slots) :
    vx_Run p l e R s m args below meth c H locs cells slots mc ms g rest (Qc As.toArray) XC free := by
  have hK : vx_Back l R p e below s args y 3 8 (PreOf R mc ms Pc) (PostOf Qc mc ms free) (vx_Post XC mc ms free) := vx_callBack cw.1 hM hp.1
  obtain ⟨⟨-, -, -, -, -, -, hcode, hini, hy, hlen, hl⟩, hstt⟩ := cw
  obtain ⟨hx, hb, hml, ho, -⟩ := S
  intro T hT X
  rcases vx_callS X hx (bytes := bytes) (maxL := maxL) (ret := ret) ho hl hstt hini hcode hy hK hg (hsize.trans hml.symm) (argsL := As) (rest := rest) (fun sig h => hn.trans (hlen sig h)) hstack hW (by rw [hb]; exact hdg)
    (fun vm₁ hW₁ => ⟨hf.1, hf.2, hp.2 (T.setVm vm₁) hT hW₁⟩) with ⟨v, vm₁, ⟨U', l2, c2, s2⟩, hW₁, X', ⟨g', mk, t, L, e1, e2, hq, h1, hL, h2, h3⟩, st⟩ | ⟨q, vm₁, ⟨U', l2, c2, s2⟩, hW₁, X', ⟨g', mk, t, L, E, ce, e1, e2, hq, hce, hcv, hcl, h1, hL, h2, h3⟩, st⟩
  · dsimp only [Pt.U, Pt.locs, Pt.cells, Pt.slots] at X' e1 e2 h1 h2 h3 st
    subst h1; subst h2; subst h3
    exact Or.inl ⟨v, (T.setVm vm₁).calling g' mk As.toArray, t, U', L, hT, X', hL, e1, e2, hq, st⟩
  · dsimp only [Pt.U, Pt.locs, Pt.cells, Pt.slots] at X' e1 e2 h1 h2 h3 st hcl
    subst h1; subst h2; subst h3
    exact Or.inr ⟨q, (T.setVm vm₁).calling g' mk As.toArray, t, U', L, E, ce, hT, X', hL, e1, e2, hq, hce, hcv, vx_cls hW₁ hcl, st⟩
end Runs
section Rows
variable {p : Program} {l : Launch} {e : Env} {R : Room} {s : State} {m : MethodId} {args : Array Value} {below : List Frame} {meth : Method} {c : Code} {H : Heap} {locs : List Loc} {cells slots : Nat} {Q : State → Prop}
variable {mc ms : Nat} {free : Addr → Prop} {A0 A1 : Nat → Prop} {H0 : Heap} {a : Array Value} {pc : Nat} {ls : Array Slot} {st0 rest : List Value}
theorem vx_keep {st₀ t T' : State} {L : List Loc} (h0 : st₀.heap = H) (e1 : T'.heap = t.heap) (hS : va_S A0 H0 H locs) (hA : ∀ q, q < H.size → A1 q → A0 q) (hf : ∀ q, free q → A0 q) (hL : ∀ q ∈ L, free q.base) (hF : va_F A1 st₀ t) :
    H.size ≤ T'.heap.size ∧ (∀ q : Nat, q < H.size → ¬ A1 q → T'.heap[q]? = H[q]?) ∧ va_S A0 H0 T'.heap (locs ++ L) := by
  obtain ⟨hz, hk⟩ := hF
  rw [h0] at hz hk
  exact ⟨by rw [e1]; exact hz, fun q h1 h2 => by rw [e1]; exact hk q h1 h2,
    ⟨Nat.le_trans hS.1 (by rw [e1]; exact hz), fun q h1 h2 => by rw [e1, hk q (Nat.lt_of_lt_of_le h1 hS.1) (fun z => h2 (hA q (Nat.lt_of_lt_of_le h1 hS.1) z))]; exact hS.2.1 q h1 h2, fun q hq => by
      rcases List.mem_append.mp hq with h | h
      · exact hS.2.2 q h
      · exact hf _ (hL q h)⟩⟩
theorem vx_calli {S SX : Type} {post : Int32 → S → Prop} {px : SX → Prop} {B : S → State → Prop} {BX : String → SX → State → Prop} {AX : Nat → Prop} (hr : vx_Run p l e R s m args below meth c H locs cells slots mc ms (F0 m pc ls st0) rest (va_Qi post B A1 a) (vx_X px BX AX) free) (hS : va_S A0 H0 H locs) (hA : ∀ q, q < H.size → A1 q → A0 q) (hf : ∀ q, free q → A0 q) (hAX : ∀ q, q < H.size → AX q → A0 q)
    (kx : ∀ (E : String) (ce : Cell) (q9 : Addr) (u : SX) (t : State) (H1 : Heap) (locs1 : List Loc), t.heap = H1 → s.vm.Alike t.vm → px u → BX E u t → H.size ≤ H1.size → (∀ q : Nat, q < H.size → ¬ AX q → H1[q]? = H[q]?) → va_S A0 H0 H1 locs1 → H1[q9]? = some ce → ce.vm = .none → s.vm.findClass E = some ce.cls → vx_W p l e R s m args below meth c H1 locs1 (cells + mc) (slots + ms) Q (F0 m pc ls rest) q9)
    (kk : ∀ (r : Int32) (u : S) (t : State) (H1 : Heap) (locs1 : List Loc), t.heap = H1 → s.vm.Alike t.vm → post r u → B u t → H.size ≤ H1.size → (∀ q : Nat, q < H.size → ¬ A1 q → H1[q]? = H[q]?) → va_S A0 H0 H1 locs1 → W p l e R s m args below meth c H1 locs1 (cells + mc) (slots + ms) Q (F0 m (pc + 3) ls (.int r :: rest))) : W p l e R s m args below meth c H locs cells slots Q (F0 m pc ls st0) := by
  intro T hT X
  rcases hr T hT X with ⟨v, st₀, t, T', L, h0, X', hL, e1, e2, ⟨⟨r, u, hv, hp, hb⟩, hF⟩, st⟩ | ⟨q, st₀, t, T', L, E, ce, h0, X', hL, e1, e2, ⟨u, hp, hb, hF⟩, hce, hcv, hcl, st⟩
  · cases hv
    obtain ⟨k1, k2, k3⟩ := vx_keep h0 e1 hS hA hf hL hF
    obtain ⟨t2, a1, b1⟩ := kk r u t T'.heap (locs ++ L) e1.symm (by rw [← e2]; exact X'.warmed.alike) hp hb k1 k2 k3 T' rfl X'
    exact ⟨t2, st t2 a1, b1⟩
  · obtain ⟨k1, k2, k3⟩ := vx_keep h0 e1 hS hAX hf hL hF
    obtain ⟨t2, a1, b1⟩ := kx E ce q u t T'.heap (locs ++ L) e1.symm (by rw [← e2]; exact X'.warmed.alike) hp hb k1 k2 k3 (by rw [e1]; exact hce) hcv hcl T' rfl X'
    exact ⟨t2, st.trans a1, b1⟩
theorem vx_calll {S SX : Type} {post : Int64 → S → Prop} {px : SX → Prop} {B : S → State → Prop} {BX : String → SX → State → Prop} {AX : Nat → Prop} (hr : vx_Run p l e R s m args below meth c H locs cells slots mc ms (F0 m pc ls st0) rest (va_Ql post B A1 a) (vx_X px BX AX) free) (hS : va_S A0 H0 H locs) (hA : ∀ q, q < H.size → A1 q → A0 q) (hf : ∀ q, free q → A0 q) (hAX : ∀ q, q < H.size → AX q → A0 q)
    (kx : ∀ (E : String) (ce : Cell) (q9 : Addr) (u : SX) (t : State) (H1 : Heap) (locs1 : List Loc), t.heap = H1 → s.vm.Alike t.vm → px u → BX E u t → H.size ≤ H1.size → (∀ q : Nat, q < H.size → ¬ AX q → H1[q]? = H[q]?) → va_S A0 H0 H1 locs1 → H1[q9]? = some ce → ce.vm = .none → s.vm.findClass E = some ce.cls → vx_W p l e R s m args below meth c H1 locs1 (cells + mc) (slots + ms) Q (F0 m pc ls rest) q9)
    (kk : ∀ (r : Int64) (u : S) (t : State) (H1 : Heap) (locs1 : List Loc), t.heap = H1 → s.vm.Alike t.vm → post r u → B u t → H.size ≤ H1.size → (∀ q : Nat, q < H.size → ¬ A1 q → H1[q]? = H[q]?) → va_S A0 H0 H1 locs1 → W p l e R s m args below meth c H1 locs1 (cells + mc) (slots + ms) Q (F0 m (pc + 3) ls (.long r :: rest))) : W p l e R s m args below meth c H locs cells slots Q (F0 m pc ls st0) := by
  intro T hT X
  rcases hr T hT X with ⟨v, st₀, t, T', L, h0, X', hL, e1, e2, ⟨⟨r, u, hv, hp, hb⟩, hF⟩, st⟩ | ⟨q, st₀, t, T', L, E, ce, h0, X', hL, e1, e2, ⟨u, hp, hb, hF⟩, hce, hcv, hcl, st⟩
  · cases hv
    obtain ⟨k1, k2, k3⟩ := vx_keep h0 e1 hS hA hf hL hF
    obtain ⟨t2, a1, b1⟩ := kk r u t T'.heap (locs ++ L) e1.symm (by rw [← e2]; exact X'.warmed.alike) hp hb k1 k2 k3 T' rfl X'
    exact ⟨t2, st t2 a1, b1⟩
  · obtain ⟨k1, k2, k3⟩ := vx_keep h0 e1 hS hAX hf hL hF
    obtain ⟨t2, a1, b1⟩ := kx E ce q u t T'.heap (locs ++ L) e1.symm (by rw [← e2]; exact X'.warmed.alike) hp hb k1 k2 k3 (by rw [e1]; exact hce) hcv hcl T' rfl X'
    exact ⟨t2, st.trans a1, b1⟩
theorem vx_callf {S SX : Type} {post : UInt32 → S → Prop} {px : SX → Prop} {B : S → State → Prop} {BX : String → SX → State → Prop} {AX : Nat → Prop} (hr : vx_Run p l e R s m args below meth c H locs cells slots mc ms (F0 m pc ls st0) rest (va_Qf post B A1 a) (vx_X px BX AX) free) (hS : va_S A0 H0 H locs) (hA : ∀ q, q < H.size → A1 q → A0 q) (hf : ∀ q, free q → A0 q) (hAX : ∀ q, q < H.size → AX q → A0 q)
    (kx : ∀ (E : String) (ce : Cell) (q9 : Addr) (u : SX) (t : State) (H1 : Heap) (locs1 : List Loc), t.heap = H1 → s.vm.Alike t.vm → px u → BX E u t → H.size ≤ H1.size → (∀ q : Nat, q < H.size → ¬ AX q → H1[q]? = H[q]?) → va_S A0 H0 H1 locs1 → H1[q9]? = some ce → ce.vm = .none → s.vm.findClass E = some ce.cls → vx_W p l e R s m args below meth c H1 locs1 (cells + mc) (slots + ms) Q (F0 m pc ls rest) q9)
    (kk : ∀ (r : UInt32) (u : S) (t : State) (H1 : Heap) (locs1 : List Loc), t.heap = H1 → s.vm.Alike t.vm → post r u → B u t → H.size ≤ H1.size → (∀ q : Nat, q < H.size → ¬ A1 q → H1[q]? = H[q]?) → va_S A0 H0 H1 locs1 → W p l e R s m args below meth c H1 locs1 (cells + mc) (slots + ms) Q (F0 m (pc + 3) ls (.float r :: rest))) : W p l e R s m args below meth c H locs cells slots Q (F0 m pc ls st0) := by
  intro T hT X
  rcases hr T hT X with ⟨v, st₀, t, T', L, h0, X', hL, e1, e2, ⟨⟨r, u, hv, hp, hb⟩, hF⟩, st⟩ | ⟨q, st₀, t, T', L, E, ce, h0, X', hL, e1, e2, ⟨u, hp, hb, hF⟩, hce, hcv, hcl, st⟩
  · cases hv
    obtain ⟨k1, k2, k3⟩ := vx_keep h0 e1 hS hA hf hL hF
    obtain ⟨t2, a1, b1⟩ := kk r u t T'.heap (locs ++ L) e1.symm (by rw [← e2]; exact X'.warmed.alike) hp hb k1 k2 k3 T' rfl X'
    exact ⟨t2, st t2 a1, b1⟩
  · obtain ⟨k1, k2, k3⟩ := vx_keep h0 e1 hS hAX hf hL hF
    obtain ⟨t2, a1, b1⟩ := kx E ce q u t T'.heap (locs ++ L) e1.symm (by rw [← e2]; exact X'.warmed.alike) hp hb k1 k2 k3 (by rw [e1]; exact hce) hcv hcl T' rfl X'
    exact ⟨t2, st.trans a1, b1⟩
theorem vx_calld {S SX : Type} {post : UInt64 → S → Prop} {px : SX → Prop} {B : S → State → Prop} {BX : String → SX → State → Prop} {AX : Nat → Prop} (hr : vx_Run p l e R s m args below meth c H locs cells slots mc ms (F0 m pc ls st0) rest (va_Qd post B A1 a) (vx_X px BX AX) free) (hS : va_S A0 H0 H locs) (hA : ∀ q, q < H.size → A1 q → A0 q) (hf : ∀ q, free q → A0 q) (hAX : ∀ q, q < H.size → AX q → A0 q)
    (kx : ∀ (E : String) (ce : Cell) (q9 : Addr) (u : SX) (t : State) (H1 : Heap) (locs1 : List Loc), t.heap = H1 → s.vm.Alike t.vm → px u → BX E u t → H.size ≤ H1.size → (∀ q : Nat, q < H.size → ¬ AX q → H1[q]? = H[q]?) → va_S A0 H0 H1 locs1 → H1[q9]? = some ce → ce.vm = .none → s.vm.findClass E = some ce.cls → vx_W p l e R s m args below meth c H1 locs1 (cells + mc) (slots + ms) Q (F0 m pc ls rest) q9)
    (kk : ∀ (r : UInt64) (u : S) (t : State) (H1 : Heap) (locs1 : List Loc), t.heap = H1 → s.vm.Alike t.vm → post r u → B u t → H.size ≤ H1.size → (∀ q : Nat, q < H.size → ¬ A1 q → H1[q]? = H[q]?) → va_S A0 H0 H1 locs1 → W p l e R s m args below meth c H1 locs1 (cells + mc) (slots + ms) Q (F0 m (pc + 3) ls (.double r :: rest))) : W p l e R s m args below meth c H locs cells slots Q (F0 m pc ls st0) := by
  intro T hT X
  rcases hr T hT X with ⟨v, st₀, t, T', L, h0, X', hL, e1, e2, ⟨⟨r, u, hv, hp, hb⟩, hF⟩, st⟩ | ⟨q, st₀, t, T', L, E, ce, h0, X', hL, e1, e2, ⟨u, hp, hb, hF⟩, hce, hcv, hcl, st⟩
  · cases hv
    obtain ⟨k1, k2, k3⟩ := vx_keep h0 e1 hS hA hf hL hF
    obtain ⟨t2, a1, b1⟩ := kk r u t T'.heap (locs ++ L) e1.symm (by rw [← e2]; exact X'.warmed.alike) hp hb k1 k2 k3 T' rfl X'
    exact ⟨t2, st t2 a1, b1⟩
  · obtain ⟨k1, k2, k3⟩ := vx_keep h0 e1 hS hAX hf hL hF
    obtain ⟨t2, a1, b1⟩ := kx E ce q u t T'.heap (locs ++ L) e1.symm (by rw [← e2]; exact X'.warmed.alike) hp hb k1 k2 k3 (by rw [e1]; exact hce) hcv hcl T' rfl X'
    exact ⟨t2, st.trans a1, b1⟩
theorem vx_callv {S SX : Type} {post : S → Prop} {px : SX → Prop} {B : S → State → Prop} {BX : String → SX → State → Prop} {AX : Nat → Prop} (hr : vx_Run p l e R s m args below meth c H locs cells slots mc ms (F0 m pc ls st0) rest (va_Qv post B A1 a) (vx_X px BX AX) free) (hS : va_S A0 H0 H locs) (hA : ∀ q, q < H.size → A1 q → A0 q) (hf : ∀ q, free q → A0 q) (hAX : ∀ q, q < H.size → AX q → A0 q)
    (kx : ∀ (E : String) (ce : Cell) (q9 : Addr) (u : SX) (t : State) (H1 : Heap) (locs1 : List Loc), t.heap = H1 → s.vm.Alike t.vm → px u → BX E u t → H.size ≤ H1.size → (∀ q : Nat, q < H.size → ¬ AX q → H1[q]? = H[q]?) → va_S A0 H0 H1 locs1 → H1[q9]? = some ce → ce.vm = .none → s.vm.findClass E = some ce.cls → vx_W p l e R s m args below meth c H1 locs1 (cells + mc) (slots + ms) Q (F0 m pc ls rest) q9)
    (kk : ∀ (u : S) (t : State) (H1 : Heap) (locs1 : List Loc), t.heap = H1 → s.vm.Alike t.vm → post u → B u t → H.size ≤ H1.size → (∀ q : Nat, q < H.size → ¬ A1 q → H1[q]? = H[q]?) → va_S A0 H0 H1 locs1 → W p l e R s m args below meth c H1 locs1 (cells + mc) (slots + ms) Q (F0 m (pc + 3) ls (rest))) : W p l e R s m args below meth c H locs cells slots Q (F0 m pc ls st0) := by
  intro T hT X
  rcases hr T hT X with ⟨v, st₀, t, T', L, h0, X', hL, e1, e2, ⟨⟨u, hv, hp, hb⟩, hF⟩, st⟩ | ⟨q, st₀, t, T', L, E, ce, h0, X', hL, e1, e2, ⟨u, hp, hb, hF⟩, hce, hcv, hcl, st⟩
  · cases hv
    obtain ⟨k1, k2, k3⟩ := vx_keep h0 e1 hS hA hf hL hF
    obtain ⟨t2, a1, b1⟩ := kk u t T'.heap (locs ++ L) e1.symm (by rw [← e2]; exact X'.warmed.alike) hp hb k1 k2 k3 T' rfl X'
    exact ⟨t2, st t2 a1, b1⟩
  · obtain ⟨k1, k2, k3⟩ := vx_keep h0 e1 hS hAX hf hL hF
    obtain ⟨t2, a1, b1⟩ := kx E ce q u t T'.heap (locs ++ L) e1.symm (by rw [← e2]; exact X'.warmed.alike) hp hb k1 k2 k3 (by rw [e1]; exact hce) hcv hcl T' rfl X'
    exact ⟨t2, st.trans a1, b1⟩
end Rows
section Ends
variable {p : Program} {l : Launch} {e : Env} {R : Room} {s : State} {m : MethodId} {args : Array Value} {below : List Frame} {meth : Method} {c : Code} {H : Heap} {locs : List Loc} {cells slots : Nat} {Q : State → Prop}
variable {mc ms : Nat} {free : Addr → Prop} {A0 A1 : Nat → Prop} {H0 : Heap} {a : Array Value} {ls : Array Slot} {st0 rest : List Value}
variable {Qc : Array Value → State → Outcome → State → Prop} {XC : String → State → State → Prop}
/-- what a body that may throw owes at its end -/
def vx_MQ (below : List Frame) (Qc : Array Value → State → Outcome → State → Prop) (XC : String → State → State → Prop) (a : Array Value) (s : State) (mc ms : Nat) (free : Addr → Prop) : State → Prop := fun t =>
  ∃ o, t.status = .running ∧ Ended t below o ∧ vx_Q Qc XC mc ms free a s o t
theorem vx_ret {g : JFrame} {mc ms : Nat} (k : W p l e R s m args below meth c H locs cells slots (MQ below Qc args s mc ms free) g) : W p l e R s m args below meth c H locs cells slots (vx_MQ below Qc XC args s mc ms free) g := by
  intro T hT X
  obtain ⟨t, a1, o, b1, b2, b3, b4⟩ := k T hT X
  exact ⟨t, a1, o, b1, b2, Or.inl ⟨b3, b4⟩⟩
/-- not caught here: it goes on to the caller -/
theorem vx_widen {g : JFrame} {q : Addr} {k n : Nat} (h1 : cells ≤ k) (h2 : slots ≤ n) (kk : vx_W p l e R s m args below meth c H locs k n Q g q) : vx_W p l e R s m args below meth c H locs cells slots Q g q := fun T hT X => kk T hT (stand_widen X h1 h2)
theorem vx_out {pc : Nat} {E : String} {ce : Cell} {q : Addr} {mc ms : Nat} (hout : ∀ x ∈ c.exceptionTable.toList, covers x pc = false) (hlocks : meth.locks = false) (hcell : H[q]? = some ce) (hv : ce.vm = .none) (hcl : s.vm.findClass E = some ce.cls)
    (hx : ∀ t : State, t.heap = H → s.vm.Alike t.vm → XC E s t) (hf : ∀ z ∈ locs, free z.base) (hc : cells ≤ mc) (hs : slots ≤ ms) :
    vx_W p l e R s m args below meth c H locs cells slots (vx_MQ below Qc XC args s mc ms free) (F0 m pc ls rest) q := by
  intro T hT X
  obtain ⟨st1, hrun, hend, hW, hsm⟩ := X.leaveThrown q (g := F0 m pc ls rest) rfl rfl rfl hout hlocks
  have hcell9 : (T.setFrames (.throwing q :: below)).heap[q]? = some ce := by
    show T.heap[q]? = some ce
    rw [hT]; exact hcell
  exact ⟨_, st1, .threw q, hrun, hend, Or.inr ⟨q, rfl, E, ce, locs, hx _ hT hW.alike, hcell9, hv, hcl, hW, hsm.mono hc hs, hf⟩⟩
theorem vx_frame {U : State} {k n : Nat} (h : s.sameButNew ({ U with vm := s.vm } : State) locs k n) : s.heap.size ≤ U.heap.size ∧ ∀ q : Nat, q < s.heap.size → (∀ z ∈ locs, z.base ≠ q) → U.heap[q]? = s.heap[q]? := by
  obtain ⟨-, h2, -, -, -, h6⟩ := h
  refine ⟨h2, fun q hq hz => ?_⟩
  obtain ⟨c9, e1, e2, e3, e4⟩ := h6 q _ (Array.getElem?_eq_getElem hq)
  have hs : c9.slots = (s.heap[q]).slots := Array.ext_getElem? fun i => e4 i fun hm => hz _ hm rfl
  have h9 : c9 = s.heap[q] := by
    rw [hs] at e2
    exact e2
  have e5 : U.heap[q]? = some c9 := e1
  rw [e5, h9, Array.getElem?_eq_getElem hq]
/-- the words of a throw but the four that speak of the heap -/
def vx_no (w : Cond) : Bool := decide (w ≠ .isRef (.static Bundle.tN "UNASSIGNED_STACK" Bundle.steD)) && decide (w ≠ .isRef (.static Bundle.tN "SUPPRESSED_SENTINEL" Bundle.listD)) && decide (w ≠ .laysStatic Bundle.tN "UNASSIGNED_STACK" Bundle.steD) && decide (w ≠ .laysStatic Bundle.tN "SUPPRESSED_SENTINEL" Bundle.listD)
def vx_at0 (own : String) (ic : Nat) (X : String) (names : List String) : List Cond := (Bundle.ownAtoms0 own ic X names).filter vx_no
def vx_atS (own : String) (ic : Nat) (X : String) (names : List String) : List Cond := (Bundle.ownAtoms own ic X names).filter vx_no
/-- a word that the tables alone decide, or a good one -/
def vx_ot (w : Cond) : Bool := w.onTables || goodWord w
theorem vx_ot_at {args a' : Array Value} {s U : State} {w : Cond} (hW : s.WarmedH U.vm) (hvm : s.vm = U.vm) (hg : vx_ot w = true) (h : w.before args s = true) : w.before a' U = true := by
  simp only [vx_ot, Bool.or_eq_true] at hg
  rcases hg with hg | hg
  · exact va_tabs hg hvm h
  · exact word_at hW (good_of_word hg) h
/-- a list's words: the good ones out of the method's own list, the others by premises of their own -/
theorem vx_hat {args : Array Value} {s : State} {L B : List Cond} (h1 : ∀ w ∈ L.filter goodWord, w.before args s = true) (h2 : ∀ w ∈ L.filter (fun w => !goodWord w), w ∈ B) (h3 : ∀ w ∈ B, w.before args s = true) : ∀ w ∈ L, w.before args s = true := by
  intro w hw
  by_cases g : goodWord w = true
  · exact h1 w (List.mem_filter.mpr ⟨hw, g⟩)
  · refine h3 w (h2 w (List.mem_filter.mpr ⟨hw, ?_⟩))
    show (!goodWord w) = true
    cases hgw : goodWord w
    · rfl
    · exact absurd hgw g
theorem vx_c {args : Array Value} {s : State} {w : Cond} {B : List Cond} (h : w.before args s = true) (t : ∀ w ∈ B, w.before args s = true) : ∀ w' ∈ w :: B, w'.before args s = true := fun w' h' => (List.mem_cons.mp h').elim (fun e => by rw [e]; exact h) (t w')
theorem vx_n {args : Array Value} {s : State} : ∀ w ∈ ([] : List Cond), w.before args s = true := fun _ h => nomatch h
theorem vx_own {args : Array Value} {s : State} {L : List Cond} (h1 : ∀ w ∈ L.filter vx_no, w.before args s = true)
    (hU : (Cond.isRef (.static Bundle.tN "UNASSIGNED_STACK" Bundle.steD)).before args s = true) (hN : (Cond.isRef (.static Bundle.tN "SUPPRESSED_SENTINEL" Bundle.listD)).before args s = true)
    (lU : (Cond.laysStatic Bundle.tN "UNASSIGNED_STACK" Bundle.steD).before args s = true) (lN : (Cond.laysStatic Bundle.tN "SUPPRESSED_SENTINEL" Bundle.listD).before args s = true) : ∀ w ∈ L, w.before args s = true := by
  intro w hw
  by_cases e1 : w = .isRef (.static Bundle.tN "UNASSIGNED_STACK" Bundle.steD)
  · rw [e1]; exact hU
  · by_cases e2 : w = .isRef (.static Bundle.tN "SUPPRESSED_SENTINEL" Bundle.listD)
    · rw [e2]; exact hN
    · by_cases e3 : w = .laysStatic Bundle.tN "UNASSIGNED_STACK" Bundle.steD
      · rw [e3]; exact lU
      · by_cases e4 : w = .laysStatic Bundle.tN "SUPPRESSED_SENTINEL" Bundle.listD
        · rw [e4]; exact lN
        · exact h1 w (List.mem_filter.mpr ⟨hw, by unfold vx_no; rw [decide_eq_true e1, decide_eq_true e2, decide_eq_true e3, decide_eq_true e4]; rfl⟩)
/-- where a static field lies, its class's statics cell in H -/
def vx_L (C n d : String) (A : Nat → Prop) (U : State) (H : Heap) : Prop := ∃ (c : ClassId) (k : Class) (i : Nat) (f : Field) (a : Nat) (cell : Cell), U.vm.findClass C = some c ∧ U.fieldFound? C n d = some (c, k, i, f) ∧ f.isStatic = true ∧ k.statics = some a ∧ H[a]? = some cell ∧ cell.vm.isStatics = true ∧ cell.cls = c ∧ f.slot < cell.slots.size ∧ k.staticTypes[f.slot]? = some f.type ∧ ¬ A a
theorem vx_L.moved {C n d : String} {A : Nat → Prop} {u U : State} {H : Heap} (hvm : u.vm.Alike U.vm) (h : vx_L C n d A u H) : vx_L C n d A U H := by
  obtain ⟨c, k, i, f, a, cell, h1, h2, h3, h4, h5, h6, h7, h8, h9, h10⟩ := h
  obtain ⟨k', hi', he⟩ := State.fieldFound?_setVm hvm h2
  exact ⟨c, k', i, f, a, cell, by rw [hvm.findClass]; exact h1, hi', h3, by rw [he]; exact h4, h5, h6, h7, h8, by rw [he]; exact h9, h10⟩
theorem vx_L.kept {C n d : String} {A : Nat → Prop} {U : State} {H H1 : Heap} (h : vx_L C n d A U H) (hq : ∀ a : Nat, a < H.size → ¬ A a → H1[a]? = H[a]?) : vx_L C n d A U H1 := by
  obtain ⟨c, k, i, f, a, cell, h1, h2, h3, h4, h5, h6, h7, h8, h9, h10⟩ := h
  exact ⟨c, k, i, f, a, cell, h1, h2, h3, h4, by rw [hq a (Array.getElem?_eq_some_iff.mp h5).1 h10]; exact h5, h6, h7, h8, h9, h10⟩
theorem vx_L.narrow {C n d : String} {A B : Nat → Prop} {U : State} {H : Heap} (h : vx_L C n d A U H) (hAB : ∀ q, B q → A q) : vx_L C n d B U H := by
  obtain ⟨c, k, i, f, a, cell, h1, h2, h3, h4, h5, h6, h7, h8, h9, h10⟩ := h
  exact ⟨c, k, i, f, a, cell, h1, h2, h3, h4, h5, h6, h7, h8, h9, fun z => h10 (hAB _ z)⟩
theorem vx_L.word {C n d : String} {A : Nat → Prop} {s : State} {args : Array Value} (h : vx_L C n d A s s.heap) : (Cond.laysStatic C n d).before args s = true := by
  obtain ⟨c, k, i, f, a, cell, h1, h2, h3, h4, h5, h6, h7, h8, h9, -⟩ := h
  show (Cond.laysStatic C n d).holds args s none s [] = true
  exact Cond.laysStatic_of h1 h2 h3 h4 h5 h6 h7 h8 h9
/-- .. and what it holds: null or some reference -/
def vx_Zq (C n d : String) (A : Nat → Prop) (U : State) (H : Heap) : Prop := va_Zq C n d A U H ∧ vx_L C n d A U H
theorem vx_Zq.moved {C n d : String} {A : Nat → Prop} {u U : State} {H : Heap} (hvm : u.vm.Alike U.vm) (h : vx_Zq C n d A u H) : vx_Zq C n d A U H := ⟨va_Zq.moved hvm h.1, vx_L.moved hvm h.2⟩
theorem vx_Zq.kept {C n d : String} {A : Nat → Prop} {U : State} {H H1 : Heap} (h : vx_Zq C n d A U H) (hq : ∀ a : Nat, a < H.size → ¬ A a → H1[a]? = H[a]?) : vx_Zq C n d A U H1 := ⟨va_Zq.kept h.1 hq, vx_L.kept h.2 hq⟩
theorem vx_Zq.narrow {C n d : String} {A B : Nat → Prop} {U : State} {H : Heap} (h : vx_Zq C n d A U H) (hAB : ∀ q, B q → A q) : vx_Zq C n d B U H := ⟨va_Zq.narrow h.1 hAB, vx_L.narrow h.2 hAB⟩
theorem vx_Zqof {args : Array Value} {s : State} {C n d : String} {A : Nat → Prop} (hl : (Cond.laysStatic C n d).before args s = true) (hini : (Cond.initialized C).before args s = true) (h : (Cond.isRef (.static C n d)).before args s = true) (hA : ∀ a : Nat, a < s.heap.size → ¬ A a) : vx_Zq C n d A s s.heap := by
  refine ⟨va_Zqof hl hini h hA, ?_⟩
  obtain ⟨c, k, i, f, a, cell, h1, h2, h3, h4, h5, h6, h7, h8, h9⟩ := Cond.laysStatic_spec hl
  exact ⟨c, k, i, f, a, cell, h1, h2, h3, h4, h5, h6, h7, h8, h9, hA a (Array.getElem?_eq_some_iff.mp h5).1⟩
theorem vx_isRef {C n d : String} {v : Value} {A : Nat → Prop} {s : State} {args : Array Value} (h : va_Z C n d v A s s.heap) (hv : v.isRef = true) : (Cond.isRef (.static C n d)).before args s = true := by
  obtain ⟨cf, kf, fi, f, a, cell, h1, h2, h3, h4, h5, h6, h7, -⟩ := h
  have he : (Term.static C n d).eval args s none [] s = some v := by
    simp [Term.eval, State.fieldNamed?, h1, h2, h4, h5, h6, h7]
  simp only [Cond.before, Cond.holds, Cond.value, he]
  cases v <;> simp_all [Value.isRef]
theorem vx_isRefq {C n d : String} {A : Nat → Prop} {s : State} {args : Array Value} (h : va_Zq C n d A s s.heap) : (Cond.isRef (.static C n d)).before args s = true := by
  rcases h with h | ⟨t, h⟩
  · exact vx_isRef h rfl
  · exact vx_isRef h rfl
/-- the same frame, seen from here: as if the method were called anew in this heap -/
theorem vx_rebase {T : State} (X : Stand p l e R s m args below meth c T locs cells slots) {R' : Room} (hf : R'.frames ≤ R.frames) (hl : R'.locals ≤ R.locals) (hc : cells + R'.cells ≤ R.cells) (hs : slots + R'.slots ≤ R.slots) :
    Stand p l e R' ((T.setVm s.vm).setFrames (.invoking m args :: below)) m args below meth c T [] 0 0 := by
  have htop : (T.setVm s.vm).topJava?.isSome := X.here.top
  have hF : ((T.setVm s.vm).setFrames (.invoking m args :: below)).frames = .invoking m args :: below := State.frames_setFrames _ (State.cur_lt_of_top htop)
  obtain ⟨g₀, hg0⟩ := Option.isSome_iff_exists.mp htop
  obtain ⟨r, hr⟩ := State.topJava?_eq_some.mp hg0
  have hl9 : e.platform.stackLimits (T.setVm s.vm).me = e.platform.stackLimits s.me := X.limits
  have hb9 : (T.setVm s.vm).me.stackBytes = s.me.stackBytes := X.bytes
  refine ⟨X.admits, X.cas, X.clock, hF, ?_, X.hears, X.method, X.code, X.here, X.tail, X.warmed, ?_, ?_, ?_⟩
  · have h := X.room
    have hU : ((T.setVm s.vm).setFrames (.invoking m args :: below)).localsInUse = s.localsInUse := by
      rw [State.localsInUse_invoking hF (meth := meth) (c := c) X.method X.code, State.localsInUse_invoking X.frames X.method X.code]
    simp only [State.hasRoom, Bool.and_eq_true, decide_eq_true_eq] at h ⊢
    obtain ⟨⟨⟨⟨h1, h2, h3, h4, h5, h6⟩, h7⟩, h8⟩, h9⟩ := h
    rw [X.frames, List.length_cons] at h2 h3
    have q1 := X.heapSize
    have q2 := X.used
    simp only [hF, hU, List.length_cons, State.stackLimits_setFrames, State.stackBytes_setFrames, hl9, hb9]
    refine ⟨⟨⟨⟨by omega, by omega, by omega, by omega, by omega, h6⟩, ?_⟩, ?_⟩, X.book⟩
    · show T.heap.size + R'.cells ≤ e.platform.maxCells
      omega
    · show T.slotsUsed + R'.slots ≤ e.platform.maxSlots
      omega
  · rw [State.stackLimits_setFrames]; rfl
  · rw [State.stackBytes_setFrames]; rfl
  · refine ⟨?_, Nat.le_refl _, Nat.le_refl _, ?_, ?_, fun a c9 h9 => ⟨c9, h9, rfl, rfl, fun _ _ => rfl⟩⟩
    · obtain ⟨t, ht, -⟩ := State.frames_cons hr
      show T.setVm s.vm = { ((T.setVm s.vm).setFrames (.invoking m args :: below)).setFrames (T.setVm s.vm).frames with heap := T.heap, slotsUsed := T.slotsUsed }
      rw [State.setFrames_setFrames, State.setFrames_self ht]
      rfl
    · show T.slotsUsed = T.slotsUsed + ((T.heap.toList.drop T.heap.size).map (·.slots.size)).sum
      rw [List.drop_eq_nil_of_le (Nat.le_of_eq Array.length_toList)]
      rfl
    · show ((T.heap.toList.drop T.heap.size).map (·.slots.size)).sum ≤ 0
      rw [List.drop_eq_nil_of_le (Nat.le_of_eq Array.length_toList)]
      exact Nat.le_refl _
/-- 'throw new E()': new; dup; invokespecial; athrow -/
theorem vx_throw0 {cc : ByteArray} {pc : Nat} (hexec : p.tables.exec = Jvm.exec) (hb : c.code = cc) (hl : l.stackTraces = false) {own cls : String} {names : List String} {ik ic mc ms : Nat} {A : Nat → Prop}
    (hown : s.vm.findClass own = some m.cls) (hcls : Bundle.fit cls = true) (hnames : ∀ n ∈ names, Bundle.fit n = true)
    (hk : (Cond.classLink own ik cls).before args s = true) (hini : (Cond.initialized cls).before args s = true) (hat : ∀ w ∈ vx_at0 own ic cls names, w.before args s = true)
    (hgood : ∀ w ∈ Cond.classLink own ik cls :: Cond.initialized cls :: vx_at0 own ic cls names, vx_ot w = true)
    (hU : vx_Zq Bundle.tN "UNASSIGNED_STACK" Bundle.steD A s s.heap) (hN : vx_Zq Bundle.tN "SUPPRESSED_SENTINEL" Bundle.listD A s s.heap) (hS : va_S A s.heap H locs) (hsize : ls.size = c.maxLocals)
    (d0 : decode cc pc = .ok (.new ik, 3)) (d3 : decode cc (pc + 3) = .ok (.dup, 1)) (d4 : decode cc (pc + 4) = .ok (.invokespecial ic, 3)) (d7 : decode cc (pc + 7) = .ok (.athrow, 1))
    (hout : ∀ x ∈ c.exceptionTable.toList, covers x (pc + 7) = false)
    (hRframes : names.length + 3 < R.frames) (hRlocals : (rest.map fun v => v.category).sum + (13 * (names.length + 1) + 42) ≤ R.locals) (hRcells : cells + 1 ≤ R.cells) (hRslots : slots + 6 ≤ R.slots) (hlocks : meth.locks = false)
    (hx : ∀ t : State, s.vm.Alike t.vm → H.size ≤ t.heap.size → (∀ q : Nat, q < H.size → t.heap[q]? = H[q]?) → XC cls s t)
    (hf : ∀ z ∈ locs, free z.base) (hc : cells + 1 ≤ mc) (hs : slots + 6 ≤ ms) :
    W p l e R s m args below meth c H locs cells slots (vx_MQ below Qc XC args s mc ms free) (F0 m pc ls rest) := by
  intro T hT X
  have htr : e.platform.stackTraces = false := (show e.platform.stackTraces = l.stackTraces by rw [X.admits.platform]).trans hl
  have Y := vx_rebase X (R' := { frames := R.frames, locals := R.locals, cells := 1, slots := 6 }) (Nat.le_refl _) (Nat.le_refl _) hRcells hRslots
  obtain ⟨s', hA⟩ : ∃ z, z = (T.setVm s.vm).setFrames (.invoking m args :: below) := ⟨_, rfl⟩
  rw [← hA] at Y
  have hvm : s'.vm = s.vm := by rw [hA]; rfl
  have hhp : s'.heap = H := by rw [hA]; exact hT
  have hW0 : s.WarmedH s'.vm := by rw [hvm]; exact State.WarmedH.refl s
  have hat' : ∀ w ∈ vx_at0 own ic cls names, w.before args s' = true := fun w hw => vx_ot_at hW0 hvm.symm (hgood w (List.mem_cons_of_mem _ (List.mem_cons_of_mem _ hw))) (hat w hw)
  have hk' : (Cond.classLink own ik cls).before args s' = true := vx_ot_at hW0 hvm.symm (hgood _ List.mem_cons_self) hk
  have hini' : (Cond.initialized cls).before args s' = true := vx_ot_at hW0 hvm.symm (hgood _ (List.mem_cons_of_mem _ List.mem_cons_self)) hini
  have hU' : vx_Zq Bundle.tN "UNASSIGNED_STACK" Bundle.steD A s' s'.heap := by rw [hhp]; exact vx_Zq.moved hW0.alike (hU.kept hS.2.1)
  have hN' : vx_Zq Bundle.tN "SUPPRESSED_SENTINEL" Bundle.listD A s' s'.heap := by rw [hhp]; exact vx_Zq.moved hW0.alike (hN.kept hS.2.1)
  have h : ∀ w ∈ Bundle.ownAtoms0 own ic cls names, w.before args s' = true := vx_own hat' (vx_isRefq hU'.1) (vx_isRefq hN'.1) hU'.2.word hN'.2.word
  have hown' : s'.vm.findClass own = some m.cls := by rw [hvm]; exact hown
  have hins : (Cond.instantiable cls 6).before args s' = true := h _ (by simp [Bundle.ownAtoms0])
  obtain ⟨vm₁, cX, kX, hfX, hkX, -, -, X₁, st1⟩ := Y.newCold hexec (own := own) (C := cls) (index := ik) (n := 6) hown' hk' hins hini'
    (g := F0 m pc ls rest) rfl (by rw [hb]; exact d0) (Nat.le_refl _) (Nat.le_refl _)
  generalize hT1 : (T.setVm vm₁).pushCell { cls := cX, slots := kX.instanceTypes.map defaultValue, vm := .none } = T1 at X₁ st1
  have hcat : (Value.ref T.heap.size).category = 1 := rfl
  have hcellA : T1.heap[T.heap.size]? = some (freshCell cX kX) := by rw [← hT1]; exact State.heap_pushCell_size _ _
  have d3' : decode c.code (pc + 3) = .ok (.dup, 1) := by rw [hb]; exact d3
  obtain ⟨U, hsteps, hrun, hend, hW, hsame, ce, hce, hO⟩ := X₁.ctorThrow0 hexec htr (own := own) (cls := cls) (names := names) (ic := ic) hown' hcls hnames h (fun x hx => nomatch hx) hfX hkX hcellA (by rw [hhp, hT]; exact Nat.le_refl _)
    (g := { method := m, pc := pc + 4, locals := ls, stack := .ref T.heap.size :: .ref T.heap.size :: rest, locked := none }) rfl hsize rfl rfl (rest := rest) rfl
    (by rw [hb]; exact d4) (by rw [hb]; exact d7) hout hRframes (by simp only [List.map_cons, List.sum_cons, hcat]; omega) hlocks
  obtain ⟨f1, f2⟩ := vx_frame hsame
  rw [hhp] at f1 f2
  have hWs : s.WarmedH U.vm := State.WarmedH.trans hW0 hW
  have hcl : s.vm.findClass cls = some ce.cls := by
    have h9 := hO.cls
    rw [hvm] at h9
    exact h9
  have hall : s.sameButNew ({ U with vm := s.vm } : State) locs mc ms := by
    subst hA
    obtain ⟨e1, e2⟩ := hsame
    rw [State.setFrames_setFrames] at e1
    have h2 : (T.setVm s.vm).sameButNew ({ U with vm := s.vm } : State) [] (0 + 1) (0 + 6) := ⟨e1, e2⟩
    have h3 := X.same.trans h2
    rw [List.append_nil] at h3
    exact h3.mono hc hs
  refine ⟨U, ?_, .threw T.heap.size, hrun, hend, Or.inr ⟨T.heap.size, rfl, cls, ce, locs, hx U hWs.alike f1 (fun q hq => f2 q hq (fun z hz => nomatch hz)), hce, hO.vm, hcl, hWs, hall, hf⟩⟩
  refine st1 _ ?_
  show Steps p.tables e below (T1.setTop { method := m, pc := pc + 3, locals := ls, stack := .ref T.heap.size :: rest, locked := none }) _
  jvm_step X₁.here [X₁.here.top, hexec, d3', Value.category]
  exact hsteps
/-- 'throw new E("text")': new; dup; ldc; invokespecial; athrow -/
theorem vx_throwS {cc : ByteArray} {pc : Nat} (hexec : p.tables.exec = Jvm.exec) (hb : c.code = cc) (hl : l.stackTraces = false) {own cls text : String} {names : List String} {ik is ic mc ms sa : Nat} {A : Nat → Prop}
    (hown : s.vm.findClass own = some m.cls) (hcls : Bundle.fit cls = true) (hnames : ∀ n ∈ names, Bundle.fit n = true)
    (hk : (Cond.classLink own ik cls).before args s = true) (hini : (Cond.initialized cls).before args s = true) (hstr : vk_R own is text sa s) (hat : ∀ w ∈ vx_atS own ic cls names, w.before args s = true)
    (hgood : ∀ w ∈ Cond.classLink own ik cls :: Cond.initialized cls :: vx_atS own ic cls names, vx_ot w = true)
    (hU : vx_Zq Bundle.tN "UNASSIGNED_STACK" Bundle.steD A s s.heap) (hN : vx_Zq Bundle.tN "SUPPRESSED_SENTINEL" Bundle.listD A s s.heap) (hS : va_S A s.heap H locs) (hsize : ls.size = c.maxLocals)
    (d0 : decode cc pc = .ok (.new ik, 3)) (d3 : decode cc (pc + 3) = .ok (.dup, 1)) (d4 : decode cc (pc + 4) = .ok (.ldc is, 2)) (d6 : decode cc (pc + 6) = .ok (.invokespecial ic, 3)) (d9 : decode cc (pc + 9) = .ok (.athrow, 1))
    (hout : ∀ x ∈ c.exceptionTable.toList, covers x (pc + 9) = false)
    (hRframes : names.length + 3 < R.frames) (hRlocals : (rest.map fun v => v.category).sum + (13 * (names.length + 1) + 43) ≤ R.locals) (hRcells : cells + 1 ≤ R.cells) (hRslots : slots + 6 ≤ R.slots) (hlocks : meth.locks = false)
    (hx : ∀ t : State, s.vm.Alike t.vm → H.size ≤ t.heap.size → (∀ q : Nat, q < H.size → t.heap[q]? = H[q]?) → XC cls s t)
    (hf : ∀ z ∈ locs, free z.base) (hc : cells + 1 ≤ mc) (hs : slots + 6 ≤ ms) :
    W p l e R s m args below meth c H locs cells slots (vx_MQ below Qc XC args s mc ms free) (F0 m pc ls rest) := by
  intro T hT X
  have htr : e.platform.stackTraces = false := (show e.platform.stackTraces = l.stackTraces by rw [X.admits.platform]).trans hl
  have Y := vx_rebase X (R' := { frames := R.frames, locals := R.locals, cells := 1, slots := 6 }) (Nat.le_refl _) (Nat.le_refl _) hRcells hRslots
  obtain ⟨s', hA⟩ : ∃ z, z = (T.setVm s.vm).setFrames (.invoking m args :: below) := ⟨_, rfl⟩
  rw [← hA] at Y
  have hvm : s'.vm = s.vm := by rw [hA]; rfl
  have hhp : s'.heap = H := by rw [hA]; exact hT
  have hW0 : s.WarmedH s'.vm := by rw [hvm]; exact State.WarmedH.refl s
  have hat' : ∀ w ∈ vx_atS own ic cls names, w.before args s' = true := fun w hw => vx_ot_at hW0 hvm.symm (hgood w (List.mem_cons_of_mem _ (List.mem_cons_of_mem _ hw))) (hat w hw)
  have hk' : (Cond.classLink own ik cls).before args s' = true := vx_ot_at hW0 hvm.symm (hgood _ List.mem_cons_self) hk
  have hini' : (Cond.initialized cls).before args s' = true := vx_ot_at hW0 hvm.symm (hgood _ (List.mem_cons_of_mem _ List.mem_cons_self)) hini
  have hU' : vx_Zq Bundle.tN "UNASSIGNED_STACK" Bundle.steD A s' s'.heap := by rw [hhp]; exact vx_Zq.moved hW0.alike (hU.kept hS.2.1)
  have hN' : vx_Zq Bundle.tN "SUPPRESSED_SENTINEL" Bundle.listD A s' s'.heap := by rw [hhp]; exact vx_Zq.moved hW0.alike (hN.kept hS.2.1)
  have h : ∀ w ∈ Bundle.ownAtoms own ic cls names, w.before args s' = true := vx_own hat' (vx_isRefq hU'.1) (vx_isRefq hN'.1) hU'.2.word hN'.2.word
  have hown' : s'.vm.findClass own = some m.cls := by rw [hvm]; exact hown
  have hins : (Cond.instantiable cls 6).before args s' = true := h _ (by simp [Bundle.ownAtoms])
  obtain ⟨vm₁, cX, kX, hfX, hkX, -, -, X₁, st1⟩ := Y.newCold hexec (own := own) (C := cls) (index := ik) (n := 6) hown' hk' hins hini'
    (g := F0 m pc ls rest) rfl (by rw [hb]; exact d0) (Nat.le_refl _) (Nat.le_refl _)
  generalize hT1 : (T.setVm vm₁).pushCell { cls := cX, slots := kX.instanceTypes.map defaultValue, vm := .none } = T1 at X₁ st1
  have hcat : (Value.ref T.heap.size).category = 1 := rfl
  have hcellA : T1.heap[T.heap.size]? = some (freshCell cX kX) := by rw [← hT1]; exact State.heap_pushCell_size _ _
  have d3' : decode c.code (pc + 3) = .ok (.dup, 1) := by rw [hb]; exact d3
  have d4' : decode c.code (pc + 4) = .ok (.ldc is, 2) := by rw [hb]; exact d4
  have hstr' : vk_R own is text sa s' := vk_R.warm hW0 hstr
  obtain ⟨U, hsteps, hrun, hend, hW, hsame, ce, hce, hO⟩ := X₁.ctorThrowS hexec htr (own := own) (cls := cls) (names := names) (ic := ic) hown' hcls hnames h (fun x hx => nomatch hx) hfX hkX hcellA (by rw [hhp, hT]; exact Nat.le_refl _) (msg := .ref sa) rfl
    (g := { method := m, pc := pc + 6, locals := ls, stack := .ref sa :: .ref T.heap.size :: .ref T.heap.size :: rest, locked := none }) rfl hsize rfl rfl (rest := rest) rfl
    (by rw [hb]; exact d6) (by rw [hb]; exact d9) hout hRframes (by simp only [List.map_cons, List.sum_cons, hcat]; omega) hlocks
  obtain ⟨f1, f2⟩ := vx_frame hsame
  rw [hhp] at f1 f2
  have hWs : s.WarmedH U.vm := State.WarmedH.trans hW0 hW
  have hcl : s.vm.findClass cls = some ce.cls := by
    have h9 := hO.cls
    rw [hvm] at h9
    exact h9
  have hall : s.sameButNew ({ U with vm := s.vm } : State) locs mc ms := by
    subst hA
    obtain ⟨e1, e2⟩ := hsame
    rw [State.setFrames_setFrames] at e1
    have h2 : (T.setVm s.vm).sameButNew ({ U with vm := s.vm } : State) [] (0 + 1) (0 + 6) := ⟨e1, e2⟩
    have h3 := X.same.trans h2
    rw [List.append_nil] at h3
    exact h3.mono hc hs
  refine ⟨U, ?_, .threw T.heap.size, hrun, hend, Or.inr ⟨T.heap.size, rfl, cls, ce, locs, hx U hWs.alike f1 (fun q hq => f2 q hq (fun z hz => nomatch hz)), hce, hO.vm, hcl, hWs, hall, hf⟩⟩
  refine st1 _ ?_
  show Steps p.tables e below (T1.setTop { method := m, pc := pc + 3, locals := ls, stack := .ref T.heap.size :: rest, locked := none }) _
  jvm_step X₁.here [X₁.here.top, hexec, d3', Value.category]
  exact X₁.ldcString hexec (own := own) (text := text) (index := is) (a := sa) hown' hstr'.1 hstr'.2
    (g := { method := m, pc := pc + 4, locals := ls, stack := .ref T.heap.size :: .ref T.heap.size :: rest, locked := none }) rfl d4' _ hsteps
/-- 'throw new E("text")', the text by a wide index -/
theorem vx_throwSW {cc : ByteArray} {pc : Nat} (hexec : p.tables.exec = Jvm.exec) (hb : c.code = cc) (hl : l.stackTraces = false) {own cls text : String} {names : List String} {ik is ic mc ms sa : Nat} {A : Nat → Prop}
    (hown : s.vm.findClass own = some m.cls) (hcls : Bundle.fit cls = true) (hnames : ∀ n ∈ names, Bundle.fit n = true)
    (hk : (Cond.classLink own ik cls).before args s = true) (hini : (Cond.initialized cls).before args s = true) (hstr : vk_R own is text sa s) (hat : ∀ w ∈ vx_atS own ic cls names, w.before args s = true)
    (hgood : ∀ w ∈ Cond.classLink own ik cls :: Cond.initialized cls :: vx_atS own ic cls names, vx_ot w = true)
    (hU : vx_Zq Bundle.tN "UNASSIGNED_STACK" Bundle.steD A s s.heap) (hN : vx_Zq Bundle.tN "SUPPRESSED_SENTINEL" Bundle.listD A s s.heap) (hS : va_S A s.heap H locs) (hsize : ls.size = c.maxLocals)
    (d0 : decode cc pc = .ok (.new ik, 3)) (d3 : decode cc (pc + 3) = .ok (.dup, 1)) (d4 : decode cc (pc + 4) = .ok (.ldc_w is, 3)) (d7 : decode cc (pc + 7) = .ok (.invokespecial ic, 3)) (d10 : decode cc (pc + 10) = .ok (.athrow, 1))
    (hout : ∀ x ∈ c.exceptionTable.toList, covers x (pc + 10) = false)
    (hRframes : names.length + 3 < R.frames) (hRlocals : (rest.map fun v => v.category).sum + (13 * (names.length + 1) + 43) ≤ R.locals) (hRcells : cells + 1 ≤ R.cells) (hRslots : slots + 6 ≤ R.slots) (hlocks : meth.locks = false)
    (hx : ∀ t : State, s.vm.Alike t.vm → H.size ≤ t.heap.size → (∀ q : Nat, q < H.size → t.heap[q]? = H[q]?) → XC cls s t)
    (hf : ∀ z ∈ locs, free z.base) (hc : cells + 1 ≤ mc) (hs : slots + 6 ≤ ms) :
    W p l e R s m args below meth c H locs cells slots (vx_MQ below Qc XC args s mc ms free) (F0 m pc ls rest) := by
  intro T hT X
  have htr : e.platform.stackTraces = false := (show e.platform.stackTraces = l.stackTraces by rw [X.admits.platform]).trans hl
  have Y := vx_rebase X (R' := { frames := R.frames, locals := R.locals, cells := 1, slots := 6 }) (Nat.le_refl _) (Nat.le_refl _) hRcells hRslots
  obtain ⟨s', hA⟩ : ∃ z, z = (T.setVm s.vm).setFrames (.invoking m args :: below) := ⟨_, rfl⟩
  rw [← hA] at Y
  have hvm : s'.vm = s.vm := by rw [hA]; rfl
  have hhp : s'.heap = H := by rw [hA]; exact hT
  have hW0 : s.WarmedH s'.vm := by rw [hvm]; exact State.WarmedH.refl s
  have hat' : ∀ w ∈ vx_atS own ic cls names, w.before args s' = true := fun w hw => vx_ot_at hW0 hvm.symm (hgood w (List.mem_cons_of_mem _ (List.mem_cons_of_mem _ hw))) (hat w hw)
  have hk' : (Cond.classLink own ik cls).before args s' = true := vx_ot_at hW0 hvm.symm (hgood _ List.mem_cons_self) hk
  have hini' : (Cond.initialized cls).before args s' = true := vx_ot_at hW0 hvm.symm (hgood _ (List.mem_cons_of_mem _ List.mem_cons_self)) hini
  have hU' : vx_Zq Bundle.tN "UNASSIGNED_STACK" Bundle.steD A s' s'.heap := by rw [hhp]; exact vx_Zq.moved hW0.alike (hU.kept hS.2.1)
  have hN' : vx_Zq Bundle.tN "SUPPRESSED_SENTINEL" Bundle.listD A s' s'.heap := by rw [hhp]; exact vx_Zq.moved hW0.alike (hN.kept hS.2.1)
  have h : ∀ w ∈ Bundle.ownAtoms own ic cls names, w.before args s' = true := vx_own hat' (vx_isRefq hU'.1) (vx_isRefq hN'.1) hU'.2.word hN'.2.word
  have hown' : s'.vm.findClass own = some m.cls := by rw [hvm]; exact hown
  have hins : (Cond.instantiable cls 6).before args s' = true := h _ (by simp [Bundle.ownAtoms])
  obtain ⟨vm₁, cX, kX, hfX, hkX, -, -, X₁, st1⟩ := Y.newCold hexec (own := own) (C := cls) (index := ik) (n := 6) hown' hk' hins hini'
    (g := F0 m pc ls rest) rfl (by rw [hb]; exact d0) (Nat.le_refl _) (Nat.le_refl _)
  generalize hT1 : (T.setVm vm₁).pushCell { cls := cX, slots := kX.instanceTypes.map defaultValue, vm := .none } = T1 at X₁ st1
  have hcat : (Value.ref T.heap.size).category = 1 := rfl
  have hcellA : T1.heap[T.heap.size]? = some (freshCell cX kX) := by rw [← hT1]; exact State.heap_pushCell_size _ _
  have d3' : decode c.code (pc + 3) = .ok (.dup, 1) := by rw [hb]; exact d3
  have d4' : decode c.code (pc + 4) = .ok (.ldc_w is, 3) := by rw [hb]; exact d4
  have hstr' : vk_R own is text sa s' := vk_R.warm hW0 hstr
  obtain ⟨U, hsteps, hrun, hend, hW, hsame, ce, hce, hO⟩ := X₁.ctorThrowS hexec htr (own := own) (cls := cls) (names := names) (ic := ic) hown' hcls hnames h (fun x hx => nomatch hx) hfX hkX hcellA (by rw [hhp, hT]; exact Nat.le_refl _) (msg := .ref sa) rfl
    (g := { method := m, pc := pc + 7, locals := ls, stack := .ref sa :: .ref T.heap.size :: .ref T.heap.size :: rest, locked := none }) rfl hsize rfl rfl (rest := rest) rfl
    (by rw [hb]; exact d7) (by rw [hb]; exact d10) hout hRframes (by simp only [List.map_cons, List.sum_cons, hcat]; omega) hlocks
  obtain ⟨f1, f2⟩ := vx_frame hsame
  rw [hhp] at f1 f2
  have hWs : s.WarmedH U.vm := State.WarmedH.trans hW0 hW
  have hcl : s.vm.findClass cls = some ce.cls := by
    have h9 := hO.cls
    rw [hvm] at h9
    exact h9
  have hall : s.sameButNew ({ U with vm := s.vm } : State) locs mc ms := by
    subst hA
    obtain ⟨e1, e2⟩ := hsame
    rw [State.setFrames_setFrames] at e1
    have h2 : (T.setVm s.vm).sameButNew ({ U with vm := s.vm } : State) [] (0 + 1) (0 + 6) := ⟨e1, e2⟩
    have h3 := X.same.trans h2
    rw [List.append_nil] at h3
    exact h3.mono hc hs
  refine ⟨U, ?_, .threw T.heap.size, hrun, hend, Or.inr ⟨T.heap.size, rfl, cls, ce, locs, hx U hWs.alike f1 (fun q hq => f2 q hq (fun z hz => nomatch hz)), hce, hO.vm, hcl, hWs, hall, hf⟩⟩
  refine st1 _ ?_
  show Steps p.tables e below (T1.setTop { method := m, pc := pc + 3, locals := ls, stack := .ref T.heap.size :: rest, locked := none }) _
  jvm_step X₁.here [X₁.here.top, hexec, d3', Value.category]
  exact X₁.ldcStringW hexec (own := own) (text := text) (index := is) (a := sa) hown' hstr'.1 hstr'.2
    (g := { method := m, pc := pc + 4, locals := ls, stack := .ref T.heap.size :: .ref T.heap.size :: rest, locked := none }) rfl d4' _ hsteps
end Ends
section Bodies
variable {l : Launch}
theorem vx_ofW {y : MethodName} {ws ws' : List Cond} {rm : Room} {Pc : Array Value → State → Prop} {Qc : Array Value → State → Outcome → State → Prop} {XC : String → State → State → Prop} {mc ms : Nat} {free : Addr → Prop} {cc : ByteArray} {maxL : Nat} {ret : Option FieldType}
    (hy : plainName y.cls = true) (hw : ws = Cond.code y cc maxL ret :: ws')
    (body : ∀ p e s m args below meth c s₁, BodyLoose p l y (headSpec ws rm) cc maxL ret e s m args below meth c s₁ → c.maxLocals = maxL → (∀ x ∈ c.exceptionTable.toList, False) → Pc args s →
      W p l e (headSpec ws rm).room s m args below meth c s.heap [] 0 0 (vx_MQ below Qc XC args s mc ms free) (entryFrame m args maxL)) : vx_Met l y ws rm Pc Qc XC mc ms free := by
  refine MetFree.of_bodyS (code := cc) (maxLocals := maxL) (ret := ret) hy ?_ ?_
  · intro args s m h hn
    obtain ⟨meth, c, h1, h2, h3, h4, h5, h6, -, -⟩ := Cond.code_spec hn (atoms_spec (ws := ws) h _ (by rw [hw]; exact List.mem_cons_self))
    exact ⟨meth, c, h1, h2, h3, h4, h5, h6⟩
  · intro p e s m args below meth c s₁ B hml hP _
    have hh0 : s₁.heap = s.heap := by rw [B.state]; rfl
    have ht : ∀ x ∈ c.exceptionTable.toList, False := by
      obtain ⟨meth9, c9, h1, h2, -, -, -, -, h7, -⟩ := Cond.code_spec B.named (atoms_spec (ws := ws) B.pre _ (by rw [hw]; exact List.mem_cons_self))
      cases Option.some.inj (h1.symm.trans B.method)
      cases Option.some.inj (h2.symm.trans (Stand.of_body B).code)
      intro x hx
      rw [Array.isEmpty_iff.mp h7] at hx
      cases hx
    obtain ⟨t, a1, o, b1, b2, b3⟩ := body p e s m args below meth c s₁ B hml ht hP s₁ hh0 (Stand.of_body B)
    exact ⟨t, o, a1, b1, b2, b3⟩
/-- the table of a body with handlers -/
theorem vx_table {p : Program} {x y : MethodName} {S : Spec} {cc bytes : ByteArray} {maxL maxL' : Nat} {ret ret' : Option FieldType} {e : Env} {s s₁ : State} {m : MethodId} {args : Array Value} {below : List Frame} {meth : Method} {c : Code} {hh : List (Nat × Nat × Nat × Nat)}
    (B : BodyLoose p l y S cc maxL ret e s m args below meth c s₁) (h : (Cond.codeWith y bytes maxL' ret' hh).before args s = true) : c.exceptionTable.toList = tableOf hh := by
  obtain ⟨m9, meth9, c9, hn9, h1, h2, -, -, h6, -⟩ := Cond.codeWith_spec h
  cases Option.some.inj (hn9.symm.trans B.named)
  cases Option.some.inj (h1.symm.trans B.method)
  cases Option.some.inj (h2.symm.trans (Stand.of_body B).code)
  rw [← h6, table_eq]
end Bodies
end VXA
/-! ===== END ===== -/
/-! ===== BEGIN a static call of a method with an exception table ===== -/
section VXS
variable {p : Program} {l : Launch} {e : Env} {R : Room} {s : State} {m : MethodId} {args : Array Value} {below : List Frame} {meth : Method} {c : Code} {T : State} {H : Heap} {locs : List Loc} {cells slots : Nat}
abbrev vx_CSW (R : Room) (s : State) (args : Array Value) (own : String) (index : Nat) (y : MethodName) (bytes : ByteArray) (maxL : Nat) (ret : Option FieldType) (hh : List (Nat × Nat × Nat × Nat)) (ws : List Cond) (rm : Room) (mc ms n : Nat) : Prop :=
  (rm.cells = mc ∧ rm.slots = ms ∧ rm.frames + 1 ≤ R.frames ∧ 8 + (maxL + 11) + rm.locals ≤ R.locals ∧ (∀ w ∈ ws, ∀ (a' : Array Value) (U : State), s.WarmedH U.vm → w.before a' U = true) ∧ Cond.codeWith y bytes maxL ret hh ∈ ws) ∧
  (Cond.codeWith y bytes maxL ret hh).before args s = true ∧ (Cond.initialized y.cls).before args s = true ∧ (y.cls ≠ "java/lang/invoke/MethodHandle" ∧ y.cls ≠ "java/lang/invoke/VarHandle") ∧
  (∀ sig, parseMethodDescriptor y.desc = some sig → n = sig.parameters.length) ∧ (Cond.methodLink own index y).before args s = true ∧ (Cond.static y).before args s = true
theorem vx_cwSW {own : String} {index maxL mc ms : Nat} {y : MethodName} {bytes : ByteArray} {ret : Option FieldType} {hh : List (Nat × Nat × Nat × Nat)} {Ts ws ws' : List Cond} {rm : Room} (n : Nat) (ht : ∀ w ∈ Ts, w.before args s = true) (hT : GoodIn Ts (va_wsS own index y ws)) (hw : ws = Cond.codeWith y bytes maxL ret hh :: ws') (hrc : rm.cells = mc) (hrs : rm.slots = ms)
    (hd : y.cls ≠ "java/lang/invoke/MethodHandle" ∧ y.cls ≠ "java/lang/invoke/VarHandle" ∧ (parseMethodDescriptor y.desc).map (fun d => d.parameters.length) = some n) (hR : rm.frames + 1 ≤ R.frames ∧ 8 + (maxL + 11) + rm.locals ≤ R.locals) :
    vx_CSW R s args own index y bytes maxL ret hh ws rm mc ms n := by
  have ok : ∀ w ∈ va_wsS own index y ws, w.before args s = true := fun w h => ht w (hT w h).1
  have hG : GoodIn Ts ws := fun w h => hT w (by unfold va_wsS; exact List.mem_append_right _ h)
  have hc : Cond.codeWith y bytes maxL ret hh ∈ ws := by rw [hw]; exact List.mem_cons_self
  refine ⟨⟨hrc, hrs, hR.1, hR.2, pay_in ht hG, hc⟩, ht _ (hG _ hc).1, ok _ (by simp [va_wsS]), ⟨hd.1, hd.2.1⟩, fun sig h => ?_, ok _ (by simp [va_wsS]), ok _ (by simp [va_wsS])⟩
  have h2 := hd.2.2
  rw [h] at h2
  exact (Option.some.inj h2).symm
theorem vx_callSW (X : Stand p l e R s m args below meth c T locs cells slots) (hexec : p.tables.exec = Jvm.exec) {own : String} {index : Nat} {y : MethodName} {bytes : ByteArray} {maxL : Nat} {ret : Option FieldType} {hh : List (Nat × Nat × Nat × Nat)}
    (hown : s.vm.findClass own = some m.cls) (hlink : (Cond.methodLink own index y).before args s = true) (hstat : (Cond.static y).before args s = true) (hinit : (Cond.initialized y.cls).before args s = true)
    (hcode : (Cond.codeWith y bytes maxL ret hh).before args s = true) (hy : y.cls ≠ "java/lang/invoke/MethodHandle" ∧ y.cls ≠ "java/lang/invoke/VarHandle")
    {W9 : Nat} {Pre : Pt → Array Value → Prop} {Post : Pt → Array Value → Option Value → Pt → Prop} (hK : Back l R p e below s args y 3 W9 Pre Post)
    {g : JFrame} (hg : g.method = m) (hsize : g.locals.size = c.maxLocals) {argsL rest : List Value} (hlen : ∀ sig, parseMethodDescriptor y.desc = some sig → argsL.length = sig.parameters.length)
    (hstack : g.stack = argsL.reverse ++ rest) (hW : 2 * g.monitorRoom + (rest.map fun v => v.category).sum ≤ W9) (hdg : decode c.code g.pc = .ok (.invokestatic index, 3))
    (hpre : ∀ vm₁, s.WarmedH vm₁ → Pre ⟨T.setVm vm₁, locs, cells, slots⟩ argsL.toArray) :
    ∃ (v : Option Value) (vm₁ : Vm) (B : Pt), s.WarmedH vm₁ ∧ Stand p l e R s m args below meth c B.U B.locs B.cells B.slots ∧ Post ⟨T.setVm vm₁, locs, cells, slots⟩ argsL.toArray v B ∧
      ∀ target, Steps p.tables e below (B.U.setTop { g with pc := g.pc + 3, stack := v.toList ++ rest }) target → Steps p.tables e below (T.setTop g) target := by
  obtain ⟨mk, methM, cM, hnamed, hmethM, -, -, -, -, -, -, hsigM⟩ := Cond.codeWith_spec hcode
  have hstatic : methM.isStatic = true := Cond.static_spec hnamed hmethM hstat
  obtain ⟨kP, hkP, -⟩ := className_of_methodNamed hnamed
  have hinitP : kP.init = .initialized := Cond.initialized_spec (findClass_of_methodNamed hnamed) hkP hinit
  obtain ⟨vm₁, X₁, hstep₁⟩ := X.invokestatic hexec hown hlink hnamed hmethM hstatic hkP hinitP hy (g := g) hg (argsL := argsL) (rest := rest) (hlen _ hsigM) hstack hdg
  obtain ⟨v, B, X', hpost, hsteps⟩ := hK m meth c ⟨T.setVm vm₁, locs, cells, slots⟩ { g with stack := rest } (.invokestatic index) mk argsL.toArray X₁ hg hsize hdg hW (X₁.named hnamed) (hpre vm₁ X₁.warmed)
  exact ⟨v, vm₁, B, X₁.warmed, X', hpost, fun target h => hstep₁ _ fun acts => by rw [doInvoke_state]; exact hsteps.trans h⟩
theorem vx_runSW {y : MethodName} {bytes cc : ByteArray} {maxL nL mc ms n index : Nat} {ret : Option FieldType} {hh : List (Nat × Nat × Nat × Nat)} {ws : List Cond} {rm : Room} {Pc : Array Value → State → Prop} {Qc : Array Value → State → Outcome → State → Prop} {free : Addr → Prop} {Ts : List Cond} {own : String} {As rest : List Value} {g : JFrame}
    (S : CallFix p m c cc nL s args Ts own) (hM : Met l y ws rm Pc Qc mc ms free) (cw : vx_CSW R s args own index y bytes maxL ret hh ws rm mc ms n) (hp : PreS s H Pc As)
    (hg : g.method = m) (hn : As.length = n) (hsize : g.locals.size = nL) (hstack : g.stack = As.reverse ++ rest) (hW : 2 * g.monitorRoom + (rest.map fun v => v.category).sum ≤ 8) (hdg : decode cc g.pc = .ok (.invokestatic index, 3)) (hf : cells + mc ≤ R.cells ∧ slots + ms ≤ R.slots) :
    va_Run p l e R s m args below meth c H locs cells slots mc ms g rest (Qc As.toArray) (free) := by
  obtain ⟨⟨hrc, hrs, hfr, hlo, hws, hcw⟩, hcode, hini, hy, hlen, hl, hstt⟩ := cw
  have hK : Back l R p e below s args y 3 8 (PreOf R mc ms Pc) (PostOf Qc mc ms free) := va_backW (hh := hh) (bytes := bytes) (maxL := maxL) (ret := ret) hM hp.1 hrc hrs hfr hlo hws hcw (fun a' U hW => word_at hW (Or.inl (by first | rfl | simp [Cond.onTables, Cond.keeps, Cond.steady])) hini)
  obtain ⟨hx, hb, hml, ho, -⟩ := S
  intro T hT X
  obtain ⟨v, vm₁, ⟨U', l2, c2, s2⟩, hW₁, X', ⟨g', mk, t, L, e1, e2, hq, h1, hL, h2, h3⟩, st⟩ := vx_callSW X hx (hh := hh) (bytes := bytes) (maxL := maxL) (ret := ret) ho hl hstt hini hcode hy hK hg (hsize.trans hml.symm) (argsL := As) (rest := rest) (fun sig h => hn.trans (hlen sig h)) hstack hW (by rw [hb]; exact hdg)
    (fun vm₁ hW₁ => ⟨hf.1, hf.2, hp.2 (T.setVm vm₁) hT hW₁⟩)
  dsimp only [Pt.U, Pt.locs, Pt.cells, Pt.slots] at X' e1 e2 h1 h2 h3 st
  subst h1; subst h2; subst h3
  exact ⟨v, (T.setVm vm₁).calling g' mk As.toArray, t, U', L, hT, X', hL, e1, e2, hq, st⟩
/-- a thing of a world lies in the heap -/
theorem vx_lt {D : va_G} {cl : List vw_C} {ws : va_W} {H1 : Heap} (h : va_P D cl ws H1) {k : Nat} {q : Nat × va_E} (hk : ws[k]? = some q) : q.1 < H1.size := (h k q hk).lt
end VXS
/-! ===== END ===== -/
/-! ===== BEGIN methods with a table of their own: called by a name, returning or throwing ===== -/
section VXH
/-! vx_backW, vx_callVX, vx_callSX, vx_callVW, vx_runVW, vx_runVX, vx_runSX, vx_ofWH follow the same proofs as their sisters above (Free/Laws.lean, Shelf42/LK1.lean); vx_outP calls Shelf42/NT130.lean (outThrough). -/
section
variable {l : Launch} {R : Room} {p : Program} {e : Env} {below : List Frame} {s : State} {sargs : Array Value} {y : MethodName} {len W9 : Nat}
theorem vx_backW {ws : List Cond} {rm : Room} {Pc : Array Value → State → Prop} {Qc : Array Value → State → Outcome → State → Prop} {XC : String → State → State → Prop} {mc ms : Nat} {free : Addr → Prop} {bytes : ByteArray} {maxL : Nat} {ret : Option FieldType} {hh : List (Nat × Nat × Nat × Nat)}
    (hM : vx_Met l y ws rm Pc Qc XC mc ms free) (hblind : FrameBlind Pc) (hrc : rm.cells = mc) (hrs : rm.slots = ms)
    (hframes : rm.frames + 1 ≤ R.frames) (hlocals : W9 + (maxL + 11) + rm.locals ≤ R.locals)
    (hws : ∀ w ∈ ws, ∀ a' U, s.WarmedH U.vm → w.before a' U = true) (hcode : Cond.codeWith y bytes maxL ret hh ∈ ws) (hinit : ∀ a' U, s.WarmedH U.vm → (Cond.initialized y.cls).before a' U = true) :
    vx_Back l R p e below s sargs y len W9 (PreOf R mc ms Pc) (PostOf Qc mc ms free) (vx_Post XC mc ms free) := by
  intro m meth c A g ig mk a X hg hsize hdg hW hn hp
  have h1 : (headSpec ws rm).pre.before a A.U = true := atoms_intro fun w hw => hws w hw _ _ X.warmed
  have h2 : (Cond.codeWith y bytes maxL ret hh).before a A.U = true := hws _ hcode _ _ X.warmed
  have h3 : (Cond.initialized y.cls).before a A.U = true := hinit _ _ X.warmed
  have h4 : A.cells + (headSpec ws rm).room.cells ≤ R.cells := by rw [show (headSpec ws rm).room.cells = mc from hrc]; exact hp.1
  have h5 : A.slots + (headSpec ws rm).room.slots ≤ R.slots := by rw [show (headSpec ws rm).room.slots = ms from hrs]; exact hp.2.1
  have hPc : Pc a (A.U.calling g mk a) := hblind _ _ _ _ hp.2.2
  obtain ⟨U, Ls, c0, s0⟩ := A
  dsimp only [Pt.U, Pt.locs, Pt.cells, Pt.slots] at h1 h2 h3 h4 h5 X hn hPc ⊢
  obtain ⟨m9, methY, cY, hn9, hmY, hcY, -, hlY, -⟩ := Cond.codeWith_spec h2
  cases Option.some.inj (hn9.symm.trans hn)
  obtain ⟨kY, hkY, -⟩ := className_of_methodNamed hn
  have hinitY : kY.init = .initialized := Cond.initialized_spec (findClass_of_methodNamed hn) hkY h3
  have h : At U g.method c below := by rw [hg]; exact X.here
  have hlocals9 : W9 + (maxL + 11) + (headSpec ws rm).room.locals ≤ R.locals := hlocals
  have happ : (headSpec ws rm).appliesLoose y e.platform (U.calling g mk a) = true :=
    Spec.appliesLoose_calling (g := g) h hdg hn hkY hinitY
      (X.room_calling (g := g) (R' := (headSpec ws rm).room) hsize hmY hcY hframes (by rw [hlY]; omega) h4 h5) h1
  obtain ⟨mid, hmid⟩ := h.above
  have hfr : (U.setTop g).frames = (.java g :: mid) ++ below := by rw [State.frames_setTop' g h.top, hmid]; rfl
  obtain ⟨o, s₂, hsteps, -, hend, hq⟩ := Steps.callFree hM p X.admits X.cas X.clock (acts := []) hfr happ hPc trivial
  have hq' : vx_Q Qc XC mc ms free a (U.calling g mk a) o s₂ := hq
  rw [State.frames_setTop' g h.top] at hend
  obtain ⟨g₀, hg0⟩ := Option.isSome_iff_exists.mp h.top
  obtain ⟨r, hr⟩ := State.topJava?_eq_some.mp hg0
  have hr' : (({ U with heap := s₂.heap, slotsUsed := s₂.slotsUsed } : State).setVm s₂.vm).frames = .java g₀ :: r := hr
  rcases hq' with ⟨hqc, L, hfe, hL⟩ | ⟨q, rfl, E, ce, L, hx, hce, hcv, hcl, hW₂, hsm, hL⟩
  · obtain ⟨⟨v, rfl⟩, hW₂, e2, q2, q3, q4, q5, q6⟩ := id hfe
    have e3 : s₂ = ({ (U.calling g mk a).setFrames s₂.frames with heap := s₂.heap, slotsUsed := s₂.slotsUsed } : State).setVm s₂.vm := by
      have : s₂ = ({ s₂ with vm := (U.calling g mk a).vm } : State).setVm s₂.vm := rfl
      rw [e2] at this
      exact this
    obtain ⟨c₂, i₂, len₂, hc₂, hd₂, hf₂⟩ := hend
    have hW' : U.WarmedH s₂.vm := hW₂
    have hcc : c₂ = c := by
      have h1 : s₂.code? g.method = U.code? g.method := by
        rw [State.code?_eq, State.code?_eq, hW'.alike.method?]
      exact Option.some.inj (hc₂.symm.trans (h1.trans h.code))
    subst hcc
    have hlen : len₂ = len := by rw [hdg] at hd₂; cases hd₂; rfl
    subst hlen
    have hs₂ : s₂ = (({ U with heap := s₂.heap, slotsUsed := s₂.slotsUsed } : State).setVm s₂.vm).setTop { g with pc := g.pc + len₂, stack := v.toList ++ g.stack } := by
      refine e3.trans ?_
      rw [hf₂, State.calling_eq h.top, State.setFrames_setFrames, State.setTop_of_frames _ hr', hr]
      rfl
    have hsame : U.sameButNew ({ U with heap := s₂.heap, slotsUsed := s₂.slotsUsed } : State) L mc ms := by
      refine ⟨?_, q2, q3, q4, q5, q6⟩
      obtain ⟨t, ht, -⟩ := State.frames_cons hr
      show ({ U with heap := s₂.heap, slotsUsed := s₂.slotsUsed } : State) = { U.setFrames U.frames with heap := s₂.heap, slotsUsed := s₂.slotsUsed }
      rw [State.setFrames_self ht]
    subst hg
    refine Or.inl ⟨v, ⟨(({ U with heap := s₂.heap, slotsUsed := s₂.slotsUsed } : State).setVm s₂.vm), Ls ++ L, c0 + mc, s0 + ms⟩,
      ⟨X.admits, X.cas, X.clock, X.frames, X.room, X.hears, X.method, X.code, (X.here.setHeapUsed s₂.heap s₂.slotsUsed).setVm hW'.alike, X.tail, State.WarmedH.trans X.warmed hW', X.limits, X.bytes, X.same.trans (hsame.setVm s.vm)⟩,
      ⟨g, mk, s₂, L, rfl, rfl, hqc, rfl, hL, rfl, rfl⟩, ?_⟩
    show Steps p.tables e below _ ((({ U with heap := s₂.heap, slotsUsed := s₂.slotsUsed } : State).setVm s₂.vm).setTop { g with pc := g.pc + len₂, stack := v.toList ++ g.stack })
    rw [← hs₂]
    exact hsteps
  · obtain ⟨e2, q2, q3, q4, q5, q6⟩ := id hsm
    have e3 : s₂ = ({ (U.calling g mk a).setFrames s₂.frames with heap := s₂.heap, slotsUsed := s₂.slotsUsed } : State).setVm s₂.vm := by
      have : s₂ = ({ s₂ with vm := (U.calling g mk a).vm } : State).setVm s₂.vm := rfl
      rw [e2] at this
      exact this
    have hf₂ : s₂.frames = .throwing q :: .java g :: U.frames.tail := hend
    have hW' : U.WarmedH s₂.vm := hW₂
    have hs₂ : s₂ = ((({ U with heap := s₂.heap, slotsUsed := s₂.slotsUsed } : State).setVm s₂.vm).setTop g).pushFrame (.throwing q) := by
      refine e3.trans ?_
      rw [hf₂, State.calling_eq h.top, State.setFrames_setFrames, State.pushFrame, State.frames_setTop _ hr', State.setTop_of_frames _ hr', State.setFrames_setFrames, hr]
      rfl
    have hsame : U.sameButNew ({ U with heap := s₂.heap, slotsUsed := s₂.slotsUsed } : State) L mc ms := by
      refine ⟨?_, q2, q3, q4, q5, q6⟩
      obtain ⟨t, ht, -⟩ := State.frames_cons hr
      show ({ U with heap := s₂.heap, slotsUsed := s₂.slotsUsed } : State) = { U.setFrames U.frames with heap := s₂.heap, slotsUsed := s₂.slotsUsed }
      rw [State.setFrames_self ht]
    subst hg
    refine Or.inr ⟨q, ⟨(({ U with heap := s₂.heap, slotsUsed := s₂.slotsUsed } : State).setVm s₂.vm), Ls ++ L, c0 + mc, s0 + ms⟩,
      ⟨X.admits, X.cas, X.clock, X.frames, X.room, X.hears, X.method, X.code, (X.here.setHeapUsed s₂.heap s₂.slotsUsed).setVm hW'.alike, X.tail, State.WarmedH.trans X.warmed hW', X.limits, X.bytes, X.same.trans (hsame.setVm s.vm)⟩,
      ⟨g, mk, s₂, L, E, ce, rfl, rfl, hx, hce, hcv, hcl, rfl, hL, rfl, rfl⟩, ?_⟩
    show Steps p.tables e below _ (((({ U with heap := s₂.heap, slotsUsed := s₂.slotsUsed } : State).setVm s₂.vm).setTop g).pushFrame (.throwing q))
    rw [← hs₂]
    exact hsteps
end
variable {p : Program} {l : Launch} {e : Env} {R : Room} {s : State} {m : MethodId} {args : Array Value} {below : List Frame} {meth : Method} {c : Code} {T : State} {H : Heap} {locs : List Loc} {cells slots : Nat}
theorem vx_callVX (X : Stand p l e R s m args below meth c T locs cells slots) (hexec : p.tables.exec = Jvm.exec) {own C : String} {index : Nat} {y : MethodName} {bytes : ByteArray} {maxL : Nat} {ret : Option FieldType} {hh : List (Nat × Nat × Nat × Nat)}
    (hown : s.vm.findClass own = some m.cls) (hlink : (Cond.methodLink own index y).before args s = true) (hinst : (Cond.instanceMethod y).before args s = true) (hsel : (Cond.selects C y y).before args s = true)
    (hcode : (Cond.codeWith y bytes maxL ret hh).before args s = true) (hy : y.cls ≠ "java/lang/invoke/MethodHandle" ∧ y.cls ≠ "java/lang/invoke/VarHandle")
    {W9 : Nat} {Pre : Pt → Array Value → Prop} {Post : Pt → Array Value → Option Value → Pt → Prop} {PostX : Pt → Array Value → Addr → Pt → Prop} (hK : vx_Back l R p e below s args y 3 W9 Pre Post PostX)
    {b : Addr} {cellB : Cell} (hcell : T.heap[b]? = some cellB) (hobj : cellB.vm.isStatics = false) (hcls : s.vm.findClass C = some cellB.cls)
    {g : JFrame} (hg : g.method = m) (hsize : g.locals.size = c.maxLocals) {argsL rest : List Value} (hlen : ∀ sig, parseMethodDescriptor y.desc = some sig → argsL.length = sig.parameters.length)
    (hstack : g.stack = argsL.reverse ++ .ref b :: rest) (hW : 2 * g.monitorRoom + (rest.map fun v => v.category).sum ≤ W9) (hdg : decode c.code g.pc = .ok (.invokevirtual index, 3))
    (hpre : ∀ vm₁, s.WarmedH vm₁ → Pre ⟨T.setVm vm₁, locs, cells, slots⟩ (Value.ref b :: argsL).toArray) :
    (∃ (v : Option Value) (vm₁ : Vm) (B : Pt), s.WarmedH vm₁ ∧ Stand p l e R s m args below meth c B.U B.locs B.cells B.slots ∧ Post ⟨T.setVm vm₁, locs, cells, slots⟩ (Value.ref b :: argsL).toArray v B ∧
      ∀ target, Steps p.tables e below (B.U.setTop { g with pc := g.pc + 3, stack := v.toList ++ rest }) target → Steps p.tables e below (T.setTop g) target) ∨
    (∃ (q : Addr) (vm₁ : Vm) (B : Pt), s.WarmedH vm₁ ∧ Stand p l e R s m args below meth c B.U B.locs B.cells B.slots ∧ PostX ⟨T.setVm vm₁, locs, cells, slots⟩ (Value.ref b :: argsL).toArray q B ∧
      Steps p.tables e below (T.setTop g) ((B.U.setTop { g with stack := rest }).pushFrame (.throwing q))) := by
  obtain ⟨mk, methM, hnamed, hmethM, hstM, habM⟩ := Cond.instanceMethod_spec hinst
  obtain ⟨m8, methM', cM, hn8, hmethM', -, -, -, -, -, -, hsigM⟩ := Cond.codeWith_spec hcode
  cases Option.some.inj (hn8.symm.trans hnamed)
  cases hmethM.symm.trans hmethM'
  obtain ⟨c2, r2, m2, q1, q2, q3, q4, kP, hkP, hkPi⟩ := Cond.selects_spec hsel
  cases hcls.symm.trans q1
  cases (State.methodFound?_of_named hnamed hy).symm.trans q2
  cases hnamed.symm.trans q3
  have hselP : selectMethod e.platform s.vm cellB.cls mk = .method mk := by rw [Launch.admits_selectMethod X.admits]; exact q4
  obtain ⟨vm₁, X₁, hstep₁⟩ := X.invokevirtual hexec hown hlink hnamed hmethM hstM hkP hkPi hy (a := b) (cell := cellB) hcell
    (fun z h => by rw [h] at hobj; cases hobj) hselP hmethM habM hkP hkPi (g := g) hg (argsL := argsL) (rest := rest) (hlen _ hsigM) hstack hdg
  rcases hK m meth c ⟨T.setVm vm₁, locs, cells, slots⟩ { g with stack := rest } (.invokevirtual index) mk (Value.ref b :: argsL).toArray X₁ hg hsize hdg hW (X₁.named hnamed) (hpre vm₁ X₁.warmed) with ⟨v, B, X', hpost, hsteps⟩ | ⟨q, B, X', hpost, hsteps⟩
  · exact Or.inl ⟨v, vm₁, B, X₁.warmed, X', hpost, fun target h => hstep₁ _ fun acts => by rw [doInvoke_state]; exact hsteps.trans h⟩
  · exact Or.inr ⟨q, vm₁, B, X₁.warmed, X', hpost, hstep₁ _ fun acts => by rw [doInvoke_state]; exact hsteps⟩
theorem vx_callSX (X : Stand p l e R s m args below meth c T locs cells slots) (hexec : p.tables.exec = Jvm.exec) {own : String} {index : Nat} {y : MethodName} {bytes : ByteArray} {maxL : Nat} {ret : Option FieldType} {hh : List (Nat × Nat × Nat × Nat)}
    (hown : s.vm.findClass own = some m.cls) (hlink : (Cond.methodLink own index y).before args s = true) (hstat : (Cond.static y).before args s = true) (hinit : (Cond.initialized y.cls).before args s = true)
    (hcode : (Cond.codeWith y bytes maxL ret hh).before args s = true) (hy : y.cls ≠ "java/lang/invoke/MethodHandle" ∧ y.cls ≠ "java/lang/invoke/VarHandle")
    {W9 : Nat} {Pre : Pt → Array Value → Prop} {Post : Pt → Array Value → Option Value → Pt → Prop} {PostX : Pt → Array Value → Addr → Pt → Prop} (hK : vx_Back l R p e below s args y 3 W9 Pre Post PostX)
    {g : JFrame} (hg : g.method = m) (hsize : g.locals.size = c.maxLocals) {argsL rest : List Value} (hlen : ∀ sig, parseMethodDescriptor y.desc = some sig → argsL.length = sig.parameters.length)
    (hstack : g.stack = argsL.reverse ++ rest) (hW : 2 * g.monitorRoom + (rest.map fun v => v.category).sum ≤ W9) (hdg : decode c.code g.pc = .ok (.invokestatic index, 3))
    (hpre : ∀ vm₁, s.WarmedH vm₁ → Pre ⟨T.setVm vm₁, locs, cells, slots⟩ argsL.toArray) :
    (∃ (v : Option Value) (vm₁ : Vm) (B : Pt), s.WarmedH vm₁ ∧ Stand p l e R s m args below meth c B.U B.locs B.cells B.slots ∧ Post ⟨T.setVm vm₁, locs, cells, slots⟩ argsL.toArray v B ∧
      ∀ target, Steps p.tables e below (B.U.setTop { g with pc := g.pc + 3, stack := v.toList ++ rest }) target → Steps p.tables e below (T.setTop g) target) ∨
    (∃ (q : Addr) (vm₁ : Vm) (B : Pt), s.WarmedH vm₁ ∧ Stand p l e R s m args below meth c B.U B.locs B.cells B.slots ∧ PostX ⟨T.setVm vm₁, locs, cells, slots⟩ argsL.toArray q B ∧
      Steps p.tables e below (T.setTop g) ((B.U.setTop { g with stack := rest }).pushFrame (.throwing q))) := by
  obtain ⟨mk, methM, cM, hnamed, hmethM, -, -, -, -, -, -, hsigM⟩ := Cond.codeWith_spec hcode
  have hstatic : methM.isStatic = true := Cond.static_spec hnamed hmethM hstat
  obtain ⟨kP, hkP, -⟩ := className_of_methodNamed hnamed
  have hinitP : kP.init = .initialized := Cond.initialized_spec (findClass_of_methodNamed hnamed) hkP hinit
  obtain ⟨vm₁, X₁, hstep₁⟩ := X.invokestatic hexec hown hlink hnamed hmethM hstatic hkP hinitP hy (g := g) hg (argsL := argsL) (rest := rest) (hlen _ hsigM) hstack hdg
  rcases hK m meth c ⟨T.setVm vm₁, locs, cells, slots⟩ { g with stack := rest } (.invokestatic index) mk argsL.toArray X₁ hg hsize hdg hW (X₁.named hnamed) (hpre vm₁ X₁.warmed) with ⟨v, B, X', hpost, hsteps⟩ | ⟨q, B, X', hpost, hsteps⟩
  · exact Or.inl ⟨v, vm₁, B, X₁.warmed, X', hpost, fun target h => hstep₁ _ fun acts => by rw [doInvoke_state]; exact hsteps.trans h⟩
  · exact Or.inr ⟨q, vm₁, B, X₁.warmed, X', hpost, hstep₁ _ fun acts => by rw [doInvoke_state]; exact hsteps⟩
theorem vx_callVW (X : Stand p l e R s m args below meth c T locs cells slots) (hexec : p.tables.exec = Jvm.exec) {own C : String} {index : Nat} {y : MethodName} {bytes : ByteArray} {maxL : Nat} {ret : Option FieldType} {hh : List (Nat × Nat × Nat × Nat)}
    (hown : s.vm.findClass own = some m.cls) (hlink : (Cond.methodLink own index y).before args s = true) (hinst : (Cond.instanceMethod y).before args s = true) (hsel : (Cond.selects C y y).before args s = true)
    (hcode : (Cond.codeWith y bytes maxL ret hh).before args s = true) (hy : y.cls ≠ "java/lang/invoke/MethodHandle" ∧ y.cls ≠ "java/lang/invoke/VarHandle")
    {W9 : Nat} {Pre : Pt → Array Value → Prop} {Post : Pt → Array Value → Option Value → Pt → Prop} (hK : Back l R p e below s args y 3 W9 Pre Post)
    {b : Addr} {cellB : Cell} (hcell : T.heap[b]? = some cellB) (hobj : cellB.vm.isStatics = false) (hcls : s.vm.findClass C = some cellB.cls)
    {g : JFrame} (hg : g.method = m) (hsize : g.locals.size = c.maxLocals) {argsL rest : List Value} (hlen : ∀ sig, parseMethodDescriptor y.desc = some sig → argsL.length = sig.parameters.length)
    (hstack : g.stack = argsL.reverse ++ .ref b :: rest) (hW : 2 * g.monitorRoom + (rest.map fun v => v.category).sum ≤ W9) (hdg : decode c.code g.pc = .ok (.invokevirtual index, 3))
    (hpre : ∀ vm₁, s.WarmedH vm₁ → Pre ⟨T.setVm vm₁, locs, cells, slots⟩ (Value.ref b :: argsL).toArray) :
    ∃ (v : Option Value) (vm₁ : Vm) (B : Pt), s.WarmedH vm₁ ∧ Stand p l e R s m args below meth c B.U B.locs B.cells B.slots ∧ Post ⟨T.setVm vm₁, locs, cells, slots⟩ (Value.ref b :: argsL).toArray v B ∧
      ∀ target, Steps p.tables e below (B.U.setTop { g with pc := g.pc + 3, stack := v.toList ++ rest }) target → Steps p.tables e below (T.setTop g) target := by
  obtain ⟨mk, methM, hnamed, hmethM, hstM, habM⟩ := Cond.instanceMethod_spec hinst
  obtain ⟨m8, methM', cM, hn8, hmethM', -, -, -, -, -, -, hsigM⟩ := Cond.codeWith_spec hcode
  cases Option.some.inj (hn8.symm.trans hnamed)
  cases hmethM.symm.trans hmethM'
  obtain ⟨c2, r2, m2, q1, q2, q3, q4, kP, hkP, hkPi⟩ := Cond.selects_spec hsel
  cases hcls.symm.trans q1
  cases (State.methodFound?_of_named hnamed hy).symm.trans q2
  cases hnamed.symm.trans q3
  have hselP : selectMethod e.platform s.vm cellB.cls mk = .method mk := by rw [Launch.admits_selectMethod X.admits]; exact q4
  obtain ⟨vm₁, X₁, hstep₁⟩ := X.invokevirtual hexec hown hlink hnamed hmethM hstM hkP hkPi hy (a := b) (cell := cellB) hcell
    (fun z h => by rw [h] at hobj; cases hobj) hselP hmethM habM hkP hkPi (g := g) hg (argsL := argsL) (rest := rest) (hlen _ hsigM) hstack hdg
  obtain ⟨v, B, X', hpost, hsteps⟩ := hK m meth c ⟨T.setVm vm₁, locs, cells, slots⟩ { g with stack := rest } (.invokevirtual index) mk (Value.ref b :: argsL).toArray X₁ hg hsize hdg hW (X₁.named hnamed) (hpre vm₁ X₁.warmed)
  exact ⟨v, vm₁, B, X₁.warmed, X', hpost, fun target h => hstep₁ _ fun acts => by rw [doInvoke_state]; exact hsteps.trans h⟩
abbrev vx_CVW (R : Room) (s : State) (args : Array Value) (own C : String) (index : Nat) (y : MethodName) (bytes : ByteArray) (maxL : Nat) (ret : Option FieldType) (hh : List (Nat × Nat × Nat × Nat)) (ws : List Cond) (rm : Room) (mc ms n : Nat) : Prop :=
  (rm.cells = mc ∧ rm.slots = ms ∧ rm.frames + 1 ≤ R.frames ∧ 8 + (maxL + 11) + rm.locals ≤ R.locals ∧ (∀ w ∈ ws, ∀ (a' : Array Value) (U : State), s.WarmedH U.vm → w.before a' U = true) ∧ Cond.codeWith y bytes maxL ret hh ∈ ws) ∧
  (Cond.codeWith y bytes maxL ret hh).before args s = true ∧ (Cond.initialized y.cls).before args s = true ∧ (y.cls ≠ "java/lang/invoke/MethodHandle" ∧ y.cls ≠ "java/lang/invoke/VarHandle") ∧
  (∀ sig, parseMethodDescriptor y.desc = some sig → n = sig.parameters.length) ∧ (Cond.methodLink own index y).before args s = true ∧ (Cond.instanceMethod y).before args s = true ∧ (Cond.selects C y y).before args s = true
theorem vx_cwVW {own C : String} {index maxL mc ms : Nat} {y : MethodName} {bytes : ByteArray} {ret : Option FieldType} {hh : List (Nat × Nat × Nat × Nat)} {Ts ws ws' : List Cond} {rm : Room} (n : Nat) (ht : ∀ w ∈ Ts, w.before args s = true) (hT : GoodIn Ts (wsV own index C y ws)) (hw : ws = Cond.codeWith y bytes maxL ret hh :: ws') (hrc : rm.cells = mc) (hrs : rm.slots = ms)
    (hd : y.cls = C ∧ y.cls ≠ "java/lang/invoke/MethodHandle" ∧ y.cls ≠ "java/lang/invoke/VarHandle" ∧ (parseMethodDescriptor y.desc).map (fun d => d.parameters.length) = some n) (hR : rm.frames + 1 ≤ R.frames ∧ 8 + (maxL + 11) + rm.locals ≤ R.locals) :
    vx_CVW R s args own C index y bytes maxL ret hh ws rm mc ms n := by
  obtain ⟨hC, hd⟩ := hd
  subst hC
  have ok : ∀ w ∈ wsV own index y.cls y ws, w.before args s = true := fun w h => ht w (hT w h).1
  have hG : GoodIn Ts ws := fun w h => hT w (by unfold wsV; exact List.mem_append_right _ h)
  have hc : Cond.codeWith y bytes maxL ret hh ∈ ws := by rw [hw]; exact List.mem_cons_self
  refine ⟨⟨hrc, hrs, hR.1, hR.2, pay_in ht hG, hc⟩, ht _ (hG _ hc).1, ok _ (by simp [wsV]), ⟨hd.1, hd.2.1⟩, fun sig h => ?_, ok _ (by simp [wsV]), ok _ (by simp [wsV]), ok _ (by simp [wsV])⟩
  have h2 := hd.2.2
  rw [h] at h2
  exact (Option.some.inj h2).symm
theorem vx_runVW {y : MethodName} {bytes cc : ByteArray} {maxL nL mc ms n index : Nat} {ret : Option FieldType} {hh : List (Nat × Nat × Nat × Nat)} {ws : List Cond} {rm : Room} {Pc : Array Value → State → Prop} {Qc : Array Value → State → Outcome → State → Prop} {free : Addr → Prop} {Ts : List Cond} {own C : String} {b : Addr} {As rest : List Value} {g : JFrame}
    (S : CallFix p m c cc nL s args Ts own) (hM : Met l y ws rm Pc Qc mc ms free) (cw : vx_CVW R s args own C index y bytes maxL ret hh ws rm mc ms n) (hp : PreV s H C b Pc As)
    (hg : g.method = m) (hn : As.length = n) (hsize : g.locals.size = nL) (hstack : g.stack = As.reverse ++ .ref b :: rest) (hW : 2 * g.monitorRoom + (rest.map fun v => v.category).sum ≤ 8) (hdg : decode cc g.pc = .ok (.invokevirtual index, 3)) (hf : cells + mc ≤ R.cells ∧ slots + ms ≤ R.slots) :
    va_Run p l e R s m args below meth c H locs cells slots mc ms g rest (Qc (Value.ref b :: As).toArray) free := by
  obtain ⟨⟨hrc, hrs, hfr, hlo, hws, hcw⟩, hcode, hini, hy, hlen, hl, hin, hse⟩ := cw
  have hK : Back l R p e below s args y 3 8 (PreOf R mc ms Pc) (PostOf Qc mc ms free) := va_backW (hh := hh) (bytes := bytes) (maxL := maxL) (ret := ret) hM hp.1 hrc hrs hfr hlo hws hcw (fun a' U hW => word_at hW (Or.inl (by first | rfl | simp [Cond.onTables, Cond.keeps, Cond.steady])) hini)
  obtain ⟨hx, hb, hml, ho, -⟩ := S
  obtain ⟨-, ⟨cellB, hcB, hoB, hclB⟩, hPc⟩ := hp
  intro T hT X
  obtain ⟨v, vm₁, ⟨U', l2, c2, s2⟩, hW₁, X', ⟨g', mk, t, L, e1, e2, hq, h1, hL, h2, h3⟩, st⟩ := vx_callVW X hx (C := C) (hh := hh) (bytes := bytes) (maxL := maxL) (ret := ret) ho hl hin hse hcode hy hK (by rw [hT]; exact hcB) hoB hclB hg (hsize.trans hml.symm) (argsL := As) (rest := rest) (fun sig h => hn.trans (hlen sig h)) hstack hW (by rw [hb]; exact hdg)
    (fun vm₁ hW₁ => ⟨hf.1, hf.2, hPc (T.setVm vm₁) hT hW₁⟩)
  dsimp only [Pt.U, Pt.locs, Pt.cells, Pt.slots] at X' e1 e2 h1 h2 h3 st
  subst h1; subst h2; subst h3
  exact ⟨v, (T.setVm vm₁).calling g' mk (Value.ref b :: As).toArray, t, U', L, hT, X', hL, e1, e2, hq, st⟩
section
variable {y : MethodName} {bytes cc : ByteArray} {maxL nL mc ms n index : Nat} {ret : Option FieldType} {ws : List Cond} {rm : Room} {Pc : Array Value → State → Prop} {Qc : Array Value → State → Outcome → State → Prop} {XC : String → State → State → Prop} {free : Addr → Prop} {Ts : List Cond} {own C : String} {b : Addr} {As rest : List Value} {g : JFrame}
theorem vx_runVX {hh : List (Nat × Nat × Nat × Nat)} (S : CallFix p m c cc nL s args Ts own) (hM : vx_Met l y ws rm Pc Qc XC mc ms free) (cw : vx_CVW R s args own C index y bytes maxL ret hh ws rm mc ms n) (hp : PreV s H C b Pc As)
    (hg : g.method = m) (hn : As.length = n) (hsize : g.locals.size = nL) (hstack : g.stack = As.reverse ++ .ref b :: rest) (hW : 2 * g.monitorRoom + (rest.map fun v => v.category).sum ≤ 8) (hdg : decode cc g.pc = .ok (.invokevirtual index, 3)) (hf : cells + mc ≤ R.cells ∧ slots + ms ≤ R.slots) :
    vx_Run p l e R s m args below meth c H locs cells slots mc ms g rest (Qc (Value.ref b :: As).toArray) XC free := by
  obtain ⟨⟨hrc, hrs, hfr, hlo, hws, hcw⟩, hcode, hini, hy, hlen, hl, hin, hse⟩ := cw
  have hK : vx_Back l R p e below s args y 3 8 (PreOf R mc ms Pc) (PostOf Qc mc ms free) (vx_Post XC mc ms free) := vx_backW (hh := hh) (bytes := bytes) (maxL := maxL) (ret := ret) hM hp.1 hrc hrs hfr hlo hws hcw (fun a' U hW => word_at hW (Or.inl (by first | rfl | simp [Cond.onTables, Cond.keeps, Cond.steady])) hini)
  obtain ⟨hx, hb, hml, ho, -⟩ := S
  obtain ⟨-, ⟨cellB, hcB, hoB, hclB⟩, hPc⟩ := hp
  intro T hT X
  rcases vx_callVX X hx (C := C) (hh := hh) (bytes := bytes) (maxL := maxL) (ret := ret) ho hl hin hse hcode hy hK (by rw [hT]; exact hcB) hoB hclB hg (hsize.trans hml.symm) (argsL := As) (rest := rest) (fun sig h => hn.trans (hlen sig h)) hstack hW (by rw [hb]; exact hdg)
    (fun vm₁ hW₁ => ⟨hf.1, hf.2, hPc (T.setVm vm₁) hT hW₁⟩) with ⟨v, vm₁, ⟨U', l2, c2, s2⟩, hW₁, X', ⟨g', mk, t, L, e1, e2, hq, h1, hL, h2, h3⟩, st⟩ | ⟨q, vm₁, ⟨U', l2, c2, s2⟩, hW₁, X', ⟨g', mk, t, L, E, ce, e1, e2, hq, hce, hcv, hcl, h1, hL, h2, h3⟩, st⟩
  · dsimp only [Pt.U, Pt.locs, Pt.cells, Pt.slots] at X' e1 e2 h1 h2 h3 st
    subst h1; subst h2; subst h3
    exact Or.inl ⟨v, (T.setVm vm₁).calling g' mk (Value.ref b :: As).toArray, t, U', L, hT, X', hL, e1, e2, hq, st⟩
  · dsimp only [Pt.U, Pt.locs, Pt.cells, Pt.slots] at X' e1 e2 h1 h2 h3 st hcl
    subst h1; subst h2; subst h3
    exact Or.inr ⟨q, (T.setVm vm₁).calling g' mk (Value.ref b :: As).toArray, t, U', L, E, ce, hT, X', hL, e1, e2, hq, hce, hcv, vx_cls hW₁ hcl, st⟩
theorem vx_runSX {hh : List (Nat × Nat × Nat × Nat)} (S : CallFix p m c cc nL s args Ts own) (hM : vx_Met l y ws rm Pc Qc XC mc ms free) (cw : vx_CSW R s args own index y bytes maxL ret hh ws rm mc ms n) (hp : PreS s H Pc As)
    (hg : g.method = m) (hn : As.length = n) (hsize : g.locals.size = nL) (hstack : g.stack = As.reverse ++ rest) (hW : 2 * g.monitorRoom + (rest.map fun v => v.category).sum ≤ 8) (hdg : decode cc g.pc = .ok (.invokestatic index, 3)) (hf : cells + mc ≤ R.cells ∧ slots + ms ≤ R.slots) :
    vx_Run p l e R s m args below meth c H locs cells slots mc ms g rest (Qc As.toArray) XC free := by
  obtain ⟨⟨hrc, hrs, hfr, hlo, hws, hcw⟩, hcode, hini, hy, hlen, hl, hstt⟩ := cw
  have hK : vx_Back l R p e below s args y 3 8 (PreOf R mc ms Pc) (PostOf Qc mc ms free) (vx_Post XC mc ms free) := vx_backW (hh := hh) (bytes := bytes) (maxL := maxL) (ret := ret) hM hp.1 hrc hrs hfr hlo hws hcw (fun a' U hW => word_at hW (Or.inl (by first | rfl | simp [Cond.onTables, Cond.keeps, Cond.steady])) hini)
  obtain ⟨hx, hb, hml, ho, -⟩ := S
  intro T hT X
  rcases vx_callSX X hx (hh := hh) (bytes := bytes) (maxL := maxL) (ret := ret) ho hl hstt hini hcode hy hK hg (hsize.trans hml.symm) (argsL := As) (rest := rest) (fun sig h => hn.trans (hlen sig h)) hstack hW (by rw [hb]; exact hdg)
    (fun vm₁ hW₁ => ⟨hf.1, hf.2, hp.2 (T.setVm vm₁) hT hW₁⟩) with ⟨v, vm₁, ⟨U', l2, c2, s2⟩, hW₁, X', ⟨g', mk, t, L, e1, e2, hq, h1, hL, h2, h3⟩, st⟩ | ⟨q, vm₁, ⟨U', l2, c2, s2⟩, hW₁, X', ⟨g', mk, t, L, E, ce, e1, e2, hq, hce, hcv, hcl, h1, hL, h2, h3⟩, st⟩
  · dsimp only [Pt.U, Pt.locs, Pt.cells, Pt.slots] at X' e1 e2 h1 h2 h3 st
    subst h1; subst h2; subst h3
    exact Or.inl ⟨v, (T.setVm vm₁).calling g' mk As.toArray, t, U', L, hT, X', hL, e1, e2, hq, st⟩
  · dsimp only [Pt.U, Pt.locs, Pt.cells, Pt.slots] at X' e1 e2 h1 h2 h3 st hcl
    subst h1; subst h2; subst h3
    exact Or.inr ⟨q, (T.setVm vm₁).calling g' mk As.toArray, t, U', L, E, ce, hT, X', hL, e1, e2, hq, hce, hcv, vx_cls hW₁ hcl, st⟩
end
end VXH
theorem vx_ofWH {l : Launch} {y : MethodName} {ws ws' : List Cond} {rm : Room} {Pc : Array Value → State → Prop} {Qc : Array Value → State → Outcome → State → Prop} {XC : String → State → State → Prop} {mc ms : Nat} {free : Addr → Prop} {cc : ByteArray} {maxL : Nat} {ret : Option FieldType} {hh : List (Nat × Nat × Nat × Nat)}
    (hy : plainName y.cls = true) (hw : ws = Cond.codeWith y cc maxL ret hh :: ws')
    (body : ∀ p e s m args below meth c s₁, BodyLoose p l y (headSpec ws rm) cc maxL ret e s m args below meth c s₁ → c.maxLocals = maxL → Pc args s →
      W p l e (headSpec ws rm).room s m args below meth c s.heap [] 0 0 (vx_MQ below Qc XC args s mc ms free) (entryFrame m args maxL)) : vx_Met l y ws rm Pc Qc XC mc ms free := by
  refine MetFree.of_bodyS (code := cc) (maxLocals := maxL) (ret := ret) hy ?_ ?_
  · intro args s m h hn
    obtain ⟨m9, meth, c, hn9, h1, h2, h3, h4, -, h5, h6, -⟩ := Cond.codeWith_spec (atoms_spec (ws := ws) h _ (by rw [hw]; exact List.mem_cons_self))
    cases hn.symm.trans hn9
    exact ⟨meth, c, h1, h2, h3, h4, h5, h6⟩
  · intro p e s m args below meth c s₁ B hml hP _
    have hh0 : s₁.heap = s.heap := by rw [B.state]; rfl
    obtain ⟨t, a1, o, b1, b2, b3⟩ := body p e s m args below meth c s₁ B hml hP s₁ hh0 (Stand.of_body B)
    exact ⟨t, o, a1, b1, b2, b3⟩
/-! ===== END ===== -/
end
section
/-! A SMALL MACHINE. Its values: an int, a long, a place of the world (or none), an array from outside (the script, a table). Its cells: arrays of ints (0), of truth values (1), of longs (2); objects by the number of what they are of, and their fields. The cells made since the start stand in the order in which they were made: the k-th lies at the address N0 + k. -/
abbrev mvV : Type := Int32 ⊕ (Int64 ⊕ (Option Nat ⊕ Nat))
/-- what an array holds: what was written, the latest first; 0 elsewhere -/
def mvLk : List (Nat × Int32) → Nat → Int32
  | [], _ => 0
  | q :: t, i => if i = q.1 then q.2 else mvLk t i
def mvLl : List (Nat × Int64) → Nat → Int64
  | [], _ => 0
  | q :: t, i => if i = q.1 then q.2 else mvLl t i
abbrev mvC : Type := (Nat × Nat × (List (Nat × Int32) ⊕ List (Nat × Int64))) ⊕ (Nat × List mvV)
/-- true while nothing but these cells has been made -/
abbrev mvH : Type := Bool × List mvC
abbrev mvL : Type := List (Nat × mvV)
abbrev mvR : Type := Option mvV ⊕ String
abbrev mvO : Type := mvR × mvH × Nat × Nat
/-- a method: its name, its bytes, its locals, what it answers, its handlers -/
abbrev mvE : Type := MethodName × ByteArray × Nat × Option FieldType × List (Nat × Nat × Nat × Nat)
def mvCat (v : mvV) : Nat := match v with
  | .inr (.inl _) => 2
  | _ => 1
def mvLd (lv : mvL) (i : Nat) : Option mvV := (lv.find? (fun q => q.1 == i)).map (fun q => q.2)
def mvSv (lv : mvL) (i : Nat) (v : mvV) : mvL := (i, v) :: lv.filter (fun q => !(q.1 == i) && !(q.1 + 1 == i && mvCat q.2 == 2))
def mvIsA (v : mvV) : Bool := match v with
  | .inr (.inr (.inl (some _))) => true
  | .inr (.inr (.inr _)) => true
  | _ => false
def mvT (pc : Nat) (off : Int) : Option Nat := if 0 ≤ (pc : Int) + off then some ((pc : Int) + off).toNat else none
def mvC1 (c : Jvm.ClassFile.Cond) (x : Int32) : Bool := match c with
  | .eq => decide (x = 0)
  | .ne => decide (¬ x = 0)
  | .lt => decide (x < 0)
  | .ge => decide (0 ≤ x)
  | .gt => decide (0 < x)
  | .le => decide (x ≤ 0)
def mvC2 (c : Jvm.ClassFile.Cond) (x y : Int32) : Bool := match c with
  | .eq => decide (x = y)
  | .ne => decide (¬ x = y)
  | .lt => decide (x < y)
  | .ge => decide (y ≤ x)
  | .gt => decide (y < x)
  | .le => decide (x ≤ y)
def mvA2 (i : Instr) : Option (Int32 → Int32 → Int32) := match i with
  | .iadd => some (fun x y => x + y)
  | .isub => some (fun x y => x - y)
  | .imul => some (fun x y => x * y)
  | .iand => some (fun x y => x &&& y)
  | .ior => some (fun x y => x ||| y)
  | .ixor => some (fun x y => x ^^^ y)
  | .ishl => some (fun x y => x <<< (y &&& 31))
  | .ishr => some (fun x y => x >>> (y &&& 31))
  | _ => none
/-- loads and constants: what comes onto the stack, the length -/
def mvF1 (i : Instr) (lv : mvL) : Option (mvV × Nat) := match i with
  | .iconst k => some (.inl (Int32.ofInt k), 1)
  | .bipush k => some (.inl (Int8.ofInt k).toInt32, 2)
  | .sipush k => some (.inl (Int16.ofInt k).toInt32, 3)
  | .lconst k => some (.inr (.inl (Int64.ofNat (k : Nat))), 1)
  | .iload_n k => match mvLd lv k with
    | some (.inl x) => some (.inl x, 1)
    | _ => none
  | .iload k => match mvLd lv k with
    | some (.inl x) => some (.inl x, 2)
    | _ => none
  | .aload_n k => match mvLd lv k with
    | some v => if mvIsA v = true then some (v, 1) else none
    | none => none
  | .aload k => match mvLd lv k with
    | some v => if mvIsA v = true then some (v, 2) else none
    | none => none
  | _ => none
/-- stores and iinc: which local, its new value, the rest of the stack, the length -/
def mvF2 (i : Instr) (lv : mvL) (st : List mvV) : Option (Nat × mvV × List mvV × Nat) := match i with
  | .istore_n k => match st with
    | .inl x :: r => some (k, .inl x, r, 1)
    | _ => none
  | .istore k => match st with
    | .inl x :: r => some (k, .inl x, r, 2)
    | _ => none
  | .astore_n k => match st with
    | v :: r => if mvIsA v = true then some (k, v, r, 1) else none
    | _ => none
  | .astore k => match st with
    | v :: r => if mvIsA v = true then some (k, v, r, 2) else none
    | _ => none
  | .iinc k n => match mvLd lv k with
    | some (.inl x) => some (k, .inl (x + Int32.ofInt n), st, 3)
    | _ => none
  | _ => none
/-- the stack alone; all of one byte -/
def mvF3 (i : Instr) (st : List mvV) : Option (List mvV) := match i with
  | .idiv => match st with
    | .inl y :: .inl x :: r => if y = 0 then none else some (.inl (x / y) :: r)
    | _ => none
  | .irem => match st with
    | .inl y :: .inl x :: r => if y = 0 then none else some (.inl (x - x / y * y) :: r)
    | _ => none
  | .i2l => match st with
    | .inl x :: r => some (.inr (.inl x.toInt64) :: r)
    | _ => none
  | .lcmp => match st with
    | .inr (.inl y) :: .inr (.inl x) :: r => some (.inl (lg_cmp x y) :: r)
    | _ => none
  | .dup => match st with
    | v :: r => if mvCat v = 1 then some (v :: v :: r) else none
    | _ => none
  | .pop => match st with
    | v :: r => if mvCat v = 1 then some r else none
    | _ => none
  | .dup_x1 => match st with
    | v :: w :: r => if mvCat v = 1 ∧ mvCat w = 1 then some (v :: w :: v :: r) else none
    | _ => none
  | .dup_x2 => match st with
    | v :: w :: z :: r => if mvCat v = 1 ∧ mvCat w = 1 ∧ mvCat z = 1 then some (v :: w :: z :: v :: r) else none
    | _ => none
  | .dup2 => match st with
    | v :: w :: r => if mvCat v = 1 ∧ mvCat w = 1 then some (v :: w :: v :: w :: r) else none
    | _ => none
  | _ => none
/-- branches: where to, the rest of the stack -/
def mvF4 (i : Instr) (pc : Nat) (st : List mvV) : Option (Nat × List mvV) := match i with
  | .ifCond c off => match st with
    | .inl x :: r => match mvT pc off with
      | some t => some (if mvC1 c x = true then t else pc + 3, r)
      | none => none
    | _ => none
  | .if_icmp c off => match st with
    | .inl y :: .inl x :: r => match mvT pc off with
      | some t => some (if mvC2 c x y = true then t else pc + 3, r)
      | none => none
    | _ => none
  | .goto off => (mvT pc off).map (fun t => (t, st))
  | _ => none
def mvF5 (i : Instr) (pc : Nat) (st : List mvV) : Option (Nat × List mvV) := match i with
  | .tableswitch dflt lo hi offs => match st with
    | .inl x :: r => if x.toInt < lo ∨ hi < x.toInt then (mvT pc dflt).map (fun t => (t, r)) else match offs[(x.toInt - lo).toNat]? with
      | some off => (mvT pc off).map (fun t => (t, r))
      | none => none
    | _ => none
  | _ => none
/-- a step that leaves the cells alone -/
def mvF (i : Instr) (len pc nL : Nat) (lv : mvL) (st : List mvV) : Option (Nat × mvL × List mvV) :=
  match mvF1 i lv with
  | some (v, n) => if len = n then some (pc + n, lv, v :: st) else none
  | none => match mvF2 i lv st with
    | some (k, v, r, n) => if len = n ∧ k < nL then some (pc + n, mvSv lv k v, r) else none
    | none => match mvA2 i with
      | some f => match st with
        | .inl y :: .inl x :: r => if len = 1 then some (pc + 1, lv, .inl (f x y) :: r) else none
        | _ => none
      | none => match mvF3 i st with
        | some st' => if len = 1 then some (pc + 1, lv, st') else none
        | none => match mvF4 i pc st with
          | some (pc', r) => if len = 3 then some (pc', lv, r) else none
          | none => (mvF5 i pc st).map (fun q => (q.1, lv, q.2))
/-- what they stand for -/
def mvCv (N0 : Nat) (xa : Nat → Nat) (v : mvV) : Value := match v with
  | .inl x => .int x
  | .inr (.inl x) => .long x
  | .inr (.inr (.inl none)) => .null
  | .inr (.inr (.inl (some k))) => .ref (N0 + k)
  | .inr (.inr (.inr i)) => .ref (xa i)
def mvCE (N0 : Nat) (xa : Nat → Nat) (cA : Nat → ClassId) (c : mvC) : va_E := match c with
  | .inl (t, n, .inl f) => .inl (cA t, n, .inl (mvLk f))
  | .inl (t, n, .inr f) => .inl (cA t, n, .inr (.inl (mvLl f)))
  | .inr (ci, fs) => .inr (ci, fs.map (mvCv N0 xa))
def mvWs (N0 : Nat) (xa : Nat → Nat) (cA : Nat → ClassId) : Nat → List mvC → va_W
  | _, [] => []
  | a, c :: t => (a, mvCE N0 xa cA c) :: mvWs N0 xa cA (a + 1) t
def mvCl (N0 : Nat) (xa : Nat → Nat) (lv : mvL) : List (Nat × Value) := lv.map (fun q => (q.1, mvCv N0 xa q.2))
theorem mvCv_cat (N0 : Nat) (xa : Nat → Nat) (v : mvV) : (mvCv N0 xa v).category = mvCat v := by
  rcases v with x | x | (_ | k) | i <;> rfl
theorem mvCv_A {N0 : Nat} {xa : Nat → Nat} {v : mvV} (h : mvIsA v = true) : ∃ a, mvCv N0 xa v = .ref a := by
  rcases v with x | x | (_ | k) | i
  · cases h
  · cases h
  · cases h
  · exact ⟨_, rfl⟩
  · exact ⟨_, rfl⟩
theorem mvCl_ld {N0 : Nat} {xa : Nat → Nat} {lv : mvL} {i : Nat} {v : mvV} (h : mvLd lv i = some v) : (i, mvCv N0 xa v) ∈ mvCl N0 xa lv := by
  unfold mvLd at h
  cases hf : lv.find? (fun q => q.1 == i) with
  | none => rw [hf] at h; cases h
  | some q =>
    rw [hf] at h
    cases h
    have h1 := List.mem_of_find?_eq_some hf
    have h2 := List.find?_some hf
    have h3 : q.1 = i := by simpa using h2
    rw [← h3]
    exact List.mem_map.mpr ⟨q, h1, rfl⟩
theorem mvCl_sv (N0 : Nat) (xa : Nat → Nat) (lv : mvL) (i : Nat) (v : mvV) : (i, mvCv N0 xa v) :: (mvCl N0 xa lv).filter (fun q => !(q.1 == i) && !(q.1 + 1 == i && q.2.category == 2)) = mvCl N0 xa (mvSv lv i v) := by
  unfold mvSv mvCl
  rw [List.map_cons, List.filter_map]
  congr 2
  apply List.filter_congr
  intro q _
  simp [Function.comp, mvCv_cat]
theorem mvHas {ls : Array Slot} {nL : Nat} {l : List (Nat × Value)} (h : lv_has ls nL l) {i : Nat} {v : Value} (hm : (i, v) ∈ l) : ls[i]? = some (.val v) := h.2.2 (i, v) hm
theorem mvT_eq {pc t : Nat} {off : Int} (h : mvT pc off = some t) : (pc : Int) + off = (t : Int) := by
  unfold mvT at h
  split at h
  · cases h
    omega
  · cases h
section MV
variable {p : Program} {l : Launch} {e : Env} {R : Room} {s : State} {m : MethodId} {args : Array Value} {below : List Frame} {meth : Method} {c : Code} {H : Heap} {locs : List Loc} {cells slots : Nat} {Q : State → Prop}
variable {cc : ByteArray} {pc nL len : Nat} {ls : Array Slot} {N0 : Nat} {xa : Nat → Nat} {lv : mvL} {st : List mvV} {i : Instr}
theorem mvF1_ok (hx : p.tables.exec = Jvm.exec) (hb : c.code = cc) (hl : lv_has ls nL (mvCl N0 xa lv)) {v : mvV} {n : Nat} (hs : mvF1 i lv = some (v, n)) (hdg : decode cc pc = .ok (i, n))
    (k : W p l e R s m args below meth c H locs cells slots Q (F0 m (pc + n) ls ((v :: st).map (mvCv N0 xa)))) : W p l e R s m args below meth c H locs cells slots Q (F0 m pc ls (st.map (mvCv N0 xa))) := by
  unfold mvF1 at hs
  split at hs
  · cases hs; exact lv_iconst hx hb hdg rfl k
  · cases hs; exact lv_bipush hx hb hdg rfl k
  · cases hs; exact lv_sipush hx hb hdg rfl k
  · cases hs; exact lv_lconst hx hb hdg rfl k
  · split at hs
    · rename_i h; cases hs; exact lv_iload_n hx hb hdg rfl (mvHas hl (mvCl_ld h)) k
    · cases hs
  · split at hs
    · rename_i h; cases hs; exact lv_iload hx hb hdg (mvHas hl (mvCl_ld h)) k
    · cases hs
  · split at hs
    · rename_i w h
      split at hs
      · rename_i hA
        cases hs
        obtain ⟨a, ha⟩ := mvCv_A (N0 := N0) (xa := xa) hA
        have h1 := mvHas hl (mvCl_ld h)
        rw [ha] at h1
        rw [List.map_cons, ha] at k
        exact lv_aload_n hx hb hdg rfl h1 k
      · cases hs
    · cases hs
  · split at hs
    · rename_i w h
      split at hs
      · rename_i hA
        cases hs
        obtain ⟨a, ha⟩ := mvCv_A (N0 := N0) (xa := xa) hA
        have h1 := mvHas hl (mvCl_ld h)
        rw [ha] at h1
        rw [List.map_cons, ha] at k
        exact lv_aload hx hb hdg h1 k
      · cases hs
    · cases hs
  · cases hs
theorem mvF2_ok (hx : p.tables.exec = Jvm.exec) (hb : c.code = cc) (hl : lv_has ls nL (mvCl N0 xa lv)) {q n : Nat} {v : mvV} {r : List mvV} (hs : mvF2 i lv st = some (q, v, r, n)) (hq : q < nL) (hdg : decode cc pc = .ok (i, n))
    (k : ∀ ls', lv_has ls' nL (mvCl N0 xa (mvSv lv q v)) → W p l e R s m args below meth c H locs cells slots Q (F0 m (pc + n) ls' (r.map (mvCv N0 xa)))) : W p l e R s m args below meth c H locs cells slots Q (F0 m pc ls (st.map (mvCv N0 xa))) := by
  have e1 := mvCl_sv N0 xa lv q v
  unfold mvF2 at hs
  split at hs
  · split at hs
    · cases hs; exact lv_istore_n hx hb hdg rfl hl hq e1 k
    · cases hs
  · split at hs
    · cases hs; exact lv_istore hx hb hdg hl hq e1 k
    · cases hs
  · split at hs
    · split at hs
      · rename_i hA
        cases hs
        obtain ⟨a, ha⟩ := mvCv_A (N0 := N0) (xa := xa) hA
        rw [ha] at e1
        rw [List.map_cons, ha]
        exact lv_astore_n hx hb hdg rfl hl hq e1 k
      · cases hs
    · cases hs
  · split at hs
    · split at hs
      · rename_i hA
        cases hs
        obtain ⟨a, ha⟩ := mvCv_A (N0 := N0) (xa := xa) hA
        rw [ha] at e1
        rw [List.map_cons, ha]
        exact lv_astore hx hb hdg hl hq e1 k
      · cases hs
    · cases hs
  · split at hs
    · rename_i h
      cases hs
      obtain ⟨j, hj⟩ := List.getElem?_of_mem (mvCl_ld (N0 := N0) (xa := xa) h)
      exact lv_iinc hx hb hdg hl (k := j) hj rfl hq e1 k
    · cases hs
  · cases hs
theorem mvA2_ok (hx : p.tables.exec = Jvm.exec) (hb : c.code = cc) {f : Int32 → Int32 → Int32} {x y : Int32} {r : List Value} (hs : mvA2 i = some f) (hdg : decode cc pc = .ok (i, 1))
    (k : W p l e R s m args below meth c H locs cells slots Q (F0 m (pc + 1) ls (.int (f x y) :: r))) : W p l e R s m args below meth c H locs cells slots Q (F0 m pc ls (.int y :: .int x :: r)) := by
  unfold mvA2 at hs
  split at hs
  · cases hs; exact lv_iadd hx hb hdg k
  · cases hs; exact lv_isub hx hb hdg k
  · cases hs; exact lv_imul hx hb hdg k
  · cases hs; exact lv_iand hx hb hdg k
  · cases hs; exact lv_ior hx hb hdg k
  · cases hs; exact lv_ixor hx hb hdg k
  · cases hs; exact lv_ishl hx hb hdg k
  · cases hs; exact lv_ishr hx hb hdg k
  · cases hs
theorem mvF3_ok (hx : p.tables.exec = Jvm.exec) (hb : c.code = cc) {st' : List mvV} (hs : mvF3 i st = some st') (hdg : decode cc pc = .ok (i, 1))
    (k : W p l e R s m args below meth c H locs cells slots Q (F0 m (pc + 1) ls (st'.map (mvCv N0 xa)))) : W p l e R s m args below meth c H locs cells slots Q (F0 m pc ls (st.map (mvCv N0 xa))) := by
  unfold mvF3 at hs
  split at hs
  · split at hs
    · split at hs
      · cases hs
      · rename_i hne; cases hs; exact lv_idiv hx hb hdg hne k
    · cases hs
  · split at hs
    · split at hs
      · cases hs
      · rename_i hne; cases hs; exact lv_irem hx hb hdg hne k
    · cases hs
  · split at hs
    · cases hs; exact lv_i2l hx hb hdg rfl k
    · cases hs
  · split at hs
    · cases hs; exact W.lcmp hx hb hdg k
    · cases hs
  · split at hs
    · split at hs
      · rename_i h1; cases hs; exact lv_dup hx hb hdg ((mvCv_cat N0 xa _).trans h1) k
      · cases hs
    · cases hs
  · split at hs
    · split at hs
      · rename_i h1; cases hs; exact lv_pop hx hb hdg ((mvCv_cat N0 xa _).trans h1) k
      · cases hs
    · cases hs
  · split at hs
    · split at hs
      · rename_i h1; cases hs; exact lv_dup_x1 hx hb hdg ((mvCv_cat N0 xa _).trans h1.1) ((mvCv_cat N0 xa _).trans h1.2) k
      · cases hs
    · cases hs
  · split at hs
    · split at hs
      · rename_i h1; cases hs; exact lv_dup_x2 hx hb hdg ((mvCv_cat N0 xa _).trans h1.1) ((mvCv_cat N0 xa _).trans h1.2.1) ((mvCv_cat N0 xa _).trans h1.2.2) k
      · cases hs
    · cases hs
  · split at hs
    · split at hs
      · rename_i h1; cases hs; exact lv_dup2_11 hx hb hdg ((mvCv_cat N0 xa _).trans h1.1) ((mvCv_cat N0 xa _).trans h1.2) k
      · cases hs
    · cases hs
  · cases hs
theorem mvIf {b : Bool} {P : Prop} {t t3 : Nat} {st' : List Value} (hb : b = true ↔ P) (k : W p l e R s m args below meth c H locs cells slots Q (F0 m (if b = true then t else t3) ls st')) :
    (P → W p l e R s m args below meth c H locs cells slots Q (F0 m t ls st')) ∧ (¬ P → W p l e R s m args below meth c H locs cells slots Q (F0 m t3 ls st')) := by
  refine ⟨fun h => ?_, fun h => ?_⟩
  · rw [if_pos (hb.mpr h)] at k; exact k
  · rw [if_neg (fun q => h (hb.mp q))] at k; exact k
theorem mvF4_ok (hx : p.tables.exec = Jvm.exec) (hb : c.code = cc) {pc' : Nat} {r : List mvV} (hs : mvF4 i pc st = some (pc', r)) (hdg : decode cc pc = .ok (i, 3))
    (k : W p l e R s m args below meth c H locs cells slots Q (F0 m pc' ls (r.map (mvCv N0 xa)))) : W p l e R s m args below meth c H locs cells slots Q (F0 m pc ls (st.map (mvCv N0 xa))) := by
  unfold mvF4 at hs
  split at hs
  · rename_i c0 off
    split at hs
    · split at hs
      · rename_i t ht
        have h9 := mvT_eq ht
        cases hs
        rcases c0
        · obtain ⟨k1, k2⟩ := mvIf decide_eq_true_iff k; exact lv_if_eq hx hb hdg h9 k1 k2
        · obtain ⟨k1, k2⟩ := mvIf decide_eq_true_iff k; exact lv_if_ne hx hb hdg h9 k1 (fun q => k2 (fun z => z q))
        · obtain ⟨k1, k2⟩ := mvIf decide_eq_true_iff k; exact lv_if_lt hx hb hdg h9 k1 k2
        · obtain ⟨k1, k2⟩ := mvIf decide_eq_true_iff k; exact lv_if_ge hx hb hdg h9 k1 k2
        · obtain ⟨k1, k2⟩ := mvIf decide_eq_true_iff k; exact lv_if_gt hx hb hdg h9 k1 k2
        · obtain ⟨k1, k2⟩ := mvIf decide_eq_true_iff k; exact lv_if_le hx hb hdg h9 k1 k2
      · cases hs
    · cases hs
  · rename_i c0 off
    split at hs
    · split at hs
      · rename_i t ht
        have h9 := mvT_eq ht
        cases hs
        rcases c0
        · obtain ⟨k1, k2⟩ := mvIf decide_eq_true_iff k; exact lv_icmp_eq hx hb hdg h9 k1 k2
        · obtain ⟨k1, k2⟩ := mvIf decide_eq_true_iff k; exact lv_icmp_ne hx hb hdg h9 k1 (fun q => k2 (fun z => z q))
        · obtain ⟨k1, k2⟩ := mvIf decide_eq_true_iff k; exact lv_icmp_lt hx hb hdg h9 k1 k2
        · obtain ⟨k1, k2⟩ := mvIf decide_eq_true_iff k; exact lv_icmp_ge hx hb hdg h9 k1 k2
        · obtain ⟨k1, k2⟩ := mvIf decide_eq_true_iff k; exact lv_icmp_gt hx hb hdg h9 k1 k2
        · obtain ⟨k1, k2⟩ := mvIf decide_eq_true_iff k; exact lv_icmp_le hx hb hdg h9 k1 k2
      · cases hs
    · cases hs
  · rename_i off
    cases ht : mvT pc off with
    | none => rw [ht] at hs; cases hs
    | some t => rw [ht] at hs; cases hs; exact lv_goto hx hb hdg (mvT_eq ht) k
  · cases hs
theorem mvF5_ok (hx : p.tables.exec = Jvm.exec) (hb : c.code = cc) {pc' : Nat} {r : List mvV} (hs : mvF5 i pc st = some (pc', r)) (hdg : decode cc pc = .ok (i, len))
    (k : W p l e R s m args below meth c H locs cells slots Q (F0 m pc' ls (r.map (mvCv N0 xa)))) : W p l e R s m args below meth c H locs cells slots Q (F0 m pc ls (st.map (mvCv N0 xa))) := by
  unfold mvF5 at hs
  split at hs
  · split at hs
    · split at hs
      · rename_i h
        cases ht : mvT pc _ with
        | none => rw [ht] at hs; cases hs
        | some t => rw [ht] at hs; cases hs; exact lv_tableOut hx hb hdg h (mvT_eq ht) k
      · rename_i h
        split at hs
        · rename_i off ho
          cases ht : mvT pc off with
          | none => rw [ht] at hs; cases hs
          | some t => rw [ht] at hs; cases hs; exact lv_tableIn hx hb hdg (fun q => h (Or.inl q)) (fun q => h (Or.inr q)) ho (mvT_eq ht) k
        · cases hs
    · cases hs
  · cases hs
theorem mvF_ok (hx : p.tables.exec = Jvm.exec) (hb : c.code = cc) (hl : lv_has ls nL (mvCl N0 xa lv)) {pc' : Nat} {lv' : mvL} {st' : List mvV} (hs : mvF i len pc nL lv st = some (pc', lv', st')) (hdg : decode cc pc = .ok (i, len))
    (k : ∀ ls', lv_has ls' nL (mvCl N0 xa lv') → W p l e R s m args below meth c H locs cells slots Q (F0 m pc' ls' (st'.map (mvCv N0 xa)))) : W p l e R s m args below meth c H locs cells slots Q (F0 m pc ls (st.map (mvCv N0 xa))) := by
  unfold mvF at hs
  split at hs
  · rename_i v n h
    split at hs
    · rename_i hn
      cases hs
      rw [hn] at hdg
      exact mvF1_ok hx hb hl h hdg (k ls hl)
    · cases hs
  · split at hs
    · rename_i q v r n h
      split at hs
      · rename_i hn
        cases hs
        rw [hn.1] at hdg
        exact mvF2_ok hx hb hl h hn.2 hdg k
      · cases hs
    · split at hs
      · rename_i f h
        split at hs
        · split at hs
          · rename_i hn
            cases hs
            rw [hn] at hdg
            exact mvA2_ok hx hb h hdg (k ls hl)
          · cases hs
        · cases hs
      · split at hs
        · rename_i st1 h
          split at hs
          · rename_i hn
            cases hs
            rw [hn] at hdg
            exact mvF3_ok hx hb h hdg (k ls hl)
          · cases hs
        · split at hs
          · rename_i pc1 r h
            split at hs
            · rename_i hn
              cases hs
              rw [hn] at hdg
              exact mvF4_ok hx hb h hdg (k ls hl)
            · cases hs
          · cases h : mvF5 i pc st with
            | none => rw [h] at hs; cases hs
            | some q =>
              rw [h] at hs
              cases hs
              exact mvF5_ok hx hb h hdg (k ls hl)
end MV
end
section
/-! An exception that comes out of a call is taken by a row of the caller's table: one row's look at it, then the rows in their order. -/
section MVK
variable {e : Env} {f : JFrame} {a : Addr} {cell : Cell}
/-- a row that covers the place and names what s links: it takes the object, or the next rows look on, the tables warmer by one entry -/
theorem mvRow {S : State} {x : ExceptionTableEntry} {t : List ExceptionTableEntry} {cT : ClassId} (hcov : covers x f.pc = true) (hnz : x.catchType ≠ 0) (hl : S.vm.ClassLinks e.platform f.method.cls x.catchType cT)
    (hcell : S.heap[a]? = some cell) (hobj : ∀ k, cell.vm ≠ .statics k) (h1 : ∃ k, S.vm.classes[cell.cls]? = some k) (h2 : ∃ k, S.vm.classes[cT]? = some k) {b : Bool} (hb : S.vm.assignable cell.cls cT = b)
    (Q : Handler → Pre) (E : CtlPost) (d : Bool) (acts : List Action) :
    wp (findHandler.go f a (x :: t)) Q E e d acts S ↔ (if b = true then Q (.found x.handlerPc) d acts (S.setVm (S.vm.noted f.method.cls x.catchType (.cls cT))) else wp (findHandler.go f a t) Q E e d acts (S.setVm (S.vm.noted f.method.cls x.catchType (.cls cT)))) := by
  have hc := hcov
  simp only [covers] at hc
  have hal : S.vm.Alike (S.vm.noted f.method.cls x.catchType (.cls cT)) := (Vm.Alike.refl S.vm).noted _ _ _
  obtain ⟨r1, r2⟩ := (resolveClass_links e.toSetting hl).op (op := VmOp.resolveClass f.method.cls x.catchType) rfl
  obtain ⟨z1, hz1⟩ := h1
  obtain ⟨z2, hz2⟩ := h2
  obtain ⟨y1, hy1, -⟩ := hal.2.2 _ _ hz1
  obtain ⟨y2, hy2, -⟩ := hal.2.2 _ _ hz2
  have hb' : (S.vm.noted f.method.cls x.catchType (.cls cT)).assignable cell.cls cT = b := by rw [hal.assignable]; exact hb
  cases b <;> simp [findHandler.go, hc, hnz, r1, r2, hcell, hobj, hy1, hy2, hb', VmOp.dirties, VmOp.acts]
/-- what a row says of an object: it does not cover the place, or links to something with this answer -/
def mvSays (pl : Platform) (s : State) (d : ClassId) (pc : Nat) (th : ClassId) (b : Bool) (x : ExceptionTableEntry) : Prop := covers x pc = true ∧ x.catchType ≠ 0 ∧ ∃ cT, s.vm.ClassLinks pl d x.catchType cT ∧ s.vm.assignable th cT = b
theorem mvRows {s : State} (hobj : ∀ k, cell.vm ≠ .statics k) (h1 : ∃ k, s.vm.classes[cell.cls]? = some k) {x : ExceptionTableEntry} (suf : List ExceptionTableEntry) (hx : mvSays e.platform s f.method.cls f.pc cell.cls true x) :
    ∀ (pre : List ExceptionTableEntry), (∀ y ∈ pre, covers y f.pc = false ∨ mvSays e.platform s f.method.cls f.pc cell.cls false y) → ∀ (S : State), s.WarmedH S.vm → S.heap[a]? = some cell →
      ∃ vm', s.WarmedH vm' ∧ ∀ (Q : Handler → Pre) (E : CtlPost) (d : Bool) (acts : List Action), wp (findHandler.go f a (pre ++ x :: suf)) Q E e d acts S ↔ Q (.found x.handlerPc) d acts (S.setVm vm') := by
  obtain ⟨z1, hz1⟩ := h1
  have step : ∀ (S : State), s.WarmedH S.vm → ∀ (b : Bool) (y : ExceptionTableEntry), mvSays e.platform s f.method.cls f.pc cell.cls b y → S.heap[a]? = some cell → ∃ cT, s.WarmedH (S.vm.noted f.method.cls y.catchType (.cls cT)) ∧ ∀ (t : List ExceptionTableEntry) (Q : Handler → Pre) (E : CtlPost) (d : Bool) (acts : List Action),
      (wp (findHandler.go f a (y :: t)) Q E e d acts S ↔ (if b = true then Q (.found y.handlerPc) d acts (S.setVm (S.vm.noted f.method.cls y.catchType (.cls cT))) else wp (findHandler.go f a t) Q E e d acts (S.setVm (S.vm.noted f.method.cls y.catchType (.cls cT))))) := by
    intro S hW b y hy hcell
    obtain ⟨hcov, hnz, cT, hl, hb⟩ := hy
    obtain ⟨y1, hy1, -⟩ := hW.alike.2.2 _ _ hz1
    obtain ⟨_, _, _, z2, hd, _, _, _, _, hz2, _, hopen⟩ := hl.here
    obtain ⟨y2, hy2, -⟩ := hW.alike.2.2 _ _ hz2
    exact ⟨cT, hW.noted hd hopen (State.rightAt_cls hl), fun t Q E d acts => mvRow hcov hnz (hW.classLinks hl) hcell hobj ⟨y1, hy1⟩ ⟨y2, hy2⟩ (by rw [hW.alike.assignable]; exact hb) Q E d acts⟩
  intro pre
  induction pre with
  | nil =>
    intro _ S hW hcell
    obtain ⟨cT, hW1, h⟩ := step S hW true x hx hcell
    exact ⟨_, hW1, fun Q E d acts => by rw [List.nil_append, h]; simp⟩
  | cons y ys ih =>
    intro hp S hW hcell
    have hys := fun z hz => hp z (List.mem_cons_of_mem _ hz)
    rcases hp y List.mem_cons_self with hno | hno
    · obtain ⟨vm', hW', h⟩ := ih hys S hW hcell
      exact ⟨vm', hW', fun Q E d acts => by rw [List.cons_append, W.findHandler_go_skip hno]; exact h Q E d acts⟩
    · obtain ⟨cT, hW1, h1⟩ := step S hW false y hno hcell
      obtain ⟨vm', hW', h⟩ := ih hys (S.setVm (S.vm.noted f.method.cls y.catchType (.cls cT))) hW1 hcell
      exact ⟨vm', hW', fun Q E d acts => by rw [List.cons_append, h1]; simp only [Bool.false_eq_true, if_false]; exact h Q E d acts⟩
end MVK
section MVK2
variable {p : Program} {l : Launch} {e : Env} {R : Room} {s : State} {m : MethodId} {args : Array Value} {below : List Frame} {meth : Method} {c : Code} {H : Heap} {locs : List Loc} {cells slots : Nat} {Q : State → Prop} {pc : Nat} {ls : Array Slot} {rest : List Value}
/-- taken by the row x of this method's table; the rows ahead of it let it pass -/
theorem mvCatch {own name : String} {E : String} {ce : Cell} {q : Addr} (hown : s.vm.findClass own = some m.cls) (pre : List ExceptionTableEntry) (x : ExceptionTableEntry) (suf : List ExceptionTableEntry) (hsplit : c.exceptionTable.toList = pre ++ x :: suf)
    (hpass : ∀ z ∈ pre, covers z pc = false ∨ (covers z pc = true ∧ z.catchType ≠ 0 ∧ ∃ nm : String, (Cond.classLink own z.catchType nm).before args s = true ∧ va_Nc E nm s)) (hx : covers x pc = true) (h0 : x.catchType ≠ 0)
    (hlink : (Cond.classLink own x.catchType name).before args s = true) (hcast : (Cond.castable E name).before args s = true) (hcell : H[q]? = some ce) (hv : ce.vm = .none) (hcl : s.vm.findClass E = some ce.cls)
    (kk : W p l e R s m args below meth c H locs cells slots Q (F0 m x.handlerPc ls [.ref q])) : vx_W p l e R s m args below meth c H locs cells slots Q (F0 m pc ls rest) q := by
  intro T hT X
  have hpl : e.platform.magicAccessors = ({} : Platform).magicAccessors := by rw [X.admits.platform]
  obtain ⟨c3, c4, hc3, hc4, hasg⟩ := Cond.castable_spec hcast
  cases Option.some.inj (hc3.symm.trans hcl)
  obtain ⟨c5, hc5, hcl5⟩ := Cond.classLink_spec hown hlink e.platform hpl
  cases Option.some.inj (hc4.symm.trans hc5)
  have hobj : ∀ k, ce.vm ≠ .statics k := fun k => by rw [hv]; exact fun h => by cases h
  have hk1 : ∃ k, s.vm.classes[ce.cls]? = some k := by obtain ⟨k9, h9, -⟩ := Vm.findClass_spec hcl; exact ⟨k9, h9⟩
  obtain ⟨vm', hW', hf⟩ := mvRows (e := e) (f := F0 m pc ls rest) (a := q) (s := s) hobj hk1 suf (x := x) ⟨hx, h0, c4, hcl5, hasg⟩ pre (fun z hz => by
    rcases hpass z hz with h | ⟨hz1, hz0, nm, hl1, hn1⟩
    · exact Or.inl h
    · obtain ⟨c6, hc6, hcl6⟩ := Cond.classLink_spec hown hl1 e.platform hpl
      obtain ⟨a8, b8, h1, h2, h3⟩ := hn1
      cases Option.some.inj (h1.symm.trans hcl)
      cases Option.some.inj (h2.symm.trans hc6)
      exact Or.inr ⟨hz1, hz0, _, hcl6, h3⟩) ((T.setTop (F0 m pc ls rest)).pushFrame (.throwing q)) X.warmed (by show T.heap[q]? = some ce; rw [hT]; exact hcell)
  obtain ⟨t, a1, b1⟩ := kk (T.setVm vm') hT (X.noted hW')
  refine ⟨t, ?_, b1⟩
  obtain ⟨hgo, hw⟩ := X.here.throwing (g := F0 m pc ls rest) q
  refine Steps.head hgo hw ?_
  have hstep : (stepThrowing e ((T.setTop (F0 m pc ls rest)).pushFrame (.throwing q)) q (.java (F0 m pc ls rest) :: T.frames.tail)).Is ((((T.setTop (F0 m pc ls rest)).pushFrame (.throwing q)).setVm vm').setFrames (.java (F0 m x.handlerPc ls [.ref q]) :: T.frames.tail)) [] := by
    have hfind : ∀ (Q : Handler → Pre) (E : CtlPost) (d : Bool) (acts : List Action), wp (findHandler (F0 m pc ls rest) q) Q E e d acts ((T.setTop (F0 m pc ls rest)).pushFrame (.throwing q)) ↔ Q (.found x.handlerPc) d acts (((T.setTop (F0 m pc ls rest)).pushFrame (.throwing q)).setVm vm') := fun Q E d acts => by
      rw [W.findHandler_eq (meth := meth) (code := c) X.method' X.code, hsplit]
      exact hf Q E d acts
    simp only [stepThrowing, searchFrame, vmDo]
    generalize hr : Sem.go _ e false [] _ = res
    obtain ⟨as, rfl, ha⟩ := Sem.eq_ok_of hr (a := Handler.found x.handlerPc) (s' := ((T.setTop (F0 m pc ls rest)).pushFrame (.throwing q)).setVm vm') (acts' := []) (by simp [hfind _ _ _ _])
    exact ⟨rfl, ha⟩
  rw [stepThread_throwing (frames_entered X.here.top _), hstep.1]
  obtain ⟨g₀, hg⟩ := Option.isSome_iff_exists.mp X.here.top
  obtain ⟨r, hr⟩ := State.topJava?_eq_some.mp hg
  have hr' : (T.setVm vm').frames = .java g₀ :: r := hr
  rw [State.setTop_of_frames _ hr'] at a1
  rw [State.pushFrame, State.setTop_of_frames _ hr, State.setFrames_setFrames]
  have e1 : ∀ (F G : List Frame), ((T.setFrames F).setVm vm').setFrames G = (T.setVm vm').setFrames G := fun F G => by
    show ((T.setVm vm').setFrames F).setFrames G = _
    rw [State.setFrames_setFrames]
  rw [e1, hr]
  exact a1
end MVK2
end
section
/-! The small machine's cells. -/
/-- a program: methods; fields (of what, which, their kind: 0 an int, 1 a truth value, 2 written once); calls (the method, how many arguments, of what the receiver is); what is made; statics; constants; methods that are given by what they do; calls of Object's own; handlers (where to, which local takes the exception); arrays from outside -/
abbrev mvP : Type := (Nat → Option mvE) × (Nat → Nat → Option (Nat × Nat × Nat)) × (Nat → Nat → Option (Nat × Nat × Nat)) × (Nat → Nat → Option (Nat × List mvV)) × (Nat → Nat → Option Nat) × (Nat → Nat → Option Int32) × (Nat → Option (List mvV → mvH → Option mvO)) × (Nat → Nat → Bool) × (Nat → Nat → String → Option (Nat × Nat × Nat)) × (Nat → Option (Nat × (Nat → Int32))) × List Cond
def mvPm (P : mvP) : Nat → Option mvE := P.1
def mvPf (P : mvP) : Nat → Nat → Option (Nat × Nat × Nat) := P.2.1
def mvPi (P : mvP) : Nat → Nat → Option (Nat × Nat × Nat) := P.2.2.1
def mvPn (P : mvP) : Nat → Nat → Option (Nat × List mvV) := P.2.2.2.1
def mvPs (P : mvP) : Nat → Nat → Option Nat := P.2.2.2.2.1
def mvPk (P : mvP) : Nat → Nat → Option Int32 := P.2.2.2.2.2.1
def mvPb (P : mvP) : Nat → Option (List mvV → mvH → Option mvO) := P.2.2.2.2.2.2.1
def mvPo (P : mvP) : Nat → Nat → Bool := P.2.2.2.2.2.2.2.1
def mvPh (P : mvP) : Nat → Nat → String → Option (Nat × Nat × Nat) := P.2.2.2.2.2.2.2.2.1
def mvPx (P : mvP) : Nat → Option (Nat × (Nat → Int32)) := P.2.2.2.2.2.2.2.2.2.1
/-- words that the tables keep, though not word for word -/
def mvPw (P : mvP) : List Cond := P.2.2.2.2.2.2.2.2.2.2
def mvWarm (w : Cond) : Bool := match w with
  | .castable .. => true
  | .declares _ => true
  | .methodLinkNest .. => true
  | .fieldLinkNest .. => true
  | _ => false
theorem mvWarm_go {w : Cond} {s U : State} (hw : mvWarm w = true) (hW : s.WarmedH U.vm) (h : va_Nw w s) : va_Nw w U := by
  unfold mvWarm at hw
  split at hw
  · exact va_Nw.warmC hW h
  · exact va_Nw.warmD hW h
  · exact va_Nw.warmM hW h
  · exact va_Nw.warmF hW h
  · cases hw
theorem mvWarm_on {w : Cond} (hw : mvWarm w = true) : w.onTables = true := by
  unfold mvWarm at hw
  split at hw
  · rfl
  · rfl
  · rfl
  · rfl
  · cases hw
theorem mvWs_get (N0 : Nat) (xa : Nat → Nat) (cA : Nat → ClassId) : ∀ (h : List mvC) (a k : Nat), (mvWs N0 xa cA a h)[k]? = (h[k]?).map (fun c => (a + k, mvCE N0 xa cA c))
  | [], a, k => by simp [mvWs]
  | c :: t, a, 0 => by simp [mvWs]
  | c :: t, a, k + 1 => by
    simp only [mvWs, List.getElem?_cons_succ]
    rw [mvWs_get N0 xa cA t (a + 1) k]
    congr 1
    funext c
    rw [Nat.add_right_comm, Nat.add_assoc]
theorem mvWs_set (N0 : Nat) (xa : Nat → Nat) (cA : Nat → ClassId) (c : mvC) : ∀ (h : List mvC) (a k : Nat), mvWs N0 xa cA a (h.set k c) = (mvWs N0 xa cA a h).set k (a + k, mvCE N0 xa cA c)
  | [], a, k => by simp [mvWs]
  | c' :: t, a, 0 => by simp [mvWs]
  | c' :: t, a, k + 1 => by
    simp only [mvWs, List.set_cons_succ]
    rw [mvWs_set N0 xa cA c t (a + 1) k, show a + 1 + k = a + (k + 1) by omega]
theorem mvWs_app (N0 : Nat) (xa : Nat → Nat) (cA : Nat → ClassId) (c : mvC) : ∀ (h : List mvC) (a : Nat), mvWs N0 xa cA a (h ++ [c]) = mvWs N0 xa cA a h ++ [(a + h.length, mvCE N0 xa cA c)]
  | [], a => by simp [mvWs]
  | c' :: t, a => by
    simp only [mvWs, List.cons_append, List.length_cons]
    rw [mvWs_app N0 xa cA c t (a + 1), show a + 1 + t.length = a + (t.length + 1) by omega]
theorem mvWs_D (N0 : Nat) (xa : Nat → Nat) (cA : Nat → ClassId) (h : List mvC) : va_D (fun q : Nat => N0 ≤ q) (mvWs N0 xa cA N0 h) := by
  refine ⟨fun i j p q hi hj e => ?_, fun k q hk => ?_⟩
  · rw [mvWs_get] at hi hj
    obtain ⟨c1, -, rfl⟩ := Option.map_eq_some_iff.mp hi
    obtain ⟨c2, -, rfl⟩ := Option.map_eq_some_iff.mp hj
    have e' : N0 + i = N0 + j := e
    omega
  · rw [mvWs_get] at hk
    obtain ⟨c1, -, rfl⟩ := Option.map_eq_some_iff.mp hk
    show N0 ≤ N0 + k
    omega
theorem mvWs_at {N0 : Nat} {xa : Nat → Nat} {cA : Nat → ClassId} {h : List mvC} {k : Nat} {c : mvC} (hk : h[k]? = some c) : (mvWs N0 xa cA N0 h)[k]? = some (N0 + k, mvCE N0 xa cA c) := by rw [mvWs_get, hk]; rfl
/-- one cell changes -/
theorem mvWs_put {N0 : Nat} {xa : Nat → Nat} {cA : Nat → ClassId} {D : va_G} {cl : List vw_C} {h : List mvC} {k : Nat} {c c' : mvC} {H H1 : Heap} (hP : va_P D cl (mvWs N0 xa cA N0 h) H) (hk : h[k]? = some c) (he : va_at D cl (N0 + k, mvCE N0 xa cA c') H1) (oq : ∀ q : Nat, q ≠ N0 + k → H1[q]? = H[q]?) :
    va_P D cl (mvWs N0 xa cA N0 (h.set k c')) H1 := by
  rw [mvWs_set]
  exact hP.set (mvWs_D N0 xa cA h) (mvWs_at hk) he oq
/-- one more cell -/
theorem mvWs_more {N0 : Nat} {xa : Nat → Nat} {cA : Nat → ClassId} {D : va_G} {cl : List vw_C} {h : List mvC} {c' : mvC} {H H1 : Heap} (hP : va_P D cl (mvWs N0 xa cA N0 h) H) (he : va_at D cl (N0 + h.length, mvCE N0 xa cA c') H1) (oq : ∀ q : Nat, q < H.size → H1[q]? = H[q]?) :
    va_P D cl (mvWs N0 xa cA N0 (h ++ [c'])) H1 := by
  rw [mvWs_app]
  refine va_P.app (hP.kept fun k q hq => oq q.1 (hP k q hq).lt) (fun k q hk => ?_)
  have hz : k < 1 := (List.getElem?_eq_some_iff.mp hk).1
  rw [show k = 0 by omega] at hk
  cases hk
  exact he
def mvFit (kd : Nat) (v : mvV) : Bool := match kd, v with
  | 0, .inl _ => true
  | 1, .inl x => decide (x = 0 ∨ x = 1)
  | 2, .inr (.inr (.inl (some _))) => true
  | _, _ => false
def mvIn (i : Int32) (n : Nat) : Bool := decide (¬ (i < 0 ∨ n ≤ i.toNatClampNeg))
theorem mvIn_iff {i : Int32} {n : Nat} : mvIn i n = true ↔ vp_in i n := decide_eq_true_iff
/-- fields -/
def mvG1 (P : mvP) (j : Nat) (i : Instr) (st : List mvV) (h : mvH) : Option (List mvV × mvH) := match i with
  | .getfield idx => match mvPf P j idx, st with
    | some (ci, k, _), .inr (.inr (.inl (some a))) :: r => match h.2[a]? with
      | some (.inr (ci', fs)) => if ci' = ci then (fs[k]?).map (fun v => (v :: r, h)) else none
      | _ => none
    | _, _ => none
  | .putfield idx => match mvPf P j idx, st with
    | some (ci, k, kd), v :: .inr (.inr (.inl (some a))) :: r => match h.2[a]? with
      | some (.inr (ci', fs)) => if ci' = ci ∧ k < fs.length ∧ mvFit kd v = true then some (r, (h.1, h.2.set a (.inr (ci, fs.set k v)))) else none
      | _ => none
    | _, _ => none
  | _ => none
/-- arrays -/
def mvG2 (P : mvP) (i : Instr) (st : List mvV) (h : mvH) : Option (List mvV × mvH) := match i with
  | .iaload => match st with
    | .inl x :: .inr (.inr (.inl (some a))) :: r => match h.2[a]? with
      | some (.inl (0, n, .inl f)) => if mvIn x n = true then some (.inl (mvLk f x.toNatClampNeg) :: r, h) else none
      | _ => none
    | .inl x :: .inr (.inr (.inr o)) :: r => match mvPx P o with
      | some q => if mvIn x q.1 = true ∧ o < 2 then some (.inl (q.2 x.toNatClampNeg) :: r, h) else none
      | none => none
    | _ => none
  | .baload => match st with
    | .inl x :: .inr (.inr (.inl (some a))) :: r => match h.2[a]? with
      | some (.inl (1, n, .inl f)) => if mvIn x n = true then some (.inl (mvLk f x.toNatClampNeg) :: r, h) else none
      | _ => none
    | _ => none
  | .laload => match st with
    | .inl x :: .inr (.inr (.inl (some a))) :: r => match h.2[a]? with
      | some (.inl (2, n, .inr f)) => if mvIn x n = true then some (.inr (.inl (mvLl f x.toNatClampNeg)) :: r, h) else none
      | _ => none
    | _ => none
  | .iastore => match st with
    | .inl y :: .inl x :: .inr (.inr (.inl (some a))) :: r => match h.2[a]? with
      | some (.inl (0, n, .inl f)) => if mvIn x n = true then some (r, (h.1, h.2.set a (.inl (0, n, .inl ((x.toNatClampNeg, y) :: f))))) else none
      | _ => none
    | _ => none
  | .bastore => match st with
    | .inl y :: .inl x :: .inr (.inr (.inl (some a))) :: r => match h.2[a]? with
      | some (.inl (1, n, .inl f)) => if mvIn x n = true then some (r, (h.1, h.2.set a (.inl (1, n, .inl ((x.toNatClampNeg, vp_nar .boolean y) :: f))))) else none
      | _ => none
    | _ => none
  | .lastore => match st with
    | .inr (.inl y) :: .inl x :: .inr (.inr (.inl (some a))) :: r => match h.2[a]? with
      | some (.inl (2, n, .inr f)) => if mvIn x n = true then some (r, (h.1, h.2.set a (.inl (2, n, .inr ((x.toNatClampNeg, y) :: f))))) else none
      | _ => none
    | _ => none
  | .arraylength => match st with
    | .inr (.inr (.inl (some a))) :: r => match h.2[a]? with
      | some (.inl (t, n, .inl _)) => if t < 2 then some (.inl (Int32.ofNat n) :: r, h) else none
      | _ => none
    | .inr (.inr (.inr o)) :: r => match mvPx P o with
      | some q => if o < 2 then some (.inl (Int32.ofNat q.1) :: r, h) else none
      | none => none
    | _ => none
  | _ => none
/-- what is made: the stack, the cells, how many slots, the length -/
def mvG3 (P : mvP) (j : Nat) (i : Instr) (st : List mvV) (h : mvH) : Option (List mvV × mvH × Nat × Nat) := match i with
  | .newarray t => match st with
    | .inl n :: r => if ¬ n < 0 ∧ n.toNatClampNeg ≤ 1000000 ∧ h.1 = true then match t with
      | .int => some (.inr (.inr (.inl (some h.2.length))) :: r, (true, h.2 ++ [.inl (0, n.toNatClampNeg, .inl [])]), n.toNatClampNeg, 2)
      | .boolean => some (.inr (.inr (.inl (some h.2.length))) :: r, (true, h.2 ++ [.inl (1, n.toNatClampNeg, .inl [])]), n.toNatClampNeg, 2)
      | .long => some (.inr (.inr (.inl (some h.2.length))) :: r, (true, h.2 ++ [.inl (2, n.toNatClampNeg, .inr [])]), n.toNatClampNeg, 2)
      | _ => none
      else none
    | _ => none
  | .new idx => match mvPn P j idx with
    | some (ci, fs) => if h.1 = true then some (.inr (.inr (.inl (some h.2.length))) :: st, (true, h.2 ++ [.inr (ci, fs)]), fs.length, 3) else none
    | none => none
  | _ => none
/-- statics and constants -/
def mvG4 (P : mvP) (j : Nat) (i : Instr) : Option (mvV × Nat) := match i with
  | .getstatic idx => (mvPs P j idx).map (fun o => (.inr (.inr (.inr o)), 3))
  | .ldc idx => (mvPk P j idx).map (fun v => (.inl v, 2))
  | _ => none
/-- what the tables must say of a program's numbers -/
def mvKind (kd : Nat) (T : u_T) (k : Nat) (y : MethodName) : Prop := match kd with
  | 0 => (T k).2.2.2 = false ∧ parseFieldDescriptor (T k).2.2.1 = some .int
  | 1 => (T k).2.2.2 = false ∧ parseFieldDescriptor (T k).2.2.1 = some .boolean
  | _ => (T k).2.2.2 = true ∧ y.name = "<init>" ∧ ∃ ty, parseFieldDescriptor (T k).2.2.1 = some ty ∧ ((∃ n, ty = .object n) ∨ ∃ t, ty = .array t)
/-- what is known of a number of 'cl' -/
def mvOf (Ts : List Cond) (q : vw_C) : Prop := (∀ w ∈ u_ws q.1 q.2.1 q.2.2, w ∈ Ts) ∧ (∃ ty0 : Nat → FieldType, ∀ k, k < q.2.2 → parseFieldDescriptor (q.2.1 k).2.2.1 = some (ty0 k)) ∧ (∀ a, a < q.2.2 → ∀ b, b < q.2.2 → a ≠ b → (q.2.1 a).2.1 ≠ (q.2.1 b).2.1)
def mvOkf (Ts : List Cond) (cl : List vw_C) (P : mvP) : Prop := ∀ j E idx ci k kd, mvPm P j = some E → mvPf P j idx = some (ci, k, kd) → ∃ q : vw_C, cl[ci]? = some q ∧ mvOf Ts q ∧ k < q.2.2 ∧ Cond.fieldLink E.1.cls idx q.1 (q.2.1 k).2.1 (q.2.1 k).2.2.1 ∈ Ts ∧ (q.2.1 k).1 = q.1
def mvOkp (Ts : List Cond) (cl : List vw_C) (P : mvP) : Prop := ∀ j E idx ci k kd q, mvPm P j = some E → mvPf P j idx = some (ci, k, kd) → kd ≤ 2 → cl[ci]? = some q → mvKind kd q.2.1 k E.1 ∧ (kd = 2 → (q.2.1 k).1 = E.1.cls)
def mvOkn (Ts : List Cond) (cl : List vw_C) (P : mvP) : Prop := ∀ j E idx ci fs, mvPm P j = some E → mvPn P j idx = some (ci, fs) → ∃ q : vw_C, cl[ci]? = some q ∧ mvOf Ts q ∧ fs.length = q.2.2 ∧ Cond.classLink E.1.cls idx q.1 ∈ Ts ∧ Cond.instantiable q.1 q.2.2 ∈ Ts ∧ Cond.initialized q.1 ∈ Ts ∧ ∀ k, k < q.2.2 → ∀ ty, parseFieldDescriptor (q.2.1 k).2.2.1 = some ty → ∀ (N0 : Nat) (xa : Nat → Nat), defaultValue ty = vp_V (fs.map (mvCv N0 xa)) k
def mvOks (Ts : List Cond) (P : mvP) (sC sn sd : String) : Prop := ∀ j E idx o, mvPm P j = some E → mvPs P j idx = some o → o = 0 ∧ (Cond.fieldLink E.1.cls idx sC sn sd ∈ Ts ∨ ∃ host, Cond.fieldLinkNest E.1.cls idx sC sn sd host ∈ mvPw P)
def mvOkk (Ts : List Cond) (P : mvP) : Prop := ∀ j E idx v, mvPm P j = some E → mvPk P j idx = some v → Cond.constant E.1.cls idx v ∈ Ts
section MVG
variable {p : Program} {l : Launch} {e : Env} {R : Room} {s : State} {m : MethodId} {args : Array Value} {below : List Frame} {meth : Method} {c : Code} {H : Heap} {locs : List Loc} {cells slots : Nat} {Q : State → Prop}
variable {cc : ByteArray} {pc nL len : Nat} {ls : Array Slot} {N0 : Nat} {xa : Nat → Nat} {cA : Nat → ClassId} {D : va_G} {cl : List vw_C} {Ts : List Cond} {P : mvP} {j : Nat} {E : mvE} {lv : mvL} {st : List mvV} {h : mvH} {i : Instr}
/-- behind a step: the cells as the small machine has them -/
abbrev mvKk (p : Program) (l : Launch) (e : Env) (R : Room) (s : State) (m : MethodId) (args : Array Value) (below : List Frame) (meth : Method) (c : Code) (cells slots : Nat) (Q : State → Prop) (g : JFrame) (D : va_G) (cl : List vw_C) (N0 : Nat) (xa : Nat → Nat) (cA : Nat → ClassId) (h : mvH) : Prop :=
  ∀ (H1 : Heap) (locs1 : List Loc), va_P D cl (mvWs N0 xa cA N0 h.2) H1 → va_S (fun q : Nat => N0 ≤ q) s.heap H1 locs1 → (h.1 = true → H1.size = N0 + h.2.length) → W p l e R s m args below meth c H1 locs1 cells slots Q g
theorem mvG1_ok (hx : p.tables.exec = Jvm.exec) (hb : c.code = E.2.1) (hown : s.vm.findClass E.1.cls = some m.cls) (hnm : meth.name = E.1.name) (hts : ∀ w ∈ Ts, w.before args s = true) {tys : List (ClassId × FieldType)} (hK : va_K D cl tys s) (hE : mvPm P j = some E) (of : mvOkf Ts cl P) (op : mvOkp Ts cl P)
    (hP : va_P D cl (mvWs N0 xa cA N0 h.2) H) (hS : va_S (fun q : Nat => N0 ≤ q) s.heap H locs) (hF : h.1 = true → H.size = N0 + h.2.length)
    {st' : List mvV} {h' : mvH} (hs : mvG1 P j i st h = some (st', h')) (hdg : decode E.2.1 pc = .ok (i, 3))
    (k : mvKk p l e R s m args below meth c cells slots Q (F0 m (pc + 3) ls (st'.map (mvCv N0 xa))) D cl N0 xa cA h') : W p l e R s m args below meth c H locs cells slots Q (F0 m pc ls (st.map (mvCv N0 xa))) := by
  unfold mvG1 at hs
  split at hs
  · rename_i idx
    split at hs
    · rename_i ci kf kd a r hf
      split at hs
      · rename_i ci' fs hc
        split at hs
        · rename_i hci
          subst hci
          obtain ⟨v, hv, hq⟩ := Option.map_eq_some_iff.mp hs
          cases hq
          obtain ⟨⟨C, T, N⟩, hq1, ⟨hq2, -, -⟩, hq3, hq4, hq5⟩ := of j E idx ci' kf kd hE hf
          exact va_get (C := C) (T := T) (N := N) hx hb hts hq2 hown hK hP a (mvWs_at hc) hq1 kf hq3 (hts _ hq4) (fun x h9 => by rw [hq5] at h9; exact h9) (by rw [List.getElem?_map, hv]; rfl) hdg (k H locs hP hS hF)
        · cases hs
      · cases hs
    · cases hs
  · rename_i idx
    split at hs
    · rename_i ci kf kd v a r hf
      split at hs
      · rename_i ci' fs hc
        split at hs
        · rename_i hci
          obtain ⟨hci, hlen, hfit⟩ := hci
          subst hci
          cases hs
          obtain ⟨⟨C, T, N⟩, hq1, ⟨hq2, ⟨ty0, hty⟩, hnd⟩, hq3, hq4, hq5⟩ := of j E idx ci' kf kd hE hf
          have hkd3 : kd ≤ 2 := by
            match kd, hfit with
            | 0, _ => decide
            | 1, _ => decide
            | 2, _ => decide
            | n + 3, hfit => rcases v with x | x | (_ | b) | o <;> cases hfit
          obtain ⟨hkd, hkd2⟩ := op j E idx ci' kf kd (C, T, N) hE hf hkd3 hq1
          have hap := va_apart (own := E.1.cls) hts hq2 ty0 hty hnd hK hq1
          obtain ⟨r0, h1, cell, q1, q2, q3, q4⟩ := hP a _ (mvWs_at hc)
          have hr : r0 = (C, T, N) := Option.some.inj (h1.symm.trans hq1)
          subst hr
          obtain ⟨hSl, hfc, kC, hkC, hkind⟩ := hK.1 ci' _ hq1
          obtain ⟨cf, kf1, fi, f, hi, hsl⟩ := hSl kf hq3
          have hlay := hts _ (hq2 _ (u_in_lay hq3))
          have hst := (u_facts hfc hkC (u_lays hts hq2 hq3) hi).1
          have hsame : ∀ x, s.fieldFound? (T kf).1 (T kf).2.1 (T kf).2.2.1 = some x → s.fieldFound? C (T kf).2.1 (T kf).2.2.1 = some x := fun x h9 => by rw [hq5] at h9; exact h9
          have hlink := hts _ hq4
          have hl : kf < (fs.map (mvCv N0 xa)).length := by rw [List.length_map]; exact hlen
          have kk : ∀ H' : Heap, H'[N0 + a]? = some (cell.setSlot f.slot (mvCv N0 xa v)) → H'.size = H.size → (∀ q, q ≠ N0 + a → H'[q]? = H[q]?) → W p l e R s m args below meth c H' (locs ++ [⟨N0 + a, f.slot⟩]) cells slots Q (F0 m (pc + 3) ls (st'.map (mvCv N0 xa))) := by
            intro H' e1 e2 e3
            rw [hsl] at e1 ⊢
            refine k H' _ (mvWs_put hP hc ?_ e3) (hS.put e2 e3 (Nat.le_add_right _ _)) (fun hh => ?_)
            · refine ⟨_, hq1, ?_⟩
              rw [List.map_set]
              exact t_OB.to (V := updV (vp_V (fs.map (mvCv N0 xa))) kf (mvCv N0 xa v)) ⟨_, e1, q2, q3, t_set q4 hap hq3 _⟩ (fun j _ => vp_updV_set hl _ j)
            · rw [List.length_set, e2]
              exact hF hh
          unfold u_lay at hlay
          match kd, hkd, hkd2, hkd3, hfit with
          | 0, hkd, _, _, hfit =>
            rw [if_neg (by rw [hkd.1]; decide)] at hlay
            rcases v with x | v
            · have h6 := u_store hfc hkC hkind hlay hi hkd.2 (v := .int x) rfl rfl
              exact W.putK hx hb (f := f) ⟨hown, hlink, ⟨_, _, _, hsame _ hi⟩, hst⟩ (by rw [q2]; exact h6) q1 q3 (by rw [hsl]; exact k2_hasslot (q4 kf hq3)) rfl rfl hdg kk
            · cases hfit
          | 1, hkd, _, _, hfit =>
            rw [if_neg (by rw [hkd.1]; decide)] at hlay
            rcases v with x | v
            · have hx01 : x = 0 ∨ x = 1 := of_decide_eq_true hfit
              have h6 := u_store hfc hkC hkind hlay hi hkd.2 (v := .int x) (by rcases hx01 with rfl | rfl <;> rfl) (by rcases hx01 with rfl | rfl <;> rfl)
              exact W.putK hx hb (f := f) ⟨hown, hlink, ⟨_, _, _, hsame _ hi⟩, hst⟩ (by rw [q2]; exact h6) q1 q3 (by rw [hsl]; exact k2_hasslot (q4 kf hq3)) rfl rfl hdg kk
            · cases hfit
          | 2, hkd, hkd2, _, hfit =>
            obtain ⟨hfin, hin, ty, hty9, hty8⟩ := hkd
            rw [if_pos hfin] at hlay
            have hcf : m.cls = cf := by
              obtain ⟨_, _, c', _, _, _, -, -, hf', -, -, -, hown2, -⟩ := Cond.laysFinal_spec hlay
              have e1 : c' = cf := by have := hi.symm.trans hf'; simp at this; exact this.1.symm
              rw [hkd2 rfl] at hown2
              rw [← e1]; exact Option.some.inj (hown.symm.trans hown2)
            rcases v with x | x | (_ | b) | o
            · cases hfit
            · cases hfit
            · cases hfit
            · have h6 := u_fits hfc hkC hkind (Or.inr hlay) hi hty9 (v := .ref (N0 + b)) (by rcases hty8 with ⟨n, rfl⟩ | ⟨t, rfl⟩ <;> rfl) (by rcases hty8 with ⟨n, rfl⟩ | ⟨t, rfl⟩ <;> rfl)
              exact W.putFinK hx hb hown hlink (hsame _ hi) hst hcf (hnm.trans hin) (by rw [q2]; exact h6) q1 q3 (by rw [hsl]; exact k2_hasslot (q4 kf hq3)) rfl rfl hdg kk
            · cases hfit
          | n + 3, _, _, hkd3, _ => omega
        · cases hs
      · cases hs
    · cases hs
  · cases hs
end MVG
end
section
/-! The small machine's arrays, what it makes, statics and constants. -/
def mvTys (cA : Nat → ClassId) : List (ClassId × FieldType) := [(cA 0, .int), (cA 1, .boolean), (cA 2, .long)]
/-- the arrays from outside stand as the program says, and the machine's own statics that a throw reads -/
def mvOut (P : mvP) (N0 : Nat) (xa : Nat → Nat) (U : State) (H : Heap) : Prop := (∀ o, o < 2 → ∀ z, mvPx P o = some z → va_T .int (xa o) z.1 (fun j => .int (z.2 j)) (fun q : Nat => N0 ≤ q) U H)
section MVG
variable {p : Program} {l : Launch} {e : Env} {R : Room} {s : State} {m : MethodId} {args : Array Value} {below : List Frame} {meth : Method} {c : Code} {H : Heap} {locs : List Loc} {cells slots : Nat} {Q : State → Prop}
variable {cc : ByteArray} {pc nL len : Nat} {ls : Array Slot} {N0 : Nat} {xa : Nat → Nat} {cA : Nat → ClassId} {D : va_G} {cl : List vw_C} {Ts : List Cond} {P : mvP} {j : Nat} {E : mvE} {lv : mvL} {st : List mvV} {h : mvH} {i : Instr}
theorem mvG2_ok (hx : p.tables.exec = Jvm.exec) (hb : c.code = cc) (hK : va_K D cl (mvTys cA) s) (hO : mvOut P N0 xa s s.heap)
    (hP : va_P D cl (mvWs N0 xa cA N0 h.2) H) (hS : va_S (fun q : Nat => N0 ≤ q) s.heap H locs) (hF : h.1 = true → H.size = N0 + h.2.length)
    {st' : List mvV} {h' : mvH} (hs : mvG2 P i st h = some (st', h')) (hdg : decode cc pc = .ok (i, 1))
    (k : mvKk p l e R s m args below meth c cells slots Q (F0 m (pc + 1) ls (st'.map (mvCv N0 xa))) D cl N0 xa cA h') : W p l e R s m args below meth c H locs cells slots Q (F0 m pc ls (st.map (mvCv N0 xa))) := by
  unfold mvG2 at hs
  split at hs
  · split at hs
    · rename_i x a r
      split at hs
      · rename_i n f hc
        split at hs
        · rename_i hin
          cases hs
          exact va_iald hx hb hK hP a 0 (mvWs_at hc) rfl (mvIn_iff.mp hin) hdg (k H locs hP hS hF)
        · cases hs
      · cases hs
    · rename_i x o r
      split at hs
      · rename_i z hz
        split at hs
        · rename_i hin
          cases hs
          exact va_ti hx hb (hO o hin.2 z hz) hS (mvIn_iff.mp hin.1) rfl hdg (k H locs hP hS hF)
        · cases hs
      · cases hs
    · cases hs
  · split at hs
    · rename_i x a r
      split at hs
      · rename_i n f hc
        split at hs
        · rename_i hin
          cases hs
          exact va_zald hx hb hK hP a 1 (mvWs_at hc) rfl (mvIn_iff.mp hin) hdg (k H locs hP hS hF)
        · cases hs
      · cases hs
    · cases hs
  · split at hs
    · rename_i x a r
      split at hs
      · rename_i n f hc
        split at hs
        · rename_i hin
          cases hs
          exact va_lald hx hb hK hP a 2 (mvWs_at hc) rfl (mvIn_iff.mp hin) hdg (k H locs hP hS hF)
        · cases hs
      · cases hs
    · cases hs
  · split at hs
    · rename_i y x a r
      split at hs
      · rename_i n f hc
        split at hs
        · rename_i hin
          cases hs
          have hin := mvIn_iff.mp hin
          refine W.iast hx hb (hP a _ (mvWs_at hc)) ((hK.2 0 _ rfl).1 n (fun j => .int (mvLk f j))) (fun q => by cases q) (by show ¬ (x < 0 ∨ (arrV _ _ _).slots.size ≤ _); rw [arrV_size]; exact hin) rfl rfl hdg fun H1 e z oq => ?_
          refine k H1 _ (mvWs_put hP hc ?_ oq) (hS.put z oq (Nat.le_add_right _ _)) (fun hh => by rw [List.length_set, z]; exact hF hh)
          show H1[N0 + a]? = some (vp_cell _ _)
          rw [e]
          show some (Cell.setSlot (arrV (cA 0) n (fun j => Value.int (mvLk f j))) _ _) = some (arrV (cA 0) n (fun j => Value.int (mvLk ((x.toNatClampNeg, y) :: f) j)))
          rw [arrV_store]
          congr 2
          funext q
          by_cases hq : q = x.toNatClampNeg
          · subst hq
            simp [updV, mvLk]
          · simp [updV, mvLk, hq]
        · cases hs
      · cases hs
    · cases hs
  · split at hs
    · rename_i y x a r
      split at hs
      · rename_i n f hc
        split at hs
        · rename_i hin
          cases hs
          have hin := mvIn_iff.mp hin
          refine W.zast hx hb (hP a _ (mvWs_at hc)) ((hK.2 1 _ rfl).1 n (fun j => .int (mvLk f j))) (fun q => by cases q) (by show ¬ (x < 0 ∨ (arrV _ _ _).slots.size ≤ _); rw [arrV_size]; exact hin) rfl rfl hdg fun H1 e z oq => ?_
          refine k H1 _ (mvWs_put hP hc ?_ oq) (hS.put z oq (Nat.le_add_right _ _)) (fun hh => by rw [List.length_set, z]; exact hF hh)
          show H1[N0 + a]? = some (vp_cell _ _)
          rw [e]
          show some (Cell.setSlot (arrV (cA 1) n (fun j => Value.int (mvLk f j))) _ _) = some (arrV (cA 1) n (fun j => Value.int (mvLk ((x.toNatClampNeg, vp_nar .boolean y) :: f) j)))
          rw [arrV_store]
          congr 2
          funext q
          by_cases hq : q = x.toNatClampNeg
          · subst hq
            simp [updV, mvLk, vp_nar]
            try rfl
          · simp [updV, mvLk, hq]
        · cases hs
      · cases hs
    · cases hs
  · split at hs
    · rename_i y x a r
      split at hs
      · rename_i n f hc
        split at hs
        · rename_i hin
          cases hs
          have hin := mvIn_iff.mp hin
          refine W.last hx hb (hP a _ (mvWs_at hc)) ((hK.2 2 _ rfl).1 n (fun j => .long (mvLl f j))) (fun q => by cases q) (by show ¬ (x < 0 ∨ (arrV _ _ _).slots.size ≤ _); rw [arrV_size]; exact hin) rfl rfl hdg fun H1 e z oq => ?_
          refine k H1 _ (mvWs_put hP hc ?_ oq) (hS.put z oq (Nat.le_add_right _ _)) (fun hh => by rw [List.length_set, z]; exact hF hh)
          show H1[N0 + a]? = some (vp_cell _ _)
          rw [e]
          show some (Cell.setSlot (arrV (cA 2) n (fun j => Value.long (mvLl f j))) _ _) = some (arrV (cA 2) n (fun j => Value.long (mvLl ((x.toNatClampNeg, y) :: f) j)))
          rw [arrV_store]
          congr 2
          funext q
          by_cases hq : q = x.toNatClampNeg
          · subst hq
            simp [updV, mvLl]
          · simp [updV, mvLl, hq]
        · cases hs
      · cases hs
    · cases hs
  · split at hs
    · rename_i a r
      split at hs
      · rename_i t n f hc
        split at hs
        · rename_i ht
          cases hs
          rcases (show t = 0 ∨ t = 1 by omega) with rfl | rfl
          · exact va_alen hx hb hK hP a 0 (mvWs_at hc) rfl rfl hdg (k H locs hP hS hF)
          · exact va_alen hx hb hK hP a 1 (mvWs_at hc) rfl rfl hdg (k H locs hP hS hF)
        · cases hs
      · cases hs
    · rename_i o r
      split at hs
      · rename_i z hz
        split at hs
        · rename_i ho
          cases hs
          exact va_tlen hx hb (hO o ho z hz) hS rfl hdg (k H locs hP hS hF)
        · cases hs
      · cases hs
    · cases hs
  · cases hs
theorem mvNewa (hx : p.tables.exec = Jvm.exec) (hb : c.code = cc) (hP : va_P D cl (mvWs N0 xa cA N0 h.2) H) (hS : va_S (fun q : Nat => N0 ≤ q) s.heap H locs) (hF : H.size = N0 + h.2.length) {at0 : ArrayType} {c' : mvC} {n : Int32} {r : List Value} {cT : ClassId}
    (hts : (Cond.arrayClass (newarray.typeOf at0)).before args s = true) (hcT : s.vm.findClass ("[" ++ (newarray.typeOf at0).toString) = some cT) (hn : ¬ n < 0) (hN : n.toNatClampNeg ≤ 1000000) (hcb : componentBytes (newarray.typeOf at0) ≤ 8)
    (hc' : ∀ H' : Heap, H'[N0 + h.2.length]? = some (arrV cT n.toNatClampNeg (fun _ => defaultValue (newarray.typeOf at0))) → va_at D cl (N0 + h.2.length, mvCE N0 xa cA c') H')
    (hcells : cells + 1 ≤ R.cells) (hslots : slots + n.toNatClampNeg ≤ R.slots) (hdg : decode cc pc = .ok (.newarray at0, 2))
    (k : mvKk p l e R s m args below meth c (cells + 1) (slots + n.toNatClampNeg) Q (F0 m (pc + 2) ls (.ref (N0 + h.2.length) :: r)) D cl N0 xa cA (true, h.2 ++ [c'])) : W p l e R s m args below meth c H locs cells slots Q (F0 m pc ls (.int n :: r)) := by
  refine va_newaK hx hb hts rfl hdg rfl hn rfl (by
    calc n.toNatClampNeg * componentBytes (newarray.typeOf at0) ≤ 1000000 * 8 := Nat.mul_le_mul hN hcb
      _ ≤ 536870912 := by decide) hcells hslots hF fun H1 cA1 e1 z1 o1 hAr hNm => ?_
  cases Option.some.inj (hcT.symm.trans hNm)
  refine k H1 locs (mvWs_more hP (hc' H1 e1) (fun q hq => o1 q (by omega))) ⟨Nat.le_trans hS.1 (by omega), fun x h1 h2 => (o1 x (by have := hS.1; omega)).trans (hS.2.1 x h1 h2), hS.2.2⟩ (fun _ => ?_)
  rw [z1, List.length_append]
  rfl
theorem mvG3_ok (hx : p.tables.exec = Jvm.exec) (hb : c.code = E.2.1) (hown : s.vm.findClass E.1.cls = some m.cls) (hts : ∀ w ∈ Ts, w.before args s = true) (hK : va_K D cl (mvTys cA) s) (hE : mvPm P j = some E) (on : mvOkn Ts cl P) (oa : ∀ at0 : ArrayType, at0 = .int ∨ at0 = .boolean ∨ at0 = .long → Cond.arrayClass (newarray.typeOf at0) ∈ Ts)
    (hP : va_P D cl (mvWs N0 xa cA N0 h.2) H) (hS : va_S (fun q : Nat => N0 ≤ q) s.heap H locs) (hF : h.1 = true → H.size = N0 + h.2.length)
    {st' : List mvV} {h' : mvH} {ns n : Nat} (hs : mvG3 P j i st h = some (st', h', ns, n)) (hdg : decode E.2.1 pc = .ok (i, n)) (hcells : cells + 1 ≤ R.cells) (hslots : slots + ns ≤ R.slots)
    (k : mvKk p l e R s m args below meth c (cells + 1) (slots + ns) Q (F0 m (pc + n) ls (st'.map (mvCv N0 xa))) D cl N0 xa cA h') : W p l e R s m args below meth c H locs cells slots Q (F0 m pc ls (st.map (mvCv N0 xa))) := by
  unfold mvG3 at hs
  split at hs
  · rename_i t0
    split at hs
    · rename_i x r
      split at hs
      · rename_i hcd
        obtain ⟨hn0, hn1, hh⟩ := hcd
        split at hs
        · cases hs
          exact mvNewa (c' := .inl (0, x.toNatClampNeg, .inl [])) hx hb hP hS (hF hh) (hts _ (oa _ (Or.inl rfl))) (hK.2 0 _ rfl).2 hn0 hn1 (by decide) (fun H' e1 => e1) hcells hslots hdg k
        · cases hs
          exact mvNewa (c' := .inl (1, x.toNatClampNeg, .inl [])) hx hb hP hS (hF hh) (hts _ (oa _ (Or.inr (Or.inl rfl)))) (hK.2 1 _ rfl).2 hn0 hn1 (by decide) (fun H' e1 => e1) hcells hslots hdg k
        · cases hs
          exact mvNewa (c' := .inl (2, x.toNatClampNeg, .inr [])) hx hb hP hS (hF hh) (hts _ (oa _ (Or.inr (Or.inr rfl)))) (hK.2 2 _ rfl).2 hn0 hn1 (by decide) (fun H' e1 => e1) hcells hslots hdg k
        · cases hs
      · cases hs
    · cases hs
  · rename_i idx
    split at hs
    · rename_i ci fs hf
      split at hs
      · rename_i hh
        cases hs
        obtain ⟨⟨C, T, N⟩, hq1, ⟨hq2, ⟨ty0, hty⟩, hnd⟩, hq3, hq4, hq5, hq6, hq7⟩ := on j E idx ci fs hE hf
        have hKn := hK.1 ci _ hq1
        have hq3' : fs.length = N := hq3
        rw [hq3'] at hslots k
        refine W.newcK hx hb hown (hts _ hq4) (hts _ hq5) (hts _ hq6) rfl hdg hcells hslots hKn.2.1 (hF hh) fun H1 kC hkC e1 z1 o1 => ?_
        refine k H1 locs (mvWs_more hP ⟨_, hq1, (u_born ty0 hts hq2 hKn hkC e1 hty).to (fun q hq => hq7 q hq _ (hty q hq) N0 xa)⟩ (fun q hq => o1 q (by rw [← hF hh]; exact hq))) ⟨Nat.le_trans hS.1 (by have := hF hh; omega), fun x h1 h2 => (o1 x (by have := hS.1; have := hF hh; omega)).trans (hS.2.1 x h1 h2), hS.2.2⟩ (fun _ => ?_)
        rw [z1, List.length_append]
        rfl
      · cases hs
    · cases hs
  · cases hs
theorem mvG4_ok (hx : p.tables.exec = Jvm.exec) (hb : c.code = E.2.1) (hown : s.vm.findClass E.1.cls = some m.cls) (hts : ∀ w ∈ Ts, w.before args s = true) (hE : mvPm P j = some E) {sC sn sd : String} (os : mvOks Ts P sC sn sd) (ok : mvOkk Ts P) (hZ : va_Z sC sn sd (.ref (xa 0)) (fun q : Nat => N0 ≤ q) s s.heap) (hNw : ∀ w ∈ mvPw P, va_Nw w s)
    (hS : va_S (fun q : Nat => N0 ≤ q) s.heap H locs) {v : mvV} {n : Nat} (hs : mvG4 P j i = some (v, n)) (hdg : decode E.2.1 pc = .ok (i, n))
    (k : W p l e R s m args below meth c H locs cells slots Q (F0 m (pc + n) ls ((v :: st).map (mvCv N0 xa)))) : W p l e R s m args below meth c H locs cells slots Q (F0 m pc ls (st.map (mvCv N0 xa))) := by
  unfold mvG4 at hs
  split at hs
  · rename_i idx
    obtain ⟨o, ho, hq⟩ := Option.map_eq_some_iff.mp hs
    cases hq
    obtain ⟨rfl, hl⟩ := os j E idx o hE ho
    rcases hl with hl | ⟨host, hl⟩
    · exact va_gets hx hb hZ hS hown (hts _ hl) (fun _ h9 => h9) hdg k
    · exact va_getsN hx hb hZ hS hown (va_Nw.use rfl (hNw _ hl)) (fun _ h9 => h9) hdg k
  · rename_i idx
    obtain ⟨o, ho, hq⟩ := Option.map_eq_some_iff.mp hs
    cases hq
    exact lv_ldc hx hb hown (hts _ (ok j E idx o hE ho)) hdg k
  · cases hs
end MVG
end
section
/-! The small machine runs. n: how many turns; d: how many calls deep it may go. -/
def mvArgs : Nat → List mvV → mvL
  | _, [] => []
  | i, v :: t => (i, v) :: mvArgs (i + 1) t
def mvAdd (dc ds : Nat) (o : Option mvO) : Option mvO := o.map (fun q => (q.1, q.2.1, dc + q.2.2.1, ds + q.2.2.2))
def mvSum (st : List mvV) : Nat := (st.map mvCat).sum
/-- a step over the cells: where to, the stack, the cells, how many cells and slots are new -/
def mvG (P : mvP) (j d : Nat) (i : Instr) (len pc : Nat) (st : List mvV) (h : mvH) : Option (Nat × List mvV × mvH × Nat × Nat) :=
  match mvG1 P j i st h with
  | some (st', h') => if len = 3 then some (pc + 3, st', h', 0, 0) else none
  | none => match mvG2 P i st h with
    | some (st', h') => if len = 1 then some (pc + 1, st', h', 0, 0) else none
    | none => match mvG3 P j i st h with
      | some (st', h', ns, n) => if len = n then some (pc + n, st', h', 1, ns) else none
      | none => match mvG4 P j i with
        | some (v, n) => if len = n then some (pc + n, v :: st, h, 0, 0) else none
        | none => match i with
          | .invokespecial idx => match st with
            | .inr (.inr (.inl (some _))) :: r => if mvPo P j idx = true ∧ len = 3 ∧ mvSum r ≤ 8 ∧ 1 ≤ d then some (pc + 3, r, h, 0, 0) else none
            | _ => none
          | _ => none
/-- an end: the answer -/
def mvFin (E : mvE) (i : Instr) (len : Nat) (st : List mvV) : Option (Option mvV) := if len = 1 then (match i with
  | .return_ => match st, E.2.2.2.1 with
    | [], none => some none
    | _, _ => none
  | .ireturn => match st, E.2.2.2.1 with
    | [.inl x], some .int => some (some (.inl x))
    | [.inl x], some .boolean => if x = 0 ∨ x = 1 then some (some (.inl x)) else none
    | _, _ => none
  | .areturn => match st, E.2.2.2.1 with
    | [.inr (.inr (.inl (some a)))], some (.object _) => some (some (.inr (.inr (.inl (some a)))))
    | [.inr (.inr (.inl (some a)))], some (.array _) => some (some (.inr (.inr (.inl (some a)))))
    | _, _ => none
  | _ => none) else none
/-- a call: which method, with what, what is left on the stack -/
def mvInv (P : mvP) (j : Nat) (i : Instr) (len : Nat) (st : List mvV) (h : mvH) : Option (Nat × List mvV × List mvV) := match i with
  | .invokestatic idx => match mvPi P j idx with
    | some (j', n, 100) => if n ≤ st.length ∧ len = 3 then some (j', (st.take n).reverse, st.drop n) else none
    | _ => none
  | .invokevirtual idx => match mvPi P j idx with
    | some (j', n, ci) => match st.drop n with
      | .inr (.inr (.inl (some a))) :: r => match h.2[a]? with
        | some (.inr (ci', _)) => if n ≤ st.length ∧ len = 3 ∧ ci' = ci ∧ ci < 100 then some (j', .inr (.inr (.inl (some a))) :: (st.take n).reverse, r) else none
        | _ => none
      | _ => none
    | _ => none
  | .invokespecial idx => match mvPi P j idx with
    | some (j', n, ci) => match st.drop n with
      | .inr (.inr (.inl (some a))) :: r => if n ≤ st.length ∧ len = 3 ∧ (ci = 101 ∨ ci = 102) then some (j', .inr (.inr (.inl (some a))) :: (st.take n).reverse, r) else none
      | _ => none
    | _ => none
  | _ => none
def mvDrop (lv : mvL) (x : Nat) : mvL := lv.filter (fun q => !(q.1 == x) && !(q.1 + 1 == x && mvCat q.2 == 2))
def mvOne (as : List mvV) : Bool := as.all (fun v => decide (mvCat v = 1))
def mvRun (P : mvP) : Nat → Nat → Nat → Nat → mvL → List mvV → mvH → Option mvO
  | 0, _, _, _, _, _, _ => none
  | n + 1, d, j, pc, lv, st, h => match mvPm P j with
    | none => none
    | some E => match decode E.2.1 pc with
      | .error _ => none
      | .ok (i, len) => match mvF i len pc E.2.2.1 lv st with
        | some (pc', lv', st') => mvRun P n d j pc' lv' st' h
        | none => match mvG P j d i len pc st h with
          | some (pc', st', h', dc, ds) => mvAdd dc ds (mvRun P n d j pc' lv st' h')
          | none => match mvFin E i len st with
            | some r => some (.inl r, h, 0, 0)
            | none => match mvInv P j i len st h with
              | none => none
              | some (j', as, rest) => if mvOne as = true ∧ mvSum rest ≤ 8 then (match d with
                | 0 => none
                | d' + 1 => match (match mvPb P j' with
                    | some b => if 8 ≤ d' then b as h else none
                    | none => mvRun P n d' j' 0 (mvArgs 0 as) [] h) with
                  | none => none
                  | some (.inl r, h', dc, ds) => mvAdd dc ds (mvRun P n (d' + 1) j (pc + 3) lv (r.toList ++ rest) h')
                  | some (.inr ex, h', dc, ds) => match mvPh P j pc ex with
                    | none => if E.2.2.2.2 = [] then some (.inr ex, h', dc, ds) else none
                    | some (_, x, pc') => mvAdd dc ds (mvRun P n (d' + 1) j pc' (mvDrop lv x) [] h')) else none
/-! What it stands for. -/
def mvCd (E : mvE) : Cond := match E.2.2.2.2 with
  | [] => .code E.1 E.2.1 E.2.2.1 E.2.2.2.1
  | hh => .codeWith E.1 E.2.1 E.2.2.1 E.2.2.2.1 hh
def mvRm (d dc ds : Nat) : Room := { frames := d, cells := dc, slots := ds, locals := 60 * d }
section MVW
variable (P : mvP) (N0 : Nat) (xa : Nat → Nat) (cA : Nat → ClassId) (D : va_G) (cl : List vw_C) (sC sn sd : String)
/-- what stands at a method's entry beside its cells -/
def mvWorld (U : State) : Prop := va_K D cl (mvTys cA) U ∧ mvOut P N0 xa U U.heap ∧ va_Z sC sn sd (.ref (xa 0)) (fun q : Nat => N0 ≤ q) U U.heap ∧ vx_Zq Bundle.tN "UNASSIGNED_STACK" Bundle.steD (fun q : Nat => N0 ≤ q) U U.heap ∧ vx_Zq Bundle.tN "SUPPRESSED_SENTINEL" Bundle.listD (fun q : Nat => N0 ≤ q) U U.heap ∧ N0 ≤ U.heap.size ∧ va_Nc "java/lang/IllegalStateException" "java/lang/IllegalArgumentException" U ∧ ∀ w ∈ mvPw P, va_Nw w U
/-- the cells at a state -/
def mvAt (h : mvH) (H : Heap) : Prop := va_P D cl (mvWs N0 xa cA N0 h.2) H ∧ (h.1 = true → H.size = N0 + h.2.length)
def mvPre (as : List mvV) (h : mvH) : Array Value → State → Prop := va_Pc (as.map (mvCv N0 xa)) (fun U => mvWorld P N0 xa cA D cl sC sn sd U ∧ mvAt N0 xa cA D cl h U.heap)
def mvQc (r : mvR) (h : mvH) : Array Value → State → Outcome → State → Prop := fun _ st o t => (∃ v, r = .inl v ∧ o = .returned (v.map (mvCv N0 xa))) ∧ mvAt N0 xa cA D cl h t.heap ∧ va_F (fun q : Nat => N0 ≤ q) st t
def mvXc (r : mvR) (h : mvH) : String → State → State → Prop := fun ex st t => r = .inr ex ∧ mvAt N0 xa cA D cl h t.heap ∧ va_F (fun q : Nat => N0 ≤ q) st t
/-- the contract of a method at these arguments and cells -/
def mvMt (l : Launch) (Ts : List Cond) (E : mvE) (as : List mvV) (h : mvH) (o : mvO) (d : Nat) : Prop :=
  vx_Met l E.1 (mvCd E :: Ts) (mvRm d o.2.2.1 o.2.2.2) (mvPre P N0 xa cA D cl sC sn sd as h) (mvQc N0 xa cA D cl o.1 o.2.1) (mvXc N0 xa cA D cl o.1 o.2.1) o.2.2.1 o.2.2.2 (fun q : Nat => N0 ≤ q)
end MVW
section MVW2
variable {P : mvP} {N0 : Nat} {xa : Nat → Nat} {cA : Nat → ClassId} {D : va_G} {cl : List vw_C} {sC sn sd : String}
theorem mvWorld_go (hp : ∀ w ∈ mvPw P, mvWarm w = true) {s U : State} {H : Heap} {locs : List Loc} (h : mvWorld P N0 xa cA D cl sC sn sd s) (hW : s.WarmedH U.vm) (hS : va_S (fun q : Nat => N0 ≤ q) s.heap H locs) (hU : U.heap = H) : mvWorld P N0 xa cA D cl sC sn sd U := by
  subst hU
  obtain ⟨h1, h2, h3, h4, h5, h6, h7, h8⟩ := h
  have hvm := hW.alike
  have hq : ∀ a : Nat, a < s.heap.size → ¬ (fun q : Nat => N0 ≤ q) a → U.heap[a]? = s.heap[a]? := fun a h1 h2 => hS.2.1 a h1 h2
  exact ⟨va_K.moved hvm h1, fun o ho z hz => ((h2 o ho z hz).moved hvm).kept hq, (h3.moved hvm).kept hq, (h4.moved hvm).kept hq, (h5.moved hvm).kept hq, Nat.le_trans h6 hS.1, h7.moved hvm, fun w hw => mvWarm_go (hp w hw) hW (h8 w hw)⟩
theorem mvPre_blind (hp : ∀ w ∈ mvPw P, mvWarm w = true) (as : List mvV) (h : mvH) : FrameBlind (mvPre P N0 xa cA D cl sC sn sd as h) := by
  intro a U g mk hq
  obtain ⟨q0, q1, q2⟩ := hq
  refine ⟨q0, ?_, q2⟩
  exact mvWorld_go hp (U := U.calling g mk a) (locs := []) q1 (State.WarmedH.refl U) va_S.rf rfl
end MVW2
end
section
/-! WHAT THE SMALL MACHINE COMES TO, THE MACHINE COMES TO. -/
def mvOkm (Ts : List Cond) (P : mvP) : Prop := ∀ j E, mvPm P j = some E → j ≠ 0 → mvCd E ∈ Ts ∧ plainName E.1.cls = true ∧ E.2.2.1 ≤ 41 ∧ E.1.cls ≠ "java/lang/invoke/MethodHandle" ∧ E.1.cls ≠ "java/lang/invoke/VarHandle"
def mvOki (Ts : List Cond) (cl : List vw_C) (P : mvP) : Prop := ∀ j E idx j' n ci, mvPm P j = some E → mvPi P j idx = some (j', n, ci) → ∃ E', mvPm P j' = some E' ∧ j' ≠ 0 ∧ (ci ≠ 102 → Cond.methodLink E.1.cls idx E'.1 ∈ Ts) ∧ Cond.initialized E'.1.cls ∈ Ts ∧ (parseMethodDescriptor E'.1.desc).map (fun d => d.parameters.length) = some n ∧
  (ci = 100 → Cond.static E'.1 ∈ Ts ∧ n ≤ E'.2.2.1) ∧ (ci = 101 → Cond.instanceMethod E'.1 ∈ Ts ∧ E'.1.name = "<init>" ∧ E'.2.2.2.1 = none ∧ E'.2.2.2.2 = [] ∧ n + 1 ≤ E'.2.2.1) ∧ (ci = 102 → Cond.instanceMethod E'.1 ∈ Ts ∧ E'.1.name = "<init>" ∧ E'.2.2.2.1 = none ∧ E'.2.2.2.2 = [] ∧ n + 1 ≤ E'.2.2.1 ∧ ∃ host, Cond.methodLinkNest E.1.cls idx E'.1 host ∈ mvPw P) ∧ (ci < 100 → Cond.instanceMethod E'.1 ∈ Ts ∧ Cond.selects E'.1.cls E'.1 E'.1 ∈ Ts ∧ E'.2.2.2.2 = [] ∧ n + 1 ≤ E'.2.2.1 ∧ ∃ q : vw_C, cl[ci]? = some q ∧ q.1 = E'.1.cls)
def mvOko (Ts : List Cond) (P : mvP) : Prop := Cond.instanceMethod Lib.objectInit ∈ Ts ∧ Cond.code Lib.objectInit ⟨#[0xb1]⟩ 1 none ∈ Ts ∧ ∀ j E idx, mvPm P j = some E → mvPo P j idx = true → Cond.methodLink E.1.cls idx Lib.objectInit ∈ Ts
def mvOkh (Ts : List Cond) (P : mvP) : Prop := ∀ j E pc ex hp x pc', mvPm P j = some E → mvPh P j pc ex = some (hp, x, pc') → ∃ (pre : List ExceptionTableEntry) (row : ExceptionTableEntry) (suf : List ExceptionTableEntry), tableOf E.2.2.2.2 = pre ++ row :: suf ∧
  (∀ z ∈ pre, covers z pc = false ∨ (covers z pc = true ∧ z.catchType ≠ 0 ∧ ex = "java/lang/IllegalStateException" ∧ Cond.classLink E.1.cls z.catchType "java/lang/IllegalArgumentException" ∈ Ts)) ∧ covers row pc = true ∧ row.catchType ≠ 0 ∧ Cond.classLink E.1.cls row.catchType ex ∈ Ts ∧ Cond.castable ex ex ∈ mvPw P ∧ row.handlerPc = hp ∧ x < E.2.2.1 ∧
  ((decode E.2.1 hp = .ok (.astore x, 2) ∧ pc' = hp + 2) ∨ (∃ k : Fin 4, decode E.2.1 hp = .ok (.astore_n k, 1) ∧ (k : Nat) = x ∧ pc' = hp + 1))
def mvFr (p : Program) (s : State) (m : MethodId) (args : Array Value) (meth : Method) (c : Code) (Ts : List Cond) (E : mvE) : Prop := p.tables.exec = Jvm.exec ∧ c.code = E.2.1 ∧ c.maxLocals = E.2.2.1 ∧ meth.sig.returnType = E.2.2.2.1 ∧ meth.locks = false ∧ s.vm.findClass E.1.cls = some m.cls ∧ meth.name = E.1.name ∧ (∀ w ∈ Ts, w.before args s = true) ∧ c.exceptionTable.toList = tableOf E.2.2.2.2
theorem mvAdd_inv {dc ds : Nat} {x : Option mvO} {o : mvO} (h : mvAdd dc ds x = some o) : ∃ o', x = some o' ∧ o = (o'.1, o'.2.1, dc + o'.2.2.1, ds + o'.2.2.2) := by
  obtain ⟨o', h1, h2⟩ := Option.map_eq_some_iff.mp h
  exact ⟨o', h1, h2.symm⟩
theorem mvCl_drop (N0 : Nat) (xa : Nat → Nat) (lv : mvL) (i : Nat) : (mvCl N0 xa lv).filter (fun q => !(q.1 == i) && !(q.1 + 1 == i && q.2.category == 2)) = mvCl N0 xa (mvDrop lv i) := by
  unfold mvDrop mvCl
  rw [List.filter_map]
  congr 1
  apply List.filter_congr
  intro q _
  simp [Function.comp, mvCv_cat]
theorem mvArgs_eq (N0 : Nat) (xa : Nat → Nat) : ∀ (as : List mvV) (i : Nat), mvOne as = true → lv_args i (as.map (mvCv N0 xa)) = mvCl N0 xa (mvArgs i as) ∧ (lg_sl (as.map (mvCv N0 xa))).length = as.length
  | [], i, _ => ⟨rfl, rfl⟩
  | v :: t, i, h => by
    have h1 : mvCat v = 1 ∧ mvOne t = true := by simpa [mvOne] using h
    have h2 : ¬ (mvCv N0 xa v).category = 2 := by rw [mvCv_cat, h1.1]; decide
    obtain ⟨h3, h4⟩ := mvArgs_eq N0 xa t (i + 1) h1.2
    refine ⟨?_, ?_⟩
    · simp only [List.map_cons, lv_args, h2, if_false, mvArgs, mvCl] at h3 ⊢
      rw [h3]
    · simp only [List.map_cons, lg_sl, h2, if_false, List.length_cons, List.flatMap_cons, List.length_append] at h4 ⊢
      simp only [List.length_nil] at *
      omega
theorem mvSum_eq (N0 : Nat) (xa : Nat → Nat) (st : List mvV) : ((st.map (mvCv N0 xa)).map fun v => v.category).sum = mvSum st := by
  unfold mvSum
  rw [List.map_map]
  congr 1
  apply List.map_congr_left
  intro v _
  exact mvCv_cat N0 xa v
section MVS
variable {p : Program} {l : Launch} {e : Env} {R : Room} {s : State} {m : MethodId} {args : Array Value} {below : List Frame} {meth : Method} {c : Code} {H : Heap} {locs : List Loc} {cells slots : Nat} {Q : State → Prop}
variable {pc dc ds : Nat} {ls : Array Slot} {N0 : Nat} {xa : Nat → Nat} {cA : Nat → ClassId} {D : va_G} {cl : List vw_C} {a : Array Value} {st0 rest : List Value} {r : mvR} {h' : mvH}
/-- behind a call, whatever it answers -/
theorem mvCall (hr : vx_Run p l e R s m args below meth c H locs cells slots dc ds (F0 m pc ls st0) rest (mvQc N0 xa cA D cl r h' a) (mvXc N0 xa cA D cl r h') (fun q : Nat => N0 ≤ q)) (hS : va_S (fun q : Nat => N0 ≤ q) s.heap H locs)
    (kx : ∀ (ex : String) (q : Addr) (ce : Cell) (H1 : Heap) (locs1 : List Loc), r = .inr ex → mvAt N0 xa cA D cl h' H1 → va_S (fun q : Nat => N0 ≤ q) s.heap H1 locs1 → H1[q]? = some ce → ce.vm = .none → s.vm.findClass ex = some ce.cls → vx_W p l e R s m args below meth c H1 locs1 (cells + dc) (slots + ds) Q (F0 m pc ls rest) q)
    (kk : ∀ (v : Option mvV) (H1 : Heap) (locs1 : List Loc), r = .inl v → mvAt N0 xa cA D cl h' H1 → va_S (fun q : Nat => N0 ≤ q) s.heap H1 locs1 → W p l e R s m args below meth c H1 locs1 (cells + dc) (slots + ds) Q (F0 m (pc + 3) ls ((v.map (mvCv N0 xa)).toList ++ rest))) : W p l e R s m args below meth c H locs cells slots Q (F0 m pc ls st0) := by
  intro T hT X
  rcases hr T hT X with ⟨v, st₀, t, T', L, h0, X', hL, e1, e2, ⟨⟨w, hw, hv⟩, hat, hF⟩, st⟩ | ⟨q, st₀, t, T', L, E, ce, h0, X', hL, e1, e2, ⟨hw, hat, hF⟩, hce, hcv, hcl, st⟩
  · cases hv
    obtain ⟨k1, k2, k3⟩ := vx_keep h0 e1 hS (fun _ _ h => h) (fun _ h => h) hL hF
    obtain ⟨t2, a1, b1⟩ := kk w T'.heap (locs ++ L) hw (by rw [e1]; exact hat) k3 T' rfl X'
    exact ⟨t2, st t2 a1, b1⟩
  · obtain ⟨k1, k2, k3⟩ := vx_keep h0 e1 hS (fun _ _ h => h) (fun _ h => h) hL hF
    obtain ⟨t2, a1, b1⟩ := kx E q ce T'.heap (locs ++ L) hw (by rw [e1]; exact hat) k3 (by rw [e1]; exact hce) hcv hcl T' rfl X'
    exact ⟨t2, st.trans a1, b1⟩
/-- the end -/
theorem mvFin_ok {Ts : List Cond} {E : mvE} {i : Instr} {len mc ms : Nat} {st : List mvV} {v : Option mvV} {h : mvH} (C : mvFr p s m args meth c Ts E) (hs : mvFin E i len st = some v) (hdg : decode E.2.1 pc = .ok (i, len)) (hat : mvAt N0 xa cA D cl h H) (hS : va_S (fun q : Nat => N0 ≤ q) s.heap H locs) (h1 : cells ≤ mc) (h2 : slots ≤ ms) :
    W p l e R s m args below meth c H locs cells slots (vx_MQ below (mvQc N0 xa cA D cl (.inl v) h) (mvXc N0 xa cA D cl (.inl v) h) args s mc ms (fun q : Nat => N0 ≤ q)) (F0 m pc ls (st.map (mvCv N0 xa))) := by
  obtain ⟨hx, hb, hml, hr, hlocks, -⟩ := C
  refine W.widen h1 h2 (vx_ret ?_)
  have hq : ∀ t : State, t.heap = H → s.WarmedH t.vm → mvQc N0 xa cA D cl (.inl v) h args s (.returned (v.map (mvCv N0 xa))) t := fun t ht _ => ⟨⟨v, rfl, rfl⟩, by rw [ht]; exact hat, hS.F ht⟩
  unfold mvFin at hs
  split at hs
  · rename_i hlen
    subst hlen
    split at hs
    · split at hs
      · rename_i hE
        cases hs
        exact W.vret hx hb (hr.trans hE) hq hS.2.2 hdg hlocks
      · cases hs
    · split at hs
      · rename_i hE
        cases hs
        exact W.iret hx hb (hr.trans hE) hq hS.2.2 hdg hlocks
      · rename_i x hE
        split at hs
        · rename_i h01
          cases hs
          exact W.zret hx hb (hr.trans hE) (by rcases h01 with rfl | rfl <;> rfl) hq hS.2.2 hdg hlocks
        · cases hs
      · cases hs
    · split at hs
      · rename_i hE
        cases hs
        exact W.aret hx hb (hr.trans hE) (Or.inl ⟨_, rfl⟩) (Or.inr ⟨_, rfl⟩) hq hS.2.2 hdg hlocks
      · rename_i hE
        cases hs
        exact W.aret hx hb (hr.trans hE) (Or.inr ⟨_, rfl⟩) (Or.inr ⟨_, rfl⟩) hq hS.2.2 hdg hlocks
      · cases hs
    · cases hs
  · cases hs
end MVS
end
section
/-! The small machine's runs are the machine's: the theorem, by the number of turns. -/
/-- all that the tables must say of a program -/
def mvOkAll (Ts : List Cond) (cl : List vw_C) (P : mvP) (sC sn sd : String) : Prop := (∀ w ∈ Ts, goodWord w = true) ∧ mvOkm Ts P ∧ mvOki Ts cl P ∧ mvOko Ts P ∧ mvOkh Ts P ∧ mvOkf Ts cl P ∧ mvOkp Ts cl P ∧ mvOkn Ts cl P ∧ (∀ at0 : ArrayType, at0 = .int ∨ at0 = .boolean ∨ at0 = .long → Cond.arrayClass (newarray.typeOf at0) ∈ Ts) ∧ mvOks Ts P sC sn sd ∧ mvOkk Ts P ∧ ∀ w ∈ mvPw P, mvWarm w = true
section MVM
variable {l : Launch} {N0 : Nat} {xa : Nat → Nat} {cA : Nat → ClassId} {D : va_G} {cl : List vw_C} {Ts : List Cond} {P : mvP} {sC sn sd : String}
/-- the frame's theorem, at n turns -/
def mvThm (l : Launch) (N0 : Nat) (xa : Nat → Nat) (cA : Nat → ClassId) (D : va_G) (cl : List vw_C) (Ts : List Cond) (P : mvP) (sC sn sd : String) (n : Nat) : Prop :=
  ∀ (d j pc : Nat) (lv : mvL) (st : List mvV) (h : mvH) (o : mvO), mvRun P n d j pc lv st h = some o → ∀ (E : mvE), mvPm P j = some E →
    ∀ (p : Program) (e : Env) (R : Room) (s : State) (m : MethodId) (args : Array Value) (below : List Frame) (meth : Method) (c : Code), mvFr p s m args meth c Ts E → mvWorld P N0 xa cA D cl sC sn sd s →
    ∀ (H : Heap) (locs : List Loc) (cells slots : Nat) (ls : Array Slot), lv_has ls E.2.2.1 (mvCl N0 xa lv) → mvAt N0 xa cA D cl h H → va_S (fun q : Nat => N0 ≤ q) s.heap H locs → d ≤ R.frames → 60 * d ≤ R.locals → cells + o.2.2.1 ≤ R.cells → slots + o.2.2.2 ≤ R.slots →
    ∀ (mc ms : Nat), cells + o.2.2.1 ≤ mc → slots + o.2.2.2 ≤ ms →
      W p l e R s m args below meth c H locs cells slots (vx_MQ below (mvQc N0 xa cA D cl o.1 o.2.1) (mvXc N0 xa cA D cl o.1 o.2.1) args s mc ms (fun q : Nat => N0 ≤ q)) (F0 m pc ls (st.map (mvCv N0 xa)))
/-- from the frame to the method -/
theorem mvMt_of (ok : mvOkAll Ts cl P sC sn sd) {n : Nat} (hn : mvThm l N0 xa cA D cl Ts P sC sn sd n) {d j : Nat} {as : List mvV} {h : mvH} {o : mvO} {E : mvE} (hE : mvPm P j = some E) (hj : j ≠ 0) (h1 : mvOne as = true) (hlen : as.length ≤ E.2.2.1) (hrun : mvRun P n d j 0 (mvArgs 0 as) [] h = some o) : mvMt P N0 xa cA D cl sC sn sd l Ts E as h o d := by
  obtain ⟨hcd, hpl, hmax, -⟩ := ok.2.1 j E hE hj
  obtain ⟨ea, el⟩ := mvArgs_eq N0 xa as 0 h1
  have body : ∀ (p : Program) (e : Env) (s : State) (m : MethodId) (args : Array Value) (below : List Frame) (meth : Method) (c : Code) (s₁ : State), BodyLoose p l E.1 (headSpec (mvCd E :: Ts) (mvRm d o.2.2.1 o.2.2.2)) E.2.1 E.2.2.1 E.2.2.2.1 e s m args below meth c s₁ → c.maxLocals = E.2.2.1 → c.exceptionTable.toList = tableOf E.2.2.2.2 → mvPre P N0 xa cA D cl sC sn sd as h args s →
      W p l e (headSpec (mvCd E :: Ts) (mvRm d o.2.2.1 o.2.2.2)).room s m args below meth c s.heap [] 0 0 (vx_MQ below (mvQc N0 xa cA D cl o.1 o.2.1) (mvXc N0 xa cA D cl o.1 o.2.1) args s o.2.2.1 o.2.2.2 (fun q : Nat => N0 ≤ q)) (entryFrame m args E.2.2.1) := by
    intro p e s m args below meth c s₁ B hml ht hv
    obtain ⟨rfl, hw, hat⟩ := hv
    have hts0 := atoms_spec (ws := mvCd E :: Ts) B.pre
    have hl := lv_entry (as.map (mvCv N0 xa)) (n := E.2.2.1) (by rw [el]; exact hlen)
    rw [lg_entry_eq]
    rw [ea] at hl
    exact hn d j 0 (mvArgs 0 as) [] h o hrun E hE p e _ s m _ below meth c ⟨B.exec, B.bytes, hml, B.returns, B.notSynchronized, findClass_of_methodNamed B.named, (name_of_methodNamed B.named B.method).1, fun w hw => hts0 w (List.mem_cons_of_mem _ hw), ht⟩ hw s.heap [] 0 0 _ hl hat va_S.rf (Nat.le_refl _) (Nat.le_refl _) (Nat.le_of_eq (Nat.zero_add _)) (Nat.le_of_eq (Nat.zero_add _)) _ _ (Nat.le_of_eq (Nat.zero_add _)) (Nat.le_of_eq (Nat.zero_add _))
  cases hh : E.2.2.2.2 with
  | nil =>
    refine vx_ofW (ws' := Ts) (cc := E.2.1) (maxL := E.2.2.1) (ret := E.2.2.2.1) hpl (by simp only [mvCd, hh]) ?_
    intro p e s m args below meth c s₁ B hml ht hv
    refine body p e s m args below meth c s₁ B hml ?_ hv
    rw [hh]
    exact List.eq_nil_iff_forall_not_mem.mpr fun x hx => ht x hx
  | cons q t =>
    refine vx_ofWH (ws' := Ts) (cc := E.2.1) (maxL := E.2.2.1) (ret := E.2.2.2.1) (hh := q :: t) hpl (by simp only [mvCd, hh]) ?_
    intro p e s m args below meth c s₁ B hml hv
    refine body p e s m args below meth c s₁ B hml ?_ hv
    rw [hh]
    have h9 := atoms_spec (ws := mvCd E :: Ts) B.pre (mvCd E) List.mem_cons_self
    simp only [mvCd, hh] at h9
    exact vx_table (x := E.1) B h9
theorem mvGood (ok : mvOkAll Ts cl P sC sn sd) {j : Nat} {E : mvE} (hE : mvPm P j = some E) (hj : j ≠ 0) : GoodIn Ts (mvCd E :: Ts) := by
  intro w hw
  rcases List.mem_cons.mp hw with rfl | hw
  · exact ⟨(ok.2.1 j E hE hj).1, good_of_word (ok.1 _ (ok.2.1 j E hE hj).1)⟩
  · exact ⟨hw, good_of_word (ok.1 _ hw)⟩
/-- a step over the cells -/
theorem mvG_ok {p : Program} {e : Env} {R : Room} {s : State} {m : MethodId} {args : Array Value} {below : List Frame} {meth : Method} {c : Code} {H : Heap} {locs : List Loc} {cells slots d j pc len : Nat} {Q : State → Prop} {ls : Array Slot} {E : mvE} {st st' : List mvV} {h h' : mvH} {i : Instr} {pc' dc ds : Nat} {lv0 : List (Nat × Value)}
    (ok : mvOkAll Ts cl P sC sn sd) (hE : mvPm P j = some E) (C : mvFr p s m args meth c Ts E) (hw : mvWorld P N0 xa cA D cl sC sn sd s) (hl : lv_has ls E.2.2.1 lv0) (hat : mvAt N0 xa cA D cl h H) (hS : va_S (fun q : Nat => N0 ≤ q) s.heap H locs) (hd : d ≤ R.frames) (hd2 : 60 * d ≤ R.locals)
    (hs : mvG P j d i len pc st h = some (pc', st', h', dc, ds)) (hdg : decode E.2.1 pc = .ok (i, len)) (hcells : cells + dc ≤ R.cells) (hslots : slots + ds ≤ R.slots)
    (k : ∀ (H1 : Heap) (locs1 : List Loc), mvAt N0 xa cA D cl h' H1 → va_S (fun q : Nat => N0 ≤ q) s.heap H1 locs1 → W p l e R s m args below meth c H1 locs1 (cells + dc) (slots + ds) Q (F0 m pc' ls (st'.map (mvCv N0 xa)))) :
    W p l e R s m args below meth c H locs cells slots Q (F0 m pc ls (st.map (mvCv N0 xa))) := by
  obtain ⟨og, om, oi, oo, oh, of, op, on, oa, os, okk, oww⟩ := ok
  obtain ⟨hx, hb, hml, hr, hlocks, hown, hnm, hts, htab⟩ := C
  obtain ⟨hK, hO, hZ, -, -, -, -, hNw⟩ := hw
  obtain ⟨hP, hF⟩ := hat
  unfold mvG at hs
  split at hs
  · rename_i st1 h1 hg
    split at hs
    · rename_i hlen
      subst hlen
      cases hs
      exact mvG1_ok hx hb hown hnm hts hK hE of op hP hS hF hg hdg (fun H1 locs1 a1 a2 a3 => k H1 locs1 ⟨a1, a3⟩ a2)
    · cases hs
  · split at hs
    · rename_i st1 h1 hg
      split at hs
      · rename_i hlen
        subst hlen
        cases hs
        exact mvG2_ok hx hb hK hO hP hS hF hg hdg (fun H1 locs1 a1 a2 a3 => k H1 locs1 ⟨a1, a3⟩ a2)
      · cases hs
    · split at hs
      · rename_i st1 h1 ns n hg
        split at hs
        · rename_i hlen
          subst hlen
          cases hs
          exact mvG3_ok hx hb hown hts hK hE on oa hP hS hF hg hdg hcells hslots (fun H1 locs1 a1 a2 a3 => k H1 locs1 ⟨a1, a3⟩ a2)
        · cases hs
      · split at hs
        · rename_i v n hg
          split at hs
          · rename_i hlen
            subst hlen
            cases hs
            exact mvG4_ok hx hb hown hts hE os okk hZ hNw hS hg hdg (k H locs ⟨hP, hF⟩ hS)
          · cases hs
        · split at hs
          · rename_i idx
            split at hs
            · rename_i a r
              split at hs
              · rename_i hcd
                obtain ⟨ho, hlen, hsum, hd1⟩ := hcd
                subst hlen
                cases hs
                refine W.objInit hx hb hown (hts _ (oo.2.2 j E _ hE ho)) (hts _ oo.1) (hts _ oo.2.1) rfl (hl.1.trans hml.symm) rfl hdg (Nat.le_trans hd1 hd) ?_ (k H locs ⟨hP, hF⟩ hS)
                have e1 := mvSum_eq N0 xa st'
                have e2 : 60 ≤ 60 * d := Nat.le_mul_of_pos_right 60 hd1
                show 2 * 0 + _ + 12 ≤ R.locals
                omega
              · cases hs
            · cases hs
          · cases hs
/-- a call of a constructor -/
theorem mvRunI {p : Program} {e : Env} {R : Room} {s : State} {m : MethodId} {args : Array Value} {below : List Frame} {meth : Method} {c : Code} {H : Heap} {locs : List Loc} {cells slots : Nat} {y : MethodName} {bytes cc : ByteArray} {maxL nL mc ms n index : Nat} {ws : List Cond} {rm : Room} {Pc : Array Value → State → Prop} {Qc : Array Value → State → Outcome → State → Prop} {XC : String → State → State → Prop} {free : Addr → Prop} {Ts : List Cond} {own : String} {b : Addr} {As rest : List Value} {g : JFrame}
    (S : CallFix p m c cc nL s args Ts own) (hM : vx_Met l y ws rm Pc Qc XC mc ms free) (cw : CallB R s args own index y bytes maxL none ws rm mc ms n ∧ y.name = "<init>" ∧ (Cond.instanceMethod y).before args s = true) (hp : PreS s H Pc (.ref b :: As))
    (hg : g.method = m) (hn : As.length = n) (hsize : g.locals.size = nL) (hstack : g.stack = As.reverse ++ .ref b :: rest) (hW : 2 * g.monitorRoom + (rest.map fun v => v.category).sum ≤ 8) (hdg : decode cc g.pc = .ok (.invokespecial index, 3)) (hf : cells + mc ≤ R.cells ∧ slots + ms ≤ R.slots) :
    vx_Run p l e R s m args below meth c H locs cells slots mc ms g rest (Qc (Value.ref b :: As).toArray) XC free := by
  have hK : vx_Back l R p e below s args y 3 8 (PreOf R mc ms Pc) (PostOf Qc mc ms free) (vx_Post XC mc ms free) := vx_callBack cw.1 hM hp.1
  obtain ⟨⟨-, -, -, -, -, -, hcode, -, hy, hlen, hl⟩, hy1, hin⟩ := cw
  obtain ⟨hx, hb, hml, ho, -⟩ := S
  subst hg
  intro T hT X
  have hpl : e.platform.magicAccessors = ({} : Platform).magicAccessors := by rw [X.admits.platform]
  obtain ⟨mk, methM, cM, kP, vm₁, hnamed, hmethM, hcodeM, -, hlocalsM, -, hkP, -, hW₁, hstep₁⟩ := Steps.initColdArgs (e := e) X.here hx X.warmed hpl ho hy1 hy hl hin hcode (f := g) rfl (fun sig h => hn.trans (hlen sig h)) hstack (by rw [hb]; exact hdg)
  have X₁ := X.noted hW₁
  rcases hK g.method meth c ⟨T.setVm vm₁, locs, cells, slots⟩ { g with stack := rest } (.invokespecial index) mk (Value.ref b :: As).toArray X₁ rfl (hsize.trans hml.symm) (by rw [hb]; exact hdg) hW (X₁.named hnamed) ⟨hf.1, hf.2, hp.2 (T.setVm vm₁) hT X₁.warmed⟩ with ⟨v, ⟨U', l2, c2, s2⟩, X', ⟨g', mk', t, L, e1, e2, hq, h1, hL, h2, h3⟩, st⟩ | ⟨q, ⟨U', l2, c2, s2⟩, X', ⟨g', mk', t, L, E, ce, e1, e2, hq, hce, hcv, hcl, h1, hL, h2, h3⟩, st⟩
  · dsimp only [Pt.U, Pt.locs, Pt.cells, Pt.slots] at X' e1 e2 h1 h2 h3 st
    subst h1; subst h2; subst h3
    exact Or.inl ⟨v, (T.setVm vm₁).calling g' mk' (Value.ref b :: As).toArray, t, U', L, hT, X', hL, e1, e2, hq, fun target h => hstep₁ _ fun acts => by rw [doInvoke_state]; exact st.trans h⟩
  · dsimp only [Pt.U, Pt.locs, Pt.cells, Pt.slots] at X' e1 e2 h1 h2 h3 st hcl
    subst h1; subst h2; subst h3
    exact Or.inr ⟨q, (T.setVm vm₁).calling g' mk' (Value.ref b :: As).toArray, t, U', L, E, ce, hT, X', hL, e1, e2, hq, hce, hcv, vx_cls hW₁ hcl, hstep₁ _ fun acts => by rw [doInvoke_state]; exact st⟩
/-- a call of a constructor of a nest mate -/
theorem mvRunIN {p : Program} {e : Env} {R : Room} {s : State} {m : MethodId} {args : Array Value} {below : List Frame} {meth : Method} {c : Code} {H : Heap} {locs : List Loc} {cells slots : Nat} {y : MethodName} {bytes cc : ByteArray} {maxL nL mc ms n index : Nat} {ws : List Cond} {rm : Room} {Pc : Array Value → State → Prop} {Qc : Array Value → State → Outcome → State → Prop} {XC : String → State → State → Prop} {free : Addr → Prop} {Ts : List Cond} {own host : String} {b : Addr} {As rest : List Value} {g : JFrame}
    (S : CallFix p m c cc nL s args Ts own) (hM : vx_Met l y ws rm Pc Qc XC mc ms free) (cw : va_CN R s args own index y host bytes maxL none ws rm mc ms n ∧ y.name = "<init>" ∧ (Cond.instanceMethod y).before args s = true) (hp : PreS s H Pc (.ref b :: As))
    (hg : g.method = m) (hn : As.length = n) (hsize : g.locals.size = nL) (hstack : g.stack = As.reverse ++ .ref b :: rest) (hW : 2 * g.monitorRoom + (rest.map fun v => v.category).sum ≤ 8) (hdg : decode cc g.pc = .ok (.invokespecial index, 3)) (hf : cells + mc ≤ R.cells ∧ slots + ms ≤ R.slots) :
    vx_Run p l e R s m args below meth c H locs cells slots mc ms g rest (Qc (Value.ref b :: As).toArray) XC free := by
  obtain ⟨⟨⟨hrc, hrs, hfr, hlo, hws, hcw⟩, hcode, hini, hy, hlen, hl⟩, hy1, hin⟩ := cw
  have hK : vx_Back l R p e below s args y 3 8 (PreOf R mc ms Pc) (PostOf Qc mc ms free) (vx_Post XC mc ms free) := vx_back (bytes := bytes) (maxL := maxL) (ret := none) hM hp.1 hrc hrs hfr hlo hws hcw (fun a' U hW => word_at hW (Or.inl (by first | rfl | simp [Cond.onTables, Cond.keeps, Cond.steady])) hini)
  obtain ⟨hx, hb, hml, ho, -⟩ := S
  subst hg
  intro T hT X
  have hpl : e.platform.magicAccessors = ({} : Platform).magicAccessors := by rw [X.admits.platform]
  obtain ⟨mk, methM, cM, kP, vm₁, hnamed, hmethM, hcodeM, -, hlocalsM, -, hkP, -, hW₁, hstep₁⟩ := Steps.initColdArgsNest (e := e) X.here hx X.warmed hpl ho hy1 hy hl hin hcode (f := g) rfl (fun sig h => hn.trans (hlen sig h)) hstack (by rw [hb]; exact hdg)
  have X₁ := X.noted hW₁
  rcases hK g.method meth c ⟨T.setVm vm₁, locs, cells, slots⟩ { g with stack := rest } (.invokespecial index) mk (Value.ref b :: As).toArray X₁ rfl (hsize.trans hml.symm) (by rw [hb]; exact hdg) hW (X₁.named hnamed) ⟨hf.1, hf.2, hp.2 (T.setVm vm₁) hT X₁.warmed⟩ with ⟨v, ⟨U', l2, c2, s2⟩, X', ⟨g', mk', t, L, e1, e2, hq, h1, hL, h2, h3⟩, st⟩ | ⟨q, ⟨U', l2, c2, s2⟩, X', ⟨g', mk', t, L, E, ce, e1, e2, hq, hce, hcv, hcl, h1, hL, h2, h3⟩, st⟩
  · dsimp only [Pt.U, Pt.locs, Pt.cells, Pt.slots] at X' e1 e2 h1 h2 h3 st
    subst h1; subst h2; subst h3
    exact Or.inl ⟨v, (T.setVm vm₁).calling g' mk' (Value.ref b :: As).toArray, t, U', L, hT, X', hL, e1, e2, hq, fun target h => hstep₁ _ fun acts => by rw [doInvoke_state]; exact st.trans h⟩
  · dsimp only [Pt.U, Pt.locs, Pt.cells, Pt.slots] at X' e1 e2 h1 h2 h3 st hcl
    subst h1; subst h2; subst h3
    exact Or.inr ⟨q, (T.setVm vm₁).calling g' mk' (Value.ref b :: As).toArray, t, U', L, E, ce, hT, X', hL, e1, e2, hq, hce, hcv, vx_cls hW₁ hcl, hstep₁ _ fun acts => by rw [doInvoke_state]; exact st⟩
/-- a call of a method whose contract stands -/
theorem mvRunCall {p : Program} {e : Env} {R : Room} {s : State} {m : MethodId} {args : Array Value} {below : List Frame} {meth : Method} {c : Code} {H : Heap} {locs : List Loc} {cells slots j pc len j' d' : Nat} {ls : Array Slot} {E : mvE} {st as rest : List mvV} {h : mvH} {i : Instr} {oC : mvO} {lv0 : List (Nat × Value)}
    (ok : mvOkAll Ts cl P sC sn sd) (hE : mvPm P j = some E) (C : mvFr p s m args meth c Ts E) (hw : mvWorld P N0 xa cA D cl sC sn sd s) (hl : lv_has ls E.2.2.1 lv0) (hat : mvAt N0 xa cA D cl h H) (hS : va_S (fun q : Nat => N0 ≤ q) s.heap H locs)
    (hs : mvInv P j i len st h = some (j', as, rest)) (hdg : decode E.2.1 pc = .ok (i, len)) (hsum : mvSum rest ≤ 8) (hd : d' + 1 ≤ R.frames) (hd2 : 60 * (d' + 1) ≤ R.locals) (hcells : cells + oC.2.2.1 ≤ R.cells) (hslots : slots + oC.2.2.2 ≤ R.slots)
    (hM : ∀ E', mvPm P j' = some E' → j' ≠ 0 → as.length ≤ E'.2.2.1 → mvMt P N0 xa cA D cl sC sn sd l Ts E' as h oC d') :
    len = 3 ∧ ∃ a, vx_Run p l e R s m args below meth c H locs cells slots oC.2.2.1 oC.2.2.2 (F0 m pc ls (st.map (mvCv N0 xa))) (rest.map (mvCv N0 xa)) (mvQc N0 xa cA D cl oC.1 oC.2.1 a) (mvXc N0 xa cA D cl oC.1 oC.2.1) (fun q : Nat => N0 ≤ q) := by
  have ok' := ok
  obtain ⟨og, om, oi, oo, oh, of, op, on, oa, os, okk, oww⟩ := ok'
  obtain ⟨hx, hb, hml, hr, hlocks, hown, hnm, hts, htab⟩ := C
  have S : CallFix p m c E.2.1 E.2.2.1 s args Ts E.1.cls := ⟨hx, hb, hml, hown, hts⟩
  have hW : 2 * (F0 m pc ls (st.map (mvCv N0 xa))).monitorRoom + ((rest.map (mvCv N0 xa)).map fun v => v.category).sum ≤ 8 := lv_room (by rw [mvSum_eq]; exact hsum)
  have hpre : ∀ U : State, U.heap = H → s.WarmedH U.vm → mvPre P N0 xa cA D cl sC sn sd as h (as.map (mvCv N0 xa)).toArray U := fun U hU hWm => ⟨rfl, mvWorld_go oww hw hWm hS hU, by rw [hU]; exact hat⟩
  have hloc : ∀ mx : Nat, mx ≤ 41 → 8 + (mx + 11) + (mvRm d' oC.2.2.1 oC.2.2.2).locals ≤ R.locals := fun mx hmx => by
    show 8 + (mx + 11) + 60 * d' ≤ R.locals
    omega
  have hsplit : ∀ n, n ≤ st.length → st.map (mvCv N0 xa) = (((st.take n).reverse).map (mvCv N0 xa)).reverse ++ (st.drop n).map (mvCv N0 xa) := fun n _ => by
    rw [List.map_reverse, List.reverse_reverse, ← List.map_append, List.take_append_drop]
  have hcw : ∀ (idx j1 n ci : Nat), mvPi P j idx = some (j1, n, ci) → ∀ E', mvPm P j1 = some E' → j1 ≠ 0 → E'.2.2.2.2 = [] → Cond.methodLink E.1.cls idx E'.1 ∈ Ts → Cond.initialized E'.1.cls ∈ Ts → (parseMethodDescriptor E'.1.desc).map (fun d => d.parameters.length) = some n → CallB R s args E.1.cls idx E'.1 E'.2.1 E'.2.2.1 E'.2.2.2.1 (mvCd E' :: Ts) (mvRm d' oC.2.2.1 oC.2.2.2) oC.2.2.1 oC.2.2.2 n := by
    intro idx j1 n ci hi E' hE' hj1 hh h1 h2 h3
    obtain ⟨-, -, hmx, hmh⟩ := om j1 E' hE' hj1
    exact callB_of (ws' := Ts) n hts (mvGood ok hE' hj1) (by simp only [mvCd, hh]) rfl rfl (hts _ h2) (hts _ h1) ⟨hmh.1, hmh.2, h3⟩ ⟨hd, hloc _ hmx⟩
  unfold mvInv at hs
  split at hs
  · rename_i idx
    split at hs
    · rename_i j1 n hi
      split at hs
      · rename_i hn
        obtain ⟨hn, hlen⟩ := hn
        subst hlen
        cases hs
        obtain ⟨E', hE', hj1, h1, h2, h3, h4, -, -, -⟩ := oi j E idx _ n 100 hE hi
        have h1 := h1 (by decide)
        obtain ⟨h4, h5⟩ := h4 rfl
        have hal : ((st.take n).reverse).length = n := by rw [List.length_reverse, List.length_take]; omega
        have hM' := hM E' hE' hj1 (by rw [hal]; exact h5)
        refine ⟨rfl, (((st.take n).reverse).map (mvCv N0 xa)).toArray, ?_⟩
        cases hh : E'.2.2.2.2 with
        | nil => exact vx_runS (g := F0 m pc ls (st.map (mvCv N0 xa))) S hM' ⟨hcw idx _ n 100 hi E' hE' hj1 hh h1 h2 h3, hts _ h4⟩ ⟨mvPre_blind oww _ _, hpre⟩ rfl (by rw [List.length_map, hal]) hl.1 (hsplit n hn) hW hdg ⟨hcells, hslots⟩
        | cons q t =>
          obtain ⟨-, -, hmx, hmh⟩ := om _ E' hE' hj1
          have hG : GoodIn Ts (va_wsS E.1.cls idx E'.1 (mvCd E' :: Ts)) := by
            intro w hw9
            rcases List.mem_append.mp hw9 with h9 | h9
            · simp only [List.mem_cons, List.not_mem_nil, or_false] at h9
              rcases h9 with rfl | rfl | rfl
              · exact ⟨h1, good_of_word (og _ h1)⟩
              · exact ⟨h4, good_of_word (og _ h4)⟩
              · exact ⟨h2, good_of_word (og _ h2)⟩
            · exact mvGood ok hE' hj1 w h9
          exact vx_runSX (g := F0 m pc ls (st.map (mvCv N0 xa))) S hM' (vx_cwSW (ws' := Ts) (bytes := E'.2.1) (maxL := E'.2.2.1) (ret := E'.2.2.2.1) (hh := q :: t) n hts hG (by simp only [mvCd, hh]) rfl rfl ⟨hmh.1, hmh.2, h3⟩ ⟨hd, hloc _ hmx⟩) ⟨mvPre_blind oww _ _, hpre⟩ rfl (by rw [List.length_map, hal]) hl.1 (hsplit n hn) hW hdg ⟨hcells, hslots⟩
      · cases hs
    · cases hs
  · rename_i idx
    split at hs
    · rename_i j1 n ci hi
      split at hs
      · rename_i a r hdr
        split at hs
        · rename_i ci' fs hc
          split at hs
          · rename_i hn
            obtain ⟨hn, hlen, hci, hc100⟩ := hn
            subst hlen
            subst hci
            cases hs
            obtain ⟨E', hE', hj1, h1, h2, h3, -, -, -, h4⟩ := oi j E idx _ n ci' hE hi
            have h1 := h1 (by omega)
            obtain ⟨h4, h5, hh, h6, q, hq1, hq2⟩ := h4 hc100
            have hal : ((st.take n).reverse).length = n := by rw [List.length_reverse, List.length_take]; omega
            have hM' := hM E' hE' hj1 (by rw [List.length_cons, hal]; exact h6)
            refine ⟨rfl, (Value.ref (N0 + a) :: ((st.take n).reverse).map (mvCv N0 xa)).toArray, ?_⟩
            have hrecv := va_recv hw.1 hat.1 hq1 (mvWs_at hc)
            rw [hq2] at hrecv
            refine vx_runV (g := F0 m pc ls (st.map (mvCv N0 xa))) (C := E'.1.cls) (b := N0 + a) (As := ((st.take n).reverse).map (mvCv N0 xa)) S hM' ⟨hcw idx _ n ci' hi E' hE' hj1 hh h1 h2 h3, hts _ h4, hts _ h5⟩ ⟨mvPre_blind oww _ _, hrecv, hpre⟩ rfl (by rw [List.length_map, hal]) hl.1 ?_ hW hdg ⟨hcells, hslots⟩
            rw [show (F0 m pc ls (st.map (mvCv N0 xa))).stack = st.map (mvCv N0 xa) from rfl, hsplit n hn, hdr]
            rfl
          · cases hs
        · cases hs
      · cases hs
    · cases hs
  · rename_i idx
    split at hs
    · rename_i j1 n ci hi
      split at hs
      · rename_i a r hdr
        split at hs
        · rename_i hn
          obtain ⟨hn, hlen, hci⟩ := hn
          subst hlen
          cases hs
          have hal : ((st.take n).reverse).length = n := by rw [List.length_reverse, List.length_take]; omega
          have hstk : (F0 m pc ls (st.map (mvCv N0 xa))).stack = (((st.take n).reverse).map (mvCv N0 xa)).reverse ++ .ref (N0 + a) :: rest.map (mvCv N0 xa) := by
            rw [show (F0 m pc ls (st.map (mvCv N0 xa))).stack = st.map (mvCv N0 xa) from rfl, hsplit n hn, hdr]
            rfl
          refine ⟨rfl, (Value.ref (N0 + a) :: ((st.take n).reverse).map (mvCv N0 xa)).toArray, ?_⟩
          rcases hci with rfl | rfl
          · obtain ⟨E', hE', hj1, h1, h2, h3, -, h4, -⟩ := oi j E idx _ n 101 hE hi
            have h1 := h1 (by decide)
            obtain ⟨h4, h5, hret, hh, h6⟩ := h4 rfl
            have hM' := hM E' hE' hj1 (by rw [List.length_cons, hal]; exact h6)
            have hcb := hcw idx _ n 101 hi E' hE' hj1 hh h1 h2 h3
            rw [hret] at hcb
            exact mvRunI (g := F0 m pc ls (st.map (mvCv N0 xa))) (b := N0 + a) (As := ((st.take n).reverse).map (mvCv N0 xa)) S hM' ⟨hcb, h5, hts _ h4⟩ ⟨mvPre_blind oww _ _, hpre⟩ rfl (by rw [List.length_map, hal]) hl.1 hstk hW hdg ⟨hcells, hslots⟩
          · obtain ⟨E', hE', hj1, -, h2, h3, -, -, h4, -⟩ := oi j E idx _ n 102 hE hi
            obtain ⟨h4, h5, hret, hh, h6, host, h7⟩ := h4 rfl
            have hM' := hM E' hE' hj1 (by rw [List.length_cons, hal]; exact h6)
            obtain ⟨-, -, hmx, hmh⟩ := om _ E' hE' hj1
            have hcn := va_cnB (R := R) (rm := mvRm d' oC.2.2.1 oC.2.2.2) (mc := oC.2.2.1) (ms := oC.2.2.2) (bytes := E'.2.1) (maxL := E'.2.2.1) (ret := none) (ws' := Ts) n hts (mvGood ok hE' hj1) (by simp only [mvCd, hh, hret]) rfl rfl (hw.2.2.2.2.2.2.2 _ h7) (hts _ h2) ⟨hmh.1, hmh.2, h3⟩ ⟨hd, hloc _ hmx⟩
            exact mvRunIN (g := F0 m pc ls (st.map (mvCv N0 xa))) (b := N0 + a) (As := ((st.take n).reverse).map (mvCv N0 xa)) S hM' ⟨hcn, h5, hts _ h4⟩ ⟨mvPre_blind oww _ _, hpre⟩ rfl (by rw [List.length_map, hal]) hl.1 hstk hW hdg ⟨hcells, hslots⟩
        · cases hs
      · cases hs
    · cases hs
  · cases hs
/-- the theorem -/
theorem mvSound (ok : mvOkAll Ts cl P sC sn sd) (hB : ∀ (j : Nat) (E : mvE) (b : List mvV → mvH → Option mvO) (as : List mvV) (h : mvH) (o : mvO) (d : Nat), mvPm P j = some E → mvPb P j = some b → b as h = some o → 8 ≤ d → mvMt P N0 xa cA D cl sC sn sd l Ts E as h o d) :
    ∀ n, mvThm l N0 xa cA D cl Ts P sC sn sd n := by
  intro n
  induction n with
  | zero => intro d j pc lv st h o hrun; cases hrun
  | succ n ih =>
    intro d j pc lv st h o hrun E hE p e R s m args below meth c C hw H locs cells slots ls hl hat hS hd hd2 hcells hslots mc ms hmc hms
    have C' := C
    obtain ⟨hx, hb, hml, hr, hlocks, hown, hnm, hts, htab⟩ := C'
    rw [mvRun] at hrun
    rw [hE] at hrun
    simp only at hrun
    split at hrun
    · cases hrun
    · rename_i i len hdg
      split at hrun
      · rename_i pc' lv' st' hs
        exact mvF_ok hx hb hl hs hdg (fun ls' hl' => ih d j pc' lv' st' h o hrun E hE p e R s m args below meth c C hw H locs cells slots ls' hl' hat hS hd hd2 hcells hslots mc ms hmc hms)
      · split at hrun
        · rename_i pc' st' h1 dc ds hs
          obtain ⟨o', ho', rfl⟩ := mvAdd_inv hrun
          dsimp only at hcells hslots hmc hms ⊢
          exact mvG_ok ok hE C hw hl hat hS hd hd2 hs hdg (by omega) (by omega) (fun H1 locs1 a1 a2 => ih d j pc' lv st' h1 o' ho' E hE p e R s m args below meth c C hw H1 locs1 (cells + dc) (slots + ds) ls hl a1 a2 hd hd2 (by omega) (by omega) mc ms (by omega) (by omega))
        · split at hrun
          · rename_i r hs
            cases hrun
            exact mvFin_ok C hs hdg hat hS hmc hms
          · split at hrun
            · cases hrun
            · rename_i j' as rest hs
              split at hrun
              · rename_i hone
                obtain ⟨hone, hsum⟩ := hone
                cases d with
                | zero => cases hrun
                | succ d' =>
                  simp only at hrun
                  split at hrun
                  · cases hrun
                  · rename_i v h1 dc ds hcall
                    obtain ⟨o', ho', rfl⟩ := mvAdd_inv hrun
                    dsimp only at hcells hslots hmc hms ⊢
                    obtain ⟨rfl, a, hr9⟩ := mvRunCall (d' := d') (locs := locs) (cells := cells) (slots := slots) (oC := (.inl v, h1, dc, ds)) (e := e) (below := below) ok hE C hw hl hat hS hs hdg hsum hd hd2 (by dsimp only; omega) (by dsimp only; omega) (fun E' hE' hj1 hlen => by
                      cases hb9 : mvPb P j' with
                      | none => rw [hb9] at hcall; exact mvMt_of ok ih hE' hj1 hone hlen hcall
                      | some b =>
                        rw [hb9] at hcall
                        simp only at hcall
                        split at hcall
                        · rename_i h8; exact hB j' E' b as h _ d' hE' hb9 hcall h8
                        · cases hcall)
                    refine mvCall hr9 hS (fun ex q ce H1 locs1 hc => by cases hc) (fun w H1 locs1 hc a1 a2 => ?_)
                    cases hc
                    have hst : ((v.map (mvCv N0 xa)).toList ++ rest.map (mvCv N0 xa)) = (v.toList ++ rest).map (mvCv N0 xa) := by cases v <;> simp
                    rw [hst]
                    exact ih (d' + 1) j (pc + 3) lv (v.toList ++ rest) h1 o' ho' E hE p e R s m args below meth c C hw H1 locs1 (cells + dc) (slots + ds) ls hl a1 a2 hd hd2 (by omega) (by omega) mc ms (by omega) (by omega)
                  · rename_i ex h1 dc ds hcall
                    have hM9 : ∀ E', mvPm P j' = some E' → j' ≠ 0 → as.length ≤ E'.2.2.1 → mvMt P N0 xa cA D cl sC sn sd l Ts E' as h (.inr ex, h1, dc, ds) d' := fun E' hE' hj1 hlen => by
                      cases hb9 : mvPb P j' with
                      | none => rw [hb9] at hcall; exact mvMt_of ok ih hE' hj1 hone hlen hcall
                      | some b =>
                        rw [hb9] at hcall
                        simp only at hcall
                        split at hcall
                        · rename_i h8; exact hB j' E' b as h _ d' hE' hb9 hcall h8
                        · cases hcall
                    split at hrun
                    · split at hrun
                      · rename_i hh
                        cases hrun
                        dsimp only at hcells hslots hmc hms ⊢
                        obtain ⟨rfl, a, hr9⟩ := mvRunCall (d' := d') (locs := locs) (cells := cells) (slots := slots) (oC := (.inr ex, h1, dc, ds)) (e := e) (below := below) ok hE C hw hl hat hS hs hdg hsum hd hd2 hcells hslots hM9
                        refine mvCall hr9 hS (fun ex' q ce H1 locs1 hc a1 a2 b1 b2 b3 => ?_) (fun w H1 locs1 hc => by cases hc)
                        cases hc
                        refine vx_out (fun x hx9 => ?_) hlocks b1 b2 b3 (fun t ht _ => ⟨rfl, by rw [ht]; exact a1, a2.F ht⟩) a2.2.2 hmc hms
                        rw [htab, hh] at hx9
                        cases hx9
                      · cases hrun
                    · rename_i hp x pc' hph
                      obtain ⟨o', ho', rfl⟩ := mvAdd_inv hrun
                      dsimp only at hcells hslots hmc hms ⊢
                      obtain ⟨rfl, a, hr9⟩ := mvRunCall (d' := d') (locs := locs) (cells := cells) (slots := slots) (oC := (.inr ex, h1, dc, ds)) (e := e) (below := below) ok hE C hw hl hat hS hs hdg hsum hd hd2 (by dsimp only; omega) (by dsimp only; omega) hM9
                      refine mvCall hr9 hS (fun ex' q ce H1 locs1 hc a1 a2 b1 b2 b3 => ?_) (fun w H1 locs1 hc => by cases hc)
                      cases hc
                      obtain ⟨pre, row, suf, t1, t2, t3, t4, t5, t6, t7, t8, t9⟩ := ok.2.2.2.2.1 j E pc ex hp x pc' hE hph
                      refine mvCatch hown pre row suf (htab.trans t1) (fun z hz => ?_) t3 t4 (hts _ t5) (va_Nw.use rfl (hw.2.2.2.2.2.2.2 _ t6)) b1 b2 b3 ?_
                      · rcases t2 z hz with u | ⟨u1, u2, u3, u4⟩
                        · exact Or.inl u
                        · exact Or.inr ⟨u1, u2, _, hts _ u4, by rw [u3]; exact hw.2.2.2.2.2.2.1⟩
                      · rw [t7]
                        have hst : ∀ ls', lv_has ls' E.2.2.1 ((x, Value.ref q) :: mvCl N0 xa (mvDrop lv x)) → W p l e R s m args below meth c H1 locs1 (cells + dc) (slots + ds) (vx_MQ below (mvQc N0 xa cA D cl o'.1 o'.2.1) (mvXc N0 xa cA D cl o'.1 o'.2.1) args s mc ms (fun q : Nat => N0 ≤ q)) (F0 m pc' ls' []) := fun ls' hl' => by
                          exact ih (d' + 1) j pc' (mvDrop lv x) [] h1 o' ho' E hE p e R s m args below meth c C hw H1 locs1 (cells + dc) (slots + ds) ls' ⟨hl'.1, hl'.2.1, fun q hq => hl'.2.2 q (List.mem_cons_of_mem _ hq)⟩ a1 a2 hd hd2 (by omega) (by omega) mc ms (by omega) (by omega)
                        rcases t9 with ⟨t9, t10⟩ | ⟨k9, t9, t10, t11⟩
                        · subst t10
                          exact lv_astore hx hb t9 hl t8 (by rw [mvCl_drop]) hst
                        · subst t11
                          exact lv_astore_n hx hb t9 t10 hl t8 (by rw [mvCl_drop]) hst
              · cases hrun
end MVM
end
section
/-! The program, printed by a program out of the words of the Statement: classes with their fields, methods, links. -/
def RX0 : String := "DictionaryHouse$Checker"
def TX0 : u_T := fun k => match k with
  | 0 => ("DictionaryHouse$Checker", "types", "LDictionaryHouse$TypeTable;", true)
  | 1 => ("DictionaryHouse$Checker", "classes", "LDictionaryHouse$ClassTable;", true)
  | 2 => ("DictionaryHouse$Checker", "definitions", "LDictionaryHouse$Definitions;", true)
  | 3 => ("DictionaryHouse$Checker", "typing", "LDictionaryHouse$Typing;", true)
  | 4 => ("DictionaryHouse$Checker", "plans", "LDictionaryHouse$Plans;", true)
  | 5 => ("DictionaryHouse$Checker", "graph", "LDictionaryHouse$Graph;", true)
  | 6 => ("DictionaryHouse$Checker", "conditions", "LDictionaryHouse$Conditions;", true)
  | 7 => ("DictionaryHouse$Checker", "remaining", "[I", true)
  | _ => ("DictionaryHouse$Checker", "typeOfNode", "[I", true)
def tyX0 : Nat → FieldType := fun k => match k with
  | 0 => .object "DictionaryHouse$TypeTable"
  | 1 => .object "DictionaryHouse$ClassTable"
  | 2 => .object "DictionaryHouse$Definitions"
  | 3 => .object "DictionaryHouse$Typing"
  | 4 => .object "DictionaryHouse$Plans"
  | 5 => .object "DictionaryHouse$Graph"
  | 6 => .object "DictionaryHouse$Conditions"
  | 7 => .array .int
  | _ => .array .int
abbrev wsX00 : List Cond := u_ws RX0 TX0 9
theorem nmX0 : ∀ a, a < 9 → ∀ b, b < 9 → a ≠ b → (TX0 a).2.1 ≠ (TX0 b).2.1 := by decide +kernel
theorem tyX0_ok : ∀ k, k < 9 → parseFieldDescriptor (TX0 k).2.2.1 = some (tyX0 k) := by decide +kernel
def RX1 : String := "DictionaryHouse$ClassTable"
def TX1 : u_T := fun k => match k with
  | 0 => ("DictionaryHouse$ClassTable", "above", "[I", true)
  | 1 => ("DictionaryHouse$ClassTable", "methods", "[I", true)
  | 2 => ("DictionaryHouse$ClassTable", "methodType", "[I", true)
  | 3 => ("DictionaryHouse$ClassTable", "present", "[Z", true)
  | 4 => ("DictionaryHouse$ClassTable", "context", "[I", true)
  | 5 => ("DictionaryHouse$ClassTable", "body", "[I", true)
  | _ => ("DictionaryHouse$ClassTable", "count", "I", false)
def tyX1 : Nat → FieldType := fun k => match k with
  | 0 => .array .int
  | 1 => .array .int
  | 2 => .array .int
  | 3 => .array .boolean
  | 4 => .array .int
  | 5 => .array .int
  | _ => .int
abbrev wsX10 : List Cond := u_ws RX1 TX1 7
theorem nmX1 : ∀ a, a < 7 → ∀ b, b < 7 → a ≠ b → (TX1 a).2.1 ≠ (TX1 b).2.1 := by decide +kernel
theorem tyX1_ok : ∀ k, k < 7 → parseFieldDescriptor (TX1 k).2.2.1 = some (tyX1 k) := by decide +kernel
def RX2 : String := "DictionaryHouse$Conditions"
def TX2 : u_T := fun k => match k with
  | 0 => ("DictionaryHouse$Conditions", "classes", "LDictionaryHouse$ClassTable;", true)
  | 1 => ("DictionaryHouse$Conditions", "definitions", "LDictionaryHouse$Definitions;", true)
  | 2 => ("DictionaryHouse$Conditions", "typing", "LDictionaryHouse$Typing;", true)
  | 3 => ("DictionaryHouse$Conditions", "graph", "LDictionaryHouse$Graph;", true)
  | 4 => ("DictionaryHouse$Conditions", "classesOf", "[I", true)
  | 5 => ("DictionaryHouse$Conditions", "contextOfFixed", "I", false)
  | 6 => ("DictionaryHouse$Conditions", "unfulfilled", "Z", false)
  | 7 => ("DictionaryHouse$Conditions", "stray", "Z", false)
  | _ => ("DictionaryHouse$Conditions", "far", "Z", false)
def tyX2 : Nat → FieldType := fun k => match k with
  | 0 => .object "DictionaryHouse$ClassTable"
  | 1 => .object "DictionaryHouse$Definitions"
  | 2 => .object "DictionaryHouse$Typing"
  | 3 => .object "DictionaryHouse$Graph"
  | 4 => .array .int
  | 5 => .int
  | 6 => .boolean
  | 7 => .boolean
  | _ => .boolean
abbrev wsX20 : List Cond := u_ws RX2 TX2 9
theorem nmX2 : ∀ a, a < 9 → ∀ b, b < 9 → a ≠ b → (TX2 a).2.1 ≠ (TX2 b).2.1 := by decide +kernel
theorem tyX2_ok : ∀ k, k < 9 → parseFieldDescriptor (TX2 k).2.2.1 = some (tyX2 k) := by decide +kernel
def RX3 : String := "DictionaryHouse$Definitions"
def TX3 : u_T := fun k => match k with
  | 0 => ("DictionaryHouse$Definitions", "expression", "[I", true)
  | 1 => ("DictionaryHouse$Definitions", "type", "[I", true)
  | 2 => ("DictionaryHouse$Definitions", "conditions", "[I", true)
  | 3 => ("DictionaryHouse$Definitions", "condition", "[I", true)
  | _ => ("DictionaryHouse$Definitions", "count", "I", false)
def tyX3 : Nat → FieldType := fun k => match k with
  | 0 => .array .int
  | 1 => .array .int
  | 2 => .array .int
  | 3 => .array .int
  | _ => .int
abbrev wsX30 : List Cond := u_ws RX3 TX3 5
theorem nmX3 : ∀ a, a < 5 → ∀ b, b < 5 → a ≠ b → (TX3 a).2.1 ≠ (TX3 b).2.1 := by decide +kernel
theorem tyX3_ok : ∀ k, k < 5 → parseFieldDescriptor (TX3 k).2.2.1 = some (tyX3 k) := by decide +kernel
def RX4 : String := "DictionaryHouse$Expressions"
def TX4 : u_T := fun k => match k with
  | 0 => ("DictionaryHouse$Expressions", "kind", "[I", true)
  | 1 => ("DictionaryHouse$Expressions", "first", "[I", true)
  | 2 => ("DictionaryHouse$Expressions", "second", "[I", true)
  | 3 => ("DictionaryHouse$Expressions", "places", "[I", true)
  | _ => ("DictionaryHouse$Expressions", "count", "I", false)
def tyX4 : Nat → FieldType := fun k => match k with
  | 0 => .array .int
  | 1 => .array .int
  | 2 => .array .int
  | 3 => .array .int
  | _ => .int
abbrev wsX40 : List Cond := u_ws RX4 TX4 5
theorem nmX4 : ∀ a, a < 5 → ∀ b, b < 5 → a ≠ b → (TX4 a).2.1 ≠ (TX4 b).2.1 := by decide +kernel
theorem tyX4_ok : ∀ k, k < 5 → parseFieldDescriptor (TX4 k).2.2.1 = some (tyX4 k) := by decide +kernel
def RX5 : String := "DictionaryHouse$Graph"
def TX5 : u_T := fun k => match k with
  | 0 => ("DictionaryHouse$Graph", "kind", "[I", true)
  | 1 => ("DictionaryHouse$Graph", "left", "[I", true)
  | 2 => ("DictionaryHouse$Graph", "right", "[I", true)
  | 3 => ("DictionaryHouse$Graph", "link", "[I", true)
  | 4 => ("DictionaryHouse$Graph", "users", "[I", true)
  | 5 => ("DictionaryHouse$Graph", "variableNumber", "[I", true)
  | 6 => ("DictionaryHouse$Graph", "variable", "[I", true)
  | 7 => ("DictionaryHouse$Graph", "waiting", "[I", true)
  | 8 => ("DictionaryHouse$Graph", "count", "I", false)
  | _ => ("DictionaryHouse$Graph", "variableCount", "I", false)
def tyX5 : Nat → FieldType := fun k => match k with
  | 0 => .array .int
  | 1 => .array .int
  | 2 => .array .int
  | 3 => .array .int
  | 4 => .array .int
  | 5 => .array .int
  | 6 => .array .int
  | 7 => .array .int
  | 8 => .int
  | _ => .int
abbrev wsX50 : List Cond := u_ws RX5 TX5 10
theorem nmX5 : ∀ a, a < 10 → ∀ b, b < 10 → a ≠ b → (TX5 a).2.1 ≠ (TX5 b).2.1 := by decide +kernel
theorem tyX5_ok : ∀ k, k < 10 → parseFieldDescriptor (TX5 k).2.2.1 = some (tyX5 k) := by decide +kernel
def RX6 : String := "DictionaryHouse$Heap"
def TX6 : u_T := fun k => match k with
  | 0 => ("DictionaryHouse$Heap", "cells", "[I", true)
  | 1 => ("DictionaryHouse$Heap", "frames", "[I", true)
  | 2 => ("DictionaryHouse$Heap", "cellCount", "I", false)
  | _ => ("DictionaryHouse$Heap", "frameCount", "I", false)
def tyX6 : Nat → FieldType := fun k => match k with
  | 0 => .array .int
  | 1 => .array .int
  | 2 => .int
  | _ => .int
abbrev wsX60 : List Cond := u_ws RX6 TX6 4
theorem nmX6 : ∀ a, a < 4 → ∀ b, b < 4 → a ≠ b → (TX6 a).2.1 ≠ (TX6 b).2.1 := by decide +kernel
theorem tyX6_ok : ∀ k, k < 4 → parseFieldDescriptor (TX6 k).2.2.1 = some (tyX6 k) := by decide +kernel
def RX7 : String := "DictionaryHouse$Machine"
def TX7 : u_T := fun k => match k with
  | 0 => ("DictionaryHouse$Machine", "classes", "LDictionaryHouse$ClassTable;", true)
  | 1 => ("DictionaryHouse$Machine", "expressions", "LDictionaryHouse$Expressions;", true)
  | 2 => ("DictionaryHouse$Machine", "definitions", "LDictionaryHouse$Definitions;", true)
  | 3 => ("DictionaryHouse$Machine", "plans", "LDictionaryHouse$Plans;", true)
  | 4 => ("DictionaryHouse$Machine", "heap", "LDictionaryHouse$Heap;", true)
  | 5 => ("DictionaryHouse$Machine", "waiting", "[I", true)
  | 6 => ("DictionaryHouse$Machine", "waitingCount", "I", false)
  | 7 => ("DictionaryHouse$Machine", "steps", "I", false)
  | 8 => ("DictionaryHouse$Machine", "limit", "I", false)
  | 9 => ("DictionaryHouse$Machine", "stopped", "Z", false)
  | 10 => ("DictionaryHouse$Machine", "expression", "I", false)
  | 11 => ("DictionaryHouse$Machine", "spot", "I", false)
  | 12 => ("DictionaryHouse$Machine", "environment", "I", false)
  | 13 => ("DictionaryHouse$Machine", "frame", "I", false)
  | 14 => ("DictionaryHouse$Machine", "value", "I", false)
  | 15 => ("DictionaryHouse$Machine", "shown", "[I", true)
  | _ => ("DictionaryHouse$Machine", "shownCount", "I", false)
def tyX7 : Nat → FieldType := fun k => match k with
  | 0 => .object "DictionaryHouse$ClassTable"
  | 1 => .object "DictionaryHouse$Expressions"
  | 2 => .object "DictionaryHouse$Definitions"
  | 3 => .object "DictionaryHouse$Plans"
  | 4 => .object "DictionaryHouse$Heap"
  | 5 => .array .int
  | 6 => .int
  | 7 => .int
  | 8 => .int
  | 9 => .boolean
  | 10 => .int
  | 11 => .int
  | 12 => .int
  | 13 => .int
  | 14 => .int
  | 15 => .array .int
  | _ => .int
abbrev wsX70 : List Cond := u_ws RX7 TX7 17
theorem nmX7 : ∀ a, a < 17 → ∀ b, b < 17 → a ≠ b → (TX7 a).2.1 ≠ (TX7 b).2.1 := by decide +kernel
theorem tyX7_ok : ∀ k, k < 17 → parseFieldDescriptor (TX7 k).2.2.1 = some (tyX7 k) := by decide +kernel
def RX8 : String := "DictionaryHouse$Plans"
def TX8 : u_T := fun k => match k with
  | _ => ("DictionaryHouse$Plans", "planned", "[I", true)
def tyX8 : Nat → FieldType := fun k => match k with
  | _ => .array .int
abbrev wsX80 : List Cond := u_ws RX8 TX8 1
theorem nmX8 : ∀ a, a < 1 → ∀ b, b < 1 → a ≠ b → (TX8 a).2.1 ≠ (TX8 b).2.1 := by decide +kernel
theorem tyX8_ok : ∀ k, k < 1 → parseFieldDescriptor (TX8 k).2.2.1 = some (tyX8 k) := by decide +kernel
def RX9 : String := "DictionaryHouse$TypeTable"
def TX9 : u_T := fun k => match k with
  | 0 => ("DictionaryHouse$TypeTable", "left", "[I", true)
  | 1 => ("DictionaryHouse$TypeTable", "right", "[I", true)
  | 2 => ("DictionaryHouse$TypeTable", "variables", "[I", true)
  | _ => ("DictionaryHouse$TypeTable", "count", "I", false)
def tyX9 : Nat → FieldType := fun k => match k with
  | 0 => .array .int
  | 1 => .array .int
  | 2 => .array .int
  | _ => .int
abbrev wsX90 : List Cond := u_ws RX9 TX9 4
theorem nmX9 : ∀ a, a < 4 → ∀ b, b < 4 → a ≠ b → (TX9 a).2.1 ≠ (TX9 b).2.1 := by decide +kernel
theorem tyX9_ok : ∀ k, k < 4 → parseFieldDescriptor (TX9 k).2.2.1 = some (tyX9 k) := by decide +kernel
def RX10 : String := "DictionaryHouse$Typing"
def TX10 : u_T := fun k => match k with
  | 0 => ("DictionaryHouse$Typing", "types", "LDictionaryHouse$TypeTable;", true)
  | 1 => ("DictionaryHouse$Typing", "classes", "LDictionaryHouse$ClassTable;", true)
  | 2 => ("DictionaryHouse$Typing", "expressions", "LDictionaryHouse$Expressions;", true)
  | 3 => ("DictionaryHouse$Typing", "definitions", "LDictionaryHouse$Definitions;", true)
  | 4 => ("DictionaryHouse$Typing", "graph", "LDictionaryHouse$Graph;", true)
  | 5 => ("DictionaryHouse$Typing", "expressionAt", "[I", true)
  | 6 => ("DictionaryHouse$Typing", "lambdaAround", "[I", true)
  | 7 => ("DictionaryHouse$Typing", "typeAt", "[I", true)
  | 8 => ("DictionaryHouse$Typing", "argumentAt", "[I", true)
  | 9 => ("DictionaryHouse$Typing", "filling", "[I", true)
  | 10 => ("DictionaryHouse$Typing", "fillings", "[I", true)
  | 11 => ("DictionaryHouse$Typing", "nodeOfType", "[I", true)
  | 12 => ("DictionaryHouse$Typing", "wanted", "[Z", true)
  | _ => ("DictionaryHouse$Typing", "places", "I", false)
def tyX10 : Nat → FieldType := fun k => match k with
  | 0 => .object "DictionaryHouse$TypeTable"
  | 1 => .object "DictionaryHouse$ClassTable"
  | 2 => .object "DictionaryHouse$Expressions"
  | 3 => .object "DictionaryHouse$Definitions"
  | 4 => .object "DictionaryHouse$Graph"
  | 5 => .array .int
  | 6 => .array .int
  | 7 => .array .int
  | 8 => .array .int
  | 9 => .array .int
  | 10 => .array .int
  | 11 => .array .int
  | 12 => .array .boolean
  | _ => .int
abbrev wsX100 : List Cond := u_ws RX10 TX10 14
theorem nmX10 : ∀ a, a < 14 → ∀ b, b < 14 → a ≠ b → (TX10 a).2.1 ≠ (TX10 b).2.1 := by decide +kernel
theorem tyX10_ok : ∀ k, k < 14 → parseFieldDescriptor (TX10 k).2.2.1 = some (tyX10 k) := by decide +kernel
def RX11 : String := "DictionaryHouse"
def TX11 : u_T := fun k => match k with
  | 0 => ("DictionaryHouse", "types", "LDictionaryHouse$TypeTable;", true)
  | 1 => ("DictionaryHouse", "classes", "LDictionaryHouse$ClassTable;", true)
  | 2 => ("DictionaryHouse", "expressions", "LDictionaryHouse$Expressions;", true)
  | 3 => ("DictionaryHouse", "definitions", "LDictionaryHouse$Definitions;", true)
  | 4 => ("DictionaryHouse", "checker", "LDictionaryHouse$Checker;", true)
  | _ => ("DictionaryHouse", "machine", "LDictionaryHouse$Machine;", true)
def tyX11 : Nat → FieldType := fun k => match k with
  | 0 => .object "DictionaryHouse$TypeTable"
  | 1 => .object "DictionaryHouse$ClassTable"
  | 2 => .object "DictionaryHouse$Expressions"
  | 3 => .object "DictionaryHouse$Definitions"
  | 4 => .object "DictionaryHouse$Checker"
  | _ => .object "DictionaryHouse$Machine"
abbrev wsX110 : List Cond := u_ws RX11 TX11 6
theorem nmX11 : ∀ a, a < 6 → ∀ b, b < 6 → a ≠ b → (TX11 a).2.1 ≠ (TX11 b).2.1 := by decide +kernel
theorem tyX11_ok : ∀ k, k < 6 → parseFieldDescriptor (TX11 k).2.2.1 = some (tyX11 k) := by decide +kernel
def RX12 : String := "DictionaryHouseModel"
def TX12 : u_T := fun k => match k with
  | 0 => ("DictionaryHouseModel", "thrown", "I", false)
  | 1 => ("DictionaryHouseModel", "types", "I", false)
  | 2 => ("DictionaryHouseModel", "typeKind", "[I", true)
  | 3 => ("DictionaryHouseModel", "typeA", "[I", true)
  | 4 => ("DictionaryHouseModel", "typeB", "[I", true)
  | 5 => ("DictionaryHouseModel", "classes", "I", false)
  | 6 => ("DictionaryHouseModel", "above", "[I", true)
  | 7 => ("DictionaryHouseModel", "methods", "[I", true)
  | 8 => ("DictionaryHouseModel", "methodType", "[I", true)
  | 9 => ("DictionaryHouseModel", "isInstance", "[Z", true)
  | 10 => ("DictionaryHouseModel", "contextOf", "[I", true)
  | 11 => ("DictionaryHouseModel", "methodExpression", "[I", true)
  | 12 => ("DictionaryHouseModel", "expressions", "I", false)
  | 13 => ("DictionaryHouseModel", "kind", "[I", true)
  | 14 => ("DictionaryHouseModel", "first", "[I", true)
  | 15 => ("DictionaryHouseModel", "second", "[I", true)
  | 16 => ("DictionaryHouseModel", "size", "[I", true)
  | 17 => ("DictionaryHouseModel", "definitions", "I", false)
  | 18 => ("DictionaryHouseModel", "definition", "[I", true)
  | 19 => ("DictionaryHouseModel", "schemeType", "[I", true)
  | 20 => ("DictionaryHouseModel", "schemeVariables", "[I", true)
  | 21 => ("DictionaryHouseModel", "conditions", "[I", true)
  | 22 => ("DictionaryHouseModel", "condition", "[I", true)
  | 23 => ("DictionaryHouseModel", "termAt", "[I", true)
  | 24 => ("DictionaryHouseModel", "terms", "I", false)
  | 25 => ("DictionaryHouseModel", "termKind", "[I", true)
  | 26 => ("DictionaryHouseModel", "termA", "[I", true)
  | 27 => ("DictionaryHouseModel", "termB", "[I", true)
  | 28 => ("DictionaryHouseModel", "nodes", "I", false)
  | 29 => ("DictionaryHouseModel", "nodeKind", "[I", true)
  | 30 => ("DictionaryHouseModel", "nodeA", "[I", true)
  | 31 => ("DictionaryHouseModel", "nodeB", "[I", true)
  | 32 => ("DictionaryHouseModel", "link", "[I", true)
  | 33 => ("DictionaryHouseModel", "mark", "[I", true)
  | 34 => ("DictionaryHouseModel", "numberOf", "[I", true)
  | 35 => ("DictionaryHouseModel", "todo", "[I", true)
  | 36 => ("DictionaryHouseModel", "copyOf", "[I", true)
  | 37 => ("DictionaryHouseModel", "placeExpression", "[I", true)
  | 38 => ("DictionaryHouseModel", "placeNode", "[I", true)
  | 39 => ("DictionaryHouseModel", "placeAround", "[I", true)
  | 40 => ("DictionaryHouseModel", "argument", "[I", true)
  | 41 => ("DictionaryHouseModel", "standing", "[I", true)
  | 42 => ("DictionaryHouseModel", "standCount", "[I", true)
  | 43 => ("DictionaryHouseModel", "wanted", "I", false)
  | 44 => ("DictionaryHouseModel", "wantedClass", "[I", true)
  | 45 => ("DictionaryHouseModel", "wantedNode", "[I", true)
  | 46 => ("DictionaryHouseModel", "places", "I", false)
  | 47 => ("DictionaryHouseModel", "unfulfilled", "Z", false)
  | 48 => ("DictionaryHouseModel", "left", "Z", false)
  | 49 => ("DictionaryHouseModel", "tooDeep", "Z", false)
  | 50 => ("DictionaryHouseModel", "varCount", "I", false)
  | 51 => ("DictionaryHouseModel", "varNode", "[I", true)
  | 52 => ("DictionaryHouseModel", "varBits", "[I", true)
  | 53 => ("DictionaryHouseModel", "given", "I", false)
  | 54 => ("DictionaryHouseModel", "hasValue", "Z", false)
  | 55 => ("DictionaryHouseModel", "isList", "Z", false)
  | 56 => ("DictionaryHouseModel", "valueCount", "I", false)
  | 57 => ("DictionaryHouseModel", "values", "[I", true)
  | 58 => ("DictionaryHouseModel", "steps", "I", false)
  | 59 => ("DictionaryHouseModel", "limit", "I", false)
  | 60 => ("DictionaryHouseModel", "spent", "Z", false)
  | 61 => ("DictionaryHouseModel", "cells", "I", false)
  | 62 => ("DictionaryHouseModel", "cellKind", "[I", true)
  | 63 => ("DictionaryHouseModel", "cellA", "[I", true)
  | 64 => ("DictionaryHouseModel", "cellB", "[I", true)
  | 65 => ("DictionaryHouseModel", "cellC", "[I", true)
  | 66 => ("DictionaryHouseModel", "cellD", "[I", true)
  | 67 => ("DictionaryHouseModel", "cellE", "[I", true)
  | 68 => ("DictionaryHouseModel", "environments", "I", false)
  | 69 => ("DictionaryHouseModel", "environmentTerm", "[I", true)
  | 70 => ("DictionaryHouseModel", "environmentOf", "[I", true)
  | 71 => ("DictionaryHouseModel", "tasks", "I", false)
  | 72 => ("DictionaryHouseModel", "taskKind", "[I", true)
  | 73 => ("DictionaryHouseModel", "taskA", "[I", true)
  | 74 => ("DictionaryHouseModel", "taskB", "[I", true)
  | 75 => ("DictionaryHouseModel", "taskC", "[I", true)
  | 76 => ("DictionaryHouseModel", "taskD", "[I", true)
  | 77 => ("DictionaryHouseModel", "taskE", "[I", true)
  | 78 => ("DictionaryHouseModel", "result", "I", false)
  | 79 => ("DictionaryHouseModel", "headTerm", "I", false)
  | _ => ("DictionaryHouseModel", "headOf", "I", false)
def tyX12 : Nat → FieldType := fun k => match k with
  | 0 => .int
  | 1 => .int
  | 2 => .array .int
  | 3 => .array .int
  | 4 => .array .int
  | 5 => .int
  | 6 => .array .int
  | 7 => .array .int
  | 8 => .array .int
  | 9 => .array .boolean
  | 10 => .array .int
  | 11 => .array .int
  | 12 => .int
  | 13 => .array .int
  | 14 => .array .int
  | 15 => .array .int
  | 16 => .array .int
  | 17 => .int
  | 18 => .array .int
  | 19 => .array .int
  | 20 => .array .int
  | 21 => .array .int
  | 22 => .array .int
  | 23 => .array .int
  | 24 => .int
  | 25 => .array .int
  | 26 => .array .int
  | 27 => .array .int
  | 28 => .int
  | 29 => .array .int
  | 30 => .array .int
  | 31 => .array .int
  | 32 => .array .int
  | 33 => .array .int
  | 34 => .array .int
  | 35 => .array .int
  | 36 => .array .int
  | 37 => .array .int
  | 38 => .array .int
  | 39 => .array .int
  | 40 => .array .int
  | 41 => .array .int
  | 42 => .array .int
  | 43 => .int
  | 44 => .array .int
  | 45 => .array .int
  | 46 => .int
  | 47 => .boolean
  | 48 => .boolean
  | 49 => .boolean
  | 50 => .int
  | 51 => .array .int
  | 52 => .array .int
  | 53 => .int
  | 54 => .boolean
  | 55 => .boolean
  | 56 => .int
  | 57 => .array .int
  | 58 => .int
  | 59 => .int
  | 60 => .boolean
  | 61 => .int
  | 62 => .array .int
  | 63 => .array .int
  | 64 => .array .int
  | 65 => .array .int
  | 66 => .array .int
  | 67 => .array .int
  | 68 => .int
  | 69 => .array .int
  | 70 => .array .int
  | 71 => .int
  | 72 => .array .int
  | 73 => .array .int
  | 74 => .array .int
  | 75 => .array .int
  | 76 => .array .int
  | 77 => .array .int
  | 78 => .int
  | 79 => .int
  | _ => .int
abbrev wsX120 : List Cond := u_ws RX12 TX12 81
theorem nmX12 : ∀ a, a < 81 → ∀ b, b < 81 → a ≠ b → (TX12 a).2.1 ≠ (TX12 b).2.1 := by decide +kernel
theorem tyX12_ok : ∀ k, k < 81 → parseFieldDescriptor (TX12 k).2.2.1 = some (tyX12 k) := by decide +kernel
def pgCl : List vw_C := [(RX0, TX0, 9), (RX1, TX1, 7), (RX2, TX2, 9), (RX3, TX3, 5), (RX4, TX4, 5), (RX5, TX5, 10), (RX6, TX6, 4), (RX7, TX7, 17), (RX8, TX8, 1), (RX9, TX9, 4), (RX10, TX10, 14), (RX11, TX11, 6), (RX12, TX12, 81)]
def pgN : List String := ["DictionaryHouse$Checker", "DictionaryHouse$ClassTable", "DictionaryHouse$Conditions", "DictionaryHouse$Definitions", "DictionaryHouse$Expressions", "DictionaryHouse$Graph", "DictionaryHouse$Heap", "DictionaryHouse$Machine", "DictionaryHouse$Plans", "DictionaryHouse$TypeTable", "DictionaryHouse$Typing", "DictionaryHouse", "DictionaryHouseModel", "DictionaryHouseLaw", "java/util/Arrays", "java/lang/Integer"]
def pgM0 : List mvE := [(⟨"DictionaryHouseLaw", "law", "([I)Z"⟩, code, 7, (some .boolean), []),
  (⟨"DictionaryHouse", "<init>", "()V"⟩, prog_1_method_1_code, 3, none, []),
  (⟨"DictionaryHouse$TypeTable", "<init>", "()V"⟩, prog_11_method_1_code, 2, none, []),
  (⟨"DictionaryHouse$ClassTable", "<init>", "()V"⟩, prog_3_method_1_code, 1, none, []),
  (⟨"java/util/Arrays", "fill", "([II)V"⟩, prog_29_method_103_code, 4, none, []),
  (⟨"DictionaryHouse$Expressions", "<init>", "()V"⟩, prog_6_method_1_code, 1, none, []),
  (⟨"DictionaryHouse$Definitions", "<init>", "()V"⟩, prog_5_method_1_code, 1, none, []),
  (⟨"DictionaryHouse$Plans", "<init>", "()V"⟩, prog_10_method_1_code, 1, none, []),
  (⟨"DictionaryHouse$Typing", "<init>", "(LDictionaryHouse$TypeTable;LDictionaryHouse$ClassTable;LDictionaryHouse$Expressions;LDictionaryHouse$Definitions;)V"⟩, prog_12_method_1_code, 5, none, []),
  (⟨"DictionaryHouse$Graph", "<init>", "()V"⟩, prog_7_method_1_code, 1, none, []),
  (⟨"DictionaryHouse$Checker", "<init>", "(LDictionaryHouse$TypeTable;LDictionaryHouse$ClassTable;LDictionaryHouse$Definitions;LDictionaryHouse$Typing;LDictionaryHouse$Plans;)V"⟩, prog_2_method_1_code, 6, none, []),
  (⟨"DictionaryHouse$Typing", "graph", "()LDictionaryHouse$Graph;"⟩, prog_12_method_2_code, 1, (some (.object "DictionaryHouse$Graph")), []),
  (⟨"DictionaryHouse$Conditions", "<init>", "(LDictionaryHouse$ClassTable;LDictionaryHouse$Definitions;LDictionaryHouse$Typing;)V"⟩, prog_4_method_1_code, 4, none, []),
  (⟨"DictionaryHouse$Machine", "<init>", "(LDictionaryHouse$ClassTable;LDictionaryHouse$Expressions;LDictionaryHouse$Definitions;LDictionaryHouse$Plans;)V"⟩, prog_9_method_1_code, 5, none, []),
  (⟨"DictionaryHouse$Heap", "<init>", "()V"⟩, prog_8_method_1_code, 1, none, []),
  (⟨"DictionaryHouseLaw", "list", "(LDictionaryHouse;I[J)I"⟩, method_3_code, 4, (some .int), [(0, 9, 12, 13), (0, 9, 15, 15)]),
  (⟨"DictionaryHouse", "list", "(I)I"⟩, prog_1_method_2_code, 2, (some .int), []),
  (⟨"DictionaryHouse$TypeTable", "has", "(I)Z"⟩, prog_11_method_2_code, 2, (some .boolean), []),
  (⟨"DictionaryHouse", "requireArgument", "(Z)V"⟩, prog_1_method_19_code, 1, none, []),
  (⟨"DictionaryHouse$TypeTable", "numberFor", "(II)I"⟩, prog_11_method_9_code, 4, (some .int), []),
  (⟨"DictionaryHouse", "numbered", "(I)I"⟩, prog_1_method_21_code, 1, (some .int), []),
  (⟨"DictionaryHouse", "requireState", "(Z)V"⟩, prog_1_method_20_code, 1, none, []),
  (⟨"DictionaryHouseLaw", "function", "(LDictionaryHouse;II[J)I"⟩, method_4_code, 5, (some .int), [(0, 10, 13, 13), (0, 10, 17, 15)]),
  (⟨"DictionaryHouse", "function", "(II)I"⟩, prog_1_method_3_code, 3, (some .int), []),
  (⟨"DictionaryHouseLaw", "type", "(LDictionaryHouse;I[J)I"⟩, method_5_code, 4, (some .int), [(0, 9, 12, 13), (0, 9, 15, 15)]),
  (⟨"DictionaryHouse", "type", "(I)I"⟩, prog_1_method_4_code, 2, (some .int), []),
  (⟨"DictionaryHouse$ClassTable", "has", "(I)Z"⟩, prog_3_method_3_code, 2, (some .boolean), []),
  (⟨"DictionaryHouse$ClassTable", "count", "()I"⟩, prog_3_method_2_code, 1, (some .int), []),
  (⟨"DictionaryHouse$ClassTable", "addClass", "(I)I"⟩, prog_3_method_7_code, 2, (some .int), []),
  (⟨"DictionaryHouseLaw", "method", "(LDictionaryHouse;II[J)I"⟩, method_6_code, 5, (some .int), [(0, 10, 13, 13), (0, 10, 17, 15)]),
  (⟨"DictionaryHouse", "method", "(II)I"⟩, prog_1_method_5_code, 3, (some .int), []),
  (⟨"DictionaryHouse$TypeTable", "hasOnlyTheFirstVariable", "(I)Z"⟩, prog_11_method_8_code, 2, (some .boolean), []),
  (⟨"DictionaryHouse$ClassTable", "methodsOf", "(I)I"⟩, prog_3_method_5_code, 2, (some .int), []),
  (⟨"DictionaryHouse$ClassTable", "hasAnyInstance", "(I)Z"⟩, prog_3_method_10_code, 2, (some .boolean), []),
  (⟨"DictionaryHouse$ClassTable", "hasInstance", "(II)Z"⟩, prog_3_method_9_code, 3, (some .boolean), []),
  (⟨"DictionaryHouse$ClassTable", "addMethod", "(II)I"⟩, prog_3_method_8_code, 3, (some .int), []),
  (⟨"DictionaryHouseLaw", "number", "(LDictionaryHouse;I[J)I"⟩, method_7_code, 4, (some .int), [(0, 9, 12, 15)]),
  (⟨"DictionaryHouse", "number", "(I)I"⟩, prog_1_method_6_code, 2, (some .int), []),
  (⟨"DictionaryHouse", "added", "(III)I"⟩, prog_1_method_22_code, 4, (some .int), []),
  (⟨"DictionaryHouse$Expressions", "hasRoomFor", "(III)Z"⟩, prog_6_method_7_code, 4, (some .boolean), []),
  (⟨"DictionaryHouse$Expressions", "placesFor", "(III)I"⟩, prog_6_method_9_code, 4, (some .int), []),
  (⟨"DictionaryHouse$Expressions", "add", "(III)I"⟩, prog_6_method_8_code, 4, (some .int), []),
  (⟨"DictionaryHouseLaw", "primitive", "(LDictionaryHouse;I[J)I"⟩, method_8_code, 4, (some .int), [(0, 9, 12, 13), (0, 9, 15, 15)]),
  (⟨"DictionaryHouse", "primitive", "(I)I"⟩, prog_1_method_7_code, 2, (some .int), []),
  (⟨"DictionaryHouseLaw", "local", "(LDictionaryHouse;I[J)I"⟩, method_9_code, 4, (some .int), [(0, 9, 12, 13), (0, 9, 15, 15)]),
  (⟨"DictionaryHouse", "local", "(I)I"⟩, prog_1_method_8_code, 2, (some .int), []),
  (⟨"DictionaryHouseLaw", "lambda", "(LDictionaryHouse;I[J)I"⟩, method_10_code, 4, (some .int), [(0, 9, 12, 13), (0, 9, 15, 15)]),
  (⟨"DictionaryHouse", "lambda", "(I)I"⟩, prog_1_method_9_code, 2, (some .int), []),
  (⟨"DictionaryHouse$Expressions", "has", "(I)Z"⟩, prog_6_method_2_code, 2, (some .boolean), []),
  (⟨"DictionaryHouseLaw", "apply", "(LDictionaryHouse;II[J)I"⟩, method_11_code, 5, (some .int), [(0, 10, 13, 13), (0, 10, 17, 15)])]
def pgM1 : List mvE := [(⟨"DictionaryHouse", "apply", "(II)I"⟩, prog_1_method_10_code, 3, (some .int), []),
  (⟨"DictionaryHouseLaw", "use", "(LDictionaryHouse;II[J)I"⟩, method_12_code, 5, (some .int), [(0, 10, 13, 13), (0, 10, 17, 15)]),
  (⟨"DictionaryHouse", "use", "(II)I"⟩, prog_1_method_11_code, 3, (some .int), []),
  (⟨"DictionaryHouse$ClassTable", "hasMethod", "(II)Z"⟩, prog_3_method_4_code, 3, (some .boolean), []),
  (⟨"DictionaryHouseLaw", "given", "(LDictionaryHouse;I[J)I"⟩, method_13_code, 4, (some .int), [(0, 9, 12, 13), (0, 9, 15, 15)]),
  (⟨"DictionaryHouse", "given", "(I)I"⟩, prog_1_method_12_code, 2, (some .int), []),
  (⟨"DictionaryHouse$Definitions", "has", "(I)Z"⟩, prog_5_method_3_code, 2, (some .boolean), []),
  (⟨"DictionaryHouseLaw", "instance", "(LDictionaryHouse;IIIIII[J)I"⟩, method_14_code, 9, (some .int), [(0, 18, 21, 13), (0, 18, 25, 15)]),
  (⟨"DictionaryHouse", "instance", "(IIIIII)I"⟩, prog_1_method_13_code, 10, (some .int), []),
  (⟨"DictionaryHouse$ClassTable", "agreesWithAbove", "(III)Z"⟩, prog_3_method_14_code, 6, (some .boolean), []),
  (⟨"DictionaryHouse$ClassTable", "reaches", "(II)Z"⟩, prog_3_method_13_code, 4, (some .boolean), []),
  (⟨"DictionaryHouse$ClassTable", "addInstance", "(III)V"⟩, prog_3_method_15_code, 4, none, []),
  (⟨"DictionaryHouse$ClassTable", "setBodies", "(IIIII)V"⟩, prog_3_method_16_code, 7, none, []),
  (⟨"DictionaryHouse$Checker", "wrongOfMethod", "(III)I"⟩, prog_2_method_3_code, 5, (some .int), []),
  (⟨"DictionaryHouse$ClassTable", "body", "(III)I"⟩, prog_3_method_12_code, 4, (some .int), []),
  (⟨"DictionaryHouse$Typing", "findTypes", "(I)Z"⟩, prog_12_method_9_code, 3, (some .boolean), []),
  (⟨"DictionaryHouse$Typing", "layOut", "(I)V"⟩, prog_12_method_11_code, 4, none, []),
  (⟨"DictionaryHouse$Expressions", "places", "(I)I"⟩, prog_6_method_6_code, 2, (some .int), []),
  (⟨"DictionaryHouse$Typing", "lay", "(III)V"⟩, prog_12_method_12_code, 4, none, []),
  (⟨"DictionaryHouse$Expressions", "kind", "(I)I"⟩, prog_6_method_3_code, 2, (some .int), []),
  (⟨"DictionaryHouse$Expressions", "first", "(I)I"⟩, prog_6_method_4_code, 2, (some .int), []),
  (⟨"DictionaryHouse$Typing", "placeOfOther", "(I)I"⟩, prog_12_method_13_code, 2, (some .int), []),
  (⟨"DictionaryHouse$Expressions", "second", "(I)I"⟩, prog_6_method_5_code, 2, (some .int), []),
  (⟨"DictionaryHouse$Graph", "clear", "()V"⟩, prog_7_method_2_code, 1, none, []),
  (⟨"DictionaryHouse$Graph", "add", "(III)I"⟩, prog_7_method_4_code, 4, (some .int), []),
  (⟨"DictionaryHouse$Graph", "hasRoomForType", "()Z"⟩, prog_7_method_3_code, 1, (some .boolean), []),
  (⟨"DictionaryHouse$Typing", "findTypeAt", "(I)Z"⟩, prog_12_method_14_code, 3, (some .boolean), []),
  (⟨"DictionaryHouse$Typing", "subjectAt", "(I)I"⟩, prog_12_method_5_code, 2, (some .int), []),
  (⟨"DictionaryHouse$Typing", "kindAt", "(I)I"⟩, prog_12_method_4_code, 2, (some .int), []),
  (⟨"DictionaryHouse$Graph", "join", "(II)Z"⟩, prog_7_method_10_code, 7, (some .boolean), []),
  (⟨"DictionaryHouse$Graph", "root", "(I)I"⟩, prog_7_method_6_code, 3, (some .int), []),
  (⟨"DictionaryHouse$Graph", "addParts", "(III)I"⟩, prog_7_method_11_code, 5, (some .int), []),
  (⟨"DictionaryHouse$Typing", "primitiveNode", "(I)I"⟩, prog_12_method_19_code, 5, (some .int), []),
  (⟨"DictionaryHouse$Typing", "arrow", "(II)I"⟩, prog_12_method_20_code, 3, (some .int), []),
  (⟨"DictionaryHouse$Typing", "joinLocal", "(II)Z"⟩, prog_12_method_15_code, 5, (some .boolean), []),
  (⟨"DictionaryHouse$ClassTable", "methodType", "(II)I"⟩, prog_3_method_6_code, 3, (some .int), []),
  (⟨"DictionaryHouse$Typing", "joinFilled", "(II)Z"⟩, prog_12_method_16_code, 4, (some .boolean), []),
  (⟨"DictionaryHouse$TypeTable", "variablesIn", "(I)I"⟩, prog_11_method_7_code, 2, (some .int), []),
  (⟨"java/lang/Integer", "bitCount", "(I)I"⟩, prog_20_method_49_code, 1, (some .int), []),
  (⟨"DictionaryHouse$Typing", "nodeFor", "(II)I"⟩, prog_12_method_17_code, 4, (some .int), []),
  (⟨"DictionaryHouse$Typing", "markWanted", "(I)V"⟩, prog_12_method_18_code, 3, none, []),
  (⟨"DictionaryHouse$TypeTable", "left", "(I)I"⟩, prog_11_method_4_code, 2, (some .int), []),
  (⟨"DictionaryHouse$TypeTable", "isList", "(I)Z"⟩, prog_11_method_3_code, 2, (some .boolean), []),
  (⟨"DictionaryHouse$TypeTable", "right", "(I)I"⟩, prog_11_method_5_code, 2, (some .int), []),
  (⟨"DictionaryHouse$Definitions", "typeOf", "(I)I"⟩, prog_5_method_5_code, 2, (some .int), []),
  (⟨"DictionaryHouse$Checker", "nodeForShape", "(I)I"⟩, prog_2_method_4_code, 2, (some .int), []),
  (⟨"DictionaryHouse$Typing", "canBe", "(II)Z"⟩, prog_12_method_10_code, 3, (some .boolean), []),
  (⟨"DictionaryHouse$Graph", "isEndless", "()Z"⟩, prog_7_method_12_code, 5, (some .boolean), []),
  (⟨"DictionaryHouse$Graph", "countUsers", "()I"⟩, prog_7_method_13_code, 3, (some .int), []),
  (⟨"java/util/Arrays", "fill", "([IIII)V"⟩, prog_29_method_104_code, 5, none, [])]
def pgM2 : List mvE := [(⟨"java/util/Arrays", "rangeCheck", "(III)V"⟩, prog_29_method_30_code, 3, none, []),
  (⟨"DictionaryHouse$Graph", "addUser", "(I)V"⟩, prog_7_method_14_code, 2, none, []),
  (⟨"DictionaryHouse$Graph", "release", "(II)I"⟩, prog_7_method_15_code, 4, (some .int), []),
  (⟨"DictionaryHouse$Graph", "forgetVariables", "()V"⟩, prog_7_method_19_code, 1, none, []),
  (⟨"DictionaryHouse$ClassTable", "contextOfLists", "(I)I"⟩, prog_3_method_11_code, 2, (some .int), []),
  (⟨"DictionaryHouse$Conditions", "wrongWith", "(I)I"⟩, prog_4_method_2_code, 3, (some .int), []),
  (⟨"DictionaryHouse$Graph", "count", "()I"⟩, prog_7_method_5_code, 1, (some .int), []),
  (⟨"DictionaryHouse$Typing", "places", "()I"⟩, prog_12_method_3_code, 1, (some .int), []),
  (⟨"DictionaryHouse$Conditions", "followThoseAt", "(I)V"⟩, prog_4_method_4_code, 5, none, []),
  (⟨"DictionaryHouse$Typing", "fillingAt", "(II)I"⟩, prog_12_method_6_code, 3, (some .int), []),
  (⟨"DictionaryHouse$Conditions", "follow", "(II)V"⟩, prog_4_method_5_code, 6, none, []),
  (⟨"DictionaryHouse$Graph", "kind", "(I)I"⟩, prog_7_method_7_code, 2, (some .int), []),
  (⟨"DictionaryHouse$Graph", "left", "(I)I"⟩, prog_7_method_8_code, 2, (some .int), []),
  (⟨"DictionaryHouse$Conditions", "judge", "(II)V"⟩, prog_4_method_6_code, 3, none, []),
  (⟨"DictionaryHouse$Graph", "variableNumber", "(I)I"⟩, prog_7_method_18_code, 2, (some .int), []),
  (⟨"DictionaryHouse$Definitions", "conditionsOf", "(I)I"⟩, prog_5_method_6_code, 2, (some .int), []),
  (⟨"DictionaryHouse$Definitions", "variableOfCondition", "(II)I"⟩, prog_5_method_9_code, 3, (some .int), []),
  (⟨"DictionaryHouse$Definitions", "condition", "(II)I"⟩, prog_5_method_7_code, 3, (some .int), []),
  (⟨"DictionaryHouse$Definitions", "classOfCondition", "(II)I"⟩, prog_5_method_8_code, 3, (some .int), []),
  (⟨"DictionaryHouse$Plans", "ofMethod", "(III)I"⟩, prog_10_method_3_code, 3, (some .int), []),
  (⟨"DictionaryHouse$Plans", "write", "(ILDictionaryHouse$Typing;)V"⟩, prog_10_method_6_code, 7, none, []),
  (⟨"DictionaryHouse$Typing", "fillingsAt", "(I)I"⟩, prog_12_method_7_code, 2, (some .int), []),
  (⟨"DictionaryHouse$Plans", "planFor", "(LDictionaryHouse$Graph;I)I"⟩, prog_10_method_8_code, 4, (some .int), []),
  (⟨"DictionaryHouse$Plans", "planForInnermost", "(II)I"⟩, prog_10_method_9_code, 2, (some .int), []),
  (⟨"DictionaryHouse$ClassTable", "removeInstance", "(II)V"⟩, prog_3_method_17_code, 3, none, []),
  (⟨"DictionaryHouseLaw", "define", "(LDictionaryHouse;I[J)I"⟩, method_15_code, 4, (some .int), [(0, 9, 12, 13), (0, 9, 15, 15)]),
  (⟨"DictionaryHouse", "define", "(I)I"⟩, prog_1_method_14_code, 2, (some .int), []),
  (⟨"DictionaryHouse$Definitions", "count", "()I"⟩, prog_5_method_2_code, 1, (some .int), []),
  (⟨"DictionaryHouse$Checker", "newDefinition", "(I)I"⟩, prog_2_method_2_code, 6, (some .int), []),
  (⟨"DictionaryHouse$Typing", "typeOfWhole", "()I"⟩, prog_12_method_8_code, 1, (some .int), []),
  (⟨"DictionaryHouse$Graph", "numberVariablesOf", "(I)V"⟩, prog_7_method_20_code, 5, none, []),
  (⟨"DictionaryHouse$Graph", "see", "(II)I"⟩, prog_7_method_21_code, 4, (some .int), []),
  (⟨"DictionaryHouse$Checker", "gatherRemaining", "()I"⟩, prog_2_method_5_code, 4, (some .int), []),
  (⟨"DictionaryHouse$Graph", "variableCount", "()I"⟩, prog_7_method_16_code, 1, (some .int), []),
  (⟨"DictionaryHouse$Graph", "variable", "(I)I"⟩, prog_7_method_17_code, 2, (some .int), []),
  (⟨"DictionaryHouse$Conditions", "remains", "(II)Z"⟩, prog_4_method_3_code, 5, (some .boolean), []),
  (⟨"DictionaryHouse$Checker", "numberedTypeOfWhole", "()I"⟩, prog_2_method_6_code, 3, (some .int), []),
  (⟨"DictionaryHouse$TypeTable", "count", "()I"⟩, prog_11_method_6_code, 1, (some .int), []),
  (⟨"DictionaryHouse$Checker", "numberedType", "(II)I"⟩, prog_2_method_7_code, 6, (some .int), []),
  (⟨"DictionaryHouse$Graph", "right", "(I)I"⟩, prog_7_method_9_code, 2, (some .int), []),
  (⟨"DictionaryHouse$TypeTable", "cutTo", "(I)V"⟩, prog_11_method_10_code, 2, none, []),
  (⟨"DictionaryHouse$Definitions", "add", "(II[II)I"⟩, prog_5_method_10_code, 5, (some .int), []),
  (⟨"DictionaryHouse$Plans", "ofDefinition", "(I)I"⟩, prog_10_method_2_code, 1, (some .int), []),
  (⟨"DictionaryHouseLaw", "scheme", "(LDictionaryHouse;II[J)I"⟩, method_16_code, 5, (some .int), [(0, 10, 13, 13)]),
  (⟨"DictionaryHouse", "scheme", "(II)I"⟩, prog_1_method_15_code, 3, (some .int), []),
  (⟨"DictionaryHouseLaw", "is", "(LDictionaryHouse;II[J)I"⟩, method_17_code, 5, (some .int), [(0, 17, 20, 13)]),
  (⟨"DictionaryHouse", "is", "(II)Z"⟩, prog_1_method_16_code, 3, (some .boolean), []),
  (⟨"DictionaryHouse", "isMember", "(II)Z"⟩, prog_1_method_23_code, 5, (some .boolean), []),
  (⟨"DictionaryHouseLaw", "run", "(LDictionaryHouse;II[J)I"⟩, method_18_code, 5, (some .int), [(0, 10, 13, 13), (0, 10, 17, 15)]),
  (⟨"DictionaryHouse", "run", "(II)I"⟩, prog_1_method_17_code, 3, (some .int), [])]
def pgM3 : List mvE := [(⟨"DictionaryHouse", "canBeShown", "(I)Z"⟩, prog_1_method_24_code, 3, (some .boolean), []),
  (⟨"DictionaryHouse$Machine", "perform", "(II)I"⟩, prog_9_method_4_code, 4, (some .int), []),
  (⟨"DictionaryHouse$Heap", "clear", "()V"⟩, prog_8_method_2_code, 1, none, []),
  (⟨"DictionaryHouse$Definitions", "expressionOf", "(I)I"⟩, prog_5_method_4_code, 2, (some .int), []),
  (⟨"DictionaryHouse$Heap", "newFrame", "()I"⟩, prog_8_method_5_code, 2, (some .int), []),
  (⟨"DictionaryHouse$Machine", "enter", "(III)V"⟩, prog_9_method_8_code, 4, none, []),
  (⟨"DictionaryHouse$Machine", "isGoing", "()Z"⟩, prog_9_method_5_code, 1, (some .boolean), []),
  (⟨"DictionaryHouse$Heap", "hasRoom", "()Z"⟩, prog_8_method_3_code, 1, (some .boolean), []),
  (⟨"DictionaryHouse$Machine", "evaluate", "()V"⟩, prog_9_method_11_code, 4, none, []),
  (⟨"DictionaryHouse$Machine", "takeStep", "()Z"⟩, prog_9_method_7_code, 1, (some .boolean), []),
  (⟨"DictionaryHouse$Heap", "newNumber", "(I)I"⟩, prog_8_method_8_code, 2, (some .int), []),
  (⟨"DictionaryHouse$Heap", "newCell", "(IIIII)I"⟩, prog_8_method_7_code, 7, (some .int), []),
  (⟨"DictionaryHouse$Machine", "yieldValue", "(I)V"⟩, prog_9_method_9_code, 2, none, []),
  (⟨"DictionaryHouse$Machine", "primitiveCell", "(I)I"⟩, prog_9_method_12_code, 2, (some .int), []),
  (⟨"DictionaryHouse$Heap", "elementOf", "(II)I"⟩, prog_8_method_14_code, 5, (some .int), []),
  (⟨"DictionaryHouse$Heap", "field", "(II)I"⟩, prog_8_method_11_code, 3, (some .int), []),
  (⟨"DictionaryHouse$Machine", "letWait", "(IIIII)V"⟩, prog_9_method_10_code, 7, none, []),
  (⟨"DictionaryHouse$Machine", "enterMethod", "(II)V"⟩, prog_9_method_13_code, 6, none, []),
  (⟨"DictionaryHouse$Heap", "frames", "()[I"⟩, prog_8_method_4_code, 1, (some (.array .int)), []),
  (⟨"DictionaryHouse$Plans", "actual", "(II[II)I"⟩, prog_10_method_7_code, 8, (some .int), []),
  (⟨"DictionaryHouse$Plans", "shapeOf", "(I)I"⟩, prog_10_method_4_code, 1, (some .int), []),
  (⟨"DictionaryHouse$Plans", "ofWhatListIs", "(I)I"⟩, prog_10_method_5_code, 1, (some .int), []),
  (⟨"DictionaryHouse$Heap", "setInFrame", "(III)V"⟩, prog_8_method_6_code, 4, none, []),
  (⟨"DictionaryHouse$Machine", "enterDefinition", "(I)V"⟩, prog_9_method_14_code, 4, none, []),
  (⟨"DictionaryHouse$Machine", "goOn", "()V"⟩, prog_9_method_15_code, 3, none, []),
  (⟨"DictionaryHouse$Machine", "call", "(II)V"⟩, prog_9_method_16_code, 5, none, []),
  (⟨"DictionaryHouse$Heap", "kind", "(I)I"⟩, prog_8_method_10_code, 2, (some .int), []),
  (⟨"DictionaryHouse$Machine", "finish", "(IIII)V"⟩, prog_9_method_17_code, 5, none, []),
  (⟨"DictionaryHouse$Heap", "numberIn", "(I)I"⟩, prog_8_method_12_code, 2, (some .int), []),
  (⟨"DictionaryHouse$Heap", "newPair", "(II)I"⟩, prog_8_method_9_code, 3, (some .int), []),
  (⟨"DictionaryHouse$Heap", "lengthOf", "(I)I"⟩, prog_8_method_13_code, 2, (some .int), []),
  (⟨"DictionaryHouse$Machine", "fold", "(IIII)V"⟩, prog_9_method_18_code, 5, none, []),
  (⟨"DictionaryHouse$Machine", "keepResult", "()V"⟩, prog_9_method_6_code, 2, none, []),
  (⟨"DictionaryHouseLaw", "value", "(LDictionaryHouse;I[J)I"⟩, method_19_code, 4, (some .int), [(0, 9, 12, 13)]),
  (⟨"DictionaryHouse", "value", "(I)I"⟩, prog_1_method_18_code, 2, (some .int), []),
  (⟨"DictionaryHouse$Machine", "hasResult", "(I)Z"⟩, prog_9_method_2_code, 2, (some .boolean), []),
  (⟨"DictionaryHouse$Machine", "result", "(I)I"⟩, prog_9_method_3_code, 2, (some .int), []),
  (⟨"DictionaryHouseModel", "<init>", "()V"⟩, prog_14_method_1_code, 2, none, []),
  (⟨"DictionaryHouseModel", "thrown", "()I"⟩, prog_14_method_2_code, 1, (some .int), []),
  (⟨"DictionaryHouseModel", "list", "(I)I"⟩, prog_14_method_6_code, 3, (some .int), []),
  (⟨"DictionaryHouseModel", "isType", "(I)Z"⟩, prog_14_method_3_code, 2, (some .boolean), []),
  (⟨"DictionaryHouseModel", "intern", "(III)I"⟩, prog_14_method_5_code, 5, (some .int), []),
  (⟨"DictionaryHouseModel", "find", "(III)I"⟩, prog_14_method_4_code, 5, (some .int), []),
  (⟨"DictionaryHouseModel", "function", "(II)I"⟩, prog_14_method_7_code, 4, (some .int), []),
  (⟨"DictionaryHouseModel", "type", "(I)I"⟩, prog_14_method_9_code, 2, (some .int), []),
  (⟨"DictionaryHouseModel", "isClass", "(I)Z"⟩, prog_14_method_8_code, 2, (some .boolean), []),
  (⟨"DictionaryHouseModel", "method", "(II)I"⟩, prog_14_method_12_code, 4, (some .int), []),
  (⟨"DictionaryHouseModel", "variablesOf", "(I)I"⟩, prog_14_method_10_code, 3, (some .int), []),
  (⟨"DictionaryHouseModel", "hasInstance", "(I)Z"⟩, prog_14_method_11_code, 2, (some .boolean), []),
  (⟨"DictionaryHouseModel", "is", "(II)Z"⟩, prog_14_method_14_code, 6, (some .boolean), [])]
def pgM4 : List mvE := [(⟨"DictionaryHouseModel", "number", "(I)I"⟩, prog_14_method_18_code, 2, (some .int), []),
  (⟨"DictionaryHouseModel", "add", "(IIII)I"⟩, prog_14_method_16_code, 5, (some .int), []),
  (⟨"DictionaryHouseModel", "primitive", "(I)I"⟩, prog_14_method_19_code, 2, (some .int), []),
  (⟨"DictionaryHouseModel", "make", "(ZIIII)I"⟩, prog_14_method_17_code, 6, (some .int), []),
  (⟨"DictionaryHouseModel", "local", "(I)I"⟩, prog_14_method_20_code, 2, (some .int), []),
  (⟨"DictionaryHouseModel", "lambda", "(I)I"⟩, prog_14_method_21_code, 3, (some .int), []),
  (⟨"DictionaryHouseModel", "isExpression", "(I)Z"⟩, prog_14_method_15_code, 2, (some .boolean), []),
  (⟨"DictionaryHouseModel", "apply", "(II)I"⟩, prog_14_method_22_code, 4, (some .int), []),
  (⟨"DictionaryHouseModel", "use", "(II)I"⟩, prog_14_method_23_code, 3, (some .int), []),
  (⟨"DictionaryHouseModel", "given", "(I)I"⟩, prog_14_method_24_code, 2, (some .int), []),
  (⟨"DictionaryHouseModel", "define", "(I)I"⟩, prog_14_method_49_code, 8, (some .int), []),
  (⟨"DictionaryHouseModel", "typeAll", "(I)Z"⟩, prog_14_method_39_code, 3, (some .boolean), []),
  (⟨"DictionaryHouseModel", "layOut", "(I)V"⟩, prog_14_method_33_code, 5, none, []),
  (⟨"DictionaryHouseModel", "variable", "()I"⟩, prog_14_method_26_code, 1, (some .int), []),
  (⟨"DictionaryHouseModel", "node", "(III)I"⟩, prog_14_method_25_code, 4, (some .int), []),
  (⟨"DictionaryHouseModel", "typePlace", "(I)Z"⟩, prog_14_method_38_code, 5, (some .boolean), []),
  (⟨"DictionaryHouseModel", "unify", "(II)Z"⟩, prog_14_method_31_code, 6, (some .boolean), []),
  (⟨"DictionaryHouseModel", "root", "(I)I"⟩, prog_14_method_28_code, 3, (some .int), []),
  (⟨"DictionaryHouseModel", "primitiveNode", "(I)I"⟩, prog_14_method_30_code, 7, (some .int), []),
  (⟨"DictionaryHouseModel", "arrow", "(II)I"⟩, prog_14_method_27_code, 3, (some .int), []),
  (⟨"DictionaryHouseModel", "localNode", "(II)I"⟩, prog_14_method_37_code, 5, (some .int), []),
  (⟨"DictionaryHouseModel", "useNode", "(III)I"⟩, prog_14_method_35_code, 6, (some .int), []),
  (⟨"DictionaryHouseModel", "want", "(II)V"⟩, prog_14_method_34_code, 3, none, []),
  (⟨"DictionaryHouseModel", "copy", "(I)I"⟩, prog_14_method_29_code, 3, (some .int), []),
  (⟨"DictionaryHouseModel", "givenNode", "(II)I"⟩, prog_14_method_36_code, 4, (some .int), []),
  (⟨"DictionaryHouseModel", "isEndless", "()Z"⟩, prog_14_method_32_code, 5, (some .boolean), []),
  (⟨"DictionaryHouseModel", "findVariables", "(I)V"⟩, prog_14_method_40_code, 4, none, []),
  (⟨"DictionaryHouseModel", "followAll", "()V"⟩, prog_14_method_43_code, 2, none, []),
  (⟨"DictionaryHouseModel", "follow", "(II)V"⟩, prog_14_method_42_code, 8, none, []),
  (⟨"DictionaryHouseModel", "implies", "(II)Z"⟩, prog_14_method_13_code, 4, (some .boolean), []),
  (⟨"DictionaryHouseModel", "indexOf", "(I)I"⟩, prog_14_method_41_code, 3, (some .int), []),
  (⟨"DictionaryHouseModel", "lowest", "(I)I"⟩, prog_14_method_44_code, 6, (some .int), []),
  (⟨"DictionaryHouseModel", "count", "(I)I"⟩, prog_14_method_45_code, 3, (some .int), []),
  (⟨"DictionaryHouseModel", "typeOf", "(I)I"⟩, prog_14_method_46_code, 7, (some .int), []),
  (⟨"DictionaryHouseModel", "keep", "(I)V"⟩, prog_14_method_48_code, 4, none, []),
  (⟨"DictionaryHouseModel", "termOf", "(I)I"⟩, prog_14_method_47_code, 6, (some .int), []),
  (⟨"DictionaryHouseModel", "scheme", "(II)I"⟩, prog_14_method_50_code, 4, (some .int), []),
  (⟨"DictionaryHouseModel", "instance", "(IIIIII)I"⟩, prog_14_method_54_code, 13, (some .int), []),
  (⟨"DictionaryHouseModel", "hasAbove", "(III)Z"⟩, prog_14_method_52_code, 6, (some .boolean), []),
  (⟨"DictionaryHouseModel", "checkMethod", "(IIII)I"⟩, prog_14_method_53_code, 8, (some .int), []),
  (⟨"DictionaryHouseModel", "unitOf", "(III)I"⟩, prog_14_method_51_code, 3, (some .int), []),
  (⟨"DictionaryHouseModel", "run", "(II)I"⟩, prog_14_method_66_code, 5, (some .int), []),
  (⟨"DictionaryHouseModel", "isPlain", "(I)Z"⟩, prog_14_method_65_code, 2, (some .boolean), []),
  (⟨"DictionaryHouseModel", "push", "(IIIIII)V"⟩, prog_14_method_55_code, 7, none, []),
  (⟨"DictionaryHouseModel", "work", "()V"⟩, prog_14_method_64_code, 7, none, []),
  (⟨"DictionaryHouseModel", "evaluate", "(IIIII)V"⟩, prog_14_method_59_code, 9, none, []),
  (⟨"DictionaryHouseModel", "step", "()Z"⟩, prog_14_method_57_code, 1, (some .boolean), []),
  (⟨"DictionaryHouseModel", "cell", "(IIIIII)I"⟩, prog_14_method_56_code, 7, (some .int), []),
  (⟨"DictionaryHouseModel", "resolve", "(II)V"⟩, prog_14_method_58_code, 5, none, []),
  (⟨"DictionaryHouseModel", "enter", "(II)V"⟩, prog_14_method_60_code, 3, none, [])]
def pgM5 : List mvE := [(⟨"DictionaryHouseModel", "call", "(II)V"⟩, prog_14_method_62_code, 7, none, []),
  (⟨"DictionaryHouseModel", "arity", "(I)I"⟩, prog_14_method_61_code, 1, (some .int), []),
  (⟨"DictionaryHouseModel", "fold", "(III)V"⟩, prog_14_method_63_code, 6, none, []),
  (⟨"DictionaryHouseModel", "value", "(I)I"⟩, prog_14_method_67_code, 2, (some .int), [])]
def pgM : List mvE := pgM0 ++ (pgM1 ++ (pgM2 ++ (pgM3 ++ (pgM4 ++ (pgM5)))))
def pgK : List (Nat × Bool) := [(13, false), (11, true), (9, true), (1, true), (14, false), (4, true), (3, true), (8, true), (10, true), (5, true), (0, true), (10, false), (2, true), (7, true), (6, true), (13, false), (11, false), (9, false), (11, false), (9, false), (11, false), (11, false), (13, false), (11, false), (13, false), (11, false), (1, false), (1, false), (1, false), (13, false), (11, false), (9, false), (1, false), (1, false), (1, false), (1, false), (13, false), (11, false), (11, false), (4, false), (4, false), (4, false), (13, false), (11, false), (13, false), (11, false), (13, false), (11, false), (4, false), (13, false), (11, false), (13, false), (11, false), (1, false), (13, false), (11, false), (3, false), (13, false), (11, false), (1, false), (1, false), (1, false), (1, false), (0, false), (1, false), (10, false), (10, false), (4, false), (10, false), (4, false), (4, false), (10, false), (4, false), (5, false), (5, false), (5, false), (10, false), (10, false), (10, false), (5, false), (5, false), (5, false), (10, false), (10, false), (10, false), (1, false), (10, false), (9, false), (15, false), (10, false), (10, false), (9, false), (9, false), (9, false), (3, false), (0, false), (10, false), (5, false), (5, false), (14, false), (14, false), (5, false), (5, false), (5, false), (1, false), (2, false), (5, false), (10, false), (2, false), (10, false), (2, false), (5, false), (5, false), (2, false), (5, false), (3, false), (3, false), (3, false), (3, false), (8, false), (8, false), (10, false), (8, false), (8, false), (1, false), (13, false), (11, false), (3, false), (0, false), (10, false), (5, false), (5, false), (0, false), (5, false), (5, false), (2, false), (0, false), (9, false), (0, false), (5, false), (9, false), (3, false), (8, false), (13, false), (11, false), (13, false), (11, false), (11, false), (13, false), (11, false), (11, false), (7, false), (6, false), (3, false), (6, false), (7, false), (7, false), (6, false), (7, false), (7, false), (6, false), (6, false), (7, false), (7, false), (6, false), (6, false), (7, false), (7, false), (6, false), (8, false), (8, false), (8, false), (6, false), (7, false), (7, false), (7, false), (6, false), (7, false), (6, false), (6, false), (6, false), (7, false), (7, false), (13, false), (11, false), (7, false), (7, false), (12, true), (12, false), (12, false), (12, false), (12, false), (12, false), (12, false), (12, false), (12, false), (12, false), (12, false), (12, false), (12, false), (12, false), (12, false), (12, false), (12, false), (12, false), (12, false), (12, false), (12, false), (12, false), (12, false), (12, false), (12, false), (12, false), (12, false), (12, false), (12, false), (12, false), (12, false), (12, false), (12, false), (12, false), (12, false), (12, false), (12, false), (12, false), (12, false), (12, false), (12, false), (12, false), (12, false), (12, false), (12, false), (12, false), (12, false), (12, false), (12, false), (12, false), (12, false), (12, false), (12, false), (12, false), (12, false), (12, false), (12, false), (12, false), (12, false), (12, false), (12, false), (12, false), (12, false), (12, false), (12, false), (12, false), (12, false)]
def pgWs : List (Nat × Nat × Nat × Nat) := [(0, 0, 0, 0), (120, 87, 119, 0), (128, 88, 127, 0), (148, 89, 147, 0), (152, 90, 151, 0), (180, 91, 179, 0), (202, 92, 201, 0), (224, 93, 223, 0), (235, 94, 234, 0), (241, 95, 240, 0), (321, 96, 320, 0), (326, 94, 324, 325), (331, 97, 330, 0), (394, 98, 393, 0), (400, 99, 399, 0), (488, 86, 487, 0), (494, 87, 492, 493), (498, 88, 496, 497), (501, 87, 500, 0), (568, 88, 566, 567), (571, 87, 570, 0), (574, 87, 573, 0), (592, 86, 591, 0), (596, 87, 594, 595), (599, 86, 598, 0), (603, 87, 601, 602), (607, 89, 605, 606), (611, 89, 609, 610), (615, 89, 613, 614), (618, 86, 617, 0), (622, 87, 620, 621), (626, 88, 624, 625), (630, 89, 628, 629), (634, 89, 632, 633), (638, 89, 636, 637), (642, 89, 640, 641), (645, 86, 644, 0), (649, 87, 647, 648), (653, 87, 652, 1), (657, 91, 655, 656), (661, 91, 660, 2), (665, 91, 663, 664), (668, 86, 667, 0), (672, 87, 670, 671), (677, 86, 676, 0), (681, 87, 679, 680), (684, 86, 683, 0), (688, 87, 686, 687), (692, 91, 690, 691), (695, 86, 694, 0), (699, 87, 697, 698), (702, 86, 701, 0), (706, 87, 704, 705), (710, 89, 708, 709), (714, 86, 713, 0), (718, 87, 716, 717), (722, 92, 720, 721), (725, 86, 724, 0), (729, 87, 727, 728), (734, 89, 732, 733), (738, 89, 736, 737), (742, 89, 740, 741), (746, 89, 744, 745), (750, 96, 748, 749), (754, 89, 752, 753), (758, 94, 756, 757), (762, 94, 761, 3), (766, 91, 764, 765), (770, 94, 769, 4), (774, 91, 772, 773), (778, 91, 776, 777), (782, 94, 781, 5), (786, 91, 784, 785), (790, 95, 788, 789), (794, 95, 792, 793), (799, 95, 797, 798), (803, 94, 802, 6), (807, 94, 805, 806), (811, 94, 809, 810), (815, 95, 813, 814), (819, 95, 817, 818), (823, 95, 822, 7), (827, 94, 826, 8), (831, 94, 830, 9), (835, 94, 834, 10), (839, 89, 837, 838), (843, 94, 842, 11), (847, 88, 845, 846), (850, 106, 849, 0), (857, 94, 856, 12), (861, 94, 860, 13), (865, 88, 863, 864), (869, 88, 867, 868), (873, 88, 871, 872), (877, 92, 875, 876), (882, 96, 881, 14), (887, 94, 885, 886), (891, 95, 889, 890), (895, 95, 894, 15), (898, 90, 897, 0), (901, 90, 900, 0), (1159, 95, 1158, 16), (1163, 95, 1162, 17), (1167, 95, 1165, 1166), (1171, 89, 1169, 1170), (1175, 97, 1173, 1174), (1179, 95, 1177, 1178), (1184, 94, 1182, 1183), (1188, 97, 1187, 18), (1194, 94, 1192, 1193), (1198, 97, 1197, 19), (1203, 95, 1201, 1202), (1208, 95, 1206, 1207), (1212, 97, 1211, 20), (1218, 95, 1216, 1217), (1223, 92, 1221, 1222), (1227, 92, 1225, 1226), (1231, 92, 1229, 1230), (1235, 92, 1233, 1234), (1238, 93, 1237, 0), (1242, 93, 1240, 1241), (1247, 94, 1245, 1246), (1253, 93, 1252, 0), (1260, 93, 1259, 0), (1264, 89, 1262, 1263), (1267, 86, 1266, 0), (1271, 87, 1269, 1270), (1275, 92, 1273, 1274), (1279, 96, 1277, 1278), (1283, 94, 1281, 1282), (1287, 95, 1285, 1286), (1292, 95, 1291, 21), (1296, 96, 1295, 22), (1300, 95, 1298, 1299), (1305, 95, 1303, 1304), (1309, 97, 1307, 1308), (1313, 96, 1312, 23), (1317, 88, 1315, 1316), (1324, 96, 1323, 24), (1331, 95, 1329, 1330), (1336, 88, 1334, 1335), (1340, 92, 1338, 1339), (1344, 93, 1343, 0), (1347, 86, 1346, 0), (1351, 87, 1349, 1350), (1357, 86, 1356, 0), (1361, 87, 1359, 1360), (1365, 87, 1364, 25), (1371, 86, 1370, 0), (1375, 87, 1373, 1374), (1379, 87, 1378, 26), (1383, 98, 1381, 1382), (1387, 99, 1385, 1386), (1391, 92, 1389, 1390), (1396, 99, 1394, 1395), (1401, 98, 1400, 27), (1405, 98, 1404, 28), (1409, 99, 1407, 1408), (1413, 98, 1412, 29), (1417, 98, 1416, 30), (1423, 99, 1421, 1422), (1427, 99, 1425, 1426), (1431, 98, 1430, 31), (1435, 98, 1434, 32), (1440, 99, 1438, 1439), (1444, 99, 1442, 1443), (1450, 98, 1449, 33), (1454, 98, 1453, 34), (1458, 99, 1456, 1457), (1462, 93, 1460, 1461), (1465, 93, 1464, 0), (1469, 93, 1468, 0), (1473, 99, 1471, 1472), (1479, 98, 1478, 35), (1483, 98, 1482, 36), (1487, 98, 1486, 37), (1491, 99, 1489, 1490), (1497, 98, 1496, 38), (1501, 99, 1499, 1500), (1505, 99, 1503, 1504), (1509, 99, 1507, 1508), (1515, 98, 1514, 39), (1519, 98, 1518, 40), (1523, 86, 1522, 0), (1527, 87, 1525, 1526), (1531, 98, 1529, 1530), (1535, 98, 1533, 1534), (1540, 100, 1539, 0), (1791, 100, 1789, 1790), (1795, 100, 1793, 1794), (1799, 100, 1798, 41), (1803, 100, 1802, 42), (1807, 100, 1806, 43), (1811, 100, 1809, 1810), (1815, 100, 1813, 1814), (1819, 100, 1818, 44), (1823, 100, 1821, 1822), (1827, 100, 1826, 45), (1831, 100, 1830, 46), (1835, 100, 1833, 1834), (1839, 100, 1837, 1838), (1843, 100, 1842, 47), (1847, 100, 1845, 1846), (1851, 100, 1850, 48), (1855, 100, 1853, 1854), (1859, 100, 1857, 1858), (1863, 100, 1862, 49), (1867, 100, 1865, 1866), (1871, 100, 1869, 1870), (1875, 100, 1873, 1874), (1879, 100, 1877, 1878), (1883, 100, 1882, 50), (1887, 100, 1886, 51), (1891, 100, 1890, 52), (1895, 100, 1894, 53), (1899, 100, 1898, 54), (1903, 100, 1902, 55), (1907, 100, 1906, 56), (1911, 100, 1910, 57), (1915, 100, 1914, 58), (1919, 100, 1918, 59), (1923, 100, 1922, 60), (1927, 100, 1926, 61), (1931, 100, 1930, 62), (1935, 100, 1934, 63), (1939, 100, 1938, 64), (1943, 100, 1942, 65), (1947, 100, 1946, 66), (1951, 100, 1950, 67), (1955, 100, 1954, 68), (1959, 100, 1958, 69), (1963, 100, 1962, 70), (1966, 100, 1965, 0), (1970, 100, 1969, 71), (1974, 100, 1973, 72), (1978, 100, 1977, 73), (1982, 100, 1980, 1981), (1986, 100, 1984, 1985), (1990, 100, 1989, 74), (1994, 100, 1993, 75), (1997, 100, 1996, 0), (2001, 100, 1999, 2000), (2005, 100, 2004, 76), (2009, 100, 2008, 77), (2013, 100, 2012, 78), (2017, 100, 2016, 79), (2021, 100, 2020, 80), (2025, 100, 2024, 81), (2029, 100, 2028, 82), (2033, 100, 2032, 83), (2037, 100, 2036, 84), (2040, 100, 2039, 0), (2044, 100, 2043, 85), (2048, 100, 2046, 2047)]
def pgPc : List Nat := [1, 0, 0, 0, 2, 0, 0, 0, 4, 0, 5, 0, 3, 4, 0, 3, 1, 1, 1, 2, 1, 1, 4, 2, 3, 1, 1, 0, 1, 4, 2, 1, 1, 1, 2, 2, 3, 1, 3, 3, 3, 3, 3, 1, 3, 1, 3, 1, 1, 4, 2, 4, 2, 2, 3, 1, 1, 8, 6, 3, 2, 3, 5, 3, 3, 1, 1, 1, 3, 1, 1, 1, 1, 0, 3, 0, 1, 1, 1, 2, 1, 3, 1, 2, 2, 2, 2, 1, 1, 2, 1, 1, 1, 1, 1, 1, 2, 0, 0, 4, 3, 1, 2, 0, 1, 1, 0, 0, 1, 2, 2, 1, 1, 2, 1, 1, 2, 2, 2, 3, 2, 1, 2, 2, 2, 3, 1, 0, 1, 0, 1, 2, 0, 0, 1, 2, 0, 0, 2, 1, 1, 4, 1, 4, 2, 4, 2, 2, 4, 2, 1, 2, 0, 1, 0, 3, 0, 0, 0, 0, 1, 5, 1, 1, 2, 2, 5, 2, 0, 4, 1, 1, 3, 1, 0, 2, 1, 4, 1, 2, 1, 4, 0, 3, 1, 1, 1, 0, 0, 1, 1, 3, 3, 2, 1, 1, 2, 1, 1, 2, 1, 4, 1, 5, 1, 1, 1, 2, 2, 1, 1, 1, 1, 0, 3, 1, 2, 1, 1, 2, 2, 3, 2, 1, 2, 0, 1, 0, 2, 2, 1, 1, 1, 1, 1, 1, 2, 6, 3, 4, 3, 2, 1, 6, 0, 5, 0, 6, 2, 2, 2, 1, 3, 1]
def pgFs : List (List (Nat × Nat × Nat × Nat × Nat)) := [[(20, 0, 0, 2, 362), (24, 0, 1, 2, 363), (28, 0, 2, 2, 364), (32, 0, 3, 2, 365), (36, 0, 4, 2, 366), (46, 0, 5, 2, 367), (54, 0, 6, 2, 368), (9, 0, 7, 2, 369), (17, 0, 8, 2, 370)],
  [(9, 1, 0, 2, 153), (15, 1, 1, 2, 154), (18, 1, 2, 2, 155), (21, 1, 3, 2, 156), (25, 1, 4, 2, 157), (28, 1, 5, 2, 158), (37, 1, 6, 0, 159)],
  [(17, 2, 0, 2, 334), (21, 2, 1, 2, 335), (25, 2, 2, 2, 336), (35, 2, 3, 2, 337), (11, 2, 4, 2, 338), (48, 2, 5, 0, 339), (52, 2, 6, 1, 340), (56, 2, 7, 1, 341), (59, 2, 8, 1, 342)],
  [(9, 3, 0, 2, 204), (15, 3, 1, 2, 205), (18, 3, 2, 2, 206), (21, 3, 3, 2, 207), (24, 3, 4, 0, 208)],
  [(9, 4, 0, 2, 182), (15, 4, 1, 2, 183), (18, 4, 2, 2, 184), (21, 4, 3, 2, 185), (24, 4, 4, 0, 186)],
  [(11, 5, 0, 2, 243), (15, 5, 1, 2, 244), (18, 5, 2, 2, 245), (21, 5, 3, 2, 246), (24, 5, 4, 2, 247), (27, 5, 5, 2, 248), (30, 5, 6, 2, 249), (33, 5, 7, 2, 250), (36, 5, 8, 0, 251), (69, 5, 9, 0, 252)],
  [(11, 6, 0, 2, 402), (15, 6, 1, 2, 403), (18, 6, 2, 0, 404), (22, 6, 3, 0, 405)],
  [(29, 7, 0, 2, 415), (33, 7, 1, 2, 416), (37, 7, 2, 2, 417), (41, 7, 3, 2, 418), (12, 7, 4, 2, 419), (18, 7, 5, 2, 420), (48, 7, 6, 0, 421), (51, 7, 7, 0, 422), (54, 7, 8, 0, 423), (57, 7, 9, 1, 424), (84, 7, 10, 0, 425), (120, 7, 11, 0, 426), (123, 7, 12, 0, 427), (126, 7, 13, 0, 428), (99, 7, 14, 0, 429), (22, 7, 15, 2, 430), (25, 7, 16, 0, 431)],
  [(12, 8, 0, 2, 227)],
  [(9, 9, 0, 2, 130), (15, 9, 1, 2, 131), (18, 9, 2, 2, 132), (21, 9, 3, 0, 133)],
  [(44, 10, 0, 2, 274), (48, 10, 1, 2, 275), (52, 10, 2, 2, 276), (56, 10, 3, 2, 277), (12, 10, 4, 2, 278), (18, 10, 5, 2, 279), (22, 10, 6, 2, 280), (25, 10, 7, 2, 281), (28, 10, 8, 2, 282), (31, 10, 9, 2, 283), (34, 10, 10, 2, 284), (37, 10, 11, 2, 285), (40, 10, 12, 2, 286), (60, 10, 13, 0, 287)],
  [(12, 11, 0, 2, 467), (19, 11, 1, 2, 468), (26, 11, 2, 2, 469), (33, 11, 3, 2, 470), (50, 11, 4, 2, 471), (59, 11, 5, 2, 472)],
  [(182, 12, 0, 0, 1544), (178, 12, 1, 0, 1545), (7, 12, 2, 2, 1546), (13, 12, 3, 2, 1547), (16, 12, 4, 2, 1548), (196, 12, 5, 0, 1549), (19, 12, 6, 2, 1550), (22, 12, 7, 2, 1551), (25, 12, 8, 2, 1552), (28, 12, 9, 2, 1553), (32, 12, 10, 2, 1554), (35, 12, 11, 2, 1555), (209, 12, 12, 0, 1556), (38, 12, 13, 2, 1557), (41, 12, 14, 2, 1558), (44, 12, 15, 2, 1559), (47, 12, 16, 2, 1560), (223, 12, 17, 0, 1561), (50, 12, 18, 2, 1562), (53, 12, 19, 2, 1563), (56, 12, 20, 2, 1564), (59, 12, 21, 2, 1565), (62, 12, 22, 2, 1566), (66, 12, 23, 2, 1567), (304, 12, 24, 0, 1568), (70, 12, 25, 2, 1569), (73, 12, 26, 2, 1570), (76, 12, 27, 2, 1571), (226, 12, 28, 0, 1572), (79, 12, 29, 2, 1573), (82, 12, 30, 2, 1574), (85, 12, 31, 2, 1575), (88, 12, 32, 2, 1576), (91, 12, 33, 2, 1577), (94, 12, 34, 2, 1578), (97, 12, 35, 2, 1579), (100, 12, 36, 2, 1580), (103, 12, 37, 2, 1581), (106, 12, 38, 2, 1582), (109, 12, 39, 2, 1583), (112, 12, 40, 2, 1584), (115, 12, 41, 2, 1585), (118, 12, 42, 2, 1586), (246, 12, 43, 0, 1587), (121, 12, 44, 2, 1588), (124, 12, 45, 2, 1589), (243, 12, 46, 0, 1590), (286, 12, 47, 1, 1591), (289, 12, 48, 1, 1592), (282, 12, 49, 1, 1593), (279, 12, 50, 0, 1594), (127, 12, 51, 2, 1595), (130, 12, 52, 2, 1596), (292, 12, 53, 0, 1597), (409, 12, 54, 1, 1598), (412, 12, 55, 1, 1599), (415, 12, 56, 0, 1600), (133, 12, 57, 2, 1601), (351, 12, 58, 0, 1602), (354, 12, 59, 0, 1603), (357, 12, 60, 1, 1604), (348, 12, 61, 0, 1605), (136, 12, 62, 2, 1606), (139, 12, 63, 2, 1607), (142, 12, 64, 2, 1608), (145, 12, 65, 2, 1609), (148, 12, 66, 2, 1610), (151, 12, 67, 2, 1611), (386, 12, 68, 0, 1612), (154, 12, 69, 2, 1613), (157, 12, 70, 2, 1614), (345, 12, 71, 0, 1615), (160, 12, 72, 2, 1616), (163, 12, 73, 2, 1617), (166, 12, 74, 2, 1618), (169, 12, 75, 2, 1619), (172, 12, 76, 2, 1620), (175, 12, 77, 2, 1621), (373, 12, 78, 0, 1622), (360, 12, 79, 0, 1623), (363, 12, 80, 0, 1624)],
  [],
  [],
  []]
def pgIs : List (List (Nat × Nat × Nat × Nat × Nat)) := [[(40, 11, 0, 10, 323), (51, 12, 3, 101, 329), (102, 64, 3, 1, 751), (58, 65, 1, 10, 755), (108, 85, 2, 1, 878), (112, 95, 1, 0, 879), (128, 74, 3, 5, 883), (115, 96, 2, 10, 884), (62, 97, 0, 5, 888), (119, 103, 0, 5, 1164), (122, 104, 1, 1, 1168), (74, 105, 1, 2, 1172), (125, 119, 3, 100, 1236), (98, 120, 2, 8, 1239), (66, 129, 0, 10, 1280), (70, 130, 1, 5, 1284), (78, 132, 0, 0, 1293), (81, 133, 0, 5, 1297), (130, 27, 0, 1, 1301), (133, 134, 1, 5, 1302), (136, 135, 2, 2, 1306), (84, 136, 0, 0, 1310), (139, 137, 0, 9, 1314), (142, 106, 0, 5, 1318), (143, 99, 4, 100, 1319), (149, 80, 1, 5, 1320), (152, 138, 2, 0, 1321), (158, 111, 1, 5, 1325), (161, 114, 1, 5, 1326), (164, 112, 1, 5, 1327), (167, 139, 1, 5, 1328), (170, 19, 2, 9, 1332), (155, 140, 1, 9, 1333), (87, 141, 4, 3, 1337), (93, 142, 1, 100, 1342)],
  [(31, 4, 2, 100, 150), (45, 34, 2, 1, 635), (41, 26, 1, 1, 711), (49, 60, 2, 1, 735)],
  [(29, 11, 0, 10, 333), (38, 106, 0, 5, 1176), (42, 99, 4, 100, 1180), (62, 107, 0, 10, 1181), (65, 108, 1, 2, 1185), (75, 77, 1, 10, 1189), (79, 78, 1, 10, 1190), (82, 109, 2, 10, 1191), (86, 110, 2, 2, 1195), (101, 80, 1, 5, 1199), (104, 111, 1, 5, 1200), (107, 104, 1, 1, 1204), (110, 112, 1, 5, 1205), (113, 113, 2, 2, 1209), (116, 34, 2, 1, 1213), (69, 60, 2, 1, 1214), (119, 114, 1, 5, 1215), (90, 115, 1, 3, 1220), (95, 116, 2, 3, 1224), (98, 118, 2, 3, 1232)],
  [(28, 117, 2, 3, 1228)],
  [(28, 40, 3, 4, 658)],
  [(40, 74, 3, 5, 791), (44, 80, 1, 5, 816), (48, 81, 3, 5, 820), (51, 98, 0, 5, 892), (59, 99, 4, 100, 896), (65, 101, 1, 5, 1156), (55, 102, 2, 5, 1160), (77, 103, 0, 5, 1288), (80, 131, 2, 5, 1289)],
  [(27, 99, 4, 100, 1397), (33, 161, 5, 6, 1424), (41, 165, 2, 6, 1441), (37, 180, 1, 6, 1506), (45, 176, 1, 6, 1510)],
  [(11, 14, 0, 102, 398), (45, 152, 0, 6, 1384), (61, 153, 1, 3, 1388), (67, 142, 1, 100, 1392), (72, 154, 0, 6, 1393), (76, 155, 3, 7, 1398), (80, 156, 0, 7, 1402), (96, 157, 0, 6, 1406), (87, 158, 0, 7, 1410), (129, 159, 0, 7, 1414), (132, 70, 1, 4, 1418), (137, 69, 1, 4, 1419), (138, 160, 1, 6, 1420), (141, 162, 1, 7, 1428), (145, 163, 1, 7, 1432), (148, 161, 5, 6, 1436), (117, 164, 2, 6, 1437), (152, 67, 1, 4, 1445), (155, 72, 1, 4, 1446), (158, 166, 5, 7, 1447), (162, 167, 2, 7, 1451), (169, 168, 0, 6, 1455), (173, 169, 4, 8, 1459), (177, 170, 1, 100, 1463), (180, 34, 2, 1, 1466), (186, 171, 1, 100, 1467), (189, 172, 3, 6, 1470), (192, 64, 3, 1, 1474), (196, 119, 3, 100, 1475), (166, 173, 1, 7, 1476), (90, 174, 0, 7, 1480), (199, 175, 2, 7, 1484), (102, 176, 1, 6, 1488), (206, 165, 2, 6, 1492), (212, 177, 4, 7, 1494), (105, 178, 1, 6, 1498), (215, 179, 2, 6, 1502), (108, 180, 1, 6, 1511), (202, 181, 4, 7, 1512), (93, 182, 0, 7, 1516)],
  [(16, 107, 0, 10, 1243), (22, 121, 1, 10, 1244), (26, 99, 4, 100, 1248), (32, 11, 0, 10, 1249), (36, 109, 2, 10, 1250), (40, 122, 2, 100, 1251), (44, 80, 1, 5, 1254), (49, 111, 1, 5, 1255), (52, 112, 1, 5, 1256), (55, 114, 1, 5, 1257), (58, 123, 2, 100, 1258)],
  [(25, 88, 1, 100, 848)],
  [(11, 9, 0, 102, 239), (73, 66, 1, 10, 759), (100, 67, 1, 4, 763), (102, 68, 3, 10, 767), (64, 69, 1, 4, 771), (70, 70, 1, 4, 775), (106, 71, 1, 10, 779), (109, 72, 1, 4, 783), (77, 73, 0, 5, 787), (80, 74, 3, 5, 795), (84, 75, 0, 5, 796), (88, 76, 1, 10, 800), (112, 77, 1, 10, 804), (115, 78, 1, 10, 808), (96, 79, 2, 5, 812), (118, 82, 1, 10, 824), (124, 83, 2, 10, 828), (121, 84, 2, 10, 832), (127, 85, 2, 1, 836), (132, 86, 2, 10, 840), (140, 87, 1, 9, 844), (92, 89, 2, 10, 854), (145, 90, 1, 10, 858), (151, 91, 1, 9, 862), (148, 92, 1, 9, 866), (154, 93, 1, 9, 870), (135, 94, 1, 3, 874)],
  [(11, 2, 0, 101, 126), (18, 3, 0, 101, 146), (25, 5, 0, 102, 178), (32, 6, 0, 102, 200), (39, 7, 0, 102, 222), (42, 8, 4, 101, 233), (47, 10, 5, 101, 319), (56, 13, 4, 101, 392), (63, 17, 1, 9, 495), (67, 18, 1, 100, 499), (71, 19, 2, 9, 565), (75, 20, 1, 100, 569), (84, 21, 1, 100, 572), (79, 26, 1, 1, 604), (80, 27, 0, 1, 608), (87, 28, 1, 1, 612), (90, 31, 1, 9, 623), (93, 32, 1, 1, 627), (96, 33, 1, 1, 631), (99, 35, 2, 1, 639), (102, 38, 3, 11, 650), (172, 39, 3, 4, 654), (175, 41, 3, 4, 662), (110, 48, 1, 4, 689), (111, 53, 2, 1, 707), (115, 56, 1, 3, 719), (116, 34, 2, 1, 730), (119, 59, 3, 1, 731), (123, 61, 3, 1, 739), (127, 62, 5, 1, 743), (131, 63, 3, 0, 747), (134, 124, 2, 1, 1261), (138, 127, 0, 3, 1272), (139, 128, 1, 0, 1276), (142, 115, 1, 3, 1352), (145, 94, 1, 3, 1353), (148, 117, 2, 3, 1354), (151, 147, 2, 11, 1362), (178, 92, 1, 9, 1366), (181, 104, 1, 1, 1367), (184, 91, 1, 9, 1368), (154, 150, 1, 11, 1376), (157, 151, 2, 7, 1380), (160, 185, 1, 7, 1528), (163, 186, 1, 7, 1532)],
  [(189, 190, 1, 12, 1796), (193, 191, 3, 12, 1800), (185, 192, 3, 12, 1804), (199, 195, 1, 12, 1816), (202, 197, 1, 12, 1824), (206, 198, 1, 12, 1828), (212, 201, 4, 12, 1840), (216, 203, 5, 12, 1848), (220, 206, 1, 12, 1860), (310, 211, 1, 12, 1880), (272, 212, 1, 12, 1884), (236, 213, 0, 12, 1888), (229, 214, 3, 12, 1892), (276, 215, 1, 12, 1896), (256, 216, 2, 12, 1900), (240, 217, 1, 12, 1904), (260, 218, 1, 12, 1908), (232, 219, 2, 12, 1912), (263, 220, 2, 12, 1916), (266, 221, 3, 12, 1920), (249, 222, 2, 12, 1924), (253, 223, 1, 12, 1928), (269, 224, 2, 12, 1932), (313, 225, 0, 12, 1936), (317, 226, 1, 12, 1940), (320, 227, 0, 12, 1944), (301, 228, 2, 12, 1948), (295, 229, 2, 12, 1952), (298, 230, 1, 12, 1956), (323, 231, 1, 12, 1960), (326, 232, 1, 100, 1964), (329, 233, 1, 12, 1967), (332, 234, 1, 12, 1971), (307, 235, 1, 12, 1975), (338, 238, 3, 12, 1987), (342, 239, 4, 12, 1991), (335, 240, 3, 100, 1995), (403, 242, 1, 12, 2002), (376, 243, 6, 12, 2006), (406, 244, 0, 12, 2010), (396, 245, 5, 12, 2014), (366, 246, 0, 12, 2018), (369, 247, 6, 12, 2022), (380, 248, 2, 12, 2026), (383, 249, 2, 12, 2030), (400, 250, 2, 12, 2034), (389, 251, 1, 100, 2038), (392, 252, 3, 12, 2041)],
  [(68, 1, 0, 101, 118), (72, 15, 3, 100, 486), (7, 16, 1, 11, 491), (82, 22, 4, 100, 590), (17, 23, 2, 11, 593), (86, 24, 3, 100, 597), (21, 25, 1, 11, 600), (89, 29, 4, 100, 616), (24, 30, 2, 11, 619), (92, 36, 3, 100, 643), (27, 37, 1, 11, 646), (95, 42, 3, 100, 666), (30, 43, 1, 11, 669), (98, 44, 3, 100, 675), (33, 45, 1, 11, 678), (101, 46, 3, 100, 682), (36, 47, 1, 11, 685), (104, 49, 4, 100, 693), (39, 50, 2, 11, 696), (107, 51, 4, 100, 700), (42, 52, 2, 11, 703), (110, 54, 3, 100, 712), (45, 55, 1, 11, 715), (113, 57, 8, 100, 723), (48, 58, 6, 11, 726), (117, 125, 3, 100, 1265), (52, 126, 1, 11, 1268), (120, 143, 4, 100, 1345), (55, 144, 2, 11, 1348), (123, 145, 4, 100, 1355), (58, 146, 2, 11, 1358), (126, 148, 4, 100, 1369), (62, 149, 2, 11, 1372), (129, 183, 3, 100, 1521), (65, 184, 1, 11, 1524), (71, 187, 0, 101, 1538), (78, 188, 0, 12, 1788), (77, 189, 1, 12, 1792), (85, 193, 2, 12, 1808), (88, 194, 1, 12, 1812), (91, 196, 2, 12, 1820), (125, 199, 2, 12, 1832), (94, 200, 1, 12, 1836), (97, 202, 1, 12, 1844), (100, 204, 1, 12, 1852), (103, 205, 1, 12, 1856), (106, 207, 2, 12, 1864), (109, 208, 2, 12, 1868), (112, 209, 1, 12, 1872), (119, 210, 1, 12, 1876), (122, 236, 2, 12, 1979), (116, 237, 6, 12, 1983), (128, 241, 2, 12, 1998), (131, 253, 1, 12, 2045)],
  [(13, 100, 3, 100, 899)],
  []]
def pgNs : List (List (Nat × Nat × Nat × Nat × Nat)) := [[(49, 2, 327, 328, 97)],
  [],
  [],
  [],
  [],
  [],
  [],
  [(9, 6, 396, 397, 99)],
  [],
  [],
  [(9, 5, 237, 238, 95)],
  [(9, 9, 124, 125, 88), (16, 1, 144, 145, 89), (23, 4, 176, 177, 91), (30, 3, 198, 199, 92), (37, 8, 220, 221, 93), (40, 10, 231, 232, 94), (45, 0, 317, 318, 96), (54, 7, 390, 391, 98)],
  [],
  [(8, 11, 116, 117, 87), (69, 12, 1536, 1537, 100)],
  [],
  []]
def pgSs : List (List (Nat × Nat × Nat)) := [[],
  [],
  [],
  [],
  [],
  [],
  [],
  [(209, 1493, 1)],
  [],
  [],
  [],
  [(106, 673, 0)],
  [],
  [],
  [],
  []]
def pgKs : List (List (Nat × Int32 × Nat)) := [[],
  [],
  [],
  [],
  [],
  [],
  [],
  [],
  [(11, 35520, 226)],
  [],
  [],
  [],
  [(65, 35520, 1542), (69, 200000, 1543)],
  [],
  [],
  [(265, 1431655765, 851), (266, 858993459, 852), (267, 252645135, 853)]]
def pgOs : List (List (Nat × Nat)) := [[(3, 322)],
  [(3, 149)],
  [(3, 332)],
  [(3, 203)],
  [(3, 181)],
  [(3, 242)],
  [(3, 401)],
  [(3, 395)],
  [(3, 225)],
  [(3, 129)],
  [(3, 236)],
  [(3, 121)],
  [(1, 1541)],
  [],
  [],
  []]
def pgLs : List (List Nat) := [[371, 373, 375, 377, 379, 381, 383, 385, 387],
  [160, 162, 164, 166, 168, 170, 172],
  [343, 345, 347, 349, 351, 353, 355, 357, 359],
  [209, 211, 213, 215, 217],
  [187, 189, 191, 193, 195],
  [253, 255, 257, 259, 261, 263, 265, 267, 269, 271],
  [406, 408, 410, 412],
  [432, 434, 436, 438, 440, 442, 444, 446, 448, 450, 452, 454, 456, 458, 460, 462, 464],
  [228],
  [134, 136, 138, 140],
  [288, 290, 292, 294, 296, 298, 300, 302, 304, 306, 308, 310, 312, 314],
  [473, 475, 477, 479, 481, 483],
  [1625, 1627, 1629, 1631, 1633, 1635, 1637, 1639, 1641, 1643, 1645, 1647, 1649, 1651, 1653, 1655, 1657, 1659, 1661, 1663, 1665, 1667, 1669, 1671, 1673, 1675, 1677, 1679, 1681, 1683, 1685, 1687, 1689, 1691, 1693, 1695, 1697, 1699, 1701, 1703, 1705, 1707, 1709, 1711, 1713, 1715, 1717, 1719, 1721, 1723, 1725, 1727, 1729, 1731, 1733, 1735, 1737, 1739, 1741, 1743, 1745, 1747, 1749, 1751, 1753, 1755, 1757, 1759, 1761, 1763, 1765, 1767, 1769, 1771, 1773, 1775, 1777, 1779, 1781, 1783, 1785]]
/-- handlers: what is taken, by which row, where it is, the local, where it goes on, the words -/
def pgHs : List (List (String × Nat × Nat × Nat × Nat × Nat × Nat)) := [[], [], [], [], [], [], [], [], [], [], [], [], [], [], [], [("java/lang/IllegalArgumentException", 0, 12, 3, 13, 489, 504), ("java/lang/IllegalStateException", 1, 15, 3, 16, 490, 577)], [], [], [], [], [], [], [("java/lang/IllegalArgumentException", 0, 13, 4, 15, 489, 504), ("java/lang/IllegalStateException", 1, 17, 4, 19, 490, 577)], [], [("java/lang/IllegalArgumentException", 0, 12, 3, 13, 489, 504), ("java/lang/IllegalStateException", 1, 15, 3, 16, 490, 577)], [], [], [], [], [("java/lang/IllegalArgumentException", 0, 13, 4, 15, 489, 504), ("java/lang/IllegalStateException", 1, 17, 4, 19, 490, 577)], [], [], [], [], [], [], [("java/lang/IllegalStateException", 0, 12, 3, 13, 490, 577)], [], [], [], [], [], [("java/lang/IllegalArgumentException", 0, 12, 3, 13, 489, 504), ("java/lang/IllegalStateException", 1, 15, 3, 16, 490, 577)], [], [("java/lang/IllegalArgumentException", 0, 12, 3, 13, 489, 504), ("java/lang/IllegalStateException", 1, 15, 3, 16, 490, 577)], [], [("java/lang/IllegalArgumentException", 0, 12, 3, 13, 489, 504), ("java/lang/IllegalStateException", 1, 15, 3, 16, 490, 577)], [], [], [("java/lang/IllegalArgumentException", 0, 13, 4, 15, 489, 504), ("java/lang/IllegalStateException", 1, 17, 4, 19, 490, 577)], [], [("java/lang/IllegalArgumentException", 0, 13, 4, 15, 489, 504), ("java/lang/IllegalStateException", 1, 17, 4, 19, 490, 577)], [], [], [("java/lang/IllegalArgumentException", 0, 12, 3, 13, 489, 504), ("java/lang/IllegalStateException", 1, 15, 3, 16, 490, 577)], [], [], [("java/lang/IllegalArgumentException", 0, 21, 8, 23, 489, 504), ("java/lang/IllegalStateException", 1, 25, 8, 27, 490, 577)], [], [], [], [], [], [], [], [], [], [], [], [], [], [], [], [], [], [], [], [], [], [], [], [], [], [], [], [], [], [], [], [], [], [], [], [], [], [], [], [], [], [], [], [], [], [], [], [], [], [], [], [], [], [], [], [], [], [], [], [], [], [], [], [], [], [], [], [("java/lang/IllegalArgumentException", 0, 12, 3, 13, 489, 504), ("java/lang/IllegalStateException", 1, 15, 3, 16, 490, 577)], [], [], [], [], [], [], [], [], [], [], [], [], [], [], [], [], [], [("java/lang/IllegalArgumentException", 0, 13, 4, 15, 489, 504)], [], [("java/lang/IllegalArgumentException", 0, 20, 4, 22, 489, 504)], [], [], [("java/lang/IllegalArgumentException", 0, 13, 4, 15, 489, 504), ("java/lang/IllegalStateException", 1, 17, 4, 19, 490, 577)], [], [], [], [], [], [], [], [], [], [], [], [], [], [], [], [], [], [], [], [], [], [], [], [], [], [], [], [], [], [], [], [], [], [], [("java/lang/IllegalArgumentException", 0, 12, 3, 13, 489, 504)], [], [], [], [], [], [], [], [], [], [], [], [], [], [], [], [], [], [], [], [], [], [], [], [], [], [], [], [], [], [], [], [], [], [], [], [], [], [], [], [], [], [], [], [], [], [], [], [], [], [], [], [], [], [], [], [], [], [], [], [], [], [], [], [], [], [], [], [], [], []]
def pgAr : Nat × Nat × Nat := (143, 175, 2049)
def pgOb : Nat × Nat := (122, 123)
def pgXA : Nat × Nat := (166, 168)
def pgXS : Nat × Nat := (169, 171)
def pgNi : List Nat := [178, 200, 222, 239, 398, 504, 505, 507, 509, 577, 1493]
def pgEA : mvE := (⟨"DictionaryHouse", "requireArgument", "(Z)V"⟩, prog_1_method_19_code, 1, none, [])
def pgES : mvE := (⟨"DictionaryHouse", "requireState", "(Z)V"⟩, prog_1_method_20_code, 1, none, [])
def pgIx : List Nat := [318, 145, 328, 199, 177, 238, 397, 391, 221, 125, 232, 117, 1537]
def pgJA : Nat := 18
def pgJS : Nat := 21
end
section
/-! The program as the small machine takes it, and what the words say of it. -/
def pgT : List Cond := lw_tbl.filter goodWord
def pgAt {α : Type} (T : List (List α)) (j : Nat) : List α := match pgK[j]? with
  | some k => T.getD k.1 []
  | none => []
def pgMm (j : Nat) : Option mvE := pgM[j]?
def pgFf (j idx : Nat) : Option (Nat × Nat × Nat) := ((pgAt pgFs j).find? (fun q => q.1 == idx)).map (fun q => (q.2.1, q.2.2.1, match q.2.2.2.1, pgK[j]? with
  | 2, some (_, true) => 2
  | 2, _ => 3
  | kd, _ => kd))
def pgIi (j idx : Nat) : Option (Nat × Nat × Nat) := ((pgAt pgIs j).find? (fun q => q.1 == idx)).map (fun q => (q.2.1, q.2.2.1, q.2.2.2.1))
def pgDf (r : vw_C) : List mvV := (List.range r.2.2).map (fun k => match parseFieldDescriptor (r.2.1 k).2.2.1 with
  | some .int => .inl 0
  | some .boolean => .inl 0
  | _ => .inr (.inr (.inl none)))
def pgNn (j idx : Nat) : Option (Nat × List mvV) := ((pgAt pgNs j).find? (fun q => q.1 == idx)).map (fun q => (q.2.1, match pgCl[q.2.1]? with
  | some r => pgDf r
  | none => []))
def pgSf (j idx : Nat) : Option Nat := ((pgAt pgSs j).find? (fun q => q.1 == idx)).map (fun _ => 0)
def pgKf (j idx : Nat) : Option Int32 := ((pgAt pgKs j).find? (fun q => q.1 == idx)).map (fun q => q.2.1)
def pgOo (j idx : Nat) : Bool := (pgAt pgOs j).any (fun q => q.1 == idx)
def pgRq (ex : String) (as : List mvV) (h : mvH) : Option mvO := match as with
  | [.inl x] => if x = 0 then some (.inr ex, (false, h.2), 1, 6) else some (.inl none, h, 0, 0)
  | _ => none
def pgHf (j pc : Nat) (ex : String) : Option (Nat × Nat × Nat) := match pgM[j]?, (pgHs.getD j []).find? (fun q => q.1 == ex) with
  | some E, some q => match E.2.2.2.2[q.2.1]? with
    | some r => if r.1 ≤ pc ∧ pc < r.2.1 then some (q.2.2.1, q.2.2.2.1, q.2.2.2.2.1) else none
    | none => none
  | _, _ => none
def pgAa (j : Nat) : Int32 := [0, 0, 2, 2, 3, 0, 2, 3].getD j 0
def pgX (L : Nat) (xs : Nat → Int32) (o : Nat) : Option (Nat × (Nat → Int32)) := match o with
  | 0 => some (8, pgAa)
  | 1 => some (L, xs)
  | _ => none
/-- without the script -/
def pgX0 (o : Nat) : Option (Nat × (Nat → Int32)) := match o with
  | 0 => some (8, pgAa)
  | _ => none
def pgNl : List Cond := pgNi.filterMap (fun i => lw_tbl[i]?)
theorem pgNl_in {i : Nat} {w : Cond} (h : lw_tbl[i]? = some w) (hi : i ∈ pgNi) : w ∈ pgNl := List.mem_filterMap.mpr ⟨i, hi, h⟩
theorem pgIn {i : Nat} {w : Cond} (h : lw_tbl[i]? = some w) (hg : goodWord w = true) : w ∈ pgT := List.mem_filter.mpr ⟨List.mem_of_getElem? h, hg⟩
theorem pgAll {α : Type} {T : List (List α)} {chk : Nat → α → Bool} (h : (List.range T.length).all (fun c => (T.getD c []).all (chk c)) = true) {c : Nat} {q : α} (hq : q ∈ T.getD c []) : chk c q = true := by
  by_cases hc : c < T.length
  · exact List.all_eq_true.mp (List.all_eq_true.mp h c (List.mem_range.mpr hc)) q hq
  · rw [List.getD_eq_getElem?_getD, List.getElem?_eq_none (by omega)] at hq
    cases hq
theorem pgAt_in {α : Type} {T : List (List α)} {j : Nat} {q : α} (h : q ∈ pgAt T j) : ∃ k, pgK[j]? = some k ∧ q ∈ T.getD k.1 [] := by
  unfold pgAt at h
  split at h
  · rename_i k hk
    exact ⟨k, hk, h⟩
  · cases h
theorem pgFnd {α : Type} {l : List α} {f : α → Bool} {q : α} (h : l.find? f = some q) : q ∈ l ∧ f q = true := ⟨List.mem_of_find?_eq_some h, List.find?_some h⟩
/-- methods: of what, and which make objects -/
def pgChM (j : Nat) : Bool := match pgM[j]?, pgK[j]? with
  | some E, some k => decide (E.1.cls = pgN.getD k.1 "") && (!k.2 || decide (E.1.name = "<init>"))
  | _, _ => false
set_option maxRecDepth 100000 in
theorem pgChM_ok : (List.range pgM.length).all pgChM = true := by decide +kernel
theorem pgM_in {j : Nat} {E : mvE} (h : pgMm j = some E) : ∃ k, pgK[j]? = some k ∧ E.1.cls = pgN.getD k.1 "" ∧ (k.2 = true → E.1.name = "<init>") := by
  have h1 : pgM[j]? = some E := h
  have h2 := List.all_eq_true.mp pgChM_ok j (List.mem_range.mpr (List.getElem?_eq_some_iff.mp h1).1)
  unfold pgChM at h2
  rw [h1] at h2
  cases hk : pgK[j]? with
  | none => rw [hk] at h2; cases h2
  | some k =>
    rw [hk] at h2
    simp only [Bool.and_eq_true, decide_eq_true_eq, Bool.or_eq_true, Bool.not_eq_true'] at h2
    exact ⟨k, rfl, h2.1, fun q => by rcases h2.2 with z | z; rw [q] at z; cases z; exact z⟩
/-- the world's: the words of their fields -/
def pgChC (i : Nat) : Bool := match pgCl[i]? with
  | some r => decide ((List.range r.2.2).map (fun k => some (u_lay r.1 r.2.1 k)) = (pgLs.getD i []).map (fun w => lw_tbl[w]?)) && (List.range r.2.2).all (fun k => goodWord (u_lay r.1 r.2.1 k) && (parseFieldDescriptor (r.2.1 k).2.2.1).isSome) && (List.range r.2.2).all (fun a => (List.range r.2.2).all (fun b => decide (a = b) || decide ((r.2.1 a).2.1 ≠ (r.2.1 b).2.1)))
  | none => false
set_option maxRecDepth 100000 in
theorem pgChC_ok : (List.range pgCl.length).all pgChC = true := by decide +kernel
theorem pgOf {i : Nat} {r : vw_C} (h : pgCl[i]? = some r) : mvOf pgT r := by
  have h2 := List.all_eq_true.mp pgChC_ok i (List.mem_range.mpr (List.getElem?_eq_some_iff.mp h).1)
  unfold pgChC at h2
  rw [h] at h2
  simp only [Bool.and_eq_true, decide_eq_true_eq, List.all_eq_true, List.mem_range, Bool.or_eq_true] at h2
  obtain ⟨⟨h3, h4⟩, h5⟩ := h2
  refine ⟨fun w hw => ?_, ⟨fun k => (parseFieldDescriptor (r.2.1 k).2.2.1).getD .int, fun k hk => ?_⟩, fun a ha b hb hne => ?_⟩
  · obtain ⟨k, hk, rfl⟩ := List.mem_map.mp hw
    have hk := List.mem_range.mp hk
    have h6 : some (u_lay r.1 r.2.1 k) ∈ (pgLs.getD i []).map (fun w => lw_tbl[w]?) := by
      rw [← h3]
      exact List.mem_map.mpr ⟨k, List.mem_range.mpr hk, rfl⟩
    obtain ⟨w, -, h7⟩ := List.mem_map.mp h6
    exact pgIn h7 (h4 k hk).1
  · have h8 := (h4 k hk).2
    cases hp : parseFieldDescriptor (r.2.1 k).2.2.1 with
    | none => rw [hp] at h8; cases h8
    | some t => simp [hp]
  · rcases h5 a ha b hb with z | z
    · exact absurd z hne
    · exact z
end
section
/-! All that the tables must say of the program, they say. -/
def pgBb (j : Nat) : Option (List mvV → mvH → Option mvO) := if j = pgJA then some (pgRq "java/lang/IllegalArgumentException") else if j = pgJS then some (pgRq "java/lang/IllegalStateException") else none
def pgPx (X : Nat → Option (Nat × (Nat → Int32))) : mvP := (pgMm, pgFf, pgIi, pgNn, pgSf, pgKf, pgBb, pgOo, pgHf, X, pgNl)
abbrev pgP (L : Nat) (xs : Nat → Int32) : mvP := pgPx (pgX L xs)
/-- fields -/
def pgChF (c : Nat) (q : Nat × Nat × Nat × Nat × Nat) : Bool := match pgCl[q.2.1]? with
  | some r => decide (q.2.2.1 < r.2.2) && decide (lw_tbl[q.2.2.2.2]? = some (.fieldLink (pgN.getD c "") q.1 r.1 (r.2.1 q.2.2.1).2.1 (r.2.1 q.2.2.1).2.2.1)) && decide ((r.2.1 q.2.2.1).1 = r.1) && decide (q.2.2.2.1 ≤ 2) &&
    (match q.2.2.2.1 with
    | 0 => decide ((r.2.1 q.2.2.1).2.2.2 = false) && decide (parseFieldDescriptor (r.2.1 q.2.2.1).2.2.1 = some .int)
    | 1 => decide ((r.2.1 q.2.2.1).2.2.2 = false) && decide (parseFieldDescriptor (r.2.1 q.2.2.1).2.2.1 = some .boolean)
    | _ => decide ((r.2.1 q.2.2.1).2.2.2 = true) && decide (r.1 = pgN.getD c "") && (match parseFieldDescriptor (r.2.1 q.2.2.1).2.2.1 with
      | some (.object _) => true
      | some (.array _) => true
      | _ => false))
  | none => false
set_option maxRecDepth 100000 in
theorem pgChF_ok : (List.range pgFs.length).all (fun c => (pgFs.getD c []).all (pgChF c)) = true := by decide +kernel
theorem pgFf_in {j idx ci k kd : Nat} (h : pgFf j idx = some (ci, k, kd)) : ∃ (kc : Nat × Bool) (q : Nat × Nat × Nat × Nat × Nat), pgK[j]? = some kc ∧ q.1 = idx ∧ q.2.1 = ci ∧ q.2.2.1 = k ∧ pgChF kc.1 q = true ∧ (kd ≤ 2 → q.2.2.2.1 = kd ∧ (kd = 2 → kc.2 = true)) := by
  obtain ⟨q, hq, he⟩ := Option.map_eq_some_iff.mp h
  obtain ⟨h1, h2⟩ := pgFnd hq
  obtain ⟨kc, hk, hin⟩ := pgAt_in h1
  have h3 := pgAll pgChF_ok hin
  have h4 : q.2.2.2.1 ≤ 2 := by
    unfold pgChF at h3
    split at h3
    · simp only [Bool.and_eq_true, decide_eq_true_eq] at h3
      exact h3.1.2
    · cases h3
  simp only [Prod.mk.injEq] at he
  obtain ⟨e1, e2, e3⟩ := he
  refine ⟨kc, q, hk, by simpa using h2, e1, e2, h3, fun hkd => ?_⟩
  rw [hk] at e3
  obtain ⟨c9, b9⟩ := kc
  match h9 : q.2.2.2.1, h4 with
  | 0, _ => rw [h9] at e3; simp only at e3; subst e3; exact ⟨rfl, fun z => by cases z⟩
  | 1, _ => rw [h9] at e3; simp only at e3; subst e3; exact ⟨rfl, fun z => by cases z⟩
  | 2, _ =>
    rw [h9] at e3
    cases b9
    · simp only at e3; omega
    · simp only at e3; subst e3; exact ⟨rfl, fun _ => rfl⟩
theorem pg_okf (L : Nat) (xs : Nat → Int32) : mvOkf pgT pgCl (pgP L xs) := by
  intro j E idx ci k kd hE hf
  obtain ⟨kc, q, hk, e1, e2, e3, h3, -⟩ := pgFf_in hf
  obtain ⟨kc', hk', hcls, -⟩ := pgM_in hE
  cases Option.some.inj (hk.symm.trans hk')
  unfold pgChF at h3
  subst e1 e2 e3
  split at h3
  · rename_i r hr
    simp only [Bool.and_eq_true, decide_eq_true_eq] at h3
    refine ⟨r, hr, pgOf hr, h3.1.1.1.1, ?_, h3.1.1.2⟩
    rw [hcls]
    exact pgIn h3.1.1.1.2 rfl
  · cases h3
theorem pg_okp (L : Nat) (xs : Nat → Int32) : mvOkp pgT pgCl (pgP L xs) := by
  intro j E idx ci k kd r hE hf hkd hr
  obtain ⟨kc, q, hk, e1, e2, e3, h3, h4⟩ := pgFf_in hf
  obtain ⟨kc', hk', hcls, hini⟩ := pgM_in hE
  cases Option.some.inj (hk.symm.trans hk')
  obtain ⟨h5, h6⟩ := h4 hkd
  unfold pgChF at h3
  subst e1 e2 e3
  rw [hr] at h3
  simp only [Bool.and_eq_true, decide_eq_true_eq] at h3
  obtain ⟨⟨⟨⟨-, -⟩, h8⟩, -⟩, h7⟩ := h3
  rw [h5] at h7
  match kd, hkd with
  | 0, _ => simp only [Bool.and_eq_true, decide_eq_true_eq] at h7; exact ⟨h7, fun z => by cases z⟩
  | 1, _ => simp only [Bool.and_eq_true, decide_eq_true_eq] at h7; exact ⟨h7, fun z => by cases z⟩
  | 2, _ =>
    simp only [Bool.and_eq_true, decide_eq_true_eq] at h7
    refine ⟨⟨h7.1.1, hini (h6 rfl), ?_⟩, fun _ => by rw [h8, h7.1.2, hcls]⟩
    have h9 := h7.2
    split at h9
    · rename_i n hn; exact ⟨_, hn, Or.inl ⟨_, rfl⟩⟩
    · rename_i n hn; exact ⟨_, hn, Or.inr ⟨_, rfl⟩⟩
    · cases h9
/-- what is made -/
def pgChN (c : Nat) (q : Nat × Nat × Nat × Nat × Nat) : Bool := match pgCl[q.2.1]? with
  | some r => decide (lw_tbl[q.2.2.1]? = some (.classLink (pgN.getD c "") q.1 r.1)) && decide (lw_tbl[q.2.2.2.1]? = some (.instantiable r.1 r.2.2)) && decide (lw_tbl[q.2.2.2.2]? = some (.initialized r.1)) && (List.range r.2.2).all (fun k => match parseFieldDescriptor (r.2.1 k).2.2.1 with
    | some .int => true
    | some .boolean => true
    | some (.object _) => true
    | some (.array _) => true
    | _ => false)
  | none => false
set_option maxRecDepth 100000 in
theorem pgChN_ok : (List.range pgNs.length).all (fun c => (pgNs.getD c []).all (pgChN c)) = true := by decide +kernel
theorem pg_okn (L : Nat) (xs : Nat → Int32) : mvOkn pgT pgCl (pgP L xs) := by
  intro j E idx ci fs hE hf
  obtain ⟨q, hq, he⟩ := Option.map_eq_some_iff.mp hf
  obtain ⟨h1, h2⟩ := pgFnd hq
  obtain ⟨kc, hk, hin⟩ := pgAt_in h1
  have h3 := pgAll pgChN_ok hin
  obtain ⟨kc', hk', hcls, -⟩ := pgM_in hE
  cases Option.some.inj (hk.symm.trans hk')
  have h2 : q.1 = idx := by simpa using h2
  subst h2
  unfold pgChN at h3
  split at h3
  · rename_i r hr
    rw [hr] at he
    simp only [Prod.mk.injEq] at he
    obtain ⟨rfl, rfl⟩ := he
    simp only [Bool.and_eq_true, decide_eq_true_eq, List.all_eq_true, List.mem_range] at h3
    refine ⟨r, hr, pgOf hr, by simp [pgDf], ?_, pgIn h3.1.1.2 rfl, pgIn h3.1.2 rfl, fun k hk ty hty N0 xa => ?_⟩
    · rw [hcls]; exact pgIn h3.1.1.1 rfl
    · have h4 := h3.2 k hk
      simp only [vp_V, pgDf, List.map_map, List.getD_eq_getElem?_getD, List.getElem?_map, List.getElem?_range hk, Option.map_some, Option.getD_some, Function.comp]
      rw [hty] at h4 ⊢
      match ty, h4 with
      | .int, _ => rfl
      | .boolean, _ => rfl
      | .object _, _ => rfl
      | .array _, _ => rfl
  · cases h3
/-- statics, constants, Object's own -/
def pgChS (c : Nat) (q : Nat × Nat × Nat) : Bool := match q.2.2 with
  | 0 => decide (lw_tbl[q.2.1]? = some (.fieldLink (pgN.getD c "") q.1 "DictionaryHouse" "ARGUMENTS" "[I"))
  | _ => decide (lw_tbl[q.2.1]? = some (.fieldLinkNest (pgN.getD c "") q.1 "DictionaryHouse" "ARGUMENTS" "[I" "DictionaryHouse")) && decide (q.2.1 ∈ pgNi)
set_option maxRecDepth 100000 in
theorem pgChS_ok : (List.range pgSs.length).all (fun c => (pgSs.getD c []).all (pgChS c)) = true := by decide +kernel
theorem pg_oks (L : Nat) (xs : Nat → Int32) : mvOks pgT (pgP L xs) "DictionaryHouse" "ARGUMENTS" "[I" := by
  intro j E idx o hE hf
  obtain ⟨q, hq, he⟩ := Option.map_eq_some_iff.mp hf
  obtain ⟨h1, h2⟩ := pgFnd hq
  obtain ⟨kc, hk, hin⟩ := pgAt_in h1
  have h3 := pgAll pgChS_ok hin
  obtain ⟨kc', hk', hcls, -⟩ := pgM_in hE
  cases Option.some.inj (hk.symm.trans hk')
  have h2 : q.1 = idx := by simpa using h2
  subst h2
  refine ⟨he.symm, ?_⟩
  rw [hcls]
  unfold pgChS at h3
  split at h3
  · exact Or.inl (pgIn (of_decide_eq_true h3) rfl)
  · simp only [Bool.and_eq_true, decide_eq_true_eq] at h3
    exact Or.inr ⟨_, pgNl_in h3.1 h3.2⟩
def pgChK (c : Nat) (q : Nat × Int32 × Nat) : Bool := decide (lw_tbl[q.2.2]? = some (.constant (pgN.getD c "") q.1 q.2.1))
set_option maxRecDepth 100000 in
theorem pgChK_ok : (List.range pgKs.length).all (fun c => (pgKs.getD c []).all (pgChK c)) = true := by decide +kernel
theorem pg_okk (L : Nat) (xs : Nat → Int32) : mvOkk pgT (pgP L xs) := by
  intro j E idx v hE hf
  obtain ⟨q, hq, he⟩ := Option.map_eq_some_iff.mp hf
  obtain ⟨h1, h2⟩ := pgFnd hq
  obtain ⟨kc, hk, hin⟩ := pgAt_in h1
  have h3 := pgAll pgChK_ok hin
  obtain ⟨kc', hk', hcls, -⟩ := pgM_in hE
  cases Option.some.inj (hk.symm.trans hk')
  have h2 : q.1 = idx := by simpa using h2
  subst h2
  subst he
  rw [hcls]
  exact pgIn (of_decide_eq_true h3) rfl
def pgChO (c : Nat) (q : Nat × Nat) : Bool := decide (lw_tbl[q.2]? = some (.methodLink (pgN.getD c "") q.1 Lib.objectInit))
set_option maxRecDepth 100000 in
theorem pgChO_ok : (List.range pgOs.length).all (fun c => (pgOs.getD c []).all (pgChO c)) = true := by decide +kernel
set_option maxRecDepth 100000 in
theorem pg_oko (L : Nat) (xs : Nat → Int32) : mvOko pgT (pgP L xs) := by
  refine ⟨pgIn (i := pgOb.1) (by decide +kernel) rfl, pgIn (i := pgOb.2) (by decide +kernel) rfl, fun j E idx hE hf => ?_⟩
  obtain ⟨q, h1, h2⟩ := List.any_eq_true.mp hf
  obtain ⟨kc, hk, hin⟩ := pgAt_in h1
  have h3 := pgAll pgChO_ok hin
  obtain ⟨kc', hk', hcls, -⟩ := pgM_in hE
  cases Option.some.inj (hk.symm.trans hk')
  have h2 : q.1 = idx := by simpa using h2
  subst h2
  rw [hcls]
  exact pgIn (of_decide_eq_true h3) rfl
set_option maxRecDepth 100000 in
theorem pg_oka : ∀ at0 : ArrayType, at0 = .int ∨ at0 = .boolean ∨ at0 = .long → Cond.arrayClass (newarray.typeOf at0) ∈ pgT := by
  rintro at0 (rfl | rfl | rfl)
  · exact pgIn (i := pgAr.1) (by decide +kernel) rfl
  · exact pgIn (i := pgAr.2.1) (by decide +kernel) rfl
  · exact pgIn (i := pgAr.2.2) (by decide +kernel) rfl
end
section
/-! methods' words -/
set_option maxRecDepth 100000 in
theorem pgCode_0 : ((pgM.drop 1).take 15).map (fun E => some (mvCd E)) = ((pgWs.drop 1).take 15).map (fun w => lw_tbl[w.1]?) := by rfl
set_option maxRecDepth 100000 in
theorem pgCode_16 : ((pgM.drop 16).take 16).map (fun E => some (mvCd E)) = ((pgWs.drop 16).take 16).map (fun w => lw_tbl[w.1]?) := by rfl
set_option maxRecDepth 100000 in
theorem pgCode_32 : ((pgM.drop 32).take 16).map (fun E => some (mvCd E)) = ((pgWs.drop 32).take 16).map (fun w => lw_tbl[w.1]?) := by rfl
set_option maxRecDepth 100000 in
theorem pgCode_48 : ((pgM.drop 48).take 16).map (fun E => some (mvCd E)) = ((pgWs.drop 48).take 16).map (fun w => lw_tbl[w.1]?) := by rfl
set_option maxRecDepth 100000 in
theorem pgCode_64 : ((pgM.drop 64).take 16).map (fun E => some (mvCd E)) = ((pgWs.drop 64).take 16).map (fun w => lw_tbl[w.1]?) := by rfl
set_option maxRecDepth 100000 in
theorem pgCode_80 : ((pgM.drop 80).take 16).map (fun E => some (mvCd E)) = ((pgWs.drop 80).take 16).map (fun w => lw_tbl[w.1]?) := by rfl
set_option maxRecDepth 100000 in
theorem pgCode_96 : ((pgM.drop 96).take 16).map (fun E => some (mvCd E)) = ((pgWs.drop 96).take 16).map (fun w => lw_tbl[w.1]?) := by rfl
set_option maxRecDepth 100000 in
theorem pgCode_112 : ((pgM.drop 112).take 16).map (fun E => some (mvCd E)) = ((pgWs.drop 112).take 16).map (fun w => lw_tbl[w.1]?) := by rfl
set_option maxRecDepth 100000 in
theorem pgCode_128 : ((pgM.drop 128).take 16).map (fun E => some (mvCd E)) = ((pgWs.drop 128).take 16).map (fun w => lw_tbl[w.1]?) := by rfl
set_option maxRecDepth 100000 in
theorem pgCode_144 : ((pgM.drop 144).take 16).map (fun E => some (mvCd E)) = ((pgWs.drop 144).take 16).map (fun w => lw_tbl[w.1]?) := by rfl
set_option maxRecDepth 100000 in
theorem pgCode_160 : ((pgM.drop 160).take 16).map (fun E => some (mvCd E)) = ((pgWs.drop 160).take 16).map (fun w => lw_tbl[w.1]?) := by rfl
set_option maxRecDepth 100000 in
theorem pgCode_176 : ((pgM.drop 176).take 16).map (fun E => some (mvCd E)) = ((pgWs.drop 176).take 16).map (fun w => lw_tbl[w.1]?) := by rfl
set_option maxRecDepth 100000 in
theorem pgCode_192 : ((pgM.drop 192).take 16).map (fun E => some (mvCd E)) = ((pgWs.drop 192).take 16).map (fun w => lw_tbl[w.1]?) := by rfl
set_option maxRecDepth 100000 in
theorem pgCode_208 : ((pgM.drop 208).take 16).map (fun E => some (mvCd E)) = ((pgWs.drop 208).take 16).map (fun w => lw_tbl[w.1]?) := by rfl
set_option maxRecDepth 100000 in
theorem pgCode_224 : ((pgM.drop 224).take 16).map (fun E => some (mvCd E)) = ((pgWs.drop 224).take 16).map (fun w => lw_tbl[w.1]?) := by rfl
set_option maxRecDepth 100000 in
theorem pgCode_240 : ((pgM.drop 240).take 14).map (fun E => some (mvCd E)) = ((pgWs.drop 240).take 14).map (fun w => lw_tbl[w.1]?) := by rfl
theorem pgMapAt {α β : Type} {l1 : List α} {l2 : List β} {γ : Type} {f : α → γ} {g : β → γ} {a m : Nat} (h : ((l1.drop a).take m).map f = ((l2.drop a).take m).map g) {j : Nat} (h1 : a ≤ j) (h2 : j < a + m) {x : α} (hx : l1[j]? = some x) : ∃ y, l2[j]? = some y ∧ f x = g y := by
  have e1 : ((l1.drop a).take m)[j - a]? = some x := by
    rw [List.getElem?_take_of_lt (by omega), List.getElem?_drop, show a + (j - a) = j by omega]
    exact hx
  have e2 : (((l1.drop a).take m).map f)[j - a]? = some (f x) := by rw [List.getElem?_map, e1]; rfl
  rw [h, List.getElem?_map] at e2
  obtain ⟨y, hy, he⟩ := Option.map_eq_some_iff.mp e2
  rw [List.getElem?_take_of_lt (by omega), List.getElem?_drop, show a + (j - a) = j by omega] at hy
  exact ⟨y, hy, he.symm⟩
def pgCh2 (j : Nat) : Bool := match pgM[j]?, pgWs[j]?, pgPc[j]? with
  | some E, some w, some n => decide (j = 0) || (goodWord (mvCd E) && plainName E.1.cls && decide (E.2.2.1 ≤ 41) && decide (E.1.cls ≠ "java/lang/invoke/MethodHandle") && decide (E.1.cls ≠ "java/lang/invoke/VarHandle") && decide (lw_tbl[w.2.1]? = some (.initialized E.1.cls)) && decide ((parseMethodDescriptor E.1.desc).map (fun d => d.parameters.length) = some n))
  | _, _, _ => false
set_option maxRecDepth 100000 in
theorem pgCh2_0 : (List.range' 0 32).all pgCh2 = true := by decide +kernel
set_option maxRecDepth 100000 in
theorem pgCh2_32 : (List.range' 32 32).all pgCh2 = true := by decide +kernel
set_option maxRecDepth 100000 in
theorem pgCh2_64 : (List.range' 64 32).all pgCh2 = true := by decide +kernel
set_option maxRecDepth 100000 in
theorem pgCh2_96 : (List.range' 96 32).all pgCh2 = true := by decide +kernel
set_option maxRecDepth 100000 in
theorem pgCh2_128 : (List.range' 128 32).all pgCh2 = true := by decide +kernel
set_option maxRecDepth 100000 in
theorem pgCh2_160 : (List.range' 160 32).all pgCh2 = true := by decide +kernel
set_option maxRecDepth 100000 in
theorem pgCh2_192 : (List.range' 192 32).all pgCh2 = true := by decide +kernel
set_option maxRecDepth 100000 in
theorem pgCh2_224 : (List.range' 224 30).all pgCh2 = true := by decide +kernel
theorem pgChunk {chk : Nat → Bool} {a m : Nat} (h : (List.range' a m).all chk = true) {j : Nat} (h1 : a ≤ j) (h2 : j < a + m) : chk j = true := List.all_eq_true.mp h j (List.mem_range'_1.mpr ⟨h1, h2⟩)
set_option maxRecDepth 100000 in
theorem pgM_len : pgM.length = 254 := by decide +kernel
theorem pgCh2_ok {j : Nat} (hj : j < 254) : pgCh2 j = true := by
  by_cases h0 : j < 32
  · exact pgChunk pgCh2_0 (by omega) (by omega)
  by_cases h32 : j < 64
  · exact pgChunk pgCh2_32 (by omega) (by omega)
  by_cases h64 : j < 96
  · exact pgChunk pgCh2_64 (by omega) (by omega)
  by_cases h96 : j < 128
  · exact pgChunk pgCh2_96 (by omega) (by omega)
  by_cases h128 : j < 160
  · exact pgChunk pgCh2_128 (by omega) (by omega)
  by_cases h160 : j < 192
  · exact pgChunk pgCh2_160 (by omega) (by omega)
  by_cases h192 : j < 224
  · exact pgChunk pgCh2_192 (by omega) (by omega)
  exact pgChunk pgCh2_224 (by omega) (by omega)
theorem pgCode_ok {j : Nat} {E : mvE} (hj0 : j ≠ 0) (hj : j < 254) (hE : pgM[j]? = some E) : ∃ w, pgWs[j]? = some w ∧ some (mvCd E) = lw_tbl[w.1]? := by
  by_cases h0 : j < 16
  · exact pgMapAt (f := fun (E : mvE) => some (mvCd E)) (g := fun (w : Nat × Nat × Nat × Nat) => lw_tbl[w.1]?) pgCode_0 (by omega) (by omega) hE
  by_cases h16 : j < 32
  · exact pgMapAt (f := fun (E : mvE) => some (mvCd E)) (g := fun (w : Nat × Nat × Nat × Nat) => lw_tbl[w.1]?) pgCode_16 (by omega) (by omega) hE
  by_cases h32 : j < 48
  · exact pgMapAt (f := fun (E : mvE) => some (mvCd E)) (g := fun (w : Nat × Nat × Nat × Nat) => lw_tbl[w.1]?) pgCode_32 (by omega) (by omega) hE
  by_cases h48 : j < 64
  · exact pgMapAt (f := fun (E : mvE) => some (mvCd E)) (g := fun (w : Nat × Nat × Nat × Nat) => lw_tbl[w.1]?) pgCode_48 (by omega) (by omega) hE
  by_cases h64 : j < 80
  · exact pgMapAt (f := fun (E : mvE) => some (mvCd E)) (g := fun (w : Nat × Nat × Nat × Nat) => lw_tbl[w.1]?) pgCode_64 (by omega) (by omega) hE
  by_cases h80 : j < 96
  · exact pgMapAt (f := fun (E : mvE) => some (mvCd E)) (g := fun (w : Nat × Nat × Nat × Nat) => lw_tbl[w.1]?) pgCode_80 (by omega) (by omega) hE
  by_cases h96 : j < 112
  · exact pgMapAt (f := fun (E : mvE) => some (mvCd E)) (g := fun (w : Nat × Nat × Nat × Nat) => lw_tbl[w.1]?) pgCode_96 (by omega) (by omega) hE
  by_cases h112 : j < 128
  · exact pgMapAt (f := fun (E : mvE) => some (mvCd E)) (g := fun (w : Nat × Nat × Nat × Nat) => lw_tbl[w.1]?) pgCode_112 (by omega) (by omega) hE
  by_cases h128 : j < 144
  · exact pgMapAt (f := fun (E : mvE) => some (mvCd E)) (g := fun (w : Nat × Nat × Nat × Nat) => lw_tbl[w.1]?) pgCode_128 (by omega) (by omega) hE
  by_cases h144 : j < 160
  · exact pgMapAt (f := fun (E : mvE) => some (mvCd E)) (g := fun (w : Nat × Nat × Nat × Nat) => lw_tbl[w.1]?) pgCode_144 (by omega) (by omega) hE
  by_cases h160 : j < 176
  · exact pgMapAt (f := fun (E : mvE) => some (mvCd E)) (g := fun (w : Nat × Nat × Nat × Nat) => lw_tbl[w.1]?) pgCode_160 (by omega) (by omega) hE
  by_cases h176 : j < 192
  · exact pgMapAt (f := fun (E : mvE) => some (mvCd E)) (g := fun (w : Nat × Nat × Nat × Nat) => lw_tbl[w.1]?) pgCode_176 (by omega) (by omega) hE
  by_cases h192 : j < 208
  · exact pgMapAt (f := fun (E : mvE) => some (mvCd E)) (g := fun (w : Nat × Nat × Nat × Nat) => lw_tbl[w.1]?) pgCode_192 (by omega) (by omega) hE
  by_cases h208 : j < 224
  · exact pgMapAt (f := fun (E : mvE) => some (mvCd E)) (g := fun (w : Nat × Nat × Nat × Nat) => lw_tbl[w.1]?) pgCode_208 (by omega) (by omega) hE
  by_cases h224 : j < 240
  · exact pgMapAt (f := fun (E : mvE) => some (mvCd E)) (g := fun (w : Nat × Nat × Nat × Nat) => lw_tbl[w.1]?) pgCode_224 (by omega) (by omega) hE
  exact pgMapAt (f := fun (E : mvE) => some (mvCd E)) (g := fun (w : Nat × Nat × Nat × Nat) => lw_tbl[w.1]?) pgCode_240 (by omega) (by omega) hE
theorem pgCh2_in {j : Nat} {E : mvE} (h1 : pgM[j]? = some E) (hj : j ≠ 0) : ∃ w n, pgWs[j]? = some w ∧ pgPc[j]? = some n ∧ mvCd E ∈ pgT ∧ plainName E.1.cls = true ∧ E.2.2.1 ≤ 41 ∧ E.1.cls ≠ "java/lang/invoke/MethodHandle" ∧ E.1.cls ≠ "java/lang/invoke/VarHandle" ∧ Cond.initialized E.1.cls ∈ pgT ∧ (parseMethodDescriptor E.1.desc).map (fun d => d.parameters.length) = some n := by
  have hlt : j < 254 := by have := (List.getElem?_eq_some_iff.mp h1).1; rw [pgM_len] at this; exact this
  have h2 := pgCh2_ok hlt
  obtain ⟨w', hw', hc⟩ := pgCode_ok hj hlt h1
  unfold pgCh2 at h2
  rw [h1, hw'] at h2
  cases hn : pgPc[j]? with
  | none => rw [hn] at h2; cases h2
  | some n =>
    rw [hn] at h2
    simp only [Bool.and_eq_true, decide_eq_true_eq, Bool.or_eq_true] at h2
    rcases h2 with h2 | ⟨⟨⟨⟨⟨⟨h3, h4⟩, h5⟩, h6⟩, h7⟩, h8⟩, h9⟩
    · exact absurd h2 hj
    · exact ⟨w', n, hw', rfl, pgIn hc.symm h3, h4, h5, h6, h7, pgIn h8 rfl, h9⟩
theorem pg_okm (L : Nat) (xs : Nat → Int32) : mvOkm pgT (pgP L xs) := by
  intro j E hE hj
  obtain ⟨w, n, -, -, h1, h2, h3, h4, h5, -⟩ := pgCh2_in hE hj
  exact ⟨h1, h2, h3, h4, h5⟩
end
section
/-- calls -/
def pgChI (c : Nat) (q : Nat × Nat × Nat × Nat × Nat) : Bool := match pgM[q.2.1]?, pgWs[q.2.1]?, pgPc[q.2.1]? with
  | some E, some w, some n => decide (q.2.1 ≠ 0) && (if q.2.2.2.1 = 102 then decide (lw_tbl[q.2.2.2.2]? = some (.methodLinkNest (pgN.getD c "") q.1 E.1 "DictionaryHouse")) && decide (q.2.2.2.2 ∈ pgNi) else decide (lw_tbl[q.2.2.2.2]? = some (.methodLink (pgN.getD c "") q.1 E.1))) && decide (n = q.2.2.1) &&
    (if q.2.2.2.1 = 100 then decide (lw_tbl[w.2.2.1]? = some (.static E.1)) && decide (q.2.2.1 ≤ E.2.2.1)
     else if q.2.2.2.1 = 101 ∨ q.2.2.2.1 = 102 then decide (lw_tbl[w.2.2.1]? = some (.instanceMethod E.1)) && decide (E.1.name = "<init>") && E.2.2.2.1.isNone && E.2.2.2.2.isEmpty && decide (q.2.2.1 + 1 ≤ E.2.2.1)
     else decide (lw_tbl[w.2.2.1]? = some (.instanceMethod E.1)) && decide (lw_tbl[w.2.2.2]? = some (.selects E.1.cls E.1 E.1)) && E.2.2.2.2.isEmpty && decide (q.2.2.1 + 1 ≤ E.2.2.1) && (match pgCl[q.2.2.2.1]? with
      | some r => decide (r.1 = E.1.cls)
      | none => false))
  | _, _, _ => false
set_option maxRecDepth 100000 in
theorem pgChI_0_0 : (((pgIs.getD 0 []).drop 0).take 40).all (pgChI 0) = true := by decide +kernel
set_option maxRecDepth 100000 in
theorem pgChI_1_0 : (((pgIs.getD 1 []).drop 0).take 40).all (pgChI 1) = true := by decide +kernel
set_option maxRecDepth 100000 in
theorem pgChI_2_0 : (((pgIs.getD 2 []).drop 0).take 40).all (pgChI 2) = true := by decide +kernel
set_option maxRecDepth 100000 in
theorem pgChI_3_0 : (((pgIs.getD 3 []).drop 0).take 40).all (pgChI 3) = true := by decide +kernel
set_option maxRecDepth 100000 in
theorem pgChI_4_0 : (((pgIs.getD 4 []).drop 0).take 40).all (pgChI 4) = true := by decide +kernel
set_option maxRecDepth 100000 in
theorem pgChI_5_0 : (((pgIs.getD 5 []).drop 0).take 40).all (pgChI 5) = true := by decide +kernel
set_option maxRecDepth 100000 in
theorem pgChI_6_0 : (((pgIs.getD 6 []).drop 0).take 40).all (pgChI 6) = true := by decide +kernel
set_option maxRecDepth 100000 in
theorem pgChI_7_0 : (((pgIs.getD 7 []).drop 0).take 40).all (pgChI 7) = true := by decide +kernel
set_option maxRecDepth 100000 in
theorem pgChI_8_0 : (((pgIs.getD 8 []).drop 0).take 40).all (pgChI 8) = true := by decide +kernel
set_option maxRecDepth 100000 in
theorem pgChI_9_0 : (((pgIs.getD 9 []).drop 0).take 40).all (pgChI 9) = true := by decide +kernel
set_option maxRecDepth 100000 in
theorem pgChI_10_0 : (((pgIs.getD 10 []).drop 0).take 40).all (pgChI 10) = true := by decide +kernel
set_option maxRecDepth 100000 in
theorem pgChI_11_0 : (((pgIs.getD 11 []).drop 0).take 40).all (pgChI 11) = true := by decide +kernel
set_option maxRecDepth 100000 in
theorem pgChI_11_40 : (((pgIs.getD 11 []).drop 40).take 40).all (pgChI 11) = true := by decide +kernel
set_option maxRecDepth 100000 in
theorem pgChI_12_0 : (((pgIs.getD 12 []).drop 0).take 40).all (pgChI 12) = true := by decide +kernel
set_option maxRecDepth 100000 in
theorem pgChI_12_40 : (((pgIs.getD 12 []).drop 40).take 40).all (pgChI 12) = true := by decide +kernel
set_option maxRecDepth 100000 in
theorem pgChI_13_0 : (((pgIs.getD 13 []).drop 0).take 40).all (pgChI 13) = true := by decide +kernel
set_option maxRecDepth 100000 in
theorem pgChI_13_40 : (((pgIs.getD 13 []).drop 40).take 40).all (pgChI 13) = true := by decide +kernel
set_option maxRecDepth 100000 in
theorem pgChI_14_0 : (((pgIs.getD 14 []).drop 0).take 40).all (pgChI 14) = true := by decide +kernel
set_option maxRecDepth 100000 in
theorem pgChI_15_0 : (((pgIs.getD 15 []).drop 0).take 40).all (pgChI 15) = true := by decide +kernel
set_option maxRecDepth 100000 in
theorem pgChI_e0 : (pgIs.getD 0 []).drop (0 + 40) = [] := by decide +kernel
set_option maxRecDepth 100000 in
theorem pgChI_e1 : (pgIs.getD 1 []).drop (0 + 40) = [] := by decide +kernel
set_option maxRecDepth 100000 in
theorem pgChI_e2 : (pgIs.getD 2 []).drop (0 + 40) = [] := by decide +kernel
set_option maxRecDepth 100000 in
theorem pgChI_e3 : (pgIs.getD 3 []).drop (0 + 40) = [] := by decide +kernel
set_option maxRecDepth 100000 in
theorem pgChI_e4 : (pgIs.getD 4 []).drop (0 + 40) = [] := by decide +kernel
set_option maxRecDepth 100000 in
theorem pgChI_e5 : (pgIs.getD 5 []).drop (0 + 40) = [] := by decide +kernel
set_option maxRecDepth 100000 in
theorem pgChI_e6 : (pgIs.getD 6 []).drop (0 + 40) = [] := by decide +kernel
set_option maxRecDepth 100000 in
theorem pgChI_e7 : (pgIs.getD 7 []).drop (0 + 40) = [] := by decide +kernel
set_option maxRecDepth 100000 in
theorem pgChI_e8 : (pgIs.getD 8 []).drop (0 + 40) = [] := by decide +kernel
set_option maxRecDepth 100000 in
theorem pgChI_e9 : (pgIs.getD 9 []).drop (0 + 40) = [] := by decide +kernel
set_option maxRecDepth 100000 in
theorem pgChI_e10 : (pgIs.getD 10 []).drop (0 + 40) = [] := by decide +kernel
set_option maxRecDepth 100000 in
theorem pgChI_e11 : (pgIs.getD 11 []).drop (40 + 40) = [] := by decide +kernel
set_option maxRecDepth 100000 in
theorem pgChI_e12 : (pgIs.getD 12 []).drop (40 + 40) = [] := by decide +kernel
set_option maxRecDepth 100000 in
theorem pgChI_e13 : (pgIs.getD 13 []).drop (40 + 40) = [] := by decide +kernel
set_option maxRecDepth 100000 in
theorem pgChI_e14 : (pgIs.getD 14 []).drop (0 + 40) = [] := by decide +kernel
set_option maxRecDepth 100000 in
theorem pgChI_e15 : (pgIs.getD 15 []).drop (0 + 40) = [] := by decide +kernel
theorem pgChI_ok : ∀ (c : Nat) (q : Nat × Nat × Nat × Nat × Nat), q ∈ pgIs.getD c [] → pgChI c q = true := by
  intro c q hq
  have key : ∀ (l : List (Nat × Nat × Nat × Nat × Nat)) (b : Nat), ((l.drop b).take 40).all (pgChI c) = true → (∀ x ∈ l.drop (b + 40), pgChI c x = true) → ∀ x ∈ l.drop b, pgChI c x = true := by
    intro l b h1 h2 x hx
    rw [← List.take_append_drop 40 (l.drop b), List.drop_drop] at hx
    rcases List.mem_append.mp hx with h | h
    · exact List.all_eq_true.mp h1 x h
    · exact h2 x h
  match c, hq with
  | 0, hq => exact (key _ 0 pgChI_0_0 (fun x hx => by rw [pgChI_e0] at hx; cases hx)) q (by rw [List.drop_zero]; exact hq)
  | 1, hq => exact (key _ 0 pgChI_1_0 (fun x hx => by rw [pgChI_e1] at hx; cases hx)) q (by rw [List.drop_zero]; exact hq)
  | 2, hq => exact (key _ 0 pgChI_2_0 (fun x hx => by rw [pgChI_e2] at hx; cases hx)) q (by rw [List.drop_zero]; exact hq)
  | 3, hq => exact (key _ 0 pgChI_3_0 (fun x hx => by rw [pgChI_e3] at hx; cases hx)) q (by rw [List.drop_zero]; exact hq)
  | 4, hq => exact (key _ 0 pgChI_4_0 (fun x hx => by rw [pgChI_e4] at hx; cases hx)) q (by rw [List.drop_zero]; exact hq)
  | 5, hq => exact (key _ 0 pgChI_5_0 (fun x hx => by rw [pgChI_e5] at hx; cases hx)) q (by rw [List.drop_zero]; exact hq)
  | 6, hq => exact (key _ 0 pgChI_6_0 (fun x hx => by rw [pgChI_e6] at hx; cases hx)) q (by rw [List.drop_zero]; exact hq)
  | 7, hq => exact (key _ 0 pgChI_7_0 (fun x hx => by rw [pgChI_e7] at hx; cases hx)) q (by rw [List.drop_zero]; exact hq)
  | 8, hq => exact (key _ 0 pgChI_8_0 (fun x hx => by rw [pgChI_e8] at hx; cases hx)) q (by rw [List.drop_zero]; exact hq)
  | 9, hq => exact (key _ 0 pgChI_9_0 (fun x hx => by rw [pgChI_e9] at hx; cases hx)) q (by rw [List.drop_zero]; exact hq)
  | 10, hq => exact (key _ 0 pgChI_10_0 (fun x hx => by rw [pgChI_e10] at hx; cases hx)) q (by rw [List.drop_zero]; exact hq)
  | 11, hq => exact (key _ 0 pgChI_11_0 (key _ 40 pgChI_11_40 (fun x hx => by rw [pgChI_e11] at hx; cases hx))) q (by rw [List.drop_zero]; exact hq)
  | 12, hq => exact (key _ 0 pgChI_12_0 (key _ 40 pgChI_12_40 (fun x hx => by rw [pgChI_e12] at hx; cases hx))) q (by rw [List.drop_zero]; exact hq)
  | 13, hq => exact (key _ 0 pgChI_13_0 (key _ 40 pgChI_13_40 (fun x hx => by rw [pgChI_e13] at hx; cases hx))) q (by rw [List.drop_zero]; exact hq)
  | 14, hq => exact (key _ 0 pgChI_14_0 (fun x hx => by rw [pgChI_e14] at hx; cases hx)) q (by rw [List.drop_zero]; exact hq)
  | 15, hq => exact (key _ 0 pgChI_15_0 (fun x hx => by rw [pgChI_e15] at hx; cases hx)) q (by rw [List.drop_zero]; exact hq)
  | n + 16, hq =>
    have e : pgIs.getD (n + 16) [] = [] := by
      rw [List.getD_eq_getElem?_getD, List.getElem?_eq_none (by show 16 ≤ n + 16; omega)]
      rfl
    rw [e] at hq
    cases hq
theorem pg_oki (L : Nat) (xs : Nat → Int32) : mvOki pgT pgCl (pgP L xs) := by
  intro j E idx j' n ci hE hf
  obtain ⟨q, hq, he⟩ := Option.map_eq_some_iff.mp hf
  obtain ⟨h1, h2⟩ := pgFnd hq
  obtain ⟨kc, hk, hin⟩ := pgAt_in h1
  have h3 := pgChI_ok _ _ hin
  obtain ⟨kc', hk', hcls, -⟩ := pgM_in hE
  cases Option.some.inj (hk.symm.trans hk')
  have h2 : q.1 = idx := by simpa using h2
  subst h2
  simp only [Prod.mk.injEq] at he
  obtain ⟨rfl, rfl, rfl⟩ := he
  unfold pgChI at h3
  split at h3
  · rename_i E' w n' hE' hw hn'
    simp only [Bool.and_eq_true, decide_eq_true_eq] at h3
    obtain ⟨⟨⟨a1, a2⟩, a4⟩, a5⟩ := h3
    obtain ⟨w9, n9, -, hn9, -, -, -, -, -, hini, hpar⟩ := pgCh2_in hE' a1
    cases Option.some.inj (hn'.symm.trans hn9)
    subst a4
    refine ⟨E', hE', a1, fun h => ?_, hini, hpar, fun h => ?_, fun h => ?_, fun h => ?_, fun h => ?_⟩
    · rw [if_neg h] at a2
      rw [hcls]
      exact pgIn (of_decide_eq_true a2) rfl
    · rw [if_pos h] at a5
      simp only [Bool.and_eq_true, decide_eq_true_eq] at a5
      exact ⟨pgIn a5.1 rfl, a5.2⟩
    · rw [if_neg (by omega), if_pos (Or.inl h)] at a5
      simp only [Bool.and_eq_true, decide_eq_true_eq, Option.isNone_iff_eq_none, List.isEmpty_iff] at a5
      exact ⟨pgIn a5.1.1.1.1 rfl, a5.1.1.1.2, a5.1.1.2, a5.1.2, a5.2⟩
    · rw [if_neg (by omega), if_pos (Or.inr h)] at a5
      rw [if_pos h] at a2
      simp only [Bool.and_eq_true, decide_eq_true_eq, Option.isNone_iff_eq_none, List.isEmpty_iff] at a5 a2
      exact ⟨pgIn a5.1.1.1.1 rfl, a5.1.1.1.2, a5.1.1.2, a5.1.2, a5.2, _, by rw [hcls]; exact pgNl_in a2.1 a2.2⟩
    · rw [if_neg (by omega), if_neg (by omega)] at a5
      simp only [Bool.and_eq_true, decide_eq_true_eq, List.isEmpty_iff] at a5
      obtain ⟨⟨⟨⟨b1, b2⟩, b3⟩, b4⟩, b5⟩ := a5
      refine ⟨pgIn b1 rfl, pgIn b2 rfl, b3, b4, ?_⟩
      split at b5
      · rename_i r hr; exact ⟨r, hr, of_decide_eq_true b5⟩
      · cases b5
  · cases h3
end
section
/-! Handlers, the throwing methods, and all together. -/
def pgChH (j : Nat) : Bool := match pgM[j]? with
  | some E => (pgHs.getD j []).all (fun q => match E.2.2.2.2[q.2.1]? with
    | some r => decide (r.2.2.2 ≠ 0) && decide (r.2.2.1 = q.2.2.1) && decide (lw_tbl[q.2.2.2.2.2.1]? = some (.classLink E.1.cls r.2.2.2 q.1)) && decide (lw_tbl[q.2.2.2.2.2.2]? = some (.castable q.1 q.1)) && decide (q.2.2.2.2.2.2 ∈ pgNi) && decide (q.2.2.2.1 < E.2.2.1) &&
      (match decode E.2.1 q.2.2.1 with
      | .ok (.astore x, 2) => decide (x = q.2.2.2.1) && decide (q.2.2.2.2.1 = q.2.2.1 + 2)
      | .ok (.astore_n x, 1) => decide ((x : Nat) = q.2.2.2.1) && decide (q.2.2.2.2.1 = q.2.2.1 + 1)
      | _ => false) &&
      (E.2.2.2.2.take q.2.1).all (fun z => decide (z.1 = r.1) && decide (z.2.1 = r.2.1) && decide (z.2.2.2 ≠ 0) && decide (q.1 = "java/lang/IllegalStateException") && (pgHs.getD j []).any (fun q0 => decide (q0.1 = "java/lang/IllegalArgumentException") && decide (lw_tbl[q0.2.2.2.2.2.1]? = some (.classLink E.1.cls z.2.2.2 "java/lang/IllegalArgumentException"))))
    | none => false)
  | none => false
set_option maxRecDepth 100000 in
theorem pgChH_ok : (List.range pgHs.length).all pgChH = true := by decide +kernel
theorem pg_okh (L : Nat) (xs : Nat → Int32) : mvOkh pgT (pgP L xs) := by
  intro j E pc ex hp x pc' hE hf
  have hf : pgHf j pc ex = some (hp, x, pc') := hf
  have hE : pgM[j]? = some E := hE
  unfold pgHf at hf
  rw [hE] at hf
  split at hf
  · rename_i E' q hE' hq
    cases hE'
    split at hf
    · rename_i r hr
      split at hf
      · rename_i hpc
        cases hf
        obtain ⟨h1, h2⟩ := pgFnd hq
        have h2 : q.1 = ex := by simpa using h2
        subst h2
        have hlt : j < pgHs.length := by
          by_cases hj : j < pgHs.length
          · exact hj
          · rw [List.getD_eq_getElem?_getD, List.getElem?_eq_none (by omega)] at h1
            cases h1
        have h3 := List.all_eq_true.mp pgChH_ok j (List.mem_range.mpr hlt)
        unfold pgChH at h3
        rw [hE] at h3
        have h4 := List.all_eq_true.mp h3 q h1
        rw [hr] at h4
        simp only [Bool.and_eq_true, decide_eq_true_eq, Bool.or_eq_true, List.all_eq_true] at h4
        obtain ⟨⟨⟨⟨⟨⟨⟨a1, a2⟩, a3⟩, a4⟩, a4'⟩, a5⟩, a6⟩, a7⟩ := h4
        have hlen : q.2.1 < E.2.2.2.2.length := (List.getElem?_eq_some_iff.mp hr).1
        have hsp : E.2.2.2.2 = E.2.2.2.2.take q.2.1 ++ r :: E.2.2.2.2.drop (q.2.1 + 1) := by
          have e1 : E.2.2.2.2.drop q.2.1 = r :: E.2.2.2.2.drop (q.2.1 + 1) := by
            rw [List.drop_eq_getElem_cons hlen]
            congr 1
            exact (List.getElem?_eq_some_iff.mp hr).2
          rw [← e1, List.take_append_drop]
        refine ⟨tableOf (E.2.2.2.2.take q.2.1), ⟨r.1, r.2.1, r.2.2.1, r.2.2.2⟩, tableOf (E.2.2.2.2.drop (q.2.1 + 1)), ?_, fun z hz => ?_, ?_, a1, pgIn a3 rfl, pgNl_in a4 a4', a2, a5, ?_⟩
        · conv => lhs; rw [hsp]
          simp [tableOf]
        · obtain ⟨z0, hz0, rfl⟩ := List.mem_map.mp hz
          obtain ⟨⟨⟨⟨b1, b2⟩, b3⟩, b4⟩, b5⟩ := a7 z0 hz0
          refine Or.inr ⟨?_, b3, b4, ?_⟩
          · simp only [covers, b1, b2]
            simp only [Bool.and_eq_true, decide_eq_true_eq]
            exact hpc
          · obtain ⟨q0, -, hq0⟩ := List.any_eq_true.mp b5
            simp only [Bool.and_eq_true, decide_eq_true_eq] at hq0
            exact pgIn hq0.2 rfl
        · simp only [covers, Bool.and_eq_true, decide_eq_true_eq]
          exact hpc
        · split at a6
          · rename_i x0 hd
            simp only [Bool.and_eq_true, decide_eq_true_eq] at a6
            exact Or.inl ⟨by rw [hd, a6.1], a6.2⟩
          · rename_i x0 hd
            simp only [Bool.and_eq_true, decide_eq_true_eq] at a6
            exact Or.inr ⟨x0, hd, a6.1, a6.2⟩
          · cases a6
      · cases hf
    · cases hf
  · cases hf
set_option maxRecDepth 100000 in
theorem pgNl_warm : ∀ w ∈ pgNl, mvWarm w = true := by decide +kernel
theorem pg_okall (L : Nat) (xs : Nat → Int32) : mvOkAll pgT pgCl (pgP L xs) "DictionaryHouse" "ARGUMENTS" "[I" := ⟨fun w hw => (List.mem_filter.mp hw).2, pg_okm L xs, pg_oki L xs, pg_oko L xs, pg_okh L xs, pg_okf L xs, pg_okp L xs, pg_okn L xs, pg_oka, pg_oks L xs, pg_okk L xs, pgNl_warm⟩
end
section
/-! The two methods that throw, by hand. -/
def pgNm : List String := ["java/lang/RuntimeException", "java/lang/Exception"]
def pgXs : List (Nat × Nat × String) := [(pgXA.1, pgXA.2, "java/lang/IllegalArgumentException"), (pgXS.1, pgXS.2, "java/lang/IllegalStateException")]
set_option maxRecDepth 100000 in
theorem pgX_good : ∀ q ∈ pgXs, ∀ w ∈ (vx_at0 "DictionaryHouse" q.2.1 q.2.2 pgNm).filter goodWord, w ∈ lw_tbl := by decide +kernel
set_option maxRecDepth 100000 in
theorem pgX_rest : ∀ q ∈ pgXs, ∀ w ∈ (vx_at0 "DictionaryHouse" q.2.1 q.2.2 pgNm).filter (fun w => !goodWord w), w ∈ pgNl := by decide +kernel
set_option maxRecDepth 100000 in
theorem pgX_link : ∀ q ∈ pgXs, Cond.classLink "DictionaryHouse" q.1 q.2.2 ∈ lw_tbl ∧ Cond.initialized q.2.2 ∈ lw_tbl ∧ Bundle.fit q.2.2 = true ∧ ∀ w ∈ Cond.classLink "DictionaryHouse" q.1 q.2.2 :: Cond.initialized q.2.2 :: vx_at0 "DictionaryHouse" q.2.1 q.2.2 pgNm, vx_ot w = true := by decide +kernel
set_option maxRecDepth 100000 in
theorem pgX_names : ∀ n ∈ pgNm, Bundle.fit n = true := by decide +kernel
section PGX
variable {l : Launch} {N0 : Nat} {xa : Nat → Nat} {cA : Nat → ClassId} {D : va_G} {L : Nat} {xs : Nat → Int32}
set_option maxRecDepth 100000 in
theorem pgReq_ok (hl : l.stackTraces = false) {E : mvE} {q : Nat × Nat × String} (hq : q ∈ pgXs) (hEc : E.1.cls = "DictionaryHouse") (hE1 : E.2.2.1 = 1) (hE2 : E.2.2.2.1 = none) (hE3 : E.2.2.2.2 = []) (hpl : plainName E.1.cls = true)
    (d0 : decode E.2.1 0 = .ok (.iload_n 0, 1)) (d1 : decode E.2.1 1 = .ok (.ifCond .ne 11, 3)) (d4 : decode E.2.1 4 = .ok (.new q.1, 3)) (d7 : decode E.2.1 7 = .ok (.dup, 1)) (d8 : decode E.2.1 8 = .ok (.invokespecial q.2.1, 3)) (d11 : decode E.2.1 11 = .ok (.athrow, 1)) (d12 : decode E.2.1 12 = .ok (.return_, 1))
    {as : List mvV} {h : mvH} {o : mvO} {d : Nat} (hr : pgRq q.2.2 as h = some o) (hd : 8 ≤ d) : mvMt (pgP L xs) N0 xa cA D pgCl "DictionaryHouse" "ARGUMENTS" "[I" l pgT E as h o d := by
  unfold pgRq at hr
  split at hr
  · rename_i x
    refine vx_ofW (ws' := pgT) (cc := E.2.1) (maxL := 1) (ret := none) hpl (by simp only [mvCd, hE3, hE1, hE2]) ?_
    intro p e s m args below meth c s₁ B hml ht hv
    obtain ⟨rfl, hw, hat⟩ := hv
    have hts0 := atoms_spec (ws := mvCd E :: pgT) B.pre
    have hts : ∀ w ∈ pgT, w.before ([mvCv N0 xa (.inl x)] : List Value).toArray s = true := fun w hw => hts0 w (List.mem_cons_of_mem _ hw)
    have hx := B.exec
    have hb := B.bytes
    have hrt := B.returns
    have hlocks := B.notSynchronized
    have hown : s.vm.findClass "DictionaryHouse" = some m.cls := by rw [← hEc]; exact findClass_of_methodNamed B.named
    have hS : va_S (fun q : Nat => N0 ≤ q) s.heap s.heap [] := va_S.rf
    show W p l e (mvRm d o.2.2.1 o.2.2.2) s m ([Value.int x] : List Value).toArray below meth c s.heap [] 0 0 _ (entryFrame m ([Value.int x] : List Value).toArray 1)
    have hl9 := lv_entry ([Value.int x] : List Value) (n := 1) (Nat.le_of_ble_eq_true rfl)
    rw [lg_entry_eq]
    generalize (lg_sl ([Value.int x] : List Value) ++ List.replicate (1 - (lg_sl ([Value.int x] : List Value)).length) Slot.unset).toArray = ls at hl9 ⊢
    have hl9 : lv_has ls 1 [(0, .int x)] := hl9
    refine lv_iload_n hx hb d0 rfl (lv_at hl9 0 rfl) ?_
    refine lv_if_ne (tgt := 12) hx hb d1 (by decide) (fun hne => ?_) (fun he => ?_)
    · rw [if_neg hne] at hr
      cases hr
      exact vx_ret (W.vret hx hb hrt (fun t ht9 _ => ⟨⟨none, rfl, rfl⟩, by rw [ht9]; exact hat, hS.F ht9⟩) hS.2.2 d12 hlocks)
    · rw [if_pos he] at hr
      cases hr
      obtain ⟨k1, k2, k3, k4⟩ := pgX_link q hq
      have hin : ∀ w ∈ lw_tbl, goodWord w = true → w.before ([mvCv N0 xa (.inl x)] : List Value).toArray s = true := fun w hw hg => hts w (List.mem_filter.mpr ⟨hw, hg⟩)
      refine vx_throw0 (names := pgNm) hx hb hl hown k3 pgX_names (hin _ k1 rfl) (hin _ k2 rfl) (vx_hat (fun w hw => hin w (pgX_good q hq w hw) (List.mem_filter.mp hw).2) (pgX_rest q hq) ?_) k4 hw.2.2.2.1 hw.2.2.2.2.1 hS (hl9.1.trans hml.symm) d4 d7 d8 d11 (fun x9 hx9 => (ht x9 hx9).elim) (by show 2 + 3 < d; omega) (by show 0 + (13 * (2 + 1) + 42) ≤ 60 * d; omega) (Nat.le_refl _) (Nat.le_refl _) hlocks (fun t ht1 ht2 ht3 => ⟨rfl, ⟨hat.1.kept (fun k q hk => ht3 q.1 (hat.1 k q hk).lt), fun z => by cases z⟩, ht2, fun q h1 _ => ht3 q h1⟩) hS.2.2 (Nat.le_refl _) (Nat.le_refl _)
      intro w hw9
      exact va_Nw.use (mvWarm_on (pgNl_warm w hw9)) (hw.2.2.2.2.2.2.2 w hw9)
  · cases hr
end PGX
end
section
/-! The start: what stands at the law's entry, as the small machine wants it. -/
set_option maxRecDepth 100000 in
theorem pgEA_at : pgM[pgJA]? = some pgEA := by rfl
set_option maxRecDepth 100000 in
theorem pgES_at : pgM[pgJS]? = some pgES := by rfl
section PGS
variable {l : Launch} {N0 : Nat} {xa : Nat → Nat} {cA : Nat → ClassId} {D : va_G} {L : Nat} {xs : Nat → Int32}
set_option maxRecDepth 100000 in
theorem pgB_ok (hl : l.stackTraces = false) : ∀ (j : Nat) (E : mvE) (b : List mvV → mvH → Option mvO) (as : List mvV) (h : mvH) (o : mvO) (d : Nat), mvPm (pgP L xs) j = some E → mvPb (pgP L xs) j = some b → b as h = some o → 8 ≤ d → mvMt (pgP L xs) N0 xa cA D pgCl "DictionaryHouse" "ARGUMENTS" "[I" l pgT E as h o d := by
  intro j E b as h o d hE hb ho hd
  have hE : pgM[j]? = some E := hE
  have hb : pgBb j = some b := hb
  unfold pgBb at hb
  split at hb
  · rename_i hj
    subst hj
    cases hb
    cases Option.some.inj (pgEA_at.symm.trans hE)
    exact pgReq_ok (q := (pgXA.1, pgXA.2, "java/lang/IllegalArgumentException")) hl (by simp [pgXs]) rfl rfl rfl rfl (by decide +kernel) (by decide +kernel) (by decide +kernel) (by decide +kernel) (by decide +kernel) (by decide +kernel) (by decide +kernel) (by decide +kernel) ho hd
  · split at hb
    · rename_i hj
      subst hj
      cases hb
      cases Option.some.inj (pgES_at.symm.trans hE)
      exact pgReq_ok (q := (pgXS.1, pgXS.2, "java/lang/IllegalStateException")) hl (by simp [pgXs]) rfl rfl rfl rfl (by decide +kernel) (by decide +kernel) (by decide +kernel) (by decide +kernel) (by decide +kernel) (by decide +kernel) (by decide +kernel) (by decide +kernel) ho hd
    · cases hb
end PGS
/-- an array's name in the tables -/
theorem pgArr {args : Array Value} {s : State} {ty : FieldType} (hty : ty = .int ∨ ty = .boolean ∨ ty = .long) (h : (Cond.arrayClass ty).before args s = true) : ∃ cT : ClassId, ArrOfT s cT ty ∧ va_RA s cT ty := by
  obtain ⟨cT, kA, comp, h1, h2, h3⟩ := Cond.arrayClass_spec h
  refine ⟨cT, fun n z => ⟨fun k h => (by cases h), kA, h2, comp, h3⟩, ?_⟩
  rcases hty with rfl | rfl | rfl <;> exact h1
def pgChJ (i : Nat) : Bool := match pgCl[i]? with
  | some r => decide (lw_tbl[pgIx.getD i 0]? = some (.instantiable r.1 r.2.2))
  | none => false
set_option maxRecDepth 100000 in
theorem pgChJ_ok : (List.range pgCl.length).all pgChJ = true := by decide +kernel
theorem pgInst {i : Nat} {r : vw_C} (h : pgCl[i]? = some r) : Cond.instantiable r.1 r.2.2 ∈ lw_tbl := by
  have h2 := List.all_eq_true.mp pgChJ_ok i (List.mem_range.mpr (List.getElem?_eq_some_iff.mp h).1)
  unfold pgChJ at h2
  rw [h] at h2
  exact List.mem_of_getElem? (of_decide_eq_true h2)
/-- the world's numbers and slots -/
theorem pgKnown {args : Array Value} {s : State} (hts : ∀ w ∈ lw_tbl, w.before args s = true) : ∃ (D : va_G) (cA : Nat → ClassId), va_K D pgCl (mvTys cA) s := by
  have h1 : ∀ i : Nat, ∃ q : ClassId × (Nat → Nat), ∀ r, pgCl[i]? = some r → u_Kn s r.1 r.2.1 r.2.2 q.1 q.2 := by
    intro i
    cases hr : pgCl[i]? with
    | none => exact ⟨(0, fun _ => 0), fun r h => by cases h⟩
    | some r =>
      obtain ⟨q1, q2, hq⟩ := u_known (C := r.1) (T := r.2.1) (N := r.2.2) (n := r.2.2) hts (fun w hw => (List.mem_filter.mp ((pgOf hr).1 w hw)).1) (hts _ (pgInst hr))
      exact ⟨(q1, q2), fun r' h => by cases h; exact hq⟩
  obtain ⟨c0, a0⟩ := pgArr (Or.inl rfl) (hts _ (List.mem_filter.mp (pg_oka .int (Or.inl rfl))).1)
  obtain ⟨c1, a1⟩ := pgArr (Or.inr (Or.inl rfl)) (hts _ (List.mem_filter.mp (pg_oka .boolean (Or.inr (Or.inl rfl)))).1)
  obtain ⟨c2, a2⟩ := pgArr (Or.inr (Or.inr rfl)) (hts _ (List.mem_filter.mp (pg_oka .long (Or.inr (Or.inr rfl)))).1)
  refine ⟨(fun i => (Classical.choose (h1 i)).1, fun i => (Classical.choose (h1 i)).2), fun t => if t = 0 then c0 else if t = 1 then c1 else c2, fun i r hr => Classical.choose_spec (h1 i) r hr, fun k q hq => ?_⟩
  match k, hq with
  | 0, hq => cases hq; exact a0
  | 1, hq => cases hq; exact a1
  | 2, hq => cases hq; exact a2
  | k + 3, hq => simp [mvTys] at hq
end
section
/-! THE CLAIM OUT OF ONE WALK OF THE LAW'S BODY. Your part is whole_start (and what it stands on); all else here is the same for every law, but numbers. -/
def R_law : String := "DictionaryHouseLaw"
def lw_P (b : Addr) (xs : List Int32) (args : Array Value) (s : State) : Prop := args = #[.ref b] ∧ s.IntsAt b xs ∧ xs.length ≤ 7 ∧ (Jvm.Cond.and given_1 narrow_1).before args s = true
def lw_Q (_ : Array Value) (s : State) (o : Outcome) (t : State) : Prop := o = .returned (some (.int 1)) ∧ Framed s o t [] 600002 7302231
def lw_Z (below : List Frame) (a : Array Value) (s : State) : State → Prop := fun t => ∃ o, t.status = .running ∧ Ended t below o ∧ lw_Q a s o t
/-- what holds at the law's entry: the machine, the code, the tables' words (any of lw_tbl by 'hts w (by decide +kernel)'), the script of L ints xs at the cell b, what the Statement gives of the start (any of its parts by flat_of_before) -/
def lw_At (p : Program) (s : State) (m : MethodId) (meth : Method) (c : Code) (b L : Nat) (xs : Nat → Int32) : Prop :=
  p.tables.exec = Jvm.exec ∧ c.code = code ∧ meth.sig.returnType = ret ∧ c.maxLocals = 7 ∧ s.vm.findClass R_law = some m.cls ∧ (∀ w ∈ lw_tbl, w.before #[Value.ref b] s = true) ∧ va_X b L xs s s.heap ∧ b < s.heap.size ∧ meth.locks = false ∧ (Jvm.Cond.and given_1 narrow_1).before #[Value.ref b] s = true ∧ meth.name = "law" ∧ c.exceptionTable.toList = []
set_option maxRecDepth 100000 in
theorem pgE0_at : pgM[0]? = some (⟨"DictionaryHouseLaw", "law", "([I)Z"⟩, code, 7, some .boolean, []) := by rfl
set_option maxHeartbeats 4000000 in
set_option maxRecDepth 100000 in
/-- a run of the small machine that ends with 1 is the law's -/
theorem pgEnter {p : Program} {e : Env} {s : State} {m : MethodId} {below : List Frame} {meth : Method} {c : Code} (l : Launch) (hl : l.stackTraces = false) {b L : Nat} {xs : Nat → Int32} (hL : L < 2 ^ 31) (C0 : lw_At p s m meth c b L xs) {n d : Nat} {h : mvH} {kc ks : Nat} (hd : d ≤ 1400)
    (hrun : mvRun (pgP L xs) n d 0 0 [(0, .inr (.inr (.inr 1)))] [] (true, []) = some (.inl (some (.inl 1)), h, kc, ks)) (hkc : kc ≤ 600002) (hks : ks ≤ 7302231) :
    W p l e room_1 s m #[Value.ref b] below meth c s.heap [] 0 0 (lw_Z below #[Value.ref b] s) (entryFrame m ([Value.ref b] : List Value).toArray 7) := by
  obtain ⟨hx, hb, hr, hml, hown, hts, hX, hbl, hlocks, hgv, hnm, htab⟩ := C0
  obtain ⟨D, cA, hK⟩ := pgKnown hts
  have hfl := flat_of_before _ hgv
  have hA : ∀ a : Nat, a < s.heap.size → ¬ (fun q : Nat => s.heap.size ≤ q) a := fun a h => Nat.not_le.mpr h
  obtain ⟨t, ht1, ht2⟩ := va_Tof (tm := .static "DictionaryHouse" "ARGUMENTS" "[I") (ty := .int) (N := 8) (f := fun j => .int (pgAa j)) (A := fun q : Nat => s.heap.size ≤ q) (by decide) (hfl (.arrayOf (.static "DictionaryHouse" "ARGUMENTS" "[I") .int) (by decide +kernel)) (va_eqt (hfl (.eq (.length (.static "DictionaryHouse" "ARGUMENTS" "[I")) (.int 8)) (by decide +kernel)))
    (fun j hj => by
      match j, hj with
      | 0, _ => exact va_eqt (hfl (.eq (.elem (.static "DictionaryHouse" "ARGUMENTS" "[I") (.int 0)) (.int 0)) (by decide +kernel))
      | 1, _ => exact va_eqt (hfl (.eq (.elem (.static "DictionaryHouse" "ARGUMENTS" "[I") (.int 1)) (.int 0)) (by decide +kernel))
      | 2, _ => exact va_eqt (hfl (.eq (.elem (.static "DictionaryHouse" "ARGUMENTS" "[I") (.int 2)) (.int 2)) (by decide +kernel))
      | 3, _ => exact va_eqt (hfl (.eq (.elem (.static "DictionaryHouse" "ARGUMENTS" "[I") (.int 3)) (.int 2)) (by decide +kernel))
      | 4, _ => exact va_eqt (hfl (.eq (.elem (.static "DictionaryHouse" "ARGUMENTS" "[I") (.int 4)) (.int 3)) (by decide +kernel))
      | 5, _ => exact va_eqt (hfl (.eq (.elem (.static "DictionaryHouse" "ARGUMENTS" "[I") (.int 5)) (.int 0)) (by decide +kernel))
      | 6, _ => exact va_eqt (hfl (.eq (.elem (.static "DictionaryHouse" "ARGUMENTS" "[I") (.int 6)) (.int 2)) (by decide +kernel))
      | 7, _ => exact va_eqt (hfl (.eq (.elem (.static "DictionaryHouse" "ARGUMENTS" "[I") (.int 7)) (.int 3)) (by decide +kernel))
      | n + 8, h => omega) hA
  have hw : mvWorld (pgP L xs) s.heap.size (fun o => if o = 0 then t else b) cA D pgCl "DictionaryHouse" "ARGUMENTS" "[I" s := by
    refine ⟨hK, fun o ho z hz => ?_, va_Zref (hts (.laysStatic "DictionaryHouse" "ARGUMENTS" "[I") (by decide +kernel)) (hts (.initialized "DictionaryHouse") (by decide +kernel)) ht1 hA, vx_Zqof (hts (.laysStatic Bundle.tN "UNASSIGNED_STACK" Bundle.steD) (by decide +kernel)) (hts (.initialized Bundle.tN) (by decide +kernel)) (hfl (.isRef (.static Bundle.tN "UNASSIGNED_STACK" Bundle.steD)) (by decide +kernel)) hA, vx_Zqof (hts (.laysStatic Bundle.tN "SUPPRESSED_SENTINEL" Bundle.listD) (by decide +kernel)) (hts (.initialized Bundle.tN) (by decide +kernel)) (hfl (.isRef (.static Bundle.tN "SUPPRESSED_SENTINEL" Bundle.listD)) (by decide +kernel)) hA, Nat.le_refl _, va_Nc.of (hfl (.not (.castable "java/lang/IllegalStateException" "java/lang/IllegalArgumentException")) (by decide +kernel)), fun w hw => ?_⟩
    · match o, ho with
      | 0, _ => cases hz; exact ht2
      | 1, _ =>
        cases hz
        obtain ⟨scr, h1, h2, h3, h4, h5⟩ := hX
        exact ⟨scr, h1, h2, h3, Nat.le_of_eq h4.symm, (by rw [h4]), h5, hA b hbl⟩
    · obtain ⟨i, -, hi⟩ := List.mem_filterMap.mp hw
      exact va_Nw.of (mvWarm_on (pgNl_warm w hw)) (hts w (List.mem_of_getElem? hi))
  have hT := mvSound (l := l) (N0 := s.heap.size) (xa := fun o => if o = 0 then t else b) (cA := cA) (D := D) (pg_okall L xs) (pgB_ok hl) n
  have hl9 := lv_entry ([Value.ref b] : List Value) (n := 7) (Nat.le_of_ble_eq_true rfl)
  rw [lg_entry_eq]
  have hW := hT d 0 0 [(0, .inr (.inr (.inr 1)))] [] (true, []) _ hrun _ pgE0_at p e room_1 s m #[Value.ref b] below meth c ⟨hx, hb, hml, hr, hlocks, hown, hnm, fun w hw => hts w (List.mem_filter.mp hw).1, htab⟩ hw s.heap [] 0 0 _ hl9 ⟨(fun k q hk => by cases hk), fun _ => rfl⟩ va_S.rf (by show d ≤ 2048; omega) (by show 60 * d ≤ 84000; omega) (by show 0 + kc ≤ 600002; omega) (by show 0 + ks ≤ 7302231; omega) 600002 7302231 (by show 0 + kc ≤ 600002; omega) (by show 0 + ks ≤ 7302231; omega)
  intro T hT9 X
  obtain ⟨u, a1, o, b1, b2, b3⟩ := hW T hT9 X
  refine ⟨u, a1, o, b1, b2, ?_⟩
  rcases b3 with ⟨⟨⟨v, hv, ho⟩, -, -⟩, Ls, hF, hLs⟩ | ⟨q, -, E9, ce, Ls, ⟨hx9, -⟩, -⟩
  · cases hv
    refine ⟨ho, hF.1, hF.2.1, hF.2.2.weaken (fun y hy hlt => absurd hlt (Nat.not_lt.mpr (hLs y hy))) (Nat.le_refl _) (Nat.le_refl _)⟩
  · cases hx9
end
section
/-! The instructions, printed by a program. -/
def pgD0 : List (Nat × Instr × Nat) := [(0, .new 8, 3), (3, .dup, 1), (4, .invokespecial 68, 3), (7, .astore_n 1, 1), (8, .new 69, 3), (11, .dup, 1), (12, .invokespecial 71, 3), (15, .astore_n 2, 1), (16, .iconst 1, 1), (17, .newarray .long, 2), (19, .astore_n 3, 1), (20, .iconst 0, 1), (21, .istore 4, 2), (23, .iload 4, 2), (25, .aload_n 0, 1), (26, .arraylength, 1), (27, .bipush 7, 2), (29, .isub, 1), (30, .if_icmp .gt 1205, 3), (33, .aload_n 0, 1), (34, .iload 4, 2), (36, .iaload, 1), (37, .bipush 31, 2), (39, .iand, 1), (40, .tableswitch 1189 0 16 #[84, 140, 208, 264, 332, 388, 444, 500, 556, 624, 692, 748, 866, 922, 990, 1065, 1133], 84), (124, .aload_n 1, 1), (125, .aload_n 0, 1), (126, .iload 4, 2), (128, .iconst 1, 1), (129, .iadd, 1), (130, .iaload, 1), (131, .aload_n 3, 1), (132, .invokestatic 72, 3), (135, .istore 5, 2), (137, .aload_n 2, 1), (138, .aload_n 0, 1), (139, .iload 4, 2), (141, .iconst 1, 1), (142, .iadd, 1), (143, .iaload, 1), (144, .invokevirtual 77, 3), (147, .istore 6, 2), (149, .aload_n 2, 1), (150, .invokevirtual 78, 3), (153, .iload 5, 2), (155, .if_icmp .eq 5, 3), (158, .iconst 0, 1), (159, .ireturn, 1), (160, .iload 5, 2), (162, .ifCond .ne 15, 3), (165, .aload_n 3, 1), (166, .iconst 0, 1), (167, .laload, 1), (168, .iload 6, 2), (170, .i2l, 1), (171, .lcmp, 1), (172, .ifCond .eq 5, 3), (175, .iconst 0, 1), (176, .ireturn, 1), (177, .goto 1052, 3), (180, .aload_n 1, 1), (181, .aload_n 0, 1), (182, .iload 4, 2), (184, .iconst 1, 1), (185, .iadd, 1), (186, .iaload, 1), (187, .aload_n 0, 1), (188, .iload 4, 2), (190, .iconst 2, 1), (191, .iadd, 1), (192, .iaload, 1), (193, .aload_n 3, 1), (194, .invokestatic 82, 3), (197, .istore 5, 2), (199, .aload_n 2, 1), (200, .aload_n 0, 1), (201, .iload 4, 2), (203, .iconst 1, 1), (204, .iadd, 1), (205, .iaload, 1), (206, .aload_n 0, 1), (207, .iload 4, 2), (209, .iconst 2, 1), (210, .iadd, 1), (211, .iaload, 1), (212, .invokevirtual 85, 3), (215, .istore 6, 2), (217, .aload_n 2, 1), (218, .invokevirtual 78, 3), (221, .iload 5, 2), (223, .if_icmp .eq 5, 3), (226, .iconst 0, 1), (227, .ireturn, 1), (228, .iload 5, 2), (230, .ifCond .ne 15, 3), (233, .aload_n 3, 1), (234, .iconst 0, 1), (235, .laload, 1), (236, .iload 6, 2), (238, .i2l, 1), (239, .lcmp, 1), (240, .ifCond .eq 5, 3), (243, .iconst 0, 1), (244, .ireturn, 1), (245, .goto 984, 3), (248, .aload_n 1, 1), (249, .aload_n 0, 1), (250, .iload 4, 2), (252, .iconst 1, 1), (253, .iadd, 1), (254, .iaload, 1), (255, .aload_n 3, 1), (256, .invokestatic 86, 3), (259, .istore 5, 2), (261, .aload_n 2, 1), (262, .aload_n 0, 1), (263, .iload 4, 2), (265, .iconst 1, 1), (266, .iadd, 1), (267, .iaload, 1), (268, .invokevirtual 88, 3), (271, .istore 6, 2), (273, .aload_n 2, 1), (274, .invokevirtual 78, 3), (277, .iload 5, 2), (279, .if_icmp .eq 5, 3), (282, .iconst 0, 1), (283, .ireturn, 1), (284, .iload 5, 2), (286, .ifCond .ne 15, 3), (289, .aload_n 3, 1), (290, .iconst 0, 1), (291, .laload, 1), (292, .iload 6, 2), (294, .i2l, 1), (295, .lcmp, 1), (296, .ifCond .eq 5, 3), (299, .iconst 0, 1), (300, .ireturn, 1), (301, .goto 928, 3), (304, .aload_n 1, 1), (305, .aload_n 0, 1), (306, .iload 4, 2), (308, .iconst 1, 1), (309, .iadd, 1), (310, .iaload, 1), (311, .aload_n 0, 1), (312, .iload 4, 2), (314, .iconst 2, 1), (315, .iadd, 1), (316, .iaload, 1), (317, .aload_n 3, 1), (318, .invokestatic 89, 3), (321, .istore 5, 2), (323, .aload_n 2, 1), (324, .aload_n 0, 1), (325, .iload 4, 2), (327, .iconst 1, 1), (328, .iadd, 1), (329, .iaload, 1), (330, .aload_n 0, 1), (331, .iload 4, 2), (333, .iconst 2, 1), (334, .iadd, 1), (335, .iaload, 1), (336, .invokevirtual 91, 3), (339, .istore 6, 2), (341, .aload_n 2, 1), (342, .invokevirtual 78, 3), (345, .iload 5, 2), (347, .if_icmp .eq 5, 3), (350, .iconst 0, 1), (351, .ireturn, 1), (352, .iload 5, 2), (354, .ifCond .ne 15, 3), (357, .aload_n 3, 1), (358, .iconst 0, 1), (359, .laload, 1), (360, .iload 6, 2), (362, .i2l, 1), (363, .lcmp, 1), (364, .ifCond .eq 5, 3), (367, .iconst 0, 1), (368, .ireturn, 1), (369, .goto 860, 3), (372, .aload_n 1, 1), (373, .aload_n 0, 1), (374, .iload 4, 2), (376, .iconst 1, 1), (377, .iadd, 1), (378, .iaload, 1), (379, .aload_n 3, 1), (380, .invokestatic 92, 3), (383, .istore 5, 2), (385, .aload_n 2, 1), (386, .aload_n 0, 1), (387, .iload 4, 2), (389, .iconst 1, 1), (390, .iadd, 1), (391, .iaload, 1), (392, .invokevirtual 94, 3), (395, .istore 6, 2), (397, .aload_n 2, 1), (398, .invokevirtual 78, 3), (401, .iload 5, 2), (403, .if_icmp .eq 5, 3), (406, .iconst 0, 1), (407, .ireturn, 1), (408, .iload 5, 2), (410, .ifCond .ne 15, 3), (413, .aload_n 3, 1), (414, .iconst 0, 1), (415, .laload, 1), (416, .iload 6, 2), (418, .i2l, 1), (419, .lcmp, 1), (420, .ifCond .eq 5, 3), (423, .iconst 0, 1), (424, .ireturn, 1), (425, .goto 804, 3), (428, .aload_n 1, 1), (429, .aload_n 0, 1), (430, .iload 4, 2), (432, .iconst 1, 1), (433, .iadd, 1), (434, .iaload, 1), (435, .aload_n 3, 1), (436, .invokestatic 95, 3), (439, .istore 5, 2), (441, .aload_n 2, 1), (442, .aload_n 0, 1), (443, .iload 4, 2), (445, .iconst 1, 1), (446, .iadd, 1), (447, .iaload, 1), (448, .invokevirtual 97, 3), (451, .istore 6, 2), (453, .aload_n 2, 1), (454, .invokevirtual 78, 3), (457, .iload 5, 2), (459, .if_icmp .eq 5, 3), (462, .iconst 0, 1), (463, .ireturn, 1), (464, .iload 5, 2), (466, .ifCond .ne 15, 3), (469, .aload_n 3, 1), (470, .iconst 0, 1), (471, .laload, 1), (472, .iload 6, 2), (474, .i2l, 1), (475, .lcmp, 1), (476, .ifCond .eq 5, 3), (479, .iconst 0, 1), (480, .ireturn, 1), (481, .goto 748, 3), (484, .aload_n 1, 1), (485, .aload_n 0, 1), (486, .iload 4, 2), (488, .iconst 1, 1), (489, .iadd, 1), (490, .iaload, 1), (491, .aload_n 3, 1), (492, .invokestatic 98, 3), (495, .istore 5, 2), (497, .aload_n 2, 1), (498, .aload_n 0, 1), (499, .iload 4, 2), (501, .iconst 1, 1), (502, .iadd, 1), (503, .iaload, 1), (504, .invokevirtual 100, 3), (507, .istore 6, 2), (509, .aload_n 2, 1), (510, .invokevirtual 78, 3), (513, .iload 5, 2), (515, .if_icmp .eq 5, 3), (518, .iconst 0, 1), (519, .ireturn, 1), (520, .iload 5, 2), (522, .ifCond .ne 15, 3), (525, .aload_n 3, 1), (526, .iconst 0, 1), (527, .laload, 1), (528, .iload 6, 2), (530, .i2l, 1), (531, .lcmp, 1), (532, .ifCond .eq 5, 3), (535, .iconst 0, 1), (536, .ireturn, 1), (537, .goto 692, 3), (540, .aload_n 1, 1), (541, .aload_n 0, 1), (542, .iload 4, 2), (544, .iconst 1, 1), (545, .iadd, 1), (546, .iaload, 1), (547, .aload_n 3, 1), (548, .invokestatic 101, 3), (551, .istore 5, 2), (553, .aload_n 2, 1), (554, .aload_n 0, 1), (555, .iload 4, 2), (557, .iconst 1, 1), (558, .iadd, 1), (559, .iaload, 1), (560, .invokevirtual 103, 3), (563, .istore 6, 2), (565, .aload_n 2, 1), (566, .invokevirtual 78, 3), (569, .iload 5, 2), (571, .if_icmp .eq 5, 3), (574, .iconst 0, 1), (575, .ireturn, 1), (576, .iload 5, 2), (578, .ifCond .ne 15, 3), (581, .aload_n 3, 1), (582, .iconst 0, 1), (583, .laload, 1), (584, .iload 6, 2), (586, .i2l, 1), (587, .lcmp, 1), (588, .ifCond .eq 5, 3), (591, .iconst 0, 1), (592, .ireturn, 1), (593, .goto 636, 3), (596, .aload_n 1, 1), (597, .aload_n 0, 1), (598, .iload 4, 2), (600, .iconst 1, 1), (601, .iadd, 1), (602, .iaload, 1), (603, .aload_n 0, 1), (604, .iload 4, 2), (606, .iconst 2, 1), (607, .iadd, 1), (608, .iaload, 1), (609, .aload_n 3, 1), (610, .invokestatic 104, 3), (613, .istore 5, 2), (615, .aload_n 2, 1), (616, .aload_n 0, 1), (617, .iload 4, 2), (619, .iconst 1, 1), (620, .iadd, 1), (621, .iaload, 1), (622, .aload_n 0, 1), (623, .iload 4, 2), (625, .iconst 2, 1), (626, .iadd, 1), (627, .iaload, 1), (628, .invokevirtual 106, 3), (631, .istore 6, 2), (633, .aload_n 2, 1), (634, .invokevirtual 78, 3), (637, .iload 5, 2), (639, .if_icmp .eq 5, 3), (642, .iconst 0, 1), (643, .ireturn, 1), (644, .iload 5, 2), (646, .ifCond .ne 15, 3), (649, .aload_n 3, 1), (650, .iconst 0, 1), (651, .laload, 1), (652, .iload 6, 2), (654, .i2l, 1), (655, .lcmp, 1), (656, .ifCond .eq 5, 3), (659, .iconst 0, 1), (660, .ireturn, 1), (661, .goto 568, 3), (664, .aload_n 1, 1), (665, .aload_n 0, 1), (666, .iload 4, 2), (668, .iconst 1, 1), (669, .iadd, 1), (670, .iaload, 1), (671, .aload_n 0, 1), (672, .iload 4, 2), (674, .iconst 2, 1), (675, .iadd, 1), (676, .iaload, 1), (677, .aload_n 3, 1), (678, .invokestatic 107, 3), (681, .istore 5, 2), (683, .aload_n 2, 1), (684, .aload_n 0, 1), (685, .iload 4, 2), (687, .iconst 1, 1), (688, .iadd, 1), (689, .iaload, 1), (690, .aload_n 0, 1), (691, .iload 4, 2), (693, .iconst 2, 1), (694, .iadd, 1), (695, .iaload, 1), (696, .invokevirtual 109, 3), (699, .istore 6, 2), (701, .aload_n 2, 1), (702, .invokevirtual 78, 3), (705, .iload 5, 2), (707, .if_icmp .eq 5, 3), (710, .iconst 0, 1), (711, .ireturn, 1), (712, .iload 5, 2), (714, .ifCond .ne 15, 3), (717, .aload_n 3, 1), (718, .iconst 0, 1), (719, .laload, 1), (720, .iload 6, 2), (722, .i2l, 1), (723, .lcmp, 1), (724, .ifCond .eq 5, 3), (727, .iconst 0, 1), (728, .ireturn, 1), (729, .goto 500, 3), (732, .aload_n 1, 1), (733, .aload_n 0, 1), (734, .iload 4, 2), (736, .iconst 1, 1), (737, .iadd, 1), (738, .iaload, 1), (739, .aload_n 3, 1), (740, .invokestatic 110, 3), (743, .istore 5, 2), (745, .aload_n 2, 1), (746, .aload_n 0, 1), (747, .iload 4, 2), (749, .iconst 1, 1), (750, .iadd, 1), (751, .iaload, 1), (752, .invokevirtual 112, 3), (755, .istore 6, 2), (757, .aload_n 2, 1), (758, .invokevirtual 78, 3), (761, .iload 5, 2), (763, .if_icmp .eq 5, 3), (766, .iconst 0, 1), (767, .ireturn, 1), (768, .iload 5, 2), (770, .ifCond .ne 15, 3), (773, .aload_n 3, 1), (774, .iconst 0, 1), (775, .laload, 1), (776, .iload 6, 2), (778, .i2l, 1), (779, .lcmp, 1), (780, .ifCond .eq 5, 3), (783, .iconst 0, 1), (784, .ireturn, 1), (785, .goto 444, 3), (788, .aload_n 1, 1), (789, .aload_n 0, 1), (790, .iload 4, 2), (792, .iconst 1, 1), (793, .iadd, 1), (794, .iaload, 1), (795, .aload_n 0, 1), (796, .iload 4, 2), (798, .iconst 2, 1), (799, .iadd, 1), (800, .iaload, 1), (801, .aload_n 0, 1), (802, .iload 4, 2), (804, .iconst 3, 1), (805, .iadd, 1), (806, .iaload, 1), (807, .aload_n 0, 1), (808, .iload 4, 2), (810, .iconst 4, 1), (811, .iadd, 1), (812, .iaload, 1), (813, .aload_n 0, 1), (814, .iload 4, 2), (816, .iconst 5, 1), (817, .iadd, 1), (818, .iaload, 1), (819, .aload_n 0, 1), (820, .iload 4, 2), (822, .bipush 6, 2), (824, .iadd, 1), (825, .iaload, 1), (826, .aload_n 3, 1), (827, .invokestatic 113, 3), (830, .istore 5, 2), (832, .aload_n 2, 1), (833, .aload_n 0, 1), (834, .iload 4, 2), (836, .iconst 1, 1), (837, .iadd, 1), (838, .iaload, 1), (839, .aload_n 0, 1), (840, .iload 4, 2), (842, .iconst 2, 1), (843, .iadd, 1), (844, .iaload, 1), (845, .aload_n 0, 1), (846, .iload 4, 2), (848, .iconst 3, 1), (849, .iadd, 1), (850, .iaload, 1), (851, .aload_n 0, 1), (852, .iload 4, 2), (854, .iconst 4, 1), (855, .iadd, 1), (856, .iaload, 1), (857, .aload_n 0, 1), (858, .iload 4, 2), (860, .iconst 5, 1), (861, .iadd, 1), (862, .iaload, 1), (863, .aload_n 0, 1), (864, .iload 4, 2), (866, .bipush 6, 2), (868, .iadd, 1), (869, .iaload, 1), (870, .invokevirtual 116, 3), (873, .istore 6, 2), (875, .aload_n 2, 1), (876, .invokevirtual 78, 3), (879, .iload 5, 2), (881, .if_icmp .eq 5, 3), (884, .iconst 0, 1), (885, .ireturn, 1), (886, .iload 5, 2), (888, .ifCond .ne 15, 3), (891, .aload_n 3, 1), (892, .iconst 0, 1), (893, .laload, 1), (894, .iload 6, 2), (896, .i2l, 1), (897, .lcmp, 1), (898, .ifCond .eq 5, 3), (901, .iconst 0, 1), (902, .ireturn, 1), (903, .goto 326, 3), (906, .aload_n 1, 1), (907, .aload_n 0, 1), (908, .iload 4, 2), (910, .iconst 1, 1), (911, .iadd, 1), (912, .iaload, 1), (913, .aload_n 3, 1), (914, .invokestatic 117, 3), (917, .istore 5, 2), (919, .aload_n 2, 1), (920, .aload_n 0, 1), (921, .iload 4, 2), (923, .iconst 1, 1), (924, .iadd, 1), (925, .iaload, 1), (926, .invokevirtual 119, 3), (929, .istore 6, 2), (931, .aload_n 2, 1), (932, .invokevirtual 78, 3), (935, .iload 5, 2), (937, .if_icmp .eq 5, 3), (940, .iconst 0, 1), (941, .ireturn, 1), (942, .iload 5, 2), (944, .ifCond .ne 15, 3), (947, .aload_n 3, 1), (948, .iconst 0, 1), (949, .laload, 1), (950, .iload 6, 2), (952, .i2l, 1), (953, .lcmp, 1), (954, .ifCond .eq 5, 3), (957, .iconst 0, 1), (958, .ireturn, 1), (959, .goto 270, 3), (962, .aload_n 1, 1), (963, .aload_n 0, 1), (964, .iload 4, 2), (966, .iconst 1, 1), (967, .iadd, 1), (968, .iaload, 1), (969, .aload_n 0, 1), (970, .iload 4, 2), (972, .iconst 2, 1), (973, .iadd, 1), (974, .iaload, 1), (975, .aload_n 3, 1), (976, .invokestatic 120, 3), (979, .istore 5, 2), (981, .aload_n 2, 1), (982, .aload_n 0, 1), (983, .iload 4, 2), (985, .iconst 1, 1), (986, .iadd, 1), (987, .iaload, 1), (988, .aload_n 0, 1), (989, .iload 4, 2), (991, .iconst 2, 1), (992, .iadd, 1), (993, .iaload, 1), (994, .invokevirtual 122, 3), (997, .istore 6, 2), (999, .aload_n 2, 1), (1000, .invokevirtual 78, 3), (1003, .iload 5, 2), (1005, .if_icmp .eq 5, 3), (1008, .iconst 0, 1), (1009, .ireturn, 1), (1010, .iload 5, 2), (1012, .ifCond .ne 15, 3), (1015, .aload_n 3, 1), (1016, .iconst 0, 1), (1017, .laload, 1), (1018, .iload 6, 2), (1020, .i2l, 1), (1021, .lcmp, 1), (1022, .ifCond .eq 5, 3), (1025, .iconst 0, 1), (1026, .ireturn, 1), (1027, .goto 202, 3), (1030, .aload_n 1, 1), (1031, .aload_n 0, 1), (1032, .iload 4, 2), (1034, .iconst 1, 1), (1035, .iadd, 1), (1036, .iaload, 1), (1037, .aload_n 0, 1), (1038, .iload 4, 2), (1040, .iconst 2, 1), (1041, .iadd, 1), (1042, .iaload, 1), (1043, .aload_n 3, 1), (1044, .invokestatic 123, 3), (1047, .istore 5, 2), (1049, .aload_n 2, 1), (1050, .aload_n 0, 1), (1051, .iload 4, 2), (1053, .iconst 1, 1), (1054, .iadd, 1), (1055, .iaload, 1), (1056, .aload_n 0, 1), (1057, .iload 4, 2), (1059, .iconst 2, 1), (1060, .iadd, 1), (1061, .iaload, 1), (1062, .invokevirtual 125, 3), (1065, .istore 6, 2), (1067, .aload_n 2, 1), (1068, .invokevirtual 78, 3), (1071, .iload 5, 2), (1073, .if_icmp .eq 5, 3), (1076, .iconst 0, 1), (1077, .ireturn, 1), (1078, .iload 5, 2), (1080, .ifCond .ne 22, 3), (1083, .aload_n 3, 1), (1084, .iconst 0, 1), (1085, .laload, 1), (1086, .iload 6, 2), (1088, .ifCond .eq 7, 3), (1091, .lconst 1, 1), (1092, .goto 4, 3), (1095, .lconst 0, 1), (1096, .lcmp, 1), (1097, .ifCond .eq 5, 3), (1100, .iconst 0, 1), (1101, .ireturn, 1), (1102, .goto 127, 3), (1105, .aload_n 1, 1), (1106, .aload_n 0, 1), (1107, .iload 4, 2), (1109, .iconst 1, 1), (1110, .iadd, 1), (1111, .iaload, 1), (1112, .aload_n 0, 1), (1113, .iload 4, 2), (1115, .iconst 2, 1), (1116, .iadd, 1), (1117, .iaload, 1), (1118, .aload_n 3, 1), (1119, .invokestatic 126, 3), (1122, .istore 5, 2), (1124, .aload_n 2, 1), (1125, .aload_n 0, 1), (1126, .iload 4, 2), (1128, .iconst 1, 1), (1129, .iadd, 1), (1130, .iaload, 1), (1131, .aload_n 0, 1), (1132, .iload 4, 2), (1134, .iconst 2, 1), (1135, .iadd, 1), (1136, .iaload, 1), (1137, .invokevirtual 128, 3), (1140, .istore 6, 2), (1142, .aload_n 2, 1), (1143, .invokevirtual 78, 3), (1146, .iload 5, 2), (1148, .if_icmp .eq 5, 3), (1151, .iconst 0, 1), (1152, .ireturn, 1), (1153, .iload 5, 2), (1155, .ifCond .ne 15, 3), (1158, .aload_n 3, 1), (1159, .iconst 0, 1), (1160, .laload, 1), (1161, .iload 6, 2), (1163, .i2l, 1), (1164, .lcmp, 1), (1165, .ifCond .eq 5, 3), (1168, .iconst 0, 1), (1169, .ireturn, 1), (1170, .goto 59, 3), (1173, .aload_n 1, 1), (1174, .aload_n 0, 1), (1175, .iload 4, 2), (1177, .iconst 1, 1), (1178, .iadd, 1), (1179, .iaload, 1), (1180, .aload_n 3, 1), (1181, .invokestatic 129, 3), (1184, .istore 5, 2), (1186, .aload_n 2, 1), (1187, .aload_n 0, 1), (1188, .iload 4, 2), (1190, .iconst 1, 1), (1191, .iadd, 1), (1192, .iaload, 1), (1193, .invokevirtual 131, 3), (1196, .istore 6, 2), (1198, .aload_n 2, 1), (1199, .invokevirtual 78, 3), (1202, .iload 5, 2), (1204, .if_icmp .eq 5, 3), (1207, .iconst 0, 1), (1208, .ireturn, 1), (1209, .iload 5, 2), (1211, .ifCond .ne 15, 3), (1214, .aload_n 3, 1), (1215, .iconst 0, 1), (1216, .laload, 1), (1217, .iload 6, 2), (1219, .i2l, 1), (1220, .lcmp, 1), (1221, .ifCond .eq 5, 3), (1224, .iconst 0, 1), (1225, .ireturn, 1), (1226, .goto 3, 3), (1229, .iinc 4 7, 3), (1232, .goto (-1209), 3), (1235, .iconst 1, 1), (1236, .ireturn, 1)]
set_option maxRecDepth 100000 in
theorem pgDk0_0 : ((pgD0.drop 0).take 60).all (fun q => decide (decode code q.1 = .ok q.2)) = true := by decide +kernel
set_option maxRecDepth 100000 in
theorem pgDk0_60 : ((pgD0.drop 60).take 60).all (fun q => decide (decode code q.1 = .ok q.2)) = true := by decide +kernel
set_option maxRecDepth 100000 in
theorem pgDk0_120 : ((pgD0.drop 120).take 60).all (fun q => decide (decode code q.1 = .ok q.2)) = true := by decide +kernel
set_option maxRecDepth 100000 in
theorem pgDk0_180 : ((pgD0.drop 180).take 60).all (fun q => decide (decode code q.1 = .ok q.2)) = true := by decide +kernel
set_option maxRecDepth 100000 in
theorem pgDk0_240 : ((pgD0.drop 240).take 60).all (fun q => decide (decode code q.1 = .ok q.2)) = true := by decide +kernel
set_option maxRecDepth 100000 in
theorem pgDk0_300 : ((pgD0.drop 300).take 60).all (fun q => decide (decode code q.1 = .ok q.2)) = true := by decide +kernel
set_option maxRecDepth 100000 in
theorem pgDk0_360 : ((pgD0.drop 360).take 60).all (fun q => decide (decode code q.1 = .ok q.2)) = true := by decide +kernel
set_option maxRecDepth 100000 in
theorem pgDk0_420 : ((pgD0.drop 420).take 60).all (fun q => decide (decode code q.1 = .ok q.2)) = true := by decide +kernel
set_option maxRecDepth 100000 in
theorem pgDk0_480 : ((pgD0.drop 480).take 60).all (fun q => decide (decode code q.1 = .ok q.2)) = true := by decide +kernel
set_option maxRecDepth 100000 in
theorem pgDk0_540 : ((pgD0.drop 540).take 60).all (fun q => decide (decode code q.1 = .ok q.2)) = true := by decide +kernel
set_option maxRecDepth 100000 in
theorem pgDk0_600 : ((pgD0.drop 600).take 60).all (fun q => decide (decode code q.1 = .ok q.2)) = true := by decide +kernel
set_option maxRecDepth 100000 in
theorem pgDk0_660 : ((pgD0.drop 660).take 60).all (fun q => decide (decode code q.1 = .ok q.2)) = true := by decide +kernel
set_option maxRecDepth 100000 in
theorem pgDk0_720 : ((pgD0.drop 720).take 60).all (fun q => decide (decode code q.1 = .ok q.2)) = true := by decide +kernel
def pgD1 : List (Nat × Instr × Nat) := [(0, .aload_n 0, 1), (1, .invokespecial 3, 3), (4, .aload_n 0, 1), (5, .new 9, 3), (8, .dup, 1), (9, .invokespecial 11, 3), (12, .putfield 12, 3), (15, .aload_n 0, 1), (16, .new 16, 3), (19, .dup, 1), (20, .invokespecial 18, 3), (23, .putfield 19, 3), (26, .aload_n 0, 1), (27, .new 23, 3), (30, .dup, 1), (31, .invokespecial 25, 3), (34, .putfield 26, 3), (37, .aload_n 0, 1), (38, .new 30, 3), (41, .dup, 1), (42, .invokespecial 32, 3), (45, .putfield 33, 3), (48, .new 37, 3), (51, .dup, 1), (52, .invokespecial 39, 3), (55, .astore_n 1, 1), (56, .new 40, 3), (59, .dup, 1), (60, .aload_n 0, 1), (61, .getfield 12, 3), (64, .aload_n 0, 1), (65, .getfield 19, 3), (68, .aload_n 0, 1), (69, .getfield 26, 3), (72, .aload_n 0, 1), (73, .getfield 33, 3), (76, .invokespecial 42, 3), (79, .astore_n 2, 1), (80, .aload_n 0, 1), (81, .new 45, 3), (84, .dup, 1), (85, .aload_n 0, 1), (86, .getfield 12, 3), (89, .aload_n 0, 1), (90, .getfield 19, 3), (93, .aload_n 0, 1), (94, .getfield 33, 3), (97, .aload_n 2, 1), (98, .aload_n 1, 1), (99, .invokespecial 47, 3), (102, .putfield 50, 3), (105, .aload_n 0, 1), (106, .new 54, 3), (109, .dup, 1), (110, .aload_n 0, 1), (111, .getfield 19, 3), (114, .aload_n 0, 1), (115, .getfield 26, 3), (118, .aload_n 0, 1), (119, .getfield 33, 3), (122, .aload_n 1, 1), (123, .invokespecial 56, 3), (126, .putfield 59, 3), (129, .return_, 1)]
set_option maxRecDepth 100000 in
theorem pgDk1_0 : ((pgD1.drop 0).take 60).all (fun q => decide (decode prog_1_method_1_code q.1 = .ok q.2)) = true := by decide +kernel
set_option maxRecDepth 100000 in
theorem pgDk1_60 : ((pgD1.drop 60).take 60).all (fun q => decide (decode prog_1_method_1_code q.1 = .ok q.2)) = true := by decide +kernel
def pgD2 : List (Nat × Instr × Nat) := [(0, .aload_n 0, 1), (1, .invokespecial 3, 3), (4, .aload_n 0, 1), (5, .bipush 40, 2), (7, .newarray .int, 2), (9, .putfield 9, 3), (12, .aload_n 0, 1), (13, .bipush 40, 2), (15, .newarray .int, 2), (17, .putfield 15, 3), (20, .aload_n 0, 1), (21, .bipush 40, 2), (23, .newarray .int, 2), (25, .putfield 18, 3), (28, .aload_n 0, 1), (29, .bipush 10, 2), (31, .putfield 21, 3), (34, .iconst 0, 1), (35, .istore_n 1, 1), (36, .iload_n 1, 1), (37, .bipush 8, 2), (39, .if_icmp .ge 20, 3), (42, .aload_n 0, 1), (43, .getfield 18, 3), (46, .iconst 2, 1), (47, .iload_n 1, 1), (48, .iadd, 1), (49, .iconst 1, 1), (50, .iload_n 1, 1), (51, .ishl, 1), (52, .iastore, 1), (53, .iinc 1 1, 3), (56, .goto (-20), 3), (59, .return_, 1)]
set_option maxRecDepth 100000 in
theorem pgDk2_0 : ((pgD2.drop 0).take 60).all (fun q => decide (decode prog_11_method_1_code q.1 = .ok q.2)) = true := by decide +kernel
def pgD3 : List (Nat × Instr × Nat) := [(0, .aload_n 0, 1), (1, .invokespecial 3, 3), (4, .aload_n 0, 1), (5, .bipush 6, 2), (7, .newarray .int, 2), (9, .putfield 9, 3), (12, .aload_n 0, 1), (13, .bipush 6, 2), (15, .newarray .int, 2), (17, .putfield 15, 3), (20, .aload_n 0, 1), (21, .bipush 18, 2), (23, .newarray .int, 2), (25, .putfield 18, 3), (28, .aload_n 0, 1), (29, .bipush 18, 2), (31, .newarray .boolean, 2), (33, .putfield 21, 3), (36, .aload_n 0, 1), (37, .bipush 18, 2), (39, .newarray .int, 2), (41, .putfield 25, 3), (44, .aload_n 0, 1), (45, .bipush 54, 2), (47, .newarray .int, 2), (49, .putfield 28, 3), (52, .aload_n 0, 1), (53, .getfield 25, 3), (56, .iconst (-1), 1), (57, .invokestatic 31, 3), (60, .return_, 1)]
set_option maxRecDepth 100000 in
theorem pgDk3_0 : ((pgD3.drop 0).take 60).all (fun q => decide (decode prog_3_method_1_code q.1 = .ok q.2)) = true := by decide +kernel
def pgD4 : List (Nat × Instr × Nat) := [(0, .iconst 0, 1), (1, .istore_n 2, 1), (2, .aload_n 0, 1), (3, .arraylength, 1), (4, .istore_n 3, 1), (5, .iload_n 2, 1), (6, .iload_n 3, 1), (7, .if_icmp .ge 13, 3), (10, .aload_n 0, 1), (11, .iload_n 2, 1), (12, .iload_n 1, 1), (13, .iastore, 1), (14, .iinc 2 1, 3), (17, .goto (-12), 3), (20, .return_, 1)]
set_option maxRecDepth 100000 in
theorem pgDk4_0 : ((pgD4.drop 0).take 60).all (fun q => decide (decode prog_29_method_103_code q.1 = .ok q.2)) = true := by decide +kernel
def pgD5 : List (Nat × Instr × Nat) := [(0, .aload_n 0, 1), (1, .invokespecial 3, 3), (4, .aload_n 0, 1), (5, .sipush 200, 3), (8, .newarray .int, 2), (10, .putfield 9, 3), (13, .aload_n 0, 1), (14, .sipush 200, 3), (17, .newarray .int, 2), (19, .putfield 15, 3), (22, .aload_n 0, 1), (23, .sipush 200, 3), (26, .newarray .int, 2), (28, .putfield 18, 3), (31, .aload_n 0, 1), (32, .sipush 200, 3), (35, .newarray .int, 2), (37, .putfield 21, 3), (40, .return_, 1)]
set_option maxRecDepth 100000 in
theorem pgDk5_0 : ((pgD5.drop 0).take 60).all (fun q => decide (decode prog_6_method_1_code q.1 = .ok q.2)) = true := by decide +kernel
def pgD6 : List (Nat × Instr × Nat) := [(0, .aload_n 0, 1), (1, .invokespecial 3, 3), (4, .aload_n 0, 1), (5, .bipush 20, 2), (7, .newarray .int, 2), (9, .putfield 9, 3), (12, .aload_n 0, 1), (13, .bipush 20, 2), (15, .newarray .int, 2), (17, .putfield 15, 3), (20, .aload_n 0, 1), (21, .bipush 20, 2), (23, .newarray .int, 2), (25, .putfield 18, 3), (28, .aload_n 0, 1), (29, .sipush 160, 3), (32, .newarray .int, 2), (34, .putfield 21, 3), (37, .return_, 1)]
set_option maxRecDepth 100000 in
theorem pgDk6_0 : ((pgD6.drop 0).take 60).all (fun q => decide (decode prog_5_method_1_code q.1 = .ok q.2)) = true := by decide +kernel
def pgD7 : List (Nat × Instr × Nat) := [(0, .aload_n 0, 1), (1, .invokespecial 3, 3), (4, .aload_n 0, 1), (5, .ldc 11, 2), (7, .newarray .int, 2), (9, .putfield 12, 3), (12, .return_, 1)]
set_option maxRecDepth 100000 in
theorem pgDk7_0 : ((pgD7.drop 0).take 60).all (fun q => decide (decode prog_10_method_1_code q.1 = .ok q.2)) = true := by decide +kernel
def pgD8 : List (Nat × Instr × Nat) := [(0, .aload_n 0, 1), (1, .invokespecial 3, 3), (4, .aload_n 0, 1), (5, .new 9, 3), (8, .dup, 1), (9, .invokespecial 11, 3), (12, .putfield 12, 3), (15, .aload_n 0, 1), (16, .bipush 60, 2), (18, .newarray .int, 2), (20, .putfield 18, 3), (23, .aload_n 0, 1), (24, .bipush 60, 2), (26, .newarray .int, 2), (28, .putfield 22, 3), (31, .aload_n 0, 1), (32, .bipush 60, 2), (34, .newarray .int, 2), (36, .putfield 25, 3), (39, .aload_n 0, 1), (40, .bipush 60, 2), (42, .newarray .int, 2), (44, .putfield 28, 3), (47, .aload_n 0, 1), (48, .sipush 488, 3), (51, .newarray .int, 2), (53, .putfield 31, 3), (56, .aload_n 0, 1), (57, .bipush 60, 2), (59, .newarray .int, 2), (61, .putfield 34, 3), (64, .aload_n 0, 1), (65, .bipush 40, 2), (67, .newarray .int, 2), (69, .putfield 37, 3), (72, .aload_n 0, 1), (73, .bipush 40, 2), (75, .newarray .boolean, 2), (77, .putfield 40, 3), (80, .aload_n 0, 1), (81, .aload_n 1, 1), (82, .putfield 44, 3), (85, .aload_n 0, 1), (86, .aload_n 2, 1), (87, .putfield 48, 3), (90, .aload_n 0, 1), (91, .aload_n 3, 1), (92, .putfield 52, 3), (95, .aload_n 0, 1), (96, .aload 4, 2), (98, .putfield 56, 3), (101, .return_, 1)]
set_option maxRecDepth 100000 in
theorem pgDk8_0 : ((pgD8.drop 0).take 60).all (fun q => decide (decode prog_12_method_1_code q.1 = .ok q.2)) = true := by decide +kernel
def pgD9 : List (Nat × Instr × Nat) := [(0, .aload_n 0, 1), (1, .invokespecial 3, 3), (4, .aload_n 0, 1), (5, .sipush 2504, 3), (8, .newarray .int, 2), (10, .putfield 11, 3), (13, .aload_n 0, 1), (14, .sipush 2504, 3), (17, .newarray .int, 2), (19, .putfield 15, 3), (22, .aload_n 0, 1), (23, .sipush 2504, 3), (26, .newarray .int, 2), (28, .putfield 18, 3), (31, .aload_n 0, 1), (32, .sipush 2504, 3), (35, .newarray .int, 2), (37, .putfield 21, 3), (40, .aload_n 0, 1), (41, .sipush 2504, 3), (44, .newarray .int, 2), (46, .putfield 24, 3), (49, .aload_n 0, 1), (50, .sipush 2504, 3), (53, .newarray .int, 2), (55, .putfield 27, 3), (58, .aload_n 0, 1), (59, .sipush 2504, 3), (62, .newarray .int, 2), (64, .putfield 30, 3), (67, .aload_n 0, 1), (68, .sipush 5012, 3), (71, .newarray .int, 2), (73, .putfield 33, 3), (76, .return_, 1)]
set_option maxRecDepth 100000 in
theorem pgDk9_0 : ((pgD9.drop 0).take 60).all (fun q => decide (decode prog_7_method_1_code q.1 = .ok q.2)) = true := by decide +kernel
def pgD10 : List (Nat × Instr × Nat) := [(0, .aload_n 0, 1), (1, .invokespecial 3, 3), (4, .aload_n 0, 1), (5, .bipush 8, 2), (7, .newarray .int, 2), (9, .putfield 9, 3), (12, .aload_n 0, 1), (13, .sipush 2504, 3), (16, .newarray .int, 2), (18, .putfield 17, 3), (21, .aload_n 0, 1), (22, .aload_n 1, 1), (23, .putfield 20, 3), (26, .aload_n 0, 1), (27, .aload_n 2, 1), (28, .putfield 24, 3), (31, .aload_n 0, 1), (32, .aload_n 3, 1), (33, .putfield 28, 3), (36, .aload_n 0, 1), (37, .aload 4, 2), (39, .putfield 32, 3), (42, .aload_n 0, 1), (43, .aload 5, 2), (45, .putfield 36, 3), (48, .aload_n 0, 1), (49, .aload 4, 2), (51, .invokevirtual 40, 3), (54, .putfield 46, 3), (57, .aload_n 0, 1), (58, .new 49, 3), (61, .dup, 1), (62, .aload_n 2, 1), (63, .aload_n 3, 1), (64, .aload 4, 2), (66, .invokespecial 51, 3), (69, .putfield 54, 3), (72, .return_, 1)]
set_option maxRecDepth 100000 in
theorem pgDk10_0 : ((pgD10.drop 0).take 60).all (fun q => decide (decode prog_2_method_1_code q.1 = .ok q.2)) = true := by decide +kernel
def pgD11 : List (Nat × Instr × Nat) := [(0, .aload_n 0, 1), (1, .getfield 12, 3), (4, .areturn, 1)]
set_option maxRecDepth 100000 in
theorem pgDk11_0 : ((pgD11.drop 0).take 60).all (fun q => decide (decode prog_12_method_2_code q.1 = .ok q.2)) = true := by decide +kernel
def pgD12 : List (Nat × Instr × Nat) := [(0, .aload_n 0, 1), (1, .invokespecial 3, 3), (4, .aload_n 0, 1), (5, .sipush 2504, 3), (8, .newarray .int, 2), (10, .putfield 11, 3), (13, .aload_n 0, 1), (14, .aload_n 1, 1), (15, .putfield 17, 3), (18, .aload_n 0, 1), (19, .aload_n 2, 1), (20, .putfield 21, 3), (23, .aload_n 0, 1), (24, .aload_n 3, 1), (25, .putfield 25, 3), (28, .aload_n 0, 1), (29, .aload_n 3, 1), (30, .invokevirtual 29, 3), (33, .putfield 35, 3), (36, .return_, 1)]
set_option maxRecDepth 100000 in
theorem pgDk12_0 : ((pgD12.drop 0).take 60).all (fun q => decide (decode prog_4_method_1_code q.1 = .ok q.2)) = true := by decide +kernel
def pgD13 : List (Nat × Instr × Nat) := [(0, .aload_n 0, 1), (1, .invokespecial 3, 3), (4, .aload_n 0, 1), (5, .new 9, 3), (8, .dup, 1), (9, .invokespecial 11, 3), (12, .putfield 12, 3), (15, .aload_n 0, 1), (16, .sipush 4515, 3), (19, .newarray .int, 2), (21, .putfield 18, 3), (24, .aload_n 0, 1), (25, .sipush 301, 3), (28, .newarray .int, 2), (30, .putfield 22, 3), (33, .aload_n 0, 1), (34, .iconst (-1), 1), (35, .putfield 25, 3), (38, .aload_n 0, 1), (39, .aload_n 1, 1), (40, .putfield 29, 3), (43, .aload_n 0, 1), (44, .aload_n 2, 1), (45, .putfield 33, 3), (48, .aload_n 0, 1), (49, .aload_n 3, 1), (50, .putfield 37, 3), (53, .aload_n 0, 1), (54, .aload 4, 2), (56, .putfield 41, 3), (59, .return_, 1)]
set_option maxRecDepth 100000 in
theorem pgDk13_0 : ((pgD13.drop 0).take 60).all (fun q => decide (decode prog_9_method_1_code q.1 = .ok q.2)) = true := by decide +kernel
def pgD14 : List (Nat × Instr × Nat) := [(0, .aload_n 0, 1), (1, .invokespecial 3, 3), (4, .aload_n 0, 1), (5, .sipush 3010, 3), (8, .newarray .int, 2), (10, .putfield 11, 3), (13, .aload_n 0, 1), (14, .sipush 2416, 3), (17, .newarray .int, 2), (19, .putfield 15, 3), (22, .return_, 1)]
set_option maxRecDepth 100000 in
theorem pgDk14_0 : ((pgD14.drop 0).take 60).all (fun q => decide (decode prog_8_method_1_code q.1 = .ok q.2)) = true := by decide +kernel
def pgD15 : List (Nat × Instr × Nat) := [(0, .aload_n 2, 1), (1, .iconst 0, 1), (2, .aload_n 0, 1), (3, .iload_n 1, 1), (4, .invokevirtual 7, 3), (7, .i2l, 1), (8, .lastore, 1), (9, .goto 9, 3), (12, .astore_n 3, 1), (13, .iconst 1, 1), (14, .ireturn, 1), (15, .astore_n 3, 1), (16, .iconst 2, 1), (17, .ireturn, 1), (18, .iconst 0, 1), (19, .ireturn, 1)]
set_option maxRecDepth 100000 in
theorem pgDk15_0 : ((pgD15.drop 0).take 60).all (fun q => decide (decode method_3_code q.1 = .ok q.2)) = true := by decide +kernel
def pgD16 : List (Nat × Instr × Nat) := [(0, .aload_n 0, 1), (1, .getfield 12, 3), (4, .iload_n 1, 1), (5, .invokevirtual 63, 3), (8, .invokestatic 67, 3), (11, .aload_n 0, 1), (12, .getfield 12, 3), (15, .iload_n 1, 1), (16, .iconst (-1), 1), (17, .invokevirtual 71, 3), (20, .invokestatic 75, 3), (23, .ireturn, 1)]
set_option maxRecDepth 100000 in
theorem pgDk16_0 : ((pgD16.drop 0).take 60).all (fun q => decide (decode prog_1_method_2_code q.1 = .ok q.2)) = true := by decide +kernel
def pgD17 : List (Nat × Instr × Nat) := [(0, .iload_n 1, 1), (1, .ifCond .lt 15, 3), (4, .iload_n 1, 1), (5, .aload_n 0, 1), (6, .getfield 21, 3), (9, .if_icmp .ge 7, 3), (12, .iconst 1, 1), (13, .goto 4, 3), (16, .iconst 0, 1), (17, .ireturn, 1)]
set_option maxRecDepth 100000 in
theorem pgDk17_0 : ((pgD17.drop 0).take 60).all (fun q => decide (decode prog_11_method_2_code q.1 = .ok q.2)) = true := by decide +kernel
def pgD18 : List (Nat × Instr × Nat) := [(0, .iload_n 0, 1), (1, .ifCond .ne 11, 3), (4, .new 166, 3), (7, .dup, 1), (8, .invokespecial 168, 3), (11, .athrow, 1), (12, .return_, 1)]
set_option maxRecDepth 100000 in
theorem pgDk18_0 : ((pgD18.drop 0).take 60).all (fun q => decide (decode prog_1_method_19_code q.1 = .ok q.2)) = true := by decide +kernel
def pgD19 : List (Nat × Instr × Nat) := [(0, .bipush 10, 2), (2, .istore_n 3, 1), (3, .iload_n 3, 1), (4, .aload_n 0, 1), (5, .getfield 21, 3), (8, .if_icmp .ge 31, 3), (11, .aload_n 0, 1), (12, .getfield 9, 3), (15, .iload_n 3, 1), (16, .iaload, 1), (17, .iload_n 1, 1), (18, .if_icmp .ne 15, 3), (21, .aload_n 0, 1), (22, .getfield 15, 3), (25, .iload_n 3, 1), (26, .iaload, 1), (27, .iload_n 2, 1), (28, .if_icmp .ne 5, 3), (31, .iload_n 3, 1), (32, .ireturn, 1), (33, .iinc 3 1, 3), (36, .goto (-33), 3), (39, .aload_n 0, 1), (40, .getfield 21, 3), (43, .bipush 40, 2), (45, .if_icmp .ne 5, 3), (48, .iconst (-1), 1), (49, .ireturn, 1), (50, .aload_n 0, 1), (51, .getfield 9, 3), (54, .aload_n 0, 1), (55, .getfield 21, 3), (58, .iload_n 1, 1), (59, .iastore, 1), (60, .aload_n 0, 1), (61, .getfield 15, 3), (64, .aload_n 0, 1), (65, .getfield 21, 3), (68, .iload_n 2, 1), (69, .iastore, 1), (70, .aload_n 0, 1), (71, .getfield 18, 3), (74, .aload_n 0, 1), (75, .getfield 21, 3), (78, .aload_n 0, 1), (79, .getfield 18, 3), (82, .iload_n 1, 1), (83, .iaload, 1), (84, .iload_n 2, 1), (85, .iconst (-1), 1), (86, .if_icmp .ne 7, 3), (89, .iconst 0, 1), (90, .goto 9, 3), (93, .aload_n 0, 1), (94, .getfield 18, 3), (97, .iload_n 2, 1), (98, .iaload, 1), (99, .ior, 1), (100, .iastore, 1), (101, .aload_n 0, 1), (102, .dup, 1), (103, .getfield 21, 3), (106, .dup_x1, 1), (107, .iconst 1, 1), (108, .iadd, 1), (109, .putfield 21, 3), (112, .ireturn, 1)]
set_option maxRecDepth 100000 in
theorem pgDk19_0 : ((pgD19.drop 0).take 60).all (fun q => decide (decode prog_11_method_9_code q.1 = .ok q.2)) = true := by decide +kernel
set_option maxRecDepth 100000 in
theorem pgDk19_60 : ((pgD19.drop 60).take 60).all (fun q => decide (decode prog_11_method_9_code q.1 = .ok q.2)) = true := by decide +kernel
def pgD20 : List (Nat × Instr × Nat) := [(0, .iload_n 0, 1), (1, .iconst (-1), 1), (2, .if_icmp .eq 7, 3), (5, .iconst 1, 1), (6, .goto 4, 3), (9, .iconst 0, 1), (10, .invokestatic 84, 3), (13, .iload_n 0, 1), (14, .ireturn, 1)]
set_option maxRecDepth 100000 in
theorem pgDk20_0 : ((pgD20.drop 0).take 60).all (fun q => decide (decode prog_1_method_21_code q.1 = .ok q.2)) = true := by decide +kernel
def pgD21 : List (Nat × Instr × Nat) := [(0, .iload_n 0, 1), (1, .ifCond .ne 11, 3), (4, .new 169, 3), (7, .dup, 1), (8, .invokespecial 171, 3), (11, .athrow, 1), (12, .return_, 1)]
set_option maxRecDepth 100000 in
theorem pgDk21_0 : ((pgD21.drop 0).take 60).all (fun q => decide (decode prog_1_method_20_code q.1 = .ok q.2)) = true := by decide +kernel
def pgD22 : List (Nat × Instr × Nat) := [(0, .aload_n 3, 1), (1, .iconst 0, 1), (2, .aload_n 0, 1), (3, .iload_n 1, 1), (4, .iload_n 2, 1), (5, .invokevirtual 17, 3), (8, .i2l, 1), (9, .lastore, 1), (10, .goto 11, 3), (13, .astore 4, 2), (15, .iconst 1, 1), (16, .ireturn, 1), (17, .astore 4, 2), (19, .iconst 2, 1), (20, .ireturn, 1), (21, .iconst 0, 1), (22, .ireturn, 1)]
set_option maxRecDepth 100000 in
theorem pgDk22_0 : ((pgD22.drop 0).take 60).all (fun q => decide (decode method_4_code q.1 = .ok q.2)) = true := by decide +kernel
def pgD23 : List (Nat × Instr × Nat) := [(0, .aload_n 0, 1), (1, .getfield 12, 3), (4, .iload_n 1, 1), (5, .invokevirtual 63, 3), (8, .ifCond .eq 18, 3), (11, .aload_n 0, 1), (12, .getfield 12, 3), (15, .iload_n 2, 1), (16, .invokevirtual 63, 3), (19, .ifCond .eq 7, 3), (22, .iconst 1, 1), (23, .goto 4, 3), (26, .iconst 0, 1), (27, .invokestatic 67, 3), (30, .aload_n 0, 1), (31, .getfield 12, 3), (34, .iload_n 1, 1), (35, .iload_n 2, 1), (36, .invokevirtual 71, 3), (39, .invokestatic 75, 3), (42, .ireturn, 1)]
set_option maxRecDepth 100000 in
theorem pgDk23_0 : ((pgD23.drop 0).take 60).all (fun q => decide (decode prog_1_method_3_code q.1 = .ok q.2)) = true := by decide +kernel
def pgD24 : List (Nat × Instr × Nat) := [(0, .aload_n 2, 1), (1, .iconst 0, 1), (2, .aload_n 0, 1), (3, .iload_n 1, 1), (4, .invokevirtual 21, 3), (7, .i2l, 1), (8, .lastore, 1), (9, .goto 9, 3), (12, .astore_n 3, 1), (13, .iconst 1, 1), (14, .ireturn, 1), (15, .astore_n 3, 1), (16, .iconst 2, 1), (17, .ireturn, 1), (18, .iconst 0, 1), (19, .ireturn, 1)]
set_option maxRecDepth 100000 in
theorem pgDk24_0 : ((pgD24.drop 0).take 60).all (fun q => decide (decode method_5_code q.1 = .ok q.2)) = true := by decide +kernel
def pgD25 : List (Nat × Instr × Nat) := [(0, .iload_n 1, 1), (1, .iconst (-1), 1), (2, .if_icmp .eq 14, 3), (5, .aload_n 0, 1), (6, .getfield 19, 3), (9, .iload_n 1, 1), (10, .invokevirtual 79, 3), (13, .ifCond .eq 7, 3), (16, .iconst 1, 1), (17, .goto 4, 3), (20, .iconst 0, 1), (21, .invokestatic 67, 3), (24, .aload_n 0, 1), (25, .getfield 19, 3), (28, .invokevirtual 80, 3), (31, .bipush 6, 2), (33, .if_icmp .ge 7, 3), (36, .iconst 1, 1), (37, .goto 4, 3), (40, .iconst 0, 1), (41, .invokestatic 84, 3), (44, .aload_n 0, 1), (45, .getfield 19, 3), (48, .iload_n 1, 1), (49, .invokevirtual 87, 3), (52, .ireturn, 1)]
set_option maxRecDepth 100000 in
theorem pgDk25_0 : ((pgD25.drop 0).take 60).all (fun q => decide (decode prog_1_method_4_code q.1 = .ok q.2)) = true := by decide +kernel
def pgD26 : List (Nat × Instr × Nat) := [(0, .iload_n 1, 1), (1, .ifCond .lt 15, 3), (4, .iload_n 1, 1), (5, .aload_n 0, 1), (6, .getfield 37, 3), (9, .if_icmp .ge 7, 3), (12, .iconst 1, 1), (13, .goto 4, 3), (16, .iconst 0, 1), (17, .ireturn, 1)]
set_option maxRecDepth 100000 in
theorem pgDk26_0 : ((pgD26.drop 0).take 60).all (fun q => decide (decode prog_3_method_3_code q.1 = .ok q.2)) = true := by decide +kernel
def pgD27 : List (Nat × Instr × Nat) := [(0, .aload_n 0, 1), (1, .getfield 37, 3), (4, .ireturn, 1)]
set_option maxRecDepth 100000 in
theorem pgDk27_0 : ((pgD27.drop 0).take 60).all (fun q => decide (decode prog_3_method_2_code q.1 = .ok q.2)) = true := by decide +kernel
def pgD28 : List (Nat × Instr × Nat) := [(0, .aload_n 0, 1), (1, .getfield 9, 3), (4, .aload_n 0, 1), (5, .getfield 37, 3), (8, .iload_n 1, 1), (9, .iastore, 1), (10, .aload_n 0, 1), (11, .dup, 1), (12, .getfield 37, 3), (15, .dup_x1, 1), (16, .iconst 1, 1), (17, .iadd, 1), (18, .putfield 37, 3), (21, .ireturn, 1)]
set_option maxRecDepth 100000 in
theorem pgDk28_0 : ((pgD28.drop 0).take 60).all (fun q => decide (decode prog_3_method_7_code q.1 = .ok q.2)) = true := by decide +kernel
def pgD29 : List (Nat × Instr × Nat) := [(0, .aload_n 3, 1), (1, .iconst 0, 1), (2, .aload_n 0, 1), (3, .iload_n 1, 1), (4, .iload_n 2, 1), (5, .invokevirtual 24, 3), (8, .i2l, 1), (9, .lastore, 1), (10, .goto 11, 3), (13, .astore 4, 2), (15, .iconst 1, 1), (16, .ireturn, 1), (17, .astore 4, 2), (19, .iconst 2, 1), (20, .ireturn, 1), (21, .iconst 0, 1), (22, .ireturn, 1)]
set_option maxRecDepth 100000 in
theorem pgDk29_0 : ((pgD29.drop 0).take 60).all (fun q => decide (decode method_6_code q.1 = .ok q.2)) = true := by decide +kernel
def pgD30 : List (Nat × Instr × Nat) := [(0, .aload_n 0, 1), (1, .getfield 19, 3), (4, .iload_n 1, 1), (5, .invokevirtual 79, 3), (8, .ifCond .eq 29, 3), (11, .aload_n 0, 1), (12, .getfield 12, 3), (15, .iload_n 2, 1), (16, .invokevirtual 63, 3), (19, .ifCond .eq 18, 3), (22, .aload_n 0, 1), (23, .getfield 12, 3), (26, .iload_n 2, 1), (27, .invokevirtual 90, 3), (30, .ifCond .eq 7, 3), (33, .iconst 1, 1), (34, .goto 4, 3), (37, .iconst 0, 1), (38, .invokestatic 67, 3), (41, .aload_n 0, 1), (42, .getfield 19, 3), (45, .iload_n 1, 1), (46, .invokevirtual 93, 3), (49, .iconst 3, 1), (50, .if_icmp .ge 18, 3), (53, .aload_n 0, 1), (54, .getfield 19, 3), (57, .iload_n 1, 1), (58, .invokevirtual 96, 3), (61, .ifCond .ne 7, 3), (64, .iconst 1, 1), (65, .goto 4, 3), (68, .iconst 0, 1), (69, .invokestatic 84, 3), (72, .aload_n 0, 1), (73, .getfield 19, 3), (76, .iload_n 1, 1), (77, .iload_n 2, 1), (78, .invokevirtual 99, 3), (81, .ireturn, 1)]
set_option maxRecDepth 100000 in
theorem pgDk30_0 : ((pgD30.drop 0).take 60).all (fun q => decide (decode prog_1_method_5_code q.1 = .ok q.2)) = true := by decide +kernel
def pgD31 : List (Nat × Instr × Nat) := [(0, .aload_n 0, 1), (1, .getfield 18, 3), (4, .iload_n 1, 1), (5, .iaload, 1), (6, .iconst 1, 1), (7, .if_icmp .ne 7, 3), (10, .iconst 1, 1), (11, .goto 4, 3), (14, .iconst 0, 1), (15, .ireturn, 1)]
set_option maxRecDepth 100000 in
theorem pgDk31_0 : ((pgD31.drop 0).take 60).all (fun q => decide (decode prog_11_method_8_code q.1 = .ok q.2)) = true := by decide +kernel
def pgD32 : List (Nat × Instr × Nat) := [(0, .aload_n 0, 1), (1, .getfield 15, 3), (4, .iload_n 1, 1), (5, .iaload, 1), (6, .ireturn, 1)]
set_option maxRecDepth 100000 in
theorem pgDk32_0 : ((pgD32.drop 0).take 60).all (fun q => decide (decode prog_3_method_5_code q.1 = .ok q.2)) = true := by decide +kernel
def pgD33 : List (Nat × Instr × Nat) := [(0, .aload_n 0, 1), (1, .iload_n 1, 1), (2, .iconst 0, 1), (3, .invokevirtual 45, 3), (6, .ifCond .ne 21, 3), (9, .aload_n 0, 1), (10, .iload_n 1, 1), (11, .iconst 1, 1), (12, .invokevirtual 45, 3), (15, .ifCond .ne 12, 3), (18, .aload_n 0, 1), (19, .iload_n 1, 1), (20, .iconst 2, 1), (21, .invokevirtual 45, 3), (24, .ifCond .eq 7, 3), (27, .iconst 1, 1), (28, .goto 4, 3), (31, .iconst 0, 1), (32, .ireturn, 1)]
set_option maxRecDepth 100000 in
theorem pgDk33_0 : ((pgD33.drop 0).take 60).all (fun q => decide (decode prog_3_method_10_code q.1 = .ok q.2)) = true := by decide +kernel
def pgD34 : List (Nat × Instr × Nat) := [(0, .aload_n 0, 1), (1, .getfield 21, 3), (4, .iload_n 1, 1), (5, .iconst 3, 1), (6, .imul, 1), (7, .iload_n 2, 1), (8, .iadd, 1), (9, .baload, 1), (10, .ireturn, 1)]
set_option maxRecDepth 100000 in
theorem pgDk34_0 : ((pgD34.drop 0).take 60).all (fun q => decide (decode prog_3_method_9_code q.1 = .ok q.2)) = true := by decide +kernel
def pgD35 : List (Nat × Instr × Nat) := [(0, .aload_n 0, 1), (1, .getfield 18, 3), (4, .iload_n 1, 1), (5, .iconst 3, 1), (6, .imul, 1), (7, .aload_n 0, 1), (8, .getfield 15, 3), (11, .iload_n 1, 1), (12, .iaload, 1), (13, .iadd, 1), (14, .iload_n 2, 1), (15, .iastore, 1), (16, .aload_n 0, 1), (17, .getfield 15, 3), (20, .iload_n 1, 1), (21, .dup2, 1), (22, .iaload, 1), (23, .dup_x2, 1), (24, .iconst 1, 1), (25, .iadd, 1), (26, .iastore, 1), (27, .ireturn, 1)]
set_option maxRecDepth 100000 in
theorem pgDk35_0 : ((pgD35.drop 0).take 60).all (fun q => decide (decode prog_3_method_8_code q.1 = .ok q.2)) = true := by decide +kernel
def pgD36 : List (Nat × Instr × Nat) := [(0, .aload_n 2, 1), (1, .iconst 0, 1), (2, .aload_n 0, 1), (3, .iload_n 1, 1), (4, .invokevirtual 27, 3), (7, .i2l, 1), (8, .lastore, 1), (9, .goto 6, 3), (12, .astore_n 3, 1), (13, .iconst 1, 1), (14, .ireturn, 1), (15, .iconst 0, 1), (16, .ireturn, 1)]
set_option maxRecDepth 100000 in
theorem pgDk36_0 : ((pgD36.drop 0).take 60).all (fun q => decide (decode method_7_code q.1 = .ok q.2)) = true := by decide +kernel
def pgD37 : List (Nat × Instr × Nat) := [(0, .aload_n 0, 1), (1, .iconst 0, 1), (2, .iload_n 1, 1), (3, .iconst (-1), 1), (4, .invokevirtual 102, 3), (7, .ireturn, 1)]
set_option maxRecDepth 100000 in
theorem pgDk37_0 : ((pgD37.drop 0).take 60).all (fun q => decide (decode prog_1_method_6_code q.1 = .ok q.2)) = true := by decide +kernel
def pgD38 : List (Nat × Instr × Nat) := [(0, .aload_n 0, 1), (1, .getfield 26, 3), (4, .iload_n 1, 1), (5, .iload_n 2, 1), (6, .iload_n 3, 1), (7, .invokevirtual 172, 3), (10, .invokestatic 84, 3), (13, .aload_n 0, 1), (14, .getfield 26, 3), (17, .iload_n 1, 1), (18, .iload_n 2, 1), (19, .iload_n 3, 1), (20, .invokevirtual 175, 3), (23, .ireturn, 1)]
set_option maxRecDepth 100000 in
theorem pgDk38_0 : ((pgD38.drop 0).take 60).all (fun q => decide (decode prog_1_method_22_code q.1 = .ok q.2)) = true := by decide +kernel
def pgD39 : List (Nat × Instr × Nat) := [(0, .aload_n 0, 1), (1, .getfield 24, 3), (4, .sipush 200, 3), (7, .if_icmp .ge 19, 3), (10, .aload_n 0, 1), (11, .iload_n 1, 1), (12, .iload_n 2, 1), (13, .iload_n 3, 1), (14, .invokevirtual 28, 3), (17, .bipush 60, 2), (19, .if_icmp .gt 7, 3), (22, .iconst 1, 1), (23, .goto 4, 3), (26, .iconst 0, 1), (27, .ireturn, 1)]
set_option maxRecDepth 100000 in
theorem pgDk39_0 : ((pgD39.drop 0).take 60).all (fun q => decide (decode prog_6_method_7_code q.1 = .ok q.2)) = true := by decide +kernel
def pgD40 : List (Nat × Instr × Nat) := [(0, .iload_n 1, 1), (1, .iconst 3, 1), (2, .if_icmp .ne 12, 3), (5, .iconst 1, 1), (6, .aload_n 0, 1), (7, .getfield 21, 3), (10, .iload_n 2, 1), (11, .iaload, 1), (12, .iadd, 1), (13, .ireturn, 1), (14, .iload_n 1, 1), (15, .iconst 4, 1), (16, .if_icmp .ne 21, 3), (19, .iconst 1, 1), (20, .aload_n 0, 1), (21, .getfield 21, 3), (24, .iload_n 2, 1), (25, .iaload, 1), (26, .iadd, 1), (27, .aload_n 0, 1), (28, .getfield 21, 3), (31, .iload_n 3, 1), (32, .iaload, 1), (33, .iadd, 1), (34, .goto 4, 3), (37, .iconst 1, 1), (38, .ireturn, 1)]
set_option maxRecDepth 100000 in
theorem pgDk40_0 : ((pgD40.drop 0).take 60).all (fun q => decide (decode prog_6_method_9_code q.1 = .ok q.2)) = true := by decide +kernel
def pgD41 : List (Nat × Instr × Nat) := [(0, .aload_n 0, 1), (1, .getfield 9, 3), (4, .aload_n 0, 1), (5, .getfield 24, 3), (8, .iload_n 1, 1), (9, .iastore, 1), (10, .aload_n 0, 1), (11, .getfield 15, 3), (14, .aload_n 0, 1), (15, .getfield 24, 3), (18, .iload_n 2, 1), (19, .iastore, 1), (20, .aload_n 0, 1), (21, .getfield 18, 3), (24, .aload_n 0, 1), (25, .getfield 24, 3), (28, .iload_n 3, 1), (29, .iastore, 1), (30, .aload_n 0, 1), (31, .getfield 21, 3), (34, .aload_n 0, 1), (35, .getfield 24, 3), (38, .aload_n 0, 1), (39, .iload_n 1, 1), (40, .iload_n 2, 1), (41, .iload_n 3, 1), (42, .invokevirtual 28, 3), (45, .iastore, 1), (46, .aload_n 0, 1), (47, .dup, 1), (48, .getfield 24, 3), (51, .dup_x1, 1), (52, .iconst 1, 1), (53, .iadd, 1), (54, .putfield 24, 3), (57, .ireturn, 1)]
set_option maxRecDepth 100000 in
theorem pgDk41_0 : ((pgD41.drop 0).take 60).all (fun q => decide (decode prog_6_method_8_code q.1 = .ok q.2)) = true := by decide +kernel
def pgD42 : List (Nat × Instr × Nat) := [(0, .aload_n 2, 1), (1, .iconst 0, 1), (2, .aload_n 0, 1), (3, .iload_n 1, 1), (4, .invokevirtual 30, 3), (7, .i2l, 1), (8, .lastore, 1), (9, .goto 9, 3), (12, .astore_n 3, 1), (13, .iconst 1, 1), (14, .ireturn, 1), (15, .astore_n 3, 1), (16, .iconst 2, 1), (17, .ireturn, 1), (18, .iconst 0, 1), (19, .ireturn, 1)]
set_option maxRecDepth 100000 in
theorem pgDk42_0 : ((pgD42.drop 0).take 60).all (fun q => decide (decode method_8_code q.1 = .ok q.2)) = true := by decide +kernel
def pgD43 : List (Nat × Instr × Nat) := [(0, .iload_n 1, 1), (1, .ifCond .lt 15, 3), (4, .iload_n 1, 1), (5, .getstatic 106, 3), (8, .arraylength, 1), (9, .if_icmp .ge 7, 3), (12, .iconst 1, 1), (13, .goto 4, 3), (16, .iconst 0, 1), (17, .invokestatic 67, 3), (20, .aload_n 0, 1), (21, .iconst 1, 1), (22, .iload_n 1, 1), (23, .iconst (-1), 1), (24, .invokevirtual 102, 3), (27, .ireturn, 1)]
set_option maxRecDepth 100000 in
theorem pgDk43_0 : ((pgD43.drop 0).take 60).all (fun q => decide (decode prog_1_method_7_code q.1 = .ok q.2)) = true := by decide +kernel
def pgD44 : List (Nat × Instr × Nat) := [(0, .aload_n 2, 1), (1, .iconst 0, 1), (2, .aload_n 0, 1), (3, .iload_n 1, 1), (4, .invokevirtual 33, 3), (7, .i2l, 1), (8, .lastore, 1), (9, .goto 9, 3), (12, .astore_n 3, 1), (13, .iconst 1, 1), (14, .ireturn, 1), (15, .astore_n 3, 1), (16, .iconst 2, 1), (17, .ireturn, 1), (18, .iconst 0, 1), (19, .ireturn, 1)]
set_option maxRecDepth 100000 in
theorem pgDk44_0 : ((pgD44.drop 0).take 60).all (fun q => decide (decode method_9_code q.1 = .ok q.2)) = true := by decide +kernel
def pgD45 : List (Nat × Instr × Nat) := [(0, .iload_n 1, 1), (1, .ifCond .lt 13, 3), (4, .iload_n 1, 1), (5, .bipush 10, 2), (7, .if_icmp .ge 7, 3), (10, .iconst 1, 1), (11, .goto 4, 3), (14, .iconst 0, 1), (15, .invokestatic 67, 3), (18, .aload_n 0, 1), (19, .iconst 2, 1), (20, .iload_n 1, 1), (21, .iconst (-1), 1), (22, .invokevirtual 102, 3), (25, .ireturn, 1)]
set_option maxRecDepth 100000 in
theorem pgDk45_0 : ((pgD45.drop 0).take 60).all (fun q => decide (decode prog_1_method_8_code q.1 = .ok q.2)) = true := by decide +kernel
def pgD46 : List (Nat × Instr × Nat) := [(0, .aload_n 2, 1), (1, .iconst 0, 1), (2, .aload_n 0, 1), (3, .iload_n 1, 1), (4, .invokevirtual 36, 3), (7, .i2l, 1), (8, .lastore, 1), (9, .goto 9, 3), (12, .astore_n 3, 1), (13, .iconst 1, 1), (14, .ireturn, 1), (15, .astore_n 3, 1), (16, .iconst 2, 1), (17, .ireturn, 1), (18, .iconst 0, 1), (19, .ireturn, 1)]
set_option maxRecDepth 100000 in
theorem pgDk46_0 : ((pgD46.drop 0).take 60).all (fun q => decide (decode method_10_code q.1 = .ok q.2)) = true := by decide +kernel
def pgD47 : List (Nat × Instr × Nat) := [(0, .aload_n 0, 1), (1, .getfield 26, 3), (4, .iload_n 1, 1), (5, .invokevirtual 110, 3), (8, .invokestatic 67, 3), (11, .aload_n 0, 1), (12, .iconst 3, 1), (13, .iload_n 1, 1), (14, .iconst (-1), 1), (15, .invokevirtual 102, 3), (18, .ireturn, 1)]
set_option maxRecDepth 100000 in
theorem pgDk47_0 : ((pgD47.drop 0).take 60).all (fun q => decide (decode prog_1_method_9_code q.1 = .ok q.2)) = true := by decide +kernel
def pgD48 : List (Nat × Instr × Nat) := [(0, .iload_n 1, 1), (1, .ifCond .lt 15, 3), (4, .iload_n 1, 1), (5, .aload_n 0, 1), (6, .getfield 24, 3), (9, .if_icmp .ge 7, 3), (12, .iconst 1, 1), (13, .goto 4, 3), (16, .iconst 0, 1), (17, .ireturn, 1)]
set_option maxRecDepth 100000 in
theorem pgDk48_0 : ((pgD48.drop 0).take 60).all (fun q => decide (decode prog_6_method_2_code q.1 = .ok q.2)) = true := by decide +kernel
def pgD49 : List (Nat × Instr × Nat) := [(0, .aload_n 3, 1), (1, .iconst 0, 1), (2, .aload_n 0, 1), (3, .iload_n 1, 1), (4, .iload_n 2, 1), (5, .invokevirtual 39, 3), (8, .i2l, 1), (9, .lastore, 1), (10, .goto 11, 3), (13, .astore 4, 2), (15, .iconst 1, 1), (16, .ireturn, 1), (17, .astore 4, 2), (19, .iconst 2, 1), (20, .ireturn, 1), (21, .iconst 0, 1), (22, .ireturn, 1)]
set_option maxRecDepth 100000 in
theorem pgDk49_0 : ((pgD49.drop 0).take 60).all (fun q => decide (decode method_11_code q.1 = .ok q.2)) = true := by decide +kernel
def pgD50 : List (Nat × Instr × Nat) := [(0, .aload_n 0, 1), (1, .getfield 26, 3), (4, .iload_n 1, 1), (5, .invokevirtual 110, 3), (8, .ifCond .eq 18, 3), (11, .aload_n 0, 1), (12, .getfield 26, 3), (15, .iload_n 2, 1), (16, .invokevirtual 110, 3), (19, .ifCond .eq 7, 3), (22, .iconst 1, 1), (23, .goto 4, 3), (26, .iconst 0, 1), (27, .invokestatic 67, 3), (30, .aload_n 0, 1), (31, .iconst 4, 1), (32, .iload_n 1, 1), (33, .iload_n 2, 1), (34, .invokevirtual 102, 3), (37, .ireturn, 1)]
set_option maxRecDepth 100000 in
theorem pgDk50_0 : ((pgD50.drop 0).take 60).all (fun q => decide (decode prog_1_method_10_code q.1 = .ok q.2)) = true := by decide +kernel
def pgD51 : List (Nat × Instr × Nat) := [(0, .aload_n 3, 1), (1, .iconst 0, 1), (2, .aload_n 0, 1), (3, .iload_n 1, 1), (4, .iload_n 2, 1), (5, .invokevirtual 42, 3), (8, .i2l, 1), (9, .lastore, 1), (10, .goto 11, 3), (13, .astore 4, 2), (15, .iconst 1, 1), (16, .ireturn, 1), (17, .astore 4, 2), (19, .iconst 2, 1), (20, .ireturn, 1), (21, .iconst 0, 1), (22, .ireturn, 1)]
set_option maxRecDepth 100000 in
theorem pgDk51_0 : ((pgD51.drop 0).take 60).all (fun q => decide (decode method_12_code q.1 = .ok q.2)) = true := by decide +kernel
def pgD52 : List (Nat × Instr × Nat) := [(0, .aload_n 0, 1), (1, .getfield 19, 3), (4, .iload_n 1, 1), (5, .iload_n 2, 1), (6, .invokevirtual 111, 3), (9, .invokestatic 67, 3), (12, .aload_n 0, 1), (13, .iconst 5, 1), (14, .iload_n 1, 1), (15, .iload_n 2, 1), (16, .invokevirtual 102, 3), (19, .ireturn, 1)]
set_option maxRecDepth 100000 in
theorem pgDk52_0 : ((pgD52.drop 0).take 60).all (fun q => decide (decode prog_1_method_11_code q.1 = .ok q.2)) = true := by decide +kernel
def pgD53 : List (Nat × Instr × Nat) := [(0, .aload_n 0, 1), (1, .iload_n 1, 1), (2, .invokevirtual 41, 3), (5, .ifCond .eq 21, 3), (8, .iload_n 2, 1), (9, .ifCond .lt 17, 3), (12, .iload_n 2, 1), (13, .aload_n 0, 1), (14, .getfield 15, 3), (17, .iload_n 1, 1), (18, .iaload, 1), (19, .if_icmp .ge 7, 3), (22, .iconst 1, 1), (23, .goto 4, 3), (26, .iconst 0, 1), (27, .ireturn, 1)]
set_option maxRecDepth 100000 in
theorem pgDk53_0 : ((pgD53.drop 0).take 60).all (fun q => decide (decode prog_3_method_4_code q.1 = .ok q.2)) = true := by decide +kernel
def pgD54 : List (Nat × Instr × Nat) := [(0, .aload_n 2, 1), (1, .iconst 0, 1), (2, .aload_n 0, 1), (3, .iload_n 1, 1), (4, .invokevirtual 45, 3), (7, .i2l, 1), (8, .lastore, 1), (9, .goto 9, 3), (12, .astore_n 3, 1), (13, .iconst 1, 1), (14, .ireturn, 1), (15, .astore_n 3, 1), (16, .iconst 2, 1), (17, .ireturn, 1), (18, .iconst 0, 1), (19, .ireturn, 1)]
set_option maxRecDepth 100000 in
theorem pgDk54_0 : ((pgD54.drop 0).take 60).all (fun q => decide (decode method_13_code q.1 = .ok q.2)) = true := by decide +kernel
def pgD55 : List (Nat × Instr × Nat) := [(0, .aload_n 0, 1), (1, .getfield 33, 3), (4, .iload_n 1, 1), (5, .invokevirtual 115, 3), (8, .invokestatic 67, 3), (11, .aload_n 0, 1), (12, .bipush 6, 2), (14, .iload_n 1, 1), (15, .iconst (-1), 1), (16, .invokevirtual 102, 3), (19, .ireturn, 1)]
set_option maxRecDepth 100000 in
theorem pgDk55_0 : ((pgD55.drop 0).take 60).all (fun q => decide (decode prog_1_method_12_code q.1 = .ok q.2)) = true := by decide +kernel
def pgD56 : List (Nat × Instr × Nat) := [(0, .iload_n 1, 1), (1, .ifCond .lt 15, 3), (4, .iload_n 1, 1), (5, .aload_n 0, 1), (6, .getfield 24, 3), (9, .if_icmp .ge 7, 3), (12, .iconst 1, 1), (13, .goto 4, 3), (16, .iconst 0, 1), (17, .ireturn, 1)]
set_option maxRecDepth 100000 in
theorem pgDk56_0 : ((pgD56.drop 0).take 60).all (fun q => decide (decode prog_5_method_3_code q.1 = .ok q.2)) = true := by decide +kernel
def pgD57 : List (Nat × Instr × Nat) := [(0, .aload 7, 2), (2, .iconst 0, 1), (3, .aload_n 0, 1), (4, .iload_n 1, 1), (5, .iload_n 2, 1), (6, .iload_n 3, 1), (7, .iload 4, 2), (9, .iload 5, 2), (11, .iload 6, 2), (13, .invokevirtual 48, 3), (16, .i2l, 1), (17, .lastore, 1), (18, .goto 11, 3), (21, .astore 8, 2), (23, .iconst 1, 1), (24, .ireturn, 1), (25, .astore 8, 2), (27, .iconst 2, 1), (28, .ireturn, 1), (29, .iconst 0, 1), (30, .ireturn, 1)]
set_option maxRecDepth 100000 in
theorem pgDk57_0 : ((pgD57.drop 0).take 60).all (fun q => decide (decode method_14_code q.1 = .ok q.2)) = true := by decide +kernel
def pgD58 : List (Nat × Instr × Nat) := [(0, .aload_n 0, 1), (1, .getfield 19, 3), (4, .iload_n 1, 1), (5, .invokevirtual 79, 3), (8, .ifCond .eq 16, 3), (11, .iload_n 2, 1), (12, .ifCond .lt 12, 3), (15, .iload_n 2, 1), (16, .iconst 3, 1), (17, .if_icmp .ge 7, 3), (20, .iconst 1, 1), (21, .goto 4, 3), (24, .iconst 0, 1), (25, .invokestatic 67, 3), (28, .iload_n 3, 1), (29, .iconst (-1), 1), (30, .if_icmp .eq 19, 3), (33, .iload_n 2, 1), (34, .iconst 2, 1), (35, .if_icmp .ne 18, 3), (38, .aload_n 0, 1), (39, .getfield 19, 3), (42, .iload_n 3, 1), (43, .invokevirtual 79, 3), (46, .ifCond .eq 7, 3), (49, .iconst 1, 1), (50, .goto 4, 3), (53, .iconst 0, 1), (54, .invokestatic 67, 3), (57, .aload_n 0, 1), (58, .getfield 19, 3), (61, .iload_n 1, 1), (62, .invokevirtual 93, 3), (65, .istore 7, 2), (67, .iload 7, 2), (69, .iconst 1, 1), (70, .if_icmp .lt 15, 3), (73, .aload_n 0, 1), (74, .getfield 26, 3), (77, .iload 4, 2), (79, .invokevirtual 110, 3), (82, .ifCond .eq 7, 3), (85, .iconst 1, 1), (86, .goto 4, 3), (89, .iconst 0, 1), (90, .invokestatic 67, 3), (93, .iload 7, 2), (95, .iconst 2, 1), (96, .if_icmp .lt 15, 3), (99, .aload_n 0, 1), (100, .getfield 26, 3), (103, .iload 5, 2), (105, .invokevirtual 110, 3), (108, .ifCond .eq 7, 3), (111, .iconst 1, 1), (112, .goto 4, 3), (115, .iconst 0, 1), (116, .invokestatic 67, 3), (119, .iload 7, 2), (121, .iconst 3, 1), (122, .if_icmp .lt 15, 3), (125, .aload_n 0, 1), (126, .getfield 26, 3), (129, .iload 6, 2), (131, .invokevirtual 110, 3), (134, .ifCond .eq 7, 3), (137, .iconst 1, 1), (138, .goto 4, 3), (141, .iconst 0, 1), (142, .invokestatic 67, 3), (145, .aload_n 0, 1), (146, .getfield 19, 3), (149, .iload_n 1, 1), (150, .iload_n 2, 1), (151, .invokevirtual 116, 3), (154, .ifCond .ne 7, 3), (157, .iconst 1, 1), (158, .goto 4, 3), (161, .iconst 0, 1), (162, .invokestatic 84, 3), (165, .aload_n 0, 1), (166, .getfield 19, 3), (169, .iload_n 1, 1), (170, .iload_n 2, 1), (171, .iload_n 3, 1), (172, .invokevirtual 119, 3), (175, .ifCond .ne 6, 3), (178, .bipush (-5), 2), (180, .ireturn, 1), (181, .aload_n 0, 1), (182, .getfield 19, 3), (185, .iload_n 1, 1), (186, .iload_n 2, 1), (187, .iload_n 3, 1), (188, .invokevirtual 123, 3), (191, .aload_n 0, 1), (192, .getfield 19, 3), (195, .iload_n 1, 1), (196, .iload_n 2, 1), (197, .iload 4, 2), (199, .iload 5, 2), (201, .iload 6, 2), (203, .invokevirtual 127, 3), (206, .iconst 0, 1), (207, .istore 8, 2), (209, .iconst 0, 1), (210, .istore 9, 2), (212, .iload 9, 2), (214, .iload 7, 2), (216, .if_icmp .ge 27, 3), (219, .iload 8, 2), (221, .ifCond .ne 22, 3), (224, .aload_n 0, 1), (225, .getfield 50, 3), (228, .iload_n 1, 1), (229, .iload_n 2, 1), (230, .iload 9, 2), (232, .invokevirtual 131, 3), (235, .istore 8, 2), (237, .iinc 9 1, 3), (240, .goto (-28), 3), (243, .iload 8, 2), (245, .ifCond .eq 12, 3), (248, .aload_n 0, 1), (249, .getfield 19, 3), (252, .iload_n 1, 1), (253, .iload_n 2, 1), (254, .invokevirtual 134, 3), (257, .iload 8, 2), (259, .ireturn, 1)]
set_option maxRecDepth 100000 in
theorem pgDk58_0 : ((pgD58.drop 0).take 60).all (fun q => decide (decode prog_1_method_13_code q.1 = .ok q.2)) = true := by decide +kernel
set_option maxRecDepth 100000 in
theorem pgDk58_60 : ((pgD58.drop 60).take 60).all (fun q => decide (decode prog_1_method_13_code q.1 = .ok q.2)) = true := by decide +kernel
set_option maxRecDepth 100000 in
theorem pgDk58_120 : ((pgD58.drop 120).take 60).all (fun q => decide (decode prog_1_method_13_code q.1 = .ok q.2)) = true := by decide +kernel
def pgD59 : List (Nat × Instr × Nat) := [(0, .aload_n 0, 1), (1, .getfield 9, 3), (4, .iload_n 1, 1), (5, .iaload, 1), (6, .istore 4, 2), (8, .iload 4, 2), (10, .iconst (-1), 1), (11, .if_icmp .ne 5, 3), (14, .iconst 1, 1), (15, .ireturn, 1), (16, .aload_n 0, 1), (17, .iload 4, 2), (19, .iload_n 2, 1), (20, .invokevirtual 45, 3), (23, .ifCond .ne 5, 3), (26, .iconst 0, 1), (27, .ireturn, 1), (28, .aload_n 0, 1), (29, .getfield 25, 3), (32, .iload 4, 2), (34, .iconst 3, 1), (35, .imul, 1), (36, .iload_n 2, 1), (37, .iadd, 1), (38, .iaload, 1), (39, .istore 5, 2), (41, .iload 5, 2), (43, .iconst (-1), 1), (44, .if_icmp .eq 13, 3), (47, .aload_n 0, 1), (48, .iload_n 3, 1), (49, .iload 5, 2), (51, .invokevirtual 49, 3), (54, .ifCond .eq 7, 3), (57, .iconst 1, 1), (58, .goto 4, 3), (61, .iconst 0, 1), (62, .ireturn, 1)]
set_option maxRecDepth 100000 in
theorem pgDk59_0 : ((pgD59.drop 0).take 60).all (fun q => decide (decode prog_3_method_14_code q.1 = .ok q.2)) = true := by decide +kernel
def pgD60 : List (Nat × Instr × Nat) := [(0, .iload_n 1, 1), (1, .istore_n 3, 1), (2, .iload_n 3, 1), (3, .iconst (-1), 1), (4, .if_icmp .eq 18, 3), (7, .iload_n 3, 1), (8, .iload_n 2, 1), (9, .if_icmp .eq 13, 3), (12, .aload_n 0, 1), (13, .getfield 9, 3), (16, .iload_n 3, 1), (17, .iaload, 1), (18, .istore_n 3, 1), (19, .goto (-17), 3), (22, .iload_n 3, 1), (23, .iload_n 2, 1), (24, .if_icmp .ne 7, 3), (27, .iconst 1, 1), (28, .goto 4, 3), (31, .iconst 0, 1), (32, .ireturn, 1)]
set_option maxRecDepth 100000 in
theorem pgDk60_0 : ((pgD60.drop 0).take 60).all (fun q => decide (decode prog_3_method_13_code q.1 = .ok q.2)) = true := by decide +kernel
def pgD61 : List (Nat × Instr × Nat) := [(0, .aload_n 0, 1), (1, .getfield 21, 3), (4, .iload_n 1, 1), (5, .iconst 3, 1), (6, .imul, 1), (7, .iload_n 2, 1), (8, .iadd, 1), (9, .iconst 1, 1), (10, .bastore, 1), (11, .aload_n 0, 1), (12, .getfield 25, 3), (15, .iload_n 1, 1), (16, .iconst 3, 1), (17, .imul, 1), (18, .iload_n 2, 1), (19, .iadd, 1), (20, .iload_n 3, 1), (21, .iastore, 1), (22, .return_, 1)]
set_option maxRecDepth 100000 in
theorem pgDk61_0 : ((pgD61.drop 0).take 60).all (fun q => decide (decode prog_3_method_15_code q.1 = .ok q.2)) = true := by decide +kernel
def pgD62 : List (Nat × Instr × Nat) := [(0, .iload_n 1, 1), (1, .iconst 3, 1), (2, .imul, 1), (3, .iload_n 2, 1), (4, .iadd, 1), (5, .iconst 3, 1), (6, .imul, 1), (7, .istore 6, 2), (9, .aload_n 0, 1), (10, .getfield 28, 3), (13, .iload 6, 2), (15, .iload_n 3, 1), (16, .iastore, 1), (17, .aload_n 0, 1), (18, .getfield 28, 3), (21, .iload 6, 2), (23, .iconst 1, 1), (24, .iadd, 1), (25, .iload 4, 2), (27, .iastore, 1), (28, .aload_n 0, 1), (29, .getfield 28, 3), (32, .iload 6, 2), (34, .iconst 2, 1), (35, .iadd, 1), (36, .iload 5, 2), (38, .iastore, 1), (39, .return_, 1)]
set_option maxRecDepth 100000 in
theorem pgDk62_0 : ((pgD62.drop 0).take 60).all (fun q => decide (decode prog_3_method_16_code q.1 = .ok q.2)) = true := by decide +kernel
def pgD63 : List (Nat × Instr × Nat) := [(0, .aload_n 0, 1), (1, .getfield 32, 3), (4, .aload_n 0, 1), (5, .getfield 24, 3), (8, .iload_n 1, 1), (9, .iload_n 2, 1), (10, .iload_n 3, 1), (11, .invokevirtual 102, 3), (14, .invokevirtual 58, 3), (17, .ifCond .ne 5, 3), (20, .iconst (-1), 1), (21, .ireturn, 1), (22, .aload_n 0, 1), (23, .getfield 32, 3), (26, .aload_n 0, 1), (27, .getfield 24, 3), (30, .iload_n 1, 1), (31, .iload_n 3, 1), (32, .invokevirtual 108, 3), (35, .aload_n 0, 1), (36, .iload_n 2, 1), (37, .invokevirtual 112, 3), (40, .invokevirtual 115, 3), (43, .ifCond .eq 13, 3), (46, .aload_n 0, 1), (47, .getfield 46, 3), (50, .invokevirtual 62, 3), (53, .ifCond .eq 5, 3), (56, .iconst (-1), 1), (57, .ireturn, 1), (58, .aload_n 0, 1), (59, .getfield 46, 3), (62, .invokevirtual 119, 3), (65, .aload_n 0, 1), (66, .getfield 54, 3), (69, .iload_n 2, 1), (70, .iconst 2, 1), (71, .if_icmp .ne 14, 3), (74, .aload_n 0, 1), (75, .getfield 24, 3), (78, .iload_n 1, 1), (79, .invokevirtual 122, 3), (82, .goto 4, 3), (85, .iconst (-1), 1), (86, .invokevirtual 74, 3), (89, .istore 4, 2), (91, .iload 4, 2), (93, .ifCond .ne 20, 3), (96, .aload_n 0, 1), (97, .getfield 36, 3), (100, .iload_n 1, 1), (101, .iload_n 2, 1), (102, .iload_n 3, 1), (103, .invokestatic 125, 3), (106, .aload_n 0, 1), (107, .getfield 32, 3), (110, .invokevirtual 98, 3), (113, .iload 4, 2), (115, .ireturn, 1)]
set_option maxRecDepth 100000 in
theorem pgDk63_0 : ((pgD63.drop 0).take 60).all (fun q => decide (decode prog_2_method_3_code q.1 = .ok q.2)) = true := by decide +kernel
def pgD64 : List (Nat × Instr × Nat) := [(0, .aload_n 0, 1), (1, .getfield 28, 3), (4, .iload_n 1, 1), (5, .iconst 3, 1), (6, .imul, 1), (7, .iload_n 2, 1), (8, .iadd, 1), (9, .iconst 3, 1), (10, .imul, 1), (11, .iload_n 3, 1), (12, .iadd, 1), (13, .iaload, 1), (14, .ireturn, 1)]
set_option maxRecDepth 100000 in
theorem pgDk64_0 : ((pgD64.drop 0).take 60).all (fun q => decide (decode prog_3_method_12_code q.1 = .ok q.2)) = true := by decide +kernel
def pgD65 : List (Nat × Instr × Nat) := [(0, .aload_n 0, 1), (1, .iload_n 1, 1), (2, .invokevirtual 73, 3), (5, .aload_n 0, 1), (6, .getfield 12, 3), (9, .invokevirtual 77, 3), (12, .iconst 0, 1), (13, .istore_n 2, 1), (14, .iload_n 2, 1), (15, .aload_n 0, 1), (16, .getfield 60, 3), (19, .if_icmp .ge 32, 3), (22, .aload_n 0, 1), (23, .getfield 25, 3), (26, .iload_n 2, 1), (27, .aload_n 0, 1), (28, .getfield 12, 3), (31, .iconst 2, 1), (32, .iconst (-1), 1), (33, .iconst (-1), 1), (34, .invokevirtual 80, 3), (37, .iastore, 1), (38, .aload_n 0, 1), (39, .getfield 34, 3), (42, .iload_n 2, 1), (43, .iconst 0, 1), (44, .iastore, 1), (45, .iinc 2 1, 3), (48, .goto (-34), 3), (51, .iconst 0, 1), (52, .istore_n 2, 1), (53, .iload_n 2, 1), (54, .aload_n 0, 1), (55, .getfield 60, 3), (58, .if_icmp .ge 29, 3), (61, .aload_n 0, 1), (62, .getfield 12, 3), (65, .invokevirtual 84, 3), (68, .ifCond .eq 11, 3), (71, .aload_n 0, 1), (72, .iload_n 2, 1), (73, .invokevirtual 88, 3), (76, .ifCond .ne 5, 3), (79, .iconst 0, 1), (80, .ireturn, 1), (81, .iinc 2 1, 3), (84, .goto (-31), 3), (87, .iconst 1, 1), (88, .ireturn, 1)]
set_option maxRecDepth 100000 in
theorem pgDk65_0 : ((pgD65.drop 0).take 60).all (fun q => decide (decode prog_12_method_9_code q.1 = .ok q.2)) = true := by decide +kernel
def pgD66 : List (Nat × Instr × Nat) := [(0, .aload_n 0, 1), (1, .aload_n 0, 1), (2, .getfield 52, 3), (5, .iload_n 1, 1), (6, .invokevirtual 100, 3), (9, .putfield 60, 3), (12, .aload_n 0, 1), (13, .iconst 0, 1), (14, .iload_n 1, 1), (15, .iconst (-1), 1), (16, .invokevirtual 102, 3), (19, .iconst 0, 1), (20, .istore_n 2, 1), (21, .iload_n 2, 1), (22, .aload_n 0, 1), (23, .getfield 60, 3), (26, .if_icmp .ge 103, 3), (29, .aload_n 0, 1), (30, .getfield 18, 3), (33, .iload_n 2, 1), (34, .iaload, 1), (35, .istore_n 3, 1), (36, .aload_n 0, 1), (37, .getfield 52, 3), (40, .iload_n 3, 1), (41, .invokevirtual 64, 3), (44, .iconst 3, 1), (45, .if_icmp .ne 22, 3), (48, .aload_n 0, 1), (49, .iload_n 2, 1), (50, .iconst 1, 1), (51, .iadd, 1), (52, .aload_n 0, 1), (53, .getfield 52, 3), (56, .iload_n 3, 1), (57, .invokevirtual 70, 3), (60, .iload_n 2, 1), (61, .invokevirtual 102, 3), (64, .goto 59, 3), (67, .aload_n 0, 1), (68, .getfield 52, 3), (71, .iload_n 3, 1), (72, .invokevirtual 64, 3), (75, .iconst 4, 1), (76, .if_icmp .ne 47, 3), (79, .aload_n 0, 1), (80, .iload_n 2, 1), (81, .iconst 1, 1), (82, .iadd, 1), (83, .aload_n 0, 1), (84, .getfield 52, 3), (87, .iload_n 3, 1), (88, .invokevirtual 70, 3), (91, .aload_n 0, 1), (92, .getfield 22, 3), (95, .iload_n 2, 1), (96, .iaload, 1), (97, .invokevirtual 102, 3), (100, .aload_n 0, 1), (101, .aload_n 0, 1), (102, .iload_n 2, 1), (103, .invokevirtual 106, 3), (106, .aload_n 0, 1), (107, .getfield 52, 3), (110, .iload_n 3, 1), (111, .invokevirtual 109, 3), (114, .aload_n 0, 1), (115, .getfield 22, 3), (118, .iload_n 2, 1), (119, .iaload, 1), (120, .invokevirtual 102, 3), (123, .iinc 2 1, 3), (126, .goto (-105), 3), (129, .return_, 1)]
set_option maxRecDepth 100000 in
theorem pgDk66_0 : ((pgD66.drop 0).take 60).all (fun q => decide (decode prog_12_method_11_code q.1 = .ok q.2)) = true := by decide +kernel
set_option maxRecDepth 100000 in
theorem pgDk66_60 : ((pgD66.drop 60).take 60).all (fun q => decide (decode prog_12_method_11_code q.1 = .ok q.2)) = true := by decide +kernel
def pgD67 : List (Nat × Instr × Nat) := [(0, .aload_n 0, 1), (1, .getfield 21, 3), (4, .iload_n 1, 1), (5, .iaload, 1), (6, .ireturn, 1)]
set_option maxRecDepth 100000 in
theorem pgDk67_0 : ((pgD67.drop 0).take 60).all (fun q => decide (decode prog_6_method_6_code q.1 = .ok q.2)) = true := by decide +kernel
def pgD68 : List (Nat × Instr × Nat) := [(0, .aload_n 0, 1), (1, .getfield 18, 3), (4, .iload_n 1, 1), (5, .iload_n 2, 1), (6, .iastore, 1), (7, .aload_n 0, 1), (8, .getfield 22, 3), (11, .iload_n 1, 1), (12, .iload_n 3, 1), (13, .iastore, 1), (14, .return_, 1)]
set_option maxRecDepth 100000 in
theorem pgDk68_0 : ((pgD68.drop 0).take 60).all (fun q => decide (decode prog_12_method_12_code q.1 = .ok q.2)) = true := by decide +kernel
def pgD69 : List (Nat × Instr × Nat) := [(0, .aload_n 0, 1), (1, .getfield 9, 3), (4, .iload_n 1, 1), (5, .iaload, 1), (6, .ireturn, 1)]
set_option maxRecDepth 100000 in
theorem pgDk69_0 : ((pgD69.drop 0).take 60).all (fun q => decide (decode prog_6_method_3_code q.1 = .ok q.2)) = true := by decide +kernel
def pgD70 : List (Nat × Instr × Nat) := [(0, .aload_n 0, 1), (1, .getfield 15, 3), (4, .iload_n 1, 1), (5, .iaload, 1), (6, .ireturn, 1)]
set_option maxRecDepth 100000 in
theorem pgDk70_0 : ((pgD70.drop 0).take 60).all (fun q => decide (decode prog_6_method_4_code q.1 = .ok q.2)) = true := by decide +kernel
def pgD71 : List (Nat × Instr × Nat) := [(0, .iload_n 1, 1), (1, .iconst 1, 1), (2, .iadd, 1), (3, .aload_n 0, 1), (4, .getfield 52, 3), (7, .aload_n 0, 1), (8, .getfield 52, 3), (11, .aload_n 0, 1), (12, .getfield 18, 3), (15, .iload_n 1, 1), (16, .iaload, 1), (17, .invokevirtual 70, 3), (20, .invokevirtual 100, 3), (23, .iadd, 1), (24, .ireturn, 1)]
set_option maxRecDepth 100000 in
theorem pgDk71_0 : ((pgD71.drop 0).take 60).all (fun q => decide (decode prog_12_method_13_code q.1 = .ok q.2)) = true := by decide +kernel
def pgD72 : List (Nat × Instr × Nat) := [(0, .aload_n 0, 1), (1, .getfield 18, 3), (4, .iload_n 1, 1), (5, .iaload, 1), (6, .ireturn, 1)]
set_option maxRecDepth 100000 in
theorem pgDk72_0 : ((pgD72.drop 0).take 60).all (fun q => decide (decode prog_6_method_5_code q.1 = .ok q.2)) = true := by decide +kernel
def pgD73 : List (Nat × Instr × Nat) := [(0, .aload_n 0, 1), (1, .iconst 0, 1), (2, .putfield 36, 3), (5, .aload_n 0, 1), (6, .iconst 0, 1), (7, .iconst (-1), 1), (8, .iconst (-1), 1), (9, .invokevirtual 40, 3), (12, .pop, 1), (13, .aload_n 0, 1), (14, .iconst 1, 1), (15, .iconst (-1), 1), (16, .iconst (-1), 1), (17, .invokevirtual 40, 3), (20, .pop, 1), (21, .return_, 1)]
set_option maxRecDepth 100000 in
theorem pgDk73_0 : ((pgD73.drop 0).take 60).all (fun q => decide (decode prog_7_method_2_code q.1 = .ok q.2)) = true := by decide +kernel
def pgD74 : List (Nat × Instr × Nat) := [(0, .aload_n 0, 1), (1, .getfield 11, 3), (4, .aload_n 0, 1), (5, .getfield 36, 3), (8, .iload_n 1, 1), (9, .iastore, 1), (10, .aload_n 0, 1), (11, .getfield 15, 3), (14, .aload_n 0, 1), (15, .getfield 36, 3), (18, .iload_n 2, 1), (19, .iastore, 1), (20, .aload_n 0, 1), (21, .getfield 18, 3), (24, .aload_n 0, 1), (25, .getfield 36, 3), (28, .iload_n 3, 1), (29, .iastore, 1), (30, .aload_n 0, 1), (31, .getfield 21, 3), (34, .aload_n 0, 1), (35, .getfield 36, 3), (38, .aload_n 0, 1), (39, .getfield 36, 3), (42, .iastore, 1), (43, .aload_n 0, 1), (44, .dup, 1), (45, .getfield 36, 3), (48, .dup_x1, 1), (49, .iconst 1, 1), (50, .iadd, 1), (51, .putfield 36, 3), (54, .ireturn, 1)]
set_option maxRecDepth 100000 in
theorem pgDk74_0 : ((pgD74.drop 0).take 60).all (fun q => decide (decode prog_7_method_4_code q.1 = .ok q.2)) = true := by decide +kernel
def pgD75 : List (Nat × Instr × Nat) := [(0, .aload_n 0, 1), (1, .getfield 36, 3), (4, .bipush 40, 2), (6, .iadd, 1), (7, .iconst 2, 1), (8, .iadd, 1), (9, .sipush 2504, 3), (12, .if_icmp .gt 7, 3), (15, .iconst 1, 1), (16, .goto 4, 3), (19, .iconst 0, 1), (20, .ireturn, 1)]
set_option maxRecDepth 100000 in
theorem pgDk75_0 : ((pgD75.drop 0).take 60).all (fun q => decide (decode prog_7_method_3_code q.1 = .ok q.2)) = true := by decide +kernel
def pgD76 : List (Nat × Instr × Nat) := [(0, .aload_n 0, 1), (1, .iload_n 1, 1), (2, .invokevirtual 112, 3), (5, .istore_n 2, 1), (6, .aload_n 0, 1), (7, .iload_n 1, 1), (8, .invokevirtual 115, 3), (11, .tableswitch 189 0 5 #[37, 52, 71, 78, 126, 162], 37), (48, .aload_n 0, 1), (49, .getfield 12, 3), (52, .aload_n 0, 1), (53, .getfield 25, 3), (56, .iload_n 1, 1), (57, .iaload, 1), (58, .iconst 0, 1), (59, .invokevirtual 96, 3), (62, .ireturn, 1), (63, .aload_n 0, 1), (64, .getfield 12, 3), (67, .aload_n 0, 1), (68, .getfield 25, 3), (71, .iload_n 1, 1), (72, .iaload, 1), (73, .aload_n 0, 1), (74, .iload_n 2, 1), (75, .invokevirtual 118, 3), (78, .invokevirtual 96, 3), (81, .ireturn, 1), (82, .aload_n 0, 1), (83, .iload_n 1, 1), (84, .iload_n 2, 1), (85, .invokevirtual 121, 3), (88, .ireturn, 1), (89, .aload_n 0, 1), (90, .getfield 28, 3), (93, .iload_n 1, 1), (94, .aload_n 0, 1), (95, .getfield 12, 3), (98, .iconst 2, 1), (99, .iconst (-1), 1), (100, .iconst (-1), 1), (101, .invokevirtual 80, 3), (104, .iastore, 1), (105, .aload_n 0, 1), (106, .getfield 12, 3), (109, .aload_n 0, 1), (110, .getfield 25, 3), (113, .iload_n 1, 1), (114, .iaload, 1), (115, .aload_n 0, 1), (116, .aload_n 0, 1), (117, .getfield 28, 3), (120, .iload_n 1, 1), (121, .iaload, 1), (122, .aload_n 0, 1), (123, .getfield 25, 3), (126, .iload_n 1, 1), (127, .iconst 1, 1), (128, .iadd, 1), (129, .iaload, 1), (130, .invokevirtual 124, 3), (133, .invokevirtual 96, 3), (136, .ireturn, 1), (137, .aload_n 0, 1), (138, .getfield 12, 3), (141, .aload_n 0, 1), (142, .getfield 25, 3), (145, .iload_n 1, 1), (146, .iconst 1, 1), (147, .iadd, 1), (148, .iaload, 1), (149, .aload_n 0, 1), (150, .aload_n 0, 1), (151, .getfield 25, 3), (154, .aload_n 0, 1), (155, .iload_n 1, 1), (156, .invokevirtual 106, 3), (159, .iaload, 1), (160, .aload_n 0, 1), (161, .getfield 25, 3), (164, .iload_n 1, 1), (165, .iaload, 1), (166, .invokevirtual 124, 3), (169, .invokevirtual 96, 3), (172, .ireturn, 1), (173, .aload_n 0, 1), (174, .iload_n 1, 1), (175, .aload_n 0, 1), (176, .getfield 48, 3), (179, .iload_n 2, 1), (180, .aload_n 0, 1), (181, .getfield 52, 3), (184, .aload_n 0, 1), (185, .getfield 18, 3), (188, .iload_n 1, 1), (189, .iaload, 1), (190, .invokevirtual 109, 3), (193, .invokevirtual 127, 3), (196, .invokevirtual 132, 3), (199, .ireturn, 1), (200, .aload_n 0, 1), (201, .iload_n 1, 1), (202, .aload_n 0, 1), (203, .getfield 56, 3), (206, .iload_n 2, 1), (207, .invokevirtual 135, 3), (210, .invokevirtual 132, 3), (213, .ireturn, 1)]
set_option maxRecDepth 100000 in
theorem pgDk76_0 : ((pgD76.drop 0).take 60).all (fun q => decide (decode prog_12_method_14_code q.1 = .ok q.2)) = true := by decide +kernel
set_option maxRecDepth 100000 in
theorem pgDk76_60 : ((pgD76.drop 60).take 60).all (fun q => decide (decode prog_12_method_14_code q.1 = .ok q.2)) = true := by decide +kernel
def pgD77 : List (Nat × Instr × Nat) := [(0, .aload_n 0, 1), (1, .getfield 52, 3), (4, .aload_n 0, 1), (5, .getfield 18, 3), (8, .iload_n 1, 1), (9, .iaload, 1), (10, .invokevirtual 70, 3), (13, .ireturn, 1)]
set_option maxRecDepth 100000 in
theorem pgDk77_0 : ((pgD77.drop 0).take 60).all (fun q => decide (decode prog_12_method_5_code q.1 = .ok q.2)) = true := by decide +kernel
def pgD78 : List (Nat × Instr × Nat) := [(0, .aload_n 0, 1), (1, .getfield 52, 3), (4, .aload_n 0, 1), (5, .getfield 18, 3), (8, .iload_n 1, 1), (9, .iaload, 1), (10, .invokevirtual 64, 3), (13, .ireturn, 1)]
set_option maxRecDepth 100000 in
theorem pgDk78_0 : ((pgD78.drop 0).take 60).all (fun q => decide (decode prog_12_method_4_code q.1 = .ok q.2)) = true := by decide +kernel
def pgD79 : List (Nat × Instr × Nat) := [(0, .aload_n 0, 1), (1, .getfield 33, 3), (4, .iconst 0, 1), (5, .iload_n 1, 1), (6, .iastore, 1), (7, .aload_n 0, 1), (8, .getfield 33, 3), (11, .iconst 1, 1), (12, .iload_n 2, 1), (13, .iastore, 1), (14, .iconst 2, 1), (15, .istore_n 3, 1), (16, .iconst 0, 1), (17, .istore 4, 2), (19, .iload_n 3, 1), (20, .ifCond .le 140, 3), (23, .iload 4, 2), (25, .sipush 5008, 3), (28, .if_icmp .gt 132, 3), (31, .iinc 3 (-2), 3), (34, .aload_n 0, 1), (35, .aload_n 0, 1), (36, .getfield 33, 3), (39, .iload_n 3, 1), (40, .iaload, 1), (41, .invokevirtual 44, 3), (44, .istore 5, 2), (46, .aload_n 0, 1), (47, .aload_n 0, 1), (48, .getfield 33, 3), (51, .iload_n 3, 1), (52, .iconst 1, 1), (53, .iadd, 1), (54, .iaload, 1), (55, .invokevirtual 44, 3), (58, .istore 6, 2), (60, .iload 5, 2), (62, .iload 6, 2), (64, .if_icmp .ne 6, 3), (67, .goto 87, 3), (70, .aload_n 0, 1), (71, .getfield 11, 3), (74, .iload 5, 2), (76, .iaload, 1), (77, .iconst 2, 1), (78, .if_icmp .ne 15, 3), (81, .aload_n 0, 1), (82, .getfield 21, 3), (85, .iload 5, 2), (87, .iload 6, 2), (89, .iastore, 1), (90, .goto 64, 3), (93, .aload_n 0, 1), (94, .getfield 11, 3), (97, .iload 6, 2), (99, .iaload, 1), (100, .iconst 2, 1), (101, .if_icmp .ne 15, 3), (104, .aload_n 0, 1), (105, .getfield 21, 3), (108, .iload 6, 2), (110, .iload 5, 2), (112, .iastore, 1), (113, .goto 41, 3), (116, .aload_n 0, 1), (117, .getfield 11, 3), (120, .iload 5, 2), (122, .iaload, 1), (123, .aload_n 0, 1), (124, .getfield 11, 3), (127, .iload 6, 2), (129, .iaload, 1), (130, .if_icmp .eq 5, 3), (133, .iconst 0, 1), (134, .ireturn, 1), (135, .aload_n 0, 1), (136, .getfield 21, 3), (139, .iload 5, 2), (141, .iload 6, 2), (143, .iastore, 1), (144, .aload_n 0, 1), (145, .iload 5, 2), (147, .iload 6, 2), (149, .iload_n 3, 1), (150, .invokevirtual 48, 3), (153, .istore_n 3, 1), (154, .iinc 4 1, 3), (157, .goto (-138), 3), (160, .iconst 1, 1), (161, .ireturn, 1)]
set_option maxRecDepth 100000 in
theorem pgDk79_0 : ((pgD79.drop 0).take 60).all (fun q => decide (decode prog_7_method_10_code q.1 = .ok q.2)) = true := by decide +kernel
set_option maxRecDepth 100000 in
theorem pgDk79_60 : ((pgD79.drop 60).take 60).all (fun q => decide (decode prog_7_method_10_code q.1 = .ok q.2)) = true := by decide +kernel
def pgD80 : List (Nat × Instr × Nat) := [(0, .iload_n 1, 1), (1, .istore_n 2, 1), (2, .aload_n 0, 1), (3, .getfield 21, 3), (6, .iload_n 2, 1), (7, .iaload, 1), (8, .iload_n 2, 1), (9, .if_icmp .eq 30, 3), (12, .aload_n 0, 1), (13, .getfield 21, 3), (16, .iload_n 2, 1), (17, .aload_n 0, 1), (18, .getfield 21, 3), (21, .aload_n 0, 1), (22, .getfield 21, 3), (25, .iload_n 2, 1), (26, .iaload, 1), (27, .iaload, 1), (28, .iastore, 1), (29, .aload_n 0, 1), (30, .getfield 21, 3), (33, .iload_n 2, 1), (34, .iaload, 1), (35, .istore_n 2, 1), (36, .goto (-34), 3), (39, .iload_n 2, 1), (40, .ireturn, 1)]
set_option maxRecDepth 100000 in
theorem pgDk80_0 : ((pgD80.drop 0).take 60).all (fun q => decide (decode prog_7_method_6_code q.1 = .ok q.2)) = true := by decide +kernel
def pgD81 : List (Nat × Instr × Nat) := [(0, .iload_n 3, 1), (1, .istore 4, 2), (3, .aload_n 0, 1), (4, .getfield 15, 3), (7, .iload_n 1, 1), (8, .iaload, 1), (9, .iconst (-1), 1), (10, .if_icmp .eq 45, 3), (13, .aload_n 0, 1), (14, .getfield 15, 3), (17, .iload_n 2, 1), (18, .iaload, 1), (19, .iconst (-1), 1), (20, .if_icmp .eq 35, 3), (23, .aload_n 0, 1), (24, .getfield 33, 3), (27, .iload 4, 2), (29, .iinc 4 1, 3), (32, .aload_n 0, 1), (33, .getfield 15, 3), (36, .iload_n 1, 1), (37, .iaload, 1), (38, .iastore, 1), (39, .aload_n 0, 1), (40, .getfield 33, 3), (43, .iload 4, 2), (45, .iinc 4 1, 3), (48, .aload_n 0, 1), (49, .getfield 15, 3), (52, .iload_n 2, 1), (53, .iaload, 1), (54, .iastore, 1), (55, .aload_n 0, 1), (56, .getfield 18, 3), (59, .iload_n 1, 1), (60, .iaload, 1), (61, .iconst (-1), 1), (62, .if_icmp .eq 45, 3), (65, .aload_n 0, 1), (66, .getfield 18, 3), (69, .iload_n 2, 1), (70, .iaload, 1), (71, .iconst (-1), 1), (72, .if_icmp .eq 35, 3), (75, .aload_n 0, 1), (76, .getfield 33, 3), (79, .iload 4, 2), (81, .iinc 4 1, 3), (84, .aload_n 0, 1), (85, .getfield 18, 3), (88, .iload_n 1, 1), (89, .iaload, 1), (90, .iastore, 1), (91, .aload_n 0, 1), (92, .getfield 33, 3), (95, .iload 4, 2), (97, .iinc 4 1, 3), (100, .aload_n 0, 1), (101, .getfield 18, 3), (104, .iload_n 2, 1), (105, .iaload, 1), (106, .iastore, 1), (107, .iload 4, 2), (109, .ireturn, 1)]
set_option maxRecDepth 100000 in
theorem pgDk81_0 : ((pgD81.drop 0).take 60).all (fun q => decide (decode prog_7_method_11_code q.1 = .ok q.2)) = true := by decide +kernel
set_option maxRecDepth 100000 in
theorem pgDk81_60 : ((pgD81.drop 60).take 60).all (fun q => decide (decode prog_7_method_11_code q.1 = .ok q.2)) = true := by decide +kernel
def pgD82 : List (Nat × Instr × Nat) := [(0, .iload_n 1, 1), (1, .ifCond .eq 8, 3), (4, .iload_n 1, 1), (5, .iconst 1, 1), (6, .if_icmp .ne 5, 3), (9, .iconst 1, 1), (10, .ireturn, 1), (11, .iload_n 1, 1), (12, .iconst 2, 1), (13, .if_icmp .eq 8, 3), (16, .iload_n 1, 1), (17, .iconst 3, 1), (18, .if_icmp .ne 24, 3), (21, .aload_n 0, 1), (22, .iconst 0, 1), (23, .aload_n 0, 1), (24, .iconst 0, 1), (25, .iload_n 1, 1), (26, .iconst 2, 1), (27, .if_icmp .ne 7, 3), (30, .iconst 0, 1), (31, .goto 4, 3), (34, .iconst 1, 1), (35, .invokevirtual 124, 3), (38, .invokevirtual 124, 3), (41, .ireturn, 1), (42, .aload_n 0, 1), (43, .getfield 12, 3), (46, .iconst 2, 1), (47, .iconst (-1), 1), (48, .iconst (-1), 1), (49, .invokevirtual 80, 3), (52, .istore_n 2, 1), (53, .iload_n 1, 1), (54, .iconst 4, 1), (55, .if_icmp .ne 20, 3), (58, .aload_n 0, 1), (59, .iconst 1, 1), (60, .aload_n 0, 1), (61, .iload_n 2, 1), (62, .aload_n 0, 1), (63, .iload_n 2, 1), (64, .iload_n 2, 1), (65, .invokevirtual 124, 3), (68, .invokevirtual 124, 3), (71, .invokevirtual 124, 3), (74, .ireturn, 1), (75, .aload_n 0, 1), (76, .getfield 12, 3), (79, .iconst 3, 1), (80, .iload_n 2, 1), (81, .iconst (-1), 1), (82, .invokevirtual 80, 3), (85, .istore_n 3, 1), (86, .iload_n 1, 1), (87, .iconst 5, 1), (88, .if_icmp .ne 5, 3), (91, .iload_n 3, 1), (92, .ireturn, 1), (93, .iload_n 1, 1), (94, .bipush 6, 2), (96, .if_icmp .ne 15, 3), (99, .aload_n 0, 1), (100, .iload_n 2, 1), (101, .aload_n 0, 1), (102, .iload_n 3, 1), (103, .iload_n 3, 1), (104, .invokevirtual 124, 3), (107, .invokevirtual 124, 3), (110, .ireturn, 1), (111, .aload_n 0, 1), (112, .getfield 12, 3), (115, .iconst 2, 1), (116, .iconst (-1), 1), (117, .iconst (-1), 1), (118, .invokevirtual 80, 3), (121, .istore 4, 2), (123, .aload_n 0, 1), (124, .aload_n 0, 1), (125, .iload_n 2, 1), (126, .aload_n 0, 1), (127, .iload 4, 2), (129, .iload 4, 2), (131, .invokevirtual 124, 3), (134, .invokevirtual 124, 3), (137, .aload_n 0, 1), (138, .iload 4, 2), (140, .aload_n 0, 1), (141, .iload_n 3, 1), (142, .iload 4, 2), (144, .invokevirtual 124, 3), (147, .invokevirtual 124, 3), (150, .invokevirtual 124, 3), (153, .ireturn, 1)]
set_option maxRecDepth 100000 in
theorem pgDk82_0 : ((pgD82.drop 0).take 60).all (fun q => decide (decode prog_12_method_19_code q.1 = .ok q.2)) = true := by decide +kernel
set_option maxRecDepth 100000 in
theorem pgDk82_60 : ((pgD82.drop 60).take 60).all (fun q => decide (decode prog_12_method_19_code q.1 = .ok q.2)) = true := by decide +kernel
def pgD83 : List (Nat × Instr × Nat) := [(0, .aload_n 0, 1), (1, .getfield 12, 3), (4, .iconst 4, 1), (5, .iload_n 1, 1), (6, .iload_n 2, 1), (7, .invokevirtual 80, 3), (10, .ireturn, 1)]
set_option maxRecDepth 100000 in
theorem pgDk83_0 : ((pgD83.drop 0).take 60).all (fun q => decide (decode prog_12_method_20_code q.1 = .ok q.2)) = true := by decide +kernel
def pgD84 : List (Nat × Instr × Nat) := [(0, .aload_n 0, 1), (1, .getfield 22, 3), (4, .iload_n 1, 1), (5, .iaload, 1), (6, .istore_n 3, 1), (7, .iconst 0, 1), (8, .istore 4, 2), (10, .iload 4, 2), (12, .iload_n 2, 1), (13, .if_icmp .ge 21, 3), (16, .iload_n 3, 1), (17, .iconst (-1), 1), (18, .if_icmp .eq 16, 3), (21, .aload_n 0, 1), (22, .getfield 22, 3), (25, .iload_n 3, 1), (26, .iaload, 1), (27, .istore_n 3, 1), (28, .iinc 4 1, 3), (31, .goto (-21), 3), (34, .iload_n 3, 1), (35, .iconst (-1), 1), (36, .if_icmp .eq 29, 3), (39, .aload_n 0, 1), (40, .getfield 12, 3), (43, .aload_n 0, 1), (44, .getfield 25, 3), (47, .iload_n 1, 1), (48, .iaload, 1), (49, .aload_n 0, 1), (50, .getfield 28, 3), (53, .iload_n 3, 1), (54, .iaload, 1), (55, .invokevirtual 96, 3), (58, .ifCond .eq 7, 3), (61, .iconst 1, 1), (62, .goto 4, 3), (65, .iconst 0, 1), (66, .ireturn, 1)]
set_option maxRecDepth 100000 in
theorem pgDk84_0 : ((pgD84.drop 0).take 60).all (fun q => decide (decode prog_12_method_15_code q.1 = .ok q.2)) = true := by decide +kernel
def pgD85 : List (Nat × Instr × Nat) := [(0, .aload_n 0, 1), (1, .getfield 18, 3), (4, .iload_n 1, 1), (5, .iconst 3, 1), (6, .imul, 1), (7, .iload_n 2, 1), (8, .iadd, 1), (9, .iaload, 1), (10, .ireturn, 1)]
set_option maxRecDepth 100000 in
theorem pgDk85_0 : ((pgD85.drop 0).take 60).all (fun q => decide (decode prog_3_method_6_code q.1 = .ok q.2)) = true := by decide +kernel
def pgD86 : List (Nat × Instr × Nat) := [(0, .aload_n 0, 1), (1, .getfield 34, 3), (4, .iload_n 1, 1), (5, .aload_n 0, 1), (6, .getfield 44, 3), (9, .iload_n 2, 1), (10, .invokevirtual 140, 3), (13, .iastore, 1), (14, .iconst 0, 1), (15, .istore_n 3, 1), (16, .iload_n 3, 1), (17, .aload_n 0, 1), (18, .getfield 34, 3), (21, .iload_n 1, 1), (22, .iaload, 1), (23, .if_icmp .ge 30, 3), (26, .aload_n 0, 1), (27, .getfield 31, 3), (30, .iload_n 1, 1), (31, .bipush 8, 2), (33, .imul, 1), (34, .iload_n 3, 1), (35, .iadd, 1), (36, .aload_n 0, 1), (37, .getfield 12, 3), (40, .iconst 2, 1), (41, .iconst (-1), 1), (42, .iconst (-1), 1), (43, .invokevirtual 80, 3), (46, .iastore, 1), (47, .iinc 3 1, 3), (50, .goto (-34), 3), (53, .aload_n 0, 1), (54, .getfield 12, 3), (57, .aload_n 0, 1), (58, .getfield 25, 3), (61, .iload_n 1, 1), (62, .iaload, 1), (63, .aload_n 0, 1), (64, .iload_n 2, 1), (65, .iload_n 1, 1), (66, .bipush 8, 2), (68, .imul, 1), (69, .invokevirtual 92, 3), (72, .invokevirtual 96, 3), (75, .ireturn, 1)]
set_option maxRecDepth 100000 in
theorem pgDk86_0 : ((pgD86.drop 0).take 60).all (fun q => decide (decode prog_12_method_16_code q.1 = .ok q.2)) = true := by decide +kernel
def pgD87 : List (Nat × Instr × Nat) := [(0, .aload_n 0, 1), (1, .getfield 18, 3), (4, .iload_n 1, 1), (5, .iaload, 1), (6, .invokestatic 25, 3), (9, .ireturn, 1)]
set_option maxRecDepth 100000 in
theorem pgDk87_0 : ((pgD87.drop 0).take 60).all (fun q => decide (decode prog_11_method_7_code q.1 = .ok q.2)) = true := by decide +kernel
def pgD88 : List (Nat × Instr × Nat) := [(0, .iload_n 0, 1), (1, .iload_n 0, 1), (2, .iconst 1, 1), (3, .iushr, 1), (4, .ldc_w 265, 3), (7, .iand, 1), (8, .isub, 1), (9, .istore_n 0, 1), (10, .iload_n 0, 1), (11, .ldc_w 266, 3), (14, .iand, 1), (15, .iload_n 0, 1), (16, .iconst 2, 1), (17, .iushr, 1), (18, .ldc_w 266, 3), (21, .iand, 1), (22, .iadd, 1), (23, .istore_n 0, 1), (24, .iload_n 0, 1), (25, .iload_n 0, 1), (26, .iconst 4, 1), (27, .iushr, 1), (28, .iadd, 1), (29, .ldc_w 267, 3), (32, .iand, 1), (33, .istore_n 0, 1), (34, .iload_n 0, 1), (35, .iload_n 0, 1), (36, .bipush 8, 2), (38, .iushr, 1), (39, .iadd, 1), (40, .istore_n 0, 1), (41, .iload_n 0, 1), (42, .iload_n 0, 1), (43, .bipush 16, 2), (45, .iushr, 1), (46, .iadd, 1), (47, .istore_n 0, 1), (48, .iload_n 0, 1), (49, .bipush 63, 2), (51, .iand, 1), (52, .ireturn, 1)]
set_option maxRecDepth 100000 in
theorem pgDk88_0 : ((pgD88.drop 0).take 60).all (fun q => decide (decode prog_20_method_49_code q.1 = .ok q.2)) = true := by decide +kernel
def pgD89 : List (Nat × Instr × Nat) := [(0, .aload_n 0, 1), (1, .iload_n 1, 1), (2, .invokevirtual 145, 3), (5, .iconst 0, 1), (6, .istore_n 3, 1), (7, .iload_n 3, 1), (8, .iload_n 1, 1), (9, .if_icmp .gt 139, 3), (12, .aload_n 0, 1), (13, .getfield 40, 3), (16, .iload_n 3, 1), (17, .baload, 1), (18, .ifCond .ne 6, 3), (21, .goto 121, 3), (24, .iload_n 3, 1), (25, .iconst 2, 1), (26, .if_icmp .ge 13, 3), (29, .aload_n 0, 1), (30, .getfield 37, 3), (33, .iload_n 3, 1), (34, .iload_n 3, 1), (35, .iastore, 1), (36, .goto 106, 3), (39, .iload_n 3, 1), (40, .bipush 10, 2), (42, .if_icmp .ge 22, 3), (45, .aload_n 0, 1), (46, .getfield 37, 3), (49, .iload_n 3, 1), (50, .aload_n 0, 1), (51, .getfield 31, 3), (54, .iload_n 2, 1), (55, .iload_n 3, 1), (56, .iadd, 1), (57, .iconst 2, 1), (58, .isub, 1), (59, .iaload, 1), (60, .iastore, 1), (61, .goto 81, 3), (64, .aload_n 0, 1), (65, .getfield 44, 3), (68, .iload_n 3, 1), (69, .invokevirtual 148, 3), (72, .ifCond .eq 34, 3), (75, .aload_n 0, 1), (76, .getfield 37, 3), (79, .iload_n 3, 1), (80, .aload_n 0, 1), (81, .getfield 12, 3), (84, .iconst 3, 1), (85, .aload_n 0, 1), (86, .getfield 37, 3), (89, .aload_n 0, 1), (90, .getfield 44, 3), (93, .iload_n 3, 1), (94, .invokevirtual 151, 3), (97, .iaload, 1), (98, .iconst (-1), 1), (99, .invokevirtual 80, 3), (102, .iastore, 1), (103, .goto 39, 3), (106, .aload_n 0, 1), (107, .getfield 37, 3), (110, .iload_n 3, 1), (111, .aload_n 0, 1), (112, .aload_n 0, 1), (113, .getfield 37, 3), (116, .aload_n 0, 1), (117, .getfield 44, 3), (120, .iload_n 3, 1), (121, .invokevirtual 151, 3), (124, .iaload, 1), (125, .aload_n 0, 1), (126, .getfield 37, 3), (129, .aload_n 0, 1), (130, .getfield 44, 3), (133, .iload_n 3, 1), (134, .invokevirtual 154, 3), (137, .iaload, 1), (138, .invokevirtual 124, 3), (141, .iastore, 1), (142, .iinc 3 1, 3), (145, .goto (-138), 3), (148, .aload_n 0, 1), (149, .getfield 37, 3), (152, .iload_n 1, 1), (153, .iaload, 1), (154, .ireturn, 1)]
set_option maxRecDepth 100000 in
theorem pgDk89_0 : ((pgD89.drop 0).take 60).all (fun q => decide (decode prog_12_method_17_code q.1 = .ok q.2)) = true := by decide +kernel
set_option maxRecDepth 100000 in
theorem pgDk89_60 : ((pgD89.drop 60).take 60).all (fun q => decide (decode prog_12_method_17_code q.1 = .ok q.2)) = true := by decide +kernel
def pgD90 : List (Nat × Instr × Nat) := [(0, .iconst 0, 1), (1, .istore_n 2, 1), (2, .iload_n 2, 1), (3, .iload_n 1, 1), (4, .if_icmp .ge 16, 3), (7, .aload_n 0, 1), (8, .getfield 40, 3), (11, .iload_n 2, 1), (12, .iconst 0, 1), (13, .bastore, 1), (14, .iinc 2 1, 3), (17, .goto (-15), 3), (20, .aload_n 0, 1), (21, .getfield 40, 3), (24, .iload_n 1, 1), (25, .iconst 1, 1), (26, .bastore, 1), (27, .iload_n 1, 1), (28, .istore_n 2, 1), (29, .iload_n 2, 1), (30, .bipush 10, 2), (32, .if_icmp .lt 57, 3), (35, .aload_n 0, 1), (36, .getfield 40, 3), (39, .iload_n 2, 1), (40, .baload, 1), (41, .ifCond .eq 42, 3), (44, .aload_n 0, 1), (45, .getfield 40, 3), (48, .aload_n 0, 1), (49, .getfield 44, 3), (52, .iload_n 2, 1), (53, .invokevirtual 151, 3), (56, .iconst 1, 1), (57, .bastore, 1), (58, .aload_n 0, 1), (59, .getfield 44, 3), (62, .iload_n 2, 1), (63, .invokevirtual 148, 3), (66, .ifCond .ne 17, 3), (69, .aload_n 0, 1), (70, .getfield 40, 3), (73, .aload_n 0, 1), (74, .getfield 44, 3), (77, .iload_n 2, 1), (78, .invokevirtual 154, 3), (81, .iconst 1, 1), (82, .bastore, 1), (83, .iinc 2 (-1), 3), (86, .goto (-57), 3), (89, .return_, 1)]
set_option maxRecDepth 100000 in
theorem pgDk90_0 : ((pgD90.drop 0).take 60).all (fun q => decide (decode prog_12_method_18_code q.1 = .ok q.2)) = true := by decide +kernel
def pgD91 : List (Nat × Instr × Nat) := [(0, .aload_n 0, 1), (1, .getfield 9, 3), (4, .iload_n 1, 1), (5, .iaload, 1), (6, .ireturn, 1)]
set_option maxRecDepth 100000 in
theorem pgDk91_0 : ((pgD91.drop 0).take 60).all (fun q => decide (decode prog_11_method_4_code q.1 = .ok q.2)) = true := by decide +kernel
def pgD92 : List (Nat × Instr × Nat) := [(0, .iload_n 1, 1), (1, .bipush 10, 2), (3, .if_icmp .lt 17, 3), (6, .aload_n 0, 1), (7, .getfield 15, 3), (10, .iload_n 1, 1), (11, .iaload, 1), (12, .iconst (-1), 1), (13, .if_icmp .ne 7, 3), (16, .iconst 1, 1), (17, .goto 4, 3), (20, .iconst 0, 1), (21, .ireturn, 1)]
set_option maxRecDepth 100000 in
theorem pgDk92_0 : ((pgD92.drop 0).take 60).all (fun q => decide (decode prog_11_method_3_code q.1 = .ok q.2)) = true := by decide +kernel
def pgD93 : List (Nat × Instr × Nat) := [(0, .aload_n 0, 1), (1, .getfield 15, 3), (4, .iload_n 1, 1), (5, .iaload, 1), (6, .ireturn, 1)]
set_option maxRecDepth 100000 in
theorem pgDk93_0 : ((pgD93.drop 0).take 60).all (fun q => decide (decode prog_11_method_5_code q.1 = .ok q.2)) = true := by decide +kernel
def pgD94 : List (Nat × Instr × Nat) := [(0, .aload_n 0, 1), (1, .getfield 15, 3), (4, .iload_n 1, 1), (5, .iaload, 1), (6, .ireturn, 1)]
set_option maxRecDepth 100000 in
theorem pgDk94_0 : ((pgD94.drop 0).take 60).all (fun q => decide (decode prog_5_method_5_code q.1 = .ok q.2)) = true := by decide +kernel
def pgD95 : List (Nat × Instr × Nat) := [(0, .iload_n 1, 1), (1, .iconst 2, 1), (2, .if_icmp .eq 5, 3), (5, .iload_n 1, 1), (6, .ireturn, 1), (7, .aload_n 0, 1), (8, .getfield 46, 3), (11, .iconst 3, 1), (12, .aload_n 0, 1), (13, .getfield 46, 3), (16, .iconst 5, 1), (17, .iconst (-1), 1), (18, .iconst (-1), 1), (19, .invokevirtual 128, 3), (22, .iconst (-1), 1), (23, .invokevirtual 128, 3), (26, .ireturn, 1)]
set_option maxRecDepth 100000 in
theorem pgDk95_0 : ((pgD95.drop 0).take 60).all (fun q => decide (decode prog_2_method_4_code q.1 = .ok q.2)) = true := by decide +kernel
def pgD96 : List (Nat × Instr × Nat) := [(0, .aload_n 0, 1), (1, .getfield 31, 3), (4, .sipush 480, 3), (7, .iload_n 2, 1), (8, .iastore, 1), (9, .aload_n 0, 1), (10, .getfield 12, 3), (13, .aload_n 0, 1), (14, .getfield 25, 3), (17, .iconst 0, 1), (18, .iaload, 1), (19, .aload_n 0, 1), (20, .iload_n 1, 1), (21, .sipush 480, 3), (24, .invokevirtual 92, 3), (27, .invokevirtual 96, 3), (30, .ireturn, 1)]
set_option maxRecDepth 100000 in
theorem pgDk96_0 : ((pgD96.drop 0).take 60).all (fun q => decide (decode prog_12_method_10_code q.1 = .ok q.2)) = true := by decide +kernel
def pgD97 : List (Nat × Instr × Nat) := [(0, .aload_n 0, 1), (1, .invokevirtual 51, 3), (4, .istore_n 1, 1), (5, .iconst 0, 1), (6, .istore_n 2, 1), (7, .iconst 0, 1), (8, .istore_n 3, 1), (9, .iload_n 3, 1), (10, .aload_n 0, 1), (11, .getfield 36, 3), (14, .if_icmp .ge 38, 3), (17, .aload_n 0, 1), (18, .getfield 21, 3), (21, .iload_n 3, 1), (22, .iaload, 1), (23, .iload_n 3, 1), (24, .if_icmp .ne 22, 3), (27, .aload_n 0, 1), (28, .getfield 24, 3), (31, .iload_n 3, 1), (32, .iaload, 1), (33, .ifCond .ne 13, 3), (36, .aload_n 0, 1), (37, .getfield 33, 3), (40, .iload_n 2, 1), (41, .iinc 2 1, 3), (44, .iload_n 3, 1), (45, .iastore, 1), (46, .iinc 3 1, 3), (49, .goto (-40), 3), (52, .iconst 0, 1), (53, .istore_n 3, 1), (54, .iload_n 3, 1), (55, .iload_n 2, 1), (56, .if_icmp .ge 43, 3), (59, .aload_n 0, 1), (60, .getfield 33, 3), (63, .iload_n 3, 1), (64, .iaload, 1), (65, .istore 4, 2), (67, .aload_n 0, 1), (68, .aload_n 0, 1), (69, .getfield 15, 3), (72, .iload 4, 2), (74, .iaload, 1), (75, .iload_n 2, 1), (76, .invokevirtual 55, 3), (79, .istore_n 2, 1), (80, .aload_n 0, 1), (81, .aload_n 0, 1), (82, .getfield 18, 3), (85, .iload 4, 2), (87, .iaload, 1), (88, .iload_n 2, 1), (89, .invokevirtual 55, 3), (92, .istore_n 2, 1), (93, .iinc 3 1, 3), (96, .goto (-42), 3), (99, .iload_n 2, 1), (100, .iload_n 1, 1), (101, .if_icmp .ge 7, 3), (104, .iconst 1, 1), (105, .goto 4, 3), (108, .iconst 0, 1), (109, .ireturn, 1)]
set_option maxRecDepth 100000 in
theorem pgDk97_0 : ((pgD97.drop 0).take 60).all (fun q => decide (decode prog_7_method_12_code q.1 = .ok q.2)) = true := by decide +kernel
set_option maxRecDepth 100000 in
theorem pgDk97_60 : ((pgD97.drop 60).take 60).all (fun q => decide (decode prog_7_method_12_code q.1 = .ok q.2)) = true := by decide +kernel
def pgD98 : List (Nat × Instr × Nat) := [(0, .aload_n 0, 1), (1, .getfield 24, 3), (4, .iconst 0, 1), (5, .aload_n 0, 1), (6, .getfield 36, 3), (9, .iconst 0, 1), (10, .invokestatic 59, 3), (13, .iconst 0, 1), (14, .istore_n 1, 1), (15, .iconst 0, 1), (16, .istore_n 2, 1), (17, .iload_n 2, 1), (18, .aload_n 0, 1), (19, .getfield 36, 3), (22, .if_icmp .ge 42, 3), (25, .aload_n 0, 1), (26, .getfield 21, 3), (29, .iload_n 2, 1), (30, .iaload, 1), (31, .iload_n 2, 1), (32, .if_icmp .ne 26, 3), (35, .iinc 1 1, 3), (38, .aload_n 0, 1), (39, .aload_n 0, 1), (40, .getfield 15, 3), (43, .iload_n 2, 1), (44, .iaload, 1), (45, .invokevirtual 65, 3), (48, .aload_n 0, 1), (49, .aload_n 0, 1), (50, .getfield 18, 3), (53, .iload_n 2, 1), (54, .iaload, 1), (55, .invokevirtual 65, 3), (58, .iinc 2 1, 3), (61, .goto (-44), 3), (64, .iload_n 1, 1), (65, .ireturn, 1)]
set_option maxRecDepth 100000 in
theorem pgDk98_0 : ((pgD98.drop 0).take 60).all (fun q => decide (decode prog_7_method_13_code q.1 = .ok q.2)) = true := by decide +kernel
def pgD99 : List (Nat × Instr × Nat) := [(0, .aload_n 0, 1), (1, .arraylength, 1), (2, .iload_n 1, 1), (3, .iload_n 2, 1), (4, .invokestatic 13, 3), (7, .iload_n 1, 1), (8, .istore 4, 2), (10, .iload 4, 2), (12, .iload_n 2, 1), (13, .if_icmp .ge 14, 3), (16, .aload_n 0, 1), (17, .iload 4, 2), (19, .iload_n 3, 1), (20, .iastore, 1), (21, .iinc 4 1, 3), (24, .goto (-14), 3), (27, .return_, 1)]
set_option maxRecDepth 100000 in
theorem pgDk99_0 : ((pgD99.drop 0).take 60).all (fun q => decide (decode prog_29_method_104_code q.1 = .ok q.2)) = true := by decide +kernel
def pgD100 : List (Nat × Instr × Nat) := [(0, .iload_n 1, 1), (1, .iload_n 2, 1), (2, .if_icmp .le 44, 3), (5, .new 43, 3), (8, .dup, 1), (9, .new 45, 3), (12, .dup, 1), (13, .invokespecial 47, 3), (16, .ldc 48, 2), (18, .invokevirtual 50, 3), (21, .iload_n 1, 1), (22, .invokevirtual 54, 3), (25, .ldc 57, 2), (27, .invokevirtual 50, 3), (30, .iload_n 2, 1), (31, .invokevirtual 54, 3), (34, .ldc 59, 2), (36, .invokevirtual 50, 3), (39, .invokevirtual 61, 3), (42, .invokespecial 65, 3), (45, .athrow, 1), (46, .iload_n 1, 1), (47, .ifCond .ge 12, 3), (50, .new 68, 3), (53, .dup, 1), (54, .iload_n 1, 1), (55, .invokespecial 70, 3), (58, .athrow, 1), (59, .iload_n 2, 1), (60, .iload_n 0, 1), (61, .if_icmp .le 12, 3), (64, .new 68, 3), (67, .dup, 1), (68, .iload_n 2, 1), (69, .invokespecial 70, 3), (72, .athrow, 1), (73, .return_, 1)]
set_option maxRecDepth 100000 in
theorem pgDk100_0 : ((pgD100.drop 0).take 60).all (fun q => decide (decode prog_29_method_30_code q.1 = .ok q.2)) = true := by decide +kernel
def pgD101 : List (Nat × Instr × Nat) := [(0, .iload_n 1, 1), (1, .iconst (-1), 1), (2, .if_icmp .eq 17, 3), (5, .aload_n 0, 1), (6, .getfield 24, 3), (9, .aload_n 0, 1), (10, .iload_n 1, 1), (11, .invokevirtual 44, 3), (14, .dup2, 1), (15, .iaload, 1), (16, .iconst 1, 1), (17, .iadd, 1), (18, .iastore, 1), (19, .return_, 1)]
set_option maxRecDepth 100000 in
theorem pgDk101_0 : ((pgD101.drop 0).take 60).all (fun q => decide (decode prog_7_method_14_code q.1 = .ok q.2)) = true := by decide +kernel
def pgD102 : List (Nat × Instr × Nat) := [(0, .iload_n 1, 1), (1, .iconst (-1), 1), (2, .if_icmp .ne 5, 3), (5, .iload_n 2, 1), (6, .ireturn, 1), (7, .aload_n 0, 1), (8, .iload_n 1, 1), (9, .invokevirtual 44, 3), (12, .istore_n 3, 1), (13, .aload_n 0, 1), (14, .getfield 24, 3), (17, .iload_n 3, 1), (18, .dup2, 1), (19, .iaload, 1), (20, .iconst 1, 1), (21, .isub, 1), (22, .iastore, 1), (23, .aload_n 0, 1), (24, .getfield 24, 3), (27, .iload_n 3, 1), (28, .iaload, 1), (29, .ifCond .le 5, 3), (32, .iload_n 2, 1), (33, .ireturn, 1), (34, .aload_n 0, 1), (35, .getfield 33, 3), (38, .iload_n 2, 1), (39, .iload_n 3, 1), (40, .iastore, 1), (41, .iload_n 2, 1), (42, .iconst 1, 1), (43, .iadd, 1), (44, .ireturn, 1)]
set_option maxRecDepth 100000 in
theorem pgDk102_0 : ((pgD102.drop 0).take 60).all (fun q => decide (decode prog_7_method_15_code q.1 = .ok q.2)) = true := by decide +kernel
def pgD103 : List (Nat × Instr × Nat) := [(0, .aload_n 0, 1), (1, .iconst 0, 1), (2, .putfield 69, 3), (5, .aload_n 0, 1), (6, .getfield 27, 3), (9, .iconst 0, 1), (10, .aload_n 0, 1), (11, .getfield 36, 3), (14, .bipush (-2), 2), (16, .invokestatic 59, 3), (19, .return_, 1)]
set_option maxRecDepth 100000 in
theorem pgDk103_0 : ((pgD103.drop 0).take 60).all (fun q => decide (decode prog_7_method_19_code q.1 = .ok q.2)) = true := by decide +kernel
def pgD104 : List (Nat × Instr × Nat) := [(0, .aload_n 0, 1), (1, .getfield 25, 3), (4, .iload_n 1, 1), (5, .iconst 3, 1), (6, .imul, 1), (7, .iconst 2, 1), (8, .iadd, 1), (9, .iaload, 1), (10, .ireturn, 1)]
set_option maxRecDepth 100000 in
theorem pgDk104_0 : ((pgD104.drop 0).take 60).all (fun q => decide (decode prog_3_method_11_code q.1 = .ok q.2)) = true := by decide +kernel
def pgD105 : List (Nat × Instr × Nat) := [(0, .aload_n 0, 1), (1, .getfield 11, 3), (4, .iconst 0, 1), (5, .aload_n 0, 1), (6, .getfield 35, 3), (9, .invokevirtual 38, 3), (12, .iconst 0, 1), (13, .invokestatic 42, 3), (16, .aload_n 0, 1), (17, .iload_n 1, 1), (18, .putfield 48, 3), (21, .aload_n 0, 1), (22, .iconst 0, 1), (23, .putfield 52, 3), (26, .aload_n 0, 1), (27, .iconst 0, 1), (28, .putfield 56, 3), (31, .aload_n 0, 1), (32, .iconst 0, 1), (33, .putfield 59, 3), (36, .iconst 0, 1), (37, .istore_n 2, 1), (38, .iload_n 2, 1), (39, .aload_n 0, 1), (40, .getfield 25, 3), (43, .invokevirtual 62, 3), (46, .if_icmp .ge 14, 3), (49, .aload_n 0, 1), (50, .iload_n 2, 1), (51, .invokevirtual 65, 3), (54, .iinc 2 1, 3), (57, .goto (-19), 3), (60, .aload_n 0, 1), (61, .getfield 52, 3), (64, .ifCond .eq 6, 3), (67, .bipush (-2), 2), (69, .ireturn, 1), (70, .aload_n 0, 1), (71, .getfield 56, 3), (74, .ifCond .eq 6, 3), (77, .bipush (-3), 2), (79, .ireturn, 1), (80, .aload_n 0, 1), (81, .getfield 59, 3), (84, .ifCond .eq 8, 3), (87, .bipush (-4), 2), (89, .goto 4, 3), (92, .iconst 0, 1), (93, .ireturn, 1)]
set_option maxRecDepth 100000 in
theorem pgDk105_0 : ((pgD105.drop 0).take 60).all (fun q => decide (decode prog_4_method_2_code q.1 = .ok q.2)) = true := by decide +kernel
def pgD106 : List (Nat × Instr × Nat) := [(0, .aload_n 0, 1), (1, .getfield 36, 3), (4, .ireturn, 1)]
set_option maxRecDepth 100000 in
theorem pgDk106_0 : ((pgD106.drop 0).take 60).all (fun q => decide (decode prog_7_method_5_code q.1 = .ok q.2)) = true := by decide +kernel
def pgD107 : List (Nat × Instr × Nat) := [(0, .aload_n 0, 1), (1, .getfield 60, 3), (4, .ireturn, 1)]
set_option maxRecDepth 100000 in
theorem pgDk107_0 : ((pgD107.drop 0).take 60).all (fun q => decide (decode prog_12_method_3_code q.1 = .ok q.2)) = true := by decide +kernel
def pgD108 : List (Nat × Instr × Nat) := [(0, .aload_n 0, 1), (1, .getfield 25, 3), (4, .iload_n 1, 1), (5, .invokevirtual 75, 3), (8, .istore_n 2, 1), (9, .aload_n 0, 1), (10, .getfield 25, 3), (13, .iload_n 1, 1), (14, .invokevirtual 79, 3), (17, .iconst 5, 1), (18, .if_icmp .ne 20, 3), (21, .aload_n 0, 1), (22, .iload_n 2, 1), (23, .aload_n 0, 1), (24, .getfield 25, 3), (27, .iload_n 1, 1), (28, .iconst 0, 1), (29, .invokevirtual 82, 3), (32, .invokevirtual 86, 3), (35, .goto 70, 3), (38, .aload_n 0, 1), (39, .getfield 25, 3), (42, .iload_n 1, 1), (43, .invokevirtual 79, 3), (46, .bipush 6, 2), (48, .if_icmp .ne 57, 3), (51, .iconst 0, 1), (52, .istore_n 3, 1), (53, .iload_n 3, 1), (54, .aload_n 0, 1), (55, .getfield 21, 3), (58, .iload_n 2, 1), (59, .invokevirtual 90, 3), (62, .if_icmp .ge 43, 3), (65, .aload_n 0, 1), (66, .getfield 25, 3), (69, .iload_n 1, 1), (70, .aload_n 0, 1), (71, .getfield 21, 3), (74, .iload_n 2, 1), (75, .iload_n 3, 1), (76, .invokevirtual 95, 3), (79, .invokevirtual 82, 3), (82, .istore 4, 2), (84, .aload_n 0, 1), (85, .aload_n 0, 1), (86, .getfield 21, 3), (89, .iload_n 2, 1), (90, .iload_n 3, 1), (91, .invokevirtual 98, 3), (94, .iload 4, 2), (96, .invokevirtual 86, 3), (99, .iinc 3 1, 3), (102, .goto (-49), 3), (105, .return_, 1)]
set_option maxRecDepth 100000 in
theorem pgDk108_0 : ((pgD108.drop 0).take 60).all (fun q => decide (decode prog_4_method_4_code q.1 = .ok q.2)) = true := by decide +kernel
def pgD109 : List (Nat × Instr × Nat) := [(0, .aload_n 0, 1), (1, .getfield 31, 3), (4, .iload_n 1, 1), (5, .bipush 8, 2), (7, .imul, 1), (8, .iload_n 2, 1), (9, .iadd, 1), (10, .iaload, 1), (11, .ireturn, 1)]
set_option maxRecDepth 100000 in
theorem pgDk109_0 : ((pgD109.drop 0).take 60).all (fun q => decide (decode prog_12_method_6_code q.1 = .ok q.2)) = true := by decide +kernel
def pgD110 : List (Nat × Instr × Nat) := [(0, .iload_n 1, 1), (1, .istore_n 3, 1), (2, .aload_n 0, 1), (3, .getfield 35, 3), (6, .iload_n 2, 1), (7, .invokevirtual 101, 3), (10, .istore 4, 2), (12, .iconst 0, 1), (13, .istore 5, 2), (15, .iload 5, 2), (17, .sipush 2504, 3), (20, .if_icmp .ge 54, 3), (23, .aload_n 0, 1), (24, .getfield 35, 3), (27, .iload 4, 2), (29, .invokevirtual 104, 3), (32, .iconst 3, 1), (33, .if_icmp .ne 41, 3), (36, .aload_n 0, 1), (37, .getfield 17, 3), (40, .iload_n 3, 1), (41, .invokevirtual 107, 3), (44, .iconst (-1), 1), (45, .if_icmp .eq 29, 3), (48, .aload_n 0, 1), (49, .getfield 17, 3), (52, .iload_n 3, 1), (53, .invokevirtual 107, 3), (56, .istore_n 3, 1), (57, .aload_n 0, 1), (58, .getfield 35, 3), (61, .iload 4, 2), (63, .invokevirtual 110, 3), (66, .istore 4, 2), (68, .iinc 5 1, 3), (71, .goto (-56), 3), (74, .aload_n 0, 1), (75, .dup, 1), (76, .getfield 59, 3), (79, .iload 5, 2), (81, .iconst 3, 1), (82, .if_icmp .le 7, 3), (85, .iconst 1, 1), (86, .goto 4, 3), (89, .iconst 0, 1), (90, .ior, 1), (91, .putfield 59, 3), (94, .aload_n 0, 1), (95, .iload_n 3, 1), (96, .iload 4, 2), (98, .invokevirtual 113, 3), (101, .return_, 1)]
set_option maxRecDepth 100000 in
theorem pgDk110_0 : ((pgD110.drop 0).take 60).all (fun q => decide (decode prog_4_method_5_code q.1 = .ok q.2)) = true := by decide +kernel
def pgD111 : List (Nat × Instr × Nat) := [(0, .aload_n 0, 1), (1, .getfield 11, 3), (4, .iload_n 1, 1), (5, .iaload, 1), (6, .ireturn, 1)]
set_option maxRecDepth 100000 in
theorem pgDk111_0 : ((pgD111.drop 0).take 60).all (fun q => decide (decode prog_7_method_7_code q.1 = .ok q.2)) = true := by decide +kernel
def pgD112 : List (Nat × Instr × Nat) := [(0, .aload_n 0, 1), (1, .aload_n 0, 1), (2, .getfield 15, 3), (5, .iload_n 1, 1), (6, .iaload, 1), (7, .invokevirtual 44, 3), (10, .ireturn, 1)]
set_option maxRecDepth 100000 in
theorem pgDk112_0 : ((pgD112.drop 0).take 60).all (fun q => decide (decode prog_7_method_8_code q.1 = .ok q.2)) = true := by decide +kernel
def pgD113 : List (Nat × Instr × Nat) := [(0, .aload_n 0, 1), (1, .getfield 35, 3), (4, .iload_n 2, 1), (5, .invokevirtual 104, 3), (8, .tableswitch 145 0 5 #[40, 40, 145, 76, 105, 113], 40), (48, .aload_n 0, 1), (49, .dup, 1), (50, .getfield 52, 3), (53, .aload_n 0, 1), (54, .getfield 17, 3), (57, .iload_n 1, 1), (58, .aload_n 0, 1), (59, .getfield 35, 3), (62, .iload_n 2, 1), (63, .invokevirtual 104, 3), (66, .invokevirtual 116, 3), (69, .ifCond .ne 7, 3), (72, .iconst 1, 1), (73, .goto 4, 3), (76, .iconst 0, 1), (77, .ior, 1), (78, .putfield 52, 3), (81, .goto 110, 3), (84, .aload_n 0, 1), (85, .dup, 1), (86, .getfield 52, 3), (89, .aload_n 0, 1), (90, .getfield 17, 3), (93, .iload_n 1, 1), (94, .iconst 2, 1), (95, .invokevirtual 116, 3), (98, .ifCond .ne 7, 3), (101, .iconst 1, 1), (102, .goto 4, 3), (105, .iconst 0, 1), (106, .ior, 1), (107, .putfield 52, 3), (110, .goto 81, 3), (113, .aload_n 0, 1), (114, .iconst 1, 1), (115, .putfield 52, 3), (118, .goto 73, 3), (121, .aload_n 0, 1), (122, .dup, 1), (123, .getfield 56, 3), (126, .aload_n 0, 1), (127, .getfield 17, 3), (130, .aload_n 0, 1), (131, .getfield 48, 3), (134, .iload_n 1, 1), (135, .invokevirtual 69, 3), (138, .ifCond .ne 7, 3), (141, .iconst 1, 1), (142, .goto 4, 3), (145, .iconst 0, 1), (146, .ior, 1), (147, .putfield 56, 3), (150, .goto 41, 3), (153, .aload_n 0, 1), (154, .dup, 1), (155, .getfield 56, 3), (158, .aload_n 0, 1), (159, .getfield 35, 3), (162, .iload_n 2, 1), (163, .invokevirtual 119, 3), (166, .iconst (-1), 1), (167, .if_icmp .ne 7, 3), (170, .iconst 1, 1), (171, .goto 4, 3), (174, .iconst 0, 1), (175, .ior, 1), (176, .putfield 56, 3), (179, .aload_n 0, 1), (180, .getfield 11, 3), (183, .iload_n 2, 1), (184, .dup2, 1), (185, .iaload, 1), (186, .iconst 1, 1), (187, .iload_n 1, 1), (188, .ishl, 1), (189, .ior, 1), (190, .iastore, 1), (191, .return_, 1)]
set_option maxRecDepth 100000 in
theorem pgDk113_0 : ((pgD113.drop 0).take 60).all (fun q => decide (decode prog_4_method_6_code q.1 = .ok q.2)) = true := by decide +kernel
set_option maxRecDepth 100000 in
theorem pgDk113_60 : ((pgD113.drop 60).take 60).all (fun q => decide (decode prog_4_method_6_code q.1 = .ok q.2)) = true := by decide +kernel
def pgD114 : List (Nat × Instr × Nat) := [(0, .aload_n 0, 1), (1, .getfield 27, 3), (4, .iload_n 1, 1), (5, .iaload, 1), (6, .iconst (-1), 1), (7, .invokestatic 72, 3), (10, .ireturn, 1)]
set_option maxRecDepth 100000 in
theorem pgDk114_0 : ((pgD114.drop 0).take 60).all (fun q => decide (decode prog_7_method_18_code q.1 = .ok q.2)) = true := by decide +kernel
def pgD115 : List (Nat × Instr × Nat) := [(0, .aload_n 0, 1), (1, .getfield 18, 3), (4, .iload_n 1, 1), (5, .iaload, 1), (6, .ireturn, 1)]
set_option maxRecDepth 100000 in
theorem pgDk115_0 : ((pgD115.drop 0).take 60).all (fun q => decide (decode prog_5_method_6_code q.1 = .ok q.2)) = true := by decide +kernel
def pgD116 : List (Nat × Instr × Nat) := [(0, .aload_n 0, 1), (1, .iload_n 1, 1), (2, .iload_n 2, 1), (3, .invokevirtual 28, 3), (6, .bipush 8, 2), (8, .irem, 1), (9, .ireturn, 1)]
set_option maxRecDepth 100000 in
theorem pgDk116_0 : ((pgD116.drop 0).take 60).all (fun q => decide (decode prog_5_method_9_code q.1 = .ok q.2)) = true := by decide +kernel
def pgD117 : List (Nat × Instr × Nat) := [(0, .aload_n 0, 1), (1, .getfield 21, 3), (4, .iload_n 1, 1), (5, .bipush 8, 2), (7, .imul, 1), (8, .iload_n 2, 1), (9, .iadd, 1), (10, .iaload, 1), (11, .ireturn, 1)]
set_option maxRecDepth 100000 in
theorem pgDk117_0 : ((pgD117.drop 0).take 60).all (fun q => decide (decode prog_5_method_7_code q.1 = .ok q.2)) = true := by decide +kernel
def pgD118 : List (Nat × Instr × Nat) := [(0, .aload_n 0, 1), (1, .iload_n 1, 1), (2, .iload_n 2, 1), (3, .invokevirtual 28, 3), (6, .bipush 8, 2), (8, .idiv, 1), (9, .ireturn, 1)]
set_option maxRecDepth 100000 in
theorem pgDk118_0 : ((pgD118.drop 0).take 60).all (fun q => decide (decode prog_5_method_8_code q.1 = .ok q.2)) = true := by decide +kernel
def pgD119 : List (Nat × Instr × Nat) := [(0, .bipush 20, 2), (2, .iload_n 0, 1), (3, .iconst 3, 1), (4, .imul, 1), (5, .iload_n 1, 1), (6, .iadd, 1), (7, .iconst 3, 1), (8, .imul, 1), (9, .iadd, 1), (10, .iload_n 2, 1), (11, .iadd, 1), (12, .bipush 60, 2), (14, .imul, 1), (15, .ireturn, 1)]
set_option maxRecDepth 100000 in
theorem pgDk119_0 : ((pgD119.drop 0).take 60).all (fun q => decide (decode prog_10_method_3_code q.1 = .ok q.2)) = true := by decide +kernel
def pgD120 : List (Nat × Instr × Nat) := [(0, .iconst 0, 1), (1, .istore_n 3, 1), (2, .iload_n 3, 1), (3, .aload_n 2, 1), (4, .invokevirtual 16, 3), (7, .if_icmp .ge 79, 3), (10, .aload_n 2, 1), (11, .iload_n 3, 1), (12, .invokevirtual 22, 3), (15, .istore 4, 2), (17, .iload_n 1, 1), (18, .iload_n 3, 1), (19, .iadd, 1), (20, .bipush 8, 2), (22, .imul, 1), (23, .istore 5, 2), (25, .aload_n 0, 1), (26, .getfield 12, 3), (29, .iload 5, 2), (31, .iload 5, 2), (33, .bipush 8, 2), (35, .iadd, 1), (36, .iconst 2, 1), (37, .invokestatic 26, 3), (40, .iconst 0, 1), (41, .istore 6, 2), (43, .iload 6, 2), (45, .iload 4, 2), (47, .if_icmp .ge 33, 3), (50, .aload_n 0, 1), (51, .getfield 12, 3), (54, .iload 5, 2), (56, .iload 6, 2), (58, .iadd, 1), (59, .aload_n 2, 1), (60, .invokevirtual 32, 3), (63, .aload_n 2, 1), (64, .iload_n 3, 1), (65, .iload 6, 2), (67, .invokevirtual 36, 3), (70, .invokestatic 40, 3), (73, .iastore, 1), (74, .iinc 6 1, 3), (77, .goto (-34), 3), (80, .iinc 3 1, 3), (83, .goto (-81), 3), (86, .return_, 1)]
set_option maxRecDepth 100000 in
theorem pgDk120_0 : ((pgD120.drop 0).take 60).all (fun q => decide (decode prog_10_method_6_code q.1 = .ok q.2)) = true := by decide +kernel
def pgD121 : List (Nat × Instr × Nat) := [(0, .aload_n 0, 1), (1, .getfield 34, 3), (4, .iload_n 1, 1), (5, .iaload, 1), (6, .ireturn, 1)]
set_option maxRecDepth 100000 in
theorem pgDk121_0 : ((pgD121.drop 0).take 60).all (fun q => decide (decode prog_12_method_7_code q.1 = .ok q.2)) = true := by decide +kernel
def pgD122 : List (Nat × Instr × Nat) := [(0, .aload_n 0, 1), (1, .iload_n 1, 1), (2, .invokevirtual 44, 3), (5, .istore_n 2, 1), (6, .iconst 0, 1), (7, .istore_n 3, 1), (8, .iload_n 3, 1), (9, .sipush 2504, 3), (12, .if_icmp .ge 24, 3), (15, .aload_n 0, 1), (16, .iload_n 2, 1), (17, .invokevirtual 49, 3), (20, .iconst 3, 1), (21, .if_icmp .ne 15, 3), (24, .aload_n 0, 1), (25, .iload_n 2, 1), (26, .invokevirtual 52, 3), (29, .istore_n 2, 1), (30, .iinc 3 1, 3), (33, .goto (-25), 3), (36, .iload_n 3, 1), (37, .bipush 16, 2), (39, .imul, 1), (40, .aload_n 0, 1), (41, .iload_n 2, 1), (42, .invokevirtual 49, 3), (45, .aload_n 0, 1), (46, .iload_n 2, 1), (47, .invokevirtual 55, 3), (50, .invokestatic 58, 3), (53, .iadd, 1), (54, .ireturn, 1)]
set_option maxRecDepth 100000 in
theorem pgDk122_0 : ((pgD122.drop 0).take 60).all (fun q => decide (decode prog_10_method_8_code q.1 = .ok q.2)) = true := by decide +kernel
def pgD123 : List (Nat × Instr × Nat) := [(0, .iload_n 0, 1), (1, .ifCond .eq 8, 3), (4, .iload_n 0, 1), (5, .iconst 1, 1), (6, .if_icmp .ne 5, 3), (9, .iload_n 0, 1), (10, .ireturn, 1), (11, .iload_n 0, 1), (12, .iconst 5, 1), (13, .if_icmp .ne 5, 3), (16, .iconst 4, 1), (17, .ireturn, 1), (18, .iload_n 0, 1), (19, .iconst 2, 1), (20, .if_icmp .ne 14, 3), (23, .iload_n 1, 1), (24, .iconst (-1), 1), (25, .if_icmp .eq 9, 3), (28, .iconst 4, 1), (29, .iload_n 1, 1), (30, .iadd, 1), (31, .goto 4, 3), (34, .iconst 2, 1), (35, .ireturn, 1)]
set_option maxRecDepth 100000 in
theorem pgDk123_0 : ((pgD123.drop 0).take 60).all (fun q => decide (decode prog_10_method_9_code q.1 = .ok q.2)) = true := by decide +kernel
def pgD124 : List (Nat × Instr × Nat) := [(0, .aload_n 0, 1), (1, .getfield 21, 3), (4, .iload_n 1, 1), (5, .iconst 3, 1), (6, .imul, 1), (7, .iload_n 2, 1), (8, .iadd, 1), (9, .iconst 0, 1), (10, .bastore, 1), (11, .aload_n 0, 1), (12, .getfield 25, 3), (15, .iload_n 1, 1), (16, .iconst 3, 1), (17, .imul, 1), (18, .iload_n 2, 1), (19, .iadd, 1), (20, .iconst (-1), 1), (21, .iastore, 1), (22, .return_, 1)]
set_option maxRecDepth 100000 in
theorem pgDk124_0 : ((pgD124.drop 0).take 60).all (fun q => decide (decode prog_3_method_17_code q.1 = .ok q.2)) = true := by decide +kernel
def pgD125 : List (Nat × Instr × Nat) := [(0, .aload_n 2, 1), (1, .iconst 0, 1), (2, .aload_n 0, 1), (3, .iload_n 1, 1), (4, .invokevirtual 52, 3), (7, .i2l, 1), (8, .lastore, 1), (9, .goto 9, 3), (12, .astore_n 3, 1), (13, .iconst 1, 1), (14, .ireturn, 1), (15, .astore_n 3, 1), (16, .iconst 2, 1), (17, .ireturn, 1), (18, .iconst 0, 1), (19, .ireturn, 1)]
set_option maxRecDepth 100000 in
theorem pgDk125_0 : ((pgD125.drop 0).take 60).all (fun q => decide (decode method_15_code q.1 = .ok q.2)) = true := by decide +kernel
def pgD126 : List (Nat × Instr × Nat) := [(0, .aload_n 0, 1), (1, .getfield 26, 3), (4, .iload_n 1, 1), (5, .invokevirtual 110, 3), (8, .invokestatic 67, 3), (11, .aload_n 0, 1), (12, .getfield 33, 3), (15, .invokevirtual 138, 3), (18, .bipush 20, 2), (20, .if_icmp .ge 7, 3), (23, .iconst 1, 1), (24, .goto 4, 3), (27, .iconst 0, 1), (28, .invokestatic 84, 3), (31, .aload_n 0, 1), (32, .getfield 50, 3), (35, .iload_n 1, 1), (36, .invokevirtual 139, 3), (39, .ireturn, 1)]
set_option maxRecDepth 100000 in
theorem pgDk126_0 : ((pgD126.drop 0).take 60).all (fun q => decide (decode prog_1_method_14_code q.1 = .ok q.2)) = true := by decide +kernel
def pgD127 : List (Nat × Instr × Nat) := [(0, .aload_n 0, 1), (1, .getfield 24, 3), (4, .ireturn, 1)]
set_option maxRecDepth 100000 in
theorem pgDk127_0 : ((pgD127.drop 0).take 60).all (fun q => decide (decode prog_5_method_2_code q.1 = .ok q.2)) = true := by decide +kernel
def pgD128 : List (Nat × Instr × Nat) := [(0, .aload_n 0, 1), (1, .getfield 32, 3), (4, .iload_n 1, 1), (5, .invokevirtual 58, 3), (8, .ifCond .eq 13, 3), (11, .aload_n 0, 1), (12, .getfield 46, 3), (15, .invokevirtual 62, 3), (18, .ifCond .eq 5, 3), (21, .iconst (-1), 1), (22, .ireturn, 1), (23, .aload_n 0, 1), (24, .getfield 46, 3), (27, .aload_n 0, 1), (28, .getfield 32, 3), (31, .invokevirtual 66, 3), (34, .invokevirtual 70, 3), (37, .aload_n 0, 1), (38, .getfield 54, 3), (41, .iconst (-1), 1), (42, .invokevirtual 74, 3), (45, .istore_n 2, 1), (46, .iload_n 2, 1), (47, .ifCond .eq 5, 3), (50, .iload_n 2, 1), (51, .ireturn, 1), (52, .aload_n 0, 1), (53, .invokevirtual 78, 3), (56, .istore_n 3, 1), (57, .aload_n 0, 1), (58, .getfield 46, 3), (61, .invokevirtual 81, 3), (64, .bipush 8, 2), (66, .if_icmp .gt 9, 3), (69, .iload_n 3, 1), (70, .bipush 8, 2), (72, .if_icmp .le 6, 3), (75, .bipush (-4), 2), (77, .ireturn, 1), (78, .aload_n 0, 1), (79, .invokevirtual 84, 3), (82, .istore 4, 2), (84, .iload 4, 2), (86, .iconst (-1), 1), (87, .if_icmp .ne 6, 3), (90, .bipush (-4), 2), (92, .ireturn, 1), (93, .aload_n 0, 1), (94, .getfield 28, 3), (97, .iload_n 1, 1), (98, .iload 4, 2), (100, .aload_n 0, 1), (101, .getfield 9, 3), (104, .iload_n 3, 1), (105, .invokevirtual 87, 3), (108, .istore 5, 2), (110, .aload_n 0, 1), (111, .getfield 36, 3), (114, .iload 5, 2), (116, .invokestatic 93, 3), (119, .aload_n 0, 1), (120, .getfield 32, 3), (123, .invokevirtual 98, 3), (126, .iload 5, 2), (128, .ireturn, 1)]
set_option maxRecDepth 100000 in
theorem pgDk128_0 : ((pgD128.drop 0).take 60).all (fun q => decide (decode prog_2_method_2_code q.1 = .ok q.2)) = true := by decide +kernel
set_option maxRecDepth 100000 in
theorem pgDk128_60 : ((pgD128.drop 60).take 60).all (fun q => decide (decode prog_2_method_2_code q.1 = .ok q.2)) = true := by decide +kernel
def pgD129 : List (Nat × Instr × Nat) := [(0, .aload_n 0, 1), (1, .getfield 25, 3), (4, .iconst 0, 1), (5, .iaload, 1), (6, .ireturn, 1)]
set_option maxRecDepth 100000 in
theorem pgDk129_0 : ((pgD129.drop 0).take 60).all (fun q => decide (decode prog_12_method_8_code q.1 = .ok q.2)) = true := by decide +kernel
def pgD130 : List (Nat × Instr × Nat) := [(0, .aload_n 0, 1), (1, .invokevirtual 77, 3), (4, .aload_n 0, 1), (5, .getfield 33, 3), (8, .iconst 0, 1), (9, .aload_n 0, 1), (10, .iload_n 1, 1), (11, .invokevirtual 44, 3), (14, .iastore, 1), (15, .iconst 1, 1), (16, .istore_n 2, 1), (17, .iconst 0, 1), (18, .istore_n 3, 1), (19, .iload_n 2, 1), (20, .ifCond .le 47, 3), (23, .iload_n 3, 1), (24, .sipush 5008, 3), (27, .if_icmp .gt 40, 3), (30, .iinc 2 (-1), 3), (33, .aload_n 0, 1), (34, .getfield 33, 3), (37, .iload_n 2, 1), (38, .iaload, 1), (39, .istore 4, 2), (41, .aload_n 0, 1), (42, .getfield 27, 3), (45, .iload 4, 2), (47, .iaload, 1), (48, .bipush (-2), 2), (50, .if_icmp .ne 11, 3), (53, .aload_n 0, 1), (54, .iload 4, 2), (56, .iload_n 2, 1), (57, .invokevirtual 80, 3), (60, .istore_n 2, 1), (61, .iinc 3 1, 3), (64, .goto (-45), 3), (67, .return_, 1)]
set_option maxRecDepth 100000 in
theorem pgDk130_0 : ((pgD130.drop 0).take 60).all (fun q => decide (decode prog_7_method_20_code q.1 = .ok q.2)) = true := by decide +kernel
def pgD131 : List (Nat × Instr × Nat) := [(0, .iload_n 2, 1), (1, .istore_n 3, 1), (2, .aload_n 0, 1), (3, .getfield 27, 3), (6, .iload_n 1, 1), (7, .iconst (-1), 1), (8, .iastore, 1), (9, .aload_n 0, 1), (10, .getfield 11, 3), (13, .iload_n 1, 1), (14, .iaload, 1), (15, .iconst 2, 1), (16, .if_icmp .ne 30, 3), (19, .aload_n 0, 1), (20, .getfield 30, 3), (23, .aload_n 0, 1), (24, .getfield 69, 3), (27, .iload_n 1, 1), (28, .iastore, 1), (29, .aload_n 0, 1), (30, .getfield 27, 3), (33, .iload_n 1, 1), (34, .aload_n 0, 1), (35, .dup, 1), (36, .getfield 69, 3), (39, .dup_x1, 1), (40, .iconst 1, 1), (41, .iadd, 1), (42, .putfield 69, 3), (45, .iastore, 1), (46, .aload_n 0, 1), (47, .getfield 18, 3), (50, .iload_n 1, 1), (51, .iaload, 1), (52, .iconst (-1), 1), (53, .if_icmp .eq 22, 3), (56, .aload_n 0, 1), (57, .getfield 33, 3), (60, .iload_n 3, 1), (61, .iinc 3 1, 3), (64, .aload_n 0, 1), (65, .aload_n 0, 1), (66, .getfield 18, 3), (69, .iload_n 1, 1), (70, .iaload, 1), (71, .invokevirtual 44, 3), (74, .iastore, 1), (75, .aload_n 0, 1), (76, .getfield 15, 3), (79, .iload_n 1, 1), (80, .iaload, 1), (81, .iconst (-1), 1), (82, .if_icmp .eq 22, 3), (85, .aload_n 0, 1), (86, .getfield 33, 3), (89, .iload_n 3, 1), (90, .iinc 3 1, 3), (93, .aload_n 0, 1), (94, .aload_n 0, 1), (95, .getfield 15, 3), (98, .iload_n 1, 1), (99, .iaload, 1), (100, .invokevirtual 44, 3), (103, .iastore, 1), (104, .iload_n 3, 1), (105, .ireturn, 1)]
set_option maxRecDepth 100000 in
theorem pgDk131_0 : ((pgD131.drop 0).take 60).all (fun q => decide (decode prog_7_method_21_code q.1 = .ok q.2)) = true := by decide +kernel
set_option maxRecDepth 100000 in
theorem pgDk131_60 : ((pgD131.drop 60).take 60).all (fun q => decide (decode prog_7_method_21_code q.1 = .ok q.2)) = true := by decide +kernel
def pgD132 : List (Nat × Instr × Nat) := [(0, .iconst 0, 1), (1, .istore_n 1, 1), (2, .iconst 0, 1), (3, .istore_n 2, 1), (4, .iload_n 2, 1), (5, .aload_n 0, 1), (6, .getfield 46, 3), (9, .invokevirtual 81, 3), (12, .if_icmp .ge 68, 3), (15, .iconst 0, 1), (16, .istore_n 3, 1), (17, .iload_n 3, 1), (18, .aload_n 0, 1), (19, .getfield 24, 3), (22, .invokevirtual 130, 3), (25, .if_icmp .ge 49, 3), (28, .aload_n 0, 1), (29, .getfield 54, 3), (32, .iload_n 3, 1), (33, .aload_n 0, 1), (34, .getfield 46, 3), (37, .iload_n 2, 1), (38, .invokevirtual 133, 3), (41, .invokevirtual 136, 3), (44, .ifCond .eq 24, 3), (47, .iload_n 1, 1), (48, .bipush 8, 2), (50, .if_icmp .ge 15, 3), (53, .aload_n 0, 1), (54, .getfield 9, 3), (57, .iload_n 1, 1), (58, .bipush 8, 2), (60, .iload_n 3, 1), (61, .imul, 1), (62, .iload_n 2, 1), (63, .iadd, 1), (64, .iastore, 1), (65, .iinc 1 1, 3), (68, .iinc 3 1, 3), (71, .goto (-54), 3), (74, .iinc 2 1, 3), (77, .goto (-73), 3), (80, .iload_n 1, 1), (81, .ireturn, 1)]
set_option maxRecDepth 100000 in
theorem pgDk132_0 : ((pgD132.drop 0).take 60).all (fun q => decide (decode prog_2_method_5_code q.1 = .ok q.2)) = true := by decide +kernel
def pgD133 : List (Nat × Instr × Nat) := [(0, .aload_n 0, 1), (1, .getfield 69, 3), (4, .ireturn, 1)]
set_option maxRecDepth 100000 in
theorem pgDk133_0 : ((pgD133.drop 0).take 60).all (fun q => decide (decode prog_7_method_16_code q.1 = .ok q.2)) = true := by decide +kernel
def pgD134 : List (Nat × Instr × Nat) := [(0, .aload_n 0, 1), (1, .getfield 30, 3), (4, .iload_n 1, 1), (5, .iaload, 1), (6, .ireturn, 1)]
set_option maxRecDepth 100000 in
theorem pgDk134_0 : ((pgD134.drop 0).take 60).all (fun q => decide (decode prog_7_method_17_code q.1 = .ok q.2)) = true := by decide +kernel
def pgD135 : List (Nat × Instr × Nat) := [(0, .aload_n 0, 1), (1, .getfield 11, 3), (4, .iload_n 2, 1), (5, .iaload, 1), (6, .istore_n 3, 1), (7, .iload_n 3, 1), (8, .iload_n 1, 1), (9, .ishr, 1), (10, .iconst 1, 1), (11, .iand, 1), (12, .ifCond .ne 5, 3), (15, .iconst 0, 1), (16, .ireturn, 1), (17, .iconst 0, 1), (18, .istore 4, 2), (20, .iload 4, 2), (22, .bipush 6, 2), (24, .if_icmp .ge 40, 3), (27, .iload 4, 2), (29, .iload_n 1, 1), (30, .if_icmp .eq 28, 3), (33, .iload_n 3, 1), (34, .iload 4, 2), (36, .ishr, 1), (37, .iconst 1, 1), (38, .iand, 1), (39, .iconst 1, 1), (40, .if_icmp .ne 18, 3), (43, .aload_n 0, 1), (44, .getfield 17, 3), (47, .iload 4, 2), (49, .iload_n 1, 1), (50, .invokevirtual 69, 3), (53, .ifCond .eq 5, 3), (56, .iconst 0, 1), (57, .ireturn, 1), (58, .iinc 4 1, 3), (61, .goto (-41), 3), (64, .iconst 1, 1), (65, .ireturn, 1)]
set_option maxRecDepth 100000 in
theorem pgDk135_0 : ((pgD135.drop 0).take 60).all (fun q => decide (decode prog_4_method_3_code q.1 = .ok q.2)) = true := by decide +kernel
def pgD136 : List (Nat × Instr × Nat) := [(0, .aload_n 0, 1), (1, .getfield 20, 3), (4, .invokevirtual 139, 3), (7, .istore_n 1, 1), (8, .aload_n 0, 1), (9, .getfield 17, 3), (12, .iconst 0, 1), (13, .aload_n 0, 1), (14, .getfield 46, 3), (17, .invokevirtual 142, 3), (20, .iconst (-1), 1), (21, .invokestatic 143, 3), (24, .aload_n 0, 1), (25, .aload_n 0, 1), (26, .getfield 46, 3), (29, .aload_n 0, 1), (30, .getfield 32, 3), (33, .invokevirtual 66, 3), (36, .invokevirtual 149, 3), (39, .iconst 0, 1), (40, .invokevirtual 152, 3), (43, .istore_n 2, 1), (44, .iload_n 2, 1), (45, .iconst (-1), 1), (46, .if_icmp .ne 11, 3), (49, .aload_n 0, 1), (50, .getfield 20, 3), (53, .iload_n 1, 1), (54, .invokevirtual 155, 3), (57, .iload_n 2, 1), (58, .ireturn, 1)]
set_option maxRecDepth 100000 in
theorem pgDk136_0 : ((pgD136.drop 0).take 60).all (fun q => decide (decode prog_2_method_6_code q.1 = .ok q.2)) = true := by decide +kernel
def pgD137 : List (Nat × Instr × Nat) := [(0, .aload_n 0, 1), (1, .getfield 21, 3), (4, .ireturn, 1)]
set_option maxRecDepth 100000 in
theorem pgDk137_0 : ((pgD137.drop 0).take 60).all (fun q => decide (decode prog_11_method_6_code q.1 = .ok q.2)) = true := by decide +kernel
def pgD138 : List (Nat × Instr × Nat) := [(0, .aload_n 0, 1), (1, .getfield 46, 3), (4, .iload_n 1, 1), (5, .invokevirtual 158, 3), (8, .istore_n 3, 1), (9, .iload_n 3, 1), (10, .ifCond .eq 8, 3), (13, .iload_n 3, 1), (14, .iconst 1, 1), (15, .if_icmp .ne 5, 3), (18, .iload_n 3, 1), (19, .ireturn, 1), (20, .iload_n 3, 1), (21, .iconst 2, 1), (22, .if_icmp .ne 14, 3), (25, .iconst 2, 1), (26, .aload_n 0, 1), (27, .getfield 46, 3), (30, .iload_n 1, 1), (31, .invokevirtual 161, 3), (34, .iadd, 1), (35, .ireturn, 1), (36, .aload_n 0, 1), (37, .getfield 17, 3), (40, .iload_n 1, 1), (41, .iaload, 1), (42, .iconst (-1), 1), (43, .if_icmp .ne 9, 3), (46, .iload_n 2, 1), (47, .bipush 30, 2), (49, .if_icmp .lt 10, 3), (52, .aload_n 0, 1), (53, .getfield 17, 3), (56, .iload_n 1, 1), (57, .iaload, 1), (58, .ireturn, 1), (59, .aload_n 0, 1), (60, .aload_n 0, 1), (61, .getfield 46, 3), (64, .iload_n 1, 1), (65, .invokevirtual 164, 3), (68, .iload_n 2, 1), (69, .iconst 1, 1), (70, .iadd, 1), (71, .invokevirtual 152, 3), (74, .istore 4, 2), (76, .iload 4, 2), (78, .iconst (-1), 1), (79, .if_icmp .ne 5, 3), (82, .iconst (-1), 1), (83, .ireturn, 1), (84, .iconst (-1), 1), (85, .istore 5, 2), (87, .iload_n 3, 1), (88, .iconst 4, 1), (89, .if_icmp .ne 28, 3), (92, .aload_n 0, 1), (93, .aload_n 0, 1), (94, .getfield 46, 3), (97, .iload_n 1, 1), (98, .invokevirtual 167, 3), (101, .iload_n 2, 1), (102, .iconst 1, 1), (103, .iadd, 1), (104, .invokevirtual 152, 3), (107, .istore 5, 2), (109, .iload 5, 2), (111, .iconst (-1), 1), (112, .if_icmp .ne 5, 3), (115, .iconst (-1), 1), (116, .ireturn, 1), (117, .aload_n 0, 1), (118, .getfield 17, 3), (121, .iload_n 1, 1), (122, .aload_n 0, 1), (123, .getfield 20, 3), (126, .iload 4, 2), (128, .iload 5, 2), (130, .invokevirtual 170, 3), (133, .iastore, 1), (134, .aload_n 0, 1), (135, .getfield 17, 3), (138, .iload_n 1, 1), (139, .iaload, 1), (140, .ireturn, 1)]
set_option maxRecDepth 100000 in
theorem pgDk138_0 : ((pgD138.drop 0).take 60).all (fun q => decide (decode prog_2_method_7_code q.1 = .ok q.2)) = true := by decide +kernel
set_option maxRecDepth 100000 in
theorem pgDk138_60 : ((pgD138.drop 60).take 60).all (fun q => decide (decode prog_2_method_7_code q.1 = .ok q.2)) = true := by decide +kernel
def pgD139 : List (Nat × Instr × Nat) := [(0, .aload_n 0, 1), (1, .aload_n 0, 1), (2, .getfield 18, 3), (5, .iload_n 1, 1), (6, .iaload, 1), (7, .invokevirtual 44, 3), (10, .ireturn, 1)]
set_option maxRecDepth 100000 in
theorem pgDk139_0 : ((pgD139.drop 0).take 60).all (fun q => decide (decode prog_7_method_9_code q.1 = .ok q.2)) = true := by decide +kernel
def pgD140 : List (Nat × Instr × Nat) := [(0, .aload_n 0, 1), (1, .iload_n 1, 1), (2, .putfield 21, 3), (5, .return_, 1)]
set_option maxRecDepth 100000 in
theorem pgDk140_0 : ((pgD140.drop 0).take 60).all (fun q => decide (decode prog_11_method_10_code q.1 = .ok q.2)) = true := by decide +kernel
def pgD141 : List (Nat × Instr × Nat) := [(0, .aload_n 0, 1), (1, .getfield 9, 3), (4, .aload_n 0, 1), (5, .getfield 24, 3), (8, .iload_n 1, 1), (9, .iastore, 1), (10, .aload_n 0, 1), (11, .getfield 15, 3), (14, .aload_n 0, 1), (15, .getfield 24, 3), (18, .iload_n 2, 1), (19, .iastore, 1), (20, .aload_n 0, 1), (21, .getfield 18, 3), (24, .aload_n 0, 1), (25, .getfield 24, 3), (28, .iload 4, 2), (30, .iastore, 1), (31, .aload_n 3, 1), (32, .iconst 0, 1), (33, .aload_n 0, 1), (34, .getfield 21, 3), (37, .aload_n 0, 1), (38, .getfield 24, 3), (41, .bipush 8, 2), (43, .imul, 1), (44, .iload 4, 2), (46, .invokestatic 31, 3), (49, .aload_n 0, 1), (50, .dup, 1), (51, .getfield 24, 3), (54, .dup_x1, 1), (55, .iconst 1, 1), (56, .iadd, 1), (57, .putfield 24, 3), (60, .ireturn, 1)]
set_option maxRecDepth 100000 in
theorem pgDk141_0 : ((pgD141.drop 0).take 60).all (fun q => decide (decode prog_5_method_10_code q.1 = .ok q.2)) = true := by decide +kernel
def pgD142 : List (Nat × Instr × Nat) := [(0, .iload_n 0, 1), (1, .bipush 60, 2), (3, .imul, 1), (4, .ireturn, 1)]
set_option maxRecDepth 100000 in
theorem pgDk142_0 : ((pgD142.drop 0).take 60).all (fun q => decide (decode prog_10_method_2_code q.1 = .ok q.2)) = true := by decide +kernel
def pgD143 : List (Nat × Instr × Nat) := [(0, .aload_n 3, 1), (1, .iconst 0, 1), (2, .aload_n 0, 1), (3, .iload_n 1, 1), (4, .iload_n 2, 1), (5, .invokevirtual 55, 3), (8, .i2l, 1), (9, .lastore, 1), (10, .goto 7, 3), (13, .astore 4, 2), (15, .iconst 1, 1), (16, .ireturn, 1), (17, .iconst 0, 1), (18, .ireturn, 1)]
set_option maxRecDepth 100000 in
theorem pgDk143_0 : ((pgD143.drop 0).take 60).all (fun q => decide (decode method_16_code q.1 = .ok q.2)) = true := by decide +kernel
def pgD144 : List (Nat × Instr × Nat) := [(0, .aload_n 0, 1), (1, .getfield 33, 3), (4, .iload_n 1, 1), (5, .invokevirtual 115, 3), (8, .invokestatic 67, 3), (11, .iload_n 2, 1), (12, .ifCond .lt 21, 3), (15, .iload_n 2, 1), (16, .iconst 2, 1), (17, .isub, 1), (18, .aload_n 0, 1), (19, .getfield 33, 3), (22, .iload_n 1, 1), (23, .invokevirtual 142, 3), (26, .if_icmp .ge 7, 3), (29, .iconst 1, 1), (30, .goto 4, 3), (33, .iconst 0, 1), (34, .invokestatic 67, 3), (37, .iload_n 2, 1), (38, .ifCond .ne 12, 3), (41, .aload_n 0, 1), (42, .getfield 33, 3), (45, .iload_n 1, 1), (46, .invokevirtual 145, 3), (49, .ireturn, 1), (50, .iload_n 2, 1), (51, .iconst 1, 1), (52, .if_icmp .ne 14, 3), (55, .aload_n 0, 1), (56, .getfield 33, 3), (59, .iload_n 1, 1), (60, .invokevirtual 142, 3), (63, .goto 14, 3), (66, .aload_n 0, 1), (67, .getfield 33, 3), (70, .iload_n 1, 1), (71, .iload_n 2, 1), (72, .iconst 2, 1), (73, .isub, 1), (74, .invokevirtual 148, 3), (77, .ireturn, 1)]
set_option maxRecDepth 100000 in
theorem pgDk144_0 : ((pgD144.drop 0).take 60).all (fun q => decide (decode prog_1_method_15_code q.1 = .ok q.2)) = true := by decide +kernel
def pgD145 : List (Nat × Instr × Nat) := [(0, .aload_n 3, 1), (1, .iconst 0, 1), (2, .aload_n 0, 1), (3, .iload_n 1, 1), (4, .iload_n 2, 1), (5, .invokevirtual 58, 3), (8, .ifCond .eq 7, 3), (11, .lconst 1, 1), (12, .goto 4, 3), (15, .lconst 0, 1), (16, .lastore, 1), (17, .goto 7, 3), (20, .astore 4, 2), (22, .iconst 1, 1), (23, .ireturn, 1), (24, .iconst 0, 1), (25, .ireturn, 1)]
set_option maxRecDepth 100000 in
theorem pgDk145_0 : ((pgD145.drop 0).take 60).all (fun q => decide (decode method_17_code q.1 = .ok q.2)) = true := by decide +kernel
def pgD146 : List (Nat × Instr × Nat) := [(0, .aload_n 0, 1), (1, .getfield 19, 3), (4, .iload_n 1, 1), (5, .invokevirtual 79, 3), (8, .ifCond .eq 18, 3), (11, .aload_n 0, 1), (12, .getfield 12, 3), (15, .iload_n 2, 1), (16, .invokevirtual 63, 3), (19, .ifCond .eq 7, 3), (22, .iconst 1, 1), (23, .goto 4, 3), (26, .iconst 0, 1), (27, .invokestatic 67, 3), (30, .aload_n 0, 1), (31, .iload_n 1, 1), (32, .iload_n 2, 1), (33, .invokevirtual 151, 3), (36, .ireturn, 1)]
set_option maxRecDepth 100000 in
theorem pgDk146_0 : ((pgD146.drop 0).take 60).all (fun q => decide (decode prog_1_method_16_code q.1 = .ok q.2)) = true := by decide +kernel
def pgD147 : List (Nat × Instr × Nat) := [(0, .iload_n 1, 1), (1, .istore_n 3, 1), (2, .iload_n 2, 1), (3, .istore 4, 2), (5, .aload_n 0, 1), (6, .getfield 12, 3), (9, .iload 4, 2), (11, .invokevirtual 178, 3), (14, .ifCond .eq 38, 3), (17, .aload_n 0, 1), (18, .getfield 19, 3), (21, .iload_n 3, 1), (22, .invokevirtual 181, 3), (25, .iconst (-1), 1), (26, .if_icmp .eq 26, 3), (29, .aload_n 0, 1), (30, .getfield 19, 3), (33, .iload_n 3, 1), (34, .invokevirtual 181, 3), (37, .istore_n 3, 1), (38, .aload_n 0, 1), (39, .getfield 12, 3), (42, .iload 4, 2), (44, .invokevirtual 184, 3), (47, .istore 4, 2), (49, .goto (-44), 3), (52, .aload_n 0, 1), (53, .getfield 12, 3), (56, .iload 4, 2), (58, .invokevirtual 178, 3), (61, .ifCond .eq 13, 3), (64, .aload_n 0, 1), (65, .getfield 19, 3), (68, .iload_n 3, 1), (69, .iconst 2, 1), (70, .invokevirtual 116, 3), (73, .ireturn, 1), (74, .iload 4, 2), (76, .ifCond .eq 9, 3), (79, .iload 4, 2), (81, .iconst 1, 1), (82, .if_icmp .ne 20, 3), (85, .aload_n 0, 1), (86, .getfield 19, 3), (89, .iload_n 3, 1), (90, .iload 4, 2), (92, .invokevirtual 116, 3), (95, .ifCond .eq 7, 3), (98, .iconst 1, 1), (99, .goto 4, 3), (102, .iconst 0, 1), (103, .ireturn, 1)]
set_option maxRecDepth 100000 in
theorem pgDk147_0 : ((pgD147.drop 0).take 60).all (fun q => decide (decode prog_1_method_23_code q.1 = .ok q.2)) = true := by decide +kernel
def pgD148 : List (Nat × Instr × Nat) := [(0, .aload_n 3, 1), (1, .iconst 0, 1), (2, .aload_n 0, 1), (3, .iload_n 1, 1), (4, .iload_n 2, 1), (5, .invokevirtual 62, 3), (8, .i2l, 1), (9, .lastore, 1), (10, .goto 11, 3), (13, .astore 4, 2), (15, .iconst 1, 1), (16, .ireturn, 1), (17, .astore 4, 2), (19, .iconst 2, 1), (20, .ireturn, 1), (21, .iconst 0, 1), (22, .ireturn, 1)]
set_option maxRecDepth 100000 in
theorem pgDk148_0 : ((pgD148.drop 0).take 60).all (fun q => decide (decode method_18_code q.1 = .ok q.2)) = true := by decide +kernel
def pgD149 : List (Nat × Instr × Nat) := [(0, .aload_n 0, 1), (1, .getfield 33, 3), (4, .iload_n 1, 1), (5, .invokevirtual 115, 3), (8, .ifCond .eq 19, 3), (11, .iload_n 2, 1), (12, .iconst 1, 1), (13, .if_icmp .lt 14, 3), (16, .iload_n 2, 1), (17, .sipush 300, 3), (20, .if_icmp .gt 7, 3), (23, .iconst 1, 1), (24, .goto 4, 3), (27, .iconst 0, 1), (28, .invokestatic 67, 3), (31, .aload_n 0, 1), (32, .getfield 33, 3), (35, .iload_n 1, 1), (36, .invokevirtual 142, 3), (39, .ifCond .ne 22, 3), (42, .aload_n 0, 1), (43, .aload_n 0, 1), (44, .getfield 33, 3), (47, .iload_n 1, 1), (48, .invokevirtual 145, 3), (51, .invokevirtual 154, 3), (54, .ifCond .eq 7, 3), (57, .iconst 1, 1), (58, .goto 4, 3), (61, .iconst 0, 1), (62, .invokestatic 84, 3), (65, .aload_n 0, 1), (66, .getfield 59, 3), (69, .iload_n 1, 1), (70, .iload_n 2, 1), (71, .invokevirtual 157, 3), (74, .ireturn, 1)]
set_option maxRecDepth 100000 in
theorem pgDk149_0 : ((pgD149.drop 0).take 60).all (fun q => decide (decode prog_1_method_17_code q.1 = .ok q.2)) = true := by decide +kernel
def pgD150 : List (Nat × Instr × Nat) := [(0, .aload_n 0, 1), (1, .getfield 12, 3), (4, .iload_n 1, 1), (5, .invokevirtual 178, 3), (8, .ifCond .eq 14, 3), (11, .aload_n 0, 1), (12, .getfield 12, 3), (15, .iload_n 1, 1), (16, .invokevirtual 184, 3), (19, .goto 4, 3), (22, .iload_n 1, 1), (23, .istore_n 2, 1), (24, .iload_n 2, 1), (25, .ifCond .eq 8, 3), (28, .iload_n 2, 1), (29, .iconst 1, 1), (30, .if_icmp .ne 7, 3), (33, .iconst 1, 1), (34, .goto 4, 3), (37, .iconst 0, 1), (38, .ireturn, 1)]
set_option maxRecDepth 100000 in
theorem pgDk150_0 : ((pgD150.drop 0).take 60).all (fun q => decide (decode prog_1_method_24_code q.1 = .ok q.2)) = true := by decide +kernel
def pgD151 : List (Nat × Instr × Nat) := [(0, .aload_n 0, 1), (1, .getfield 12, 3), (4, .invokevirtual 45, 3), (7, .aload_n 0, 1), (8, .iconst 0, 1), (9, .putfield 48, 3), (12, .aload_n 0, 1), (13, .iconst 0, 1), (14, .putfield 51, 3), (17, .aload_n 0, 1), (18, .iload_n 2, 1), (19, .putfield 54, 3), (22, .aload_n 0, 1), (23, .iconst 0, 1), (24, .putfield 57, 3), (27, .aload_n 0, 1), (28, .aload_n 0, 1), (29, .getfield 37, 3), (32, .iload_n 1, 1), (33, .invokevirtual 61, 3), (36, .iload_n 1, 1), (37, .invokestatic 67, 3), (40, .aload_n 0, 1), (41, .getfield 12, 3), (44, .invokevirtual 72, 3), (47, .invokevirtual 76, 3), (50, .iconst 0, 1), (51, .istore_n 3, 1), (52, .iload_n 3, 1), (53, .sipush 1208, 3), (56, .if_icmp .ge 35, 3), (59, .aload_n 0, 1), (60, .invokevirtual 80, 3), (63, .ifCond .eq 28, 3), (66, .aload_n 0, 1), (67, .getfield 84, 3), (70, .iconst (-1), 1), (71, .if_icmp .eq 10, 3), (74, .aload_n 0, 1), (75, .invokevirtual 87, 3), (78, .goto 7, 3), (81, .aload_n 0, 1), (82, .invokevirtual 90, 3), (85, .iinc 3 1, 3), (88, .goto (-36), 3), (91, .aload_n 0, 1), (92, .getfield 57, 3), (95, .ifCond .ne 18, 3), (98, .aload_n 0, 1), (99, .getfield 84, 3), (102, .iconst (-1), 1), (103, .if_icmp .ne 10, 3), (106, .aload_n 0, 1), (107, .getfield 48, 3), (110, .ifCond .le 5, 3), (113, .iconst (-1), 1), (114, .ireturn, 1), (115, .aload_n 0, 1), (116, .invokevirtual 93, 3), (119, .aload_n 0, 1), (120, .getfield 51, 3), (123, .ireturn, 1)]
set_option maxRecDepth 100000 in
theorem pgDk151_0 : ((pgD151.drop 0).take 60).all (fun q => decide (decode prog_9_method_4_code q.1 = .ok q.2)) = true := by decide +kernel
set_option maxRecDepth 100000 in
theorem pgDk151_60 : ((pgD151.drop 60).take 60).all (fun q => decide (decode prog_9_method_4_code q.1 = .ok q.2)) = true := by decide +kernel
def pgD152 : List (Nat × Instr × Nat) := [(0, .aload_n 0, 1), (1, .iconst 0, 1), (2, .putfield 18, 3), (5, .aload_n 0, 1), (6, .iconst 0, 1), (7, .putfield 22, 3), (10, .return_, 1)]
set_option maxRecDepth 100000 in
theorem pgDk152_0 : ((pgD152.drop 0).take 60).all (fun q => decide (decode prog_8_method_2_code q.1 = .ok q.2)) = true := by decide +kernel
def pgD153 : List (Nat × Instr × Nat) := [(0, .aload_n 0, 1), (1, .getfield 9, 3), (4, .iload_n 1, 1), (5, .iaload, 1), (6, .ireturn, 1)]
set_option maxRecDepth 100000 in
theorem pgDk153_0 : ((pgD153.drop 0).take 60).all (fun q => decide (decode prog_5_method_4_code q.1 = .ok q.2)) = true := by decide +kernel
def pgD154 : List (Nat × Instr × Nat) := [(0, .aload_n 0, 1), (1, .getfield 22, 3), (4, .bipush 8, 2), (6, .imul, 1), (7, .istore_n 1, 1), (8, .aload_n 0, 1), (9, .getfield 15, 3), (12, .iload_n 1, 1), (13, .iload_n 1, 1), (14, .bipush 8, 2), (16, .iadd, 1), (17, .iconst 2, 1), (18, .invokestatic 27, 3), (21, .aload_n 0, 1), (22, .dup, 1), (23, .getfield 22, 3), (26, .dup_x1, 1), (27, .iconst 1, 1), (28, .iadd, 1), (29, .putfield 22, 3), (32, .ireturn, 1)]
set_option maxRecDepth 100000 in
theorem pgDk154_0 : ((pgD154.drop 0).take 60).all (fun q => decide (decode prog_8_method_5_code q.1 = .ok q.2)) = true := by decide +kernel
def pgD155 : List (Nat × Instr × Nat) := [(0, .aload_n 0, 1), (1, .iload_n 1, 1), (2, .putfield 84, 3), (5, .aload_n 0, 1), (6, .iload_n 2, 1), (7, .putfield 120, 3), (10, .aload_n 0, 1), (11, .iconst (-1), 1), (12, .putfield 123, 3), (15, .aload_n 0, 1), (16, .iload_n 3, 1), (17, .putfield 126, 3), (20, .return_, 1)]
set_option maxRecDepth 100000 in
theorem pgDk155_0 : ((pgD155.drop 0).take 60).all (fun q => decide (decode prog_9_method_8_code q.1 = .ok q.2)) = true := by decide +kernel
def pgD156 : List (Nat × Instr × Nat) := [(0, .aload_n 0, 1), (1, .getfield 57, 3), (4, .ifCond .ne 32, 3), (7, .aload_n 0, 1), (8, .getfield 12, 3), (11, .invokevirtual 96, 3), (14, .ifCond .eq 22, 3), (17, .aload_n 0, 1), (18, .getfield 84, 3), (21, .iconst (-1), 1), (22, .if_icmp .ne 10, 3), (25, .aload_n 0, 1), (26, .getfield 48, 3), (29, .ifCond .le 7, 3), (32, .iconst 1, 1), (33, .goto 4, 3), (36, .iconst 0, 1), (37, .ireturn, 1)]
set_option maxRecDepth 100000 in
theorem pgDk156_0 : ((pgD156.drop 0).take 60).all (fun q => decide (decode prog_9_method_5_code q.1 = .ok q.2)) = true := by decide +kernel
def pgD157 : List (Nat × Instr × Nat) := [(0, .aload_n 0, 1), (1, .getfield 18, 3), (4, .sipush 602, 3), (7, .if_icmp .ge 17, 3), (10, .aload_n 0, 1), (11, .getfield 22, 3), (14, .sipush 302, 3), (17, .if_icmp .ge 7, 3), (20, .iconst 1, 1), (21, .goto 4, 3), (24, .iconst 0, 1), (25, .ireturn, 1)]
set_option maxRecDepth 100000 in
theorem pgDk157_0 : ((pgD157.drop 0).take 60).all (fun q => decide (decode prog_8_method_3_code q.1 = .ok q.2)) = true := by decide +kernel
def pgD158 : List (Nat × Instr × Nat) := [(0, .aload_n 0, 1), (1, .invokevirtual 129, 3), (4, .ifCond .ne 4, 3), (7, .return_, 1), (8, .aload_n 0, 1), (9, .getfield 84, 3), (12, .istore_n 1, 1), (13, .aload_n 0, 1), (14, .getfield 33, 3), (17, .iload_n 1, 1), (18, .invokevirtual 132, 3), (21, .istore_n 2, 1), (22, .aload_n 0, 1), (23, .getfield 33, 3), (26, .iload_n 1, 1), (27, .invokevirtual 137, 3), (30, .tableswitch 186 0 5 #[38, 53, 65, 84, 114, 170], 38), (68, .aload_n 0, 1), (69, .aload_n 0, 1), (70, .getfield 12, 3), (73, .iload_n 2, 1), (74, .invokevirtual 138, 3), (77, .invokevirtual 141, 3), (80, .goto 141, 3), (83, .aload_n 0, 1), (84, .aload_n 0, 1), (85, .iload_n 2, 1), (86, .invokevirtual 145, 3), (89, .invokevirtual 141, 3), (92, .goto 129, 3), (95, .aload_n 0, 1), (96, .aload_n 0, 1), (97, .getfield 12, 3), (100, .aload_n 0, 1), (101, .getfield 123, 3), (104, .iload_n 2, 1), (105, .invokevirtual 117, 3), (108, .invokevirtual 141, 3), (111, .goto 110, 3), (114, .aload_n 0, 1), (115, .aload_n 0, 1), (116, .getfield 12, 3), (119, .iconst 3, 1), (120, .iload_n 2, 1), (121, .aload_n 0, 1), (122, .getfield 120, 3), (125, .iconst 1, 1), (126, .iadd, 1), (127, .aload_n 0, 1), (128, .getfield 123, 3), (131, .aload_n 0, 1), (132, .getfield 126, 3), (135, .invokevirtual 148, 3), (138, .invokevirtual 141, 3), (141, .goto 80, 3), (144, .aload_n 0, 1), (145, .getfield 120, 3), (148, .iconst 1, 1), (149, .iadd, 1), (150, .aload_n 0, 1), (151, .getfield 33, 3), (154, .iload_n 2, 1), (155, .invokevirtual 152, 3), (158, .iadd, 1), (159, .istore_n 3, 1), (160, .aload_n 0, 1), (161, .iconst 0, 1), (162, .aload_n 0, 1), (163, .getfield 33, 3), (166, .iload_n 1, 1), (167, .invokevirtual 155, 3), (170, .iload_n 3, 1), (171, .aload_n 0, 1), (172, .getfield 123, 3), (175, .aload_n 0, 1), (176, .getfield 126, 3), (179, .invokevirtual 158, 3), (182, .aload_n 0, 1), (183, .iload_n 2, 1), (184, .putfield 84, 3), (187, .aload_n 0, 1), (188, .dup, 1), (189, .getfield 120, 3), (192, .iconst 1, 1), (193, .iadd, 1), (194, .putfield 120, 3), (197, .goto 24, 3), (200, .aload_n 0, 1), (201, .iload_n 2, 1), (202, .aload_n 0, 1), (203, .getfield 33, 3), (206, .iload_n 1, 1), (207, .invokevirtual 155, 3), (210, .invokevirtual 162, 3), (213, .goto 8, 3), (216, .aload_n 0, 1), (217, .iload_n 2, 1), (218, .invokevirtual 166, 3), (221, .return_, 1)]
set_option maxRecDepth 100000 in
theorem pgDk158_0 : ((pgD158.drop 0).take 60).all (fun q => decide (decode prog_9_method_11_code q.1 = .ok q.2)) = true := by decide +kernel
set_option maxRecDepth 100000 in
theorem pgDk158_60 : ((pgD158.drop 60).take 60).all (fun q => decide (decode prog_9_method_11_code q.1 = .ok q.2)) = true := by decide +kernel
def pgD159 : List (Nat × Instr × Nat) := [(0, .aload_n 0, 1), (1, .aload_n 0, 1), (2, .getfield 51, 3), (5, .aload_n 0, 1), (6, .getfield 54, 3), (9, .if_icmp .ne 7, 3), (12, .iconst 1, 1), (13, .goto 4, 3), (16, .iconst 0, 1), (17, .putfield 57, 3), (20, .aload_n 0, 1), (21, .getfield 57, 3), (24, .ifCond .ne 13, 3), (27, .aload_n 0, 1), (28, .dup, 1), (29, .getfield 51, 3), (32, .iconst 1, 1), (33, .iadd, 1), (34, .putfield 51, 3), (37, .aload_n 0, 1), (38, .getfield 57, 3), (41, .ifCond .ne 7, 3), (44, .iconst 1, 1), (45, .goto 4, 3), (48, .iconst 0, 1), (49, .ireturn, 1)]
set_option maxRecDepth 100000 in
theorem pgDk159_0 : ((pgD159.drop 0).take 60).all (fun q => decide (decode prog_9_method_7_code q.1 = .ok q.2)) = true := by decide +kernel
def pgD160 : List (Nat × Instr × Nat) := [(0, .aload_n 0, 1), (1, .iconst 0, 1), (2, .iload_n 1, 1), (3, .iconst (-1), 1), (4, .iconst (-1), 1), (5, .iconst (-1), 1), (6, .invokevirtual 33, 3), (9, .ireturn, 1)]
set_option maxRecDepth 100000 in
theorem pgDk160_0 : ((pgD160.drop 0).take 60).all (fun q => decide (decode prog_8_method_8_code q.1 = .ok q.2)) = true := by decide +kernel
def pgD161 : List (Nat × Instr × Nat) := [(0, .aload_n 0, 1), (1, .getfield 18, 3), (4, .iconst 5, 1), (5, .imul, 1), (6, .istore 6, 2), (8, .aload_n 0, 1), (9, .getfield 11, 3), (12, .iload 6, 2), (14, .iload_n 1, 1), (15, .iastore, 1), (16, .aload_n 0, 1), (17, .getfield 11, 3), (20, .iload 6, 2), (22, .iconst 1, 1), (23, .iadd, 1), (24, .iload_n 2, 1), (25, .iastore, 1), (26, .aload_n 0, 1), (27, .getfield 11, 3), (30, .iload 6, 2), (32, .iconst 2, 1), (33, .iadd, 1), (34, .iload_n 3, 1), (35, .iastore, 1), (36, .aload_n 0, 1), (37, .getfield 11, 3), (40, .iload 6, 2), (42, .iconst 3, 1), (43, .iadd, 1), (44, .iload 4, 2), (46, .iastore, 1), (47, .aload_n 0, 1), (48, .getfield 11, 3), (51, .iload 6, 2), (53, .iconst 4, 1), (54, .iadd, 1), (55, .iload 5, 2), (57, .iastore, 1), (58, .aload_n 0, 1), (59, .dup, 1), (60, .getfield 18, 3), (63, .dup_x1, 1), (64, .iconst 1, 1), (65, .iadd, 1), (66, .putfield 18, 3), (69, .ireturn, 1)]
set_option maxRecDepth 100000 in
theorem pgDk161_0 : ((pgD161.drop 0).take 60).all (fun q => decide (decode prog_8_method_7_code q.1 = .ok q.2)) = true := by decide +kernel
def pgD162 : List (Nat × Instr × Nat) := [(0, .aload_n 0, 1), (1, .iload_n 1, 1), (2, .putfield 99, 3), (5, .aload_n 0, 1), (6, .iconst (-1), 1), (7, .putfield 84, 3), (10, .return_, 1)]
set_option maxRecDepth 100000 in
theorem pgDk162_0 : ((pgD162.drop 0).take 60).all (fun q => decide (decode prog_9_method_9_code q.1 = .ok q.2)) = true := by decide +kernel
def pgD163 : List (Nat × Instr × Nat) := [(0, .iload_n 1, 1), (1, .ifCond .eq 8, 3), (4, .iload_n 1, 1), (5, .iconst 1, 1), (6, .if_icmp .ne 20, 3), (9, .aload_n 0, 1), (10, .getfield 12, 3), (13, .iload_n 1, 1), (14, .ifCond .ne 7, 3), (17, .iconst 1, 1), (18, .goto 4, 3), (21, .iconst 0, 1), (22, .invokevirtual 138, 3), (25, .ireturn, 1), (26, .iload_n 1, 1), (27, .iconst 5, 1), (28, .if_icmp .ne 16, 3), (31, .aload_n 0, 1), (32, .getfield 12, 3), (35, .iconst 1, 1), (36, .iconst (-1), 1), (37, .iconst (-1), 1), (38, .iconst (-1), 1), (39, .iconst (-1), 1), (40, .invokevirtual 148, 3), (43, .ireturn, 1), (44, .aload_n 0, 1), (45, .getfield 12, 3), (48, .iconst 4, 1), (49, .iload_n 1, 1), (50, .iconst 0, 1), (51, .iconst (-1), 1), (52, .iconst (-1), 1), (53, .invokevirtual 148, 3), (56, .ireturn, 1)]
set_option maxRecDepth 100000 in
theorem pgDk163_0 : ((pgD163.drop 0).take 60).all (fun q => decide (decode prog_9_method_12_code q.1 = .ok q.2)) = true := by decide +kernel
def pgD164 : List (Nat × Instr × Nat) := [(0, .iload_n 1, 1), (1, .istore_n 3, 1), (2, .iconst 0, 1), (3, .istore 4, 2), (5, .iload 4, 2), (7, .iload_n 2, 1), (8, .if_icmp .ge 16, 3), (11, .aload_n 0, 1), (12, .iload_n 3, 1), (13, .iconst 1, 1), (14, .invokevirtual 41, 3), (17, .istore_n 3, 1), (18, .iinc 4 1, 3), (21, .goto (-16), 3), (24, .aload_n 0, 1), (25, .iload_n 3, 1), (26, .iconst 0, 1), (27, .invokevirtual 41, 3), (30, .ireturn, 1)]
set_option maxRecDepth 100000 in
theorem pgDk164_0 : ((pgD164.drop 0).take 60).all (fun q => decide (decode prog_8_method_14_code q.1 = .ok q.2)) = true := by decide +kernel
def pgD165 : List (Nat × Instr × Nat) := [(0, .aload_n 0, 1), (1, .getfield 11, 3), (4, .iload_n 1, 1), (5, .iconst 5, 1), (6, .imul, 1), (7, .iconst 1, 1), (8, .iadd, 1), (9, .iload_n 2, 1), (10, .iadd, 1), (11, .iaload, 1), (12, .ireturn, 1)]
set_option maxRecDepth 100000 in
theorem pgDk165_0 : ((pgD165.drop 0).take 60).all (fun q => decide (decode prog_8_method_11_code q.1 = .ok q.2)) = true := by decide +kernel
def pgD166 : List (Nat × Instr × Nat) := [(0, .aload_n 0, 1), (1, .getfield 48, 3), (4, .iconst 5, 1), (5, .imul, 1), (6, .istore 6, 2), (8, .aload_n 0, 1), (9, .getfield 18, 3), (12, .iload 6, 2), (14, .iload_n 1, 1), (15, .iastore, 1), (16, .aload_n 0, 1), (17, .getfield 18, 3), (20, .iload 6, 2), (22, .iconst 1, 1), (23, .iadd, 1), (24, .iload_n 2, 1), (25, .iastore, 1), (26, .aload_n 0, 1), (27, .getfield 18, 3), (30, .iload 6, 2), (32, .iconst 2, 1), (33, .iadd, 1), (34, .iload_n 3, 1), (35, .iastore, 1), (36, .aload_n 0, 1), (37, .getfield 18, 3), (40, .iload 6, 2), (42, .iconst 3, 1), (43, .iadd, 1), (44, .iload 4, 2), (46, .iastore, 1), (47, .aload_n 0, 1), (48, .getfield 18, 3), (51, .iload 6, 2), (53, .iconst 4, 1), (54, .iadd, 1), (55, .iload 5, 2), (57, .iastore, 1), (58, .aload_n 0, 1), (59, .dup, 1), (60, .getfield 48, 3), (63, .iconst 1, 1), (64, .iadd, 1), (65, .putfield 48, 3), (68, .return_, 1)]
set_option maxRecDepth 100000 in
theorem pgDk166_0 : ((pgD166.drop 0).take 60).all (fun q => decide (decode prog_9_method_10_code q.1 = .ok q.2)) = true := by decide +kernel
def pgD167 : List (Nat × Instr × Nat) := [(0, .aload_n 0, 1), (1, .getfield 41, 3), (4, .aload_n 0, 1), (5, .getfield 120, 3), (8, .iconst 0, 1), (9, .aload_n 0, 1), (10, .getfield 12, 3), (13, .invokevirtual 169, 3), (16, .aload_n 0, 1), (17, .getfield 126, 3), (20, .invokevirtual 173, 3), (23, .istore_n 3, 1), (24, .iload_n 3, 1), (25, .invokestatic 177, 3), (28, .istore 4, 2), (30, .iload 4, 2), (32, .iconst (-1), 1), (33, .if_icmp .eq 16, 3), (36, .aload_n 0, 1), (37, .getfield 29, 3), (40, .iload_n 1, 1), (41, .iload 4, 2), (43, .invokevirtual 180, 3), (46, .ifCond .ne 9, 3), (49, .aload_n 0, 1), (50, .iconst 1, 1), (51, .putfield 57, 3), (54, .return_, 1), (55, .aload_n 0, 1), (56, .getfield 12, 3), (59, .invokevirtual 72, 3), (62, .istore 5, 2), (64, .aload_n 0, 1), (65, .getfield 12, 3), (68, .iload 5, 2), (70, .iconst 0, 1), (71, .iload_n 3, 1), (72, .invokestatic 186, 3), (75, .invokevirtual 189, 3), (78, .aload_n 0, 1), (79, .aload_n 0, 1), (80, .getfield 29, 3), (83, .iload_n 1, 1), (84, .iload 4, 2), (86, .iload_n 2, 1), (87, .invokevirtual 192, 3), (90, .iload_n 1, 1), (91, .iload 4, 2), (93, .iload_n 2, 1), (94, .invokestatic 196, 3), (97, .iload 5, 2), (99, .invokevirtual 76, 3), (102, .return_, 1)]
set_option maxRecDepth 100000 in
theorem pgDk167_0 : ((pgD167.drop 0).take 60).all (fun q => decide (decode prog_9_method_13_code q.1 = .ok q.2)) = true := by decide +kernel
def pgD168 : List (Nat × Instr × Nat) := [(0, .aload_n 0, 1), (1, .getfield 15, 3), (4, .areturn, 1)]
set_option maxRecDepth 100000 in
theorem pgDk168_0 : ((pgD168.drop 0).take 60).all (fun q => decide (decode prog_8_method_4_code q.1 = .ok q.2)) = true := by decide +kernel
def pgD169 : List (Nat × Instr × Nat) := [(0, .aload_n 0, 1), (1, .getfield 12, 3), (4, .iload_n 1, 1), (5, .bipush 8, 2), (7, .imul, 1), (8, .iload_n 2, 1), (9, .iadd, 1), (10, .iaload, 1), (11, .istore 5, 2), (13, .iload 5, 2), (15, .bipush 16, 2), (17, .idiv, 1), (18, .iconst 4, 1), (19, .imul, 1), (20, .istore 6, 2), (22, .iload 5, 2), (24, .bipush 16, 2), (26, .irem, 1), (27, .istore 7, 2), (29, .iload 6, 2), (31, .iload 7, 2), (33, .iconst 4, 1), (34, .if_icmp .ge 8, 3), (37, .iload 7, 2), (39, .goto 15, 3), (42, .aload_n 3, 1), (43, .iload 4, 2), (45, .bipush 8, 2), (47, .imul, 1), (48, .iload 7, 2), (50, .iadd, 1), (51, .iconst 4, 1), (52, .isub, 1), (53, .iaload, 1), (54, .iadd, 1), (55, .ireturn, 1)]
set_option maxRecDepth 100000 in
theorem pgDk169_0 : ((pgD169.drop 0).take 60).all (fun q => decide (decode prog_10_method_7_code q.1 = .ok q.2)) = true := by decide +kernel
def pgD170 : List (Nat × Instr × Nat) := [(0, .iload_n 0, 1), (1, .iconst 4, 1), (2, .if_icmp .lt 5, 3), (5, .iconst 2, 1), (6, .ireturn, 1), (7, .iload_n 0, 1), (8, .iconst 2, 1), (9, .if_icmp .ne 7, 3), (12, .iconst (-1), 1), (13, .goto 4, 3), (16, .iload_n 0, 1), (17, .ireturn, 1)]
set_option maxRecDepth 100000 in
theorem pgDk170_0 : ((pgD170.drop 0).take 60).all (fun q => decide (decode prog_10_method_4_code q.1 = .ok q.2)) = true := by decide +kernel
def pgD171 : List (Nat × Instr × Nat) := [(0, .iload_n 0, 1), (1, .iconst 4, 1), (2, .if_icmp .lt 9, 3), (5, .iload_n 0, 1), (6, .iconst 4, 1), (7, .isub, 1), (8, .goto 4, 3), (11, .iconst 2, 1), (12, .ireturn, 1)]
set_option maxRecDepth 100000 in
theorem pgDk171_0 : ((pgD171.drop 0).take 60).all (fun q => decide (decode prog_10_method_5_code q.1 = .ok q.2)) = true := by decide +kernel
def pgD172 : List (Nat × Instr × Nat) := [(0, .aload_n 0, 1), (1, .getfield 15, 3), (4, .iload_n 1, 1), (5, .bipush 8, 2), (7, .imul, 1), (8, .iload_n 2, 1), (9, .iadd, 1), (10, .iload_n 3, 1), (11, .iastore, 1), (12, .return_, 1)]
set_option maxRecDepth 100000 in
theorem pgDk172_0 : ((pgD172.drop 0).take 60).all (fun q => decide (decode prog_8_method_6_code q.1 = .ok q.2)) = true := by decide +kernel
def pgD173 : List (Nat × Instr × Nat) := [(0, .aload_n 0, 1), (1, .getfield 12, 3), (4, .invokevirtual 72, 3), (7, .istore_n 2, 1), (8, .iconst 0, 1), (9, .istore_n 3, 1), (10, .iload_n 3, 1), (11, .bipush 8, 2), (13, .if_icmp .ge 41, 3), (16, .aload_n 0, 1), (17, .getfield 12, 3), (20, .iload_n 2, 1), (21, .iload_n 3, 1), (22, .aload_n 0, 1), (23, .getfield 41, 3), (26, .aload_n 0, 1), (27, .getfield 120, 3), (30, .iload_n 3, 1), (31, .aload_n 0, 1), (32, .getfield 12, 3), (35, .invokevirtual 169, 3), (38, .aload_n 0, 1), (39, .getfield 126, 3), (42, .invokevirtual 173, 3), (45, .invokevirtual 189, 3), (48, .iinc 3 1, 3), (51, .goto (-41), 3), (54, .aload_n 0, 1), (55, .aload_n 0, 1), (56, .getfield 37, 3), (59, .iload_n 1, 1), (60, .invokevirtual 61, 3), (63, .iload_n 1, 1), (64, .invokestatic 67, 3), (67, .iload_n 2, 1), (68, .invokevirtual 76, 3), (71, .return_, 1)]
set_option maxRecDepth 100000 in
theorem pgDk173_0 : ((pgD173.drop 0).take 60).all (fun q => decide (decode prog_9_method_14_code q.1 = .ok q.2)) = true := by decide +kernel
def pgD174 : List (Nat × Instr × Nat) := [(0, .aload_n 0, 1), (1, .dup, 1), (2, .getfield 48, 3), (5, .iconst 1, 1), (6, .isub, 1), (7, .putfield 48, 3), (10, .aload_n 0, 1), (11, .getfield 48, 3), (14, .iconst 5, 1), (15, .imul, 1), (16, .istore_n 1, 1), (17, .aload_n 0, 1), (18, .getfield 18, 3), (21, .iload_n 1, 1), (22, .iconst 1, 1), (23, .iadd, 1), (24, .iaload, 1), (25, .istore_n 2, 1), (26, .aload_n 0, 1), (27, .getfield 18, 3), (30, .iload_n 1, 1), (31, .iaload, 1), (32, .tableswitch 108 0 2 #[28, 84, 96], 28), (60, .aload_n 0, 1), (61, .iload_n 2, 1), (62, .putfield 84, 3), (65, .aload_n 0, 1), (66, .aload_n 0, 1), (67, .getfield 18, 3), (70, .iload_n 1, 1), (71, .iconst 2, 1), (72, .iadd, 1), (73, .iaload, 1), (74, .putfield 120, 3), (77, .aload_n 0, 1), (78, .aload_n 0, 1), (79, .getfield 18, 3), (82, .iload_n 1, 1), (83, .iconst 3, 1), (84, .iadd, 1), (85, .iaload, 1), (86, .putfield 123, 3), (89, .aload_n 0, 1), (90, .aload_n 0, 1), (91, .getfield 18, 3), (94, .iload_n 1, 1), (95, .iconst 4, 1), (96, .iadd, 1), (97, .iaload, 1), (98, .putfield 126, 3), (101, .aload_n 0, 1), (102, .iconst 1, 1), (103, .aload_n 0, 1), (104, .getfield 99, 3), (107, .iconst (-1), 1), (108, .iconst (-1), 1), (109, .iconst (-1), 1), (110, .invokevirtual 158, 3), (113, .goto 52, 3), (116, .aload_n 0, 1), (117, .iload_n 2, 1), (118, .aload_n 0, 1), (119, .getfield 99, 3), (122, .invokevirtual 199, 3), (125, .goto 40, 3), (128, .aload_n 0, 1), (129, .aload_n 0, 1), (130, .getfield 99, 3), (133, .iload_n 2, 1), (134, .invokevirtual 199, 3), (137, .goto 28, 3), (140, .aload_n 0, 1), (141, .iload_n 2, 1), (142, .aload_n 0, 1), (143, .getfield 99, 3), (146, .aload_n 0, 1), (147, .getfield 18, 3), (150, .iload_n 1, 1), (151, .iconst 2, 1), (152, .iadd, 1), (153, .iaload, 1), (154, .aload_n 0, 1), (155, .getfield 18, 3), (158, .iload_n 1, 1), (159, .iconst 3, 1), (160, .iadd, 1), (161, .iaload, 1), (162, .invokevirtual 202, 3), (165, .return_, 1)]
set_option maxRecDepth 100000 in
theorem pgDk174_0 : ((pgD174.drop 0).take 60).all (fun q => decide (decode prog_9_method_15_code q.1 = .ok q.2)) = true := by decide +kernel
set_option maxRecDepth 100000 in
theorem pgDk174_60 : ((pgD174.drop 60).take 60).all (fun q => decide (decode prog_9_method_15_code q.1 = .ok q.2)) = true := by decide +kernel
def pgD175 : List (Nat × Instr × Nat) := [(0, .aload_n 0, 1), (1, .getfield 12, 3), (4, .iload_n 1, 1), (5, .invokevirtual 102, 3), (8, .iconst 3, 1), (9, .if_icmp .ne 67, 3), (12, .aload_n 0, 1), (13, .aload_n 0, 1), (14, .getfield 12, 3), (17, .iload_n 1, 1), (18, .iconst 0, 1), (19, .invokevirtual 206, 3), (22, .putfield 84, 3), (25, .aload_n 0, 1), (26, .aload_n 0, 1), (27, .getfield 12, 3), (30, .iload_n 1, 1), (31, .iconst 1, 1), (32, .invokevirtual 206, 3), (35, .putfield 120, 3), (38, .aload_n 0, 1), (39, .aload_n 0, 1), (40, .getfield 12, 3), (43, .iconst 5, 1), (44, .iload_n 2, 1), (45, .aload_n 0, 1), (46, .getfield 12, 3), (49, .iload_n 1, 1), (50, .iconst 2, 1), (51, .invokevirtual 206, 3), (54, .iconst (-1), 1), (55, .iconst (-1), 1), (56, .invokevirtual 148, 3), (59, .putfield 123, 3), (62, .aload_n 0, 1), (63, .aload_n 0, 1), (64, .getfield 12, 3), (67, .iload_n 1, 1), (68, .iconst 3, 1), (69, .invokevirtual 206, 3), (72, .putfield 126, 3), (75, .return_, 1), (76, .aload_n 0, 1), (77, .getfield 12, 3), (80, .iload_n 1, 1), (81, .iconst 0, 1), (82, .invokevirtual 206, 3), (85, .istore_n 3, 1), (86, .aload_n 0, 1), (87, .getfield 12, 3), (90, .iload_n 1, 1), (91, .iconst 1, 1), (92, .invokevirtual 206, 3), (95, .istore 4, 2), (97, .iload 4, 2), (99, .iconst 1, 1), (100, .iadd, 1), (101, .getstatic 209, 3), (104, .iload_n 3, 1), (105, .iaload, 1), (106, .if_icmp .ne 30, 3), (109, .aload_n 0, 1), (110, .iload_n 3, 1), (111, .aload_n 0, 1), (112, .getfield 12, 3), (115, .iload_n 1, 1), (116, .iconst 2, 1), (117, .invokevirtual 206, 3), (120, .aload_n 0, 1), (121, .getfield 12, 3), (124, .iload_n 1, 1), (125, .iconst 3, 1), (126, .invokevirtual 206, 3), (129, .iload_n 2, 1), (130, .invokevirtual 212, 3), (133, .goto 51, 3), (136, .iload 4, 2), (138, .ifCond .ne 22, 3), (141, .aload_n 0, 1), (142, .aload_n 0, 1), (143, .getfield 12, 3), (146, .iconst 4, 1), (147, .iload_n 3, 1), (148, .iconst 1, 1), (149, .iload_n 2, 1), (150, .iconst (-1), 1), (151, .invokevirtual 148, 3), (154, .invokevirtual 141, 3), (157, .goto 27, 3), (160, .aload_n 0, 1), (161, .aload_n 0, 1), (162, .getfield 12, 3), (165, .iconst 4, 1), (166, .iload_n 3, 1), (167, .iconst 2, 1), (168, .aload_n 0, 1), (169, .getfield 12, 3), (172, .iload_n 1, 1), (173, .iconst 2, 1), (174, .invokevirtual 206, 3), (177, .iload_n 2, 1), (178, .invokevirtual 148, 3), (181, .invokevirtual 141, 3), (184, .return_, 1)]
set_option maxRecDepth 100000 in
theorem pgDk175_0 : ((pgD175.drop 0).take 60).all (fun q => decide (decode prog_9_method_16_code q.1 = .ok q.2)) = true := by decide +kernel
set_option maxRecDepth 100000 in
theorem pgDk175_60 : ((pgD175.drop 60).take 60).all (fun q => decide (decode prog_9_method_16_code q.1 = .ok q.2)) = true := by decide +kernel
def pgD176 : List (Nat × Instr × Nat) := [(0, .aload_n 0, 1), (1, .getfield 11, 3), (4, .iload_n 1, 1), (5, .iconst 5, 1), (6, .imul, 1), (7, .iaload, 1), (8, .ireturn, 1)]
set_option maxRecDepth 100000 in
theorem pgDk176_0 : ((pgD176.drop 0).take 60).all (fun q => decide (decode prog_8_method_10_code q.1 = .ok q.2)) = true := by decide +kernel
def pgD177 : List (Nat × Instr × Nat) := [(0, .iload_n 1, 1), (1, .tableswitch 148 2 6 #[35, 67, 106, 148, 131], 35), (36, .aload_n 0, 1), (37, .aload_n 0, 1), (38, .getfield 12, 3), (41, .aload_n 0, 1), (42, .getfield 12, 3), (45, .iload_n 2, 1), (46, .invokevirtual 105, 3), (49, .aload_n 0, 1), (50, .getfield 12, 3), (53, .iload 4, 2), (55, .invokevirtual 105, 3), (58, .iadd, 1), (59, .invokevirtual 138, 3), (62, .invokevirtual 141, 3), (65, .goto 101, 3), (68, .aload_n 0, 1), (69, .aload_n 0, 1), (70, .getfield 12, 3), (73, .aload_n 0, 1), (74, .getfield 12, 3), (77, .iload_n 2, 1), (78, .invokevirtual 105, 3), (81, .aload_n 0, 1), (82, .getfield 12, 3), (85, .iload 4, 2), (87, .invokevirtual 105, 3), (90, .if_icmp .ge 7, 3), (93, .iconst 1, 1), (94, .goto 4, 3), (97, .iconst 0, 1), (98, .invokevirtual 138, 3), (101, .invokevirtual 141, 3), (104, .goto 62, 3), (107, .aload_n 0, 1), (108, .aload_n 0, 1), (109, .getfield 12, 3), (112, .iload_n 2, 1), (113, .invokevirtual 105, 3), (116, .iconst 1, 1), (117, .if_icmp .ne 7, 3), (120, .iload_n 3, 1), (121, .goto 5, 3), (124, .iload 4, 2), (126, .invokevirtual 141, 3), (129, .goto 37, 3), (132, .aload_n 0, 1), (133, .aload_n 0, 1), (134, .getfield 12, 3), (137, .iload_n 2, 1), (138, .iload 4, 2), (140, .invokevirtual 215, 3), (143, .invokevirtual 141, 3), (146, .goto 20, 3), (149, .aload_n 0, 1), (150, .iload_n 2, 1), (151, .iload_n 3, 1), (152, .iload 4, 2), (154, .aload_n 0, 1), (155, .getfield 12, 3), (158, .iload 4, 2), (160, .invokevirtual 108, 3), (163, .invokevirtual 202, 3), (166, .return_, 1)]
set_option maxRecDepth 100000 in
theorem pgDk177_0 : ((pgD177.drop 0).take 60).all (fun q => decide (decode prog_9_method_17_code q.1 = .ok q.2)) = true := by decide +kernel
set_option maxRecDepth 100000 in
theorem pgDk177_60 : ((pgD177.drop 60).take 60).all (fun q => decide (decode prog_9_method_17_code q.1 = .ok q.2)) = true := by decide +kernel
def pgD178 : List (Nat × Instr × Nat) := [(0, .aload_n 0, 1), (1, .iload_n 1, 1), (2, .iconst 0, 1), (3, .invokevirtual 41, 3), (6, .ireturn, 1)]
set_option maxRecDepth 100000 in
theorem pgDk178_0 : ((pgD178.drop 0).take 60).all (fun q => decide (decode prog_8_method_12_code q.1 = .ok q.2)) = true := by decide +kernel
def pgD179 : List (Nat × Instr × Nat) := [(0, .aload_n 0, 1), (1, .iconst 2, 1), (2, .iload_n 1, 1), (3, .iload_n 2, 1), (4, .aload_n 0, 1), (5, .iload_n 2, 1), (6, .invokevirtual 37, 3), (9, .iconst 1, 1), (10, .iadd, 1), (11, .iconst (-1), 1), (12, .invokevirtual 33, 3), (15, .ireturn, 1)]
set_option maxRecDepth 100000 in
theorem pgDk179_0 : ((pgD179.drop 0).take 60).all (fun q => decide (decode prog_8_method_9_code q.1 = .ok q.2)) = true := by decide +kernel
def pgD180 : List (Nat × Instr × Nat) := [(0, .aload_n 0, 1), (1, .iload_n 1, 1), (2, .invokevirtual 45, 3), (5, .iconst 2, 1), (6, .if_icmp .ne 12, 3), (9, .aload_n 0, 1), (10, .iload_n 1, 1), (11, .iconst 2, 1), (12, .invokevirtual 41, 3), (15, .goto 4, 3), (18, .iconst 0, 1), (19, .ireturn, 1)]
set_option maxRecDepth 100000 in
theorem pgDk180_0 : ((pgD180.drop 0).take 60).all (fun q => decide (decode prog_8_method_13_code q.1 = .ok q.2)) = true := by decide +kernel
def pgD181 : List (Nat × Instr × Nat) := [(0, .iload 4, 2), (2, .ifCond .ne 11, 3), (5, .aload_n 0, 1), (6, .iload_n 2, 1), (7, .invokevirtual 141, 3), (10, .goto 56, 3), (13, .aload_n 0, 1), (14, .invokevirtual 129, 3), (17, .ifCond .eq 49, 3), (20, .aload_n 0, 1), (21, .iconst 3, 1), (22, .iload_n 1, 1), (23, .iload_n 3, 1), (24, .iload 4, 2), (26, .iconst 1, 1), (27, .isub, 1), (28, .iconst (-1), 1), (29, .invokevirtual 158, 3), (32, .aload_n 0, 1), (33, .iconst 2, 1), (34, .iload_n 2, 1), (35, .iconst (-1), 1), (36, .iconst (-1), 1), (37, .iconst (-1), 1), (38, .invokevirtual 158, 3), (41, .aload_n 0, 1), (42, .iconst 1, 1), (43, .iload_n 1, 1), (44, .iconst (-1), 1), (45, .iconst (-1), 1), (46, .iconst (-1), 1), (47, .invokevirtual 158, 3), (50, .aload_n 0, 1), (51, .aload_n 0, 1), (52, .getfield 12, 3), (55, .iload_n 3, 1), (56, .iload 4, 2), (58, .iconst 1, 1), (59, .isub, 1), (60, .invokevirtual 117, 3), (63, .invokevirtual 141, 3), (66, .return_, 1)]
set_option maxRecDepth 100000 in
theorem pgDk181_0 : ((pgD181.drop 0).take 60).all (fun q => decide (decode prog_9_method_18_code q.1 = .ok q.2)) = true := by decide +kernel
def pgD182 : List (Nat × Instr × Nat) := [(0, .aload_n 0, 1), (1, .getfield 12, 3), (4, .aload_n 0, 1), (5, .getfield 99, 3), (8, .invokevirtual 102, 3), (11, .ifCond .ne 26, 3), (14, .aload_n 0, 1), (15, .getfield 22, 3), (18, .iconst 0, 1), (19, .aload_n 0, 1), (20, .getfield 12, 3), (23, .aload_n 0, 1), (24, .getfield 99, 3), (27, .invokevirtual 105, 3), (30, .iastore, 1), (31, .aload_n 0, 1), (32, .iconst 1, 1), (33, .putfield 25, 3), (36, .return_, 1), (37, .aload_n 0, 1), (38, .aload_n 0, 1), (39, .getfield 12, 3), (42, .aload_n 0, 1), (43, .getfield 99, 3), (46, .invokevirtual 108, 3), (49, .aload_n 0, 1), (50, .getfield 22, 3), (53, .arraylength, 1), (54, .invokestatic 111, 3), (57, .putfield 25, 3), (60, .iconst 0, 1), (61, .istore_n 1, 1), (62, .iload_n 1, 1), (63, .aload_n 0, 1), (64, .getfield 25, 3), (67, .if_icmp .ge 34, 3), (70, .aload_n 0, 1), (71, .getfield 22, 3), (74, .iload_n 1, 1), (75, .aload_n 0, 1), (76, .getfield 12, 3), (79, .aload_n 0, 1), (80, .getfield 12, 3), (83, .aload_n 0, 1), (84, .getfield 99, 3), (87, .iload_n 1, 1), (88, .invokevirtual 117, 3), (91, .invokevirtual 105, 3), (94, .iastore, 1), (95, .iinc 1 1, 3), (98, .goto (-36), 3), (101, .return_, 1)]
set_option maxRecDepth 100000 in
theorem pgDk182_0 : ((pgD182.drop 0).take 60).all (fun q => decide (decode prog_9_method_6_code q.1 = .ok q.2)) = true := by decide +kernel
def pgD183 : List (Nat × Instr × Nat) := [(0, .aload_n 2, 1), (1, .iconst 0, 1), (2, .aload_n 0, 1), (3, .iload_n 1, 1), (4, .invokevirtual 65, 3), (7, .i2l, 1), (8, .lastore, 1), (9, .goto 6, 3), (12, .astore_n 3, 1), (13, .iconst 1, 1), (14, .ireturn, 1), (15, .iconst 0, 1), (16, .ireturn, 1)]
set_option maxRecDepth 100000 in
theorem pgDk183_0 : ((pgD183.drop 0).take 60).all (fun q => decide (decode method_19_code q.1 = .ok q.2)) = true := by decide +kernel
def pgD184 : List (Nat × Instr × Nat) := [(0, .aload_n 0, 1), (1, .getfield 59, 3), (4, .iload_n 1, 1), (5, .invokevirtual 160, 3), (8, .invokestatic 67, 3), (11, .aload_n 0, 1), (12, .getfield 59, 3), (15, .iload_n 1, 1), (16, .invokevirtual 163, 3), (19, .ireturn, 1)]
set_option maxRecDepth 100000 in
theorem pgDk184_0 : ((pgD184.drop 0).take 60).all (fun q => decide (decode prog_1_method_18_code q.1 = .ok q.2)) = true := by decide +kernel
def pgD185 : List (Nat × Instr × Nat) := [(0, .aload_n 0, 1), (1, .getfield 25, 3), (4, .iconst (-1), 1), (5, .if_icmp .eq 20, 3), (8, .iload_n 1, 1), (9, .iconst (-1), 1), (10, .if_icmp .lt 15, 3), (13, .iload_n 1, 1), (14, .aload_n 0, 1), (15, .getfield 25, 3), (18, .if_icmp .ge 7, 3), (21, .iconst 1, 1), (22, .goto 4, 3), (25, .iconst 0, 1), (26, .ireturn, 1)]
set_option maxRecDepth 100000 in
theorem pgDk185_0 : ((pgD185.drop 0).take 60).all (fun q => decide (decode prog_9_method_2_code q.1 = .ok q.2)) = true := by decide +kernel
def pgD186 : List (Nat × Instr × Nat) := [(0, .iload_n 1, 1), (1, .iconst (-1), 1), (2, .if_icmp .ne 10, 3), (5, .aload_n 0, 1), (6, .getfield 25, 3), (9, .goto 9, 3), (12, .aload_n 0, 1), (13, .getfield 22, 3), (16, .iload_n 1, 1), (17, .iaload, 1), (18, .ireturn, 1)]
set_option maxRecDepth 100000 in
theorem pgDk186_0 : ((pgD186.drop 0).take 60).all (fun q => decide (decode prog_9_method_3_code q.1 = .ok q.2)) = true := by decide +kernel
def pgD187 : List (Nat × Instr × Nat) := [(0, .aload_n 0, 1), (1, .invokespecial 1, 3), (4, .aload_n 0, 1), (5, .bipush 40, 2), (7, .newarray .int, 2), (9, .putfield 7, 3), (12, .aload_n 0, 1), (13, .bipush 40, 2), (15, .newarray .int, 2), (17, .putfield 13, 3), (20, .aload_n 0, 1), (21, .bipush 40, 2), (23, .newarray .int, 2), (25, .putfield 16, 3), (28, .aload_n 0, 1), (29, .bipush 6, 2), (31, .newarray .int, 2), (33, .putfield 19, 3), (36, .aload_n 0, 1), (37, .bipush 6, 2), (39, .newarray .int, 2), (41, .putfield 22, 3), (44, .aload_n 0, 1), (45, .bipush 18, 2), (47, .newarray .int, 2), (49, .putfield 25, 3), (52, .aload_n 0, 1), (53, .bipush 18, 2), (55, .newarray .boolean, 2), (57, .putfield 28, 3), (60, .aload_n 0, 1), (61, .bipush 18, 2), (63, .newarray .int, 2), (65, .putfield 32, 3), (68, .aload_n 0, 1), (69, .bipush 54, 2), (71, .newarray .int, 2), (73, .putfield 35, 3), (76, .aload_n 0, 1), (77, .sipush 200, 3), (80, .newarray .int, 2), (82, .putfield 38, 3), (85, .aload_n 0, 1), (86, .sipush 200, 3), (89, .newarray .int, 2), (91, .putfield 41, 3), (94, .aload_n 0, 1), (95, .sipush 200, 3), (98, .newarray .int, 2), (100, .putfield 44, 3), (103, .aload_n 0, 1), (104, .sipush 200, 3), (107, .newarray .int, 2), (109, .putfield 47, 3), (112, .aload_n 0, 1), (113, .bipush 20, 2), (115, .newarray .int, 2), (117, .putfield 50, 3), (120, .aload_n 0, 1), (121, .bipush 20, 2), (123, .newarray .int, 2), (125, .putfield 53, 3), (128, .aload_n 0, 1), (129, .bipush 20, 2), (131, .newarray .int, 2), (133, .putfield 56, 3), (136, .aload_n 0, 1), (137, .bipush 20, 2), (139, .newarray .int, 2), (141, .putfield 59, 3), (144, .aload_n 0, 1), (145, .sipush 160, 3), (148, .newarray .int, 2), (150, .putfield 62, 3), (153, .aload_n 0, 1), (154, .ldc 65, 2), (156, .newarray .int, 2), (158, .putfield 66, 3), (161, .aload_n 0, 1), (162, .ldc 69, 2), (164, .newarray .int, 2), (166, .putfield 70, 3), (169, .aload_n 0, 1), (170, .ldc 69, 2), (172, .newarray .int, 2), (174, .putfield 73, 3), (177, .aload_n 0, 1), (178, .ldc 69, 2), (180, .newarray .int, 2), (182, .putfield 76, 3), (185, .aload_n 0, 1), (186, .sipush 4000, 3), (189, .newarray .int, 2), (191, .putfield 79, 3), (194, .aload_n 0, 1), (195, .sipush 4000, 3), (198, .newarray .int, 2), (200, .putfield 82, 3), (203, .aload_n 0, 1), (204, .sipush 4000, 3), (207, .newarray .int, 2), (209, .putfield 85, 3), (212, .aload_n 0, 1), (213, .sipush 4000, 3), (216, .newarray .int, 2), (218, .putfield 88, 3), (221, .aload_n 0, 1), (222, .sipush 4000, 3), (225, .newarray .int, 2), (227, .putfield 91, 3), (230, .aload_n 0, 1), (231, .sipush 4000, 3), (234, .newarray .int, 2), (236, .putfield 94, 3), (239, .aload_n 0, 1), (240, .sipush 16000, 3), (243, .newarray .int, 2), (245, .putfield 97, 3), (248, .aload_n 0, 1), (249, .bipush 40, 2), (251, .newarray .int, 2), (253, .putfield 100, 3), (256, .aload_n 0, 1), (257, .bipush 60, 2), (259, .newarray .int, 2), (261, .putfield 103, 3), (264, .aload_n 0, 1), (265, .bipush 60, 2), (267, .newarray .int, 2), (269, .putfield 106, 3), (272, .aload_n 0, 1), (273, .bipush 60, 2), (275, .newarray .int, 2), (277, .putfield 109, 3), (280, .aload_n 0, 1), (281, .bipush 60, 2), (283, .newarray .int, 2), (285, .putfield 112, 3), (288, .aload_n 0, 1), (289, .sipush 480, 3), (292, .newarray .int, 2), (294, .putfield 115, 3), (297, .aload_n 0, 1), (298, .bipush 60, 2), (300, .newarray .int, 2), (302, .putfield 118, 3), (305, .aload_n 0, 1), (306, .sipush 700, 3), (309, .newarray .int, 2), (311, .putfield 121, 3), (314, .aload_n 0, 1), (315, .sipush 700, 3), (318, .newarray .int, 2), (320, .putfield 124, 3), (323, .aload_n 0, 1), (324, .sipush 4000, 3), (327, .newarray .int, 2), (329, .putfield 127, 3), (332, .aload_n 0, 1), (333, .sipush 4000, 3), (336, .newarray .int, 2), (338, .putfield 130, 3), (341, .aload_n 0, 1), (342, .sipush 400, 3), (345, .newarray .int, 2), (347, .putfield 133, 3), (350, .aload_n 0, 1), (351, .sipush 6000, 3), (354, .newarray .int, 2), (356, .putfield 136, 3), (359, .aload_n 0, 1), (360, .sipush 6000, 3), (363, .newarray .int, 2), (365, .putfield 139, 3), (368, .aload_n 0, 1), (369, .sipush 6000, 3), (372, .newarray .int, 2), (374, .putfield 142, 3), (377, .aload_n 0, 1), (378, .sipush 6000, 3), (381, .newarray .int, 2), (383, .putfield 145, 3), (386, .aload_n 0, 1), (387, .sipush 6000, 3), (390, .newarray .int, 2), (392, .putfield 148, 3), (395, .aload_n 0, 1), (396, .sipush 6000, 3), (399, .newarray .int, 2), (401, .putfield 151, 3), (404, .aload_n 0, 1), (405, .sipush 4000, 3), (408, .newarray .int, 2), (410, .putfield 154, 3), (413, .aload_n 0, 1), (414, .sipush 4000, 3), (417, .newarray .int, 2), (419, .putfield 157, 3), (422, .aload_n 0, 1), (423, .sipush 2000, 3), (426, .newarray .int, 2), (428, .putfield 160, 3), (431, .aload_n 0, 1), (432, .sipush 2000, 3), (435, .newarray .int, 2), (437, .putfield 163, 3), (440, .aload_n 0, 1), (441, .sipush 2000, 3), (444, .newarray .int, 2), (446, .putfield 166, 3), (449, .aload_n 0, 1), (450, .sipush 2000, 3), (453, .newarray .int, 2), (455, .putfield 169, 3), (458, .aload_n 0, 1), (459, .sipush 2000, 3), (462, .newarray .int, 2), (464, .putfield 172, 3), (467, .aload_n 0, 1), (468, .sipush 2000, 3), (471, .newarray .int, 2), (473, .putfield 175, 3), (476, .iconst 0, 1), (477, .istore_n 1, 1), (478, .iload_n 1, 1), (479, .bipush 10, 2), (481, .if_icmp .ge 25, 3), (484, .aload_n 0, 1), (485, .getfield 7, 3), (488, .iload_n 1, 1), (489, .iload_n 1, 1), (490, .iconst 2, 1), (491, .if_icmp .ge 7, 3), (494, .iload_n 1, 1), (495, .goto 4, 3), (498, .iconst 2, 1), (499, .iastore, 1), (500, .iinc 1 1, 3), (503, .goto (-25), 3), (506, .aload_n 0, 1), (507, .bipush 10, 2), (509, .putfield 178, 3), (512, .return_, 1)]
set_option maxRecDepth 100000 in
theorem pgDk187_0 : ((pgD187.drop 0).take 60).all (fun q => decide (decode prog_14_method_1_code q.1 = .ok q.2)) = true := by decide +kernel
set_option maxRecDepth 100000 in
theorem pgDk187_60 : ((pgD187.drop 60).take 60).all (fun q => decide (decode prog_14_method_1_code q.1 = .ok q.2)) = true := by decide +kernel
set_option maxRecDepth 100000 in
theorem pgDk187_120 : ((pgD187.drop 120).take 60).all (fun q => decide (decode prog_14_method_1_code q.1 = .ok q.2)) = true := by decide +kernel
set_option maxRecDepth 100000 in
theorem pgDk187_180 : ((pgD187.drop 180).take 60).all (fun q => decide (decode prog_14_method_1_code q.1 = .ok q.2)) = true := by decide +kernel
set_option maxRecDepth 100000 in
theorem pgDk187_240 : ((pgD187.drop 240).take 60).all (fun q => decide (decode prog_14_method_1_code q.1 = .ok q.2)) = true := by decide +kernel
def pgD188 : List (Nat × Instr × Nat) := [(0, .aload_n 0, 1), (1, .getfield 182, 3), (4, .ireturn, 1)]
set_option maxRecDepth 100000 in
theorem pgDk188_0 : ((pgD188.drop 0).take 60).all (fun q => decide (decode prog_14_method_2_code q.1 = .ok q.2)) = true := by decide +kernel
def pgD189 : List (Nat × Instr × Nat) := [(0, .aload_n 0, 1), (1, .aload_n 0, 1), (2, .iload_n 1, 1), (3, .invokevirtual 189, 3), (6, .ifCond .eq 7, 3), (9, .iconst 0, 1), (10, .goto 4, 3), (13, .iconst 1, 1), (14, .putfield 182, 3), (17, .aload_n 0, 1), (18, .getfield 182, 3), (21, .ifCond .eq 5, 3), (24, .iconst 0, 1), (25, .ireturn, 1), (26, .aload_n 0, 1), (27, .iconst 3, 1), (28, .iload_n 1, 1), (29, .iconst 0, 1), (30, .invokevirtual 193, 3), (33, .istore_n 2, 1), (34, .aload_n 0, 1), (35, .iload_n 2, 1), (36, .iconst (-1), 1), (37, .if_icmp .ne 7, 3), (40, .iconst 2, 1), (41, .goto 4, 3), (44, .iconst 0, 1), (45, .putfield 182, 3), (48, .iload_n 2, 1), (49, .iconst (-1), 1), (50, .if_icmp .ne 7, 3), (53, .iconst 0, 1), (54, .goto 4, 3), (57, .iload_n 2, 1), (58, .ireturn, 1)]
set_option maxRecDepth 100000 in
theorem pgDk189_0 : ((pgD189.drop 0).take 60).all (fun q => decide (decode prog_14_method_6_code q.1 = .ok q.2)) = true := by decide +kernel
def pgD190 : List (Nat × Instr × Nat) := [(0, .iload_n 1, 1), (1, .ifCond .lt 15, 3), (4, .iload_n 1, 1), (5, .aload_n 0, 1), (6, .getfield 178, 3), (9, .if_icmp .ge 7, 3), (12, .iconst 1, 1), (13, .goto 4, 3), (16, .iconst 0, 1), (17, .ireturn, 1)]
set_option maxRecDepth 100000 in
theorem pgDk190_0 : ((pgD190.drop 0).take 60).all (fun q => decide (decode prog_14_method_3_code q.1 = .ok q.2)) = true := by decide +kernel
def pgD191 : List (Nat × Instr × Nat) := [(0, .aload_n 0, 1), (1, .iload_n 1, 1), (2, .iload_n 2, 1), (3, .iload_n 3, 1), (4, .invokevirtual 185, 3), (7, .istore 4, 2), (9, .iload 4, 2), (11, .iconst (-1), 1), (12, .if_icmp .ne 12, 3), (15, .aload_n 0, 1), (16, .getfield 178, 3), (19, .bipush 40, 2), (21, .if_icmp .ne 6, 3), (24, .iload 4, 2), (26, .ireturn, 1), (27, .aload_n 0, 1), (28, .getfield 7, 3), (31, .aload_n 0, 1), (32, .getfield 178, 3), (35, .iload_n 1, 1), (36, .iastore, 1), (37, .aload_n 0, 1), (38, .getfield 13, 3), (41, .aload_n 0, 1), (42, .getfield 178, 3), (45, .iload_n 2, 1), (46, .iastore, 1), (47, .aload_n 0, 1), (48, .getfield 16, 3), (51, .aload_n 0, 1), (52, .getfield 178, 3), (55, .iload_n 3, 1), (56, .iastore, 1), (57, .aload_n 0, 1), (58, .dup, 1), (59, .getfield 178, 3), (62, .iconst 1, 1), (63, .iadd, 1), (64, .putfield 178, 3), (67, .aload_n 0, 1), (68, .getfield 178, 3), (71, .iconst 1, 1), (72, .isub, 1), (73, .ireturn, 1)]
set_option maxRecDepth 100000 in
theorem pgDk191_0 : ((pgD191.drop 0).take 60).all (fun q => decide (decode prog_14_method_5_code q.1 = .ok q.2)) = true := by decide +kernel
def pgD192 : List (Nat × Instr × Nat) := [(0, .bipush 10, 2), (2, .istore 4, 2), (4, .iload 4, 2), (6, .aload_n 0, 1), (7, .getfield 178, 3), (10, .if_icmp .ge 45, 3), (13, .aload_n 0, 1), (14, .getfield 7, 3), (17, .iload 4, 2), (19, .iaload, 1), (20, .iload_n 1, 1), (21, .if_icmp .ne 28, 3), (24, .aload_n 0, 1), (25, .getfield 13, 3), (28, .iload 4, 2), (30, .iaload, 1), (31, .iload_n 2, 1), (32, .if_icmp .ne 17, 3), (35, .aload_n 0, 1), (36, .getfield 16, 3), (39, .iload 4, 2), (41, .iaload, 1), (42, .iload_n 3, 1), (43, .if_icmp .ne 6, 3), (46, .iload 4, 2), (48, .ireturn, 1), (49, .iinc 4 1, 3), (52, .goto (-48), 3), (55, .iconst (-1), 1), (56, .ireturn, 1)]
set_option maxRecDepth 100000 in
theorem pgDk192_0 : ((pgD192.drop 0).take 60).all (fun q => decide (decode prog_14_method_4_code q.1 = .ok q.2)) = true := by decide +kernel
def pgD193 : List (Nat × Instr × Nat) := [(0, .aload_n 0, 1), (1, .aload_n 0, 1), (2, .iload_n 1, 1), (3, .invokevirtual 189, 3), (6, .ifCond .eq 15, 3), (9, .aload_n 0, 1), (10, .iload_n 2, 1), (11, .invokevirtual 189, 3), (14, .ifCond .eq 7, 3), (17, .iconst 0, 1), (18, .goto 4, 3), (21, .iconst 1, 1), (22, .putfield 182, 3), (25, .aload_n 0, 1), (26, .getfield 182, 3), (29, .ifCond .eq 5, 3), (32, .iconst 0, 1), (33, .ireturn, 1), (34, .aload_n 0, 1), (35, .iconst 4, 1), (36, .iload_n 1, 1), (37, .iload_n 2, 1), (38, .invokevirtual 193, 3), (41, .istore_n 3, 1), (42, .aload_n 0, 1), (43, .iload_n 3, 1), (44, .iconst (-1), 1), (45, .if_icmp .ne 7, 3), (48, .iconst 2, 1), (49, .goto 4, 3), (52, .iconst 0, 1), (53, .putfield 182, 3), (56, .iload_n 3, 1), (57, .iconst (-1), 1), (58, .if_icmp .ne 7, 3), (61, .iconst 0, 1), (62, .goto 4, 3), (65, .iload_n 3, 1), (66, .ireturn, 1)]
set_option maxRecDepth 100000 in
theorem pgDk193_0 : ((pgD193.drop 0).take 60).all (fun q => decide (decode prog_14_method_7_code q.1 = .ok q.2)) = true := by decide +kernel
def pgD194 : List (Nat × Instr × Nat) := [(0, .aload_n 0, 1), (1, .iload_n 1, 1), (2, .iconst (-1), 1), (3, .if_icmp .eq 11, 3), (6, .aload_n 0, 1), (7, .iload_n 1, 1), (8, .invokevirtual 199, 3), (11, .ifCond .eq 20, 3), (14, .aload_n 0, 1), (15, .getfield 196, 3), (18, .bipush 6, 2), (20, .if_icmp .ne 7, 3), (23, .iconst 2, 1), (24, .goto 8, 3), (27, .iconst 0, 1), (28, .goto 4, 3), (31, .iconst 1, 1), (32, .putfield 182, 3), (35, .aload_n 0, 1), (36, .getfield 182, 3), (39, .ifCond .eq 5, 3), (42, .iconst 0, 1), (43, .ireturn, 1), (44, .aload_n 0, 1), (45, .getfield 19, 3), (48, .aload_n 0, 1), (49, .getfield 196, 3), (52, .iload_n 1, 1), (53, .iastore, 1), (54, .aload_n 0, 1), (55, .dup, 1), (56, .getfield 196, 3), (59, .iconst 1, 1), (60, .iadd, 1), (61, .putfield 196, 3), (64, .aload_n 0, 1), (65, .getfield 196, 3), (68, .iconst 1, 1), (69, .isub, 1), (70, .ireturn, 1)]
set_option maxRecDepth 100000 in
theorem pgDk194_0 : ((pgD194.drop 0).take 60).all (fun q => decide (decode prog_14_method_9_code q.1 = .ok q.2)) = true := by decide +kernel
def pgD195 : List (Nat × Instr × Nat) := [(0, .iload_n 1, 1), (1, .ifCond .lt 15, 3), (4, .iload_n 1, 1), (5, .aload_n 0, 1), (6, .getfield 196, 3), (9, .if_icmp .ge 7, 3), (12, .iconst 1, 1), (13, .goto 4, 3), (16, .iconst 0, 1), (17, .ireturn, 1)]
set_option maxRecDepth 100000 in
theorem pgDk195_0 : ((pgD195.drop 0).take 60).all (fun q => decide (decode prog_14_method_8_code q.1 = .ok q.2)) = true := by decide +kernel
def pgD196 : List (Nat × Instr × Nat) := [(0, .aload_n 0, 1), (1, .iload_n 1, 1), (2, .invokevirtual 199, 3), (5, .ifCond .eq 24, 3), (8, .aload_n 0, 1), (9, .iload_n 2, 1), (10, .invokevirtual 189, 3), (13, .ifCond .eq 16, 3), (16, .aload_n 0, 1), (17, .iload_n 2, 1), (18, .invokevirtual 202, 3), (21, .iconst 1, 1), (22, .if_icmp .ne 7, 3), (25, .iconst 1, 1), (26, .goto 4, 3), (29, .iconst 0, 1), (30, .istore_n 3, 1), (31, .aload_n 0, 1), (32, .iload_n 3, 1), (33, .ifCond .ne 7, 3), (36, .iconst 1, 1), (37, .goto 26, 3), (40, .aload_n 0, 1), (41, .getfield 22, 3), (44, .iload_n 1, 1), (45, .iaload, 1), (46, .iconst 3, 1), (47, .if_icmp .eq 11, 3), (50, .aload_n 0, 1), (51, .iload_n 1, 1), (52, .invokevirtual 206, 3), (55, .ifCond .eq 7, 3), (58, .iconst 2, 1), (59, .goto 4, 3), (62, .iconst 0, 1), (63, .putfield 182, 3), (66, .aload_n 0, 1), (67, .getfield 182, 3), (70, .ifCond .eq 5, 3), (73, .iconst 0, 1), (74, .ireturn, 1), (75, .aload_n 0, 1), (76, .getfield 25, 3), (79, .iconst 3, 1), (80, .iload_n 1, 1), (81, .imul, 1), (82, .aload_n 0, 1), (83, .getfield 22, 3), (86, .iload_n 1, 1), (87, .iaload, 1), (88, .iadd, 1), (89, .iload_n 2, 1), (90, .iastore, 1), (91, .aload_n 0, 1), (92, .getfield 22, 3), (95, .iload_n 1, 1), (96, .dup2, 1), (97, .iaload, 1), (98, .iconst 1, 1), (99, .iadd, 1), (100, .iastore, 1), (101, .aload_n 0, 1), (102, .getfield 22, 3), (105, .iload_n 1, 1), (106, .iaload, 1), (107, .iconst 1, 1), (108, .isub, 1), (109, .ireturn, 1)]
set_option maxRecDepth 100000 in
theorem pgDk196_0 : ((pgD196.drop 0).take 60).all (fun q => decide (decode prog_14_method_12_code q.1 = .ok q.2)) = true := by decide +kernel
set_option maxRecDepth 100000 in
theorem pgDk196_60 : ((pgD196.drop 60).take 60).all (fun q => decide (decode prog_14_method_12_code q.1 = .ok q.2)) = true := by decide +kernel
def pgD197 : List (Nat × Instr × Nat) := [(0, .iconst 0, 1), (1, .istore_n 2, 1), (2, .iload_n 2, 1), (3, .iload_n 1, 1), (4, .if_icmp .gt 106, 3), (7, .aload_n 0, 1), (8, .getfield 7, 3), (11, .iload_n 2, 1), (12, .iaload, 1), (13, .iconst 3, 1), (14, .if_icmp .ne 23, 3), (17, .aload_n 0, 1), (18, .getfield 91, 3), (21, .iload_n 2, 1), (22, .aload_n 0, 1), (23, .getfield 91, 3), (26, .aload_n 0, 1), (27, .getfield 13, 3), (30, .iload_n 2, 1), (31, .iaload, 1), (32, .iaload, 1), (33, .iastore, 1), (34, .goto 70, 3), (37, .aload_n 0, 1), (38, .getfield 7, 3), (41, .iload_n 2, 1), (42, .iaload, 1), (43, .iconst 4, 1), (44, .if_icmp .ne 35, 3), (47, .aload_n 0, 1), (48, .getfield 91, 3), (51, .iload_n 2, 1), (52, .aload_n 0, 1), (53, .getfield 91, 3), (56, .aload_n 0, 1), (57, .getfield 13, 3), (60, .iload_n 2, 1), (61, .iaload, 1), (62, .iaload, 1), (63, .aload_n 0, 1), (64, .getfield 91, 3), (67, .aload_n 0, 1), (68, .getfield 16, 3), (71, .iload_n 2, 1), (72, .iaload, 1), (73, .iaload, 1), (74, .ior, 1), (75, .iastore, 1), (76, .goto 28, 3), (79, .aload_n 0, 1), (80, .getfield 91, 3), (83, .iload_n 2, 1), (84, .aload_n 0, 1), (85, .getfield 7, 3), (88, .iload_n 2, 1), (89, .iaload, 1), (90, .iconst 2, 1), (91, .if_icmp .ne 11, 3), (94, .iconst 1, 1), (95, .iload_n 2, 1), (96, .iconst 2, 1), (97, .isub, 1), (98, .ishl, 1), (99, .goto 4, 3), (102, .iconst 0, 1), (103, .iastore, 1), (104, .iinc 2 1, 3), (107, .goto (-105), 3), (110, .aload_n 0, 1), (111, .getfield 91, 3), (114, .iload_n 1, 1), (115, .iaload, 1), (116, .ireturn, 1)]
set_option maxRecDepth 100000 in
theorem pgDk197_0 : ((pgD197.drop 0).take 60).all (fun q => decide (decode prog_14_method_10_code q.1 = .ok q.2)) = true := by decide +kernel
set_option maxRecDepth 100000 in
theorem pgDk197_60 : ((pgD197.drop 60).take 60).all (fun q => decide (decode prog_14_method_10_code q.1 = .ok q.2)) = true := by decide +kernel
def pgD198 : List (Nat × Instr × Nat) := [(0, .aload_n 0, 1), (1, .getfield 28, 3), (4, .iconst 3, 1), (5, .iload_n 1, 1), (6, .imul, 1), (7, .baload, 1), (8, .ifCond .ne 29, 3), (11, .aload_n 0, 1), (12, .getfield 28, 3), (15, .iconst 3, 1), (16, .iload_n 1, 1), (17, .imul, 1), (18, .iconst 1, 1), (19, .iadd, 1), (20, .baload, 1), (21, .ifCond .ne 16, 3), (24, .aload_n 0, 1), (25, .getfield 28, 3), (28, .iconst 3, 1), (29, .iload_n 1, 1), (30, .imul, 1), (31, .iconst 2, 1), (32, .iadd, 1), (33, .baload, 1), (34, .ifCond .eq 7, 3), (37, .iconst 1, 1), (38, .goto 4, 3), (41, .iconst 0, 1), (42, .ireturn, 1)]
set_option maxRecDepth 100000 in
theorem pgDk198_0 : ((pgD198.drop 0).take 60).all (fun q => decide (decode prog_14_method_11_code q.1 = .ok q.2)) = true := by decide +kernel
def pgD199 : List (Nat × Instr × Nat) := [(0, .aload_n 0, 1), (1, .aload_n 0, 1), (2, .iload_n 1, 1), (3, .invokevirtual 199, 3), (6, .ifCond .eq 15, 3), (9, .aload_n 0, 1), (10, .iload_n 2, 1), (11, .invokevirtual 189, 3), (14, .ifCond .eq 7, 3), (17, .iconst 0, 1), (18, .goto 4, 3), (21, .iconst 1, 1), (22, .putfield 182, 3), (25, .aload_n 0, 1), (26, .getfield 182, 3), (29, .ifCond .eq 5, 3), (32, .iconst 0, 1), (33, .ireturn, 1), (34, .iload_n 1, 1), (35, .istore_n 3, 1), (36, .iload_n 2, 1), (37, .istore 4, 2), (39, .aload_n 0, 1), (40, .getfield 7, 3), (43, .iload 4, 2), (45, .iaload, 1), (46, .iconst 3, 1), (47, .if_icmp .ne 53, 3), (50, .aload_n 0, 1), (51, .getfield 28, 3), (54, .iconst 3, 1), (55, .iload_n 3, 1), (56, .imul, 1), (57, .iconst 2, 1), (58, .iadd, 1), (59, .baload, 1), (60, .ifCond .eq 40, 3), (63, .aload_n 0, 1), (64, .getfield 32, 3), (67, .iconst 3, 1), (68, .iload_n 3, 1), (69, .imul, 1), (70, .iconst 2, 1), (71, .iadd, 1), (72, .iaload, 1), (73, .iconst (-1), 1), (74, .if_icmp .eq 26, 3), (77, .aload_n 0, 1), (78, .getfield 32, 3), (81, .iconst 3, 1), (82, .iload_n 3, 1), (83, .imul, 1), (84, .iconst 2, 1), (85, .iadd, 1), (86, .iaload, 1), (87, .istore_n 3, 1), (88, .aload_n 0, 1), (89, .getfield 13, 3), (92, .iload 4, 2), (94, .iaload, 1), (95, .istore 4, 2), (97, .goto (-58), 3), (100, .aload_n 0, 1), (101, .getfield 7, 3), (104, .iload 4, 2), (106, .iaload, 1), (107, .istore 5, 2), (109, .iload 5, 2), (111, .iconst 3, 1), (112, .if_icmp .ne 16, 3), (115, .aload_n 0, 1), (116, .getfield 28, 3), (119, .iconst 3, 1), (120, .iload_n 3, 1), (121, .imul, 1), (122, .iconst 2, 1), (123, .iadd, 1), (124, .baload, 1), (125, .goto 28, 3), (128, .iload 5, 2), (130, .iconst 2, 1), (131, .if_icmp .ge 21, 3), (134, .aload_n 0, 1), (135, .getfield 28, 3), (138, .iconst 3, 1), (139, .iload_n 3, 1), (140, .imul, 1), (141, .iload 5, 2), (143, .iadd, 1), (144, .baload, 1), (145, .ifCond .eq 7, 3), (148, .iconst 1, 1), (149, .goto 4, 3), (152, .iconst 0, 1), (153, .ireturn, 1)]
set_option maxRecDepth 100000 in
theorem pgDk199_0 : ((pgD199.drop 0).take 60).all (fun q => decide (decode prog_14_method_14_code q.1 = .ok q.2)) = true := by decide +kernel
set_option maxRecDepth 100000 in
theorem pgDk199_60 : ((pgD199.drop 60).take 60).all (fun q => decide (decode prog_14_method_14_code q.1 = .ok q.2)) = true := by decide +kernel
def pgD200 : List (Nat × Instr × Nat) := [(0, .aload_n 0, 1), (1, .aload_n 0, 1), (2, .getfield 209, 3), (5, .sipush 200, 3), (8, .if_icmp .ne 7, 3), (11, .iconst 1, 1), (12, .goto 4, 3), (15, .iconst 0, 1), (16, .putfield 182, 3), (19, .aload_n 0, 1), (20, .getfield 182, 3), (23, .ifCond .ne 14, 3), (26, .aload_n 0, 1), (27, .iconst 0, 1), (28, .iload_n 1, 1), (29, .iconst 0, 1), (30, .iconst 1, 1), (31, .invokevirtual 212, 3), (34, .goto 4, 3), (37, .iconst 0, 1), (38, .ireturn, 1)]
set_option maxRecDepth 100000 in
theorem pgDk200_0 : ((pgD200.drop 0).take 60).all (fun q => decide (decode prog_14_method_18_code q.1 = .ok q.2)) = true := by decide +kernel
def pgD201 : List (Nat × Instr × Nat) := [(0, .aload_n 0, 1), (1, .getfield 38, 3), (4, .aload_n 0, 1), (5, .getfield 209, 3), (8, .iload_n 1, 1), (9, .iastore, 1), (10, .aload_n 0, 1), (11, .getfield 41, 3), (14, .aload_n 0, 1), (15, .getfield 209, 3), (18, .iload_n 2, 1), (19, .iastore, 1), (20, .aload_n 0, 1), (21, .getfield 44, 3), (24, .aload_n 0, 1), (25, .getfield 209, 3), (28, .iload_n 3, 1), (29, .iastore, 1), (30, .aload_n 0, 1), (31, .getfield 47, 3), (34, .aload_n 0, 1), (35, .getfield 209, 3), (38, .iload 4, 2), (40, .iastore, 1), (41, .aload_n 0, 1), (42, .dup, 1), (43, .getfield 209, 3), (46, .iconst 1, 1), (47, .iadd, 1), (48, .putfield 209, 3), (51, .aload_n 0, 1), (52, .getfield 209, 3), (55, .iconst 1, 1), (56, .isub, 1), (57, .ireturn, 1)]
set_option maxRecDepth 100000 in
theorem pgDk201_0 : ((pgD201.drop 0).take 60).all (fun q => decide (decode prog_14_method_16_code q.1 = .ok q.2)) = true := by decide +kernel
def pgD202 : List (Nat × Instr × Nat) := [(0, .aload_n 0, 1), (1, .iload_n 1, 1), (2, .ifCond .lt 13, 3), (5, .iload_n 1, 1), (6, .bipush 8, 2), (8, .if_icmp .ge 7, 3), (11, .iconst 1, 1), (12, .goto 4, 3), (15, .iconst 0, 1), (16, .iconst 1, 1), (17, .iload_n 1, 1), (18, .iconst 0, 1), (19, .iconst 1, 1), (20, .invokevirtual 216, 3), (23, .ireturn, 1)]
set_option maxRecDepth 100000 in
theorem pgDk202_0 : ((pgD202.drop 0).take 60).all (fun q => decide (decode prog_14_method_19_code q.1 = .ok q.2)) = true := by decide +kernel
def pgD203 : List (Nat × Instr × Nat) := [(0, .aload_n 0, 1), (1, .iload_n 1, 1), (2, .ifCond .ne 7, 3), (5, .iconst 1, 1), (6, .goto 25, 3), (9, .aload_n 0, 1), (10, .getfield 209, 3), (13, .sipush 200, 3), (16, .if_icmp .eq 10, 3), (19, .iload 5, 2), (21, .bipush 60, 2), (23, .if_icmp .le 7, 3), (26, .iconst 2, 1), (27, .goto 4, 3), (30, .iconst 0, 1), (31, .putfield 182, 3), (34, .aload_n 0, 1), (35, .getfield 182, 3), (38, .ifCond .ne 16, 3), (41, .aload_n 0, 1), (42, .iload_n 2, 1), (43, .iload_n 3, 1), (44, .iload 4, 2), (46, .iload 5, 2), (48, .invokevirtual 212, 3), (51, .goto 4, 3), (54, .iconst 0, 1), (55, .ireturn, 1)]
set_option maxRecDepth 100000 in
theorem pgDk203_0 : ((pgD203.drop 0).take 60).all (fun q => decide (decode prog_14_method_17_code q.1 = .ok q.2)) = true := by decide +kernel
def pgD204 : List (Nat × Instr × Nat) := [(0, .aload_n 0, 1), (1, .iload_n 1, 1), (2, .ifCond .lt 13, 3), (5, .iload_n 1, 1), (6, .bipush 10, 2), (8, .if_icmp .ge 7, 3), (11, .iconst 1, 1), (12, .goto 4, 3), (15, .iconst 0, 1), (16, .iconst 2, 1), (17, .iload_n 1, 1), (18, .iconst 0, 1), (19, .iconst 1, 1), (20, .invokevirtual 216, 3), (23, .ireturn, 1)]
set_option maxRecDepth 100000 in
theorem pgDk204_0 : ((pgD204.drop 0).take 60).all (fun q => decide (decode prog_14_method_20_code q.1 = .ok q.2)) = true := by decide +kernel
def pgD205 : List (Nat × Instr × Nat) := [(0, .aload_n 0, 1), (1, .iload_n 1, 1), (2, .invokevirtual 220, 3), (5, .istore_n 2, 1), (6, .aload_n 0, 1), (7, .iload_n 2, 1), (8, .iconst 3, 1), (9, .iload_n 1, 1), (10, .iconst 0, 1), (11, .iload_n 2, 1), (12, .ifCond .eq 14, 3), (15, .iconst 1, 1), (16, .aload_n 0, 1), (17, .getfield 47, 3), (20, .iload_n 1, 1), (21, .iaload, 1), (22, .iadd, 1), (23, .goto 4, 3), (26, .iconst 1, 1), (27, .invokevirtual 216, 3), (30, .ireturn, 1)]
set_option maxRecDepth 100000 in
theorem pgDk205_0 : ((pgD205.drop 0).take 60).all (fun q => decide (decode prog_14_method_21_code q.1 = .ok q.2)) = true := by decide +kernel
def pgD206 : List (Nat × Instr × Nat) := [(0, .iload_n 1, 1), (1, .ifCond .lt 15, 3), (4, .iload_n 1, 1), (5, .aload_n 0, 1), (6, .getfield 209, 3), (9, .if_icmp .ge 7, 3), (12, .iconst 1, 1), (13, .goto 4, 3), (16, .iconst 0, 1), (17, .ireturn, 1)]
set_option maxRecDepth 100000 in
theorem pgDk206_0 : ((pgD206.drop 0).take 60).all (fun q => decide (decode prog_14_method_15_code q.1 = .ok q.2)) = true := by decide +kernel
def pgD207 : List (Nat × Instr × Nat) := [(0, .aload_n 0, 1), (1, .iload_n 1, 1), (2, .invokevirtual 220, 3), (5, .ifCond .eq 15, 3), (8, .aload_n 0, 1), (9, .iload_n 2, 1), (10, .invokevirtual 220, 3), (13, .ifCond .eq 7, 3), (16, .iconst 1, 1), (17, .goto 4, 3), (20, .iconst 0, 1), (21, .istore_n 3, 1), (22, .aload_n 0, 1), (23, .iload_n 3, 1), (24, .iconst 4, 1), (25, .iload_n 1, 1), (26, .iload_n 2, 1), (27, .iload_n 3, 1), (28, .ifCond .eq 21, 3), (31, .iconst 1, 1), (32, .aload_n 0, 1), (33, .getfield 47, 3), (36, .iload_n 1, 1), (37, .iaload, 1), (38, .iadd, 1), (39, .aload_n 0, 1), (40, .getfield 47, 3), (43, .iload_n 2, 1), (44, .iaload, 1), (45, .iadd, 1), (46, .goto 4, 3), (49, .iconst 1, 1), (50, .invokevirtual 216, 3), (53, .ireturn, 1)]
set_option maxRecDepth 100000 in
theorem pgDk207_0 : ((pgD207.drop 0).take 60).all (fun q => decide (decode prog_14_method_22_code q.1 = .ok q.2)) = true := by decide +kernel
def pgD208 : List (Nat × Instr × Nat) := [(0, .aload_n 0, 1), (1, .aload_n 0, 1), (2, .iload_n 1, 1), (3, .invokevirtual 199, 3), (6, .ifCond .eq 21, 3), (9, .iload_n 2, 1), (10, .ifCond .lt 17, 3), (13, .iload_n 2, 1), (14, .aload_n 0, 1), (15, .getfield 22, 3), (18, .iload_n 1, 1), (19, .iaload, 1), (20, .if_icmp .ge 7, 3), (23, .iconst 1, 1), (24, .goto 4, 3), (27, .iconst 0, 1), (28, .iconst 5, 1), (29, .iload_n 1, 1), (30, .iload_n 2, 1), (31, .iconst 1, 1), (32, .invokevirtual 216, 3), (35, .ireturn, 1)]
set_option maxRecDepth 100000 in
theorem pgDk208_0 : ((pgD208.drop 0).take 60).all (fun q => decide (decode prog_14_method_23_code q.1 = .ok q.2)) = true := by decide +kernel
def pgD209 : List (Nat × Instr × Nat) := [(0, .aload_n 0, 1), (1, .iload_n 1, 1), (2, .ifCond .lt 15, 3), (5, .iload_n 1, 1), (6, .aload_n 0, 1), (7, .getfield 223, 3), (10, .if_icmp .ge 7, 3), (13, .iconst 1, 1), (14, .goto 4, 3), (17, .iconst 0, 1), (18, .bipush 6, 2), (20, .iload_n 1, 1), (21, .iconst 0, 1), (22, .iconst 1, 1), (23, .invokevirtual 216, 3), (26, .ireturn, 1)]
set_option maxRecDepth 100000 in
theorem pgDk209_0 : ((pgD209.drop 0).take 60).all (fun q => decide (decode prog_14_method_24_code q.1 = .ok q.2)) = true := by decide +kernel
def pgD210 : List (Nat × Instr × Nat) := [(0, .aload_n 0, 1), (1, .aload_n 0, 1), (2, .iload_n 1, 1), (3, .invokevirtual 220, 3), (6, .ifCond .ne 7, 3), (9, .iconst 1, 1), (10, .goto 17, 3), (13, .aload_n 0, 1), (14, .getfield 223, 3), (17, .bipush 20, 2), (19, .if_icmp .ne 7, 3), (22, .iconst 2, 1), (23, .goto 4, 3), (26, .iconst 0, 1), (27, .putfield 182, 3), (30, .aload_n 0, 1), (31, .getfield 182, 3), (34, .ifCond .eq 5, 3), (37, .iconst 0, 1), (38, .ireturn, 1), (39, .aload_n 0, 1), (40, .iload_n 1, 1), (41, .invokevirtual 310, 3), (44, .ifCond .eq 10, 3), (47, .aload_n 0, 1), (48, .invokevirtual 313, 3), (51, .ifCond .eq 5, 3), (54, .iconst (-1), 1), (55, .ireturn, 1), (56, .aload_n 0, 1), (57, .iconst (-1), 1), (58, .putfield 292, 3), (61, .aload_n 0, 1), (62, .aload_n 0, 1), (63, .getfield 106, 3), (66, .iconst 0, 1), (67, .iaload, 1), (68, .invokevirtual 317, 3), (71, .aload_n 0, 1), (72, .invokevirtual 320, 3), (75, .iconst 0, 1), (76, .istore_n 2, 1), (77, .iconst 0, 1), (78, .istore_n 3, 1), (79, .iload_n 3, 1), (80, .aload_n 0, 1), (81, .getfield 279, 3), (84, .if_icmp .ge 37, 3), (87, .aload_n 0, 1), (88, .getfield 130, 3), (91, .iload_n 3, 1), (92, .aload_n 0, 1), (93, .aload_n 0, 1), (94, .getfield 130, 3), (97, .iload_n 3, 1), (98, .iaload, 1), (99, .invokevirtual 323, 3), (102, .iastore, 1), (103, .iload_n 2, 1), (104, .aload_n 0, 1), (105, .getfield 130, 3), (108, .iload_n 3, 1), (109, .iaload, 1), (110, .invokestatic 326, 3), (113, .iadd, 1), (114, .istore_n 2, 1), (115, .iinc 3 1, 3), (118, .goto (-39), 3), (121, .aload_n 0, 1), (122, .getfield 286, 3), (125, .ifCond .eq 6, 3), (128, .bipush (-2), 2), (130, .ireturn, 1), (131, .aload_n 0, 1), (132, .getfield 289, 3), (135, .ifCond .eq 6, 3), (138, .bipush (-3), 2), (140, .ireturn, 1), (141, .aload_n 0, 1), (142, .getfield 279, 3), (145, .bipush 8, 2), (147, .if_icmp .gt 16, 3), (150, .iload_n 2, 1), (151, .bipush 8, 2), (153, .if_icmp .gt 10, 3), (156, .aload_n 0, 1), (157, .getfield 282, 3), (160, .ifCond .eq 6, 3), (163, .bipush (-4), 2), (165, .ireturn, 1), (166, .aload_n 0, 1), (167, .getfield 178, 3), (170, .istore_n 3, 1), (171, .aload_n 0, 1), (172, .aload_n 0, 1), (173, .getfield 106, 3), (176, .iconst 0, 1), (177, .iaload, 1), (178, .invokevirtual 329, 3), (181, .istore 4, 2), (183, .iload 4, 2), (185, .iconst (-1), 1), (186, .if_icmp .ne 11, 3), (189, .aload_n 0, 1), (190, .iload_n 3, 1), (191, .putfield 178, 3), (194, .bipush (-4), 2), (196, .ireturn, 1), (197, .aload_n 0, 1), (198, .getfield 223, 3), (201, .istore 5, 2), (203, .aload_n 0, 1), (204, .dup, 1), (205, .getfield 223, 3), (208, .iconst 1, 1), (209, .iadd, 1), (210, .putfield 223, 3), (213, .aload_n 0, 1), (214, .getfield 50, 3), (217, .iload 5, 2), (219, .iload_n 1, 1), (220, .iastore, 1), (221, .aload_n 0, 1), (222, .getfield 53, 3), (225, .iload 5, 2), (227, .iload 4, 2), (229, .iastore, 1), (230, .aload_n 0, 1), (231, .getfield 56, 3), (234, .iload 5, 2), (236, .aload_n 0, 1), (237, .getfield 279, 3), (240, .iastore, 1), (241, .aload_n 0, 1), (242, .getfield 59, 3), (245, .iload 5, 2), (247, .iconst 0, 1), (248, .iastore, 1), (249, .iconst 0, 1), (250, .istore 6, 2), (252, .iload 6, 2), (254, .aload_n 0, 1), (255, .getfield 279, 3), (258, .if_icmp .ge 82, 3), (261, .iconst 0, 1), (262, .istore 7, 2), (264, .iload 7, 2), (266, .aload_n 0, 1), (267, .getfield 196, 3), (270, .if_icmp .ge 64, 3), (273, .aload_n 0, 1), (274, .getfield 130, 3), (277, .iload 6, 2), (279, .iaload, 1), (280, .iload 7, 2), (282, .ishr, 1), (283, .iconst 1, 1), (284, .iand, 1), (285, .ifCond .ne 6, 3), (288, .goto 40, 3), (291, .aload_n 0, 1), (292, .getfield 62, 3), (295, .bipush 8, 2), (297, .iload 5, 2), (299, .imul, 1), (300, .aload_n 0, 1), (301, .getfield 59, 3), (304, .iload 5, 2), (306, .iaload, 1), (307, .iadd, 1), (308, .bipush 8, 2), (310, .iload 7, 2), (312, .imul, 1), (313, .iload 6, 2), (315, .iadd, 1), (316, .iastore, 1), (317, .aload_n 0, 1), (318, .getfield 59, 3), (321, .iload 5, 2), (323, .dup2, 1), (324, .iaload, 1), (325, .iconst 1, 1), (326, .iadd, 1), (327, .iastore, 1), (328, .iinc 7 1, 3), (331, .goto (-67), 3), (334, .iinc 6 1, 3), (337, .goto (-85), 3), (340, .aload_n 0, 1), (341, .iload 5, 2), (343, .invokevirtual 332, 3), (346, .iload 5, 2), (348, .ireturn, 1)]
set_option maxRecDepth 100000 in
theorem pgDk210_0 : ((pgD210.drop 0).take 60).all (fun q => decide (decode prog_14_method_49_code q.1 = .ok q.2)) = true := by decide +kernel
set_option maxRecDepth 100000 in
theorem pgDk210_60 : ((pgD210.drop 60).take 60).all (fun q => decide (decode prog_14_method_49_code q.1 = .ok q.2)) = true := by decide +kernel
set_option maxRecDepth 100000 in
theorem pgDk210_120 : ((pgD210.drop 120).take 60).all (fun q => decide (decode prog_14_method_49_code q.1 = .ok q.2)) = true := by decide +kernel
set_option maxRecDepth 100000 in
theorem pgDk210_180 : ((pgD210.drop 180).take 60).all (fun q => decide (decode prog_14_method_49_code q.1 = .ok q.2)) = true := by decide +kernel
def pgD211 : List (Nat × Instr × Nat) := [(0, .aload_n 0, 1), (1, .iconst 0, 1), (2, .putfield 226, 3), (5, .aload_n 0, 1), (6, .iconst 0, 1), (7, .putfield 246, 3), (10, .aload_n 0, 1), (11, .iload_n 1, 1), (12, .invokevirtual 272, 3), (15, .iconst 0, 1), (16, .istore_n 2, 1), (17, .iload_n 2, 1), (18, .aload_n 0, 1), (19, .getfield 243, 3), (22, .if_icmp .ge 19, 3), (25, .aload_n 0, 1), (26, .iload_n 2, 1), (27, .invokevirtual 276, 3), (30, .ifCond .ne 5, 3), (33, .iconst 0, 1), (34, .ireturn, 1), (35, .iinc 2 1, 3), (38, .goto (-21), 3), (41, .iconst 1, 1), (42, .ireturn, 1)]
set_option maxRecDepth 100000 in
theorem pgDk211_0 : ((pgD211.drop 0).take 60).all (fun q => decide (decode prog_14_method_39_code q.1 = .ok q.2)) = true := by decide +kernel
def pgD212 : List (Nat × Instr × Nat) := [(0, .aload_n 0, 1), (1, .aload_n 0, 1), (2, .getfield 47, 3), (5, .iload_n 1, 1), (6, .iaload, 1), (7, .putfield 243, 3), (10, .aload_n 0, 1), (11, .getfield 103, 3), (14, .iconst 0, 1), (15, .iload_n 1, 1), (16, .iastore, 1), (17, .aload_n 0, 1), (18, .getfield 109, 3), (21, .iconst 0, 1), (22, .iconst (-1), 1), (23, .iastore, 1), (24, .iconst 0, 1), (25, .istore_n 2, 1), (26, .iload_n 2, 1), (27, .aload_n 0, 1), (28, .getfield 243, 3), (31, .if_icmp .ge 160, 3), (34, .aload_n 0, 1), (35, .getfield 103, 3), (38, .iload_n 2, 1), (39, .iaload, 1), (40, .istore_n 3, 1), (41, .aload_n 0, 1), (42, .getfield 106, 3), (45, .iload_n 2, 1), (46, .aload_n 0, 1), (47, .invokevirtual 236, 3), (50, .iastore, 1), (51, .aload_n 0, 1), (52, .getfield 118, 3), (55, .iload_n 2, 1), (56, .iconst 0, 1), (57, .iastore, 1), (58, .aload_n 0, 1), (59, .getfield 38, 3), (62, .iload_n 3, 1), (63, .iaload, 1), (64, .iconst 3, 1), (65, .if_icmp .ne 39, 3), (68, .aload_n 0, 1), (69, .getfield 112, 3), (72, .iload_n 2, 1), (73, .aload_n 0, 1), (74, .invokevirtual 236, 3), (77, .iastore, 1), (78, .aload_n 0, 1), (79, .getfield 103, 3), (82, .iload_n 2, 1), (83, .iconst 1, 1), (84, .iadd, 1), (85, .aload_n 0, 1), (86, .getfield 41, 3), (89, .iload_n 3, 1), (90, .iaload, 1), (91, .iastore, 1), (92, .aload_n 0, 1), (93, .getfield 109, 3), (96, .iload_n 2, 1), (97, .iconst 1, 1), (98, .iadd, 1), (99, .iload_n 2, 1), (100, .iastore, 1), (101, .goto 84, 3), (104, .aload_n 0, 1), (105, .getfield 38, 3), (108, .iload_n 3, 1), (109, .iaload, 1), (110, .iconst 4, 1), (111, .if_icmp .ne 74, 3), (114, .iload_n 2, 1), (115, .iconst 1, 1), (116, .iadd, 1), (117, .aload_n 0, 1), (118, .getfield 47, 3), (121, .aload_n 0, 1), (122, .getfield 41, 3), (125, .iload_n 3, 1), (126, .iaload, 1), (127, .iaload, 1), (128, .iadd, 1), (129, .istore 4, 2), (131, .aload_n 0, 1), (132, .getfield 103, 3), (135, .iload_n 2, 1), (136, .iconst 1, 1), (137, .iadd, 1), (138, .aload_n 0, 1), (139, .getfield 41, 3), (142, .iload_n 3, 1), (143, .iaload, 1), (144, .iastore, 1), (145, .aload_n 0, 1), (146, .getfield 109, 3), (149, .iload_n 2, 1), (150, .iconst 1, 1), (151, .iadd, 1), (152, .aload_n 0, 1), (153, .getfield 109, 3), (156, .iload_n 2, 1), (157, .iaload, 1), (158, .iastore, 1), (159, .aload_n 0, 1), (160, .getfield 103, 3), (163, .iload 4, 2), (165, .aload_n 0, 1), (166, .getfield 44, 3), (169, .iload_n 3, 1), (170, .iaload, 1), (171, .iastore, 1), (172, .aload_n 0, 1), (173, .getfield 109, 3), (176, .iload 4, 2), (178, .aload_n 0, 1), (179, .getfield 109, 3), (182, .iload_n 2, 1), (183, .iaload, 1), (184, .iastore, 1), (185, .iinc 2 1, 3), (188, .goto (-162), 3), (191, .return_, 1)]
set_option maxRecDepth 100000 in
theorem pgDk212_0 : ((pgD212.drop 0).take 60).all (fun q => decide (decode prog_14_method_33_code q.1 = .ok q.2)) = true := by decide +kernel
set_option maxRecDepth 100000 in
theorem pgDk212_60 : ((pgD212.drop 60).take 60).all (fun q => decide (decode prog_14_method_33_code q.1 = .ok q.2)) = true := by decide +kernel
set_option maxRecDepth 100000 in
theorem pgDk212_120 : ((pgD212.drop 120).take 60).all (fun q => decide (decode prog_14_method_33_code q.1 = .ok q.2)) = true := by decide +kernel
def pgD213 : List (Nat × Instr × Nat) := [(0, .aload_n 0, 1), (1, .iconst 2, 1), (2, .iconst 0, 1), (3, .iconst 0, 1), (4, .invokevirtual 229, 3), (7, .ireturn, 1)]
set_option maxRecDepth 100000 in
theorem pgDk213_0 : ((pgD213.drop 0).take 60).all (fun q => decide (decode prog_14_method_26_code q.1 = .ok q.2)) = true := by decide +kernel
def pgD214 : List (Nat × Instr × Nat) := [(0, .aload_n 0, 1), (1, .getfield 79, 3), (4, .aload_n 0, 1), (5, .getfield 226, 3), (8, .iload_n 1, 1), (9, .iastore, 1), (10, .aload_n 0, 1), (11, .getfield 82, 3), (14, .aload_n 0, 1), (15, .getfield 226, 3), (18, .iload_n 2, 1), (19, .iastore, 1), (20, .aload_n 0, 1), (21, .getfield 85, 3), (24, .aload_n 0, 1), (25, .getfield 226, 3), (28, .iload_n 3, 1), (29, .iastore, 1), (30, .aload_n 0, 1), (31, .getfield 88, 3), (34, .aload_n 0, 1), (35, .getfield 226, 3), (38, .aload_n 0, 1), (39, .getfield 226, 3), (42, .iastore, 1), (43, .aload_n 0, 1), (44, .dup, 1), (45, .getfield 226, 3), (48, .iconst 1, 1), (49, .iadd, 1), (50, .putfield 226, 3), (53, .aload_n 0, 1), (54, .getfield 226, 3), (57, .iconst 1, 1), (58, .isub, 1), (59, .ireturn, 1)]
set_option maxRecDepth 100000 in
theorem pgDk214_0 : ((pgD214.drop 0).take 60).all (fun q => decide (decode prog_14_method_25_code q.1 = .ok q.2)) = true := by decide +kernel
def pgD215 : List (Nat × Instr × Nat) := [(0, .aload_n 0, 1), (1, .getfield 103, 3), (4, .iload_n 1, 1), (5, .iaload, 1), (6, .istore_n 2, 1), (7, .aload_n 0, 1), (8, .getfield 106, 3), (11, .iload_n 1, 1), (12, .iaload, 1), (13, .istore_n 3, 1), (14, .aload_n 0, 1), (15, .getfield 38, 3), (18, .iload_n 2, 1), (19, .iaload, 1), (20, .tableswitch 189 0 5 #[40, 53, 69, 104, 128, 166], 40), (60, .aload_n 0, 1), (61, .iload_n 3, 1), (62, .aload_n 0, 1), (63, .iconst 0, 1), (64, .iconst 0, 1), (65, .iconst 0, 1), (66, .invokevirtual 229, 3), (69, .invokevirtual 256, 3), (72, .ireturn, 1), (73, .aload_n 0, 1), (74, .iload_n 3, 1), (75, .aload_n 0, 1), (76, .aload_n 0, 1), (77, .getfield 41, 3), (80, .iload_n 2, 1), (81, .iaload, 1), (82, .invokevirtual 260, 3), (85, .invokevirtual 256, 3), (88, .ireturn, 1), (89, .aload_n 0, 1), (90, .iload_n 1, 1), (91, .aload_n 0, 1), (92, .getfield 41, 3), (95, .iload_n 2, 1), (96, .iaload, 1), (97, .invokevirtual 263, 3), (100, .istore 4, 2), (102, .iload 4, 2), (104, .iconst (-1), 1), (105, .if_icmp .eq 17, 3), (108, .aload_n 0, 1), (109, .iload_n 3, 1), (110, .iload 4, 2), (112, .invokevirtual 256, 3), (115, .ifCond .eq 7, 3), (118, .iconst 1, 1), (119, .goto 4, 3), (122, .iconst 0, 1), (123, .ireturn, 1), (124, .aload_n 0, 1), (125, .iload_n 3, 1), (126, .aload_n 0, 1), (127, .aload_n 0, 1), (128, .getfield 112, 3), (131, .iload_n 1, 1), (132, .iaload, 1), (133, .aload_n 0, 1), (134, .getfield 106, 3), (137, .iload_n 1, 1), (138, .iconst 1, 1), (139, .iadd, 1), (140, .iaload, 1), (141, .invokevirtual 232, 3), (144, .invokevirtual 256, 3), (147, .ireturn, 1), (148, .aload_n 0, 1), (149, .aload_n 0, 1), (150, .getfield 106, 3), (153, .iload_n 1, 1), (154, .iconst 1, 1), (155, .iadd, 1), (156, .iaload, 1), (157, .aload_n 0, 1), (158, .aload_n 0, 1), (159, .getfield 106, 3), (162, .iload_n 1, 1), (163, .iconst 1, 1), (164, .iadd, 1), (165, .aload_n 0, 1), (166, .getfield 47, 3), (169, .aload_n 0, 1), (170, .getfield 41, 3), (173, .iload_n 2, 1), (174, .iaload, 1), (175, .iaload, 1), (176, .iadd, 1), (177, .iaload, 1), (178, .iload_n 3, 1), (179, .invokevirtual 232, 3), (182, .invokevirtual 256, 3), (185, .ireturn, 1), (186, .aload_n 0, 1), (187, .iload_n 3, 1), (188, .aload_n 0, 1), (189, .iload_n 1, 1), (190, .aload_n 0, 1), (191, .getfield 41, 3), (194, .iload_n 2, 1), (195, .iaload, 1), (196, .aload_n 0, 1), (197, .getfield 44, 3), (200, .iload_n 2, 1), (201, .iaload, 1), (202, .invokevirtual 266, 3), (205, .invokevirtual 256, 3), (208, .ireturn, 1), (209, .aload_n 0, 1), (210, .iload_n 3, 1), (211, .aload_n 0, 1), (212, .iload_n 1, 1), (213, .aload_n 0, 1), (214, .getfield 41, 3), (217, .iload_n 2, 1), (218, .iaload, 1), (219, .invokevirtual 269, 3), (222, .invokevirtual 256, 3), (225, .ireturn, 1)]
set_option maxRecDepth 100000 in
theorem pgDk215_0 : ((pgD215.drop 0).take 60).all (fun q => decide (decode prog_14_method_38_code q.1 = .ok q.2)) = true := by decide +kernel
set_option maxRecDepth 100000 in
theorem pgDk215_60 : ((pgD215.drop 60).take 60).all (fun q => decide (decode prog_14_method_38_code q.1 = .ok q.2)) = true := by decide +kernel
set_option maxRecDepth 100000 in
theorem pgDk215_120 : ((pgD215.drop 120).take 60).all (fun q => decide (decode prog_14_method_38_code q.1 = .ok q.2)) = true := by decide +kernel
def pgD216 : List (Nat × Instr × Nat) := [(0, .iconst 0, 1), (1, .istore_n 3, 1), (2, .aload_n 0, 1), (3, .getfield 97, 3), (6, .iload_n 3, 1), (7, .iload_n 1, 1), (8, .iastore, 1), (9, .aload_n 0, 1), (10, .getfield 97, 3), (13, .iload_n 3, 1), (14, .iconst 1, 1), (15, .iadd, 1), (16, .iload_n 2, 1), (17, .iastore, 1), (18, .iinc 3 2, 3), (21, .iload_n 3, 1), (22, .ifCond .le 205, 3), (25, .iinc 3 (-2), 3), (28, .aload_n 0, 1), (29, .aload_n 0, 1), (30, .getfield 97, 3), (33, .iload_n 3, 1), (34, .iaload, 1), (35, .invokevirtual 240, 3), (38, .istore 4, 2), (40, .aload_n 0, 1), (41, .aload_n 0, 1), (42, .getfield 97, 3), (45, .iload_n 3, 1), (46, .iconst 1, 1), (47, .iadd, 1), (48, .iaload, 1), (49, .invokevirtual 240, 3), (52, .istore 5, 2), (54, .iload 4, 2), (56, .iload 5, 2), (58, .if_icmp .ne 6, 3), (61, .goto (-40), 3), (64, .aload_n 0, 1), (65, .getfield 79, 3), (68, .iload 4, 2), (70, .iaload, 1), (71, .iconst 2, 1), (72, .if_icmp .ne 15, 3), (75, .aload_n 0, 1), (76, .getfield 88, 3), (79, .iload 4, 2), (81, .iload 5, 2), (83, .iastore, 1), (84, .goto (-63), 3), (87, .aload_n 0, 1), (88, .getfield 88, 3), (91, .iload 5, 2), (93, .iload 4, 2), (95, .iastore, 1), (96, .aload_n 0, 1), (97, .getfield 79, 3), (100, .iload 5, 2), (102, .iaload, 1), (103, .iconst 2, 1), (104, .if_icmp .ne 6, 3), (107, .goto (-86), 3), (110, .aload_n 0, 1), (111, .getfield 79, 3), (114, .iload 4, 2), (116, .iaload, 1), (117, .aload_n 0, 1), (118, .getfield 79, 3), (121, .iload 5, 2), (123, .iaload, 1), (124, .if_icmp .eq 5, 3), (127, .iconst 0, 1), (128, .ireturn, 1), (129, .aload_n 0, 1), (130, .getfield 79, 3), (133, .iload 4, 2), (135, .iaload, 1), (136, .iconst 3, 1), (137, .if_icmp .eq 14, 3), (140, .aload_n 0, 1), (141, .getfield 79, 3), (144, .iload 4, 2), (146, .iaload, 1), (147, .iconst 4, 1), (148, .if_icmp .ne 34, 3), (151, .aload_n 0, 1), (152, .getfield 97, 3), (155, .iload_n 3, 1), (156, .aload_n 0, 1), (157, .getfield 82, 3), (160, .iload 4, 2), (162, .iaload, 1), (163, .iastore, 1), (164, .aload_n 0, 1), (165, .getfield 97, 3), (168, .iload_n 3, 1), (169, .iconst 1, 1), (170, .iadd, 1), (171, .aload_n 0, 1), (172, .getfield 82, 3), (175, .iload 5, 2), (177, .iaload, 1), (178, .iastore, 1), (179, .iinc 3 2, 3), (182, .aload_n 0, 1), (183, .getfield 79, 3), (186, .iload 4, 2), (188, .iaload, 1), (189, .iconst 4, 1), (190, .if_icmp .ne 34, 3), (193, .aload_n 0, 1), (194, .getfield 97, 3), (197, .iload_n 3, 1), (198, .aload_n 0, 1), (199, .getfield 85, 3), (202, .iload 4, 2), (204, .iaload, 1), (205, .iastore, 1), (206, .aload_n 0, 1), (207, .getfield 97, 3), (210, .iload_n 3, 1), (211, .iconst 1, 1), (212, .iadd, 1), (213, .aload_n 0, 1), (214, .getfield 85, 3), (217, .iload 5, 2), (219, .iaload, 1), (220, .iastore, 1), (221, .iinc 3 2, 3), (224, .goto (-203), 3), (227, .iconst 1, 1), (228, .ireturn, 1)]
set_option maxRecDepth 100000 in
theorem pgDk216_0 : ((pgD216.drop 0).take 60).all (fun q => decide (decode prog_14_method_31_code q.1 = .ok q.2)) = true := by decide +kernel
set_option maxRecDepth 100000 in
theorem pgDk216_60 : ((pgD216.drop 60).take 60).all (fun q => decide (decode prog_14_method_31_code q.1 = .ok q.2)) = true := by decide +kernel
set_option maxRecDepth 100000 in
theorem pgDk216_120 : ((pgD216.drop 120).take 60).all (fun q => decide (decode prog_14_method_31_code q.1 = .ok q.2)) = true := by decide +kernel
def pgD217 : List (Nat × Instr × Nat) := [(0, .iload_n 1, 1), (1, .istore_n 2, 1), (2, .aload_n 0, 1), (3, .getfield 88, 3), (6, .iload_n 2, 1), (7, .iaload, 1), (8, .iload_n 2, 1), (9, .if_icmp .eq 13, 3), (12, .aload_n 0, 1), (13, .getfield 88, 3), (16, .iload_n 2, 1), (17, .iaload, 1), (18, .istore_n 2, 1), (19, .goto (-17), 3), (22, .iload_n 2, 1), (23, .ireturn, 1)]
set_option maxRecDepth 100000 in
theorem pgDk217_0 : ((pgD217.drop 0).take 60).all (fun q => decide (decode prog_14_method_28_code q.1 = .ok q.2)) = true := by decide +kernel
def pgD218 : List (Nat × Instr × Nat) := [(0, .aload_n 0, 1), (1, .iconst 0, 1), (2, .iconst 0, 1), (3, .iconst 0, 1), (4, .invokevirtual 229, 3), (7, .istore_n 2, 1), (8, .aload_n 0, 1), (9, .iconst 1, 1), (10, .iconst 0, 1), (11, .iconst 0, 1), (12, .invokevirtual 229, 3), (15, .istore_n 3, 1), (16, .aload_n 0, 1), (17, .invokevirtual 236, 3), (20, .istore 4, 2), (22, .aload_n 0, 1), (23, .invokevirtual 236, 3), (26, .istore 5, 2), (28, .aload_n 0, 1), (29, .iconst 3, 1), (30, .iload 4, 2), (32, .iconst 0, 1), (33, .invokevirtual 229, 3), (36, .istore 6, 2), (38, .iload_n 1, 1), (39, .tableswitch 105 0 6 #[41, 41, 43, 55, 67, 87, 90], 41), (80, .iload_n 3, 1), (81, .ireturn, 1), (82, .aload_n 0, 1), (83, .iload_n 2, 1), (84, .aload_n 0, 1), (85, .iload_n 2, 1), (86, .iload_n 2, 1), (87, .invokevirtual 232, 3), (90, .invokevirtual 232, 3), (93, .ireturn, 1), (94, .aload_n 0, 1), (95, .iload_n 2, 1), (96, .aload_n 0, 1), (97, .iload_n 2, 1), (98, .iload_n 3, 1), (99, .invokevirtual 232, 3), (102, .invokevirtual 232, 3), (105, .ireturn, 1), (106, .aload_n 0, 1), (107, .iload_n 3, 1), (108, .aload_n 0, 1), (109, .iload 4, 2), (111, .aload_n 0, 1), (112, .iload 4, 2), (114, .iload 4, 2), (116, .invokevirtual 232, 3), (119, .invokevirtual 232, 3), (122, .invokevirtual 232, 3), (125, .ireturn, 1), (126, .iload 6, 2), (128, .ireturn, 1), (129, .aload_n 0, 1), (130, .iload 4, 2), (132, .aload_n 0, 1), (133, .iload 6, 2), (135, .iload 6, 2), (137, .invokevirtual 232, 3), (140, .invokevirtual 232, 3), (143, .ireturn, 1), (144, .aload_n 0, 1), (145, .aload_n 0, 1), (146, .iload 4, 2), (148, .aload_n 0, 1), (149, .iload 5, 2), (151, .iload 5, 2), (153, .invokevirtual 232, 3), (156, .invokevirtual 232, 3), (159, .aload_n 0, 1), (160, .iload 5, 2), (162, .aload_n 0, 1), (163, .iload 6, 2), (165, .iload 5, 2), (167, .invokevirtual 232, 3), (170, .invokevirtual 232, 3), (173, .invokevirtual 232, 3), (176, .ireturn, 1)]
set_option maxRecDepth 100000 in
theorem pgDk218_0 : ((pgD218.drop 0).take 60).all (fun q => decide (decode prog_14_method_30_code q.1 = .ok q.2)) = true := by decide +kernel
set_option maxRecDepth 100000 in
theorem pgDk218_60 : ((pgD218.drop 60).take 60).all (fun q => decide (decode prog_14_method_30_code q.1 = .ok q.2)) = true := by decide +kernel
def pgD219 : List (Nat × Instr × Nat) := [(0, .aload_n 0, 1), (1, .iconst 4, 1), (2, .iload_n 1, 1), (3, .iload_n 2, 1), (4, .invokevirtual 229, 3), (7, .ireturn, 1)]
set_option maxRecDepth 100000 in
theorem pgDk219_0 : ((pgD219.drop 0).take 60).all (fun q => decide (decode prog_14_method_27_code q.1 = .ok q.2)) = true := by decide +kernel
def pgD220 : List (Nat × Instr × Nat) := [(0, .aload_n 0, 1), (1, .getfield 109, 3), (4, .iload_n 1, 1), (5, .iaload, 1), (6, .istore_n 3, 1), (7, .iconst 0, 1), (8, .istore 4, 2), (10, .iload 4, 2), (12, .iload_n 2, 1), (13, .if_icmp .ge 21, 3), (16, .iload_n 3, 1), (17, .iconst (-1), 1), (18, .if_icmp .eq 16, 3), (21, .aload_n 0, 1), (22, .getfield 109, 3), (25, .iload_n 3, 1), (26, .iaload, 1), (27, .istore_n 3, 1), (28, .iinc 4 1, 3), (31, .goto (-21), 3), (34, .iload_n 3, 1), (35, .iconst (-1), 1), (36, .if_icmp .ne 7, 3), (39, .iconst (-1), 1), (40, .goto 9, 3), (43, .aload_n 0, 1), (44, .getfield 112, 3), (47, .iload_n 3, 1), (48, .iaload, 1), (49, .ireturn, 1)]
set_option maxRecDepth 100000 in
theorem pgDk220_0 : ((pgD220.drop 0).take 60).all (fun q => decide (decode prog_14_method_37_code q.1 = .ok q.2)) = true := by decide +kernel
def pgD221 : List (Nat × Instr × Nat) := [(0, .aload_n 0, 1), (1, .invokevirtual 236, 3), (4, .istore 4, 2), (6, .iconst 2, 1), (7, .istore 5, 2), (9, .iload 5, 2), (11, .bipush 10, 2), (13, .if_icmp .ge 18, 3), (16, .aload_n 0, 1), (17, .getfield 100, 3), (20, .iload 5, 2), (22, .iload 4, 2), (24, .iastore, 1), (25, .iinc 5 1, 3), (28, .goto (-19), 3), (31, .aload_n 0, 1), (32, .getfield 115, 3), (35, .bipush 8, 2), (37, .iload_n 1, 1), (38, .imul, 1), (39, .iload 4, 2), (41, .iastore, 1), (42, .aload_n 0, 1), (43, .getfield 118, 3), (46, .iload_n 1, 1), (47, .iconst 1, 1), (48, .iastore, 1), (49, .aload_n 0, 1), (50, .iload_n 2, 1), (51, .iload 4, 2), (53, .invokevirtual 249, 3), (56, .aload_n 0, 1), (57, .aload_n 0, 1), (58, .getfield 25, 3), (61, .iconst 3, 1), (62, .iload_n 2, 1), (63, .imul, 1), (64, .iload_n 3, 1), (65, .iadd, 1), (66, .iaload, 1), (67, .invokevirtual 253, 3), (70, .ireturn, 1)]
set_option maxRecDepth 100000 in
theorem pgDk221_0 : ((pgD221.drop 0).take 60).all (fun q => decide (decode prog_14_method_35_code q.1 = .ok q.2)) = true := by decide +kernel
def pgD222 : List (Nat × Instr × Nat) := [(0, .aload_n 0, 1), (1, .getfield 121, 3), (4, .aload_n 0, 1), (5, .getfield 246, 3), (8, .iload_n 1, 1), (9, .iastore, 1), (10, .aload_n 0, 1), (11, .getfield 124, 3), (14, .aload_n 0, 1), (15, .getfield 246, 3), (18, .iload_n 2, 1), (19, .iastore, 1), (20, .aload_n 0, 1), (21, .dup, 1), (22, .getfield 246, 3), (25, .iconst 1, 1), (26, .iadd, 1), (27, .putfield 246, 3), (30, .return_, 1)]
set_option maxRecDepth 100000 in
theorem pgDk222_0 : ((pgD222.drop 0).take 60).all (fun q => decide (decode prog_14_method_34_code q.1 = .ok q.2)) = true := by decide +kernel
def pgD223 : List (Nat × Instr × Nat) := [(0, .bipush 10, 2), (2, .istore_n 2, 1), (3, .iload_n 2, 1), (4, .iload_n 1, 1), (5, .if_icmp .gt 16, 3), (8, .aload_n 0, 1), (9, .getfield 100, 3), (12, .iload_n 2, 1), (13, .iconst (-1), 1), (14, .iastore, 1), (15, .iinc 2 1, 3), (18, .goto (-15), 3), (21, .iconst 0, 1), (22, .istore_n 2, 1), (23, .iload_n 2, 1), (24, .bipush 40, 2), (26, .if_icmp .ge 25, 3), (29, .aload_n 0, 1), (30, .getfield 91, 3), (33, .iload_n 2, 1), (34, .iload_n 2, 1), (35, .iload_n 1, 1), (36, .if_icmp .ne 7, 3), (39, .iconst 1, 1), (40, .goto 4, 3), (43, .iconst 0, 1), (44, .iastore, 1), (45, .iinc 2 1, 3), (48, .goto (-25), 3), (51, .iload_n 1, 1), (52, .istore_n 2, 1), (53, .iload_n 2, 1), (54, .bipush 10, 2), (56, .if_icmp .lt 55, 3), (59, .aload_n 0, 1), (60, .getfield 91, 3), (63, .iload_n 2, 1), (64, .iaload, 1), (65, .ifCond .ne 6, 3), (68, .goto 37, 3), (71, .aload_n 0, 1), (72, .getfield 91, 3), (75, .aload_n 0, 1), (76, .getfield 13, 3), (79, .iload_n 2, 1), (80, .iaload, 1), (81, .iconst 1, 1), (82, .iastore, 1), (83, .aload_n 0, 1), (84, .getfield 7, 3), (87, .iload_n 2, 1), (88, .iaload, 1), (89, .iconst 4, 1), (90, .if_icmp .ne 15, 3), (93, .aload_n 0, 1), (94, .getfield 91, 3), (97, .aload_n 0, 1), (98, .getfield 16, 3), (101, .iload_n 2, 1), (102, .iaload, 1), (103, .iconst 1, 1), (104, .iastore, 1), (105, .iinc 2 (-1), 3), (108, .goto (-55), 3), (111, .iconst 0, 1), (112, .istore_n 2, 1), (113, .iload_n 2, 1), (114, .iload_n 1, 1), (115, .if_icmp .gt 120, 3), (118, .aload_n 0, 1), (119, .getfield 91, 3), (122, .iload_n 2, 1), (123, .iaload, 1), (124, .ifCond .ne 6, 3), (127, .goto 102, 3), (130, .iload_n 2, 1), (131, .iconst 2, 1), (132, .if_icmp .ge 19, 3), (135, .aload_n 0, 1), (136, .getfield 100, 3), (139, .iload_n 2, 1), (140, .aload_n 0, 1), (141, .iload_n 2, 1), (142, .iconst 0, 1), (143, .iconst 0, 1), (144, .invokevirtual 229, 3), (147, .iastore, 1), (148, .goto 81, 3), (151, .aload_n 0, 1), (152, .getfield 7, 3), (155, .iload_n 2, 1), (156, .iaload, 1), (157, .iconst 3, 1), (158, .if_icmp .ne 29, 3), (161, .aload_n 0, 1), (162, .getfield 100, 3), (165, .iload_n 2, 1), (166, .aload_n 0, 1), (167, .iconst 3, 1), (168, .aload_n 0, 1), (169, .getfield 100, 3), (172, .aload_n 0, 1), (173, .getfield 13, 3), (176, .iload_n 2, 1), (177, .iaload, 1), (178, .iaload, 1), (179, .iconst 0, 1), (180, .invokevirtual 229, 3), (183, .iastore, 1), (184, .goto 45, 3), (187, .aload_n 0, 1), (188, .getfield 7, 3), (191, .iload_n 2, 1), (192, .iaload, 1), (193, .iconst 4, 1), (194, .if_icmp .ne 35, 3), (197, .aload_n 0, 1), (198, .getfield 100, 3), (201, .iload_n 2, 1), (202, .aload_n 0, 1), (203, .aload_n 0, 1), (204, .getfield 100, 3), (207, .aload_n 0, 1), (208, .getfield 13, 3), (211, .iload_n 2, 1), (212, .iaload, 1), (213, .iaload, 1), (214, .aload_n 0, 1), (215, .getfield 100, 3), (218, .aload_n 0, 1), (219, .getfield 16, 3), (222, .iload_n 2, 1), (223, .iaload, 1), (224, .iaload, 1), (225, .invokevirtual 232, 3), (228, .iastore, 1), (229, .iinc 2 1, 3), (232, .goto (-119), 3), (235, .aload_n 0, 1), (236, .getfield 100, 3), (239, .iload_n 1, 1), (240, .iaload, 1), (241, .ireturn, 1)]
set_option maxRecDepth 100000 in
theorem pgDk223_0 : ((pgD223.drop 0).take 60).all (fun q => decide (decode prog_14_method_29_code q.1 = .ok q.2)) = true := by decide +kernel
set_option maxRecDepth 100000 in
theorem pgDk223_60 : ((pgD223.drop 60).take 60).all (fun q => decide (decode prog_14_method_29_code q.1 = .ok q.2)) = true := by decide +kernel
set_option maxRecDepth 100000 in
theorem pgDk223_120 : ((pgD223.drop 120).take 60).all (fun q => decide (decode prog_14_method_29_code q.1 = .ok q.2)) = true := by decide +kernel
def pgD224 : List (Nat × Instr × Nat) := [(0, .iconst 0, 1), (1, .istore_n 3, 1), (2, .iload_n 3, 1), (3, .bipush 8, 2), (5, .if_icmp .ge 40, 3), (8, .aload_n 0, 1), (9, .getfield 100, 3), (12, .iconst 2, 1), (13, .iload_n 3, 1), (14, .iadd, 1), (15, .aload_n 0, 1), (16, .invokevirtual 236, 3), (19, .iastore, 1), (20, .aload_n 0, 1), (21, .getfield 115, 3), (24, .bipush 8, 2), (26, .iload_n 1, 1), (27, .imul, 1), (28, .iload_n 3, 1), (29, .iadd, 1), (30, .aload_n 0, 1), (31, .getfield 100, 3), (34, .iconst 2, 1), (35, .iload_n 3, 1), (36, .iadd, 1), (37, .iaload, 1), (38, .iastore, 1), (39, .iinc 3 1, 3), (42, .goto (-40), 3), (45, .aload_n 0, 1), (46, .getfield 118, 3), (49, .iload_n 1, 1), (50, .aload_n 0, 1), (51, .getfield 56, 3), (54, .iload_n 2, 1), (55, .iaload, 1), (56, .iastore, 1), (57, .iconst 0, 1), (58, .istore_n 3, 1), (59, .iload_n 3, 1), (60, .aload_n 0, 1), (61, .getfield 59, 3), (64, .iload_n 2, 1), (65, .iaload, 1), (66, .if_icmp .ge 48, 3), (69, .aload_n 0, 1), (70, .aload_n 0, 1), (71, .getfield 62, 3), (74, .bipush 8, 2), (76, .iload_n 2, 1), (77, .imul, 1), (78, .iload_n 3, 1), (79, .iadd, 1), (80, .iaload, 1), (81, .bipush 8, 2), (83, .idiv, 1), (84, .aload_n 0, 1), (85, .getfield 100, 3), (88, .iconst 2, 1), (89, .aload_n 0, 1), (90, .getfield 62, 3), (93, .bipush 8, 2), (95, .iload_n 2, 1), (96, .imul, 1), (97, .iload_n 3, 1), (98, .iadd, 1), (99, .iaload, 1), (100, .bipush 8, 2), (102, .irem, 1), (103, .iadd, 1), (104, .iaload, 1), (105, .invokevirtual 249, 3), (108, .iinc 3 1, 3), (111, .goto (-52), 3), (114, .aload_n 0, 1), (115, .aload_n 0, 1), (116, .getfield 53, 3), (119, .iload_n 2, 1), (120, .iaload, 1), (121, .invokevirtual 253, 3), (124, .ireturn, 1)]
set_option maxRecDepth 100000 in
theorem pgDk224_0 : ((pgD224.drop 0).take 60).all (fun q => decide (decode prog_14_method_36_code q.1 = .ok q.2)) = true := by decide +kernel
set_option maxRecDepth 100000 in
theorem pgDk224_60 : ((pgD224.drop 60).take 60).all (fun q => decide (decode prog_14_method_36_code q.1 = .ok q.2)) = true := by decide +kernel
def pgD225 : List (Nat × Instr × Nat) := [(0, .iconst 0, 1), (1, .istore_n 1, 1), (2, .iload_n 1, 1), (3, .aload_n 0, 1), (4, .getfield 226, 3), (7, .if_icmp .ge 16, 3), (10, .aload_n 0, 1), (11, .getfield 91, 3), (14, .iload_n 1, 1), (15, .iconst 0, 1), (16, .iastore, 1), (17, .iinc 1 1, 3), (20, .goto (-18), 3), (23, .iconst 1, 1), (24, .istore_n 1, 1), (25, .iload_n 1, 1), (26, .ifCond .eq 149, 3), (29, .iconst 0, 1), (30, .istore_n 1, 1), (31, .iconst 0, 1), (32, .istore_n 2, 1), (33, .iload_n 2, 1), (34, .aload_n 0, 1), (35, .getfield 226, 3), (38, .if_icmp .ge 134, 3), (41, .aload_n 0, 1), (42, .getfield 88, 3), (45, .iload_n 2, 1), (46, .iaload, 1), (47, .iload_n 2, 1), (48, .if_icmp .ne 118, 3), (51, .aload_n 0, 1), (52, .getfield 91, 3), (55, .iload_n 2, 1), (56, .iaload, 1), (57, .iconst 1, 1), (58, .if_icmp .ne 6, 3), (61, .goto 105, 3), (64, .aload_n 0, 1), (65, .getfield 79, 3), (68, .iload_n 2, 1), (69, .iaload, 1), (70, .iconst 3, 1), (71, .if_icmp .eq 13, 3), (74, .aload_n 0, 1), (75, .getfield 79, 3), (78, .iload_n 2, 1), (79, .iaload, 1), (80, .iconst 4, 1), (81, .if_icmp .ne 22, 3), (84, .aload_n 0, 1), (85, .getfield 91, 3), (88, .aload_n 0, 1), (89, .aload_n 0, 1), (90, .getfield 82, 3), (93, .iload_n 2, 1), (94, .iaload, 1), (95, .invokevirtual 240, 3), (98, .iaload, 1), (99, .iconst 1, 1), (100, .if_icmp .ne 7, 3), (103, .iconst 1, 1), (104, .goto 4, 3), (107, .iconst 0, 1), (108, .istore_n 3, 1), (109, .aload_n 0, 1), (110, .getfield 79, 3), (113, .iload_n 2, 1), (114, .iaload, 1), (115, .iconst 4, 1), (116, .if_icmp .ne 22, 3), (119, .aload_n 0, 1), (120, .getfield 91, 3), (123, .aload_n 0, 1), (124, .aload_n 0, 1), (125, .getfield 85, 3), (128, .iload_n 2, 1), (129, .iaload, 1), (130, .invokevirtual 240, 3), (133, .iaload, 1), (134, .iconst 1, 1), (135, .if_icmp .ne 7, 3), (138, .iconst 1, 1), (139, .goto 4, 3), (142, .iconst 0, 1), (143, .istore 4, 2), (145, .iload_n 3, 1), (146, .ifCond .eq 20, 3), (149, .iload 4, 2), (151, .ifCond .ne 6, 3), (154, .goto 12, 3), (157, .aload_n 0, 1), (158, .getfield 91, 3), (161, .iload_n 2, 1), (162, .iconst 1, 1), (163, .iastore, 1), (164, .iconst 1, 1), (165, .istore_n 1, 1), (166, .iinc 2 1, 3), (169, .goto (-136), 3), (172, .goto (-147), 3), (175, .iconst 0, 1), (176, .istore_n 2, 1), (177, .iload_n 2, 1), (178, .aload_n 0, 1), (179, .getfield 226, 3), (182, .if_icmp .ge 30, 3), (185, .aload_n 0, 1), (186, .getfield 88, 3), (189, .iload_n 2, 1), (190, .iaload, 1), (191, .iload_n 2, 1), (192, .if_icmp .ne 14, 3), (195, .aload_n 0, 1), (196, .getfield 91, 3), (199, .iload_n 2, 1), (200, .iaload, 1), (201, .ifCond .ne 5, 3), (204, .iconst 1, 1), (205, .ireturn, 1), (206, .iinc 2 1, 3), (209, .goto (-32), 3), (212, .iconst 0, 1), (213, .ireturn, 1)]
set_option maxRecDepth 100000 in
theorem pgDk225_0 : ((pgD225.drop 0).take 60).all (fun q => decide (decode prog_14_method_32_code q.1 = .ok q.2)) = true := by decide +kernel
set_option maxRecDepth 100000 in
theorem pgDk225_60 : ((pgD225.drop 60).take 60).all (fun q => decide (decode prog_14_method_32_code q.1 = .ok q.2)) = true := by decide +kernel
set_option maxRecDepth 100000 in
theorem pgDk225_120 : ((pgD225.drop 120).take 60).all (fun q => decide (decode prog_14_method_32_code q.1 = .ok q.2)) = true := by decide +kernel
def pgD226 : List (Nat × Instr × Nat) := [(0, .iconst 0, 1), (1, .istore_n 2, 1), (2, .iload_n 2, 1), (3, .aload_n 0, 1), (4, .getfield 226, 3), (7, .if_icmp .ge 16, 3), (10, .aload_n 0, 1), (11, .getfield 91, 3), (14, .iload_n 2, 1), (15, .iconst 0, 1), (16, .iastore, 1), (17, .iinc 2 1, 3), (20, .goto (-18), 3), (23, .aload_n 0, 1), (24, .iconst 0, 1), (25, .putfield 279, 3), (28, .iconst 1, 1), (29, .istore_n 2, 1), (30, .aload_n 0, 1), (31, .getfield 97, 3), (34, .iconst 0, 1), (35, .iload_n 1, 1), (36, .iastore, 1), (37, .iload_n 2, 1), (38, .ifCond .le 140, 3), (41, .iinc 2 (-1), 3), (44, .aload_n 0, 1), (45, .aload_n 0, 1), (46, .getfield 97, 3), (49, .iload_n 2, 1), (50, .iaload, 1), (51, .invokevirtual 240, 3), (54, .istore_n 3, 1), (55, .aload_n 0, 1), (56, .getfield 91, 3), (59, .iload_n 3, 1), (60, .iaload, 1), (61, .iconst 1, 1), (62, .if_icmp .ne 6, 3), (65, .goto (-28), 3), (68, .aload_n 0, 1), (69, .getfield 91, 3), (72, .iload_n 3, 1), (73, .iconst 1, 1), (74, .iastore, 1), (75, .aload_n 0, 1), (76, .getfield 79, 3), (79, .iload_n 3, 1), (80, .iaload, 1), (81, .iconst 2, 1), (82, .if_icmp .ne 33, 3), (85, .aload_n 0, 1), (86, .getfield 127, 3), (89, .aload_n 0, 1), (90, .getfield 279, 3), (93, .iload_n 3, 1), (94, .iastore, 1), (95, .aload_n 0, 1), (96, .getfield 130, 3), (99, .aload_n 0, 1), (100, .getfield 279, 3), (103, .iconst 0, 1), (104, .iastore, 1), (105, .aload_n 0, 1), (106, .dup, 1), (107, .getfield 279, 3), (110, .iconst 1, 1), (111, .iadd, 1), (112, .putfield 279, 3), (115, .aload_n 0, 1), (116, .getfield 79, 3), (119, .iload_n 3, 1), (120, .iaload, 1), (121, .iconst 4, 1), (122, .if_icmp .ne 18, 3), (125, .aload_n 0, 1), (126, .getfield 97, 3), (129, .iload_n 2, 1), (130, .aload_n 0, 1), (131, .getfield 85, 3), (134, .iload_n 3, 1), (135, .iaload, 1), (136, .iastore, 1), (137, .iinc 2 1, 3), (140, .aload_n 0, 1), (141, .getfield 79, 3), (144, .iload_n 3, 1), (145, .iaload, 1), (146, .iconst 3, 1), (147, .if_icmp .eq 13, 3), (150, .aload_n 0, 1), (151, .getfield 79, 3), (154, .iload_n 3, 1), (155, .iaload, 1), (156, .iconst 4, 1), (157, .if_icmp .ne 18, 3), (160, .aload_n 0, 1), (161, .getfield 97, 3), (164, .iload_n 2, 1), (165, .aload_n 0, 1), (166, .getfield 82, 3), (169, .iload_n 3, 1), (170, .iaload, 1), (171, .iastore, 1), (172, .iinc 2 1, 3), (175, .goto (-138), 3), (178, .return_, 1)]
set_option maxRecDepth 100000 in
theorem pgDk226_0 : ((pgD226.drop 0).take 60).all (fun q => decide (decode prog_14_method_40_code q.1 = .ok q.2)) = true := by decide +kernel
set_option maxRecDepth 100000 in
theorem pgDk226_60 : ((pgD226.drop 60).take 60).all (fun q => decide (decode prog_14_method_40_code q.1 = .ok q.2)) = true := by decide +kernel
def pgD227 : List (Nat × Instr × Nat) := [(0, .aload_n 0, 1), (1, .iconst 0, 1), (2, .putfield 286, 3), (5, .aload_n 0, 1), (6, .iconst 0, 1), (7, .putfield 289, 3), (10, .aload_n 0, 1), (11, .iconst 0, 1), (12, .putfield 282, 3), (15, .iconst 0, 1), (16, .istore_n 1, 1), (17, .iload_n 1, 1), (18, .aload_n 0, 1), (19, .getfield 246, 3), (22, .if_icmp .ge 25, 3), (25, .aload_n 0, 1), (26, .aload_n 0, 1), (27, .getfield 121, 3), (30, .iload_n 1, 1), (31, .iaload, 1), (32, .aload_n 0, 1), (33, .getfield 124, 3), (36, .iload_n 1, 1), (37, .iaload, 1), (38, .invokevirtual 301, 3), (41, .iinc 1 1, 3), (44, .goto (-27), 3), (47, .return_, 1)]
set_option maxRecDepth 100000 in
theorem pgDk227_0 : ((pgD227.drop 0).take 60).all (fun q => decide (decode prog_14_method_43_code q.1 = .ok q.2)) = true := by decide +kernel
def pgD228 : List (Nat × Instr × Nat) := [(0, .iload_n 1, 1), (1, .istore_n 3, 1), (2, .aload_n 0, 1), (3, .iload_n 2, 1), (4, .invokevirtual 240, 3), (7, .istore 4, 2), (9, .iconst 0, 1), (10, .istore 5, 2), (12, .aload_n 0, 1), (13, .getfield 79, 3), (16, .iload 4, 2), (18, .iaload, 1), (19, .iconst 3, 1), (20, .if_icmp .ne 60, 3), (23, .aload_n 0, 1), (24, .getfield 28, 3), (27, .iconst 3, 1), (28, .iload_n 3, 1), (29, .imul, 1), (30, .iconst 2, 1), (31, .iadd, 1), (32, .baload, 1), (33, .ifCond .eq 47, 3), (36, .aload_n 0, 1), (37, .getfield 32, 3), (40, .iconst 3, 1), (41, .iload_n 3, 1), (42, .imul, 1), (43, .iconst 2, 1), (44, .iadd, 1), (45, .iaload, 1), (46, .iconst (-1), 1), (47, .if_icmp .eq 33, 3), (50, .aload_n 0, 1), (51, .getfield 32, 3), (54, .iconst 3, 1), (55, .iload_n 3, 1), (56, .imul, 1), (57, .iconst 2, 1), (58, .iadd, 1), (59, .iaload, 1), (60, .istore_n 3, 1), (61, .aload_n 0, 1), (62, .aload_n 0, 1), (63, .getfield 82, 3), (66, .iload 4, 2), (68, .iaload, 1), (69, .invokevirtual 240, 3), (72, .istore 4, 2), (74, .iinc 5 1, 3), (77, .goto (-65), 3), (80, .aload_n 0, 1), (81, .aload_n 0, 1), (82, .getfield 282, 3), (85, .ifCond .ne 9, 3), (88, .iload 5, 2), (90, .iconst 3, 1), (91, .if_icmp .le 7, 3), (94, .iconst 1, 1), (95, .goto 4, 3), (98, .iconst 0, 1), (99, .putfield 282, 3), (102, .aload_n 0, 1), (103, .getfield 79, 3), (106, .iload 4, 2), (108, .iaload, 1), (109, .istore 6, 2), (111, .iload 6, 2), (113, .iconst 3, 1), (114, .if_icmp .ne 35, 3), (117, .aload_n 0, 1), (118, .aload_n 0, 1), (119, .getfield 286, 3), (122, .ifCond .ne 16, 3), (125, .aload_n 0, 1), (126, .getfield 28, 3), (129, .iconst 3, 1), (130, .iload_n 3, 1), (131, .imul, 1), (132, .iconst 2, 1), (133, .iadd, 1), (134, .baload, 1), (135, .ifCond .ne 7, 3), (138, .iconst 1, 1), (139, .goto 4, 3), (142, .iconst 0, 1), (143, .putfield 286, 3), (146, .goto 141, 3), (149, .iload 6, 2), (151, .iconst 4, 1), (152, .if_icmp .ne 11, 3), (155, .aload_n 0, 1), (156, .iconst 1, 1), (157, .putfield 286, 3), (160, .goto 127, 3), (163, .iload 6, 2), (165, .iconst 2, 1), (166, .if_icmp .ge 36, 3), (169, .aload_n 0, 1), (170, .aload_n 0, 1), (171, .getfield 286, 3), (174, .ifCond .ne 17, 3), (177, .aload_n 0, 1), (178, .getfield 28, 3), (181, .iconst 3, 1), (182, .iload_n 3, 1), (183, .imul, 1), (184, .iload 6, 2), (186, .iadd, 1), (187, .baload, 1), (188, .ifCond .ne 7, 3), (191, .iconst 1, 1), (192, .goto 4, 3), (195, .iconst 0, 1), (196, .putfield 286, 3), (199, .goto 88, 3), (202, .iload 6, 2), (204, .iconst 5, 1), (205, .if_icmp .ne 42, 3), (208, .aload_n 0, 1), (209, .aload_n 0, 1), (210, .getfield 289, 3), (213, .ifCond .ne 23, 3), (216, .aload_n 0, 1), (217, .getfield 292, 3), (220, .iconst (-1), 1), (221, .if_icmp .eq 15, 3), (224, .aload_n 0, 1), (225, .aload_n 0, 1), (226, .getfield 292, 3), (229, .iload_n 3, 1), (230, .invokevirtual 295, 3), (233, .ifCond .ne 7, 3), (236, .iconst 1, 1), (237, .goto 4, 3), (240, .iconst 0, 1), (241, .putfield 289, 3), (244, .goto 43, 3), (247, .aload_n 0, 1), (248, .iload 4, 2), (250, .invokevirtual 298, 3), (253, .istore 7, 2), (255, .iload 7, 2), (257, .iconst (-1), 1), (258, .if_icmp .ne 11, 3), (261, .aload_n 0, 1), (262, .iconst 1, 1), (263, .putfield 289, 3), (266, .goto 21, 3), (269, .aload_n 0, 1), (270, .getfield 130, 3), (273, .iload 7, 2), (275, .aload_n 0, 1), (276, .getfield 130, 3), (279, .iload 7, 2), (281, .iaload, 1), (282, .iconst 1, 1), (283, .iload_n 3, 1), (284, .ishl, 1), (285, .ior, 1), (286, .iastore, 1), (287, .return_, 1)]
set_option maxRecDepth 100000 in
theorem pgDk228_0 : ((pgD228.drop 0).take 60).all (fun q => decide (decode prog_14_method_42_code q.1 = .ok q.2)) = true := by decide +kernel
set_option maxRecDepth 100000 in
theorem pgDk228_60 : ((pgD228.drop 60).take 60).all (fun q => decide (decode prog_14_method_42_code q.1 = .ok q.2)) = true := by decide +kernel
set_option maxRecDepth 100000 in
theorem pgDk228_120 : ((pgD228.drop 120).take 60).all (fun q => decide (decode prog_14_method_42_code q.1 = .ok q.2)) = true := by decide +kernel
def pgD229 : List (Nat × Instr × Nat) := [(0, .iload_n 1, 1), (1, .istore_n 3, 1), (2, .iload_n 3, 1), (3, .iconst (-1), 1), (4, .if_icmp .eq 18, 3), (7, .iload_n 3, 1), (8, .iload_n 2, 1), (9, .if_icmp .eq 13, 3), (12, .aload_n 0, 1), (13, .getfield 19, 3), (16, .iload_n 3, 1), (17, .iaload, 1), (18, .istore_n 3, 1), (19, .goto (-17), 3), (22, .iload_n 3, 1), (23, .iload_n 2, 1), (24, .if_icmp .ne 7, 3), (27, .iconst 1, 1), (28, .goto 4, 3), (31, .iconst 0, 1), (32, .ireturn, 1)]
set_option maxRecDepth 100000 in
theorem pgDk229_0 : ((pgD229.drop 0).take 60).all (fun q => decide (decode prog_14_method_13_code q.1 = .ok q.2)) = true := by decide +kernel
def pgD230 : List (Nat × Instr × Nat) := [(0, .iconst 0, 1), (1, .istore_n 2, 1), (2, .iload_n 2, 1), (3, .aload_n 0, 1), (4, .getfield 279, 3), (7, .if_icmp .ge 21, 3), (10, .aload_n 0, 1), (11, .getfield 127, 3), (14, .iload_n 2, 1), (15, .iaload, 1), (16, .iload_n 1, 1), (17, .if_icmp .ne 5, 3), (20, .iload_n 2, 1), (21, .ireturn, 1), (22, .iinc 2 1, 3), (25, .goto (-23), 3), (28, .iconst (-1), 1), (29, .ireturn, 1)]
set_option maxRecDepth 100000 in
theorem pgDk230_0 : ((pgD230.drop 0).take 60).all (fun q => decide (decode prog_14_method_41_code q.1 = .ok q.2)) = true := by decide +kernel
def pgD231 : List (Nat × Instr × Nat) := [(0, .iload_n 1, 1), (1, .istore_n 2, 1), (2, .iconst 0, 1), (3, .istore_n 3, 1), (4, .iload_n 3, 1), (5, .aload_n 0, 1), (6, .getfield 196, 3), (9, .if_icmp .ge 82, 3), (12, .iconst 0, 1), (13, .istore 4, 2), (15, .iload 4, 2), (17, .aload_n 0, 1), (18, .getfield 196, 3), (21, .if_icmp .ge 64, 3), (24, .iload_n 1, 1), (25, .iload_n 3, 1), (26, .ishr, 1), (27, .iconst 1, 1), (28, .iand, 1), (29, .iconst 1, 1), (30, .if_icmp .ne 17, 3), (33, .iload_n 1, 1), (34, .iload 4, 2), (36, .ishr, 1), (37, .iconst 1, 1), (38, .iand, 1), (39, .iconst 1, 1), (40, .if_icmp .ne 7, 3), (43, .iconst 1, 1), (44, .goto 4, 3), (47, .iconst 0, 1), (48, .istore 5, 2), (50, .iload 5, 2), (52, .ifCond .eq 27, 3), (55, .iload_n 3, 1), (56, .iload 4, 2), (58, .if_icmp .eq 21, 3), (61, .aload_n 0, 1), (62, .iload 4, 2), (64, .iload_n 3, 1), (65, .invokevirtual 295, 3), (68, .ifCond .eq 11, 3), (71, .iload_n 2, 1), (72, .iconst 1, 1), (73, .iload_n 3, 1), (74, .ishl, 1), (75, .iconst (-1), 1), (76, .ixor, 1), (77, .iand, 1), (78, .istore_n 2, 1), (79, .iinc 4 1, 3), (82, .goto (-67), 3), (85, .iinc 3 1, 3), (88, .goto (-84), 3), (91, .iload_n 2, 1), (92, .ireturn, 1)]
set_option maxRecDepth 100000 in
theorem pgDk231_0 : ((pgD231.drop 0).take 60).all (fun q => decide (decode prog_14_method_44_code q.1 = .ok q.2)) = true := by decide +kernel
def pgD232 : List (Nat × Instr × Nat) := [(0, .iconst 0, 1), (1, .istore_n 1, 1), (2, .iload_n 0, 1), (3, .istore_n 2, 1), (4, .iload_n 2, 1), (5, .ifCond .eq 15, 3), (8, .iinc 1 1, 3), (11, .iload_n 2, 1), (12, .iload_n 2, 1), (13, .iconst 1, 1), (14, .isub, 1), (15, .iand, 1), (16, .istore_n 2, 1), (17, .goto (-13), 3), (20, .iload_n 1, 1), (21, .ireturn, 1)]
set_option maxRecDepth 100000 in
theorem pgDk232_0 : ((pgD232.drop 0).take 60).all (fun q => decide (decode prog_14_method_45_code q.1 = .ok q.2)) = true := by decide +kernel
def pgD233 : List (Nat × Instr × Nat) := [(0, .iconst 0, 1), (1, .istore_n 2, 1), (2, .iload_n 2, 1), (3, .aload_n 0, 1), (4, .getfield 226, 3), (7, .if_icmp .ge 16, 3), (10, .aload_n 0, 1), (11, .getfield 94, 3), (14, .iload_n 2, 1), (15, .iconst (-1), 1), (16, .iastore, 1), (17, .iinc 2 1, 3), (20, .goto (-18), 3), (23, .iconst 1, 1), (24, .istore_n 2, 1), (25, .aload_n 0, 1), (26, .getfield 97, 3), (29, .iconst 0, 1), (30, .iload_n 1, 1), (31, .iastore, 1), (32, .iload_n 2, 1), (33, .ifCond .le 248, 3), (36, .aload_n 0, 1), (37, .aload_n 0, 1), (38, .getfield 97, 3), (41, .iload_n 2, 1), (42, .iconst 1, 1), (43, .isub, 1), (44, .iaload, 1), (45, .invokevirtual 240, 3), (48, .istore_n 3, 1), (49, .aload_n 0, 1), (50, .getfield 79, 3), (53, .iload_n 3, 1), (54, .iaload, 1), (55, .iconst 3, 1), (56, .if_icmp .eq 13, 3), (59, .aload_n 0, 1), (60, .getfield 79, 3), (63, .iload_n 3, 1), (64, .iaload, 1), (65, .iconst 4, 1), (66, .if_icmp .ne 16, 3), (69, .aload_n 0, 1), (70, .aload_n 0, 1), (71, .getfield 82, 3), (74, .iload_n 3, 1), (75, .iaload, 1), (76, .invokevirtual 240, 3), (79, .goto 4, 3), (82, .iconst (-1), 1), (83, .istore 4, 2), (85, .aload_n 0, 1), (86, .getfield 79, 3), (89, .iload_n 3, 1), (90, .iaload, 1), (91, .iconst 4, 1), (92, .if_icmp .ne 16, 3), (95, .aload_n 0, 1), (96, .aload_n 0, 1), (97, .getfield 85, 3), (100, .iload_n 3, 1), (101, .iaload, 1), (102, .invokevirtual 240, 3), (105, .goto 4, 3), (108, .iconst (-1), 1), (109, .istore 5, 2), (111, .aload_n 0, 1), (112, .getfield 94, 3), (115, .iload_n 3, 1), (116, .iaload, 1), (117, .iconst (-1), 1), (118, .if_icmp .eq 9, 3), (121, .iinc 2 (-1), 3), (124, .goto 154, 3), (127, .iload 4, 2), (129, .iconst (-1), 1), (130, .if_icmp .eq 28, 3), (133, .aload_n 0, 1), (134, .getfield 94, 3), (137, .iload 4, 2), (139, .iaload, 1), (140, .iconst (-1), 1), (141, .if_icmp .ne 17, 3), (144, .aload_n 0, 1), (145, .getfield 97, 3), (148, .iload_n 2, 1), (149, .iload 4, 2), (151, .iastore, 1), (152, .iinc 2 1, 3), (155, .goto 123, 3), (158, .iload 5, 2), (160, .iconst (-1), 1), (161, .if_icmp .eq 28, 3), (164, .aload_n 0, 1), (165, .getfield 94, 3), (168, .iload 5, 2), (170, .iaload, 1), (171, .iconst (-1), 1), (172, .if_icmp .ne 17, 3), (175, .aload_n 0, 1), (176, .getfield 97, 3), (179, .iload_n 2, 1), (180, .iload 5, 2), (182, .iastore, 1), (183, .iinc 2 1, 3), (186, .goto 92, 3), (189, .aload_n 0, 1), (190, .getfield 79, 3), (193, .iload_n 3, 1), (194, .iaload, 1), (195, .iconst 2, 1), (196, .if_icmp .ne 13, 3), (199, .iconst 2, 1), (200, .aload_n 0, 1), (201, .iload_n 3, 1), (202, .invokevirtual 298, 3), (205, .iadd, 1), (206, .goto 9, 3), (209, .aload_n 0, 1), (210, .getfield 79, 3), (213, .iload_n 3, 1), (214, .iaload, 1), (215, .istore 6, 2), (217, .iload 4, 2), (219, .iconst (-1), 1), (220, .if_icmp .eq 39, 3), (223, .aload_n 0, 1), (224, .aload_n 0, 1), (225, .getfield 79, 3), (228, .iload_n 3, 1), (229, .iaload, 1), (230, .aload_n 0, 1), (231, .getfield 94, 3), (234, .iload 4, 2), (236, .iaload, 1), (237, .iload 5, 2), (239, .iconst (-1), 1), (240, .if_icmp .ne 7, 3), (243, .iconst 0, 1), (244, .goto 10, 3), (247, .aload_n 0, 1), (248, .getfield 94, 3), (251, .iload 5, 2), (253, .iaload, 1), (254, .invokevirtual 193, 3), (257, .istore 6, 2), (259, .iload 6, 2), (261, .iconst (-1), 1), (262, .if_icmp .ne 5, 3), (265, .iconst (-1), 1), (266, .ireturn, 1), (267, .aload_n 0, 1), (268, .getfield 94, 3), (271, .iload_n 3, 1), (272, .iload 6, 2), (274, .iastore, 1), (275, .iinc 2 (-1), 3), (278, .goto (-246), 3), (281, .aload_n 0, 1), (282, .getfield 94, 3), (285, .aload_n 0, 1), (286, .iload_n 1, 1), (287, .invokevirtual 240, 3), (290, .iaload, 1), (291, .ireturn, 1)]
set_option maxRecDepth 100000 in
theorem pgDk233_0 : ((pgD233.drop 0).take 60).all (fun q => decide (decode prog_14_method_46_code q.1 = .ok q.2)) = true := by decide +kernel
set_option maxRecDepth 100000 in
theorem pgDk233_60 : ((pgD233.drop 60).take 60).all (fun q => decide (decode prog_14_method_46_code q.1 = .ok q.2)) = true := by decide +kernel
set_option maxRecDepth 100000 in
theorem pgDk233_120 : ((pgD233.drop 120).take 60).all (fun q => decide (decode prog_14_method_46_code q.1 = .ok q.2)) = true := by decide +kernel
def pgD234 : List (Nat × Instr × Nat) := [(0, .iconst 0, 1), (1, .istore_n 2, 1), (2, .iload_n 2, 1), (3, .aload_n 0, 1), (4, .getfield 226, 3), (7, .if_icmp .ge 16, 3), (10, .aload_n 0, 1), (11, .getfield 94, 3), (14, .iload_n 2, 1), (15, .iconst (-1), 1), (16, .iastore, 1), (17, .iinc 2 1, 3), (20, .goto (-18), 3), (23, .iconst 0, 1), (24, .istore_n 2, 1), (25, .iload_n 2, 1), (26, .aload_n 0, 1), (27, .getfield 243, 3), (30, .if_icmp .ge 58, 3), (33, .iconst 0, 1), (34, .istore_n 3, 1), (35, .iload_n 3, 1), (36, .aload_n 0, 1), (37, .getfield 118, 3), (40, .iload_n 2, 1), (41, .iaload, 1), (42, .if_icmp .ge 40, 3), (45, .aload_n 0, 1), (46, .getfield 66, 3), (49, .bipush 8, 2), (51, .bipush 60, 2), (53, .iload_n 1, 1), (54, .imul, 1), (55, .iload_n 2, 1), (56, .iadd, 1), (57, .imul, 1), (58, .iload_n 3, 1), (59, .iadd, 1), (60, .aload_n 0, 1), (61, .aload_n 0, 1), (62, .getfield 115, 3), (65, .bipush 8, 2), (67, .iload_n 2, 1), (68, .imul, 1), (69, .iload_n 3, 1), (70, .iadd, 1), (71, .iaload, 1), (72, .invokevirtual 307, 3), (75, .iastore, 1), (76, .iinc 3 1, 3), (79, .goto (-44), 3), (82, .iinc 2 1, 3), (85, .goto (-60), 3), (88, .return_, 1)]
set_option maxRecDepth 100000 in
theorem pgDk234_0 : ((pgD234.drop 0).take 60).all (fun q => decide (decode prog_14_method_48_code q.1 = .ok q.2)) = true := by decide +kernel
def pgD235 : List (Nat × Instr × Nat) := [(0, .iconst 1, 1), (1, .istore_n 2, 1), (2, .aload_n 0, 1), (3, .getfield 97, 3), (6, .iconst 0, 1), (7, .iload_n 1, 1), (8, .iastore, 1), (9, .iload_n 2, 1), (10, .ifCond .le 267, 3), (13, .aload_n 0, 1), (14, .aload_n 0, 1), (15, .getfield 97, 3), (18, .iload_n 2, 1), (19, .iconst 1, 1), (20, .isub, 1), (21, .iaload, 1), (22, .invokevirtual 240, 3), (25, .istore_n 3, 1), (26, .aload_n 0, 1), (27, .getfield 79, 3), (30, .iload_n 3, 1), (31, .iaload, 1), (32, .iconst 3, 1), (33, .if_icmp .eq 13, 3), (36, .aload_n 0, 1), (37, .getfield 79, 3), (40, .iload_n 3, 1), (41, .iaload, 1), (42, .iconst 4, 1), (43, .if_icmp .ne 16, 3), (46, .aload_n 0, 1), (47, .aload_n 0, 1), (48, .getfield 82, 3), (51, .iload_n 3, 1), (52, .iaload, 1), (53, .invokevirtual 240, 3), (56, .goto 4, 3), (59, .iconst (-1), 1), (60, .istore 4, 2), (62, .aload_n 0, 1), (63, .getfield 79, 3), (66, .iload_n 3, 1), (67, .iaload, 1), (68, .iconst 4, 1), (69, .if_icmp .ne 16, 3), (72, .aload_n 0, 1), (73, .aload_n 0, 1), (74, .getfield 85, 3), (77, .iload_n 3, 1), (78, .iaload, 1), (79, .invokevirtual 240, 3), (82, .goto 4, 3), (85, .iconst (-1), 1), (86, .istore 5, 2), (88, .aload_n 0, 1), (89, .getfield 94, 3), (92, .iload_n 3, 1), (93, .iaload, 1), (94, .iconst (-1), 1), (95, .if_icmp .eq 9, 3), (98, .iinc 2 (-1), 3), (101, .goto 173, 3), (104, .iload 4, 2), (106, .iconst (-1), 1), (107, .if_icmp .eq 28, 3), (110, .aload_n 0, 1), (111, .getfield 94, 3), (114, .iload 4, 2), (116, .iaload, 1), (117, .iconst (-1), 1), (118, .if_icmp .ne 17, 3), (121, .aload_n 0, 1), (122, .getfield 97, 3), (125, .iload_n 2, 1), (126, .iload 4, 2), (128, .iastore, 1), (129, .iinc 2 1, 3), (132, .goto 142, 3), (135, .iload 5, 2), (137, .iconst (-1), 1), (138, .if_icmp .eq 28, 3), (141, .aload_n 0, 1), (142, .getfield 94, 3), (145, .iload 5, 2), (147, .iaload, 1), (148, .iconst (-1), 1), (149, .if_icmp .ne 17, 3), (152, .aload_n 0, 1), (153, .getfield 97, 3), (156, .iload_n 2, 1), (157, .iload 5, 2), (159, .iastore, 1), (160, .iinc 2 1, 3), (163, .goto 111, 3), (166, .aload_n 0, 1), (167, .getfield 70, 3), (170, .aload_n 0, 1), (171, .getfield 304, 3), (174, .aload_n 0, 1), (175, .getfield 79, 3), (178, .iload_n 3, 1), (179, .iaload, 1), (180, .iastore, 1), (181, .aload_n 0, 1), (182, .getfield 73, 3), (185, .aload_n 0, 1), (186, .getfield 304, 3), (189, .iload 4, 2), (191, .iconst (-1), 1), (192, .if_icmp .eq 13, 3), (195, .aload_n 0, 1), (196, .getfield 94, 3), (199, .iload 4, 2), (201, .iaload, 1), (202, .goto 22, 3), (205, .aload_n 0, 1), (206, .getfield 79, 3), (209, .iload_n 3, 1), (210, .iaload, 1), (211, .iconst 2, 1), (212, .if_icmp .ne 11, 3), (215, .aload_n 0, 1), (216, .iload_n 3, 1), (217, .invokevirtual 298, 3), (220, .goto 4, 3), (223, .iconst 0, 1), (224, .iastore, 1), (225, .aload_n 0, 1), (226, .getfield 76, 3), (229, .aload_n 0, 1), (230, .getfield 304, 3), (233, .iload 5, 2), (235, .iconst (-1), 1), (236, .if_icmp .eq 13, 3), (239, .aload_n 0, 1), (240, .getfield 94, 3), (243, .iload 5, 2), (245, .iaload, 1), (246, .goto 4, 3), (249, .iconst 0, 1), (250, .iastore, 1), (251, .aload_n 0, 1), (252, .getfield 94, 3), (255, .iload_n 3, 1), (256, .aload_n 0, 1), (257, .getfield 304, 3), (260, .iastore, 1), (261, .aload_n 0, 1), (262, .dup, 1), (263, .getfield 304, 3), (266, .iconst 1, 1), (267, .iadd, 1), (268, .putfield 304, 3), (271, .iinc 2 (-1), 3), (274, .goto (-265), 3), (277, .aload_n 0, 1), (278, .getfield 94, 3), (281, .aload_n 0, 1), (282, .iload_n 1, 1), (283, .invokevirtual 240, 3), (286, .iaload, 1), (287, .ireturn, 1)]
set_option maxRecDepth 100000 in
theorem pgDk235_0 : ((pgD235.drop 0).take 60).all (fun q => decide (decode prog_14_method_47_code q.1 = .ok q.2)) = true := by decide +kernel
set_option maxRecDepth 100000 in
theorem pgDk235_60 : ((pgD235.drop 60).take 60).all (fun q => decide (decode prog_14_method_47_code q.1 = .ok q.2)) = true := by decide +kernel
set_option maxRecDepth 100000 in
theorem pgDk235_120 : ((pgD235.drop 120).take 60).all (fun q => decide (decode prog_14_method_47_code q.1 = .ok q.2)) = true := by decide +kernel
def pgD236 : List (Nat × Instr × Nat) := [(0, .iload_n 1, 1), (1, .ifCond .lt 31, 3), (4, .iload_n 1, 1), (5, .aload_n 0, 1), (6, .getfield 223, 3), (9, .if_icmp .ge 23, 3), (12, .iload_n 2, 1), (13, .ifCond .lt 19, 3), (16, .iload_n 2, 1), (17, .iconst 2, 1), (18, .aload_n 0, 1), (19, .getfield 59, 3), (22, .iload_n 1, 1), (23, .iaload, 1), (24, .iadd, 1), (25, .if_icmp .ge 7, 3), (28, .iconst 1, 1), (29, .goto 4, 3), (32, .iconst 0, 1), (33, .istore_n 3, 1), (34, .aload_n 0, 1), (35, .iload_n 3, 1), (36, .ifCond .eq 7, 3), (39, .iconst 0, 1), (40, .goto 4, 3), (43, .iconst 1, 1), (44, .putfield 182, 3), (47, .aload_n 0, 1), (48, .getfield 182, 3), (51, .ifCond .eq 5, 3), (54, .iconst 0, 1), (55, .ireturn, 1), (56, .iload_n 2, 1), (57, .ifCond .ne 12, 3), (60, .aload_n 0, 1), (61, .getfield 53, 3), (64, .iload_n 1, 1), (65, .iaload, 1), (66, .goto 30, 3), (69, .iload_n 2, 1), (70, .iconst 1, 1), (71, .if_icmp .ne 12, 3), (74, .aload_n 0, 1), (75, .getfield 59, 3), (78, .iload_n 1, 1), (79, .iaload, 1), (80, .goto 16, 3), (83, .aload_n 0, 1), (84, .getfield 62, 3), (87, .bipush 8, 2), (89, .iload_n 1, 1), (90, .imul, 1), (91, .iload_n 2, 1), (92, .iadd, 1), (93, .iconst 2, 1), (94, .isub, 1), (95, .iaload, 1), (96, .ireturn, 1)]
set_option maxRecDepth 100000 in
theorem pgDk236_0 : ((pgD236.drop 0).take 60).all (fun q => decide (decode prog_14_method_50_code q.1 = .ok q.2)) = true := by decide +kernel
def pgD237 : List (Nat × Instr × Nat) := [(0, .aload_n 0, 1), (1, .iload_n 1, 1), (2, .invokevirtual 199, 3), (5, .ifCond .eq 34, 3), (8, .iload_n 2, 1), (9, .ifCond .lt 30, 3), (12, .iload_n 2, 1), (13, .iconst 3, 1), (14, .if_icmp .ge 25, 3), (17, .iload_n 3, 1), (18, .iconst (-1), 1), (19, .if_icmp .eq 16, 3), (22, .iload_n 2, 1), (23, .iconst 2, 1), (24, .if_icmp .ne 15, 3), (27, .aload_n 0, 1), (28, .iload_n 3, 1), (29, .invokevirtual 199, 3), (32, .ifCond .eq 7, 3), (35, .iconst 1, 1), (36, .goto 4, 3), (39, .iconst 0, 1), (40, .istore 7, 2), (42, .iconst 0, 1), (43, .istore 8, 2), (45, .iload 7, 2), (47, .ifCond .eq 49, 3), (50, .iload 8, 2), (52, .aload_n 0, 1), (53, .getfield 22, 3), (56, .iload_n 1, 1), (57, .iaload, 1), (58, .if_icmp .ge 38, 3), (61, .aload_n 0, 1), (62, .iload 8, 2), (64, .ifCond .ne 8, 3), (67, .iload 4, 2), (69, .goto 16, 3), (72, .iload 8, 2), (74, .iconst 1, 1), (75, .if_icmp .ne 8, 3), (78, .iload 5, 2), (80, .goto 5, 3), (83, .iload 6, 2), (85, .invokevirtual 220, 3), (88, .istore 7, 2), (90, .iinc 8 1, 3), (93, .goto (-48), 3), (96, .aload_n 0, 1), (97, .iload 7, 2), (99, .ifCond .ne 7, 3), (102, .iconst 1, 1), (103, .goto 21, 3), (106, .aload_n 0, 1), (107, .getfield 28, 3), (110, .iconst 3, 1), (111, .iload_n 1, 1), (112, .imul, 1), (113, .iload_n 2, 1), (114, .iadd, 1), (115, .baload, 1), (116, .ifCond .eq 7, 3), (119, .iconst 2, 1), (120, .goto 4, 3), (123, .iconst 0, 1), (124, .putfield 182, 3), (127, .aload_n 0, 1), (128, .getfield 182, 3), (131, .ifCond .eq 5, 3), (134, .iconst 0, 1), (135, .ireturn, 1), (136, .aload_n 0, 1), (137, .iload_n 1, 1), (138, .iload_n 2, 1), (139, .iload_n 3, 1), (140, .invokevirtual 338, 3), (143, .ifCond .ne 6, 3), (146, .bipush (-5), 2), (148, .ireturn, 1), (149, .iconst 3, 1), (150, .iload_n 1, 1), (151, .imul, 1), (152, .iload_n 2, 1), (153, .iadd, 1), (154, .istore 8, 2), (156, .aload_n 0, 1), (157, .getfield 28, 3), (160, .iload 8, 2), (162, .iconst 1, 1), (163, .bastore, 1), (164, .aload_n 0, 1), (165, .getfield 32, 3), (168, .iload 8, 2), (170, .iload_n 3, 1), (171, .iastore, 1), (172, .aload_n 0, 1), (173, .iload_n 3, 1), (174, .putfield 292, 3), (177, .aload_n 0, 1), (178, .getfield 304, 3), (181, .istore 9, 2), (183, .iconst 0, 1), (184, .istore 10, 2), (186, .iconst 0, 1), (187, .istore 11, 2), (189, .iload 11, 2), (191, .aload_n 0, 1), (192, .getfield 22, 3), (195, .iload_n 1, 1), (196, .iaload, 1), (197, .if_icmp .ge 65, 3), (200, .iload 10, 2), (202, .ifCond .ne 60, 3), (205, .iload 11, 2), (207, .ifCond .ne 8, 3), (210, .iload 4, 2), (212, .goto 16, 3), (215, .iload 11, 2), (217, .iconst 1, 1), (218, .if_icmp .ne 8, 3), (221, .iload 5, 2), (223, .goto 5, 3), (226, .iload 6, 2), (228, .istore 12, 2), (230, .aload_n 0, 1), (231, .getfield 35, 3), (234, .iconst 3, 1), (235, .iload 8, 2), (237, .imul, 1), (238, .iload 11, 2), (240, .iadd, 1), (241, .iload 12, 2), (243, .iastore, 1), (244, .aload_n 0, 1), (245, .iload_n 1, 1), (246, .iload_n 2, 1), (247, .iload 11, 2), (249, .iload 12, 2), (251, .invokevirtual 342, 3), (254, .istore 10, 2), (256, .iinc 11 1, 3), (259, .goto (-70), 3), (262, .iload 10, 2), (264, .ifCond .eq 17, 3), (267, .aload_n 0, 1), (268, .getfield 28, 3), (271, .iload 8, 2), (273, .iconst 0, 1), (274, .bastore, 1), (275, .aload_n 0, 1), (276, .iload 9, 2), (278, .putfield 304, 3), (281, .iload 10, 2), (283, .ireturn, 1)]
set_option maxRecDepth 100000 in
theorem pgDk237_0 : ((pgD237.drop 0).take 60).all (fun q => decide (decode prog_14_method_54_code q.1 = .ok q.2)) = true := by decide +kernel
set_option maxRecDepth 100000 in
theorem pgDk237_60 : ((pgD237.drop 60).take 60).all (fun q => decide (decode prog_14_method_54_code q.1 = .ok q.2)) = true := by decide +kernel
set_option maxRecDepth 100000 in
theorem pgDk237_120 : ((pgD237.drop 120).take 60).all (fun q => decide (decode prog_14_method_54_code q.1 = .ok q.2)) = true := by decide +kernel
def pgD238 : List (Nat × Instr × Nat) := [(0, .aload_n 0, 1), (1, .getfield 19, 3), (4, .iload_n 1, 1), (5, .iaload, 1), (6, .istore 4, 2), (8, .iload 4, 2), (10, .iconst (-1), 1), (11, .if_icmp .ne 5, 3), (14, .iconst 1, 1), (15, .ireturn, 1), (16, .aload_n 0, 1), (17, .getfield 28, 3), (20, .iconst 3, 1), (21, .iload 4, 2), (23, .imul, 1), (24, .iload_n 2, 1), (25, .iadd, 1), (26, .baload, 1), (27, .ifCond .ne 5, 3), (30, .iconst 0, 1), (31, .ireturn, 1), (32, .iload_n 2, 1), (33, .iconst 2, 1), (34, .if_icmp .ne 17, 3), (37, .aload_n 0, 1), (38, .getfield 32, 3), (41, .iconst 3, 1), (42, .iload 4, 2), (44, .imul, 1), (45, .iconst 2, 1), (46, .iadd, 1), (47, .iaload, 1), (48, .goto 4, 3), (51, .iconst (-1), 1), (52, .istore 5, 2), (54, .iload 5, 2), (56, .iconst (-1), 1), (57, .if_icmp .eq 18, 3), (60, .iload_n 3, 1), (61, .iconst (-1), 1), (62, .if_icmp .eq 17, 3), (65, .aload_n 0, 1), (66, .iload_n 3, 1), (67, .iload 5, 2), (69, .invokevirtual 295, 3), (72, .ifCond .eq 7, 3), (75, .iconst 1, 1), (76, .goto 4, 3), (79, .iconst 0, 1), (80, .ireturn, 1)]
set_option maxRecDepth 100000 in
theorem pgDk238_0 : ((pgD238.drop 0).take 60).all (fun q => decide (decode prog_14_method_52_code q.1 = .ok q.2)) = true := by decide +kernel
def pgD239 : List (Nat × Instr × Nat) := [(0, .aload_n 0, 1), (1, .iload 4, 2), (3, .invokevirtual 310, 3), (6, .istore 5, 2), (8, .iload_n 2, 1), (9, .iconst 2, 1), (10, .if_icmp .ne 19, 3), (13, .aload_n 0, 1), (14, .iconst 3, 1), (15, .aload_n 0, 1), (16, .iconst 5, 1), (17, .iconst 0, 1), (18, .iconst 0, 1), (19, .invokevirtual 229, 3), (22, .iconst 0, 1), (23, .invokevirtual 229, 3), (26, .goto 10, 3), (29, .aload_n 0, 1), (30, .iload_n 2, 1), (31, .iconst 0, 1), (32, .iconst 0, 1), (33, .invokevirtual 229, 3), (36, .istore 6, 2), (38, .iconst 2, 1), (39, .istore 7, 2), (41, .iload 7, 2), (43, .bipush 10, 2), (45, .if_icmp .ge 18, 3), (48, .aload_n 0, 1), (49, .getfield 100, 3), (52, .iload 7, 2), (54, .iload 6, 2), (56, .iastore, 1), (57, .iinc 7 1, 3), (60, .goto (-19), 3), (63, .iload 5, 2), (65, .ifCond .eq 37, 3), (68, .aload_n 0, 1), (69, .aload_n 0, 1), (70, .getfield 106, 3), (73, .iconst 0, 1), (74, .iaload, 1), (75, .aload_n 0, 1), (76, .aload_n 0, 1), (77, .getfield 25, 3), (80, .iconst 3, 1), (81, .iload_n 1, 1), (82, .imul, 1), (83, .iload_n 3, 1), (84, .iadd, 1), (85, .iaload, 1), (86, .invokevirtual 253, 3), (89, .invokevirtual 256, 3), (92, .ifCond .eq 10, 3), (95, .aload_n 0, 1), (96, .invokevirtual 313, 3), (99, .ifCond .eq 5, 3), (102, .iconst (-1), 1), (103, .ireturn, 1), (104, .aload_n 0, 1), (105, .iconst 0, 1), (106, .putfield 279, 3), (109, .aload_n 0, 1), (110, .invokevirtual 320, 3), (113, .aload_n 0, 1), (114, .getfield 286, 3), (117, .ifCond .eq 6, 3), (120, .bipush (-2), 2), (122, .ireturn, 1), (123, .aload_n 0, 1), (124, .getfield 289, 3), (127, .ifCond .eq 6, 3), (130, .bipush (-3), 2), (132, .ireturn, 1), (133, .aload_n 0, 1), (134, .getfield 282, 3), (137, .ifCond .eq 6, 3), (140, .bipush (-4), 2), (142, .ireturn, 1), (143, .aload_n 0, 1), (144, .iload_n 1, 1), (145, .iload_n 2, 1), (146, .iload_n 3, 1), (147, .invokestatic 335, 3), (150, .invokevirtual 332, 3), (153, .iconst 0, 1), (154, .ireturn, 1)]
set_option maxRecDepth 100000 in
theorem pgDk239_0 : ((pgD239.drop 0).take 60).all (fun q => decide (decode prog_14_method_53_code q.1 = .ok q.2)) = true := by decide +kernel
set_option maxRecDepth 100000 in
theorem pgDk239_60 : ((pgD239.drop 60).take 60).all (fun q => decide (decode prog_14_method_53_code q.1 = .ok q.2)) = true := by decide +kernel
def pgD240 : List (Nat × Instr × Nat) := [(0, .bipush 20, 2), (2, .bipush 9, 2), (4, .iload_n 0, 1), (5, .imul, 1), (6, .iadd, 1), (7, .iconst 3, 1), (8, .iload_n 1, 1), (9, .imul, 1), (10, .iadd, 1), (11, .iload_n 2, 1), (12, .iadd, 1), (13, .ireturn, 1)]
set_option maxRecDepth 100000 in
theorem pgDk240_0 : ((pgD240.drop 0).take 60).all (fun q => decide (decode prog_14_method_51_code q.1 = .ok q.2)) = true := by decide +kernel
def pgD241 : List (Nat × Instr × Nat) := [(0, .iload_n 1, 1), (1, .ifCond .lt 27, 3), (4, .iload_n 1, 1), (5, .aload_n 0, 1), (6, .getfield 223, 3), (9, .if_icmp .ge 19, 3), (12, .iload_n 2, 1), (13, .iconst 1, 1), (14, .if_icmp .lt 14, 3), (17, .iload_n 2, 1), (18, .sipush 300, 3), (21, .if_icmp .gt 7, 3), (24, .iconst 1, 1), (25, .goto 4, 3), (28, .iconst 0, 1), (29, .istore_n 3, 1), (30, .aload_n 0, 1), (31, .iload_n 3, 1), (32, .ifCond .ne 7, 3), (35, .iconst 1, 1), (36, .goto 30, 3), (39, .aload_n 0, 1), (40, .getfield 59, 3), (43, .iload_n 1, 1), (44, .iaload, 1), (45, .ifCond .gt 16, 3), (48, .aload_n 0, 1), (49, .aload_n 0, 1), (50, .getfield 53, 3), (53, .iload_n 1, 1), (54, .iaload, 1), (55, .invokevirtual 403, 3), (58, .ifCond .ne 7, 3), (61, .iconst 2, 1), (62, .goto 4, 3), (65, .iconst 0, 1), (66, .putfield 182, 3), (69, .aload_n 0, 1), (70, .getfield 182, 3), (73, .ifCond .eq 5, 3), (76, .iconst 0, 1), (77, .ireturn, 1), (78, .aload_n 0, 1), (79, .iconst 0, 1), (80, .putfield 351, 3), (83, .aload_n 0, 1), (84, .iload_n 2, 1), (85, .putfield 354, 3), (88, .aload_n 0, 1), (89, .iconst 0, 1), (90, .putfield 357, 3), (93, .aload_n 0, 1), (94, .iconst 0, 1), (95, .putfield 348, 3), (98, .aload_n 0, 1), (99, .iconst 1, 1), (100, .putfield 386, 3), (103, .aload_n 0, 1), (104, .iconst 0, 1), (105, .putfield 345, 3), (108, .aload_n 0, 1), (109, .iconst 0, 1), (110, .iload_n 1, 1), (111, .aload_n 0, 1), (112, .getfield 50, 3), (115, .iload_n 1, 1), (116, .iaload, 1), (117, .iconst 0, 1), (118, .iconst (-1), 1), (119, .iconst 0, 1), (120, .invokevirtual 376, 3), (123, .aload_n 0, 1), (124, .getfield 345, 3), (127, .ifCond .le 17, 3), (130, .aload_n 0, 1), (131, .getfield 357, 3), (134, .ifCond .ne 10, 3), (137, .aload_n 0, 1), (138, .invokevirtual 406, 3), (141, .goto (-18), 3), (144, .aload_n 0, 1), (145, .getfield 357, 3), (148, .ifCond .eq 5, 3), (151, .iconst (-1), 1), (152, .ireturn, 1), (153, .aload_n 0, 1), (154, .iconst 1, 1), (155, .putfield 409, 3), (158, .aload_n 0, 1), (159, .aload_n 0, 1), (160, .getfield 53, 3), (163, .iload_n 1, 1), (164, .iaload, 1), (165, .iconst 1, 1), (166, .if_icmp .le 7, 3), (169, .iconst 1, 1), (170, .goto 4, 3), (173, .iconst 0, 1), (174, .putfield 412, 3), (177, .aload_n 0, 1), (178, .iconst 0, 1), (179, .putfield 415, 3), (182, .aload_n 0, 1), (183, .getfield 373, 3), (186, .istore 4, 2), (188, .aload_n 0, 1), (189, .getfield 412, 3), (192, .ifCond .ne 21, 3), (195, .aload_n 0, 1), (196, .getfield 133, 3), (199, .iconst 0, 1), (200, .aload_n 0, 1), (201, .getfield 139, 3), (204, .iload 4, 2), (206, .iaload, 1), (207, .iastore, 1), (208, .aload_n 0, 1), (209, .iconst 1, 1), (210, .putfield 415, 3), (213, .aload_n 0, 1), (214, .getfield 412, 3), (217, .ifCond .eq 57, 3), (220, .aload_n 0, 1), (221, .getfield 136, 3), (224, .iload 4, 2), (226, .iaload, 1), (227, .iconst 3, 1), (228, .if_icmp .ne 46, 3), (231, .aload_n 0, 1), (232, .getfield 133, 3), (235, .aload_n 0, 1), (236, .getfield 415, 3), (239, .aload_n 0, 1), (240, .getfield 139, 3), (243, .aload_n 0, 1), (244, .getfield 139, 3), (247, .iload 4, 2), (249, .iaload, 1), (250, .iaload, 1), (251, .iastore, 1), (252, .aload_n 0, 1), (253, .dup, 1), (254, .getfield 415, 3), (257, .iconst 1, 1), (258, .iadd, 1), (259, .putfield 415, 3), (262, .aload_n 0, 1), (263, .getfield 142, 3), (266, .iload 4, 2), (268, .iaload, 1), (269, .istore 4, 2), (271, .goto (-58), 3), (274, .aload_n 0, 1), (275, .getfield 351, 3), (278, .ireturn, 1)]
set_option maxRecDepth 100000 in
theorem pgDk241_0 : ((pgD241.drop 0).take 60).all (fun q => decide (decode prog_14_method_66_code q.1 = .ok q.2)) = true := by decide +kernel
set_option maxRecDepth 100000 in
theorem pgDk241_60 : ((pgD241.drop 60).take 60).all (fun q => decide (decode prog_14_method_66_code q.1 = .ok q.2)) = true := by decide +kernel
set_option maxRecDepth 100000 in
theorem pgDk241_120 : ((pgD241.drop 120).take 60).all (fun q => decide (decode prog_14_method_66_code q.1 = .ok q.2)) = true := by decide +kernel
def pgD242 : List (Nat × Instr × Nat) := [(0, .iload_n 1, 1), (1, .iconst 2, 1), (2, .if_icmp .lt 23, 3), (5, .aload_n 0, 1), (6, .getfield 7, 3), (9, .iload_n 1, 1), (10, .iaload, 1), (11, .iconst 3, 1), (12, .if_icmp .ne 17, 3), (15, .aload_n 0, 1), (16, .getfield 13, 3), (19, .iload_n 1, 1), (20, .iaload, 1), (21, .iconst 2, 1), (22, .if_icmp .ge 7, 3), (25, .iconst 1, 1), (26, .goto 4, 3), (29, .iconst 0, 1), (30, .ireturn, 1)]
set_option maxRecDepth 100000 in
theorem pgDk242_0 : ((pgD242.drop 0).take 60).all (fun q => decide (decode prog_14_method_65_code q.1 = .ok q.2)) = true := by decide +kernel
def pgD243 : List (Nat × Instr × Nat) := [(0, .aload_n 0, 1), (1, .getfield 160, 3), (4, .aload_n 0, 1), (5, .getfield 345, 3), (8, .iload_n 1, 1), (9, .iastore, 1), (10, .aload_n 0, 1), (11, .getfield 163, 3), (14, .aload_n 0, 1), (15, .getfield 345, 3), (18, .iload_n 2, 1), (19, .iastore, 1), (20, .aload_n 0, 1), (21, .getfield 166, 3), (24, .aload_n 0, 1), (25, .getfield 345, 3), (28, .iload_n 3, 1), (29, .iastore, 1), (30, .aload_n 0, 1), (31, .getfield 169, 3), (34, .aload_n 0, 1), (35, .getfield 345, 3), (38, .iload 4, 2), (40, .iastore, 1), (41, .aload_n 0, 1), (42, .getfield 172, 3), (45, .aload_n 0, 1), (46, .getfield 345, 3), (49, .iload 5, 2), (51, .iastore, 1), (52, .aload_n 0, 1), (53, .getfield 175, 3), (56, .aload_n 0, 1), (57, .getfield 345, 3), (60, .iload 6, 2), (62, .iastore, 1), (63, .aload_n 0, 1), (64, .dup, 1), (65, .getfield 345, 3), (68, .iconst 1, 1), (69, .iadd, 1), (70, .putfield 345, 3), (73, .return_, 1)]
set_option maxRecDepth 100000 in
theorem pgDk243_0 : ((pgD243.drop 0).take 60).all (fun q => decide (decode prog_14_method_55_code q.1 = .ok q.2)) = true := by decide +kernel
def pgD244 : List (Nat × Instr × Nat) := [(0, .aload_n 0, 1), (1, .dup, 1), (2, .getfield 345, 3), (5, .iconst 1, 1), (6, .isub, 1), (7, .putfield 345, 3), (10, .aload_n 0, 1), (11, .getfield 345, 3), (14, .istore_n 1, 1), (15, .aload_n 0, 1), (16, .getfield 163, 3), (19, .iload_n 1, 1), (20, .iaload, 1), (21, .istore_n 2, 1), (22, .aload_n 0, 1), (23, .getfield 166, 3), (26, .iload_n 1, 1), (27, .iaload, 1), (28, .istore_n 3, 1), (29, .aload_n 0, 1), (30, .getfield 169, 3), (33, .iload_n 1, 1), (34, .iaload, 1), (35, .istore 4, 2), (37, .aload_n 0, 1), (38, .getfield 172, 3), (41, .iload_n 1, 1), (42, .iaload, 1), (43, .istore 5, 2), (45, .aload_n 0, 1), (46, .getfield 175, 3), (49, .iload_n 1, 1), (50, .iaload, 1), (51, .istore 6, 2), (53, .aload_n 0, 1), (54, .getfield 160, 3), (57, .iload_n 1, 1), (58, .iaload, 1), (59, .tableswitch 140 0 5 #[37, 50, 77, 140, 140, 87], 37), (96, .aload_n 0, 1), (97, .iload_n 2, 1), (98, .iload_n 3, 1), (99, .iload 4, 2), (101, .iload 5, 2), (103, .iload 6, 2), (105, .invokevirtual 396, 3), (108, .return_, 1), (109, .aload_n 0, 1), (110, .iconst 2, 1), (111, .aload_n 0, 1), (112, .getfield 373, 3), (115, .iconst 0, 1), (116, .iconst 0, 1), (117, .iconst 0, 1), (118, .iconst 0, 1), (119, .invokevirtual 376, 3), (122, .aload_n 0, 1), (123, .iconst 0, 1), (124, .iload_n 2, 1), (125, .iload_n 3, 1), (126, .iload 4, 2), (128, .iload 5, 2), (130, .iload 6, 2), (132, .invokevirtual 376, 3), (135, .return_, 1), (136, .aload_n 0, 1), (137, .iload_n 2, 1), (138, .aload_n 0, 1), (139, .getfield 373, 3), (142, .invokevirtual 400, 3), (145, .return_, 1), (146, .iload_n 3, 1), (147, .iconst (-1), 1), (148, .if_icmp .eq 10, 3), (151, .aload_n 0, 1), (152, .invokevirtual 366, 3), (155, .ifCond .ne 4, 3), (158, .return_, 1), (159, .aload_n 0, 1), (160, .iconst 5, 1), (161, .iload_n 2, 1), (162, .aload_n 0, 1), (163, .getfield 142, 3), (166, .iload_n 3, 1), (167, .iaload, 1), (168, .iconst 0, 1), (169, .iconst 0, 1), (170, .iconst 0, 1), (171, .invokevirtual 376, 3), (174, .aload_n 0, 1), (175, .iconst 4, 1), (176, .aload_n 0, 1), (177, .getfield 373, 3), (180, .iconst 0, 1), (181, .iconst 0, 1), (182, .iconst 0, 1), (183, .iconst 0, 1), (184, .invokevirtual 376, 3), (187, .aload_n 0, 1), (188, .iload_n 2, 1), (189, .aload_n 0, 1), (190, .getfield 139, 3), (193, .iload_n 3, 1), (194, .iaload, 1), (195, .invokevirtual 400, 3), (198, .return_, 1), (199, .aload_n 0, 1), (200, .aload_n 0, 1), (201, .getfield 373, 3), (204, .iload_n 2, 1), (205, .invokevirtual 400, 3), (208, .return_, 1)]
set_option maxRecDepth 100000 in
theorem pgDk244_0 : ((pgD244.drop 0).take 60).all (fun q => decide (decode prog_14_method_64_code q.1 = .ok q.2)) = true := by decide +kernel
set_option maxRecDepth 100000 in
theorem pgDk244_60 : ((pgD244.drop 60).take 60).all (fun q => decide (decode prog_14_method_64_code q.1 = .ok q.2)) = true := by decide +kernel
def pgD245 : List (Nat × Instr × Nat) := [(0, .aload_n 0, 1), (1, .invokevirtual 366, 3), (4, .ifCond .ne 4, 3), (7, .return_, 1), (8, .bipush 8, 2), (10, .bipush 60, 2), (12, .iload_n 1, 1), (13, .imul, 1), (14, .iload_n 3, 1), (15, .iadd, 1), (16, .imul, 1), (17, .istore 6, 2), (19, .aload_n 0, 1), (20, .getfield 38, 3), (23, .iload_n 2, 1), (24, .iaload, 1), (25, .tableswitch 373 0 5 #[39, 59, 132, 177, 201, 252], 39), (64, .aload_n 0, 1), (65, .aload_n 0, 1), (66, .iconst 0, 1), (67, .aload_n 0, 1), (68, .getfield 41, 3), (71, .iload_n 2, 1), (72, .iaload, 1), (73, .iconst 0, 1), (74, .iconst 0, 1), (75, .iconst 0, 1), (76, .iconst 0, 1), (77, .invokevirtual 369, 3), (80, .putfield 373, 3), (83, .return_, 1), (84, .aload_n 0, 1), (85, .aload_n 0, 1), (86, .getfield 41, 3), (89, .iload_n 2, 1), (90, .iaload, 1), (91, .iconst 2, 1), (92, .if_icmp .ge 23, 3), (95, .aload_n 0, 1), (96, .iconst 1, 1), (97, .iconst 1, 1), (98, .aload_n 0, 1), (99, .getfield 41, 3), (102, .iload_n 2, 1), (103, .iaload, 1), (104, .isub, 1), (105, .iconst 0, 1), (106, .iconst 0, 1), (107, .iconst 0, 1), (108, .iconst 0, 1), (109, .invokevirtual 369, 3), (112, .goto 41, 3), (115, .aload_n 0, 1), (116, .getfield 41, 3), (119, .iload_n 2, 1), (120, .iaload, 1), (121, .iconst 5, 1), (122, .if_icmp .ne 16, 3), (125, .aload_n 0, 1), (126, .iconst 2, 1), (127, .iconst 0, 1), (128, .iconst 0, 1), (129, .iconst 0, 1), (130, .iconst 0, 1), (131, .iconst 0, 1), (132, .invokevirtual 369, 3), (135, .goto 18, 3), (138, .aload_n 0, 1), (139, .iconst 4, 1), (140, .aload_n 0, 1), (141, .getfield 41, 3), (144, .iload_n 2, 1), (145, .iaload, 1), (146, .iconst 0, 1), (147, .iconst (-1), 1), (148, .iconst (-1), 1), (149, .iconst 0, 1), (150, .invokevirtual 369, 3), (153, .putfield 373, 3), (156, .return_, 1), (157, .iload 4, 2), (159, .istore 7, 2), (161, .iconst 0, 1), (162, .istore 8, 2), (164, .iload 8, 2), (166, .aload_n 0, 1), (167, .getfield 41, 3), (170, .iload_n 2, 1), (171, .iaload, 1), (172, .if_icmp .ge 18, 3), (175, .aload_n 0, 1), (176, .getfield 142, 3), (179, .iload 7, 2), (181, .iaload, 1), (182, .istore 7, 2), (184, .iinc 8 1, 3), (187, .goto (-23), 3), (190, .aload_n 0, 1), (191, .aload_n 0, 1), (192, .getfield 139, 3), (195, .iload 7, 2), (197, .iaload, 1), (198, .putfield 373, 3), (201, .return_, 1), (202, .aload_n 0, 1), (203, .aload_n 0, 1), (204, .iconst 5, 1), (205, .iload_n 1, 1), (206, .aload_n 0, 1), (207, .getfield 41, 3), (210, .iload_n 2, 1), (211, .iaload, 1), (212, .iload_n 3, 1), (213, .iconst 1, 1), (214, .iadd, 1), (215, .iload 4, 2), (217, .iload 5, 2), (219, .invokevirtual 369, 3), (222, .putfield 373, 3), (225, .return_, 1), (226, .aload_n 0, 1), (227, .iconst 1, 1), (228, .iload_n 1, 1), (229, .aload_n 0, 1), (230, .getfield 44, 3), (233, .iload_n 2, 1), (234, .iaload, 1), (235, .iload_n 3, 1), (236, .iconst 1, 1), (237, .iadd, 1), (238, .aload_n 0, 1), (239, .getfield 47, 3), (242, .aload_n 0, 1), (243, .getfield 41, 3), (246, .iload_n 2, 1), (247, .iaload, 1), (248, .iaload, 1), (249, .iadd, 1), (250, .iload 4, 2), (252, .iload 5, 2), (254, .invokevirtual 376, 3), (257, .aload_n 0, 1), (258, .iconst 0, 1), (259, .iload_n 1, 1), (260, .aload_n 0, 1), (261, .getfield 41, 3), (264, .iload_n 2, 1), (265, .iaload, 1), (266, .iload_n 3, 1), (267, .iconst 1, 1), (268, .iadd, 1), (269, .iload 4, 2), (271, .iload 5, 2), (273, .invokevirtual 376, 3), (276, .return_, 1), (277, .aload_n 0, 1), (278, .aload_n 0, 1), (279, .getfield 66, 3), (282, .iload 6, 2), (284, .iaload, 1), (285, .iload 5, 2), (287, .invokevirtual 380, 3), (290, .aload_n 0, 1), (291, .getfield 70, 3), (294, .aload_n 0, 1), (295, .getfield 360, 3), (298, .iaload, 1), (299, .iconst 3, 1), (300, .if_icmp .ne 7, 3), (303, .iconst 2, 1), (304, .goto 12, 3), (307, .aload_n 0, 1), (308, .getfield 70, 3), (311, .aload_n 0, 1), (312, .getfield 360, 3), (315, .iaload, 1), (316, .istore 7, 2), (318, .iload 7, 2), (320, .iconst 2, 1), (321, .if_icmp .ne 20, 3), (324, .aload_n 0, 1), (325, .aload_n 0, 1), (326, .getfield 73, 3), (329, .aload_n 0, 1), (330, .getfield 360, 3), (333, .iaload, 1), (334, .aload_n 0, 1), (335, .getfield 363, 3), (338, .invokevirtual 383, 3), (341, .aload_n 0, 1), (342, .iconst 0, 1), (343, .aload_n 0, 1), (344, .getfield 41, 3), (347, .iload_n 2, 1), (348, .iaload, 1), (349, .iload 7, 2), (351, .aload_n 0, 1), (352, .getfield 44, 3), (355, .iload_n 2, 1), (356, .iaload, 1), (357, .invokestatic 335, 3), (360, .aload_n 0, 1), (361, .getfield 35, 3), (364, .bipush 9, 2), (366, .aload_n 0, 1), (367, .getfield 41, 3), (370, .iload_n 2, 1), (371, .iaload, 1), (372, .imul, 1), (373, .iconst 3, 1), (374, .iload 7, 2), (376, .imul, 1), (377, .iadd, 1), (378, .aload_n 0, 1), (379, .getfield 44, 3), (382, .iload_n 2, 1), (383, .iaload, 1), (384, .iadd, 1), (385, .iaload, 1), (386, .iconst 0, 1), (387, .iconst (-1), 1), (388, .aload_n 0, 1), (389, .getfield 386, 3), (392, .iconst 1, 1), (393, .isub, 1), (394, .invokevirtual 376, 3), (397, .return_, 1), (398, .aload_n 0, 1), (399, .getfield 41, 3), (402, .iload_n 2, 1), (403, .iaload, 1), (404, .istore 7, 2), (406, .iconst 0, 1), (407, .istore 8, 2), (409, .iload 8, 2), (411, .aload_n 0, 1), (412, .getfield 56, 3), (415, .iload 7, 2), (417, .iaload, 1), (418, .if_icmp .ge 51, 3), (421, .aload_n 0, 1), (422, .getfield 154, 3), (425, .bipush 8, 2), (427, .aload_n 0, 1), (428, .getfield 386, 3), (431, .imul, 1), (432, .iload 8, 2), (434, .iadd, 1), (435, .aload_n 0, 1), (436, .getfield 66, 3), (439, .iload 6, 2), (441, .iload 8, 2), (443, .iadd, 1), (444, .iaload, 1), (445, .iastore, 1), (446, .aload_n 0, 1), (447, .getfield 157, 3), (450, .bipush 8, 2), (452, .aload_n 0, 1), (453, .getfield 386, 3), (456, .imul, 1), (457, .iload 8, 2), (459, .iadd, 1), (460, .iload 5, 2), (462, .iastore, 1), (463, .iinc 8 1, 3), (466, .goto (-57), 3), (469, .aload_n 0, 1), (470, .dup, 1), (471, .getfield 386, 3), (474, .iconst 1, 1), (475, .iadd, 1), (476, .putfield 386, 3), (479, .aload_n 0, 1), (480, .iconst 0, 1), (481, .iload 7, 2), (483, .aload_n 0, 1), (484, .getfield 50, 3), (487, .iload 7, 2), (489, .iaload, 1), (490, .iconst 0, 1), (491, .iconst (-1), 1), (492, .aload_n 0, 1), (493, .getfield 386, 3), (496, .iconst 1, 1), (497, .isub, 1), (498, .invokevirtual 376, 3), (501, .return_, 1)]
set_option maxRecDepth 100000 in
theorem pgDk245_0 : ((pgD245.drop 0).take 60).all (fun q => decide (decode prog_14_method_59_code q.1 = .ok q.2)) = true := by decide +kernel
set_option maxRecDepth 100000 in
theorem pgDk245_60 : ((pgD245.drop 60).take 60).all (fun q => decide (decode prog_14_method_59_code q.1 = .ok q.2)) = true := by decide +kernel
set_option maxRecDepth 100000 in
theorem pgDk245_120 : ((pgD245.drop 120).take 60).all (fun q => decide (decode prog_14_method_59_code q.1 = .ok q.2)) = true := by decide +kernel
set_option maxRecDepth 100000 in
theorem pgDk245_180 : ((pgD245.drop 180).take 60).all (fun q => decide (decode prog_14_method_59_code q.1 = .ok q.2)) = true := by decide +kernel
set_option maxRecDepth 100000 in
theorem pgDk245_240 : ((pgD245.drop 240).take 60).all (fun q => decide (decode prog_14_method_59_code q.1 = .ok q.2)) = true := by decide +kernel
def pgD246 : List (Nat × Instr × Nat) := [(0, .aload_n 0, 1), (1, .getfield 351, 3), (4, .aload_n 0, 1), (5, .getfield 354, 3), (8, .if_icmp .ne 10, 3), (11, .aload_n 0, 1), (12, .iconst 1, 1), (13, .putfield 357, 3), (16, .iconst 0, 1), (17, .ireturn, 1), (18, .aload_n 0, 1), (19, .dup, 1), (20, .getfield 351, 3), (23, .iconst 1, 1), (24, .iadd, 1), (25, .putfield 351, 3), (28, .iconst 1, 1), (29, .ireturn, 1)]
set_option maxRecDepth 100000 in
theorem pgDk246_0 : ((pgD246.drop 0).take 60).all (fun q => decide (decode prog_14_method_57_code q.1 = .ok q.2)) = true := by decide +kernel
def pgD247 : List (Nat × Instr × Nat) := [(0, .aload_n 0, 1), (1, .getfield 136, 3), (4, .aload_n 0, 1), (5, .getfield 348, 3), (8, .iload_n 1, 1), (9, .iastore, 1), (10, .aload_n 0, 1), (11, .getfield 139, 3), (14, .aload_n 0, 1), (15, .getfield 348, 3), (18, .iload_n 2, 1), (19, .iastore, 1), (20, .aload_n 0, 1), (21, .getfield 142, 3), (24, .aload_n 0, 1), (25, .getfield 348, 3), (28, .iload_n 3, 1), (29, .iastore, 1), (30, .aload_n 0, 1), (31, .getfield 145, 3), (34, .aload_n 0, 1), (35, .getfield 348, 3), (38, .iload 4, 2), (40, .iastore, 1), (41, .aload_n 0, 1), (42, .getfield 148, 3), (45, .aload_n 0, 1), (46, .getfield 348, 3), (49, .iload 5, 2), (51, .iastore, 1), (52, .aload_n 0, 1), (53, .getfield 151, 3), (56, .aload_n 0, 1), (57, .getfield 348, 3), (60, .iload 6, 2), (62, .iastore, 1), (63, .aload_n 0, 1), (64, .dup, 1), (65, .getfield 348, 3), (68, .iconst 1, 1), (69, .iadd, 1), (70, .putfield 348, 3), (73, .aload_n 0, 1), (74, .getfield 348, 3), (77, .iconst 1, 1), (78, .isub, 1), (79, .ireturn, 1)]
set_option maxRecDepth 100000 in
theorem pgDk247_0 : ((pgD247.drop 0).take 60).all (fun q => decide (decode prog_14_method_56_code q.1 = .ok q.2)) = true := by decide +kernel
def pgD248 : List (Nat × Instr × Nat) := [(0, .aload_n 0, 1), (1, .iload_n 1, 1), (2, .putfield 360, 3), (5, .aload_n 0, 1), (6, .iload_n 2, 1), (7, .putfield 363, 3), (10, .aload_n 0, 1), (11, .getfield 70, 3), (14, .aload_n 0, 1), (15, .getfield 360, 3), (18, .iaload, 1), (19, .iconst 2, 1), (20, .if_icmp .eq 16, 3), (23, .aload_n 0, 1), (24, .getfield 70, 3), (27, .aload_n 0, 1), (28, .getfield 360, 3), (31, .iaload, 1), (32, .iconst 5, 1), (33, .if_icmp .ne 66, 3), (36, .aload_n 0, 1), (37, .getfield 70, 3), (40, .aload_n 0, 1), (41, .getfield 360, 3), (44, .iaload, 1), (45, .iconst 5, 1), (46, .if_icmp .ne 7, 3), (49, .iconst 0, 1), (50, .goto 12, 3), (53, .aload_n 0, 1), (54, .getfield 73, 3), (57, .aload_n 0, 1), (58, .getfield 360, 3), (61, .iaload, 1), (62, .istore_n 3, 1), (63, .bipush 8, 2), (65, .aload_n 0, 1), (66, .getfield 363, 3), (69, .imul, 1), (70, .iload_n 3, 1), (71, .iadd, 1), (72, .istore 4, 2), (74, .aload_n 0, 1), (75, .aload_n 0, 1), (76, .getfield 154, 3), (79, .iload 4, 2), (81, .iaload, 1), (82, .putfield 360, 3), (85, .aload_n 0, 1), (86, .aload_n 0, 1), (87, .getfield 157, 3), (90, .iload 4, 2), (92, .iaload, 1), (93, .putfield 363, 3), (96, .goto (-86), 3), (99, .return_, 1)]
set_option maxRecDepth 100000 in
theorem pgDk248_0 : ((pgD248.drop 0).take 60).all (fun q => decide (decode prog_14_method_58_code q.1 = .ok q.2)) = true := by decide +kernel
def pgD249 : List (Nat × Instr × Nat) := [(0, .aload_n 0, 1), (1, .getfield 154, 3), (4, .bipush 8, 2), (6, .aload_n 0, 1), (7, .getfield 386, 3), (10, .imul, 1), (11, .iload_n 1, 1), (12, .iastore, 1), (13, .aload_n 0, 1), (14, .getfield 157, 3), (17, .bipush 8, 2), (19, .aload_n 0, 1), (20, .getfield 386, 3), (23, .imul, 1), (24, .iload_n 2, 1), (25, .iastore, 1), (26, .aload_n 0, 1), (27, .dup, 1), (28, .getfield 386, 3), (31, .iconst 1, 1), (32, .iadd, 1), (33, .putfield 386, 3), (36, .return_, 1)]
set_option maxRecDepth 100000 in
theorem pgDk249_0 : ((pgD249.drop 0).take 60).all (fun q => decide (decode prog_14_method_60_code q.1 = .ok q.2)) = true := by decide +kernel
def pgD250 : List (Nat × Instr × Nat) := [(0, .aload_n 0, 1), (1, .getfield 136, 3), (4, .iload_n 1, 1), (5, .iaload, 1), (6, .iconst 5, 1), (7, .if_icmp .ne 51, 3), (10, .aload_n 0, 1), (11, .bipush 6, 2), (13, .iload_n 2, 1), (14, .aload_n 0, 1), (15, .getfield 148, 3), (18, .iload_n 1, 1), (19, .iaload, 1), (20, .iconst 0, 1), (21, .iconst 0, 1), (22, .iconst 0, 1), (23, .invokevirtual 369, 3), (26, .istore_n 3, 1), (27, .aload_n 0, 1), (28, .iconst 0, 1), (29, .aload_n 0, 1), (30, .getfield 139, 3), (33, .iload_n 1, 1), (34, .iaload, 1), (35, .aload_n 0, 1), (36, .getfield 142, 3), (39, .iload_n 1, 1), (40, .iaload, 1), (41, .aload_n 0, 1), (42, .getfield 145, 3), (45, .iload_n 1, 1), (46, .iaload, 1), (47, .iload_n 3, 1), (48, .aload_n 0, 1), (49, .getfield 151, 3), (52, .iload_n 1, 1), (53, .iaload, 1), (54, .invokevirtual 376, 3), (57, .return_, 1), (58, .aload_n 0, 1), (59, .getfield 139, 3), (62, .iload_n 1, 1), (63, .iaload, 1), (64, .istore_n 3, 1), (65, .aload_n 0, 1), (66, .getfield 142, 3), (69, .iload_n 1, 1), (70, .iaload, 1), (71, .iconst 1, 1), (72, .iadd, 1), (73, .istore 4, 2), (75, .iload 4, 2), (77, .iconst 1, 1), (78, .if_icmp .ne 7, 3), (81, .iload_n 2, 1), (82, .goto 9, 3), (85, .aload_n 0, 1), (86, .getfield 145, 3), (89, .iload_n 1, 1), (90, .iaload, 1), (91, .istore 5, 2), (93, .iload 4, 2), (95, .iconst 2, 1), (96, .if_icmp .ne 7, 3), (99, .iload_n 2, 1), (100, .goto 9, 3), (103, .aload_n 0, 1), (104, .getfield 148, 3), (107, .iload_n 1, 1), (108, .iaload, 1), (109, .istore 6, 2), (111, .iload 4, 2), (113, .iload_n 3, 1), (114, .invokestatic 389, 3), (117, .if_icmp .ge 21, 3), (120, .aload_n 0, 1), (121, .aload_n 0, 1), (122, .iconst 4, 1), (123, .iload_n 3, 1), (124, .iload 4, 2), (126, .iload 5, 2), (128, .iload 6, 2), (130, .iconst 0, 1), (131, .invokevirtual 369, 3), (134, .putfield 373, 3), (137, .return_, 1), (138, .iload_n 3, 1), (139, .tableswitch 137 2 6 #[33, 62, 98, 137, 120], 33), (172, .aload_n 0, 1), (173, .aload_n 0, 1), (174, .iconst 0, 1), (175, .aload_n 0, 1), (176, .getfield 139, 3), (179, .iload 5, 2), (181, .iaload, 1), (182, .aload_n 0, 1), (183, .getfield 139, 3), (186, .iload 6, 2), (188, .iaload, 1), (189, .iadd, 1), (190, .iconst 0, 1), (191, .iconst 0, 1), (192, .iconst 0, 1), (193, .iconst 0, 1), (194, .invokevirtual 369, 3), (197, .putfield 373, 3), (200, .return_, 1), (201, .aload_n 0, 1), (202, .aload_n 0, 1), (203, .iconst 1, 1), (204, .aload_n 0, 1), (205, .getfield 139, 3), (208, .iload 5, 2), (210, .iaload, 1), (211, .aload_n 0, 1), (212, .getfield 139, 3), (215, .iload 6, 2), (217, .iaload, 1), (218, .if_icmp .ge 7, 3), (221, .iconst 1, 1), (222, .goto 4, 3), (225, .iconst 0, 1), (226, .iconst 0, 1), (227, .iconst 0, 1), (228, .iconst 0, 1), (229, .iconst 0, 1), (230, .invokevirtual 369, 3), (233, .putfield 373, 3), (236, .return_, 1), (237, .aload_n 0, 1), (238, .aload_n 0, 1), (239, .getfield 139, 3), (242, .iload 5, 2), (244, .iaload, 1), (245, .iconst 1, 1), (246, .if_icmp .ne 8, 3), (249, .iload 6, 2), (251, .goto 4, 3), (254, .iload_n 2, 1), (255, .putfield 373, 3), (258, .return_, 1), (259, .aload_n 0, 1), (260, .aload_n 0, 1), (261, .iconst 3, 1), (262, .iload 5, 2), (264, .iload 6, 2), (266, .iconst 0, 1), (267, .iconst 0, 1), (268, .iconst 0, 1), (269, .invokevirtual 369, 3), (272, .putfield 373, 3), (275, .return_, 1), (276, .aload_n 0, 1), (277, .iload 5, 2), (279, .iload 6, 2), (281, .iload_n 2, 1), (282, .invokevirtual 392, 3), (285, .return_, 1)]
set_option maxRecDepth 100000 in
theorem pgDk250_0 : ((pgD250.drop 0).take 60).all (fun q => decide (decode prog_14_method_62_code q.1 = .ok q.2)) = true := by decide +kernel
set_option maxRecDepth 100000 in
theorem pgDk250_60 : ((pgD250.drop 60).take 60).all (fun q => decide (decode prog_14_method_62_code q.1 = .ok q.2)) = true := by decide +kernel
set_option maxRecDepth 100000 in
theorem pgDk250_120 : ((pgD250.drop 120).take 60).all (fun q => decide (decode prog_14_method_62_code q.1 = .ok q.2)) = true := by decide +kernel
def pgD251 : List (Nat × Instr × Nat) := [(0, .iload_n 0, 1), (1, .iconst 4, 1), (2, .if_icmp .eq 9, 3), (5, .iload_n 0, 1), (6, .bipush 7, 2), (8, .if_icmp .ne 7, 3), (11, .iconst 3, 1), (12, .goto 4, 3), (15, .iconst 2, 1), (16, .ireturn, 1)]
set_option maxRecDepth 100000 in
theorem pgDk251_0 : ((pgD251.drop 0).take 60).all (fun q => decide (decode prog_14_method_61_code q.1 = .ok q.2)) = true := by decide +kernel
def pgD252 : List (Nat × Instr × Nat) := [(0, .iconst (-1), 1), (1, .istore 4, 2), (3, .iload_n 3, 1), (4, .istore 5, 2), (6, .aload_n 0, 1), (7, .getfield 136, 3), (10, .iload 5, 2), (12, .iaload, 1), (13, .iconst 3, 1), (14, .if_icmp .ne 35, 3), (17, .aload_n 0, 1), (18, .bipush 6, 2), (20, .aload_n 0, 1), (21, .getfield 139, 3), (24, .iload 5, 2), (26, .iaload, 1), (27, .iload 4, 2), (29, .iconst 0, 1), (30, .iconst 0, 1), (31, .iconst 0, 1), (32, .invokevirtual 369, 3), (35, .istore 4, 2), (37, .aload_n 0, 1), (38, .getfield 142, 3), (41, .iload 5, 2), (43, .iaload, 1), (44, .istore 5, 2), (46, .goto (-40), 3), (49, .aload_n 0, 1), (50, .iload_n 2, 1), (51, .putfield 373, 3), (54, .aload_n 0, 1), (55, .iconst 5, 1), (56, .iload_n 1, 1), (57, .iload 4, 2), (59, .iconst 0, 1), (60, .iconst 0, 1), (61, .iconst 0, 1), (62, .invokevirtual 376, 3), (65, .return_, 1)]
set_option maxRecDepth 100000 in
theorem pgDk252_0 : ((pgD252.drop 0).take 60).all (fun q => decide (decode prog_14_method_63_code q.1 = .ok q.2)) = true := by decide +kernel
def pgD253 : List (Nat × Instr × Nat) := [(0, .aload_n 0, 1), (1, .aload_n 0, 1), (2, .getfield 409, 3), (5, .ifCond .eq 20, 3), (8, .iload_n 1, 1), (9, .iconst (-1), 1), (10, .if_icmp .lt 15, 3), (13, .iload_n 1, 1), (14, .aload_n 0, 1), (15, .getfield 415, 3), (18, .if_icmp .ge 7, 3), (21, .iconst 0, 1), (22, .goto 4, 3), (25, .iconst 1, 1), (26, .putfield 182, 3), (29, .aload_n 0, 1), (30, .getfield 182, 3), (33, .ifCond .eq 5, 3), (36, .iconst 0, 1), (37, .ireturn, 1), (38, .iload_n 1, 1), (39, .iconst (-1), 1), (40, .if_icmp .ne 21, 3), (43, .aload_n 0, 1), (44, .getfield 412, 3), (47, .ifCond .eq 10, 3), (50, .aload_n 0, 1), (51, .getfield 415, 3), (54, .goto 13, 3), (57, .iconst 1, 1), (58, .goto 9, 3), (61, .aload_n 0, 1), (62, .getfield 133, 3), (65, .iload_n 1, 1), (66, .iaload, 1), (67, .ireturn, 1)]
set_option maxRecDepth 100000 in
theorem pgDk253_0 : ((pgD253.drop 0).take 60).all (fun q => decide (decode prog_14_method_67_code q.1 = .ok q.2)) = true := by decide +kernel
end
section
/-! THE SMALL MACHINE WITH INTS THAT ARE NOT KNOWN: an int is itself or the i-th unknown one; of an unknown one its kind is known: 1 below -1, 2 above 9, 100 + m its last five bits are m, else nothing. -/
abbrev amI : Type := Int32 ⊕ Nat
abbrev amV : Type := amI ⊕ (Int64 ⊕ (Option Nat ⊕ Nat))
abbrev amC : Type := (Nat × Nat × (List (Nat × amI) ⊕ List (Nat × Int64))) ⊕ (Nat × List amV)
abbrev amH : Type := Bool × List amC
abbrev amL : Type := List (Nat × amV)
abbrev amR : Type := Option amV ⊕ String
abbrev amO : Type := amR × amH × Nat × Nat
def amGi (ρ : Nat → Int32) (a : amI) : Int32 := match a with
  | .inl x => x
  | .inr i => ρ i
def amGv (ρ : Nat → Int32) (v : amV) : mvV := match v with
  | .inl a => .inl (amGi ρ a)
  | .inr w => .inr w
def amGc (ρ : Nat → Int32) (c : amC) : mvC := match c with
  | .inl (t, n, .inl f) => .inl (t, n, .inl (f.map (fun q => (q.1, amGi ρ q.2))))
  | .inl (t, n, .inr f) => .inl (t, n, .inr f)
  | .inr (ci, fs) => .inr (ci, fs.map (amGv ρ))
def amGh (ρ : Nat → Int32) (h : amH) : mvH := (h.1, h.2.map (amGc ρ))
def amGl (ρ : Nat → Int32) (lv : amL) : mvL := lv.map (fun q => (q.1, amGv ρ q.2))
def amGr (ρ : Nat → Int32) (r : amR) : mvR := match r with
  | .inl v => .inl (v.map (amGv ρ))
  | .inr ex => .inr ex
def amGo (ρ : Nat → Int32) (o : amO) : mvO := (amGr ρ o.1, amGh ρ o.2.1, o.2.2.1, o.2.2.2)
/-- kinds -/
def amOk (k : Nat) (x : Int32) : Prop := (k = 1 → x < -1) ∧ (k = 2 → 9 < x) ∧ (100 ≤ k → x &&& 31 = Int32.ofNat (k - 100))
def amLt (κ : Nat → Nat) (a b : amI) : Option Bool := match a, b with
  | .inl x, .inl y => some (decide (x < y))
  | .inr i, .inl y => if κ i = 1 ∧ -1 ≤ y then some true else if κ i = 2 ∧ y ≤ 10 then some false else none
  | .inl x, .inr i => if κ i = 1 ∧ -1 ≤ x then some false else if κ i = 2 ∧ x ≤ 9 then some true else none
  | .inr _, .inr _ => none
def amEq (κ : Nat → Nat) (a b : amI) : Option Bool := match a, b with
  | .inl x, .inl y => some (decide (x = y))
  | .inr i, .inl y => if κ i = 1 ∧ -1 ≤ y then some false else if κ i = 2 ∧ y ≤ 9 then some false else none
  | .inl y, .inr i => if κ i = 1 ∧ -1 ≤ y then some false else if κ i = 2 ∧ y ≤ 9 then some false else none
  | .inr i, .inr j => if i = j then some true else none
def amC2 (κ : Nat → Nat) (c : Jvm.ClassFile.Cond) (a b : amI) : Option Bool := match c with
  | .eq => amEq κ a b
  | .ne => (amEq κ a b).map (fun z => !z)
  | .lt => amLt κ a b
  | .ge => (amLt κ a b).map (fun z => !z)
  | .gt => amLt κ b a
  | .le => (amLt κ b a).map (fun z => !z)
section AM
variable {ρ : Nat → Int32} {κ : Nat → Nat}
theorem am_lt_of {x y z : Int32} (h : x < y) (h2 : y ≤ z) : x < z := Int32.lt_iff_toInt_lt.mpr (by rw [Int32.lt_iff_toInt_lt] at h; rw [Int32.le_iff_toInt_le] at h2; omega)
theorem amLt_ok (hρ : ∀ i, amOk (κ i) (ρ i)) {a b : amI} {z : Bool} (h : amLt κ a b = some z) : decide (amGi ρ a < amGi ρ b) = z := by
  have m1 : (-1 : Int32).toInt = -1 := by decide
  have m9 : (9 : Int32).toInt = 9 := by decide
  have m10 : (10 : Int32).toInt = 10 := by decide
  unfold amLt at h
  split at h
  · cases h; rfl
  · rename_i i y
    split at h
    · rename_i hc
      cases h
      have h1 := (hρ i).1 hc.1
      have h2 := hc.2
      rw [Int32.lt_iff_toInt_lt] at h1
      rw [Int32.le_iff_toInt_le] at h2
      exact decide_eq_true (Int32.lt_iff_toInt_lt.mpr (by show (ρ i).toInt < y.toInt; omega))
    · split at h
      · rename_i hc
        cases h
        have h1 := (hρ i).2.1 hc.1
        have h2 := hc.2
        rw [Int32.lt_iff_toInt_lt] at h1
        rw [Int32.le_iff_toInt_le] at h2
        exact decide_eq_false (fun q => by rw [Int32.lt_iff_toInt_lt] at q; change (ρ i).toInt < y.toInt at q; omega)
      · cases h
  · rename_i x i
    split at h
    · rename_i hc
      cases h
      have h1 := (hρ i).1 hc.1
      have h2 := hc.2
      rw [Int32.lt_iff_toInt_lt] at h1
      rw [Int32.le_iff_toInt_le] at h2
      exact decide_eq_false (fun q => by rw [Int32.lt_iff_toInt_lt] at q; change x.toInt < (ρ i).toInt at q; omega)
    · split at h
      · rename_i hc
        cases h
        have h1 := (hρ i).2.1 hc.1
        have h2 := hc.2
        rw [Int32.lt_iff_toInt_lt] at h1
        rw [Int32.le_iff_toInt_le] at h2
        exact decide_eq_true (Int32.lt_iff_toInt_lt.mpr (by show x.toInt < (ρ i).toInt; omega))
      · cases h
  · cases h
theorem am_ne (hρ : ∀ i, amOk (κ i) (ρ i)) {i : Nat} {y : Int32} (hc : (κ i = 1 ∧ -1 ≤ y) ∨ (κ i = 2 ∧ y ≤ 9)) : ρ i ≠ y := by
  have m1 : (-1 : Int32).toInt = -1 := by decide
  have m9 : (9 : Int32).toInt = 9 := by decide
  intro q
  rcases hc with ⟨h1, h2⟩ | ⟨h1, h2⟩
  · have h1 := (hρ i).1 h1
    rw [Int32.lt_iff_toInt_lt] at h1
    rw [Int32.le_iff_toInt_le] at h2
    rw [q] at h1
    omega
  · have h1 := (hρ i).2.1 h1
    rw [Int32.lt_iff_toInt_lt] at h1
    rw [Int32.le_iff_toInt_le] at h2
    rw [q] at h1
    omega
theorem amEq_ok (hρ : ∀ i, amOk (κ i) (ρ i)) {a b : amI} {z : Bool} (h : amEq κ a b = some z) : decide (amGi ρ a = amGi ρ b) = z := by
  unfold amEq at h
  split at h
  · cases h; rfl
  · split at h
    · rename_i hc; cases h; exact decide_eq_false (am_ne hρ (Or.inl hc))
    · split at h
      · rename_i hc; cases h; exact decide_eq_false (am_ne hρ (Or.inr hc))
      · cases h
  · split at h
    · rename_i hc; cases h; exact decide_eq_false (fun q => am_ne hρ (Or.inl hc) q.symm)
    · split at h
      · rename_i hc; cases h; exact decide_eq_false (fun q => am_ne hρ (Or.inr hc) q.symm)
      · cases h
  · split at h
    · rename_i hc; cases h; subst hc; exact decide_eq_true rfl
    · cases h
theorem amC2_ok (hρ : ∀ i, amOk (κ i) (ρ i)) {c : Jvm.ClassFile.Cond} {a b : amI} {z : Bool} (h : amC2 κ c a b = some z) : mvC2 c (amGi ρ a) (amGi ρ b) = z := by
  have nl : ∀ x y : Int32, decide (y ≤ x) = !decide (x < y) := fun x y => by
    by_cases h : x < y
    · have : ¬ y ≤ x := fun q => by rw [Int32.lt_iff_toInt_lt] at h; rw [Int32.le_iff_toInt_le] at q; omega
      simp [h, this]
    · have : y ≤ x := by rw [Int32.lt_iff_toInt_lt] at h; rw [Int32.le_iff_toInt_le]; omega
      simp [h, this]
  cases c
  · exact amEq_ok hρ h
  · obtain ⟨z', h1, h2⟩ := Option.map_eq_some_iff.mp h
    have := amEq_ok hρ h1
    simp only [mvC2]
    rw [← h2, ← this]
    simp
  · exact amLt_ok hρ h
  · obtain ⟨z', h1, h2⟩ := Option.map_eq_some_iff.mp h
    have := amLt_ok hρ h1
    simp only [mvC2]
    rw [nl, ← h2, ← this]
  · exact amLt_ok hρ h
  · obtain ⟨z', h1, h2⟩ := Option.map_eq_some_iff.mp h
    have := amLt_ok hρ h1
    simp only [mvC2]
    rw [nl, ← h2, ← this]
end AM
end
section
/-! Its steps, and that the small machine's are these. -/
def amCat (v : amV) : Nat := match v with
  | .inr (.inl _) => 2
  | _ => 1
def amLd (lv : amL) (i : Nat) : Option amV := (lv.find? (fun q => q.1 == i)).map (fun q => q.2)
def amSv (lv : amL) (i : Nat) (v : amV) : amL := (i, v) :: lv.filter (fun q => !(q.1 == i) && !(q.1 + 1 == i && amCat q.2 == 2))
def amIsA (v : amV) : Bool := match v with
  | .inr (.inr (.inl (some _))) => true
  | .inr (.inr (.inr _)) => true
  | _ => false
def amF1 (i : Instr) (lv : amL) : Option (amV × Nat) := match i with
  | .iconst k => some (.inl (.inl (Int32.ofInt k)), 1)
  | .bipush k => some (.inl (.inl (Int8.ofInt k).toInt32), 2)
  | .sipush k => some (.inl (.inl (Int16.ofInt k).toInt32), 3)
  | .lconst k => some (.inr (.inl (Int64.ofNat (k : Nat))), 1)
  | .iload_n k => match amLd lv k with
    | some (.inl x) => some (.inl x, 1)
    | _ => none
  | .iload k => match amLd lv k with
    | some (.inl x) => some (.inl x, 2)
    | _ => none
  | .aload_n k => match amLd lv k with
    | some v => if amIsA v = true then some (v, 1) else none
    | none => none
  | .aload k => match amLd lv k with
    | some v => if amIsA v = true then some (v, 2) else none
    | none => none
  | _ => none
def amF2 (i : Instr) (lv : amL) (st : List amV) : Option (Nat × amV × List amV × Nat) := match i with
  | .istore_n k => match st with
    | .inl x :: r => some (k, .inl x, r, 1)
    | _ => none
  | .istore k => match st with
    | .inl x :: r => some (k, .inl x, r, 2)
    | _ => none
  | .astore_n k => match st with
    | v :: r => if amIsA v = true then some (k, v, r, 1) else none
    | _ => none
  | .astore k => match st with
    | v :: r => if amIsA v = true then some (k, v, r, 2) else none
    | _ => none
  | .iinc k n => match amLd lv k with
    | some (.inl (.inl x)) => some (k, .inl (.inl (x + Int32.ofInt n)), st, 3)
    | _ => none
  | _ => none
def amA2 (κ : Nat → Nat) (i : Instr) (st : List amV) : Option (List amV) := match st with
  | .inl (.inl y) :: .inl (.inl x) :: r => (mvA2 i).map (fun f => .inl (.inl (f x y)) :: r)
  | .inl (.inl y) :: .inl (.inr v) :: r => match i with
    | .iand => if y = 31 ∧ 100 ≤ κ v then some (.inl (.inl (Int32.ofNat (κ v - 100))) :: r) else none
    | _ => none
  | _ => none
def amF3 (i : Instr) (st : List amV) : Option (List amV) := match i with
  | .idiv => match st with
    | .inl (.inl y) :: .inl (.inl x) :: r => if y = 0 then none else some (.inl (.inl (x / y)) :: r)
    | _ => none
  | .irem => match st with
    | .inl (.inl y) :: .inl (.inl x) :: r => if y = 0 then none else some (.inl (.inl (x - x / y * y)) :: r)
    | _ => none
  | .i2l => match st with
    | .inl (.inl x) :: r => some (.inr (.inl x.toInt64) :: r)
    | _ => none
  | .lcmp => match st with
    | .inr (.inl y) :: .inr (.inl x) :: r => some (.inl (.inl (lg_cmp x y)) :: r)
    | _ => none
  | .dup => match st with
    | v :: r => if amCat v = 1 then some (v :: v :: r) else none
    | _ => none
  | .pop => match st with
    | v :: r => if amCat v = 1 then some r else none
    | _ => none
  | .dup_x1 => match st with
    | v :: w :: r => if amCat v = 1 ∧ amCat w = 1 then some (v :: w :: v :: r) else none
    | _ => none
  | .dup_x2 => match st with
    | v :: w :: z :: r => if amCat v = 1 ∧ amCat w = 1 ∧ amCat z = 1 then some (v :: w :: z :: v :: r) else none
    | _ => none
  | .dup2 => match st with
    | v :: w :: r => if amCat v = 1 ∧ amCat w = 1 then some (v :: w :: v :: w :: r) else none
    | _ => none
  | _ => none
def amF4 (κ : Nat → Nat) (i : Instr) (pc : Nat) (st : List amV) : Option (Nat × List amV) := match i with
  | .ifCond c off => match st with
    | .inl x :: r => match mvT pc off, amC2 κ c x (.inl 0) with
      | some t, some b => some (if b = true then t else pc + 3, r)
      | _, _ => none
    | _ => none
  | .if_icmp c off => match st with
    | .inl y :: .inl x :: r => match mvT pc off, amC2 κ c x y with
      | some t, some b => some (if b = true then t else pc + 3, r)
      | _, _ => none
    | _ => none
  | .goto off => (mvT pc off).map (fun t => (t, st))
  | _ => none
def amF5 (i : Instr) (pc : Nat) (st : List amV) : Option (Nat × List amV) := match i with
  | .tableswitch dflt lo hi offs => match st with
    | .inl (.inl x) :: r => if x.toInt < lo ∨ hi < x.toInt then (mvT pc dflt).map (fun t => (t, r)) else match offs[(x.toInt - lo).toNat]? with
      | some off => (mvT pc off).map (fun t => (t, r))
      | none => none
    | _ => none
  | _ => none
def amF (κ : Nat → Nat) (i : Instr) (len pc nL : Nat) (lv : amL) (st : List amV) : Option (Nat × amL × List amV) :=
  match amF1 i lv with
  | some (v, n) => if len = n then some (pc + n, lv, v :: st) else none
  | none => match amF2 i lv st with
    | some (k, v, r, n) => if len = n ∧ k < nL then some (pc + n, amSv lv k v, r) else none
    | none => match amA2 κ i st with
      | some st' => if len = 1 then some (pc + 1, lv, st') else none
      | none => match amF3 i st with
        | some st' => if len = 1 then some (pc + 1, lv, st') else none
        | none => match amF4 κ i pc st with
          | some (pc', r) => if len = 3 then some (pc', lv, r) else none
          | none => (amF5 i pc st).map (fun q => (q.1, lv, q.2))
section AMF
variable {ρ : Nat → Int32} {κ : Nat → Nat} {i : Instr} {lv : amL} {st : List amV} {pc len nL : Nat}
theorem amCat_eq (v : amV) : mvCat (amGv ρ v) = amCat v := by rcases v with x | x | (_ | k) | o <;> rfl
theorem amIsA_eq (v : amV) : mvIsA (amGv ρ v) = amIsA v := by rcases v with x | x | (_ | k) | o <;> rfl
theorem amLd_eq (lv : amL) (k : Nat) : mvLd (amGl ρ lv) k = (amLd lv k).map (amGv ρ) := by
  unfold mvLd amLd amGl
  rw [List.find?_map, Option.map_map, Option.map_map]
  rfl
theorem amSv_eq (lv : amL) (k : Nat) (v : amV) : mvSv (amGl ρ lv) k (amGv ρ v) = amGl ρ (amSv lv k v) := by
  unfold mvSv amSv amGl
  rw [List.map_cons, List.filter_map]
  congr 2
  apply List.filter_congr
  intro q _
  simp [Function.comp, amCat_eq]
theorem amF1_ok {v : amV} {n : Nat} (h : amF1 i lv = some (v, n)) : mvF1 i (amGl ρ lv) = some (amGv ρ v, n) := by
  unfold amF1 at h
  split at h
  · cases h; rfl
  · cases h; rfl
  · cases h; rfl
  · cases h; rfl
  · split at h
    · rename_i hl; cases h; simp only [mvF1, amLd_eq, hl, Option.map_some, amGv]
    · cases h
  · split at h
    · rename_i hl; cases h; simp only [mvF1, amLd_eq, hl, Option.map_some, amGv]
    · cases h
  · split at h
    · rename_i hl
      split at h
      · rename_i hA; cases h; simp only [mvF1, amLd_eq, hl, Option.map_some, amIsA_eq, hA, if_true]
      · cases h
    · cases h
  · split at h
    · rename_i hl
      split at h
      · rename_i hA; cases h; simp only [mvF1, amLd_eq, hl, Option.map_some, amIsA_eq, hA, if_true]
      · cases h
    · cases h
  · cases h
theorem amF2_ok {k n : Nat} {v : amV} {r : List amV} (h : amF2 i lv st = some (k, v, r, n)) : mvF1 i (amGl ρ lv) = none ∧ mvF2 i (amGl ρ lv) (st.map (amGv ρ)) = some (k, amGv ρ v, r.map (amGv ρ), n) := by
  unfold amF2 at h
  split at h
  · split at h
    · cases h; exact ⟨rfl, rfl⟩
    · cases h
  · split at h
    · cases h; exact ⟨rfl, rfl⟩
    · cases h
  · split at h
    · split at h
      · rename_i hA; cases h; exact ⟨rfl, by simp only [mvF2, List.map_cons, amIsA_eq, hA, if_true]⟩
      · cases h
    · cases h
  · split at h
    · split at h
      · rename_i hA; cases h; exact ⟨rfl, by simp only [mvF2, List.map_cons, amIsA_eq, hA, if_true]⟩
      · cases h
    · cases h
  · split at h
    · rename_i hl; cases h; exact ⟨rfl, by simp only [mvF2, amLd_eq, hl, Option.map_some, amGv, amGi]⟩
    · cases h
  · cases h
theorem amA2_ok (hρ : ∀ i, amOk (κ i) (ρ i)) {st' : List amV} (h : amA2 κ i st = some st') : mvF1 i (amGl ρ lv) = none ∧ mvF2 i (amGl ρ lv) (st.map (amGv ρ)) = none ∧ ∃ f x y r, mvA2 i = some f ∧ st.map (amGv ρ) = .inl y :: .inl x :: r ∧ st'.map (amGv ρ) = .inl (f x y) :: r := by
  have hno : ∀ f, mvA2 i = some f → ∀ (lv' : mvL) (s' : List mvV), mvF1 i lv' = none ∧ mvF2 i lv' s' = none := by
    intro f hf lv' s'
    unfold mvA2 at hf
    split at hf <;> first | exact ⟨rfl, rfl⟩ | cases hf
  unfold amA2 at h
  split at h
  · rename_i y x r
    obtain ⟨f, hf, rfl⟩ := Option.map_eq_some_iff.mp h
    exact ⟨(hno f hf _ []).1, (hno f hf _ _).2, f, x, y, r.map (amGv ρ), hf, rfl, rfl⟩
  · rename_i y v r
    split at h
    · split at h
      · rename_i hc
        cases h
        refine ⟨rfl, rfl, _, ρ v, y, r.map (amGv ρ), rfl, rfl, ?_⟩
        have := (hρ v).2.2 hc.2
        simp only [List.map_cons, amGv, amGi]
        rw [hc.1, this]
      · cases h
    · cases h
  · cases h
theorem amF3_ok {st' : List amV} (h : amF3 i st = some st') : (∀ (lv' : mvL) (s' : List mvV), mvF1 i lv' = none ∧ mvF2 i lv' s' = none ∧ mvA2 i = none) ∧ mvF3 i (st.map (amGv ρ)) = some (st'.map (amGv ρ)) := by
  unfold amF3 at h
  split at h
  · split at h
    · split at h
      · cases h
      · rename_i hy; cases h; exact ⟨fun _ _ => ⟨rfl, rfl, rfl⟩, by simp only [mvF3, List.map_cons, amGv, amGi, hy, if_false]⟩
    · cases h
  · split at h
    · split at h
      · cases h
      · rename_i hy; cases h; exact ⟨fun _ _ => ⟨rfl, rfl, rfl⟩, by simp only [mvF3, List.map_cons, amGv, amGi, hy, if_false]⟩
    · cases h
  · split at h
    · cases h; exact ⟨fun _ _ => ⟨rfl, rfl, rfl⟩, rfl⟩
    · cases h
  · split at h
    · cases h; exact ⟨fun _ _ => ⟨rfl, rfl, rfl⟩, rfl⟩
    · cases h
  · split at h
    · split at h
      · rename_i hc; cases h; exact ⟨fun _ _ => ⟨rfl, rfl, rfl⟩, by simp only [mvF3, List.map_cons, amCat_eq, hc, if_true]⟩
      · cases h
    · cases h
  · split at h
    · split at h
      · rename_i hc; cases h; exact ⟨fun _ _ => ⟨rfl, rfl, rfl⟩, by simp only [mvF3, List.map_cons, amCat_eq, hc, if_true]⟩
      · cases h
    · cases h
  · split at h
    · split at h
      · rename_i hc; cases h; exact ⟨fun _ _ => ⟨rfl, rfl, rfl⟩, by simp only [mvF3, List.map_cons, amCat_eq, hc, and_self, if_true]⟩
      · cases h
    · cases h
  · split at h
    · split at h
      · rename_i hc; cases h; exact ⟨fun _ _ => ⟨rfl, rfl, rfl⟩, by simp only [mvF3, List.map_cons, amCat_eq, hc, and_self, if_true]⟩
      · cases h
    · cases h
  · split at h
    · split at h
      · rename_i hc; cases h; exact ⟨fun _ _ => ⟨rfl, rfl, rfl⟩, by simp only [mvF3, List.map_cons, amCat_eq, hc, and_self, if_true]⟩
      · cases h
    · cases h
  · cases h
theorem amC1_eq (c : Jvm.ClassFile.Cond) (x : Int32) : mvC1 c x = mvC2 c x 0 := by cases c <;> rfl
theorem amF4_ok (hρ : ∀ i, amOk (κ i) (ρ i)) {pc' : Nat} {r : List amV} (h : amF4 κ i pc st = some (pc', r)) : (∀ (lv' : mvL) (s' : List mvV), mvF1 i lv' = none ∧ mvF2 i lv' s' = none ∧ mvA2 i = none ∧ mvF3 i s' = none) ∧ mvF4 i pc (st.map (amGv ρ)) = some (pc', r.map (amGv ρ)) := by
  unfold amF4 at h
  split at h
  · split at h
    · split at h
      · rename_i t b ht hb
        cases h
        refine ⟨fun _ _ => ⟨rfl, rfl, rfl, rfl⟩, ?_⟩
        have h9 : mvC2 _ (amGi ρ _) 0 = b := amC2_ok hρ hb
        simp only [mvF4, List.map_cons, amGv, ht]
        rw [amC1_eq, h9]
      · cases h
    · cases h
  · split at h
    · split at h
      · rename_i t b ht hb
        cases h
        refine ⟨fun _ _ => ⟨rfl, rfl, rfl, rfl⟩, ?_⟩
        have := amC2_ok hρ hb
        simp only [mvF4, List.map_cons, amGv, ht]
        rw [this]
      · cases h
    · cases h
  · rename_i off
    obtain ⟨t, ht, hq⟩ := Option.map_eq_some_iff.mp h
    cases hq
    exact ⟨fun _ _ => ⟨rfl, rfl, rfl, rfl⟩, by simp only [mvF4, ht, Option.map_some]⟩
  · cases h
theorem amF5_ok {pc' : Nat} {r : List amV} (h : amF5 i pc st = some (pc', r)) : (∀ (lv' : mvL) (s' : List mvV), mvF1 i lv' = none ∧ mvF2 i lv' s' = none ∧ mvA2 i = none ∧ mvF3 i s' = none ∧ mvF4 i pc s' = none) ∧ mvF5 i pc (st.map (amGv ρ)) = some (pc', r.map (amGv ρ)) := by
  unfold amF5 at h
  split at h
  · split at h
    · rename_i x r0
      refine ⟨fun _ _ => ⟨rfl, rfl, rfl, rfl, rfl⟩, ?_⟩
      simp only [mvF5, List.map_cons, amGv, amGi]
      split at h
      · rename_i hc
        obtain ⟨t, ht, hq⟩ := Option.map_eq_some_iff.mp h
        cases hq
        rw [if_pos hc, ht]
        rfl
      · rename_i hc
        rw [if_neg hc]
        split at h
        · rename_i off ho
          obtain ⟨t, ht, hq⟩ := Option.map_eq_some_iff.mp h
          cases hq
          simp only [ho, ht]
          rfl
        · cases h
    · cases h
  · cases h
theorem amF_ok (hρ : ∀ i, amOk (κ i) (ρ i)) {pc' : Nat} {lv' : amL} {st' : List amV} (h : amF κ i len pc nL lv st = some (pc', lv', st')) : mvF i len pc nL (amGl ρ lv) (st.map (amGv ρ)) = some (pc', amGl ρ lv', st'.map (amGv ρ)) := by
  unfold amF at h
  unfold mvF
  split at h
  · rename_i v n h1
    rw [amF1_ok h1]
    split at h
    · rename_i hn; cases h; simp only [hn, if_true, List.map_cons]
    · cases h
  · split at h
    · rename_i k v r n h1
      obtain ⟨a1, a2⟩ := amF2_ok (ρ := ρ) h1
      rw [a1, a2]
      split at h
      · rename_i hn; cases h; simp only [hn, and_self, if_true, amSv_eq]
      · cases h
    · split at h
      · rename_i st1 h1
        obtain ⟨a1, a2, f, x, y, r, a3, a4, a5⟩ := amA2_ok (lv := lv) hρ h1
        rw [a1, a2, a3, a4]
        split at h
        · rename_i hn; cases h; simp only [hn, if_true, a5]
        · cases h
      · split at h
        · rename_i st1 h1
          obtain ⟨a1, a2⟩ := amF3_ok (ρ := ρ) h1
          obtain ⟨b1, b2, b3⟩ := a1 (amGl ρ lv) (st.map (amGv ρ))
          rw [b1, b2, b3, a2]
          split at h
          · rename_i hn; cases h; simp only [hn, if_true]
          · cases h
        · split at h
          · rename_i pc1 r h1
            obtain ⟨a1, a2⟩ := amF4_ok hρ h1
            obtain ⟨b1, b2, b3, b4⟩ := a1 (amGl ρ lv) (st.map (amGv ρ))
            rw [b1, b2, b3, b4, a2]
            split at h
            · rename_i hn; cases h; simp only [hn, if_true]
            · cases h
          · obtain ⟨⟨pc1, r⟩, h1, hq⟩ := Option.map_eq_some_iff.mp h
            cases hq
            obtain ⟨a1, a2⟩ := amF5_ok (ρ := ρ) h1
            obtain ⟨b1, b2, b3, b4, b5⟩ := a1 (amGl ρ lv) (st.map (amGv ρ))
            rw [b1, b2, b3, b4, b5, a2]
            rfl
end AMF
end
section
/-! Its cells and its runs. -/
def amLk : List (Nat × amI) → Nat → amI
  | [], _ => .inl 0
  | q :: t, i => if i = q.1 then q.2 else amLk t i
def amEm (v : mvV) : amV := match v with
  | .inl x => .inl (.inl x)
  | .inr w => .inr w
def amFit (kd : Nat) (v : amV) : Bool := match kd, v with
  | 0, .inl _ => true
  | 1, .inl (.inl x) => decide (x = 0 ∨ x = 1)
  | 2, .inr (.inr (.inl (some _))) => true
  | _, _ => false
abbrev amX : Type := Nat → Option (Nat × (Nat → amI))
abbrev amB : Type := Nat → Option (List amV → amH → Option amO)
def amG1 (P : mvP) (j : Nat) (i : Instr) (st : List amV) (h : amH) : Option (List amV × amH) := match i with
  | .getfield idx => match mvPf P j idx, st with
    | some (ci, k, _), .inr (.inr (.inl (some a))) :: r => match h.2[a]? with
      | some (.inr (ci', fs)) => if ci' = ci then (fs[k]?).map (fun v => (v :: r, h)) else none
      | _ => none
    | _, _ => none
  | .putfield idx => match mvPf P j idx, st with
    | some (ci, k, kd), v :: .inr (.inr (.inl (some a))) :: r => match h.2[a]? with
      | some (.inr (ci', fs)) => if ci' = ci ∧ k < fs.length ∧ amFit kd v = true then some (r, (h.1, h.2.set a (.inr (ci, fs.set k v)))) else none
      | _ => none
    | _, _ => none
  | _ => none
def amG2 (X : amX) (i : Instr) (st : List amV) (h : amH) : Option (List amV × amH) := match i with
  | .iaload => match st with
    | .inl (.inl x) :: .inr (.inr (.inl (some a))) :: r => match h.2[a]? with
      | some (.inl (0, n, .inl f)) => if mvIn x n = true then some (.inl (amLk f x.toNatClampNeg) :: r, h) else none
      | _ => none
    | .inl (.inl x) :: .inr (.inr (.inr o)) :: r => match X o with
      | some q => if mvIn x q.1 = true ∧ o < 2 then some (.inl (q.2 x.toNatClampNeg) :: r, h) else none
      | none => none
    | _ => none
  | .baload => match st with
    | .inl (.inl x) :: .inr (.inr (.inl (some a))) :: r => match h.2[a]? with
      | some (.inl (1, n, .inl f)) => if mvIn x n = true then some (.inl (amLk f x.toNatClampNeg) :: r, h) else none
      | _ => none
    | _ => none
  | .laload => match st with
    | .inl (.inl x) :: .inr (.inr (.inl (some a))) :: r => match h.2[a]? with
      | some (.inl (2, n, .inr f)) => if mvIn x n = true then some (.inr (.inl (mvLl f x.toNatClampNeg)) :: r, h) else none
      | _ => none
    | _ => none
  | .iastore => match st with
    | .inl y :: .inl (.inl x) :: .inr (.inr (.inl (some a))) :: r => match h.2[a]? with
      | some (.inl (0, n, .inl f)) => if mvIn x n = true then some (r, (h.1, h.2.set a (.inl (0, n, .inl ((x.toNatClampNeg, y) :: f))))) else none
      | _ => none
    | _ => none
  | .bastore => match st with
    | .inl (.inl y) :: .inl (.inl x) :: .inr (.inr (.inl (some a))) :: r => match h.2[a]? with
      | some (.inl (1, n, .inl f)) => if mvIn x n = true then some (r, (h.1, h.2.set a (.inl (1, n, .inl ((x.toNatClampNeg, .inl (vp_nar .boolean y)) :: f))))) else none
      | _ => none
    | _ => none
  | .lastore => match st with
    | .inr (.inl y) :: .inl (.inl x) :: .inr (.inr (.inl (some a))) :: r => match h.2[a]? with
      | some (.inl (2, n, .inr f)) => if mvIn x n = true then some (r, (h.1, h.2.set a (.inl (2, n, .inr ((x.toNatClampNeg, y) :: f))))) else none
      | _ => none
    | _ => none
  | .arraylength => match st with
    | .inr (.inr (.inl (some a))) :: r => match h.2[a]? with
      | some (.inl (t, n, .inl _)) => if t < 2 then some (.inl (.inl (Int32.ofNat n)) :: r, h) else none
      | _ => none
    | .inr (.inr (.inr o)) :: r => match X o with
      | some q => if o < 2 then some (.inl (.inl (Int32.ofNat q.1)) :: r, h) else none
      | none => none
    | _ => none
  | _ => none
def amG3 (P : mvP) (j : Nat) (i : Instr) (st : List amV) (h : amH) : Option (List amV × amH × Nat × Nat) := match i with
  | .newarray t => match st with
    | .inl (.inl n) :: r => if ¬ n < 0 ∧ n.toNatClampNeg ≤ 1000000 ∧ h.1 = true then match t with
      | .int => some (.inr (.inr (.inl (some h.2.length))) :: r, (true, h.2 ++ [.inl (0, n.toNatClampNeg, .inl [])]), n.toNatClampNeg, 2)
      | .boolean => some (.inr (.inr (.inl (some h.2.length))) :: r, (true, h.2 ++ [.inl (1, n.toNatClampNeg, .inl [])]), n.toNatClampNeg, 2)
      | .long => some (.inr (.inr (.inl (some h.2.length))) :: r, (true, h.2 ++ [.inl (2, n.toNatClampNeg, .inr [])]), n.toNatClampNeg, 2)
      | _ => none
      else none
    | _ => none
  | .new idx => match mvPn P j idx with
    | some (ci, fs) => if h.1 = true then some (.inr (.inr (.inl (some h.2.length))) :: st, (true, h.2 ++ [.inr (ci, fs.map amEm)]), fs.length, 3) else none
    | none => none
  | _ => none
def amG (P : mvP) (X : amX) (j d : Nat) (i : Instr) (len pc : Nat) (st : List amV) (h : amH) : Option (Nat × List amV × amH × Nat × Nat) :=
  match amG1 P j i st h with
  | some (st', h') => if len = 3 then some (pc + 3, st', h', 0, 0) else none
  | none => match amG2 X i st h with
    | some (st', h') => if len = 1 then some (pc + 1, st', h', 0, 0) else none
    | none => match amG3 P j i st h with
      | some (st', h', ns, n) => if len = n then some (pc + n, st', h', 1, ns) else none
      | none => match mvG4 P j i with
        | some (v, n) => if len = n then some (pc + n, amEm v :: st, h, 0, 0) else none
        | none => match i with
          | .invokespecial idx => match st with
            | .inr (.inr (.inl (some _))) :: r => if mvPo P j idx = true ∧ len = 3 ∧ (r.map amCat).sum ≤ 8 ∧ 1 ≤ d then some (pc + 3, r, h, 0, 0) else none
            | _ => none
          | _ => none
section AMG
variable {ρ : Nat → Int32} {P : mvP} {X : amX} {i : Instr} {j d pc len : Nat} {st st' : List amV} {h h' : amH}
theorem amEm_eq (v : mvV) : amGv ρ (amEm v) = v := by rcases v with x | w <;> rfl
theorem amLk_eq (f : List (Nat × amI)) (k : Nat) : mvLk (f.map (fun q => (q.1, amGi ρ q.2))) k = amGi ρ (amLk f k) := by
  induction f with
  | nil => rfl
  | cons q t ih =>
    simp only [List.map_cons, mvLk, amLk]
    split
    · rfl
    · exact ih
theorem amFit_eq {kd : Nat} {v : amV} (hf : amFit kd v = true) : mvFit kd (amGv ρ v) = true := by
  match kd, v, hf with
  | 0, .inl _, _ => rfl
  | 1, .inl (.inl x), hf => exact hf
  | 2, .inr (.inr (.inl (some _))), _ => rfl
theorem amHat {a : Nat} {c : amC} (hc : h.2[a]? = some c) : (amGh ρ h).2[a]? = some (amGc ρ c) := by
  show (h.2.map (amGc ρ))[a]? = _
  rw [List.getElem?_map, hc]
  rfl
theorem amSum_eq (st : List amV) : mvSum (st.map (amGv ρ)) = (st.map amCat).sum := by
  unfold mvSum
  rw [List.map_map]
  congr 1
  apply List.map_congr_left
  intro v _
  exact amCat_eq v
theorem amG1_ok (hs : amG1 P j i st h = some (st', h')) : (∀ (a b c : Nat) (lv : mvL) (s' : List mvV), mvF i a b c lv s' = none) ∧ mvG1 P j i (st.map (amGv ρ)) (amGh ρ h) = some (st'.map (amGv ρ), amGh ρ h') := by
  unfold amG1 at hs
  split at hs
  · split at hs
    · rename_i hf
      split at hs
      · rename_i hc
        split at hs
        · rename_i hci
          obtain ⟨v, hv, hq⟩ := Option.map_eq_some_iff.mp hs
          cases hq
          refine ⟨fun _ _ _ _ _ => rfl, ?_⟩
          simp only [mvG1, hf, List.map_cons, amGv, amHat hc, amGc, hci, if_true, List.getElem?_map, hv, Option.map_some]
        · cases hs
      · cases hs
    · cases hs
  · split at hs
    · rename_i ci k kd v a r hf
      split at hs
      · rename_i ci' fs hc
        split at hs
        · rename_i hci
          cases hs
          refine ⟨fun _ _ _ _ _ => rfl, ?_⟩
          have e1 := amHat (ρ := ρ) hc
          simp only [amGc] at e1
          show mvG1 P j _ (amGv ρ v :: .inr (.inr (.inl (some a))) :: st'.map (amGv ρ)) (amGh ρ h) = _
          simp only [mvG1, hf, e1, hci.1, List.length_map, hci.2.1, amFit_eq hci.2.2, and_self, if_true]
          simp only [amGh, List.map_set, amGc]
        · cases hs
      · cases hs
    · cases hs
  · cases hs
theorem amG2_ok (hX : ∀ o q, X o = some q → mvPx P o = some (q.1, fun k => amGi ρ (q.2 k))) (hs : amG2 X i st h = some (st', h')) : (∀ (a b c : Nat) (lv : mvL) (s' : List mvV), mvF i a b c lv s' = none) ∧ (∀ (s' : List mvV) (h9 : mvH), mvG1 P j i s' h9 = none) ∧ mvG2 P i (st.map (amGv ρ)) (amGh ρ h) = some (st'.map (amGv ρ), amGh ρ h') := by
  unfold amG2 at hs
  split at hs
  · split at hs
    · rename_i x a r
      split at hs
      · rename_i n f hc
        have e1 := amHat (ρ := ρ) hc
        simp only [amGc] at e1
        split at hs
        · rename_i hin
          cases hs
          refine ⟨fun _ _ _ _ _ => rfl, fun _ _ => rfl, ?_⟩
          show mvG2 P .iaload (.inl x :: .inr (.inr (.inl (some a))) :: r.map (amGv ρ)) (amGh ρ h) = some (.inl (amGi ρ (amLk f x.toNatClampNeg)) :: r.map (amGv ρ), amGh ρ h)
          simp only [mvG2, e1, hin, if_true, amLk_eq]
        · cases hs
      · cases hs
    · split at hs
      · rename_i q hq
        have e1 := hX _ _ hq
        split at hs
        · rename_i hin
          cases hs
          refine ⟨fun _ _ _ _ _ => rfl, fun _ _ => rfl, ?_⟩
          simp only [mvG2, List.map_cons, amGv, amGi, e1, hin, and_self, if_true]
        · cases hs
      · cases hs
    · cases hs
  · split at hs
    · rename_i x a r
      split at hs
      · rename_i n f hc
        have e1 := amHat (ρ := ρ) hc
        simp only [amGc] at e1
        split at hs
        · rename_i hin
          cases hs
          refine ⟨fun _ _ _ _ _ => rfl, fun _ _ => rfl, ?_⟩
          show mvG2 P .baload (.inl x :: .inr (.inr (.inl (some a))) :: r.map (amGv ρ)) (amGh ρ h) = some (.inl (amGi ρ (amLk f x.toNatClampNeg)) :: r.map (amGv ρ), amGh ρ h)
          simp only [mvG2, e1, hin, if_true, amLk_eq]
        · cases hs
      · cases hs
    · cases hs
  · split at hs
    · split at hs
      · rename_i hc
        have e1 := amHat (ρ := ρ) hc
        simp only [amGc] at e1
        split at hs
        · rename_i hin
          cases hs
          refine ⟨fun _ _ _ _ _ => rfl, fun _ _ => rfl, ?_⟩
          simp only [mvG2, List.map_cons, amGv, amGi, e1, hin, if_true]
        · cases hs
      · cases hs
    · cases hs
  · split at hs
    · split at hs
      · rename_i hc
        have e1 := amHat (ρ := ρ) hc
        simp only [amGc] at e1
        split at hs
        · rename_i hin
          cases hs
          refine ⟨fun _ _ _ _ _ => rfl, fun _ _ => rfl, ?_⟩
          simp only [mvG2, List.map_cons, amGv, e1, amGi, hin, if_true]
          simp only [amGh, List.map_set, amGc, List.map_cons]
          rfl
        · cases hs
      · cases hs
    · cases hs
  · split at hs
    · split at hs
      · rename_i hc
        have e1 := amHat (ρ := ρ) hc
        simp only [amGc] at e1
        split at hs
        · rename_i hin
          cases hs
          refine ⟨fun _ _ _ _ _ => rfl, fun _ _ => rfl, ?_⟩
          simp only [mvG2, List.map_cons, amGv, e1, amGi, hin, if_true]
          simp only [amGh, List.map_set, amGc, List.map_cons, amGi]
        · cases hs
      · cases hs
    · cases hs
  · split at hs
    · split at hs
      · rename_i hc
        have e1 := amHat (ρ := ρ) hc
        simp only [amGc] at e1
        split at hs
        · rename_i hin
          cases hs
          refine ⟨fun _ _ _ _ _ => rfl, fun _ _ => rfl, ?_⟩
          simp only [mvG2, List.map_cons, amGv, e1, amGi, hin, if_true]
          simp only [amGh, List.map_set, amGc]
        · cases hs
      · cases hs
    · cases hs
  · split at hs
    · split at hs
      · rename_i hc
        have e1 := amHat (ρ := ρ) hc
        simp only [amGc] at e1
        split at hs
        · rename_i hin
          cases hs
          refine ⟨fun _ _ _ _ _ => rfl, fun _ _ => rfl, ?_⟩
          simp only [mvG2, List.map_cons, amGv, e1, hin, if_true]
          rfl
        · cases hs
      · cases hs
    · split at hs
      · rename_i q hq
        have e1 := hX _ _ hq
        split at hs
        · rename_i hin
          cases hs
          refine ⟨fun _ _ _ _ _ => rfl, fun _ _ => rfl, ?_⟩
          simp only [mvG2, List.map_cons, amGv, e1, hin, if_true]
          rfl
        · cases hs
      · cases hs
    · cases hs
  · cases hs
theorem amG3_ok {ns n : Nat} (hs : amG3 P j i st h = some (st', h', ns, n)) : (∀ (a b c : Nat) (lv : mvL) (s' : List mvV), mvF i a b c lv s' = none) ∧ (∀ (s' : List mvV) (h9 : mvH), mvG1 P j i s' h9 = none ∧ mvG2 P i s' h9 = none) ∧ mvG3 P j i (st.map (amGv ρ)) (amGh ρ h) = some (st'.map (amGv ρ), amGh ρ h', ns, n) := by
  have hlen : (amGh ρ h).2.length = h.2.length := List.length_map ..
  unfold amG3 at hs
  split at hs
  · split at hs
    · split at hs
      · rename_i hc
        have hc' : (amGh ρ h).1 = true := hc.2.2
        split at hs
        · cases hs
          refine ⟨fun _ _ _ _ _ => rfl, fun _ _ => ⟨rfl, rfl⟩, ?_⟩
          simp only [mvG3, List.map_cons, amGv, amGi, hc.1, hc.2.1, hc', not_false_eq_true, and_self, if_true, hlen]
          simp only [amGh, List.map_append, List.map_cons, List.map_nil, amGc]
        · cases hs
          refine ⟨fun _ _ _ _ _ => rfl, fun _ _ => ⟨rfl, rfl⟩, ?_⟩
          simp only [mvG3, List.map_cons, amGv, amGi, hc.1, hc.2.1, hc', not_false_eq_true, and_self, if_true, hlen]
          simp only [amGh, List.map_append, List.map_cons, List.map_nil, amGc]
        · cases hs
          refine ⟨fun _ _ _ _ _ => rfl, fun _ _ => ⟨rfl, rfl⟩, ?_⟩
          simp only [mvG3, List.map_cons, amGv, amGi, hc.1, hc.2.1, hc', not_false_eq_true, and_self, if_true, hlen]
          simp only [amGh, List.map_append, List.map_cons, List.map_nil, amGc]
        · cases hs
      · cases hs
    · cases hs
  · split at hs
    · rename_i hf
      split at hs
      · rename_i hc
        have hc' : (amGh ρ h).1 = true := hc
        cases hs
        refine ⟨fun _ _ _ _ _ => rfl, fun _ _ => ⟨rfl, rfl⟩, ?_⟩
        simp only [mvG3, hf, hc', if_true, hlen, List.map_cons, amGv]
        simp only [amGh, List.map_append, List.map_cons, List.map_nil, amGc, List.map_map]
        congr 6
        simp [Function.comp_def, amEm_eq]
      · cases hs
    · cases hs
  · cases hs
theorem amG_ok (hX : ∀ o q, X o = some q → mvPx P o = some (q.1, fun k => amGi ρ (q.2 k))) {pc' dc ds : Nat} (hs : amG P X j d i len pc st h = some (pc', st', h', dc, ds)) : (∀ (a b c : Nat) (lv : mvL) (s' : List mvV), mvF i a b c lv s' = none) ∧ mvG P j d i len pc (st.map (amGv ρ)) (amGh ρ h) = some (pc', st'.map (amGv ρ), amGh ρ h', dc, ds) := by
  unfold amG at hs
  unfold mvG
  split at hs
  · rename_i hg
    obtain ⟨a1, a2⟩ := amG1_ok (ρ := ρ) hg
    refine ⟨a1, ?_⟩
    rw [a2]
    split at hs
    · rename_i hn; cases hs; simp only [hn, if_true]
    · cases hs
  · split at hs
    · rename_i hg
      obtain ⟨a1, a2, a3⟩ := amG2_ok (j := j) hX hg
      refine ⟨a1, ?_⟩
      rw [a2, a3]
      split at hs
      · rename_i hn; cases hs; simp only [hn, if_true]
      · cases hs
    · split at hs
      · rename_i hg
        obtain ⟨a1, a2, a3⟩ := amG3_ok (ρ := ρ) hg
        refine ⟨a1, ?_⟩
        rw [(a2 _ _).1, (a2 _ _).2, a3]
        split at hs
        · rename_i hn; cases hs; simp only [hn, if_true]
        · cases hs
      · split at hs
        · rename_i v n hg
          have a1 : (∀ (a b c : Nat) (lv : mvL) (s' : List mvV), mvF i a b c lv s' = none) ∧ (∀ (s' : List mvV) (h9 : mvH), mvG1 P j i s' h9 = none ∧ mvG2 P i s' h9 = none ∧ mvG3 P j i s' h9 = none) := by
            unfold mvG4 at hg
            split at hg
            · exact ⟨fun _ _ _ _ _ => rfl, fun _ _ => ⟨rfl, rfl, rfl⟩⟩
            · exact ⟨fun _ _ _ _ _ => rfl, fun _ _ => ⟨rfl, rfl, rfl⟩⟩
            · cases hg
          refine ⟨a1.1, ?_⟩
          rw [(a1.2 _ _).1, (a1.2 _ _).2.1, (a1.2 _ _).2.2, hg]
          split at hs
          · rename_i hn; cases hs; simp only [hn, if_true, List.map_cons, amEm_eq]
          · cases hs
        · split at hs
          · split at hs
            · split at hs
              · rename_i hc
                cases hs
                refine ⟨fun _ _ _ _ _ => rfl, ?_⟩
                simp only [mvG1, mvG2, mvG3, mvG4, List.map_cons, amGv, amSum_eq, hc, and_self, if_true]
              · cases hs
            · cases hs
          · cases hs
end AMG
end
section
/-! Its ends, calls, runs; and that the small machine runs so, too. -/
def amFin (E : mvE) (i : Instr) (len : Nat) (st : List amV) : Option (Option amV) := if len = 1 then (match i with
  | .return_ => match st, E.2.2.2.1 with
    | [], none => some none
    | _, _ => none
  | .ireturn => match st, E.2.2.2.1 with
    | [.inl x], some .int => some (some (.inl x))
    | [.inl (.inl x)], some .boolean => if x = 0 ∨ x = 1 then some (some (.inl (.inl x))) else none
    | _, _ => none
  | .areturn => match st, E.2.2.2.1 with
    | [.inr (.inr (.inl (some a)))], some (.object _) => some (some (.inr (.inr (.inl (some a)))))
    | [.inr (.inr (.inl (some a)))], some (.array _) => some (some (.inr (.inr (.inl (some a)))))
    | _, _ => none
  | _ => none) else none
def amInv (P : mvP) (j : Nat) (i : Instr) (len : Nat) (st : List amV) (h : amH) : Option (Nat × List amV × List amV) := match i with
  | .invokestatic idx => match mvPi P j idx with
    | some (j', n, 100) => if n ≤ st.length ∧ len = 3 then some (j', (st.take n).reverse, st.drop n) else none
    | _ => none
  | .invokevirtual idx => match mvPi P j idx with
    | some (j', n, ci) => match st.drop n with
      | .inr (.inr (.inl (some a))) :: r => match h.2[a]? with
        | some (.inr (ci', _)) => if n ≤ st.length ∧ len = 3 ∧ ci' = ci ∧ ci < 100 then some (j', .inr (.inr (.inl (some a))) :: (st.take n).reverse, r) else none
        | _ => none
      | _ => none
    | _ => none
  | .invokespecial idx => match mvPi P j idx with
    | some (j', n, ci) => match st.drop n with
      | .inr (.inr (.inl (some a))) :: r => if n ≤ st.length ∧ len = 3 ∧ (ci = 101 ∨ ci = 102) ∧ mvPo P j idx = false then some (j', .inr (.inr (.inl (some a))) :: (st.take n).reverse, r) else none
      | _ => none
    | _ => none
  | _ => none
def amArgs : Nat → List amV → amL
  | _, [] => []
  | i, v :: t => (i, v) :: amArgs (i + 1) t
def amAdd (dc ds : Nat) (o : Option amO) : Option amO := o.map (fun q => (q.1, q.2.1, dc + q.2.2.1, ds + q.2.2.2))
def amDrop (lv : amL) (x : Nat) : amL := lv.filter (fun q => !(q.1 == x) && !(q.1 + 1 == x && amCat q.2 == 2))
def amRun (κ : Nat → Nat) (P : mvP) (X : amX) (B : amB) (dec : Nat → Nat → Option (Instr × Nat)) : Nat → Nat → Nat → Nat → amL → List amV → amH → Option amO
  | 0, _, _, _, _, _, _ => none
  | n + 1, d, j, pc, lv, st, h => match mvPm P j, dec j pc with
    | some E, some (i, len) => match amF κ i len pc E.2.2.1 lv st with
        | some (pc', lv', st') => amRun κ P X B dec n d j pc' lv' st' h
        | none => match amG P X j d i len pc st h with
          | some (pc', st', h', dc, ds) => amAdd dc ds (amRun κ P X B dec n d j pc' lv st' h')
          | none => match amFin E i len st with
            | some r => some (.inl r, h, 0, 0)
            | none => match amInv P j i len st h with
              | none => none
              | some (j', as, rest) => if as.all (fun v => decide (amCat v = 1)) = true ∧ (rest.map amCat).sum ≤ 8 then (match d with
                | 0 => none
                | d' + 1 => match (match B j' with
                    | some b => if 8 ≤ d' then b as h else none
                    | none => amRun κ P X B dec n d' j' 0 (amArgs 0 as) [] h) with
                  | none => none
                  | some (.inl r, h', dc, ds) => amAdd dc ds (amRun κ P X B dec n (d' + 1) j (pc + 3) lv (r.toList ++ rest) h')
                  | some (.inr ex, h', dc, ds) => match mvPh P j pc ex with
                    | none => if E.2.2.2.2 = [] then some (.inr ex, h', dc, ds) else none
                    | some (_, x, pc') => amAdd dc ds (amRun κ P X B dec n (d' + 1) j pc' (amDrop lv x) [] h')) else none
    | _, _ => none
def amCont (κ : Nat → Nat) (P : mvP) (X : amX) (B : amB) (dec : Nat → Nat → Option (Instr × Nat)) (n d' j pc : Nat) (lv : amL) (rest : List amV) (E : mvE) (o1 : amO) : Option amO := match o1 with
  | (.inl r, h', dc, ds) => amAdd dc ds (amRun κ P X B dec n (d' + 1) j (pc + 3) lv (r.toList ++ rest) h')
  | (.inr ex, h', dc, ds) => match mvPh P j pc ex with
    | none => if E.2.2.2.2 = [] then some (.inr ex, h', dc, ds) else none
    | some (_, x, pc') => amAdd dc ds (amRun κ P X B dec n (d' + 1) j pc' (amDrop lv x) [] h')
def mvCont (P : mvP) (n d' j pc : Nat) (lv : mvL) (rest : List mvV) (E : mvE) (o1 : mvO) : Option mvO := match o1 with
  | (.inl r, h', dc, ds) => mvAdd dc ds (mvRun P n (d' + 1) j (pc + 3) lv (r.toList ++ rest) h')
  | (.inr ex, h', dc, ds) => match mvPh P j pc ex with
    | none => if E.2.2.2.2 = [] then some (.inr ex, h', dc, ds) else none
    | some (_, x, pc') => mvAdd dc ds (mvRun P n (d' + 1) j pc' (mvDrop lv x) [] h')
section AMR
variable {ρ : Nat → Int32} {κ : Nat → Nat} {P : mvP} {X : amX} {B : amB} {dec : Nat → Nat → Option (Instr × Nat)} {i : Instr} {j d pc len : Nat} {st : List amV} {h h' : amH} {E : mvE}
theorem amFin_ok {v : Option amV} (hs : amFin E i len st = some v) : (∀ (a b c : Nat) (lv : mvL) (s' : List mvV), mvF i a b c lv s' = none) ∧ (∀ (a b c d : Nat) (s' : List mvV) (h9 : mvH), mvG P a b i c d s' h9 = none) ∧ mvFin E i len (st.map (amGv ρ)) = some (v.map (amGv ρ)) := by
  unfold amFin at hs
  split at hs
  · rename_i hlen
    subst hlen
    split at hs
    · split at hs
      · rename_i hE
        cases hs
        exact ⟨fun _ _ _ _ _ => rfl, fun _ _ _ _ _ _ => rfl, by simp only [mvFin, if_true, List.map_nil, hE, Option.map_none]⟩
      · cases hs
    · split at hs
      · rename_i hE
        cases hs
        exact ⟨fun _ _ _ _ _ => rfl, fun _ _ _ _ _ _ => rfl, by simp only [mvFin, if_true, List.map_nil, List.map_cons, amGv, hE, Option.map_some]⟩
      · rename_i hE
        split at hs
        · rename_i hx
          cases hs
          exact ⟨fun _ _ _ _ _ => rfl, fun _ _ _ _ _ _ => rfl, by simp only [mvFin, if_true, List.map_nil, List.map_cons, amGv, amGi, hE, hx, Option.map_some]⟩
        · cases hs
      · cases hs
    · split at hs
      · rename_i hE
        cases hs
        exact ⟨fun _ _ _ _ _ => rfl, fun _ _ _ _ _ _ => rfl, by simp only [mvFin, if_true, List.map_nil, List.map_cons, amGv, hE, Option.map_some]⟩
      · rename_i hE
        cases hs
        exact ⟨fun _ _ _ _ _ => rfl, fun _ _ _ _ _ _ => rfl, by simp only [mvFin, if_true, List.map_nil, List.map_cons, amGv, hE, Option.map_some]⟩
      · cases hs
    · cases hs
  · cases hs
theorem amInv_ok {j' : Nat} {as rest : List amV} (hs : amInv P j i len st h = some (j', as, rest)) : (∀ (a b c : Nat) (lv : mvL) (s' : List mvV), mvF i a b c lv s' = none) ∧ (∀ (b c d : Nat) (s' : List mvV) (h9 : mvH), mvG P j b i c d s' h9 = none) ∧ (∀ (a : Nat) (s' : List mvV), mvFin E i a s' = none) ∧ mvInv P j i len (st.map (amGv ρ)) (amGh ρ h) = some (j', as.map (amGv ρ), rest.map (amGv ρ)) := by
  have hf : ∀ (a : Nat) (s' : List mvV), (∀ k, mvFin E (.invokestatic k) a s' = none) ∧ (∀ k, mvFin E (.invokevirtual k) a s' = none) ∧ (∀ k, mvFin E (.invokespecial k) a s' = none) := by
    intro a s'
    refine ⟨fun k => ?_, fun k => ?_, fun k => ?_⟩ <;> (unfold mvFin; split <;> rfl)
  unfold amInv at hs
  split at hs
  · split at hs
    · rename_i hi
      split at hs
      · rename_i hn
        cases hs
        refine ⟨fun _ _ _ _ _ => rfl, fun _ _ _ _ _ => rfl, fun a s' => (hf a s').1 _, ?_⟩
        simp only [mvInv, hi, List.length_map, hn, and_self, if_true, List.map_reverse, List.map_take, List.map_drop]
      · cases hs
    · cases hs
  · split at hs
    · rename_i hi
      split at hs
      · rename_i hd
        split at hs
        · rename_i hc
          have e1 := amHat (ρ := ρ) hc
          simp only [amGc] at e1
          split at hs
          · rename_i hn
            cases hs
            refine ⟨fun _ _ _ _ _ => rfl, fun _ _ _ _ _ => rfl, fun a s' => (hf a s').2.1 _, ?_⟩
            have e2 := congrArg (List.map (amGv ρ)) hd
            rw [List.map_drop] at e2
            simp only [mvInv, hi, e2, List.map_cons, amGv, e1, List.length_map, hn.1, hn.2.1, hn.2.2.1, hn.2.2.2, and_self, if_true, List.map_reverse, List.map_take]
          · cases hs
        · cases hs
      · cases hs
    · cases hs
  · split at hs
    · rename_i hi
      split at hs
      · rename_i hd
        split at hs
        · rename_i hn
          cases hs
          refine ⟨fun _ _ _ _ _ => rfl, fun b c d s' h9 => ?_, fun a s' => (hf a s').2.2 _, ?_⟩
          · simp only [mvG, mvG1, mvG2, mvG3, mvG4]
            split
            · rw [if_neg (by rw [hn.2.2.2]; simp)]
            · rfl
          · have e2 := congrArg (List.map (amGv ρ)) hd
            rw [List.map_drop] at e2
            simp only [mvInv, hi, e2, List.map_cons, amGv, List.length_map, hn.1, hn.2.1, hn.2.2.1, and_self, if_true, List.map_reverse, List.map_take]
        · cases hs
      · cases hs
    · cases hs
  · cases hs
theorem amArgs_eq : ∀ (as : List amV) (k : Nat), mvArgs k (as.map (amGv ρ)) = amGl ρ (amArgs k as)
  | [], _ => rfl
  | v :: t, k => by
    simp only [List.map_cons, mvArgs, amArgs, amGl]
    rw [amArgs_eq t (k + 1)]
    rfl
theorem amDrop_eq (lv : amL) (x : Nat) : mvDrop (amGl ρ lv) x = amGl ρ (amDrop lv x) := by
  unfold mvDrop amDrop amGl
  rw [List.filter_map]
  congr 1
  apply List.filter_congr
  intro q _
  simp [Function.comp, amCat_eq]
theorem amOne_eq (as : List amV) : mvOne (as.map (amGv ρ)) = as.all (fun v => decide (amCat v = 1)) := by
  unfold mvOne
  rw [List.all_map]
  congr 1
  funext v
  simp [Function.comp, amCat_eq]
theorem amAdd_inv {dc ds : Nat} {x : Option amO} {o : amO} (h : amAdd dc ds x = some o) : ∃ o', x = some o' ∧ o = (o'.1, o'.2.1, dc + o'.2.2.1, ds + o'.2.2.2) := by
  obtain ⟨o', h1, h2⟩ := Option.map_eq_some_iff.mp h
  exact ⟨o', h1, h2.symm⟩
/-- what the machine with unknown ints comes to, the small machine comes to -/
theorem amRun_ok (hρ : ∀ i, amOk (κ i) (ρ i)) (hX : ∀ o q, X o = some q → mvPx P o = some (q.1, fun k => amGi ρ (q.2 k))) (hB : ∀ j b', B j = some b' → ∃ b, mvPb P j = some b ∧ ∀ as h o, b' as h = some o → b (as.map (amGv ρ)) (amGh ρ h) = some (amGo ρ o)) (hB0 : ∀ j, B j = none → mvPb P j = none)
    (hdec : ∀ j E pc q, mvPm P j = some E → dec j pc = some q → decode E.2.1 pc = .ok q) :
    ∀ (n d j pc : Nat) (lv : amL) (st : List amV) (h : amH) (o : amO), amRun κ P X B dec n d j pc lv st h = some o → mvRun P n d j pc (amGl ρ lv) (st.map (amGv ρ)) (amGh ρ h) = some (amGo ρ o) := by
  intro n
  induction n with
  | zero => intro d j pc lv st h o hr; cases hr
  | succ n ih =>
    intro d j pc lv st h o hr
    rw [amRun] at hr
    rw [mvRun]
    split at hr
    · rename_i E i len hE hq
      rw [hE]
      simp only
      rw [hdec j E pc _ hE hq]
      simp only
      split at hr
      · rename_i pc' lv' st' hs
        rw [amF_ok hρ hs]
        exact ih d j pc' lv' st' h o hr
      · split at hr
        · rename_i pc' st' h1 dc ds hs
          obtain ⟨a1, a2⟩ := amG_ok hX hs
          obtain ⟨o', ho, rfl⟩ := amAdd_inv hr
          rw [a1, a2]
          simp only
          rw [ih d j pc' lv st' h1 o' ho]
          rfl
        · split at hr
          · rename_i r hs
            obtain ⟨a1, a2, a3⟩ := amFin_ok (P := P) (ρ := ρ) hs
            cases hr
            rw [a1, a2, a3]
            rfl
          · split at hr
            · cases hr
            · rename_i j' as rest hs
              obtain ⟨a1, a2, a3, a4⟩ := amInv_ok (ρ := ρ) (E := E) hs
              rw [a1, a2, a3, a4]
              simp only
              split at hr
              · rename_i hc
                rw [if_pos ⟨by rw [amOne_eq]; exact hc.1, by rw [amSum_eq]; exact hc.2⟩]
                cases d with
                | zero => cases hr
                | succ d' =>
                  simp only at hr ⊢
                  have fin : ∀ o1, amCont κ P X B dec n d' j pc lv rest E o1 = some o → mvCont P n d' j pc (amGl ρ lv) (rest.map (amGv ρ)) E (amGo ρ o1) = some (amGo ρ o) := by
                    rintro ⟨v | ex, h1, dc, ds⟩ hr
                    · obtain ⟨o', ho, rfl⟩ := amAdd_inv hr
                      show mvAdd dc ds (mvRun P n (d' + 1) j (pc + 3) (amGl ρ lv) ((v.map (amGv ρ)).toList ++ rest.map (amGv ρ)) (amGh ρ h1)) = _
                      have e1 : (v.map (amGv ρ)).toList ++ rest.map (amGv ρ) = (v.toList ++ rest).map (amGv ρ) := by cases v <;> simp
                      rw [e1, ih (d' + 1) j (pc + 3) lv (v.toList ++ rest) h1 o' ho]
                      rfl
                    · show (match mvPh P j pc ex with
                        | none => if E.2.2.2.2 = [] then some ((Sum.inr ex : mvR), amGh ρ h1, dc, ds) else none
                        | some (_, x, pc') => mvAdd dc ds (mvRun P n (d' + 1) j pc' (mvDrop (amGl ρ lv) x) [] (amGh ρ h1))) = _
                      have hr : (match mvPh P j pc ex with
                        | none => if E.2.2.2.2 = [] then some ((Sum.inr ex : amR), h1, dc, ds) else none
                        | some (_, x, pc') => amAdd dc ds (amRun κ P X B dec n (d' + 1) j pc' (amDrop lv x) [] h1)) = some o := hr
                      cases hph : mvPh P j pc ex with
                      | none =>
                        rw [hph] at hr
                        simp only at hr ⊢
                        split at hr
                        · rename_i hh
                          cases hr
                          rw [if_pos hh]
                          rfl
                        · cases hr
                      | some q =>
                        obtain ⟨hp, x, pc'⟩ := q
                        rw [hph] at hr
                        simp only at hr ⊢
                        obtain ⟨o', ho, rfl⟩ := amAdd_inv hr
                        have k1 := ih (d' + 1) j pc' (amDrop lv x) [] h1 o' ho
                        rw [← amDrop_eq] at k1
                        simp only [List.map_nil] at k1
                        rw [k1]
                        rfl
                  cases hb : B j' with
                  | none =>
                    rw [hb] at hr
                    rw [hB0 j' hb]
                    simp only at hr ⊢
                    cases hM : amRun κ P X B dec n d' j' 0 (amArgs 0 as) [] h with
                    | none => rw [hM] at hr; cases hr
                    | some o1 =>
                      rw [hM] at hr
                      have k1 := ih d' j' 0 (amArgs 0 as) [] h o1 hM
                      rw [← amArgs_eq] at k1
                      simp only [List.map_nil] at k1
                      rw [k1]
                      have hr' : amCont κ P X B dec n d' j pc lv rest E o1 = some o := by
                        obtain ⟨v | ex, h1, dc, ds⟩ := o1 <;> exact hr
                      have k2 := fin o1 hr'
                      obtain ⟨v | ex, h1, dc, ds⟩ := o1 <;> exact k2
                  | some b' =>
                    rw [hb] at hr
                    obtain ⟨b, hb1, hb2⟩ := hB j' b' hb
                    rw [hb1]
                    simp only at hr ⊢
                    by_cases h8 : 8 ≤ d'
                    · rw [if_pos h8] at hr ⊢
                      cases hM : b' as h with
                      | none => rw [hM] at hr; cases hr
                      | some o1 =>
                        rw [hM] at hr
                        rw [hb2 as h o1 hM]
                        have hr' : amCont κ P X B dec n d' j pc lv rest E o1 = some o := by
                          obtain ⟨v | ex, h1, dc, ds⟩ := o1 <;> exact hr
                        have k2 := fin o1 hr'
                        obtain ⟨v | ex, h1, dc, ds⟩ := o1 <;> exact k2
                    · rw [if_neg h8] at hr
                      cases hr
              · cases hr
    · cases hr
end AMR
end
section
/-! All instructions together: what decode says. -/
theorem pgCut {α : Type} {l : List α} {f : α → Bool} {a b : Nat} (hab : a + 60 = b) (h1 : ((l.drop a).take 60).all f = true) (h2 : (l.drop b).all f = true) : (l.drop a).all f = true := by
  subst hab
  rw [← List.take_append_drop 60 (l.drop a), List.all_append, h1, List.drop_drop]
  exact h2
theorem pgCut0 {l : List (Nat × Instr × Nat)} {cc : ByteArray} (h : (l.drop 0).all (fun q => decide (decode cc q.1 = .ok q.2)) = true) : ∀ q ∈ l, decode cc q.1 = .ok q.2 := fun q hq => of_decide_eq_true (List.all_eq_true.mp h q hq)
set_option maxRecDepth 100000 in
theorem pgDa0 : ∀ q ∈ pgD0, decode code q.1 = .ok q.2 := pgCut0 (pgCut (b := 60) rfl pgDk0_0 (pgCut (b := 120) rfl pgDk0_60 (pgCut (b := 180) rfl pgDk0_120 (pgCut (b := 240) rfl pgDk0_180 (pgCut (b := 300) rfl pgDk0_240 (pgCut (b := 360) rfl pgDk0_300 (pgCut (b := 420) rfl pgDk0_360 (pgCut (b := 480) rfl pgDk0_420 (pgCut (b := 540) rfl pgDk0_480 (pgCut (b := 600) rfl pgDk0_540 (pgCut (b := 660) rfl pgDk0_600 (pgCut (b := 720) rfl pgDk0_660 (pgCut (b := 780) rfl pgDk0_720 rfl)))))))))))))
set_option maxRecDepth 100000 in
theorem pgDa1 : ∀ q ∈ pgD1, decode prog_1_method_1_code q.1 = .ok q.2 := pgCut0 (pgCut (b := 60) rfl pgDk1_0 (pgCut (b := 120) rfl pgDk1_60 rfl))
set_option maxRecDepth 100000 in
theorem pgDa2 : ∀ q ∈ pgD2, decode prog_11_method_1_code q.1 = .ok q.2 := pgCut0 (pgCut (b := 60) rfl pgDk2_0 rfl)
set_option maxRecDepth 100000 in
theorem pgDa3 : ∀ q ∈ pgD3, decode prog_3_method_1_code q.1 = .ok q.2 := pgCut0 (pgCut (b := 60) rfl pgDk3_0 rfl)
set_option maxRecDepth 100000 in
theorem pgDa4 : ∀ q ∈ pgD4, decode prog_29_method_103_code q.1 = .ok q.2 := pgCut0 (pgCut (b := 60) rfl pgDk4_0 rfl)
set_option maxRecDepth 100000 in
theorem pgDa5 : ∀ q ∈ pgD5, decode prog_6_method_1_code q.1 = .ok q.2 := pgCut0 (pgCut (b := 60) rfl pgDk5_0 rfl)
set_option maxRecDepth 100000 in
theorem pgDa6 : ∀ q ∈ pgD6, decode prog_5_method_1_code q.1 = .ok q.2 := pgCut0 (pgCut (b := 60) rfl pgDk6_0 rfl)
set_option maxRecDepth 100000 in
theorem pgDa7 : ∀ q ∈ pgD7, decode prog_10_method_1_code q.1 = .ok q.2 := pgCut0 (pgCut (b := 60) rfl pgDk7_0 rfl)
set_option maxRecDepth 100000 in
theorem pgDa8 : ∀ q ∈ pgD8, decode prog_12_method_1_code q.1 = .ok q.2 := pgCut0 (pgCut (b := 60) rfl pgDk8_0 rfl)
set_option maxRecDepth 100000 in
theorem pgDa9 : ∀ q ∈ pgD9, decode prog_7_method_1_code q.1 = .ok q.2 := pgCut0 (pgCut (b := 60) rfl pgDk9_0 rfl)
set_option maxRecDepth 100000 in
theorem pgDa10 : ∀ q ∈ pgD10, decode prog_2_method_1_code q.1 = .ok q.2 := pgCut0 (pgCut (b := 60) rfl pgDk10_0 rfl)
set_option maxRecDepth 100000 in
theorem pgDa11 : ∀ q ∈ pgD11, decode prog_12_method_2_code q.1 = .ok q.2 := pgCut0 (pgCut (b := 60) rfl pgDk11_0 rfl)
set_option maxRecDepth 100000 in
theorem pgDa12 : ∀ q ∈ pgD12, decode prog_4_method_1_code q.1 = .ok q.2 := pgCut0 (pgCut (b := 60) rfl pgDk12_0 rfl)
set_option maxRecDepth 100000 in
theorem pgDa13 : ∀ q ∈ pgD13, decode prog_9_method_1_code q.1 = .ok q.2 := pgCut0 (pgCut (b := 60) rfl pgDk13_0 rfl)
set_option maxRecDepth 100000 in
theorem pgDa14 : ∀ q ∈ pgD14, decode prog_8_method_1_code q.1 = .ok q.2 := pgCut0 (pgCut (b := 60) rfl pgDk14_0 rfl)
set_option maxRecDepth 100000 in
theorem pgDa15 : ∀ q ∈ pgD15, decode method_3_code q.1 = .ok q.2 := pgCut0 (pgCut (b := 60) rfl pgDk15_0 rfl)
set_option maxRecDepth 100000 in
theorem pgDa16 : ∀ q ∈ pgD16, decode prog_1_method_2_code q.1 = .ok q.2 := pgCut0 (pgCut (b := 60) rfl pgDk16_0 rfl)
set_option maxRecDepth 100000 in
theorem pgDa17 : ∀ q ∈ pgD17, decode prog_11_method_2_code q.1 = .ok q.2 := pgCut0 (pgCut (b := 60) rfl pgDk17_0 rfl)
set_option maxRecDepth 100000 in
theorem pgDa18 : ∀ q ∈ pgD18, decode prog_1_method_19_code q.1 = .ok q.2 := pgCut0 (pgCut (b := 60) rfl pgDk18_0 rfl)
set_option maxRecDepth 100000 in
theorem pgDa19 : ∀ q ∈ pgD19, decode prog_11_method_9_code q.1 = .ok q.2 := pgCut0 (pgCut (b := 60) rfl pgDk19_0 (pgCut (b := 120) rfl pgDk19_60 rfl))
set_option maxRecDepth 100000 in
theorem pgDa20 : ∀ q ∈ pgD20, decode prog_1_method_21_code q.1 = .ok q.2 := pgCut0 (pgCut (b := 60) rfl pgDk20_0 rfl)
set_option maxRecDepth 100000 in
theorem pgDa21 : ∀ q ∈ pgD21, decode prog_1_method_20_code q.1 = .ok q.2 := pgCut0 (pgCut (b := 60) rfl pgDk21_0 rfl)
set_option maxRecDepth 100000 in
theorem pgDa22 : ∀ q ∈ pgD22, decode method_4_code q.1 = .ok q.2 := pgCut0 (pgCut (b := 60) rfl pgDk22_0 rfl)
set_option maxRecDepth 100000 in
theorem pgDa23 : ∀ q ∈ pgD23, decode prog_1_method_3_code q.1 = .ok q.2 := pgCut0 (pgCut (b := 60) rfl pgDk23_0 rfl)
set_option maxRecDepth 100000 in
theorem pgDa24 : ∀ q ∈ pgD24, decode method_5_code q.1 = .ok q.2 := pgCut0 (pgCut (b := 60) rfl pgDk24_0 rfl)
set_option maxRecDepth 100000 in
theorem pgDa25 : ∀ q ∈ pgD25, decode prog_1_method_4_code q.1 = .ok q.2 := pgCut0 (pgCut (b := 60) rfl pgDk25_0 rfl)
set_option maxRecDepth 100000 in
theorem pgDa26 : ∀ q ∈ pgD26, decode prog_3_method_3_code q.1 = .ok q.2 := pgCut0 (pgCut (b := 60) rfl pgDk26_0 rfl)
set_option maxRecDepth 100000 in
theorem pgDa27 : ∀ q ∈ pgD27, decode prog_3_method_2_code q.1 = .ok q.2 := pgCut0 (pgCut (b := 60) rfl pgDk27_0 rfl)
set_option maxRecDepth 100000 in
theorem pgDa28 : ∀ q ∈ pgD28, decode prog_3_method_7_code q.1 = .ok q.2 := pgCut0 (pgCut (b := 60) rfl pgDk28_0 rfl)
set_option maxRecDepth 100000 in
theorem pgDa29 : ∀ q ∈ pgD29, decode method_6_code q.1 = .ok q.2 := pgCut0 (pgCut (b := 60) rfl pgDk29_0 rfl)
set_option maxRecDepth 100000 in
theorem pgDa30 : ∀ q ∈ pgD30, decode prog_1_method_5_code q.1 = .ok q.2 := pgCut0 (pgCut (b := 60) rfl pgDk30_0 rfl)
set_option maxRecDepth 100000 in
theorem pgDa31 : ∀ q ∈ pgD31, decode prog_11_method_8_code q.1 = .ok q.2 := pgCut0 (pgCut (b := 60) rfl pgDk31_0 rfl)
set_option maxRecDepth 100000 in
theorem pgDa32 : ∀ q ∈ pgD32, decode prog_3_method_5_code q.1 = .ok q.2 := pgCut0 (pgCut (b := 60) rfl pgDk32_0 rfl)
set_option maxRecDepth 100000 in
theorem pgDa33 : ∀ q ∈ pgD33, decode prog_3_method_10_code q.1 = .ok q.2 := pgCut0 (pgCut (b := 60) rfl pgDk33_0 rfl)
set_option maxRecDepth 100000 in
theorem pgDa34 : ∀ q ∈ pgD34, decode prog_3_method_9_code q.1 = .ok q.2 := pgCut0 (pgCut (b := 60) rfl pgDk34_0 rfl)
set_option maxRecDepth 100000 in
theorem pgDa35 : ∀ q ∈ pgD35, decode prog_3_method_8_code q.1 = .ok q.2 := pgCut0 (pgCut (b := 60) rfl pgDk35_0 rfl)
set_option maxRecDepth 100000 in
theorem pgDa36 : ∀ q ∈ pgD36, decode method_7_code q.1 = .ok q.2 := pgCut0 (pgCut (b := 60) rfl pgDk36_0 rfl)
set_option maxRecDepth 100000 in
theorem pgDa37 : ∀ q ∈ pgD37, decode prog_1_method_6_code q.1 = .ok q.2 := pgCut0 (pgCut (b := 60) rfl pgDk37_0 rfl)
set_option maxRecDepth 100000 in
theorem pgDa38 : ∀ q ∈ pgD38, decode prog_1_method_22_code q.1 = .ok q.2 := pgCut0 (pgCut (b := 60) rfl pgDk38_0 rfl)
set_option maxRecDepth 100000 in
theorem pgDa39 : ∀ q ∈ pgD39, decode prog_6_method_7_code q.1 = .ok q.2 := pgCut0 (pgCut (b := 60) rfl pgDk39_0 rfl)
set_option maxRecDepth 100000 in
theorem pgDa40 : ∀ q ∈ pgD40, decode prog_6_method_9_code q.1 = .ok q.2 := pgCut0 (pgCut (b := 60) rfl pgDk40_0 rfl)
set_option maxRecDepth 100000 in
theorem pgDa41 : ∀ q ∈ pgD41, decode prog_6_method_8_code q.1 = .ok q.2 := pgCut0 (pgCut (b := 60) rfl pgDk41_0 rfl)
set_option maxRecDepth 100000 in
theorem pgDa42 : ∀ q ∈ pgD42, decode method_8_code q.1 = .ok q.2 := pgCut0 (pgCut (b := 60) rfl pgDk42_0 rfl)
set_option maxRecDepth 100000 in
theorem pgDa43 : ∀ q ∈ pgD43, decode prog_1_method_7_code q.1 = .ok q.2 := pgCut0 (pgCut (b := 60) rfl pgDk43_0 rfl)
set_option maxRecDepth 100000 in
theorem pgDa44 : ∀ q ∈ pgD44, decode method_9_code q.1 = .ok q.2 := pgCut0 (pgCut (b := 60) rfl pgDk44_0 rfl)
set_option maxRecDepth 100000 in
theorem pgDa45 : ∀ q ∈ pgD45, decode prog_1_method_8_code q.1 = .ok q.2 := pgCut0 (pgCut (b := 60) rfl pgDk45_0 rfl)
set_option maxRecDepth 100000 in
theorem pgDa46 : ∀ q ∈ pgD46, decode method_10_code q.1 = .ok q.2 := pgCut0 (pgCut (b := 60) rfl pgDk46_0 rfl)
set_option maxRecDepth 100000 in
theorem pgDa47 : ∀ q ∈ pgD47, decode prog_1_method_9_code q.1 = .ok q.2 := pgCut0 (pgCut (b := 60) rfl pgDk47_0 rfl)
set_option maxRecDepth 100000 in
theorem pgDa48 : ∀ q ∈ pgD48, decode prog_6_method_2_code q.1 = .ok q.2 := pgCut0 (pgCut (b := 60) rfl pgDk48_0 rfl)
set_option maxRecDepth 100000 in
theorem pgDa49 : ∀ q ∈ pgD49, decode method_11_code q.1 = .ok q.2 := pgCut0 (pgCut (b := 60) rfl pgDk49_0 rfl)
set_option maxRecDepth 100000 in
theorem pgDa50 : ∀ q ∈ pgD50, decode prog_1_method_10_code q.1 = .ok q.2 := pgCut0 (pgCut (b := 60) rfl pgDk50_0 rfl)
set_option maxRecDepth 100000 in
theorem pgDa51 : ∀ q ∈ pgD51, decode method_12_code q.1 = .ok q.2 := pgCut0 (pgCut (b := 60) rfl pgDk51_0 rfl)
set_option maxRecDepth 100000 in
theorem pgDa52 : ∀ q ∈ pgD52, decode prog_1_method_11_code q.1 = .ok q.2 := pgCut0 (pgCut (b := 60) rfl pgDk52_0 rfl)
set_option maxRecDepth 100000 in
theorem pgDa53 : ∀ q ∈ pgD53, decode prog_3_method_4_code q.1 = .ok q.2 := pgCut0 (pgCut (b := 60) rfl pgDk53_0 rfl)
set_option maxRecDepth 100000 in
theorem pgDa54 : ∀ q ∈ pgD54, decode method_13_code q.1 = .ok q.2 := pgCut0 (pgCut (b := 60) rfl pgDk54_0 rfl)
set_option maxRecDepth 100000 in
theorem pgDa55 : ∀ q ∈ pgD55, decode prog_1_method_12_code q.1 = .ok q.2 := pgCut0 (pgCut (b := 60) rfl pgDk55_0 rfl)
set_option maxRecDepth 100000 in
theorem pgDa56 : ∀ q ∈ pgD56, decode prog_5_method_3_code q.1 = .ok q.2 := pgCut0 (pgCut (b := 60) rfl pgDk56_0 rfl)
set_option maxRecDepth 100000 in
theorem pgDa57 : ∀ q ∈ pgD57, decode method_14_code q.1 = .ok q.2 := pgCut0 (pgCut (b := 60) rfl pgDk57_0 rfl)
set_option maxRecDepth 100000 in
theorem pgDa58 : ∀ q ∈ pgD58, decode prog_1_method_13_code q.1 = .ok q.2 := pgCut0 (pgCut (b := 60) rfl pgDk58_0 (pgCut (b := 120) rfl pgDk58_60 (pgCut (b := 180) rfl pgDk58_120 rfl)))
set_option maxRecDepth 100000 in
theorem pgDa59 : ∀ q ∈ pgD59, decode prog_3_method_14_code q.1 = .ok q.2 := pgCut0 (pgCut (b := 60) rfl pgDk59_0 rfl)
set_option maxRecDepth 100000 in
theorem pgDa60 : ∀ q ∈ pgD60, decode prog_3_method_13_code q.1 = .ok q.2 := pgCut0 (pgCut (b := 60) rfl pgDk60_0 rfl)
set_option maxRecDepth 100000 in
theorem pgDa61 : ∀ q ∈ pgD61, decode prog_3_method_15_code q.1 = .ok q.2 := pgCut0 (pgCut (b := 60) rfl pgDk61_0 rfl)
set_option maxRecDepth 100000 in
theorem pgDa62 : ∀ q ∈ pgD62, decode prog_3_method_16_code q.1 = .ok q.2 := pgCut0 (pgCut (b := 60) rfl pgDk62_0 rfl)
set_option maxRecDepth 100000 in
theorem pgDa63 : ∀ q ∈ pgD63, decode prog_2_method_3_code q.1 = .ok q.2 := pgCut0 (pgCut (b := 60) rfl pgDk63_0 rfl)
set_option maxRecDepth 100000 in
theorem pgDa64 : ∀ q ∈ pgD64, decode prog_3_method_12_code q.1 = .ok q.2 := pgCut0 (pgCut (b := 60) rfl pgDk64_0 rfl)
set_option maxRecDepth 100000 in
theorem pgDa65 : ∀ q ∈ pgD65, decode prog_12_method_9_code q.1 = .ok q.2 := pgCut0 (pgCut (b := 60) rfl pgDk65_0 rfl)
set_option maxRecDepth 100000 in
theorem pgDa66 : ∀ q ∈ pgD66, decode prog_12_method_11_code q.1 = .ok q.2 := pgCut0 (pgCut (b := 60) rfl pgDk66_0 (pgCut (b := 120) rfl pgDk66_60 rfl))
set_option maxRecDepth 100000 in
theorem pgDa67 : ∀ q ∈ pgD67, decode prog_6_method_6_code q.1 = .ok q.2 := pgCut0 (pgCut (b := 60) rfl pgDk67_0 rfl)
set_option maxRecDepth 100000 in
theorem pgDa68 : ∀ q ∈ pgD68, decode prog_12_method_12_code q.1 = .ok q.2 := pgCut0 (pgCut (b := 60) rfl pgDk68_0 rfl)
set_option maxRecDepth 100000 in
theorem pgDa69 : ∀ q ∈ pgD69, decode prog_6_method_3_code q.1 = .ok q.2 := pgCut0 (pgCut (b := 60) rfl pgDk69_0 rfl)
set_option maxRecDepth 100000 in
theorem pgDa70 : ∀ q ∈ pgD70, decode prog_6_method_4_code q.1 = .ok q.2 := pgCut0 (pgCut (b := 60) rfl pgDk70_0 rfl)
set_option maxRecDepth 100000 in
theorem pgDa71 : ∀ q ∈ pgD71, decode prog_12_method_13_code q.1 = .ok q.2 := pgCut0 (pgCut (b := 60) rfl pgDk71_0 rfl)
set_option maxRecDepth 100000 in
theorem pgDa72 : ∀ q ∈ pgD72, decode prog_6_method_5_code q.1 = .ok q.2 := pgCut0 (pgCut (b := 60) rfl pgDk72_0 rfl)
set_option maxRecDepth 100000 in
theorem pgDa73 : ∀ q ∈ pgD73, decode prog_7_method_2_code q.1 = .ok q.2 := pgCut0 (pgCut (b := 60) rfl pgDk73_0 rfl)
set_option maxRecDepth 100000 in
theorem pgDa74 : ∀ q ∈ pgD74, decode prog_7_method_4_code q.1 = .ok q.2 := pgCut0 (pgCut (b := 60) rfl pgDk74_0 rfl)
set_option maxRecDepth 100000 in
theorem pgDa75 : ∀ q ∈ pgD75, decode prog_7_method_3_code q.1 = .ok q.2 := pgCut0 (pgCut (b := 60) rfl pgDk75_0 rfl)
set_option maxRecDepth 100000 in
theorem pgDa76 : ∀ q ∈ pgD76, decode prog_12_method_14_code q.1 = .ok q.2 := pgCut0 (pgCut (b := 60) rfl pgDk76_0 (pgCut (b := 120) rfl pgDk76_60 rfl))
set_option maxRecDepth 100000 in
theorem pgDa77 : ∀ q ∈ pgD77, decode prog_12_method_5_code q.1 = .ok q.2 := pgCut0 (pgCut (b := 60) rfl pgDk77_0 rfl)
set_option maxRecDepth 100000 in
theorem pgDa78 : ∀ q ∈ pgD78, decode prog_12_method_4_code q.1 = .ok q.2 := pgCut0 (pgCut (b := 60) rfl pgDk78_0 rfl)
set_option maxRecDepth 100000 in
theorem pgDa79 : ∀ q ∈ pgD79, decode prog_7_method_10_code q.1 = .ok q.2 := pgCut0 (pgCut (b := 60) rfl pgDk79_0 (pgCut (b := 120) rfl pgDk79_60 rfl))
set_option maxRecDepth 100000 in
theorem pgDa80 : ∀ q ∈ pgD80, decode prog_7_method_6_code q.1 = .ok q.2 := pgCut0 (pgCut (b := 60) rfl pgDk80_0 rfl)
set_option maxRecDepth 100000 in
theorem pgDa81 : ∀ q ∈ pgD81, decode prog_7_method_11_code q.1 = .ok q.2 := pgCut0 (pgCut (b := 60) rfl pgDk81_0 (pgCut (b := 120) rfl pgDk81_60 rfl))
set_option maxRecDepth 100000 in
theorem pgDa82 : ∀ q ∈ pgD82, decode prog_12_method_19_code q.1 = .ok q.2 := pgCut0 (pgCut (b := 60) rfl pgDk82_0 (pgCut (b := 120) rfl pgDk82_60 rfl))
set_option maxRecDepth 100000 in
theorem pgDa83 : ∀ q ∈ pgD83, decode prog_12_method_20_code q.1 = .ok q.2 := pgCut0 (pgCut (b := 60) rfl pgDk83_0 rfl)
set_option maxRecDepth 100000 in
theorem pgDa84 : ∀ q ∈ pgD84, decode prog_12_method_15_code q.1 = .ok q.2 := pgCut0 (pgCut (b := 60) rfl pgDk84_0 rfl)
set_option maxRecDepth 100000 in
theorem pgDa85 : ∀ q ∈ pgD85, decode prog_3_method_6_code q.1 = .ok q.2 := pgCut0 (pgCut (b := 60) rfl pgDk85_0 rfl)
set_option maxRecDepth 100000 in
theorem pgDa86 : ∀ q ∈ pgD86, decode prog_12_method_16_code q.1 = .ok q.2 := pgCut0 (pgCut (b := 60) rfl pgDk86_0 rfl)
set_option maxRecDepth 100000 in
theorem pgDa87 : ∀ q ∈ pgD87, decode prog_11_method_7_code q.1 = .ok q.2 := pgCut0 (pgCut (b := 60) rfl pgDk87_0 rfl)
set_option maxRecDepth 100000 in
theorem pgDa88 : ∀ q ∈ pgD88, decode prog_20_method_49_code q.1 = .ok q.2 := pgCut0 (pgCut (b := 60) rfl pgDk88_0 rfl)
set_option maxRecDepth 100000 in
theorem pgDa89 : ∀ q ∈ pgD89, decode prog_12_method_17_code q.1 = .ok q.2 := pgCut0 (pgCut (b := 60) rfl pgDk89_0 (pgCut (b := 120) rfl pgDk89_60 rfl))
set_option maxRecDepth 100000 in
theorem pgDa90 : ∀ q ∈ pgD90, decode prog_12_method_18_code q.1 = .ok q.2 := pgCut0 (pgCut (b := 60) rfl pgDk90_0 rfl)
set_option maxRecDepth 100000 in
theorem pgDa91 : ∀ q ∈ pgD91, decode prog_11_method_4_code q.1 = .ok q.2 := pgCut0 (pgCut (b := 60) rfl pgDk91_0 rfl)
set_option maxRecDepth 100000 in
theorem pgDa92 : ∀ q ∈ pgD92, decode prog_11_method_3_code q.1 = .ok q.2 := pgCut0 (pgCut (b := 60) rfl pgDk92_0 rfl)
set_option maxRecDepth 100000 in
theorem pgDa93 : ∀ q ∈ pgD93, decode prog_11_method_5_code q.1 = .ok q.2 := pgCut0 (pgCut (b := 60) rfl pgDk93_0 rfl)
set_option maxRecDepth 100000 in
theorem pgDa94 : ∀ q ∈ pgD94, decode prog_5_method_5_code q.1 = .ok q.2 := pgCut0 (pgCut (b := 60) rfl pgDk94_0 rfl)
set_option maxRecDepth 100000 in
theorem pgDa95 : ∀ q ∈ pgD95, decode prog_2_method_4_code q.1 = .ok q.2 := pgCut0 (pgCut (b := 60) rfl pgDk95_0 rfl)
set_option maxRecDepth 100000 in
theorem pgDa96 : ∀ q ∈ pgD96, decode prog_12_method_10_code q.1 = .ok q.2 := pgCut0 (pgCut (b := 60) rfl pgDk96_0 rfl)
set_option maxRecDepth 100000 in
theorem pgDa97 : ∀ q ∈ pgD97, decode prog_7_method_12_code q.1 = .ok q.2 := pgCut0 (pgCut (b := 60) rfl pgDk97_0 (pgCut (b := 120) rfl pgDk97_60 rfl))
set_option maxRecDepth 100000 in
theorem pgDa98 : ∀ q ∈ pgD98, decode prog_7_method_13_code q.1 = .ok q.2 := pgCut0 (pgCut (b := 60) rfl pgDk98_0 rfl)
set_option maxRecDepth 100000 in
theorem pgDa99 : ∀ q ∈ pgD99, decode prog_29_method_104_code q.1 = .ok q.2 := pgCut0 (pgCut (b := 60) rfl pgDk99_0 rfl)
set_option maxRecDepth 100000 in
theorem pgDa100 : ∀ q ∈ pgD100, decode prog_29_method_30_code q.1 = .ok q.2 := pgCut0 (pgCut (b := 60) rfl pgDk100_0 rfl)
set_option maxRecDepth 100000 in
theorem pgDa101 : ∀ q ∈ pgD101, decode prog_7_method_14_code q.1 = .ok q.2 := pgCut0 (pgCut (b := 60) rfl pgDk101_0 rfl)
set_option maxRecDepth 100000 in
theorem pgDa102 : ∀ q ∈ pgD102, decode prog_7_method_15_code q.1 = .ok q.2 := pgCut0 (pgCut (b := 60) rfl pgDk102_0 rfl)
set_option maxRecDepth 100000 in
theorem pgDa103 : ∀ q ∈ pgD103, decode prog_7_method_19_code q.1 = .ok q.2 := pgCut0 (pgCut (b := 60) rfl pgDk103_0 rfl)
set_option maxRecDepth 100000 in
theorem pgDa104 : ∀ q ∈ pgD104, decode prog_3_method_11_code q.1 = .ok q.2 := pgCut0 (pgCut (b := 60) rfl pgDk104_0 rfl)
set_option maxRecDepth 100000 in
theorem pgDa105 : ∀ q ∈ pgD105, decode prog_4_method_2_code q.1 = .ok q.2 := pgCut0 (pgCut (b := 60) rfl pgDk105_0 rfl)
set_option maxRecDepth 100000 in
theorem pgDa106 : ∀ q ∈ pgD106, decode prog_7_method_5_code q.1 = .ok q.2 := pgCut0 (pgCut (b := 60) rfl pgDk106_0 rfl)
set_option maxRecDepth 100000 in
theorem pgDa107 : ∀ q ∈ pgD107, decode prog_12_method_3_code q.1 = .ok q.2 := pgCut0 (pgCut (b := 60) rfl pgDk107_0 rfl)
set_option maxRecDepth 100000 in
theorem pgDa108 : ∀ q ∈ pgD108, decode prog_4_method_4_code q.1 = .ok q.2 := pgCut0 (pgCut (b := 60) rfl pgDk108_0 rfl)
set_option maxRecDepth 100000 in
theorem pgDa109 : ∀ q ∈ pgD109, decode prog_12_method_6_code q.1 = .ok q.2 := pgCut0 (pgCut (b := 60) rfl pgDk109_0 rfl)
set_option maxRecDepth 100000 in
theorem pgDa110 : ∀ q ∈ pgD110, decode prog_4_method_5_code q.1 = .ok q.2 := pgCut0 (pgCut (b := 60) rfl pgDk110_0 rfl)
set_option maxRecDepth 100000 in
theorem pgDa111 : ∀ q ∈ pgD111, decode prog_7_method_7_code q.1 = .ok q.2 := pgCut0 (pgCut (b := 60) rfl pgDk111_0 rfl)
set_option maxRecDepth 100000 in
theorem pgDa112 : ∀ q ∈ pgD112, decode prog_7_method_8_code q.1 = .ok q.2 := pgCut0 (pgCut (b := 60) rfl pgDk112_0 rfl)
set_option maxRecDepth 100000 in
theorem pgDa113 : ∀ q ∈ pgD113, decode prog_4_method_6_code q.1 = .ok q.2 := pgCut0 (pgCut (b := 60) rfl pgDk113_0 (pgCut (b := 120) rfl pgDk113_60 rfl))
set_option maxRecDepth 100000 in
theorem pgDa114 : ∀ q ∈ pgD114, decode prog_7_method_18_code q.1 = .ok q.2 := pgCut0 (pgCut (b := 60) rfl pgDk114_0 rfl)
set_option maxRecDepth 100000 in
theorem pgDa115 : ∀ q ∈ pgD115, decode prog_5_method_6_code q.1 = .ok q.2 := pgCut0 (pgCut (b := 60) rfl pgDk115_0 rfl)
set_option maxRecDepth 100000 in
theorem pgDa116 : ∀ q ∈ pgD116, decode prog_5_method_9_code q.1 = .ok q.2 := pgCut0 (pgCut (b := 60) rfl pgDk116_0 rfl)
set_option maxRecDepth 100000 in
theorem pgDa117 : ∀ q ∈ pgD117, decode prog_5_method_7_code q.1 = .ok q.2 := pgCut0 (pgCut (b := 60) rfl pgDk117_0 rfl)
set_option maxRecDepth 100000 in
theorem pgDa118 : ∀ q ∈ pgD118, decode prog_5_method_8_code q.1 = .ok q.2 := pgCut0 (pgCut (b := 60) rfl pgDk118_0 rfl)
set_option maxRecDepth 100000 in
theorem pgDa119 : ∀ q ∈ pgD119, decode prog_10_method_3_code q.1 = .ok q.2 := pgCut0 (pgCut (b := 60) rfl pgDk119_0 rfl)
set_option maxRecDepth 100000 in
theorem pgDa120 : ∀ q ∈ pgD120, decode prog_10_method_6_code q.1 = .ok q.2 := pgCut0 (pgCut (b := 60) rfl pgDk120_0 rfl)
set_option maxRecDepth 100000 in
theorem pgDa121 : ∀ q ∈ pgD121, decode prog_12_method_7_code q.1 = .ok q.2 := pgCut0 (pgCut (b := 60) rfl pgDk121_0 rfl)
set_option maxRecDepth 100000 in
theorem pgDa122 : ∀ q ∈ pgD122, decode prog_10_method_8_code q.1 = .ok q.2 := pgCut0 (pgCut (b := 60) rfl pgDk122_0 rfl)
set_option maxRecDepth 100000 in
theorem pgDa123 : ∀ q ∈ pgD123, decode prog_10_method_9_code q.1 = .ok q.2 := pgCut0 (pgCut (b := 60) rfl pgDk123_0 rfl)
set_option maxRecDepth 100000 in
theorem pgDa124 : ∀ q ∈ pgD124, decode prog_3_method_17_code q.1 = .ok q.2 := pgCut0 (pgCut (b := 60) rfl pgDk124_0 rfl)
set_option maxRecDepth 100000 in
theorem pgDa125 : ∀ q ∈ pgD125, decode method_15_code q.1 = .ok q.2 := pgCut0 (pgCut (b := 60) rfl pgDk125_0 rfl)
set_option maxRecDepth 100000 in
theorem pgDa126 : ∀ q ∈ pgD126, decode prog_1_method_14_code q.1 = .ok q.2 := pgCut0 (pgCut (b := 60) rfl pgDk126_0 rfl)
set_option maxRecDepth 100000 in
theorem pgDa127 : ∀ q ∈ pgD127, decode prog_5_method_2_code q.1 = .ok q.2 := pgCut0 (pgCut (b := 60) rfl pgDk127_0 rfl)
set_option maxRecDepth 100000 in
theorem pgDa128 : ∀ q ∈ pgD128, decode prog_2_method_2_code q.1 = .ok q.2 := pgCut0 (pgCut (b := 60) rfl pgDk128_0 (pgCut (b := 120) rfl pgDk128_60 rfl))
set_option maxRecDepth 100000 in
theorem pgDa129 : ∀ q ∈ pgD129, decode prog_12_method_8_code q.1 = .ok q.2 := pgCut0 (pgCut (b := 60) rfl pgDk129_0 rfl)
set_option maxRecDepth 100000 in
theorem pgDa130 : ∀ q ∈ pgD130, decode prog_7_method_20_code q.1 = .ok q.2 := pgCut0 (pgCut (b := 60) rfl pgDk130_0 rfl)
set_option maxRecDepth 100000 in
theorem pgDa131 : ∀ q ∈ pgD131, decode prog_7_method_21_code q.1 = .ok q.2 := pgCut0 (pgCut (b := 60) rfl pgDk131_0 (pgCut (b := 120) rfl pgDk131_60 rfl))
set_option maxRecDepth 100000 in
theorem pgDa132 : ∀ q ∈ pgD132, decode prog_2_method_5_code q.1 = .ok q.2 := pgCut0 (pgCut (b := 60) rfl pgDk132_0 rfl)
set_option maxRecDepth 100000 in
theorem pgDa133 : ∀ q ∈ pgD133, decode prog_7_method_16_code q.1 = .ok q.2 := pgCut0 (pgCut (b := 60) rfl pgDk133_0 rfl)
set_option maxRecDepth 100000 in
theorem pgDa134 : ∀ q ∈ pgD134, decode prog_7_method_17_code q.1 = .ok q.2 := pgCut0 (pgCut (b := 60) rfl pgDk134_0 rfl)
set_option maxRecDepth 100000 in
theorem pgDa135 : ∀ q ∈ pgD135, decode prog_4_method_3_code q.1 = .ok q.2 := pgCut0 (pgCut (b := 60) rfl pgDk135_0 rfl)
set_option maxRecDepth 100000 in
theorem pgDa136 : ∀ q ∈ pgD136, decode prog_2_method_6_code q.1 = .ok q.2 := pgCut0 (pgCut (b := 60) rfl pgDk136_0 rfl)
set_option maxRecDepth 100000 in
theorem pgDa137 : ∀ q ∈ pgD137, decode prog_11_method_6_code q.1 = .ok q.2 := pgCut0 (pgCut (b := 60) rfl pgDk137_0 rfl)
set_option maxRecDepth 100000 in
theorem pgDa138 : ∀ q ∈ pgD138, decode prog_2_method_7_code q.1 = .ok q.2 := pgCut0 (pgCut (b := 60) rfl pgDk138_0 (pgCut (b := 120) rfl pgDk138_60 rfl))
set_option maxRecDepth 100000 in
theorem pgDa139 : ∀ q ∈ pgD139, decode prog_7_method_9_code q.1 = .ok q.2 := pgCut0 (pgCut (b := 60) rfl pgDk139_0 rfl)
set_option maxRecDepth 100000 in
theorem pgDa140 : ∀ q ∈ pgD140, decode prog_11_method_10_code q.1 = .ok q.2 := pgCut0 (pgCut (b := 60) rfl pgDk140_0 rfl)
set_option maxRecDepth 100000 in
theorem pgDa141 : ∀ q ∈ pgD141, decode prog_5_method_10_code q.1 = .ok q.2 := pgCut0 (pgCut (b := 60) rfl pgDk141_0 rfl)
set_option maxRecDepth 100000 in
theorem pgDa142 : ∀ q ∈ pgD142, decode prog_10_method_2_code q.1 = .ok q.2 := pgCut0 (pgCut (b := 60) rfl pgDk142_0 rfl)
set_option maxRecDepth 100000 in
theorem pgDa143 : ∀ q ∈ pgD143, decode method_16_code q.1 = .ok q.2 := pgCut0 (pgCut (b := 60) rfl pgDk143_0 rfl)
set_option maxRecDepth 100000 in
theorem pgDa144 : ∀ q ∈ pgD144, decode prog_1_method_15_code q.1 = .ok q.2 := pgCut0 (pgCut (b := 60) rfl pgDk144_0 rfl)
set_option maxRecDepth 100000 in
theorem pgDa145 : ∀ q ∈ pgD145, decode method_17_code q.1 = .ok q.2 := pgCut0 (pgCut (b := 60) rfl pgDk145_0 rfl)
set_option maxRecDepth 100000 in
theorem pgDa146 : ∀ q ∈ pgD146, decode prog_1_method_16_code q.1 = .ok q.2 := pgCut0 (pgCut (b := 60) rfl pgDk146_0 rfl)
set_option maxRecDepth 100000 in
theorem pgDa147 : ∀ q ∈ pgD147, decode prog_1_method_23_code q.1 = .ok q.2 := pgCut0 (pgCut (b := 60) rfl pgDk147_0 rfl)
set_option maxRecDepth 100000 in
theorem pgDa148 : ∀ q ∈ pgD148, decode method_18_code q.1 = .ok q.2 := pgCut0 (pgCut (b := 60) rfl pgDk148_0 rfl)
set_option maxRecDepth 100000 in
theorem pgDa149 : ∀ q ∈ pgD149, decode prog_1_method_17_code q.1 = .ok q.2 := pgCut0 (pgCut (b := 60) rfl pgDk149_0 rfl)
set_option maxRecDepth 100000 in
theorem pgDa150 : ∀ q ∈ pgD150, decode prog_1_method_24_code q.1 = .ok q.2 := pgCut0 (pgCut (b := 60) rfl pgDk150_0 rfl)
set_option maxRecDepth 100000 in
theorem pgDa151 : ∀ q ∈ pgD151, decode prog_9_method_4_code q.1 = .ok q.2 := pgCut0 (pgCut (b := 60) rfl pgDk151_0 (pgCut (b := 120) rfl pgDk151_60 rfl))
set_option maxRecDepth 100000 in
theorem pgDa152 : ∀ q ∈ pgD152, decode prog_8_method_2_code q.1 = .ok q.2 := pgCut0 (pgCut (b := 60) rfl pgDk152_0 rfl)
set_option maxRecDepth 100000 in
theorem pgDa153 : ∀ q ∈ pgD153, decode prog_5_method_4_code q.1 = .ok q.2 := pgCut0 (pgCut (b := 60) rfl pgDk153_0 rfl)
set_option maxRecDepth 100000 in
theorem pgDa154 : ∀ q ∈ pgD154, decode prog_8_method_5_code q.1 = .ok q.2 := pgCut0 (pgCut (b := 60) rfl pgDk154_0 rfl)
set_option maxRecDepth 100000 in
theorem pgDa155 : ∀ q ∈ pgD155, decode prog_9_method_8_code q.1 = .ok q.2 := pgCut0 (pgCut (b := 60) rfl pgDk155_0 rfl)
set_option maxRecDepth 100000 in
theorem pgDa156 : ∀ q ∈ pgD156, decode prog_9_method_5_code q.1 = .ok q.2 := pgCut0 (pgCut (b := 60) rfl pgDk156_0 rfl)
set_option maxRecDepth 100000 in
theorem pgDa157 : ∀ q ∈ pgD157, decode prog_8_method_3_code q.1 = .ok q.2 := pgCut0 (pgCut (b := 60) rfl pgDk157_0 rfl)
set_option maxRecDepth 100000 in
theorem pgDa158 : ∀ q ∈ pgD158, decode prog_9_method_11_code q.1 = .ok q.2 := pgCut0 (pgCut (b := 60) rfl pgDk158_0 (pgCut (b := 120) rfl pgDk158_60 rfl))
set_option maxRecDepth 100000 in
theorem pgDa159 : ∀ q ∈ pgD159, decode prog_9_method_7_code q.1 = .ok q.2 := pgCut0 (pgCut (b := 60) rfl pgDk159_0 rfl)
set_option maxRecDepth 100000 in
theorem pgDa160 : ∀ q ∈ pgD160, decode prog_8_method_8_code q.1 = .ok q.2 := pgCut0 (pgCut (b := 60) rfl pgDk160_0 rfl)
set_option maxRecDepth 100000 in
theorem pgDa161 : ∀ q ∈ pgD161, decode prog_8_method_7_code q.1 = .ok q.2 := pgCut0 (pgCut (b := 60) rfl pgDk161_0 rfl)
set_option maxRecDepth 100000 in
theorem pgDa162 : ∀ q ∈ pgD162, decode prog_9_method_9_code q.1 = .ok q.2 := pgCut0 (pgCut (b := 60) rfl pgDk162_0 rfl)
set_option maxRecDepth 100000 in
theorem pgDa163 : ∀ q ∈ pgD163, decode prog_9_method_12_code q.1 = .ok q.2 := pgCut0 (pgCut (b := 60) rfl pgDk163_0 rfl)
set_option maxRecDepth 100000 in
theorem pgDa164 : ∀ q ∈ pgD164, decode prog_8_method_14_code q.1 = .ok q.2 := pgCut0 (pgCut (b := 60) rfl pgDk164_0 rfl)
set_option maxRecDepth 100000 in
theorem pgDa165 : ∀ q ∈ pgD165, decode prog_8_method_11_code q.1 = .ok q.2 := pgCut0 (pgCut (b := 60) rfl pgDk165_0 rfl)
set_option maxRecDepth 100000 in
theorem pgDa166 : ∀ q ∈ pgD166, decode prog_9_method_10_code q.1 = .ok q.2 := pgCut0 (pgCut (b := 60) rfl pgDk166_0 rfl)
set_option maxRecDepth 100000 in
theorem pgDa167 : ∀ q ∈ pgD167, decode prog_9_method_13_code q.1 = .ok q.2 := pgCut0 (pgCut (b := 60) rfl pgDk167_0 rfl)
set_option maxRecDepth 100000 in
theorem pgDa168 : ∀ q ∈ pgD168, decode prog_8_method_4_code q.1 = .ok q.2 := pgCut0 (pgCut (b := 60) rfl pgDk168_0 rfl)
set_option maxRecDepth 100000 in
theorem pgDa169 : ∀ q ∈ pgD169, decode prog_10_method_7_code q.1 = .ok q.2 := pgCut0 (pgCut (b := 60) rfl pgDk169_0 rfl)
set_option maxRecDepth 100000 in
theorem pgDa170 : ∀ q ∈ pgD170, decode prog_10_method_4_code q.1 = .ok q.2 := pgCut0 (pgCut (b := 60) rfl pgDk170_0 rfl)
set_option maxRecDepth 100000 in
theorem pgDa171 : ∀ q ∈ pgD171, decode prog_10_method_5_code q.1 = .ok q.2 := pgCut0 (pgCut (b := 60) rfl pgDk171_0 rfl)
set_option maxRecDepth 100000 in
theorem pgDa172 : ∀ q ∈ pgD172, decode prog_8_method_6_code q.1 = .ok q.2 := pgCut0 (pgCut (b := 60) rfl pgDk172_0 rfl)
set_option maxRecDepth 100000 in
theorem pgDa173 : ∀ q ∈ pgD173, decode prog_9_method_14_code q.1 = .ok q.2 := pgCut0 (pgCut (b := 60) rfl pgDk173_0 rfl)
set_option maxRecDepth 100000 in
theorem pgDa174 : ∀ q ∈ pgD174, decode prog_9_method_15_code q.1 = .ok q.2 := pgCut0 (pgCut (b := 60) rfl pgDk174_0 (pgCut (b := 120) rfl pgDk174_60 rfl))
set_option maxRecDepth 100000 in
theorem pgDa175 : ∀ q ∈ pgD175, decode prog_9_method_16_code q.1 = .ok q.2 := pgCut0 (pgCut (b := 60) rfl pgDk175_0 (pgCut (b := 120) rfl pgDk175_60 rfl))
set_option maxRecDepth 100000 in
theorem pgDa176 : ∀ q ∈ pgD176, decode prog_8_method_10_code q.1 = .ok q.2 := pgCut0 (pgCut (b := 60) rfl pgDk176_0 rfl)
set_option maxRecDepth 100000 in
theorem pgDa177 : ∀ q ∈ pgD177, decode prog_9_method_17_code q.1 = .ok q.2 := pgCut0 (pgCut (b := 60) rfl pgDk177_0 (pgCut (b := 120) rfl pgDk177_60 rfl))
set_option maxRecDepth 100000 in
theorem pgDa178 : ∀ q ∈ pgD178, decode prog_8_method_12_code q.1 = .ok q.2 := pgCut0 (pgCut (b := 60) rfl pgDk178_0 rfl)
set_option maxRecDepth 100000 in
theorem pgDa179 : ∀ q ∈ pgD179, decode prog_8_method_9_code q.1 = .ok q.2 := pgCut0 (pgCut (b := 60) rfl pgDk179_0 rfl)
set_option maxRecDepth 100000 in
theorem pgDa180 : ∀ q ∈ pgD180, decode prog_8_method_13_code q.1 = .ok q.2 := pgCut0 (pgCut (b := 60) rfl pgDk180_0 rfl)
set_option maxRecDepth 100000 in
theorem pgDa181 : ∀ q ∈ pgD181, decode prog_9_method_18_code q.1 = .ok q.2 := pgCut0 (pgCut (b := 60) rfl pgDk181_0 rfl)
set_option maxRecDepth 100000 in
theorem pgDa182 : ∀ q ∈ pgD182, decode prog_9_method_6_code q.1 = .ok q.2 := pgCut0 (pgCut (b := 60) rfl pgDk182_0 rfl)
set_option maxRecDepth 100000 in
theorem pgDa183 : ∀ q ∈ pgD183, decode method_19_code q.1 = .ok q.2 := pgCut0 (pgCut (b := 60) rfl pgDk183_0 rfl)
set_option maxRecDepth 100000 in
theorem pgDa184 : ∀ q ∈ pgD184, decode prog_1_method_18_code q.1 = .ok q.2 := pgCut0 (pgCut (b := 60) rfl pgDk184_0 rfl)
set_option maxRecDepth 100000 in
theorem pgDa185 : ∀ q ∈ pgD185, decode prog_9_method_2_code q.1 = .ok q.2 := pgCut0 (pgCut (b := 60) rfl pgDk185_0 rfl)
set_option maxRecDepth 100000 in
theorem pgDa186 : ∀ q ∈ pgD186, decode prog_9_method_3_code q.1 = .ok q.2 := pgCut0 (pgCut (b := 60) rfl pgDk186_0 rfl)
set_option maxRecDepth 100000 in
theorem pgDa187 : ∀ q ∈ pgD187, decode prog_14_method_1_code q.1 = .ok q.2 := pgCut0 (pgCut (b := 60) rfl pgDk187_0 (pgCut (b := 120) rfl pgDk187_60 (pgCut (b := 180) rfl pgDk187_120 (pgCut (b := 240) rfl pgDk187_180 (pgCut (b := 300) rfl pgDk187_240 rfl)))))
set_option maxRecDepth 100000 in
theorem pgDa188 : ∀ q ∈ pgD188, decode prog_14_method_2_code q.1 = .ok q.2 := pgCut0 (pgCut (b := 60) rfl pgDk188_0 rfl)
set_option maxRecDepth 100000 in
theorem pgDa189 : ∀ q ∈ pgD189, decode prog_14_method_6_code q.1 = .ok q.2 := pgCut0 (pgCut (b := 60) rfl pgDk189_0 rfl)
set_option maxRecDepth 100000 in
theorem pgDa190 : ∀ q ∈ pgD190, decode prog_14_method_3_code q.1 = .ok q.2 := pgCut0 (pgCut (b := 60) rfl pgDk190_0 rfl)
set_option maxRecDepth 100000 in
theorem pgDa191 : ∀ q ∈ pgD191, decode prog_14_method_5_code q.1 = .ok q.2 := pgCut0 (pgCut (b := 60) rfl pgDk191_0 rfl)
set_option maxRecDepth 100000 in
theorem pgDa192 : ∀ q ∈ pgD192, decode prog_14_method_4_code q.1 = .ok q.2 := pgCut0 (pgCut (b := 60) rfl pgDk192_0 rfl)
set_option maxRecDepth 100000 in
theorem pgDa193 : ∀ q ∈ pgD193, decode prog_14_method_7_code q.1 = .ok q.2 := pgCut0 (pgCut (b := 60) rfl pgDk193_0 rfl)
set_option maxRecDepth 100000 in
theorem pgDa194 : ∀ q ∈ pgD194, decode prog_14_method_9_code q.1 = .ok q.2 := pgCut0 (pgCut (b := 60) rfl pgDk194_0 rfl)
set_option maxRecDepth 100000 in
theorem pgDa195 : ∀ q ∈ pgD195, decode prog_14_method_8_code q.1 = .ok q.2 := pgCut0 (pgCut (b := 60) rfl pgDk195_0 rfl)
set_option maxRecDepth 100000 in
theorem pgDa196 : ∀ q ∈ pgD196, decode prog_14_method_12_code q.1 = .ok q.2 := pgCut0 (pgCut (b := 60) rfl pgDk196_0 (pgCut (b := 120) rfl pgDk196_60 rfl))
set_option maxRecDepth 100000 in
theorem pgDa197 : ∀ q ∈ pgD197, decode prog_14_method_10_code q.1 = .ok q.2 := pgCut0 (pgCut (b := 60) rfl pgDk197_0 (pgCut (b := 120) rfl pgDk197_60 rfl))
set_option maxRecDepth 100000 in
theorem pgDa198 : ∀ q ∈ pgD198, decode prog_14_method_11_code q.1 = .ok q.2 := pgCut0 (pgCut (b := 60) rfl pgDk198_0 rfl)
set_option maxRecDepth 100000 in
theorem pgDa199 : ∀ q ∈ pgD199, decode prog_14_method_14_code q.1 = .ok q.2 := pgCut0 (pgCut (b := 60) rfl pgDk199_0 (pgCut (b := 120) rfl pgDk199_60 rfl))
set_option maxRecDepth 100000 in
theorem pgDa200 : ∀ q ∈ pgD200, decode prog_14_method_18_code q.1 = .ok q.2 := pgCut0 (pgCut (b := 60) rfl pgDk200_0 rfl)
set_option maxRecDepth 100000 in
theorem pgDa201 : ∀ q ∈ pgD201, decode prog_14_method_16_code q.1 = .ok q.2 := pgCut0 (pgCut (b := 60) rfl pgDk201_0 rfl)
set_option maxRecDepth 100000 in
theorem pgDa202 : ∀ q ∈ pgD202, decode prog_14_method_19_code q.1 = .ok q.2 := pgCut0 (pgCut (b := 60) rfl pgDk202_0 rfl)
set_option maxRecDepth 100000 in
theorem pgDa203 : ∀ q ∈ pgD203, decode prog_14_method_17_code q.1 = .ok q.2 := pgCut0 (pgCut (b := 60) rfl pgDk203_0 rfl)
set_option maxRecDepth 100000 in
theorem pgDa204 : ∀ q ∈ pgD204, decode prog_14_method_20_code q.1 = .ok q.2 := pgCut0 (pgCut (b := 60) rfl pgDk204_0 rfl)
set_option maxRecDepth 100000 in
theorem pgDa205 : ∀ q ∈ pgD205, decode prog_14_method_21_code q.1 = .ok q.2 := pgCut0 (pgCut (b := 60) rfl pgDk205_0 rfl)
set_option maxRecDepth 100000 in
theorem pgDa206 : ∀ q ∈ pgD206, decode prog_14_method_15_code q.1 = .ok q.2 := pgCut0 (pgCut (b := 60) rfl pgDk206_0 rfl)
set_option maxRecDepth 100000 in
theorem pgDa207 : ∀ q ∈ pgD207, decode prog_14_method_22_code q.1 = .ok q.2 := pgCut0 (pgCut (b := 60) rfl pgDk207_0 rfl)
set_option maxRecDepth 100000 in
theorem pgDa208 : ∀ q ∈ pgD208, decode prog_14_method_23_code q.1 = .ok q.2 := pgCut0 (pgCut (b := 60) rfl pgDk208_0 rfl)
set_option maxRecDepth 100000 in
theorem pgDa209 : ∀ q ∈ pgD209, decode prog_14_method_24_code q.1 = .ok q.2 := pgCut0 (pgCut (b := 60) rfl pgDk209_0 rfl)
set_option maxRecDepth 100000 in
theorem pgDa210 : ∀ q ∈ pgD210, decode prog_14_method_49_code q.1 = .ok q.2 := pgCut0 (pgCut (b := 60) rfl pgDk210_0 (pgCut (b := 120) rfl pgDk210_60 (pgCut (b := 180) rfl pgDk210_120 (pgCut (b := 240) rfl pgDk210_180 rfl))))
set_option maxRecDepth 100000 in
theorem pgDa211 : ∀ q ∈ pgD211, decode prog_14_method_39_code q.1 = .ok q.2 := pgCut0 (pgCut (b := 60) rfl pgDk211_0 rfl)
set_option maxRecDepth 100000 in
theorem pgDa212 : ∀ q ∈ pgD212, decode prog_14_method_33_code q.1 = .ok q.2 := pgCut0 (pgCut (b := 60) rfl pgDk212_0 (pgCut (b := 120) rfl pgDk212_60 (pgCut (b := 180) rfl pgDk212_120 rfl)))
set_option maxRecDepth 100000 in
theorem pgDa213 : ∀ q ∈ pgD213, decode prog_14_method_26_code q.1 = .ok q.2 := pgCut0 (pgCut (b := 60) rfl pgDk213_0 rfl)
set_option maxRecDepth 100000 in
theorem pgDa214 : ∀ q ∈ pgD214, decode prog_14_method_25_code q.1 = .ok q.2 := pgCut0 (pgCut (b := 60) rfl pgDk214_0 rfl)
set_option maxRecDepth 100000 in
theorem pgDa215 : ∀ q ∈ pgD215, decode prog_14_method_38_code q.1 = .ok q.2 := pgCut0 (pgCut (b := 60) rfl pgDk215_0 (pgCut (b := 120) rfl pgDk215_60 (pgCut (b := 180) rfl pgDk215_120 rfl)))
set_option maxRecDepth 100000 in
theorem pgDa216 : ∀ q ∈ pgD216, decode prog_14_method_31_code q.1 = .ok q.2 := pgCut0 (pgCut (b := 60) rfl pgDk216_0 (pgCut (b := 120) rfl pgDk216_60 (pgCut (b := 180) rfl pgDk216_120 rfl)))
set_option maxRecDepth 100000 in
theorem pgDa217 : ∀ q ∈ pgD217, decode prog_14_method_28_code q.1 = .ok q.2 := pgCut0 (pgCut (b := 60) rfl pgDk217_0 rfl)
set_option maxRecDepth 100000 in
theorem pgDa218 : ∀ q ∈ pgD218, decode prog_14_method_30_code q.1 = .ok q.2 := pgCut0 (pgCut (b := 60) rfl pgDk218_0 (pgCut (b := 120) rfl pgDk218_60 rfl))
set_option maxRecDepth 100000 in
theorem pgDa219 : ∀ q ∈ pgD219, decode prog_14_method_27_code q.1 = .ok q.2 := pgCut0 (pgCut (b := 60) rfl pgDk219_0 rfl)
set_option maxRecDepth 100000 in
theorem pgDa220 : ∀ q ∈ pgD220, decode prog_14_method_37_code q.1 = .ok q.2 := pgCut0 (pgCut (b := 60) rfl pgDk220_0 rfl)
set_option maxRecDepth 100000 in
theorem pgDa221 : ∀ q ∈ pgD221, decode prog_14_method_35_code q.1 = .ok q.2 := pgCut0 (pgCut (b := 60) rfl pgDk221_0 rfl)
set_option maxRecDepth 100000 in
theorem pgDa222 : ∀ q ∈ pgD222, decode prog_14_method_34_code q.1 = .ok q.2 := pgCut0 (pgCut (b := 60) rfl pgDk222_0 rfl)
set_option maxRecDepth 100000 in
theorem pgDa223 : ∀ q ∈ pgD223, decode prog_14_method_29_code q.1 = .ok q.2 := pgCut0 (pgCut (b := 60) rfl pgDk223_0 (pgCut (b := 120) rfl pgDk223_60 (pgCut (b := 180) rfl pgDk223_120 rfl)))
set_option maxRecDepth 100000 in
theorem pgDa224 : ∀ q ∈ pgD224, decode prog_14_method_36_code q.1 = .ok q.2 := pgCut0 (pgCut (b := 60) rfl pgDk224_0 (pgCut (b := 120) rfl pgDk224_60 rfl))
set_option maxRecDepth 100000 in
theorem pgDa225 : ∀ q ∈ pgD225, decode prog_14_method_32_code q.1 = .ok q.2 := pgCut0 (pgCut (b := 60) rfl pgDk225_0 (pgCut (b := 120) rfl pgDk225_60 (pgCut (b := 180) rfl pgDk225_120 rfl)))
set_option maxRecDepth 100000 in
theorem pgDa226 : ∀ q ∈ pgD226, decode prog_14_method_40_code q.1 = .ok q.2 := pgCut0 (pgCut (b := 60) rfl pgDk226_0 (pgCut (b := 120) rfl pgDk226_60 rfl))
set_option maxRecDepth 100000 in
theorem pgDa227 : ∀ q ∈ pgD227, decode prog_14_method_43_code q.1 = .ok q.2 := pgCut0 (pgCut (b := 60) rfl pgDk227_0 rfl)
set_option maxRecDepth 100000 in
theorem pgDa228 : ∀ q ∈ pgD228, decode prog_14_method_42_code q.1 = .ok q.2 := pgCut0 (pgCut (b := 60) rfl pgDk228_0 (pgCut (b := 120) rfl pgDk228_60 (pgCut (b := 180) rfl pgDk228_120 rfl)))
set_option maxRecDepth 100000 in
theorem pgDa229 : ∀ q ∈ pgD229, decode prog_14_method_13_code q.1 = .ok q.2 := pgCut0 (pgCut (b := 60) rfl pgDk229_0 rfl)
set_option maxRecDepth 100000 in
theorem pgDa230 : ∀ q ∈ pgD230, decode prog_14_method_41_code q.1 = .ok q.2 := pgCut0 (pgCut (b := 60) rfl pgDk230_0 rfl)
set_option maxRecDepth 100000 in
theorem pgDa231 : ∀ q ∈ pgD231, decode prog_14_method_44_code q.1 = .ok q.2 := pgCut0 (pgCut (b := 60) rfl pgDk231_0 rfl)
set_option maxRecDepth 100000 in
theorem pgDa232 : ∀ q ∈ pgD232, decode prog_14_method_45_code q.1 = .ok q.2 := pgCut0 (pgCut (b := 60) rfl pgDk232_0 rfl)
set_option maxRecDepth 100000 in
theorem pgDa233 : ∀ q ∈ pgD233, decode prog_14_method_46_code q.1 = .ok q.2 := pgCut0 (pgCut (b := 60) rfl pgDk233_0 (pgCut (b := 120) rfl pgDk233_60 (pgCut (b := 180) rfl pgDk233_120 rfl)))
set_option maxRecDepth 100000 in
theorem pgDa234 : ∀ q ∈ pgD234, decode prog_14_method_48_code q.1 = .ok q.2 := pgCut0 (pgCut (b := 60) rfl pgDk234_0 rfl)
set_option maxRecDepth 100000 in
theorem pgDa235 : ∀ q ∈ pgD235, decode prog_14_method_47_code q.1 = .ok q.2 := pgCut0 (pgCut (b := 60) rfl pgDk235_0 (pgCut (b := 120) rfl pgDk235_60 (pgCut (b := 180) rfl pgDk235_120 rfl)))
set_option maxRecDepth 100000 in
theorem pgDa236 : ∀ q ∈ pgD236, decode prog_14_method_50_code q.1 = .ok q.2 := pgCut0 (pgCut (b := 60) rfl pgDk236_0 rfl)
set_option maxRecDepth 100000 in
theorem pgDa237 : ∀ q ∈ pgD237, decode prog_14_method_54_code q.1 = .ok q.2 := pgCut0 (pgCut (b := 60) rfl pgDk237_0 (pgCut (b := 120) rfl pgDk237_60 (pgCut (b := 180) rfl pgDk237_120 rfl)))
set_option maxRecDepth 100000 in
theorem pgDa238 : ∀ q ∈ pgD238, decode prog_14_method_52_code q.1 = .ok q.2 := pgCut0 (pgCut (b := 60) rfl pgDk238_0 rfl)
set_option maxRecDepth 100000 in
theorem pgDa239 : ∀ q ∈ pgD239, decode prog_14_method_53_code q.1 = .ok q.2 := pgCut0 (pgCut (b := 60) rfl pgDk239_0 (pgCut (b := 120) rfl pgDk239_60 rfl))
set_option maxRecDepth 100000 in
theorem pgDa240 : ∀ q ∈ pgD240, decode prog_14_method_51_code q.1 = .ok q.2 := pgCut0 (pgCut (b := 60) rfl pgDk240_0 rfl)
set_option maxRecDepth 100000 in
theorem pgDa241 : ∀ q ∈ pgD241, decode prog_14_method_66_code q.1 = .ok q.2 := pgCut0 (pgCut (b := 60) rfl pgDk241_0 (pgCut (b := 120) rfl pgDk241_60 (pgCut (b := 180) rfl pgDk241_120 rfl)))
set_option maxRecDepth 100000 in
theorem pgDa242 : ∀ q ∈ pgD242, decode prog_14_method_65_code q.1 = .ok q.2 := pgCut0 (pgCut (b := 60) rfl pgDk242_0 rfl)
set_option maxRecDepth 100000 in
theorem pgDa243 : ∀ q ∈ pgD243, decode prog_14_method_55_code q.1 = .ok q.2 := pgCut0 (pgCut (b := 60) rfl pgDk243_0 rfl)
set_option maxRecDepth 100000 in
theorem pgDa244 : ∀ q ∈ pgD244, decode prog_14_method_64_code q.1 = .ok q.2 := pgCut0 (pgCut (b := 60) rfl pgDk244_0 (pgCut (b := 120) rfl pgDk244_60 rfl))
set_option maxRecDepth 100000 in
theorem pgDa245 : ∀ q ∈ pgD245, decode prog_14_method_59_code q.1 = .ok q.2 := pgCut0 (pgCut (b := 60) rfl pgDk245_0 (pgCut (b := 120) rfl pgDk245_60 (pgCut (b := 180) rfl pgDk245_120 (pgCut (b := 240) rfl pgDk245_180 (pgCut (b := 300) rfl pgDk245_240 rfl)))))
set_option maxRecDepth 100000 in
theorem pgDa246 : ∀ q ∈ pgD246, decode prog_14_method_57_code q.1 = .ok q.2 := pgCut0 (pgCut (b := 60) rfl pgDk246_0 rfl)
set_option maxRecDepth 100000 in
theorem pgDa247 : ∀ q ∈ pgD247, decode prog_14_method_56_code q.1 = .ok q.2 := pgCut0 (pgCut (b := 60) rfl pgDk247_0 rfl)
set_option maxRecDepth 100000 in
theorem pgDa248 : ∀ q ∈ pgD248, decode prog_14_method_58_code q.1 = .ok q.2 := pgCut0 (pgCut (b := 60) rfl pgDk248_0 rfl)
set_option maxRecDepth 100000 in
theorem pgDa249 : ∀ q ∈ pgD249, decode prog_14_method_60_code q.1 = .ok q.2 := pgCut0 (pgCut (b := 60) rfl pgDk249_0 rfl)
set_option maxRecDepth 100000 in
theorem pgDa250 : ∀ q ∈ pgD250, decode prog_14_method_62_code q.1 = .ok q.2 := pgCut0 (pgCut (b := 60) rfl pgDk250_0 (pgCut (b := 120) rfl pgDk250_60 (pgCut (b := 180) rfl pgDk250_120 rfl)))
set_option maxRecDepth 100000 in
theorem pgDa251 : ∀ q ∈ pgD251, decode prog_14_method_61_code q.1 = .ok q.2 := pgCut0 (pgCut (b := 60) rfl pgDk251_0 rfl)
set_option maxRecDepth 100000 in
theorem pgDa252 : ∀ q ∈ pgD252, decode prog_14_method_63_code q.1 = .ok q.2 := pgCut0 (pgCut (b := 60) rfl pgDk252_0 rfl)
set_option maxRecDepth 100000 in
theorem pgDa253 : ∀ q ∈ pgD253, decode prog_14_method_67_code q.1 = .ok q.2 := pgCut0 (pgCut (b := 60) rfl pgDk253_0 rfl)
def pgDg : List mvE → List (List (Nat × Instr × Nat)) → Prop
  | E :: t, l :: t2 => (∀ q ∈ l, decode E.2.1 q.1 = .ok q.2) ∧ pgDg t t2
  | [], [] => True
  | _, _ => False
theorem pgDg_app : ∀ {a c : List mvE} {b d : List (List (Nat × Instr × Nat))}, pgDg a b → pgDg c d → pgDg (a ++ c) (b ++ d)
  | [], _, [], _, _, h => h
  | [], _, _ :: _, _, h, _ => h.elim
  | _ :: _, _, [], _, h, _ => h.elim
  | _ :: _, _, _ :: _, _, h, h2 => ⟨h.1, pgDg_app h.2 h2⟩
theorem pgDg_get : ∀ {a : List mvE} {b : List (List (Nat × Instr × Nat))} {j : Nat} {E : mvE} {l : List (Nat × Instr × Nat)}, pgDg a b → a[j]? = some E → b[j]? = some l → ∀ q ∈ l, decode E.2.1 q.1 = .ok q.2
  | [], _, _, _, _, _, h, _ => by simp at h
  | _ :: _, [], _, _, _, h, _, _ => h.elim
  | _ :: _, _ :: _, 0, _, _, h, h1, h2 => by simp at h1 h2; subst h1; subst h2; exact h.1
  | _ :: _, _ :: _, j + 1, _, _, h, h1, h2 => pgDg_get (j := j) h.2 (by simpa using h1) (by simpa using h2)
def pgDs0 : List (List (Nat × Instr × Nat)) := [pgD0, pgD1, pgD2, pgD3, pgD4, pgD5, pgD6, pgD7, pgD8, pgD9, pgD10, pgD11, pgD12, pgD13, pgD14, pgD15, pgD16, pgD17, pgD18, pgD19, pgD20, pgD21, pgD22, pgD23, pgD24, pgD25, pgD26, pgD27, pgD28, pgD29, pgD30, pgD31, pgD32, pgD33, pgD34, pgD35, pgD36, pgD37, pgD38, pgD39, pgD40, pgD41, pgD42, pgD43, pgD44, pgD45, pgD46, pgD47, pgD48, pgD49]
theorem pgDs0_ok : pgDg pgM0 pgDs0 := ⟨pgDa0, pgDa1, pgDa2, pgDa3, pgDa4, pgDa5, pgDa6, pgDa7, pgDa8, pgDa9, pgDa10, pgDa11, pgDa12, pgDa13, pgDa14, pgDa15, pgDa16, pgDa17, pgDa18, pgDa19, pgDa20, pgDa21, pgDa22, pgDa23, pgDa24, pgDa25, pgDa26, pgDa27, pgDa28, pgDa29, pgDa30, pgDa31, pgDa32, pgDa33, pgDa34, pgDa35, pgDa36, pgDa37, pgDa38, pgDa39, pgDa40, pgDa41, pgDa42, pgDa43, pgDa44, pgDa45, pgDa46, pgDa47, pgDa48, pgDa49, trivial⟩
def pgDs1 : List (List (Nat × Instr × Nat)) := [pgD50, pgD51, pgD52, pgD53, pgD54, pgD55, pgD56, pgD57, pgD58, pgD59, pgD60, pgD61, pgD62, pgD63, pgD64, pgD65, pgD66, pgD67, pgD68, pgD69, pgD70, pgD71, pgD72, pgD73, pgD74, pgD75, pgD76, pgD77, pgD78, pgD79, pgD80, pgD81, pgD82, pgD83, pgD84, pgD85, pgD86, pgD87, pgD88, pgD89, pgD90, pgD91, pgD92, pgD93, pgD94, pgD95, pgD96, pgD97, pgD98, pgD99]
theorem pgDs1_ok : pgDg pgM1 pgDs1 := ⟨pgDa50, pgDa51, pgDa52, pgDa53, pgDa54, pgDa55, pgDa56, pgDa57, pgDa58, pgDa59, pgDa60, pgDa61, pgDa62, pgDa63, pgDa64, pgDa65, pgDa66, pgDa67, pgDa68, pgDa69, pgDa70, pgDa71, pgDa72, pgDa73, pgDa74, pgDa75, pgDa76, pgDa77, pgDa78, pgDa79, pgDa80, pgDa81, pgDa82, pgDa83, pgDa84, pgDa85, pgDa86, pgDa87, pgDa88, pgDa89, pgDa90, pgDa91, pgDa92, pgDa93, pgDa94, pgDa95, pgDa96, pgDa97, pgDa98, pgDa99, trivial⟩
def pgDs2 : List (List (Nat × Instr × Nat)) := [pgD100, pgD101, pgD102, pgD103, pgD104, pgD105, pgD106, pgD107, pgD108, pgD109, pgD110, pgD111, pgD112, pgD113, pgD114, pgD115, pgD116, pgD117, pgD118, pgD119, pgD120, pgD121, pgD122, pgD123, pgD124, pgD125, pgD126, pgD127, pgD128, pgD129, pgD130, pgD131, pgD132, pgD133, pgD134, pgD135, pgD136, pgD137, pgD138, pgD139, pgD140, pgD141, pgD142, pgD143, pgD144, pgD145, pgD146, pgD147, pgD148, pgD149]
theorem pgDs2_ok : pgDg pgM2 pgDs2 := ⟨pgDa100, pgDa101, pgDa102, pgDa103, pgDa104, pgDa105, pgDa106, pgDa107, pgDa108, pgDa109, pgDa110, pgDa111, pgDa112, pgDa113, pgDa114, pgDa115, pgDa116, pgDa117, pgDa118, pgDa119, pgDa120, pgDa121, pgDa122, pgDa123, pgDa124, pgDa125, pgDa126, pgDa127, pgDa128, pgDa129, pgDa130, pgDa131, pgDa132, pgDa133, pgDa134, pgDa135, pgDa136, pgDa137, pgDa138, pgDa139, pgDa140, pgDa141, pgDa142, pgDa143, pgDa144, pgDa145, pgDa146, pgDa147, pgDa148, pgDa149, trivial⟩
def pgDs3 : List (List (Nat × Instr × Nat)) := [pgD150, pgD151, pgD152, pgD153, pgD154, pgD155, pgD156, pgD157, pgD158, pgD159, pgD160, pgD161, pgD162, pgD163, pgD164, pgD165, pgD166, pgD167, pgD168, pgD169, pgD170, pgD171, pgD172, pgD173, pgD174, pgD175, pgD176, pgD177, pgD178, pgD179, pgD180, pgD181, pgD182, pgD183, pgD184, pgD185, pgD186, pgD187, pgD188, pgD189, pgD190, pgD191, pgD192, pgD193, pgD194, pgD195, pgD196, pgD197, pgD198, pgD199]
theorem pgDs3_ok : pgDg pgM3 pgDs3 := ⟨pgDa150, pgDa151, pgDa152, pgDa153, pgDa154, pgDa155, pgDa156, pgDa157, pgDa158, pgDa159, pgDa160, pgDa161, pgDa162, pgDa163, pgDa164, pgDa165, pgDa166, pgDa167, pgDa168, pgDa169, pgDa170, pgDa171, pgDa172, pgDa173, pgDa174, pgDa175, pgDa176, pgDa177, pgDa178, pgDa179, pgDa180, pgDa181, pgDa182, pgDa183, pgDa184, pgDa185, pgDa186, pgDa187, pgDa188, pgDa189, pgDa190, pgDa191, pgDa192, pgDa193, pgDa194, pgDa195, pgDa196, pgDa197, pgDa198, pgDa199, trivial⟩
def pgDs4 : List (List (Nat × Instr × Nat)) := [pgD200, pgD201, pgD202, pgD203, pgD204, pgD205, pgD206, pgD207, pgD208, pgD209, pgD210, pgD211, pgD212, pgD213, pgD214, pgD215, pgD216, pgD217, pgD218, pgD219, pgD220, pgD221, pgD222, pgD223, pgD224, pgD225, pgD226, pgD227, pgD228, pgD229, pgD230, pgD231, pgD232, pgD233, pgD234, pgD235, pgD236, pgD237, pgD238, pgD239, pgD240, pgD241, pgD242, pgD243, pgD244, pgD245, pgD246, pgD247, pgD248, pgD249]
theorem pgDs4_ok : pgDg pgM4 pgDs4 := ⟨pgDa200, pgDa201, pgDa202, pgDa203, pgDa204, pgDa205, pgDa206, pgDa207, pgDa208, pgDa209, pgDa210, pgDa211, pgDa212, pgDa213, pgDa214, pgDa215, pgDa216, pgDa217, pgDa218, pgDa219, pgDa220, pgDa221, pgDa222, pgDa223, pgDa224, pgDa225, pgDa226, pgDa227, pgDa228, pgDa229, pgDa230, pgDa231, pgDa232, pgDa233, pgDa234, pgDa235, pgDa236, pgDa237, pgDa238, pgDa239, pgDa240, pgDa241, pgDa242, pgDa243, pgDa244, pgDa245, pgDa246, pgDa247, pgDa248, pgDa249, trivial⟩
def pgDs5 : List (List (Nat × Instr × Nat)) := [pgD250, pgD251, pgD252, pgD253]
theorem pgDs5_ok : pgDg pgM5 pgDs5 := ⟨pgDa250, pgDa251, pgDa252, pgDa253, trivial⟩
def pgDs : List (List (Nat × Instr × Nat)) := pgDs0 ++ (pgDs1 ++ (pgDs2 ++ (pgDs3 ++ (pgDs4 ++ (pgDs5)))))
theorem pgDs_ok : pgDg pgM pgDs := (pgDg_app pgDs0_ok (pgDg_app pgDs1_ok (pgDg_app pgDs2_ok (pgDg_app pgDs3_ok (pgDg_app pgDs4_ok pgDs5_ok)))))
def pgDec (j pc : Nat) : Option (Instr × Nat) := match pgDs[j]? with
  | some l => (l.find? (fun q => q.1 == pc)).map (fun q => q.2)
  | none => none
theorem pgDec_ok : ∀ (j : Nat) (E : mvE) (pc : Nat) (q : Instr × Nat), pgMm j = some E → pgDec j pc = some q → decode E.2.1 pc = .ok q := by
  intro j E pc q hE hq
  unfold pgDec at hq
  split at hq
  · rename_i l hl
    obtain ⟨x, hx, rfl⟩ := Option.map_eq_some_iff.mp hq
    have h1 := pgDg_get pgDs_ok hE hl x (List.mem_of_find?_eq_some hx)
    have h2 := List.find?_some hx
    rw [← beq_iff_eq.mp h2]
    exact h1
  · cases hq
end
section
/-! The two that throw, with unknown ints; the script's kinds. -/
def amRq (ex : String) (as : List amV) (h : amH) : Option amO := match as with
  | [.inl (.inl x)] => if x = 0 then some (.inr ex, (false, h.2), 1, 6) else some (.inl none, h, 0, 0)
  | _ => none
def pgBa (j : Nat) : Option (List amV → amH → Option amO) := if j = pgJA then some (amRq "java/lang/IllegalArgumentException") else if j = pgJS then some (amRq "java/lang/IllegalStateException") else none
theorem amRq_ok {ρ : Nat → Int32} {ex : String} {as : List amV} {h : amH} {o : amO} (hr : amRq ex as h = some o) : pgRq ex (as.map (amGv ρ)) (amGh ρ h) = some (amGo ρ o) := by
  unfold amRq at hr
  split at hr
  · rename_i x
    show (if x = 0 then some ((Sum.inr ex : mvR), (false, (amGh ρ h).2), 1, 6) else some ((Sum.inl none : mvR), amGh ρ h, 0, 0)) = _
    split at hr
    · rename_i h0
      rw [if_pos h0]
      cases hr
      rfl
    · rename_i h0
      rw [if_neg h0]
      cases hr
      rfl
  · cases hr
theorem pgBa_ok {ρ : Nat → Int32} : ∀ j b', pgBa j = some b' → ∃ b, pgBb j = some b ∧ ∀ as h o, b' as h = some o → b (as.map (amGv ρ)) (amGh ρ h) = some (amGo ρ o) := by
  intro j b' hb
  unfold pgBa at hb
  unfold pgBb
  split at hb
  · rename_i hj
    rw [if_pos hj]
    cases hb
    exact ⟨_, rfl, fun as h o hr => amRq_ok hr⟩
  · rename_i hj
    rw [if_neg hj]
    split at hb
    · rename_i hj2
      rw [if_pos hj2]
      cases hb
      exact ⟨_, rfl, fun as h o hr => amRq_ok hr⟩
    · cases hb
theorem pgBa_no : ∀ j, pgBa j = none → pgBb j = none := by
  intro j hb
  unfold pgBa at hb
  unfold pgBb
  split at hb
  · cases hb
  · rename_i hj
    rw [if_neg hj]
    split at hb
    · cases hb
    · rename_i hj2
      rw [if_neg hj2]
/-- the script: L ints, the k-th of them either known or the k-th unknown -/
def pgXa (L : Nat) (sc : List amI) (o : Nat) : Option (Nat × (Nat → amI)) := match o with
  | 0 => some (8, fun j => .inl (pgAa j))
  | 1 => some (L, fun k => sc.getD k (.inr k))
  | _ => none
def pgYes (o : Option amO) : Bool := match o with
  | some (.inl (some (.inl (.inl x))), _, kc, ks) => decide (x = 1) && decide (kc ≤ 600002) && decide (ks ≤ 7302231)
  | _ => false
theorem pgAny0 {κ : Nat → Nat} {X : amX} {B : amB} {dec : Nat → Nat → Option (Instr × Nat)} (X1 X2 : Nat → Option (Nat × (Nat → Int32))) : ∀ n, amRun κ (pgPx X1) X B dec n = amRun κ (pgPx X2) X B dec n := by
  intro n
  induction n with
  | zero => rfl
  | succ n ih =>
    funext d j pc lv st h
    rw [amRun, amRun]
    simp only [ih]
    rfl
theorem pgAny {L : Nat} {xs : Nat → Int32} (sc : List amI) (κ : Nat → Nat) {n d : Nat} (hρ : ∀ i, amOk (κ i) (xs i)) (hsc : ∀ (k : Nat) (a : Int32), sc[k]? = some (Sum.inl a : amI) → xs k = a) (hsd : ∀ (k v : Nat), sc[k]? = some (Sum.inr v : amI) → v = k)
    (h : pgYes (amRun κ (pgPx pgX0) (pgXa L sc) pgBa pgDec n d 0 0 [(0, .inr (.inr (.inr 1)))] [] (true, [])) = true) :
    ∃ h' kc ks, mvRun (pgP L xs) n d 0 0 [(0, .inr (.inr (.inr 1)))] [] (true, []) = some (.inl (some (.inl 1)), h', kc, ks) ∧ kc ≤ 600002 ∧ ks ≤ 7302231 := by
  have e : amRun κ (pgPx pgX0) (pgXa L sc) pgBa pgDec n d 0 0 [(0, .inr (.inr (.inr 1)))] [] (true, []) = amRun κ (pgP L xs) (pgXa L sc) pgBa pgDec n d 0 0 [(0, .inr (.inr (.inr 1)))] [] (true, []) := by
    exact congrFun (congrFun (congrFun (congrFun (congrFun (congrFun (pgAny0 pgX0 (pgX L xs) n) d) 0) 0) _) _) _
  rw [e] at h
  unfold pgYes at h
  split at h
  · rename_i x h' kc ks hr
    simp only [Bool.and_eq_true, decide_eq_true_eq] at h
    obtain ⟨⟨rfl, h2⟩, h3⟩ := h
    have h4 := amRun_ok (ρ := xs) (P := pgP L xs) hρ (X := pgXa L sc) ?_ pgBa_ok pgBa_no pgDec_ok n d 0 0 _ _ _ _ hr
    · exact ⟨_, kc, ks, h4, h2, h3⟩
    · intro o q hq
      match o, hq with
      | 0, hq => cases hq; rfl
      | 1, hq =>
        cases hq
        show some (L, xs) = some (L, _)
        congr 2
        funext k
        show xs k = amGi xs (sc.getD k (.inr k))
        rw [List.getD_eq_getElem?_getD]
        cases hk : sc[k]? with
        | none => rfl
        | some a =>
          cases a with
          | inl a => exact hsc k a hk
          | inr v => show xs k = xs v; rw [hsd k v hk]
      | o + 2, hq => cases hq
  · cases h
end
section
/-! A run up to a place. -/
def amAd2 (dc ds : Nat) (o : Option (Nat × amL × List amV × amH × Nat × Nat)) : Option (Nat × amL × List amV × amH × Nat × Nat) := o.map (fun q => (q.1, q.2.1, q.2.2.1, q.2.2.2.1, dc + q.2.2.2.2.1, ds + q.2.2.2.2.2))
def amTo (κ : Nat → Nat) (P : mvP) (X : amX) (B : amB) (dec : Nat → Nat → Option (Instr × Nat)) (stop : Nat) : Nat → Nat → Nat → Nat → amL → List amV → amH → Option (Nat × amL × List amV × amH × Nat × Nat)
  | 0, _, _, _, _, _, _ => none
  | n + 1, d, j, pc, lv, st, h => if pc = stop then some (n + 1, lv, st, h, 0, 0) else match mvPm P j, dec j pc with
    | some E, some (i, len) => match amF κ i len pc E.2.2.1 lv st with
        | some (pc', lv', st') => amTo κ P X B dec stop n d j pc' lv' st' h
        | none => match amG P X j d i len pc st h with
          | some (pc', st', h', dc, ds) => amAd2 dc ds (amTo κ P X B dec stop n d j pc' lv st' h')
          | none => match amFin E i len st with
            | some _ => none
            | none => match amInv P j i len st h with
              | none => none
              | some (j', as, rest) => if as.all (fun v => decide (amCat v = 1)) = true ∧ (rest.map amCat).sum ≤ 8 then (match d with
                | 0 => none
                | d' + 1 => match (match B j' with
                    | some b => if 8 ≤ d' then b as h else none
                    | none => amRun κ P X B dec n d' j' 0 (amArgs 0 as) [] h) with
                  | some (.inl r, h', dc, ds) => amAd2 dc ds (amTo κ P X B dec stop n (d' + 1) j (pc + 3) lv (r.toList ++ rest) h')
                  | _ => none) else none
    | _, _ => none
theorem amAd2_inv {dc ds : Nat} {x : Option (Nat × amL × List amV × amH × Nat × Nat)} {n' : Nat} {lv' : amL} {st' : List amV} {h' : amH} {c s : Nat} (h : amAd2 dc ds x = some (n', lv', st', h', c, s)) : ∃ c1 s1, x = some (n', lv', st', h', c1, s1) ∧ c = dc + c1 ∧ s = ds + s1 := by
  obtain ⟨o', h1, h2⟩ := Option.map_eq_some_iff.mp h
  obtain ⟨a1, a2, a3, a4, a5, a6⟩ := o'
  simp only [Prod.mk.injEq] at h2
  obtain ⟨rfl, rfl, rfl, rfl, rfl, rfl⟩ := h2
  exact ⟨a5, a6, h1, rfl, rfl⟩
theorem mvAdd_add {a b c d : Nat} {x : Option mvO} : mvAdd a b (mvAdd c d x) = mvAdd (a + c) (b + d) x := by
  cases x with
  | none => rfl
  | some q => simp [mvAdd, Nat.add_assoc]
theorem mvAdd_0 {x : Option mvO} : mvAdd 0 0 x = x := by
  cases x with
  | none => rfl
  | some q => simp [mvAdd]
section AMT
variable {ρ : Nat → Int32} {κ : Nat → Nat} {P : mvP} {X : amX} {B : amB} {dec : Nat → Nat → Option (Instr × Nat)} {stop : Nat}
theorem amTo_ok (hρ : ∀ i, amOk (κ i) (ρ i)) (hX : ∀ o q, X o = some q → mvPx P o = some (q.1, fun k => amGi ρ (q.2 k))) (hB : ∀ j b', B j = some b' → ∃ b, mvPb P j = some b ∧ ∀ as h o, b' as h = some o → b (as.map (amGv ρ)) (amGh ρ h) = some (amGo ρ o)) (hB0 : ∀ j, B j = none → mvPb P j = none)
    (hdec : ∀ j E pc q, mvPm P j = some E → dec j pc = some q → decode E.2.1 pc = .ok q) :
    ∀ (n d j pc : Nat) (lv : amL) (st : List amV) (h : amH) (n' : Nat) (lv' : amL) (st' : List amV) (h' : amH) (dc ds : Nat), amTo κ P X B dec stop n d j pc lv st h = some (n', lv', st', h', dc, ds) → mvRun P n d j pc (amGl ρ lv) (st.map (amGv ρ)) (amGh ρ h) = mvAdd dc ds (mvRun P n' d j stop (amGl ρ lv') (st'.map (amGv ρ)) (amGh ρ h')) := by
  intro n
  induction n with
  | zero => intro d j pc lv st h n' lv' st' h' dc ds hr; cases hr
  | succ n ih =>
    intro d j pc lv st h n' lv' st' h' dc ds hr
    rw [amTo] at hr
    by_cases hp : pc = stop
    · rw [if_pos hp] at hr
      cases hr
      subst hp
      exact mvAdd_0.symm
    · rw [if_neg hp] at hr
      rw [mvRun]
      split at hr
      · rename_i E i len hE hq
        rw [hE]
        simp only
        rw [hdec j E pc _ hE hq]
        simp only
        split at hr
        · rename_i pc1 lv1 st1 hs
          rw [amF_ok hρ hs]
          exact ih _ _ _ _ _ _ _ _ _ _ _ _ hr
        · split at hr
          · rename_i pc1 st1 h1 dc1 ds1 hs
            obtain ⟨a1, a2⟩ := amG_ok hX hs
            obtain ⟨c1, s1, e1, rfl, rfl⟩ := amAd2_inv hr
            rw [a1, a2]
            simp only
            rw [ih _ _ _ _ _ _ _ _ _ _ _ _ e1, mvAdd_add]
          · split at hr
            · cases hr
            · split at hr
              · cases hr
              · rename_i j1 as rest hs
                obtain ⟨a1, a2, a3, a4⟩ := amInv_ok (ρ := ρ) (E := E) hs
                rw [a1, a2, a3, a4]
                simp only
                split at hr
                · rename_i hc
                  rw [if_pos ⟨by rw [amOne_eq]; exact hc.1, by rw [amSum_eq]; exact hc.2⟩]
                  cases d with
                  | zero => cases hr
                  | succ d' =>
                    simp only at hr ⊢
                    have fin : ∀ (r : Option amV) (h1 : amH) (dc1 ds1 : Nat), amAd2 dc1 ds1 (amTo κ P X B dec stop n (d' + 1) j (pc + 3) lv (r.toList ++ rest) h1) = some (n', lv', st', h', dc, ds) → mvAdd dc1 ds1 (mvRun P n (d' + 1) j (pc + 3) (amGl ρ lv) ((r.map (amGv ρ)).toList ++ rest.map (amGv ρ)) (amGh ρ h1)) = mvAdd dc ds (mvRun P n' (d' + 1) j stop (amGl ρ lv') (st'.map (amGv ρ)) (amGh ρ h')) := by
                      intro r h1 dc1 ds1 hr
                      obtain ⟨c1, s1, e1, rfl, rfl⟩ := amAd2_inv hr
                      have e2 : (r.map (amGv ρ)).toList ++ rest.map (amGv ρ) = (r.toList ++ rest).map (amGv ρ) := by cases r <;> simp
                      rw [e2, ih _ _ _ _ _ _ _ _ _ _ _ _ e1, mvAdd_add]
                    cases hb : B j1 with
                    | none =>
                      rw [hb] at hr
                      rw [hB0 j1 hb]
                      simp only at hr ⊢
                      cases hM : amRun κ P X B dec n d' j1 0 (amArgs 0 as) [] h with
                      | none => rw [hM] at hr; cases hr
                      | some o1 =>
                        rw [hM] at hr
                        have k1 := amRun_ok hρ hX hB hB0 hdec n d' j1 0 (amArgs 0 as) [] h o1 hM
                        rw [← amArgs_eq] at k1
                        simp only [List.map_nil] at k1
                        rw [k1]
                        obtain ⟨v | ex, h1, dc1, ds1⟩ := o1
                        · exact fin v h1 dc1 ds1 hr
                        · cases hr
                    | some b' =>
                      rw [hb] at hr
                      obtain ⟨b, hb1, hb2⟩ := hB j1 b' hb
                      rw [hb1]
                      simp only at hr ⊢
                      by_cases h8 : 8 ≤ d'
                      · rw [if_pos h8] at hr ⊢
                        cases hM : b' as h with
                        | none => rw [hM] at hr; cases hr
                        | some o1 =>
                          rw [hM] at hr
                          rw [hb2 as h o1 hM]
                          obtain ⟨v | ex, h1, dc1, ds1⟩ := o1
                          · exact fin v h1 dc1 ds1 hr
                          · cases hr
                      · rw [if_neg h8] at hr
                        cases hr
                · cases hr
      · cases hr
end AMT
def dqI : DecidableEq amI := fun a b => (inferInstance : Decidable ((a : Int32 ⊕ Nat) = b))
def dqV : DecidableEq amV := @instDecidableEqSum _ _ dqI inferInstance
def dqC : DecidableEq amC := @instDecidableEqSum _ _ (@instDecidableEqProd _ _ inferInstance (@instDecidableEqProd _ _ inferInstance (@instDecidableEqSum _ _ (@instDecidableEqList _ (@instDecidableEqProd _ _ inferInstance dqI)) inferInstance))) (@instDecidableEqProd _ _ inferInstance (@instDecidableEqList _ dqV))
def dqT : DecidableEq (Nat × amL × List amV × amH × Nat × Nat) := @instDecidableEqProd _ _ inferInstance (@instDecidableEqProd _ _ (@instDecidableEqList _ (@instDecidableEqProd _ _ inferInstance dqV)) (@instDecidableEqProd _ _ (@instDecidableEqList _ dqV) (@instDecidableEqProd _ _ (@instDecidableEqProd _ _ inferInstance (@instDecidableEqList _ dqC)) inferInstance)))
def amSame (x : Option (Nat × amL × List amV × amH × Nat × Nat)) (y : Nat × amL × List amV × amH × Nat × Nat) : Bool := match x with
  | some q => @decide (q = y) (dqT q y)
  | none => false
theorem amSame_ok {x : Option (Nat × amL × List amV × amH × Nat × Nat)} {y : Nat × amL × List amV × amH × Nat × Nat} (h : amSame x y = true) : x = some y := by
  unfold amSame at h
  split at h
  · rename_i q
    rw [@of_decide_eq_true _ (dqT q y) h]
  · cases h
end
section
/-! The cells at the loop's head, printed by a program. -/
def pgH0_0 : List amC := [.inr (11, [.inr (.inr (.inl (some 1))), .inr (.inr (.inl (some 5))), .inr (.inr (.inl (some 12))), .inr (.inr (.inl (some 17))), .inr (.inr (.inl (some 42))), .inr (.inr (.inl (some 47)))]),
  .inr (9, [.inr (.inr (.inl (some 2))), .inr (.inr (.inl (some 3))), .inr (.inr (.inl (some 4))), .inl (.inl 10)]),
  .inl (0, 40, .inl []),
  .inl (0, 40, .inl []),
  .inl (0, 40, .inl [(9, .inl 128), (8, .inl 64), (7, .inl 32), (6, .inl 16), (5, .inl 8), (4, .inl 4), (3, .inl 2), (2, .inl 1)]),
  .inr (1, [.inr (.inr (.inl (some 6))), .inr (.inr (.inl (some 7))), .inr (.inr (.inl (some 8))), .inr (.inr (.inl (some 9))), .inr (.inr (.inl (some 10))), .inr (.inr (.inl (some 11))), .inl (.inl 0)]),
  .inl (0, 6, .inl []),
  .inl (0, 6, .inl []),
  .inl (0, 18, .inl []),
  .inl (1, 18, .inl []),
  .inl (0, 18, .inl [(17, .inl (-1)), (16, .inl (-1)), (15, .inl (-1)), (14, .inl (-1)), (13, .inl (-1)), (12, .inl (-1)), (11, .inl (-1)), (10, .inl (-1)), (9, .inl (-1)), (8, .inl (-1)), (7, .inl (-1)), (6, .inl (-1)), (5, .inl (-1)), (4, .inl (-1)), (3, .inl (-1)), (2, .inl (-1)), (1, .inl (-1)), (0, .inl (-1))]),
  .inl (0, 54, .inl []),
  .inr (4, [.inr (.inr (.inl (some 13))), .inr (.inr (.inl (some 14))), .inr (.inr (.inl (some 15))), .inr (.inr (.inl (some 16))), .inl (.inl 0)]),
  .inl (0, 200, .inl []),
  .inl (0, 200, .inl []),
  .inl (0, 200, .inl []),
  .inl (0, 200, .inl []),
  .inr (3, [.inr (.inr (.inl (some 18))), .inr (.inr (.inl (some 19))), .inr (.inr (.inl (some 20))), .inr (.inr (.inl (some 21))), .inl (.inl 0)]),
  .inl (0, 20, .inl []),
  .inl (0, 20, .inl [])]
def pgH0_1 : List amC := [.inl (0, 20, .inl []),
  .inl (0, 160, .inl []),
  .inr (8, [.inr (.inr (.inl (some 23)))]),
  .inl (0, 35520, .inl []),
  .inr (10, [.inr (.inr (.inl (some 1))), .inr (.inr (.inl (some 5))), .inr (.inr (.inl (some 12))), .inr (.inr (.inl (some 17))), .inr (.inr (.inl (some 25))), .inr (.inr (.inl (some 34))), .inr (.inr (.inl (some 35))), .inr (.inr (.inl (some 36))), .inr (.inr (.inl (some 37))), .inr (.inr (.inl (some 38))), .inr (.inr (.inl (some 39))), .inr (.inr (.inl (some 40))), .inr (.inr (.inl (some 41))), .inl (.inl 0)]),
  .inr (5, [.inr (.inr (.inl (some 26))), .inr (.inr (.inl (some 27))), .inr (.inr (.inl (some 28))), .inr (.inr (.inl (some 29))), .inr (.inr (.inl (some 30))), .inr (.inr (.inl (some 31))), .inr (.inr (.inl (some 32))), .inr (.inr (.inl (some 33))), .inl (.inl 0), .inl (.inl 0)]),
  .inl (0, 2504, .inl []),
  .inl (0, 2504, .inl []),
  .inl (0, 2504, .inl []),
  .inl (0, 2504, .inl []),
  .inl (0, 2504, .inl []),
  .inl (0, 2504, .inl []),
  .inl (0, 2504, .inl []),
  .inl (0, 5012, .inl []),
  .inl (0, 60, .inl []),
  .inl (0, 60, .inl []),
  .inl (0, 60, .inl []),
  .inl (0, 60, .inl []),
  .inl (0, 488, .inl []),
  .inl (0, 60, .inl [])]
def pgH0_2 : List amC := [.inl (0, 40, .inl []),
  .inl (1, 40, .inl []),
  .inr (0, [.inr (.inr (.inl (some 1))), .inr (.inr (.inl (some 5))), .inr (.inr (.inl (some 17))), .inr (.inr (.inl (some 24))), .inr (.inr (.inl (some 22))), .inr (.inr (.inl (some 25))), .inr (.inr (.inl (some 45))), .inr (.inr (.inl (some 43))), .inr (.inr (.inl (some 44)))]),
  .inl (0, 8, .inl []),
  .inl (0, 2504, .inl []),
  .inr (2, [.inr (.inr (.inl (some 5))), .inr (.inr (.inl (some 17))), .inr (.inr (.inl (some 24))), .inr (.inr (.inl (some 25))), .inr (.inr (.inl (some 46))), .inl (.inl 0), .inl (.inl 0), .inl (.inl 0), .inl (.inl 0)]),
  .inl (0, 2504, .inl []),
  .inr (7, [.inr (.inr (.inl (some 5))), .inr (.inr (.inl (some 12))), .inr (.inr (.inl (some 17))), .inr (.inr (.inl (some 22))), .inr (.inr (.inl (some 48))), .inr (.inr (.inl (some 51))), .inl (.inl 0), .inl (.inl 0), .inl (.inl 0), .inl (.inl 0), .inl (.inl 0), .inl (.inl 0), .inl (.inl 0), .inl (.inl 0), .inl (.inl 0), .inr (.inr (.inl (some 52))), .inl (.inl (-1))]),
  .inr (6, [.inr (.inr (.inl (some 49))), .inr (.inr (.inl (some 50))), .inl (.inl 0), .inl (.inl 0)]),
  .inl (0, 3010, .inl []),
  .inl (0, 2416, .inl []),
  .inl (0, 4515, .inl []),
  .inl (0, 301, .inl []),
  .inr (12, [.inl (.inl 0), .inl (.inl 10), .inr (.inr (.inl (some 54))), .inr (.inr (.inl (some 55))), .inr (.inr (.inl (some 56))), .inl (.inl 0), .inr (.inr (.inl (some 57))), .inr (.inr (.inl (some 58))), .inr (.inr (.inl (some 59))), .inr (.inr (.inl (some 60))), .inr (.inr (.inl (some 61))), .inr (.inr (.inl (some 62))), .inl (.inl 0), .inr (.inr (.inl (some 63))), .inr (.inr (.inl (some 64))), .inr (.inr (.inl (some 65))), .inr (.inr (.inl (some 66))), .inl (.inl 0), .inr (.inr (.inl (some 67))), .inr (.inr (.inl (some 68))), .inr (.inr (.inl (some 69))), .inr (.inr (.inl (some 70))), .inr (.inr (.inl (some 71))), .inr (.inr (.inl (some 72))), .inl (.inl 0), .inr (.inr (.inl (some 73))), .inr (.inr (.inl (some 74))), .inr (.inr (.inl (some 75))), .inl (.inl 0), .inr (.inr (.inl (some 76))), .inr (.inr (.inl (some 77))), .inr (.inr (.inl (some 78))), .inr (.inr (.inl (some 79))), .inr (.inr (.inl (some 80))), .inr (.inr (.inl (some 81))), .inr (.inr (.inl (some 82))), .inr (.inr (.inl (some 83))), .inr (.inr (.inl (some 84))), .inr (.inr (.inl (some 85))), .inr (.inr (.inl (some 86))), .inr (.inr (.inl (some 87))), .inr (.inr (.inl (some 88))), .inr (.inr (.inl (some 89))), .inl (.inl 0), .inr (.inr (.inl (some 90))), .inr (.inr (.inl (some 91))), .inl (.inl 0), .inl (.inl 0), .inl (.inl 0), .inl (.inl 0), .inl (.inl 0), .inr (.inr (.inl (some 92))), .inr (.inr (.inl (some 93))), .inl (.inl 0), .inl (.inl 0), .inl (.inl 0), .inl (.inl 0), .inr (.inr (.inl (some 94))), .inl (.inl 0), .inl (.inl 0), .inl (.inl 0), .inl (.inl 0), .inr (.inr (.inl (some 95))), .inr (.inr (.inl (some 96))), .inr (.inr (.inl (some 97))), .inr (.inr (.inl (some 98))), .inr (.inr (.inl (some 99))), .inr (.inr (.inl (some 100))), .inl (.inl 0), .inr (.inr (.inl (some 101))), .inr (.inr (.inl (some 102))), .inl (.inl 0), .inr (.inr (.inl (some 103))), .inr (.inr (.inl (some 104))), .inr (.inr (.inl (some 105))), .inr (.inr (.inl (some 106))), .inr (.inr (.inl (some 107))), .inr (.inr (.inl (some 108))), .inl (.inl 0), .inl (.inl 0), .inl (.inl 0)]),
  .inl (0, 40, .inl [(9, .inl 2), (8, .inl 2), (7, .inl 2), (6, .inl 2), (5, .inl 2), (4, .inl 2), (3, .inl 2), (2, .inl 2), (1, .inl 1), (0, .inl 0)]),
  .inl (0, 40, .inl []),
  .inl (0, 40, .inl []),
  .inl (0, 6, .inl []),
  .inl (0, 6, .inl []),
  .inl (0, 18, .inl [])]
def pgH0_3 : List amC := [.inl (1, 18, .inl []),
  .inl (0, 18, .inl []),
  .inl (0, 54, .inl []),
  .inl (0, 200, .inl []),
  .inl (0, 200, .inl []),
  .inl (0, 200, .inl []),
  .inl (0, 200, .inl []),
  .inl (0, 20, .inl []),
  .inl (0, 20, .inl []),
  .inl (0, 20, .inl []),
  .inl (0, 20, .inl []),
  .inl (0, 160, .inl []),
  .inl (0, 35520, .inl []),
  .inl (0, 200000, .inl []),
  .inl (0, 200000, .inl []),
  .inl (0, 200000, .inl []),
  .inl (0, 4000, .inl []),
  .inl (0, 4000, .inl []),
  .inl (0, 4000, .inl []),
  .inl (0, 4000, .inl [])]
def pgH0_4 : List amC := [.inl (0, 4000, .inl []),
  .inl (0, 4000, .inl []),
  .inl (0, 16000, .inl []),
  .inl (0, 40, .inl []),
  .inl (0, 60, .inl []),
  .inl (0, 60, .inl []),
  .inl (0, 60, .inl []),
  .inl (0, 60, .inl []),
  .inl (0, 480, .inl []),
  .inl (0, 60, .inl []),
  .inl (0, 700, .inl []),
  .inl (0, 700, .inl []),
  .inl (0, 4000, .inl []),
  .inl (0, 4000, .inl []),
  .inl (0, 400, .inl []),
  .inl (0, 6000, .inl []),
  .inl (0, 6000, .inl []),
  .inl (0, 6000, .inl []),
  .inl (0, 6000, .inl []),
  .inl (0, 6000, .inl [])]
def pgH0_5 : List amC := [.inl (0, 6000, .inl []),
  .inl (0, 4000, .inl []),
  .inl (0, 4000, .inl []),
  .inl (0, 2000, .inl []),
  .inl (0, 2000, .inl []),
  .inl (0, 2000, .inl []),
  .inl (0, 2000, .inl []),
  .inl (0, 2000, .inl []),
  .inl (0, 2000, .inl []),
  .inl (2, 1, .inr [])]
def pgH0 : List amC := pgH0_0 ++ (pgH0_1 ++ (pgH0_2 ++ (pgH0_3 ++ (pgH0_4 ++ (pgH0_5)))))
def pgL0 : amL := [(4, .inl (.inl 0)), (3, .inr (.inr (.inl (some 109)))), (2, .inr (.inr (.inl (some 53)))), (1, .inr (.inr (.inl (some 0)))), (0, .inr (.inr (.inr 1)))]
def pgX9 : amX := fun o => match o with
  | 0 => some (8, fun j => .inl (pgAa j))
  | _ => none
def pgC0 : Nat × Nat := (110, 819039)
def pgPc0 : Nat := 23
set_option maxRecDepth 100000 in
theorem pgH0_run : amSame (amTo (fun _ => 0) (pgPx pgX0) pgX9 pgBa pgDec 23 2000 20 0 0 [(0, .inr (.inr (.inr 1)))] [] (true, [])) (1987, pgL0, [], (true, pgH0), 110, 819039) = true := by decide +kernel
end
section
/-! The law's instructions in short lists, printed by a program. -/
def pgE0 : List (List (Nat × Instr × Nat)) := [[(0, .new 8, 3), (3, .dup, 1), (4, .invokespecial 68, 3), (7, .astore_n 1, 1), (8, .new 69, 3), (11, .dup, 1), (12, .invokespecial 71, 3), (15, .astore_n 2, 1), (16, .iconst 1, 1), (17, .newarray .long, 2), (19, .astore_n 3, 1), (20, .iconst 0, 1), (21, .istore 4, 2), (23, .iload 4, 2), (25, .aload_n 0, 1), (26, .arraylength, 1), (27, .bipush 7, 2), (29, .isub, 1), (30, .if_icmp .gt 1205, 3)],
  [(33, .aload_n 0, 1), (34, .iload 4, 2), (36, .iaload, 1), (37, .bipush 31, 2), (39, .iand, 1), (40, .tableswitch 1189 0 16 #[84, 140, 208, 264, 332, 388, 444, 500, 556, 624, 692, 748, 866, 922, 990, 1065, 1133], 84)],
  [],
  [(124, .aload_n 1, 1), (125, .aload_n 0, 1), (126, .iload 4, 2)],
  [(128, .iconst 1, 1), (129, .iadd, 1), (130, .iaload, 1), (131, .aload_n 3, 1), (132, .invokestatic 72, 3), (135, .istore 5, 2), (137, .aload_n 2, 1), (138, .aload_n 0, 1), (139, .iload 4, 2), (141, .iconst 1, 1), (142, .iadd, 1), (143, .iaload, 1), (144, .invokevirtual 77, 3), (147, .istore 6, 2), (149, .aload_n 2, 1), (150, .invokevirtual 78, 3), (153, .iload 5, 2), (155, .if_icmp .eq 5, 3), (158, .iconst 0, 1), (159, .ireturn, 1)],
  [(160, .iload 5, 2), (162, .ifCond .ne 15, 3), (165, .aload_n 3, 1), (166, .iconst 0, 1), (167, .laload, 1), (168, .iload 6, 2), (170, .i2l, 1), (171, .lcmp, 1), (172, .ifCond .eq 5, 3), (175, .iconst 0, 1), (176, .ireturn, 1), (177, .goto 1052, 3), (180, .aload_n 1, 1), (181, .aload_n 0, 1), (182, .iload 4, 2), (184, .iconst 1, 1), (185, .iadd, 1), (186, .iaload, 1), (187, .aload_n 0, 1), (188, .iload 4, 2), (190, .iconst 2, 1), (191, .iadd, 1)],
  [(192, .iaload, 1), (193, .aload_n 3, 1), (194, .invokestatic 82, 3), (197, .istore 5, 2), (199, .aload_n 2, 1), (200, .aload_n 0, 1), (201, .iload 4, 2), (203, .iconst 1, 1), (204, .iadd, 1), (205, .iaload, 1), (206, .aload_n 0, 1), (207, .iload 4, 2), (209, .iconst 2, 1), (210, .iadd, 1), (211, .iaload, 1), (212, .invokevirtual 85, 3), (215, .istore 6, 2), (217, .aload_n 2, 1), (218, .invokevirtual 78, 3), (221, .iload 5, 2), (223, .if_icmp .eq 5, 3)],
  [(226, .iconst 0, 1), (227, .ireturn, 1), (228, .iload 5, 2), (230, .ifCond .ne 15, 3), (233, .aload_n 3, 1), (234, .iconst 0, 1), (235, .laload, 1), (236, .iload 6, 2), (238, .i2l, 1), (239, .lcmp, 1), (240, .ifCond .eq 5, 3), (243, .iconst 0, 1), (244, .ireturn, 1), (245, .goto 984, 3), (248, .aload_n 1, 1), (249, .aload_n 0, 1), (250, .iload 4, 2), (252, .iconst 1, 1), (253, .iadd, 1), (254, .iaload, 1), (255, .aload_n 3, 1)],
  [(256, .invokestatic 86, 3), (259, .istore 5, 2), (261, .aload_n 2, 1), (262, .aload_n 0, 1), (263, .iload 4, 2), (265, .iconst 1, 1), (266, .iadd, 1), (267, .iaload, 1), (268, .invokevirtual 88, 3), (271, .istore 6, 2), (273, .aload_n 2, 1), (274, .invokevirtual 78, 3), (277, .iload 5, 2), (279, .if_icmp .eq 5, 3), (282, .iconst 0, 1), (283, .ireturn, 1), (284, .iload 5, 2), (286, .ifCond .ne 15, 3)],
  [(289, .aload_n 3, 1), (290, .iconst 0, 1), (291, .laload, 1), (292, .iload 6, 2), (294, .i2l, 1), (295, .lcmp, 1), (296, .ifCond .eq 5, 3), (299, .iconst 0, 1), (300, .ireturn, 1), (301, .goto 928, 3), (304, .aload_n 1, 1), (305, .aload_n 0, 1), (306, .iload 4, 2), (308, .iconst 1, 1), (309, .iadd, 1), (310, .iaload, 1), (311, .aload_n 0, 1), (312, .iload 4, 2), (314, .iconst 2, 1), (315, .iadd, 1), (316, .iaload, 1), (317, .aload_n 3, 1), (318, .invokestatic 89, 3)],
  [(321, .istore 5, 2), (323, .aload_n 2, 1), (324, .aload_n 0, 1), (325, .iload 4, 2), (327, .iconst 1, 1), (328, .iadd, 1), (329, .iaload, 1), (330, .aload_n 0, 1), (331, .iload 4, 2), (333, .iconst 2, 1), (334, .iadd, 1), (335, .iaload, 1), (336, .invokevirtual 91, 3), (339, .istore 6, 2), (341, .aload_n 2, 1), (342, .invokevirtual 78, 3), (345, .iload 5, 2), (347, .if_icmp .eq 5, 3), (350, .iconst 0, 1), (351, .ireturn, 1)],
  [(352, .iload 5, 2), (354, .ifCond .ne 15, 3), (357, .aload_n 3, 1), (358, .iconst 0, 1), (359, .laload, 1), (360, .iload 6, 2), (362, .i2l, 1), (363, .lcmp, 1), (364, .ifCond .eq 5, 3), (367, .iconst 0, 1), (368, .ireturn, 1), (369, .goto 860, 3), (372, .aload_n 1, 1), (373, .aload_n 0, 1), (374, .iload 4, 2), (376, .iconst 1, 1), (377, .iadd, 1), (378, .iaload, 1), (379, .aload_n 3, 1), (380, .invokestatic 92, 3), (383, .istore 5, 2)],
  [(385, .aload_n 2, 1), (386, .aload_n 0, 1), (387, .iload 4, 2), (389, .iconst 1, 1), (390, .iadd, 1), (391, .iaload, 1), (392, .invokevirtual 94, 3), (395, .istore 6, 2), (397, .aload_n 2, 1), (398, .invokevirtual 78, 3), (401, .iload 5, 2), (403, .if_icmp .eq 5, 3), (406, .iconst 0, 1), (407, .ireturn, 1), (408, .iload 5, 2), (410, .ifCond .ne 15, 3), (413, .aload_n 3, 1), (414, .iconst 0, 1), (415, .laload, 1)],
  [(416, .iload 6, 2), (418, .i2l, 1), (419, .lcmp, 1), (420, .ifCond .eq 5, 3), (423, .iconst 0, 1), (424, .ireturn, 1), (425, .goto 804, 3), (428, .aload_n 1, 1), (429, .aload_n 0, 1), (430, .iload 4, 2), (432, .iconst 1, 1), (433, .iadd, 1), (434, .iaload, 1), (435, .aload_n 3, 1), (436, .invokestatic 95, 3), (439, .istore 5, 2), (441, .aload_n 2, 1), (442, .aload_n 0, 1), (443, .iload 4, 2), (445, .iconst 1, 1), (446, .iadd, 1), (447, .iaload, 1)],
  [(448, .invokevirtual 97, 3), (451, .istore 6, 2), (453, .aload_n 2, 1), (454, .invokevirtual 78, 3), (457, .iload 5, 2), (459, .if_icmp .eq 5, 3), (462, .iconst 0, 1), (463, .ireturn, 1), (464, .iload 5, 2), (466, .ifCond .ne 15, 3), (469, .aload_n 3, 1), (470, .iconst 0, 1), (471, .laload, 1), (472, .iload 6, 2), (474, .i2l, 1), (475, .lcmp, 1), (476, .ifCond .eq 5, 3), (479, .iconst 0, 1)],
  [(480, .ireturn, 1), (481, .goto 748, 3), (484, .aload_n 1, 1), (485, .aload_n 0, 1), (486, .iload 4, 2), (488, .iconst 1, 1), (489, .iadd, 1), (490, .iaload, 1), (491, .aload_n 3, 1), (492, .invokestatic 98, 3), (495, .istore 5, 2), (497, .aload_n 2, 1), (498, .aload_n 0, 1), (499, .iload 4, 2), (501, .iconst 1, 1), (502, .iadd, 1), (503, .iaload, 1), (504, .invokevirtual 100, 3), (507, .istore 6, 2), (509, .aload_n 2, 1), (510, .invokevirtual 78, 3)],
  [(513, .iload 5, 2), (515, .if_icmp .eq 5, 3), (518, .iconst 0, 1), (519, .ireturn, 1), (520, .iload 5, 2), (522, .ifCond .ne 15, 3), (525, .aload_n 3, 1), (526, .iconst 0, 1), (527, .laload, 1), (528, .iload 6, 2), (530, .i2l, 1), (531, .lcmp, 1), (532, .ifCond .eq 5, 3), (535, .iconst 0, 1), (536, .ireturn, 1), (537, .goto 692, 3), (540, .aload_n 1, 1), (541, .aload_n 0, 1), (542, .iload 4, 2)],
  [(544, .iconst 1, 1), (545, .iadd, 1), (546, .iaload, 1), (547, .aload_n 3, 1), (548, .invokestatic 101, 3), (551, .istore 5, 2), (553, .aload_n 2, 1), (554, .aload_n 0, 1), (555, .iload 4, 2), (557, .iconst 1, 1), (558, .iadd, 1), (559, .iaload, 1), (560, .invokevirtual 103, 3), (563, .istore 6, 2), (565, .aload_n 2, 1), (566, .invokevirtual 78, 3), (569, .iload 5, 2), (571, .if_icmp .eq 5, 3), (574, .iconst 0, 1), (575, .ireturn, 1)],
  [(576, .iload 5, 2), (578, .ifCond .ne 15, 3), (581, .aload_n 3, 1), (582, .iconst 0, 1), (583, .laload, 1), (584, .iload 6, 2), (586, .i2l, 1), (587, .lcmp, 1), (588, .ifCond .eq 5, 3), (591, .iconst 0, 1), (592, .ireturn, 1), (593, .goto 636, 3), (596, .aload_n 1, 1), (597, .aload_n 0, 1), (598, .iload 4, 2), (600, .iconst 1, 1), (601, .iadd, 1), (602, .iaload, 1), (603, .aload_n 0, 1), (604, .iload 4, 2), (606, .iconst 2, 1), (607, .iadd, 1)],
  [(608, .iaload, 1), (609, .aload_n 3, 1), (610, .invokestatic 104, 3), (613, .istore 5, 2), (615, .aload_n 2, 1), (616, .aload_n 0, 1), (617, .iload 4, 2), (619, .iconst 1, 1), (620, .iadd, 1), (621, .iaload, 1), (622, .aload_n 0, 1), (623, .iload 4, 2), (625, .iconst 2, 1), (626, .iadd, 1), (627, .iaload, 1), (628, .invokevirtual 106, 3), (631, .istore 6, 2), (633, .aload_n 2, 1), (634, .invokevirtual 78, 3), (637, .iload 5, 2), (639, .if_icmp .eq 5, 3)],
  [(642, .iconst 0, 1), (643, .ireturn, 1), (644, .iload 5, 2), (646, .ifCond .ne 15, 3), (649, .aload_n 3, 1), (650, .iconst 0, 1), (651, .laload, 1), (652, .iload 6, 2), (654, .i2l, 1), (655, .lcmp, 1), (656, .ifCond .eq 5, 3), (659, .iconst 0, 1), (660, .ireturn, 1), (661, .goto 568, 3), (664, .aload_n 1, 1), (665, .aload_n 0, 1), (666, .iload 4, 2), (668, .iconst 1, 1), (669, .iadd, 1), (670, .iaload, 1), (671, .aload_n 0, 1)],
  [(672, .iload 4, 2), (674, .iconst 2, 1), (675, .iadd, 1), (676, .iaload, 1), (677, .aload_n 3, 1), (678, .invokestatic 107, 3), (681, .istore 5, 2), (683, .aload_n 2, 1), (684, .aload_n 0, 1), (685, .iload 4, 2), (687, .iconst 1, 1), (688, .iadd, 1), (689, .iaload, 1), (690, .aload_n 0, 1), (691, .iload 4, 2), (693, .iconst 2, 1), (694, .iadd, 1), (695, .iaload, 1), (696, .invokevirtual 109, 3), (699, .istore 6, 2), (701, .aload_n 2, 1), (702, .invokevirtual 78, 3)],
  [(705, .iload 5, 2), (707, .if_icmp .eq 5, 3), (710, .iconst 0, 1), (711, .ireturn, 1), (712, .iload 5, 2), (714, .ifCond .ne 15, 3), (717, .aload_n 3, 1), (718, .iconst 0, 1), (719, .laload, 1), (720, .iload 6, 2), (722, .i2l, 1), (723, .lcmp, 1), (724, .ifCond .eq 5, 3), (727, .iconst 0, 1), (728, .ireturn, 1), (729, .goto 500, 3), (732, .aload_n 1, 1), (733, .aload_n 0, 1), (734, .iload 4, 2)],
  [(736, .iconst 1, 1), (737, .iadd, 1), (738, .iaload, 1), (739, .aload_n 3, 1), (740, .invokestatic 110, 3), (743, .istore 5, 2), (745, .aload_n 2, 1), (746, .aload_n 0, 1), (747, .iload 4, 2), (749, .iconst 1, 1), (750, .iadd, 1), (751, .iaload, 1), (752, .invokevirtual 112, 3), (755, .istore 6, 2), (757, .aload_n 2, 1), (758, .invokevirtual 78, 3), (761, .iload 5, 2), (763, .if_icmp .eq 5, 3), (766, .iconst 0, 1), (767, .ireturn, 1)],
  [(768, .iload 5, 2), (770, .ifCond .ne 15, 3), (773, .aload_n 3, 1), (774, .iconst 0, 1), (775, .laload, 1), (776, .iload 6, 2), (778, .i2l, 1), (779, .lcmp, 1), (780, .ifCond .eq 5, 3), (783, .iconst 0, 1), (784, .ireturn, 1), (785, .goto 444, 3), (788, .aload_n 1, 1), (789, .aload_n 0, 1), (790, .iload 4, 2), (792, .iconst 1, 1), (793, .iadd, 1), (794, .iaload, 1), (795, .aload_n 0, 1), (796, .iload 4, 2), (798, .iconst 2, 1), (799, .iadd, 1)],
  [(800, .iaload, 1), (801, .aload_n 0, 1), (802, .iload 4, 2), (804, .iconst 3, 1), (805, .iadd, 1), (806, .iaload, 1), (807, .aload_n 0, 1), (808, .iload 4, 2), (810, .iconst 4, 1), (811, .iadd, 1), (812, .iaload, 1), (813, .aload_n 0, 1), (814, .iload 4, 2), (816, .iconst 5, 1), (817, .iadd, 1), (818, .iaload, 1), (819, .aload_n 0, 1), (820, .iload 4, 2), (822, .bipush 6, 2), (824, .iadd, 1), (825, .iaload, 1), (826, .aload_n 3, 1), (827, .invokestatic 113, 3), (830, .istore 5, 2)],
  [(832, .aload_n 2, 1), (833, .aload_n 0, 1), (834, .iload 4, 2), (836, .iconst 1, 1), (837, .iadd, 1), (838, .iaload, 1), (839, .aload_n 0, 1), (840, .iload 4, 2), (842, .iconst 2, 1), (843, .iadd, 1), (844, .iaload, 1), (845, .aload_n 0, 1), (846, .iload 4, 2), (848, .iconst 3, 1), (849, .iadd, 1), (850, .iaload, 1), (851, .aload_n 0, 1), (852, .iload 4, 2), (854, .iconst 4, 1), (855, .iadd, 1), (856, .iaload, 1), (857, .aload_n 0, 1), (858, .iload 4, 2), (860, .iconst 5, 1), (861, .iadd, 1), (862, .iaload, 1), (863, .aload_n 0, 1)],
  [(864, .iload 4, 2), (866, .bipush 6, 2), (868, .iadd, 1), (869, .iaload, 1), (870, .invokevirtual 116, 3), (873, .istore 6, 2), (875, .aload_n 2, 1), (876, .invokevirtual 78, 3), (879, .iload 5, 2), (881, .if_icmp .eq 5, 3), (884, .iconst 0, 1), (885, .ireturn, 1), (886, .iload 5, 2), (888, .ifCond .ne 15, 3), (891, .aload_n 3, 1), (892, .iconst 0, 1), (893, .laload, 1), (894, .iload 6, 2)],
  [(896, .i2l, 1), (897, .lcmp, 1), (898, .ifCond .eq 5, 3), (901, .iconst 0, 1), (902, .ireturn, 1), (903, .goto 326, 3), (906, .aload_n 1, 1), (907, .aload_n 0, 1), (908, .iload 4, 2), (910, .iconst 1, 1), (911, .iadd, 1), (912, .iaload, 1), (913, .aload_n 3, 1), (914, .invokestatic 117, 3), (917, .istore 5, 2), (919, .aload_n 2, 1), (920, .aload_n 0, 1), (921, .iload 4, 2), (923, .iconst 1, 1), (924, .iadd, 1), (925, .iaload, 1), (926, .invokevirtual 119, 3)],
  [(929, .istore 6, 2), (931, .aload_n 2, 1), (932, .invokevirtual 78, 3), (935, .iload 5, 2), (937, .if_icmp .eq 5, 3), (940, .iconst 0, 1), (941, .ireturn, 1), (942, .iload 5, 2), (944, .ifCond .ne 15, 3), (947, .aload_n 3, 1), (948, .iconst 0, 1), (949, .laload, 1), (950, .iload 6, 2), (952, .i2l, 1), (953, .lcmp, 1), (954, .ifCond .eq 5, 3), (957, .iconst 0, 1), (958, .ireturn, 1), (959, .goto 270, 3)],
  [(962, .aload_n 1, 1), (963, .aload_n 0, 1), (964, .iload 4, 2), (966, .iconst 1, 1), (967, .iadd, 1), (968, .iaload, 1), (969, .aload_n 0, 1), (970, .iload 4, 2), (972, .iconst 2, 1), (973, .iadd, 1), (974, .iaload, 1), (975, .aload_n 3, 1), (976, .invokestatic 120, 3), (979, .istore 5, 2), (981, .aload_n 2, 1), (982, .aload_n 0, 1), (983, .iload 4, 2), (985, .iconst 1, 1), (986, .iadd, 1), (987, .iaload, 1), (988, .aload_n 0, 1), (989, .iload 4, 2), (991, .iconst 2, 1)],
  [(992, .iadd, 1), (993, .iaload, 1), (994, .invokevirtual 122, 3), (997, .istore 6, 2), (999, .aload_n 2, 1), (1000, .invokevirtual 78, 3), (1003, .iload 5, 2), (1005, .if_icmp .eq 5, 3), (1008, .iconst 0, 1), (1009, .ireturn, 1), (1010, .iload 5, 2), (1012, .ifCond .ne 15, 3), (1015, .aload_n 3, 1), (1016, .iconst 0, 1), (1017, .laload, 1), (1018, .iload 6, 2), (1020, .i2l, 1), (1021, .lcmp, 1), (1022, .ifCond .eq 5, 3)],
  [(1025, .iconst 0, 1), (1026, .ireturn, 1), (1027, .goto 202, 3), (1030, .aload_n 1, 1), (1031, .aload_n 0, 1), (1032, .iload 4, 2), (1034, .iconst 1, 1), (1035, .iadd, 1), (1036, .iaload, 1), (1037, .aload_n 0, 1), (1038, .iload 4, 2), (1040, .iconst 2, 1), (1041, .iadd, 1), (1042, .iaload, 1), (1043, .aload_n 3, 1), (1044, .invokestatic 123, 3), (1047, .istore 5, 2), (1049, .aload_n 2, 1), (1050, .aload_n 0, 1), (1051, .iload 4, 2), (1053, .iconst 1, 1), (1054, .iadd, 1), (1055, .iaload, 1)],
  [(1056, .aload_n 0, 1), (1057, .iload 4, 2), (1059, .iconst 2, 1), (1060, .iadd, 1), (1061, .iaload, 1), (1062, .invokevirtual 125, 3), (1065, .istore 6, 2), (1067, .aload_n 2, 1), (1068, .invokevirtual 78, 3), (1071, .iload 5, 2), (1073, .if_icmp .eq 5, 3), (1076, .iconst 0, 1), (1077, .ireturn, 1), (1078, .iload 5, 2), (1080, .ifCond .ne 22, 3), (1083, .aload_n 3, 1), (1084, .iconst 0, 1), (1085, .laload, 1), (1086, .iload 6, 2)],
  [(1088, .ifCond .eq 7, 3), (1091, .lconst 1, 1), (1092, .goto 4, 3), (1095, .lconst 0, 1), (1096, .lcmp, 1), (1097, .ifCond .eq 5, 3), (1100, .iconst 0, 1), (1101, .ireturn, 1), (1102, .goto 127, 3), (1105, .aload_n 1, 1), (1106, .aload_n 0, 1), (1107, .iload 4, 2), (1109, .iconst 1, 1), (1110, .iadd, 1), (1111, .iaload, 1), (1112, .aload_n 0, 1), (1113, .iload 4, 2), (1115, .iconst 2, 1), (1116, .iadd, 1), (1117, .iaload, 1), (1118, .aload_n 3, 1), (1119, .invokestatic 126, 3)],
  [(1122, .istore 5, 2), (1124, .aload_n 2, 1), (1125, .aload_n 0, 1), (1126, .iload 4, 2), (1128, .iconst 1, 1), (1129, .iadd, 1), (1130, .iaload, 1), (1131, .aload_n 0, 1), (1132, .iload 4, 2), (1134, .iconst 2, 1), (1135, .iadd, 1), (1136, .iaload, 1), (1137, .invokevirtual 128, 3), (1140, .istore 6, 2), (1142, .aload_n 2, 1), (1143, .invokevirtual 78, 3), (1146, .iload 5, 2), (1148, .if_icmp .eq 5, 3), (1151, .iconst 0, 1)],
  [(1152, .ireturn, 1), (1153, .iload 5, 2), (1155, .ifCond .ne 15, 3), (1158, .aload_n 3, 1), (1159, .iconst 0, 1), (1160, .laload, 1), (1161, .iload 6, 2), (1163, .i2l, 1), (1164, .lcmp, 1), (1165, .ifCond .eq 5, 3), (1168, .iconst 0, 1), (1169, .ireturn, 1), (1170, .goto 59, 3), (1173, .aload_n 1, 1), (1174, .aload_n 0, 1), (1175, .iload 4, 2), (1177, .iconst 1, 1), (1178, .iadd, 1), (1179, .iaload, 1), (1180, .aload_n 3, 1), (1181, .invokestatic 129, 3)],
  [(1184, .istore 5, 2), (1186, .aload_n 2, 1), (1187, .aload_n 0, 1), (1188, .iload 4, 2), (1190, .iconst 1, 1), (1191, .iadd, 1), (1192, .iaload, 1), (1193, .invokevirtual 131, 3), (1196, .istore 6, 2), (1198, .aload_n 2, 1), (1199, .invokevirtual 78, 3), (1202, .iload 5, 2), (1204, .if_icmp .eq 5, 3), (1207, .iconst 0, 1), (1208, .ireturn, 1), (1209, .iload 5, 2), (1211, .ifCond .ne 15, 3), (1214, .aload_n 3, 1), (1215, .iconst 0, 1)],
  [(1216, .laload, 1), (1217, .iload 6, 2), (1219, .i2l, 1), (1220, .lcmp, 1), (1221, .ifCond .eq 5, 3), (1224, .iconst 0, 1), (1225, .ireturn, 1), (1226, .goto 3, 3), (1229, .iinc 4 7, 3), (1232, .goto (-1209), 3), (1235, .iconst 1, 1), (1236, .ireturn, 1)]]
set_option maxRecDepth 100000 in
theorem pgE0_in : pgE0.all (fun l => l.all (fun q => decide (decode code q.1 = .ok q.2))) = true := by
  have h : pgE0.flatten = pgD0 := by rfl
  have h2 : (pgE0.flatten).all (fun q => decide (decode code q.1 = .ok q.2)) = true := by
    rw [h]
    exact List.all_eq_true.mpr (fun q hq => decide_eq_true (pgDa0 q hq))
  rw [List.all_flatten] at h2
  exact h2
def pgDecT (j pc : Nat) : Option (Instr × Nat) := match j with
  | 0 => match pgE0[pc / 32]? with
    | some l => (l.find? (fun q => q.1 == pc)).map (fun q => q.2)
    | none => none
  | j + 1 => pgDec (j + 1) pc
theorem pgDecT_ok : ∀ (j : Nat) (E : mvE) (pc : Nat) (q : Instr × Nat), pgMm j = some E → pgDecT j pc = some q → decode E.2.1 pc = .ok q := by
  intro j E pc q hE hq
  match j, hE, hq with
  | 0, hE, hq =>
    have e0 := pgE0_at.symm.trans hE
    cases e0
    simp only [pgDecT] at hq
    split at hq
    · rename_i l hl
      obtain ⟨x, hx, rfl⟩ := Option.map_eq_some_iff.mp hq
      have h1 := of_decide_eq_true (List.all_eq_true.mp (List.all_eq_true.mp pgE0_in l (List.mem_of_getElem? hl)) x (List.mem_of_find?_eq_some hx))
      have h2 := List.find?_some hx
      rw [← beq_iff_eq.mp h2]
      exact h1
    · cases hq
  | j + 1, hE, hq => exact pgDec_ok (j + 1) E pc q hE hq
end
section
/-! One call on a fresh object. -/
theorem pgAny1 {κ : Nat → Nat} {X : amX} {B : amB} {dec : Nat → Nat → Option (Instr × Nat)} {stop : Nat} (X1 X2 : Nat → Option (Nat × (Nat → Int32))) : ∀ n, amTo κ (pgPx X1) X B dec stop n = amTo κ (pgPx X2) X B dec stop n := by
  intro n
  induction n with
  | zero => rfl
  | succ n ih =>
    funext d j pc lv st h
    rw [amTo, amTo]
    simp only [ih, pgAny0 X1 X2]
    rfl
theorem pgHead (L : Nat) (xs : Nat → Int32) : mvRun (pgP L xs) 2000 20 0 0 [(0, .inr (.inr (.inr 1)))] [] (true, []) = mvAdd 110 819039 (mvRun (pgP L xs) 1987 20 0 23 (amGl xs pgL0) [] (amGh xs (true, pgH0))) := by
  have h := amSame_ok pgH0_run
  rw [pgAny1 pgX0 (pgX L xs)] at h
  have hX : ∀ o q, pgX9 o = some q → mvPx (pgP L xs) o = some (q.1, fun k => amGi xs (q.2 k)) := by
    intro o q hq
    match o, hq with
    | 0, hq => cases hq; rfl
    | o + 1, hq => cases hq
  have h2 := amTo_ok (ρ := xs) (κ := fun _ => 0) (P := pgP L xs) (X := pgX9) (fun i => ⟨(fun h => by cases h), (fun h => by cases h), (fun h => by omega)⟩) hX pgBa_ok pgBa_no pgDec_ok 2000 20 0 0 _ [] (true, []) _ _ [] _ _ _ h
  have e1 : amGl xs [(0, .inr (.inr (.inr 1)))] = [(0, .inr (.inr (.inr 1)))] := rfl
  have e2 : amGh xs (true, []) = (true, []) := rfl
  rw [e1, e2, List.map_nil] at h2
  exact h2
def pgYes2 (o : Option amO) : Bool := match o with
  | some (.inl (some (.inl (.inl x))), _, kc, ks) => decide (x = 1) && decide (kc ≤ 500000) && decide (ks ≤ 6000000)
  | _ => false
/-- a script's class: kinds, and what is known -/
def pgChk (L : Nat) (ks : List Nat) (sc : List amI) : Bool := pgYes2 (amRun (fun i => ks.getD i 0) (pgPx pgX0) (pgXa L sc) pgBa pgDecT 1987 20 0 23 pgL0 [] (true, pgH0))
theorem pgChk_ok {L : Nat} {xs : Nat → Int32} {ks : List Nat} {sc : List amI} (hρ : ∀ i, amOk (ks.getD i 0) (xs i)) (hsc : ∀ (k : Nat) (a : Int32), sc[k]? = some (Sum.inl a : amI) → xs k = a) (hsd : ∀ (k v : Nat), sc[k]? = some (Sum.inr v : amI) → v = k) (h : pgChk L ks sc = true) :
    ∃ h' kc ks, mvRun (pgP L xs) 2000 20 0 0 [(0, .inr (.inr (.inr 1)))] [] (true, []) = some (.inl (some (.inl 1)), h', kc, ks) ∧ kc ≤ 600002 ∧ ks ≤ 7302231 := by
  unfold pgChk at h
  rw [pgAny0 pgX0 (pgX L xs)] at h
  unfold pgYes2 at h
  split at h
  · rename_i x h' kc ks hr
    simp only [Bool.and_eq_true, decide_eq_true_eq] at h
    obtain ⟨⟨rfl, h2⟩, h3⟩ := h
    have h4 := amRun_ok (ρ := xs) (P := pgP L xs) hρ (X := pgXa L sc) ?_ pgBa_ok pgBa_no pgDecT_ok 1987 20 0 23 _ _ _ _ hr
    · refine ⟨amGh xs h', 110 + kc, 819039 + ks, ?_, by omega, by omega⟩
      rw [pgHead]
      simp only [List.map_nil] at h4
      rw [h4]
      rfl
    · intro o q hq
      match o, hq with
      | 0, hq => cases hq; rfl
      | 1, hq =>
        cases hq
        show some (L, xs) = some (L, _)
        congr 2
        funext k
        show xs k = amGi xs (sc.getD k (.inr k))
        rw [List.getD_eq_getElem?_getD]
        cases hk : sc[k]? with
        | none => rfl
        | some a =>
          cases a with
          | inl a => exact hsc k a hk
          | inr v => show xs k = xs v; rw [hsd k v hk]
      | o + 2, hq => cases hq
  · cases h
def pgCls : List (Nat × Option Int32) := [(1, none), (2, none), (0, some (-1)), (0, some 0), (0, some 1), (0, some 2), (0, some 3), (0, some 4), (0, some 5), (0, some 6), (0, some 7), (0, some 8), (0, some 9)]
def pgV (k : Nat) (q : Option Int32) : amI := match q with
  | some a => .inl a
  | none => .inr k
def pgChm (m : Nat) : Bool := if m = 1 then pgCls.all (fun q => pgCls.all (fun r => pgChk 7 [101, q.1, r.1] [.inr 0, pgV 1 q.2, pgV 2 r.2])) else if m = 4 ∨ 17 ≤ m then pgChk 7 [100 + m] [] else pgCls.all (fun q => pgChk 7 [100 + m, q.1] [.inr 0, pgV 1 q.2])
end
section
/-! The classes of scripts, one by one. -/
set_option maxRecDepth 100000 in
theorem pgChm0 : pgChm 0 = true := by decide +kernel
set_option maxRecDepth 100000 in
theorem pgChm2 : pgChm 2 = true := by decide +kernel
set_option maxRecDepth 100000 in
theorem pgChm3 : pgChm 3 = true := by decide +kernel
set_option maxRecDepth 100000 in
theorem pgChm4 : pgChm 4 = true := by decide +kernel
set_option maxRecDepth 100000 in
theorem pgChm5 : pgChm 5 = true := by decide +kernel
set_option maxRecDepth 100000 in
theorem pgChm6 : pgChm 6 = true := by decide +kernel
set_option maxRecDepth 100000 in
theorem pgChm7 : pgChm 7 = true := by decide +kernel
set_option maxRecDepth 100000 in
theorem pgChm8 : pgChm 8 = true := by decide +kernel
end
section
/-! The classes of scripts, one by one: function. -/
def pgChf (i : Nat) : Bool := match pgCls[i]? with
  | some q => pgCls.all (fun r => pgChk 7 [101, q.1, r.1] [.inr 0, pgV 1 q.2, pgV 2 r.2])
  | none => true
set_option maxRecDepth 100000 in
theorem pgChf0 : pgChf 0 = true := by decide +kernel
set_option maxRecDepth 100000 in
theorem pgChf1 : pgChf 1 = true := by decide +kernel
set_option maxRecDepth 100000 in
theorem pgChf2 : pgChf 2 = true := by decide +kernel
set_option maxRecDepth 100000 in
theorem pgChf3 : pgChf 3 = true := by decide +kernel
set_option maxRecDepth 100000 in
theorem pgChf4 : pgChf 4 = true := by decide +kernel
end
section
/-! The classes of scripts, one by one: function. -/
set_option maxRecDepth 100000 in
theorem pgChf5 : pgChf 5 = true := by decide +kernel
set_option maxRecDepth 100000 in
theorem pgChf6 : pgChf 6 = true := by decide +kernel
set_option maxRecDepth 100000 in
theorem pgChf7 : pgChf 7 = true := by decide +kernel
set_option maxRecDepth 100000 in
theorem pgChf8 : pgChf 8 = true := by decide +kernel
end
section
/-! The classes of scripts, one by one: function. -/
set_option maxRecDepth 100000 in
theorem pgChf9 : pgChf 9 = true := by decide +kernel
set_option maxRecDepth 100000 in
theorem pgChf10 : pgChf 10 = true := by decide +kernel
set_option maxRecDepth 100000 in
theorem pgChf11 : pgChf 11 = true := by decide +kernel
set_option maxRecDepth 100000 in
theorem pgChf12 : pgChf 12 = true := by decide +kernel
theorem pgChm1 : pgChm 1 = true := by
  show pgCls.all (fun q => pgCls.all (fun r => pgChk 7 [101, q.1, r.1] [.inr 0, pgV 1 q.2, pgV 2 r.2])) = true
  refine List.all_eq_true.mpr (fun q hq => ?_)
  obtain ⟨i, hi, he⟩ := List.getElem_of_mem hq
  have h : pgChf i = true := by
    match i, hi with
    | 0, _ => exact pgChf0
    | 1, _ => exact pgChf1
    | 2, _ => exact pgChf2
    | 3, _ => exact pgChf3
    | 4, _ => exact pgChf4
    | 5, _ => exact pgChf5
    | 6, _ => exact pgChf6
    | 7, _ => exact pgChf7
    | 8, _ => exact pgChf8
    | 9, _ => exact pgChf9
    | 10, _ => exact pgChf10
    | 11, _ => exact pgChf11
    | 12, _ => exact pgChf12
    | i + 13, h => exact absurd h (by show ¬ i + 13 < 13; omega)
  unfold pgChf at h
  rw [List.getElem?_eq_getElem hi, he] at h
  exact h
end
section
/-! The classes of scripts, one by one. -/
set_option maxRecDepth 100000 in
theorem pgChm9 : pgChm 9 = true := by decide +kernel
set_option maxRecDepth 100000 in
theorem pgChm10 : pgChm 10 = true := by decide +kernel
set_option maxRecDepth 100000 in
theorem pgChm11 : pgChm 11 = true := by decide +kernel
set_option maxRecDepth 100000 in
theorem pgChm12 : pgChm 12 = true := by decide +kernel
set_option maxRecDepth 100000 in
theorem pgChm13 : pgChm 13 = true := by decide +kernel
set_option maxRecDepth 100000 in
theorem pgChm14 : pgChm 14 = true := by decide +kernel
set_option maxRecDepth 100000 in
theorem pgChm15 : pgChm 15 = true := by decide +kernel
set_option maxRecDepth 100000 in
theorem pgChm16 : pgChm 16 = true := by decide +kernel
set_option maxRecDepth 100000 in
theorem pgChm17 : pgChm 17 = true := by decide +kernel
set_option maxRecDepth 100000 in
theorem pgChm18 : pgChm 18 = true := by decide +kernel
set_option maxRecDepth 100000 in
theorem pgChm19 : pgChm 19 = true := by decide +kernel
set_option maxRecDepth 100000 in
theorem pgChm20 : pgChm 20 = true := by decide +kernel
set_option maxRecDepth 100000 in
theorem pgChm21 : pgChm 21 = true := by decide +kernel
set_option maxRecDepth 100000 in
theorem pgChm22 : pgChm 22 = true := by decide +kernel
set_option maxRecDepth 100000 in
theorem pgChm23 : pgChm 23 = true := by decide +kernel
set_option maxRecDepth 100000 in
theorem pgChm24 : pgChm 24 = true := by decide +kernel
set_option maxRecDepth 100000 in
theorem pgChm25 : pgChm 25 = true := by decide +kernel
set_option maxRecDepth 100000 in
theorem pgChm26 : pgChm 26 = true := by decide +kernel
set_option maxRecDepth 100000 in
theorem pgChm27 : pgChm 27 = true := by decide +kernel
set_option maxRecDepth 100000 in
theorem pgChm28 : pgChm 28 = true := by decide +kernel
set_option maxRecDepth 100000 in
theorem pgChm29 : pgChm 29 = true := by decide +kernel
set_option maxRecDepth 100000 in
theorem pgChm30 : pgChm 30 = true := by decide +kernel
set_option maxRecDepth 100000 in
theorem pgChm31 : pgChm 31 = true := by decide +kernel
set_option maxRecDepth 100000 in
theorem pgChl0 : pgChk 0 [] [] = true := by decide +kernel
set_option maxRecDepth 100000 in
theorem pgChl1 : pgChk 1 [] [] = true := by decide +kernel
set_option maxRecDepth 100000 in
theorem pgChl2 : pgChk 2 [] [] = true := by decide +kernel
set_option maxRecDepth 100000 in
theorem pgChl3 : pgChk 3 [] [] = true := by decide +kernel
set_option maxRecDepth 100000 in
theorem pgChl4 : pgChk 4 [] [] = true := by decide +kernel
set_option maxRecDepth 100000 in
theorem pgChl5 : pgChk 5 [] [] = true := by decide +kernel
set_option maxRecDepth 100000 in
theorem pgChl6 : pgChk 6 [] [] = true := by decide +kernel
end
section
/-! Every script of at most 7 ints. -/
theorem pgChm_all : ∀ m : Nat, m < 32 → pgChm m = true := by
  intro m hm
  match m, hm with
  | 0, _ => exact pgChm0
  | 1, _ => exact pgChm1
  | 2, _ => exact pgChm2
  | 3, _ => exact pgChm3
  | 4, _ => exact pgChm4
  | 5, _ => exact pgChm5
  | 6, _ => exact pgChm6
  | 7, _ => exact pgChm7
  | 8, _ => exact pgChm8
  | 9, _ => exact pgChm9
  | 10, _ => exact pgChm10
  | 11, _ => exact pgChm11
  | 12, _ => exact pgChm12
  | 13, _ => exact pgChm13
  | 14, _ => exact pgChm14
  | 15, _ => exact pgChm15
  | 16, _ => exact pgChm16
  | 17, _ => exact pgChm17
  | 18, _ => exact pgChm18
  | 19, _ => exact pgChm19
  | 20, _ => exact pgChm20
  | 21, _ => exact pgChm21
  | 22, _ => exact pgChm22
  | 23, _ => exact pgChm23
  | 24, _ => exact pgChm24
  | 25, _ => exact pgChm25
  | 26, _ => exact pgChm26
  | 27, _ => exact pgChm27
  | 28, _ => exact pgChm28
  | 29, _ => exact pgChm29
  | 30, _ => exact pgChm30
  | 31, _ => exact pgChm31
  | m + 32, h => omega
theorem amOk_0 (x : Int32) : amOk 0 x := ⟨(fun h => by cases h), (fun h => by cases h), (fun h => by omega)⟩
theorem pgCls_ok (x : Int32) : ∃ q ∈ pgCls, amOk q.1 x ∧ ∀ a, q.2 = some a → x = a := by
  have m1 : (-1 : Int32).toInt = -1 := by decide
  have m9 : (9 : Int32).toInt = 9 := by decide
  by_cases h1 : x < -1
  · exact ⟨(1, none), by simp [pgCls], ⟨(fun _ => h1), (fun h => by cases h), (fun h => by omega)⟩, fun a h => by cases h⟩
  · by_cases h2 : 9 < x
    · exact ⟨(2, none), by simp [pgCls], ⟨(fun h => by cases h), (fun _ => h2), (fun h => by omega)⟩, fun a h => by cases h⟩
    · have k1 : -1 ≤ x.toInt := by rw [Int32.lt_iff_toInt_lt] at h1; omega
      have k2 : x.toInt ≤ 9 := by rw [Int32.lt_iff_toInt_lt] at h2; omega
      have key : ∀ c : Int32, x.toInt = c.toInt → (0, some c) ∈ pgCls → ∃ q ∈ pgCls, amOk q.1 x ∧ ∀ a, q.2 = some a → x = a := fun c hc hm => ⟨(0, some c), hm, amOk_0 x, fun a h => by cases h; exact Int32.toInt_inj.mp hc⟩
      have k3 : x.toInt = -1 ∨ x.toInt = 0 ∨ x.toInt = 1 ∨ x.toInt = 2 ∨ x.toInt = 3 ∨ x.toInt = 4 ∨ x.toInt = 5 ∨ x.toInt = 6 ∨ x.toInt = 7 ∨ x.toInt = 8 ∨ x.toInt = 9 := by omega
      rcases k3 with h | h | h | h | h | h | h | h | h | h | h
      · exact key (-1) (by rw [h]; decide) (by simp [pgCls])
      · exact key (0) (by rw [h]; decide) (by simp [pgCls])
      · exact key (1) (by rw [h]; decide) (by simp [pgCls])
      · exact key (2) (by rw [h]; decide) (by simp [pgCls])
      · exact key (3) (by rw [h]; decide) (by simp [pgCls])
      · exact key (4) (by rw [h]; decide) (by simp [pgCls])
      · exact key (5) (by rw [h]; decide) (by simp [pgCls])
      · exact key (6) (by rw [h]; decide) (by simp [pgCls])
      · exact key (7) (by rw [h]; decide) (by simp [pgCls])
      · exact key (8) (by rw [h]; decide) (by simp [pgCls])
      · exact key (9) (by rw [h]; decide) (by simp [pgCls])
theorem pgBits (x : Int32) : ∃ m : Nat, m < 32 ∧ amOk (100 + m) x := by
  refine ⟨(x.toBitVec &&& 31#32).toNat, ?_, (fun h => by omega), (fun h => by omega), fun _ => ?_⟩
  · have : (x.toBitVec &&& 31#32).toNat ≤ 31 := by
      rw [BitVec.toNat_and]
      exact Nat.and_le_right
    omega
  · rw [Nat.add_sub_cancel_left]
    apply Int32.toBitVec_inj.mp
    rw [Int32.toBitVec_and]
    show x.toBitVec &&& 31#32 = BitVec.ofNat 32 (x.toBitVec &&& 31#32).toNat
    simp
theorem pgV_ok {k v : Nat} {q : Option Int32} (h : pgV k q = (Sum.inr v : amI)) : v = k := by
  cases q with
  | none => cases h; rfl
  | some a => cases h
theorem pgV_in {k : Nat} {a : Int32} {q : Option Int32} (h : pgV k q = (Sum.inl a : amI)) : q = some a := by
  cases q with
  | none => cases h
  | some a => cases h; rfl
theorem pgOne (L : Nat) (xs : Nat → Int32) (hL : L ≤ 7) : ∃ h' kc ks, mvRun (pgP L xs) 2000 20 0 0 [(0, .inr (.inr (.inr 1)))] [] (true, []) = some (.inl (some (.inl 1)), h', kc, ks) ∧ kc ≤ 600002 ∧ ks ≤ 7302231 := by
  by_cases h7 : L = 7
  · subst h7
    obtain ⟨m, hm, hm2⟩ := pgBits (xs 0)
    obtain ⟨q, hq, hq1, hq2⟩ := pgCls_ok (xs 1)
    obtain ⟨r, hr, hr1, hr2⟩ := pgCls_ok (xs 2)
    have hc := pgChm_all m hm
    unfold pgChm at hc
    split at hc
    · rename_i h1
      subst h1
      have hc := List.all_eq_true.mp (List.all_eq_true.mp hc q hq) r hr
      refine pgChk_ok ?_ ?_ ?_ hc
      · intro i
        match i with
        | 0 => exact hm2
        | 1 => exact hq1
        | 2 => exact hr1
        | i + 3 => exact amOk_0 _
      · intro k a hk
        match k, hk with
        | 0, hk => simp at hk
        | 1, hk => exact hq2 a (pgV_in (Option.some.inj hk))
        | 2, hk => exact hr2 a (pgV_in (Option.some.inj hk))
        | k + 3, hk => simp at hk
      · intro k v hk
        match k, hk with
        | 0, hk => simp at hk; exact hk.symm
        | 1, hk => exact pgV_ok (Option.some.inj hk)
        | 2, hk => exact pgV_ok (Option.some.inj hk)
        | k + 3, hk => simp at hk
    · split at hc
      · refine pgChk_ok ?_ ?_ ?_ hc
        · intro i
          match i with
          | 0 => exact hm2
          | i + 1 => exact amOk_0 _
        · intro k a hk; simp at hk
        · intro k v hk; simp at hk
      · have hc := List.all_eq_true.mp hc q hq
        refine pgChk_ok ?_ ?_ ?_ hc
        · intro i
          match i with
          | 0 => exact hm2
          | 1 => exact hq1
          | i + 2 => exact amOk_0 _
        · intro k a hk
          match k, hk with
          | 0, hk => simp at hk
          | 1, hk => exact hq2 a (pgV_in (Option.some.inj hk))
          | k + 2, hk => simp at hk
        · intro k v hk
          match k, hk with
          | 0, hk => simp at hk; exact hk.symm
          | 1, hk => exact pgV_ok (Option.some.inj hk)
          | k + 2, hk => simp at hk
  · have hz : ∀ {n : Nat}, pgChk n [] [] = true → ∃ h' kc ks, mvRun (pgP n xs) 2000 20 0 0 [(0, .inr (.inr (.inr 1)))] [] (true, []) = some (.inl (some (.inl 1)), h', kc, ks) ∧ kc ≤ 600002 ∧ ks ≤ 7302231 := fun h => pgChk_ok (ks := []) (sc := []) (fun i => (by rw [List.getD_nil]; exact amOk_0 _ : amOk (([] : List Nat).getD i 0) (xs i))) (fun k a hk => by simp at hk) (fun k v hk => by simp at hk) h
    match L, hL, h7 with
    | 0, _, _ => exact hz pgChl0
    | 1, _, _ => exact hz pgChl1
    | 2, _, _ => exact hz pgChl2
    | 3, _, _ => exact hz pgChl3
    | 4, _, _ => exact hz pgChl4
    | 5, _, _ => exact hz pgChl5
    | 6, _, _ => exact hz pgChl6
    | 7, _, h => exact absurd rfl h
    | n + 8, h, _ => omega
theorem whole_start {p : Program} {e : Env} {s : State} {m : MethodId} {below : List Frame} {meth : Method} {c : Code} (l : Launch) (hl : l.stackTraces = false) {b : Nat} {xs : List Int32} (hbd : xs.length ≤ 7) (C0 : lw_At p s m meth c b xs.length (fun j => xs.getD j 0)) :
    W p l e room_1 s m #[Value.ref b] below meth c s.heap [] 0 0 (lw_Z below #[Value.ref b] s) (entryFrame m ([Value.ref b] : List Value).toArray 7) := by
  obtain ⟨h', kc, ks, h1, h2, h3⟩ := pgOne xs.length (fun j => xs.getD j 0) hbd
  exact pgEnter l hl (by omega) C0 (by decide : 20 ≤ 1400) h1 h2 h3
set_option maxHeartbeats 4000000 in
theorem lw_walk (l : Launch) (hfl : l.stackTraces = false) (b : Addr) (xs : List Int32) : MetFree l x (headSpec (Jvm.Cond.code x code maxLocals ret :: tables_1) room_1) (lw_P b xs) (fun _ _ _ _ _ => True) lw_Q := by
  refine MetFree.of_bodyS (code := code) (maxLocals := maxLocals) (ret := ret) (by decide) ?_ ?_
  · intro args s m h hn
    obtain ⟨meth, c, h1, h2, h3, h4, h5, h6, -, -⟩ := Cond.code_spec hn (atoms_spec (ws := Jvm.Cond.code x code maxLocals ret :: tables_1) h _ List.mem_cons_self)
    exact ⟨meth, c, h1, h2, h3, h4, h5, h6⟩
  · intro p e s m args below meth c s₁ B hml0 hP _
    obtain ⟨rfl, hx, hbd, hgv⟩ := hP
    obtain ⟨scr, harrAt, hlist, hof, hsmall⟩ := hx
    obtain ⟨hcb, hkn, -, -⟩ := State.arrayAt?_spec harrAt
    have hown : s.vm.findClass R_law = some m.cls := findClass_of_methodNamed B.named
    have hts0 : ∀ c ∈ (Jvm.Cond.code x code maxLocals ret :: tables_1), c.before #[Value.ref b] s = true := atoms_spec (ws := Jvm.Cond.code x code maxLocals ret :: tables_1) B.pre
    have hts : ∀ w ∈ lw_tbl, w.before #[Value.ref b] s = true := k2_hts_sels lw_privs (fun w hw => hts0 w (List.mem_cons_of_mem _ hw)) lw_privs_ok
    have hml : c.maxLocals = 7 := B.maxLocals_eq (hts0 _ List.mem_cons_self)
    have hno : c.exceptionTable.toList = [] := by
      have h9 := B.noHandlers (hts0 _ List.mem_cons_self)
      simpa using h9
    have X₀ : Stand p l e room_1 s m #[Value.ref b] below meth c s₁ [] 0 0 := Stand.of_body B
    have hh0 : s₁.heap = s.heap := by rw [B.state]; rfl
    have hsz : scr.slots.size = xs.length := by rw [← Array.length_toList, hlist, List.length_map]
    have hval : ∀ j : Nat, j < xs.length → scr.slots[j]? = some (.int (xs.getD j 0)) := fun j hj => by
      rw [← Array.getElem?_toList, hlist]
      simp [hj]
    have hbl : b < s.heap.size := (Array.getElem?_eq_some_iff.mp hcb).1
    have hX : va_X b xs.length (fun j => xs.getD j 0) s s.heap := ⟨scr, hcb, hof, hkn, hsz, hval⟩
    have K : W p l e room_1 s m #[Value.ref b] below meth c s₁.heap [] 0 0 (lw_Z below #[Value.ref b] s) (entryFrame m ([Value.ref b] : List Value).toArray 7) := by
      rw [hh0]
      exact whole_start l hfl hbd ⟨B.exec, B.bytes, B.returns, hml, hown, hts, hX, hbl, B.notSynchronized, hgv, (name_of_methodNamed B.named B.method).1, hno⟩
    obtain ⟨t, a1, o, b1, b2, b3⟩ := K s₁ rfl X₀
    exact ⟨t, o, a1, b1, b2, b3⟩
theorem lw_pre_spec {args : Array Value} {s : State} (h : (Jvm.Cond.and given_1 narrow_1).before args s = true) (hr : rest_1_c.before args s = true) : ∃ (b : Addr) (xs : List Int32), lw_P b xs args s := by
  have hs := flat_of_before _ h
  have hq := flat_of_before _ hr
  have hc : (Cond.count 1).before args s = true := hs _ (by decide +kernel)
  have harr : (Cond.arrayOf (.arg 0) .int).before args s = true := hs _ (by decide +kernel)
  have hle : (Cond.le (.length (.arg 0)) (.int 7)).before args s = true := hs _ (by decide +kernel)
  have hlen : (Cond.isInt (.length (.arg 0))).before args s = true := hq _ (by decide +kernel)
  have hall : (Cond.all (.arg 0) (.isInt (.elem (.arg 0) (.index 0)))).before args s = true := hq _ (by decide +kernel)
  obtain ⟨b, xs, hb, hx⟩ := State.ints_of_pre rfl harr hlen hall
  have hsm : xs.length < 2 ^ 31 := hx.choose_spec.2.2.2
  have hev : (Term.length (.arg 0)).eval args s none [] s = some (.int xs.length.toInt32) := hx.length_eval hb
  have hv := Cond.le_ints hev (show (Term.int 7).eval args s none [] s = some (.int 7) from rfl)
  have hd : xs.length.toInt32 ≤ 7 := by
    simpa [Cond.before, Cond.holds, hv] using hle
  have hN : xs.length ≤ 7 := (Int32.ofNat_le_ofNat hsm (by decide)).mp (show Int32.ofNat xs.length ≤ Int32.ofNat 7 from hd)
  exact ⟨b, xs, Cond.one_arg hc (show args[0]? = some (.ref b) from hb), hx, hN, h⟩
theorem lw_comes (l : Launch) (hfl : l.stackTraces = false) : Comes l x (Jvm.Cond.code x code maxLocals ret :: tables_1) room_1 (fun tb e args s => Calls_1 tb e args s ∧ rest_1 tb e args s ∧ Pre_1 tb e args s)
    (fun _ _ args s o t => lw_Q args s o t) := by
  intro p e ha hc hk s m args below hf hfit hheap happ hpre
  obtain ⟨b, xs, hP⟩ := lw_pre_spec hpre.2.2 hpre.2.1
  obtain ⟨k, o, h1, h2, h3, hQ⟩ := lw_walk l hfl b xs p e ha hc hk s m args below hf ((Spec.applies_iff_loose hf).mp happ).1 hP trivial
  exact ⟨k, o, h1, h2, h3, hQ⟩
theorem lw_frame {s t : State} {o : Outcome} {args : Array Value} (h : Framed s o t [] 600002 7302231) :
    Framed s o t (fieldLocs frame_1_writes args s ++ arrayLocs frame_1_arrays args s ++ staticLocs frame_1_statics s) 600002 7302231 := h
theorem lw_limb (L : Cond) (hL : ∀ (args : Array Value) (s t : State), L.after args s (.returned (some (.int 1))) t = true) :
    ArmFor flags0 classFile x code maxLocals ret World_1 tables_1 room_1 Calls_1 rest_1 Pre_1
      (fun tb e a s o t => postC L tb e a s o t ∧ Framed s o t (fieldLocs frame_1_writes a s ++ arrayLocs frame_1_arrays a s ++ staticLocs frame_1_statics s) 600002 7302231) := by
  intro l hl0 _ _ p e ha hc hk s m args below hf hfit hheap happ hpre
  have hfl : l.stackTraces = false := by
    unfold Launch.stackTraces
    rw [hl0]
    decide +kernel
  obtain ⟨k, o, h1, h2, h3, rfl, hF⟩ := lw_comes l hfl p e ha hc hk s m args below hf hfit hheap happ hpre
  exact ⟨k, _, h1, h2, h3, hL args s _, lw_frame hF⟩
theorem i_vc : Claimed_1_1 ∧ Claimed_1_2 := ⟨lw_limb limb_1_1 (fun args s t => by simp [limb_1_1, Cond.after, Cond.holds, Cond.value]), lw_limb limb_1_2 (fun args s t => Cond.after_iff.mpr (by
  first | (rw [show limb_1_2 = Cond.eq .result (.int 1) from rfl, Cond.eq_ints (x := 1) (y := 1) rfl rfl]; simp; done) | (simp [limb_1_2, Cond.value, Term.eval]; done)))⟩
end
