-- ===== PART A: goes FIRST, ahead of the names: the tables' words, and 'selects' of the private methods out of them =====
/-- a private method of a class that the tables say can be made, by its rows of tables_1 -/
def lw_okq (q : MethodName × Nat) : Prop := (q.1.cls ≠ "java/lang/invoke/MethodHandle" ∧ q.1.cls ≠ "java/lang/invoke/VarHandle") ∧ Cond.instantiable q.1.cls q.2 ∈ tables_1 ∧ Cond.privateMethod q.1 ∈ tables_1 ∧ Cond.instanceMethod q.1 ∈ tables_1
theorem lw_p0 : lw_okq (⟨"CrossedWords", "renew", "()V"⟩, 6) := ⟨⟨by decide +kernel, by decide +kernel⟩, List.mem_of_getElem? (i := 13) (by decide +kernel), List.mem_of_getElem? (i := 207) (by decide +kernel), List.mem_of_getElem? (i := 208) (by decide +kernel)⟩
theorem lw_p1 : lw_okq (⟨"CrossedWords$Slots", "readLine", "(LCrossedWords$Board;IILCrossedWords$Row;)V"⟩, 9) := ⟨⟨by decide +kernel, by decide +kernel⟩, List.mem_of_getElem? (i := 61) (by decide +kernel), List.mem_of_getElem? (i := 219) (by decide +kernel), List.mem_of_getElem? (i := 220) (by decide +kernel)⟩
theorem lw_p2 : lw_okq (⟨"CrossedWords$Slots", "addSlot", "(IIILCrossedWords$Row;)V"⟩, 9) := ⟨⟨by decide +kernel, by decide +kernel⟩, List.mem_of_getElem? (i := 61) (by decide +kernel), List.mem_of_getElem? (i := 227) (by decide +kernel), List.mem_of_getElem? (i := 228) (by decide +kernel)⟩
theorem lw_p3 : lw_okq (⟨"CrossedWords$Slots", "readCrossings", "()V"⟩, 9) := ⟨⟨by decide +kernel, by decide +kernel⟩, List.mem_of_getElem? (i := 61) (by decide +kernel), List.mem_of_getElem? (i := 235) (by decide +kernel), List.mem_of_getElem? (i := 236) (by decide +kernel)⟩
theorem lw_p4 : lw_okq (⟨"CrossedWords$Index", "readWord", "(II)V"⟩, 3) := ⟨⟨by decide +kernel, by decide +kernel⟩, List.mem_of_getElem? (i := 109) (by decide +kernel), List.mem_of_getElem? (i := 253) (by decide +kernel), List.mem_of_getElem? (i := 254) (by decide +kernel)⟩
theorem lw_p5 : lw_okq (⟨"CrossedWords$Chances", "wordsThatFit", "(ILCrossedWords$Board;)I"⟩, 4) := ⟨⟨by decide +kernel, by decide +kernel⟩, List.mem_of_getElem? (i := 131) (by decide +kernel), List.mem_of_getElem? (i := 269) (by decide +kernel), List.mem_of_getElem? (i := 270) (by decide +kernel)⟩
theorem lw_p6 : lw_okq (⟨"CrossedWords$Chances", "dropWords", "()Z"⟩, 4) := ⟨⟨by decide +kernel, by decide +kernel⟩, List.mem_of_getElem? (i := 131) (by decide +kernel), List.mem_of_getElem? (i := 280) (by decide +kernel), List.mem_of_getElem? (i := 281) (by decide +kernel)⟩
theorem lw_p7 : lw_okq (⟨"CrossedWords$Chances", "canBeCrossed", "(II)Z"⟩, 4) := ⟨⟨by decide +kernel, by decide +kernel⟩, List.mem_of_getElem? (i := 131) (by decide +kernel), List.mem_of_getElem? (i := 287) (by decide +kernel), List.mem_of_getElem? (i := 288) (by decide +kernel)⟩
theorem lw_p8 : lw_okq (⟨"CrossedWords$Past", "save", "(ILCrossedWords$Board;)V"⟩, 4) := ⟨⟨by decide +kernel, by decide +kernel⟩, List.mem_of_getElem? (i := 184) (by decide +kernel), List.mem_of_getElem? (i := 329) (by decide +kernel), List.mem_of_getElem? (i := 330) (by decide +kernel)⟩
theorem lw_p9 : lw_okq (⟨"CrossedWords", "isSlot", "(I)Z"⟩, 6) := ⟨⟨by decide +kernel, by decide +kernel⟩, List.mem_of_getElem? (i := 13) (by decide +kernel), List.mem_of_getElem? (i := 355) (by decide +kernel), List.mem_of_getElem? (i := 356) (by decide +kernel)⟩
theorem lw_p10 : lw_okq (⟨"CrossedWords", "isWord", "(I)Z"⟩, 6) := ⟨⟨by decide +kernel, by decide +kernel⟩, List.mem_of_getElem? (i := 13) (by decide +kernel), List.mem_of_getElem? (i := 359) (by decide +kernel), List.mem_of_getElem? (i := 360) (by decide +kernel)⟩
theorem lw_p11 : lw_okq (⟨"CrossedWords", "writeWord", "(II)I"⟩, 6) := ⟨⟨by decide +kernel, by decide +kernel⟩, List.mem_of_getElem? (i := 13) (by decide +kernel), List.mem_of_getElem? (i := 364) (by decide +kernel), List.mem_of_getElem? (i := 365) (by decide +kernel)⟩
theorem lw_p12 : lw_okq (⟨"CrossedWords", "appendByLots", "(II)I"⟩, 6) := ⟨⟨by decide +kernel, by decide +kernel⟩, List.mem_of_getElem? (i := 13) (by decide +kernel), List.mem_of_getElem? (i := 418) (by decide +kernel), List.mem_of_getElem? (i := 419) (by decide +kernel)⟩
theorem lw_p13 : lw_okq (⟨"CrossedWords$Past", "load", "(ILCrossedWords$Board;)V"⟩, 4) := ⟨⟨by decide +kernel, by decide +kernel⟩, List.mem_of_getElem? (i := 184) (by decide +kernel), List.mem_of_getElem? (i := 437) (by decide +kernel), List.mem_of_getElem? (i := 438) (by decide +kernel)⟩
theorem lw_p14 : lw_okq (⟨"CrossedWords", "fullSlots", "()I"⟩, 6) := ⟨⟨by decide +kernel, by decide +kernel⟩, List.mem_of_getElem? (i := 13) (by decide +kernel), List.mem_of_getElem? (i := 453) (by decide +kernel), List.mem_of_getElem? (i := 454) (by decide +kernel)⟩
theorem lw_p15 : lw_okq (⟨"CrossedWords", "wrongSlots", "()I"⟩, 6) := ⟨⟨by decide +kernel, by decide +kernel⟩, List.mem_of_getElem? (i := 13) (by decide +kernel), List.mem_of_getElem? (i := 462) (by decide +kernel), List.mem_of_getElem? (i := 463) (by decide +kernel)⟩
def lw_privs_1 : List (MethodName × Nat) := [(⟨"CrossedWords", "renew", "()V"⟩, 6), (⟨"CrossedWords$Slots", "readLine", "(LCrossedWords$Board;IILCrossedWords$Row;)V"⟩, 9), (⟨"CrossedWords$Slots", "addSlot", "(IIILCrossedWords$Row;)V"⟩, 9), (⟨"CrossedWords$Slots", "readCrossings", "()V"⟩, 9), (⟨"CrossedWords$Index", "readWord", "(II)V"⟩, 3), (⟨"CrossedWords$Chances", "wordsThatFit", "(ILCrossedWords$Board;)I"⟩, 4), (⟨"CrossedWords$Chances", "dropWords", "()Z"⟩, 4), (⟨"CrossedWords$Chances", "canBeCrossed", "(II)Z"⟩, 4), (⟨"CrossedWords$Past", "save", "(ILCrossedWords$Board;)V"⟩, 4), (⟨"CrossedWords", "isSlot", "(I)Z"⟩, 6), (⟨"CrossedWords", "isWord", "(I)Z"⟩, 6), (⟨"CrossedWords", "writeWord", "(II)I"⟩, 6), (⟨"CrossedWords", "appendByLots", "(II)I"⟩, 6), (⟨"CrossedWords$Past", "load", "(ILCrossedWords$Board;)V"⟩, 4), (⟨"CrossedWords", "fullSlots", "()I"⟩, 6), (⟨"CrossedWords", "wrongSlots", "()I"⟩, 6)]
theorem lw_r1 : ∀ q ∈ lw_privs_1, lw_okq q := List.forall_mem_cons.mpr ⟨lw_p0, List.forall_mem_cons.mpr ⟨lw_p1, List.forall_mem_cons.mpr ⟨lw_p2, List.forall_mem_cons.mpr ⟨lw_p3, List.forall_mem_cons.mpr ⟨lw_p4, List.forall_mem_cons.mpr ⟨lw_p5, List.forall_mem_cons.mpr ⟨lw_p6, List.forall_mem_cons.mpr ⟨lw_p7, List.forall_mem_cons.mpr ⟨lw_p8, List.forall_mem_cons.mpr ⟨lw_p9, List.forall_mem_cons.mpr ⟨lw_p10, List.forall_mem_cons.mpr ⟨lw_p11, List.forall_mem_cons.mpr ⟨lw_p12, List.forall_mem_cons.mpr ⟨lw_p13, List.forall_mem_cons.mpr ⟨lw_p14, List.forall_mem_cons.mpr ⟨lw_p15, fun _ h => absurd h List.not_mem_nil⟩⟩⟩⟩⟩⟩⟩⟩⟩⟩⟩⟩⟩⟩⟩⟩
theorem lw_p16 : lw_okq (⟨"CrossedWords", "firstSlotThatReads", "(I)I"⟩, 6) := ⟨⟨by decide +kernel, by decide +kernel⟩, List.mem_of_getElem? (i := 13) (by decide +kernel), List.mem_of_getElem? (i := 466) (by decide +kernel), List.mem_of_getElem? (i := 467) (by decide +kernel)⟩
theorem lw_p17 : lw_okq (⟨"CrossedWords", "hardestSlot", "()I"⟩, 6) := ⟨⟨by decide +kernel, by decide +kernel⟩, List.mem_of_getElem? (i := 13) (by decide +kernel), List.mem_of_getElem? (i := 470) (by decide +kernel), List.mem_of_getElem? (i := 471) (by decide +kernel)⟩
theorem lw_p18 : lw_okq (⟨"CrossedWords", "isHarder", "(II)Z"⟩, 6) := ⟨⟨by decide +kernel, by decide +kernel⟩, List.mem_of_getElem? (i := 13) (by decide +kernel), List.mem_of_getElem? (i := 474) (by decide +kernel), List.mem_of_getElem? (i := 475) (by decide +kernel)⟩
theorem lw_p19 : lw_okq (⟨"CrossedWords$Filler", "begin", "(ILCrossedWords$Row;)V"⟩, 6) := ⟨⟨by decide +kernel, by decide +kernel⟩, List.mem_of_getElem? (i := 156) (by decide +kernel), List.mem_of_getElem? (i := 488) (by decide +kernel), List.mem_of_getElem? (i := 489) (by decide +kernel)⟩
theorem lw_p20 : lw_okq (⟨"CrossedWords$Filler", "choose", "(II)Z"⟩, 6) := ⟨⟨by decide +kernel, by decide +kernel⟩, List.mem_of_getElem? (i := 156) (by decide +kernel), List.mem_of_getElem? (i := 498) (by decide +kernel), List.mem_of_getElem? (i := 499) (by decide +kernel)⟩
theorem lw_p21 : lw_okq (⟨"CrossedWords", "knottedSlots", "()I"⟩, 6) := ⟨⟨by decide +kernel, by decide +kernel⟩, List.mem_of_getElem? (i := 13) (by decide +kernel), List.mem_of_getElem? (i := 503) (by decide +kernel), List.mem_of_getElem? (i := 504) (by decide +kernel)⟩
theorem lw_p22 : lw_okq (⟨"CrossedWords", "emptySlots", "()I"⟩, 6) := ⟨⟨by decide +kernel, by decide +kernel⟩, List.mem_of_getElem? (i := 13) (by decide +kernel), List.mem_of_getElem? (i := 511) (by decide +kernel), List.mem_of_getElem? (i := 512) (by decide +kernel)⟩
theorem lw_p23 : lw_okq (⟨"CrossedWords", "lettersThatCanBe", "(I)I"⟩, 6) := ⟨⟨by decide +kernel, by decide +kernel⟩, List.mem_of_getElem? (i := 13) (by decide +kernel), List.mem_of_getElem? (i := 519) (by decide +kernel), List.mem_of_getElem? (i := 520) (by decide +kernel)⟩
theorem lw_p24 : lw_okq (⟨"CrossedWords", "lettersLeft", "(II)I"⟩, 6) := ⟨⟨by decide +kernel, by decide +kernel⟩, List.mem_of_getElem? (i := 13) (by decide +kernel), List.mem_of_getElem? (i := 523) (by decide +kernel), List.mem_of_getElem? (i := 524) (by decide +kernel)⟩
theorem lw_p25 : lw_okq (⟨"CrossedWords", "wordInFirstFilling", "(I)I"⟩, 6) := ⟨⟨by decide +kernel, by decide +kernel⟩, List.mem_of_getElem? (i := 13) (by decide +kernel), List.mem_of_getElem? (i := 534) (by decide +kernel), List.mem_of_getElem? (i := 535) (by decide +kernel)⟩
theorem lw_p26 : lw_okq (⟨"CrossedWordsModel", "remember", "()V"⟩, 13) := ⟨⟨by decide +kernel, by decide +kernel⟩, List.mem_of_getElem? (i := 582) (by decide +kernel), List.mem_of_getElem? (i := 638) (by decide +kernel), List.mem_of_getElem? (i := 639) (by decide +kernel)⟩
theorem lw_p27 : lw_okq (⟨"CrossedWordsModel", "changed", "()I"⟩, 13) := ⟨⟨by decide +kernel, by decide +kernel⟩, List.mem_of_getElem? (i := 582) (by decide +kernel), List.mem_of_getElem? (i := 642) (by decide +kernel), List.mem_of_getElem? (i := 643) (by decide +kernel)⟩
theorem lw_p28 : lw_okq (⟨"CrossedWordsModel", "laySlots", "()V"⟩, 13) := ⟨⟨by decide +kernel, by decide +kernel⟩, List.mem_of_getElem? (i := 582) (by decide +kernel), List.mem_of_getElem? (i := 646) (by decide +kernel), List.mem_of_getElem? (i := 647) (by decide +kernel)⟩
theorem lw_p29 : lw_okq (⟨"CrossedWordsModel", "layLine", "(II)V"⟩, 13) := ⟨⟨by decide +kernel, by decide +kernel⟩, List.mem_of_getElem? (i := 582) (by decide +kernel), List.mem_of_getElem? (i := 650) (by decide +kernel), List.mem_of_getElem? (i := 651) (by decide +kernel)⟩
theorem lw_p30 : lw_okq (⟨"CrossedWordsModel", "isSlot", "(I)Z"⟩, 13) := ⟨⟨by decide +kernel, by decide +kernel⟩, List.mem_of_getElem? (i := 582) (by decide +kernel), List.mem_of_getElem? (i := 667) (by decide +kernel), List.mem_of_getElem? (i := 668) (by decide +kernel)⟩
theorem lw_p31 : lw_okq (⟨"CrossedWordsModel", "isWord", "(I)Z"⟩, 13) := ⟨⟨by decide +kernel, by decide +kernel⟩, List.mem_of_getElem? (i := 582) (by decide +kernel), List.mem_of_getElem? (i := 671) (by decide +kernel), List.mem_of_getElem? (i := 672) (by decide +kernel)⟩
def lw_privs_2 : List (MethodName × Nat) := [(⟨"CrossedWords", "firstSlotThatReads", "(I)I"⟩, 6), (⟨"CrossedWords", "hardestSlot", "()I"⟩, 6), (⟨"CrossedWords", "isHarder", "(II)Z"⟩, 6), (⟨"CrossedWords$Filler", "begin", "(ILCrossedWords$Row;)V"⟩, 6), (⟨"CrossedWords$Filler", "choose", "(II)Z"⟩, 6), (⟨"CrossedWords", "knottedSlots", "()I"⟩, 6), (⟨"CrossedWords", "emptySlots", "()I"⟩, 6), (⟨"CrossedWords", "lettersThatCanBe", "(I)I"⟩, 6), (⟨"CrossedWords", "lettersLeft", "(II)I"⟩, 6), (⟨"CrossedWords", "wordInFirstFilling", "(I)I"⟩, 6), (⟨"CrossedWordsModel", "remember", "()V"⟩, 13), (⟨"CrossedWordsModel", "changed", "()I"⟩, 13), (⟨"CrossedWordsModel", "laySlots", "()V"⟩, 13), (⟨"CrossedWordsModel", "layLine", "(II)V"⟩, 13), (⟨"CrossedWordsModel", "isSlot", "(I)Z"⟩, 13), (⟨"CrossedWordsModel", "isWord", "(I)Z"⟩, 13)]
theorem lw_r2 : ∀ q ∈ lw_privs_2, lw_okq q := List.forall_mem_cons.mpr ⟨lw_p16, List.forall_mem_cons.mpr ⟨lw_p17, List.forall_mem_cons.mpr ⟨lw_p18, List.forall_mem_cons.mpr ⟨lw_p19, List.forall_mem_cons.mpr ⟨lw_p20, List.forall_mem_cons.mpr ⟨lw_p21, List.forall_mem_cons.mpr ⟨lw_p22, List.forall_mem_cons.mpr ⟨lw_p23, List.forall_mem_cons.mpr ⟨lw_p24, List.forall_mem_cons.mpr ⟨lw_p25, List.forall_mem_cons.mpr ⟨lw_p26, List.forall_mem_cons.mpr ⟨lw_p27, List.forall_mem_cons.mpr ⟨lw_p28, List.forall_mem_cons.mpr ⟨lw_p29, List.forall_mem_cons.mpr ⟨lw_p30, List.forall_mem_cons.mpr ⟨lw_p31, fun _ h => absurd h List.not_mem_nil⟩⟩⟩⟩⟩⟩⟩⟩⟩⟩⟩⟩⟩⟩⟩⟩
theorem lw_p32 : lw_okq (⟨"CrossedWordsModel", "codeAt", "(I)I"⟩, 13) := ⟨⟨by decide +kernel, by decide +kernel⟩, List.mem_of_getElem? (i := 582) (by decide +kernel), List.mem_of_getElem? (i := 675) (by decide +kernel), List.mem_of_getElem? (i := 676) (by decide +kernel)⟩
theorem lw_p33 : lw_okq (⟨"CrossedWordsModel", "cellOf", "(II)I"⟩, 13) := ⟨⟨by decide +kernel, by decide +kernel⟩, List.mem_of_getElem? (i := 582) (by decide +kernel), List.mem_of_getElem? (i := 682) (by decide +kernel), List.mem_of_getElem? (i := 683) (by decide +kernel)⟩
theorem lw_p34 : lw_okq (⟨"CrossedWordsModel", "findCode", "(I)I"⟩, 13) := ⟨⟨by decide +kernel, by decide +kernel⟩, List.mem_of_getElem? (i := 582) (by decide +kernel), List.mem_of_getElem? (i := 704) (by decide +kernel), List.mem_of_getElem? (i := 705) (by decide +kernel)⟩
theorem lw_p35 : lw_okq (⟨"CrossedWordsModel", "lots", "(I)I"⟩, 13) := ⟨⟨by decide +kernel, by decide +kernel⟩, List.mem_of_getElem? (i := 582) (by decide +kernel), List.mem_of_getElem? (i := 718) (by decide +kernel), List.mem_of_getElem? (i := 719) (by decide +kernel)⟩
theorem lw_p36 : lw_okq (⟨"CrossedWordsModel", "ofCells", "(I)I"⟩, 13) := ⟨⟨by decide +kernel, by decide +kernel⟩, List.mem_of_getElem? (i := 582) (by decide +kernel), List.mem_of_getElem? (i := 732) (by decide +kernel), List.mem_of_getElem? (i := 733) (by decide +kernel)⟩
theorem lw_p37 : lw_okq (⟨"CrossedWordsModel", "ofSlots", "(I)I"⟩, 13) := ⟨⟨by decide +kernel, by decide +kernel⟩, List.mem_of_getElem? (i := 582) (by decide +kernel), List.mem_of_getElem? (i := 736) (by decide +kernel), List.mem_of_getElem? (i := 737) (by decide +kernel)⟩
theorem lw_p38 : lw_okq (⟨"CrossedWordsModel", "layLeft", "()V"⟩, 13) := ⟨⟨by decide +kernel, by decide +kernel⟩, List.mem_of_getElem? (i := 582) (by decide +kernel), List.mem_of_getElem? (i := 740) (by decide +kernel), List.mem_of_getElem? (i := 741) (by decide +kernel)⟩
theorem lw_p39 : lw_okq (⟨"CrossedWordsModel", "fits", "(II)Z"⟩, 13) := ⟨⟨by decide +kernel, by decide +kernel⟩, List.mem_of_getElem? (i := 582) (by decide +kernel), List.mem_of_getElem? (i := 744) (by decide +kernel), List.mem_of_getElem? (i := 745) (by decide +kernel)⟩
theorem lw_p40 : lw_okq (⟨"CrossedWordsModel", "stays", "(II)Z"⟩, 13) := ⟨⟨by decide +kernel, by decide +kernel⟩, List.mem_of_getElem? (i := 582) (by decide +kernel), List.mem_of_getElem? (i := 751) (by decide +kernel), List.mem_of_getElem? (i := 752) (by decide +kernel)⟩
theorem lw_p41 : lw_okq (⟨"CrossedWordsModel", "common", "(II)I"⟩, 13) := ⟨⟨by decide +kernel, by decide +kernel⟩, List.mem_of_getElem? (i := 582) (by decide +kernel), List.mem_of_getElem? (i := 755) (by decide +kernel), List.mem_of_getElem? (i := 756) (by decide +kernel)⟩
theorem lw_p42 : lw_okq (⟨"CrossedWordsModel", "placeIn", "(II)I"⟩, 13) := ⟨⟨by decide +kernel, by decide +kernel⟩, List.mem_of_getElem? (i := 582) (by decide +kernel), List.mem_of_getElem? (i := 759) (by decide +kernel), List.mem_of_getElem? (i := 760) (by decide +kernel)⟩
theorem lw_p43 : lw_okq (⟨"CrossedWordsModel", "letterIn", "(III)I"⟩, 13) := ⟨⟨by decide +kernel, by decide +kernel⟩, List.mem_of_getElem? (i := 582) (by decide +kernel), List.mem_of_getElem? (i := 763) (by decide +kernel), List.mem_of_getElem? (i := 764) (by decide +kernel)⟩
theorem lw_p44 : lw_okq (⟨"CrossedWordsModel", "goesWith", "(IIII)Z"⟩, 13) := ⟨⟨by decide +kernel, by decide +kernel⟩, List.mem_of_getElem? (i := 582) (by decide +kernel), List.mem_of_getElem? (i := 767) (by decide +kernel), List.mem_of_getElem? (i := 768) (by decide +kernel)⟩
theorem lw_p45 : lw_okq (⟨"CrossedWordsModel", "crossed", "(I)I"⟩, 13) := ⟨⟨by decide +kernel, by decide +kernel⟩, List.mem_of_getElem? (i := 582) (by decide +kernel), List.mem_of_getElem? (i := 771) (by decide +kernel), List.mem_of_getElem? (i := 772) (by decide +kernel)⟩
theorem lw_p46 : lw_okq (⟨"CrossedWordsModel", "isFull", "(I)Z"⟩, 13) := ⟨⟨by decide +kernel, by decide +kernel⟩, List.mem_of_getElem? (i := 582) (by decide +kernel), List.mem_of_getElem? (i := 778) (by decide +kernel), List.mem_of_getElem? (i := 779) (by decide +kernel)⟩
theorem lw_p47 : lw_okq (⟨"CrossedWordsModel", "wrong", "()I"⟩, 13) := ⟨⟨by decide +kernel, by decide +kernel⟩, List.mem_of_getElem? (i := 582) (by decide +kernel), List.mem_of_getElem? (i := 782) (by decide +kernel), List.mem_of_getElem? (i := 783) (by decide +kernel)⟩
def lw_privs_3 : List (MethodName × Nat) := [(⟨"CrossedWordsModel", "codeAt", "(I)I"⟩, 13), (⟨"CrossedWordsModel", "cellOf", "(II)I"⟩, 13), (⟨"CrossedWordsModel", "findCode", "(I)I"⟩, 13), (⟨"CrossedWordsModel", "lots", "(I)I"⟩, 13), (⟨"CrossedWordsModel", "ofCells", "(I)I"⟩, 13), (⟨"CrossedWordsModel", "ofSlots", "(I)I"⟩, 13), (⟨"CrossedWordsModel", "layLeft", "()V"⟩, 13), (⟨"CrossedWordsModel", "fits", "(II)Z"⟩, 13), (⟨"CrossedWordsModel", "stays", "(II)Z"⟩, 13), (⟨"CrossedWordsModel", "common", "(II)I"⟩, 13), (⟨"CrossedWordsModel", "placeIn", "(II)I"⟩, 13), (⟨"CrossedWordsModel", "letterIn", "(III)I"⟩, 13), (⟨"CrossedWordsModel", "goesWith", "(IIII)Z"⟩, 13), (⟨"CrossedWordsModel", "crossed", "(I)I"⟩, 13), (⟨"CrossedWordsModel", "isFull", "(I)Z"⟩, 13), (⟨"CrossedWordsModel", "wrong", "()I"⟩, 13)]
theorem lw_r3 : ∀ q ∈ lw_privs_3, lw_okq q := List.forall_mem_cons.mpr ⟨lw_p32, List.forall_mem_cons.mpr ⟨lw_p33, List.forall_mem_cons.mpr ⟨lw_p34, List.forall_mem_cons.mpr ⟨lw_p35, List.forall_mem_cons.mpr ⟨lw_p36, List.forall_mem_cons.mpr ⟨lw_p37, List.forall_mem_cons.mpr ⟨lw_p38, List.forall_mem_cons.mpr ⟨lw_p39, List.forall_mem_cons.mpr ⟨lw_p40, List.forall_mem_cons.mpr ⟨lw_p41, List.forall_mem_cons.mpr ⟨lw_p42, List.forall_mem_cons.mpr ⟨lw_p43, List.forall_mem_cons.mpr ⟨lw_p44, List.forall_mem_cons.mpr ⟨lw_p45, List.forall_mem_cons.mpr ⟨lw_p46, List.forall_mem_cons.mpr ⟨lw_p47, fun _ h => absurd h List.not_mem_nil⟩⟩⟩⟩⟩⟩⟩⟩⟩⟩⟩⟩⟩⟩⟩⟩
theorem lw_p48 : lw_okq (⟨"CrossedWordsModel", "lettersOf", "(I)I"⟩, 13) := ⟨⟨by decide +kernel, by decide +kernel⟩, List.mem_of_getElem? (i := 582) (by decide +kernel), List.mem_of_getElem? (i := 786) (by decide +kernel), List.mem_of_getElem? (i := 787) (by decide +kernel)⟩
theorem lw_p49 : lw_okq (⟨"CrossedWordsModel", "hardest", "()I"⟩, 13) := ⟨⟨by decide +kernel, by decide +kernel⟩, List.mem_of_getElem? (i := 582) (by decide +kernel), List.mem_of_getElem? (i := 790) (by decide +kernel), List.mem_of_getElem? (i := 791) (by decide +kernel)⟩
theorem lw_p50 : lw_okq (⟨"CrossedWordsModel", "all", "()I"⟩, 13) := ⟨⟨by decide +kernel, by decide +kernel⟩, List.mem_of_getElem? (i := 582) (by decide +kernel), List.mem_of_getElem? (i := 794) (by decide +kernel), List.mem_of_getElem? (i := 795) (by decide +kernel)⟩
theorem lw_p51 : lw_okq (⟨"CrossedWordsModel", "fillings", "(IIII)I"⟩, 13) := ⟨⟨by decide +kernel, by decide +kernel⟩, List.mem_of_getElem? (i := 582) (by decide +kernel), List.mem_of_getElem? (i := 798) (by decide +kernel), List.mem_of_getElem? (i := 799) (by decide +kernel)⟩
theorem lw_p52 : lw_okq (⟨"CrossedWordsModel", "nextSlot", "(III)I"⟩, 13) := ⟨⟨by decide +kernel, by decide +kernel⟩, List.mem_of_getElem? (i := 582) (by decide +kernel), List.mem_of_getElem? (i := 802) (by decide +kernel), List.mem_of_getElem? (i := 803) (by decide +kernel)⟩
theorem lw_p53 : lw_okq (⟨"CrossedWordsModel", "goes", "(III)Z"⟩, 13) := ⟨⟨by decide +kernel, by decide +kernel⟩, List.mem_of_getElem? (i := 582) (by decide +kernel), List.mem_of_getElem? (i := 806) (by decide +kernel), List.mem_of_getElem? (i := 807) (by decide +kernel)⟩
theorem lw_p54 : lw_okq (⟨"CrossedWordsModel", "knot", "()I"⟩, 13) := ⟨⟨by decide +kernel, by decide +kernel⟩, List.mem_of_getElem? (i := 582) (by decide +kernel), List.mem_of_getElem? (i := 810) (by decide +kernel), List.mem_of_getElem? (i := 811) (by decide +kernel)⟩
theorem lw_p55 : lw_okq (⟨"CrossedWordsModel", "canBe", "(I)I"⟩, 13) := ⟨⟨by decide +kernel, by decide +kernel⟩, List.mem_of_getElem? (i := 582) (by decide +kernel), List.mem_of_getElem? (i := 818) (by decide +kernel), List.mem_of_getElem? (i := 819) (by decide +kernel)⟩
theorem lw_p56 : lw_okq (⟨"CrossedWordsModel", "fittingWords", "(I)I"⟩, 13) := ⟨⟨by decide +kernel, by decide +kernel⟩, List.mem_of_getElem? (i := 582) (by decide +kernel), List.mem_of_getElem? (i := 826) (by decide +kernel), List.mem_of_getElem? (i := 827) (by decide +kernel)⟩
theorem lw_p57 : lw_okq (⟨"CrossedWordsModel", "ofWord", "(II)I"⟩, 13) := ⟨⟨by decide +kernel, by decide +kernel⟩, List.mem_of_getElem? (i := 582) (by decide +kernel), List.mem_of_getElem? (i := 834) (by decide +kernel), List.mem_of_getElem? (i := 835) (by decide +kernel)⟩
def lw_privs_4 : List (MethodName × Nat) := [(⟨"CrossedWordsModel", "lettersOf", "(I)I"⟩, 13), (⟨"CrossedWordsModel", "hardest", "()I"⟩, 13), (⟨"CrossedWordsModel", "all", "()I"⟩, 13), (⟨"CrossedWordsModel", "fillings", "(IIII)I"⟩, 13), (⟨"CrossedWordsModel", "nextSlot", "(III)I"⟩, 13), (⟨"CrossedWordsModel", "goes", "(III)Z"⟩, 13), (⟨"CrossedWordsModel", "knot", "()I"⟩, 13), (⟨"CrossedWordsModel", "canBe", "(I)I"⟩, 13), (⟨"CrossedWordsModel", "fittingWords", "(I)I"⟩, 13), (⟨"CrossedWordsModel", "ofWord", "(II)I"⟩, 13)]
theorem lw_r4 : ∀ q ∈ lw_privs_4, lw_okq q := List.forall_mem_cons.mpr ⟨lw_p48, List.forall_mem_cons.mpr ⟨lw_p49, List.forall_mem_cons.mpr ⟨lw_p50, List.forall_mem_cons.mpr ⟨lw_p51, List.forall_mem_cons.mpr ⟨lw_p52, List.forall_mem_cons.mpr ⟨lw_p53, List.forall_mem_cons.mpr ⟨lw_p54, List.forall_mem_cons.mpr ⟨lw_p55, List.forall_mem_cons.mpr ⟨lw_p56, List.forall_mem_cons.mpr ⟨lw_p57, fun _ h => absurd h List.not_mem_nil⟩⟩⟩⟩⟩⟩⟩⟩⟩⟩
def lw_privs : List (MethodName × Nat) := lw_privs_1 ++ (lw_privs_2 ++ (lw_privs_3 ++ (lw_privs_4)))
def lw_tbl : List Cond := k2_sels lw_privs ++ tables_1
theorem lw_privs_ok : ∀ q ∈ lw_privs, lw_okq q := by
  show ∀ q ∈ lw_privs_1 ++ (lw_privs_2 ++ (lw_privs_3 ++ (lw_privs_4))), lw_okq q
  exact List.forall_mem_append.mpr ⟨lw_r1, List.forall_mem_append.mpr ⟨lw_r2, List.forall_mem_append.mpr ⟨lw_r3, lw_r4⟩⟩⟩
-- ===== end of PART A; then your names; then what follows =====
/-! ===== BEGIN words of one list among another's, by their places ===== -/
theorem goodIn_r {big : List Cond} (ws : List Cond) (ps : List Nat) (hp : ws = ps.filterMap (fun i => big[i]?)) (h : ws.all goodWord = true) : GoodIn big ws := by
  intro w hw
  have h1 := List.all_eq_true.mp h w hw
  rw [hp] at hw
  obtain ⟨i, -, hi⟩ := List.mem_filterMap.mp hw
  have hm : w ∈ big := by first | exact List.mem_of_getElem? hi | exact List.getElem?_mem hi
  exact ⟨hm, good_of_word h1⟩
theorem goodIn_app {big a b : List Cond} (ha : GoodIn big a) (hb : GoodIn big b) : GoodIn big (a ++ b) := fun w h => (List.mem_append.mp h).elim (ha w) (hb w)
theorem goodIn_ca {big a b : List Cond} {c : Cond} (ha : GoodIn big (c :: a)) (hb : GoodIn big b) : GoodIn big (c :: (a ++ b)) := fun w h => (List.mem_cons.mp h).elim (fun e => ha w (List.mem_cons.mpr (Or.inl e))) (fun h => (List.mem_append.mp h).elim (fun h => ha w (List.mem_cons.mpr (Or.inr h))) (hb w))
theorem goodIn_sub {big ws : List Cond} (hm : ∀ w ∈ ws, w ∈ big) (h : ws.all goodWord = true) : GoodIn big ws := fun w hw => ⟨hm w hw, good_of_word (List.all_eq_true.mp h w hw)⟩
/-! ===== END ===== -/

/-! ===== BEGIN printed: names, fields, word lists, decode rows ===== -/
def RX0 : String := "CrossedWords$Board"
def TX0 : u_T := fun k => match k with
  | 0 => ("CrossedWords$Board", "cells", "LCrossedWords$Row;", true)
  | 1 => ("CrossedWords$Board", "codes", "LCrossedWords$Row;", true)
  | _ => ("CrossedWords$Board", "words", "I", false)
def tyX0 : Nat → FieldType := fun k => match k with
  | 0 => .object "CrossedWords$Row"
  | 1 => .object "CrossedWords$Row"
  | _ => .int
theorem nmX0 : ∀ a, a < 3 → ∀ b, b < 3 → a ≠ b → (TX0 a).2.1 ≠ (TX0 b).2.1 := by decide +kernel
theorem tyX0_ok : ∀ k, k < 3 → parseFieldDescriptor (TX0 k).2.2.1 = some (tyX0 k) := by decide +kernel
abbrev cX0_init : ByteArray := prog_2_method_1_code
def yX0_init : MethodName := ⟨RX0, "<init>", "()V"⟩
abbrev cX0_numberOf : ByteArray := prog_2_method_2_code
def yX0_numberOf : MethodName := ⟨RX0, "numberOf", "(I)I"⟩
abbrev cX0_append : ByteArray := prog_2_method_3_code
def yX0_append : MethodName := ⟨RX0, "append", "(I)V"⟩
abbrev cX0_takeOut : ByteArray := prog_2_method_4_code
def yX0_takeOut : MethodName := ⟨RX0, "takeOut", "(I)V"⟩
abbrev cX0_blockedCells : ByteArray := prog_2_method_5_code
def yX0_blockedCells : MethodName := ⟨RX0, "blockedCells", "()I"⟩
abbrev cX0_letteredCells : ByteArray := prog_2_method_6_code
def yX0_letteredCells : MethodName := ⟨RX0, "letteredCells", "()I"⟩
abbrev cX0_clearLetters : ByteArray := prog_2_method_7_code
def yX0_clearLetters : MethodName := ⟨RX0, "clearLetters", "()I"⟩
abbrev cX0_swapRowsAndColumns : ByteArray := prog_2_method_8_code
def yX0_swapRowsAndColumns : MethodName := ⟨RX0, "swapRowsAndColumns", "()V"⟩
def RX1 : String := "CrossedWords$Chances"
def TX1 : u_T := fun k => match k with
  | 0 => ("CrossedWords$Chances", "slots", "LCrossedWords$Slots;", true)
  | 1 => ("CrossedWords$Chances", "index", "LCrossedWords$Index;", true)
  | 2 => ("CrossedWords$Chances", "fitting", "LCrossedWords$Row;", true)
  | _ => ("CrossedWords$Chances", "left", "LCrossedWords$Row;", true)
def tyX1 : Nat → FieldType := fun k => match k with
  | 0 => .object "CrossedWords$Slots"
  | 1 => .object "CrossedWords$Index"
  | 2 => .object "CrossedWords$Row"
  | _ => .object "CrossedWords$Row"
theorem nmX1 : ∀ a, a < 4 → ∀ b, b < 4 → a ≠ b → (TX1 a).2.1 ≠ (TX1 b).2.1 := by decide +kernel
theorem tyX1_ok : ∀ k, k < 4 → parseFieldDescriptor (TX1 k).2.2.1 = some (tyX1 k) := by decide +kernel
abbrev cX1_init : ByteArray := prog_3_method_1_code
def yX1_init : MethodName := ⟨RX1, "<init>", "(LCrossedWords$Slots;LCrossedWords$Index;)V"⟩
abbrev cX1_read : ByteArray := prog_3_method_2_code
def yX1_read : MethodName := ⟨RX1, "read", "(LCrossedWords$Board;)V"⟩
abbrev cX1_wordsThatFit : ByteArray := prog_3_method_3_code
def yX1_wordsThatFit : MethodName := ⟨RX1, "wordsThatFit", "(ILCrossedWords$Board;)I"⟩
abbrev cX1_dropWords : ByteArray := prog_3_method_4_code
def yX1_dropWords : MethodName := ⟨RX1, "dropWords", "()Z"⟩
abbrev cX1_canBeCrossed : ByteArray := prog_3_method_5_code
def yX1_canBeCrossed : MethodName := ⟨RX1, "canBeCrossed", "(II)Z"⟩
abbrev cX1_besides : ByteArray := prog_3_method_6_code
def yX1_besides : MethodName := ⟨RX1, "besides", "(III)I"⟩
abbrev cX1_slotsWith : ByteArray := prog_3_method_7_code
def yX1_slotsWith : MethodName := ⟨RX1, "slotsWith", "(ILCrossedWords$Row;)I"⟩
def RX2 : String := "CrossedWords$Filler"
def TX2 : u_T := fun k => match k with
  | 0 => ("CrossedWords$Filler", "slots", "LCrossedWords$Slots;", true)
  | 1 => ("CrossedWords$Filler", "chances", "LCrossedWords$Chances;", true)
  | 2 => ("CrossedWords$Filler", "order", "LCrossedWords$Row;", true)
  | 3 => ("CrossedWords$Filler", "many", "I", false)
  | 4 => ("CrossedWords$Filler", "choices", "LCrossedWords$Row;", true)
  | _ => ("CrossedWords$Filler", "chosen", "LCrossedWords$Row;", true)
def tyX2 : Nat → FieldType := fun k => match k with
  | 0 => .object "CrossedWords$Slots"
  | 1 => .object "CrossedWords$Chances"
  | 2 => .object "CrossedWords$Row"
  | 3 => .int
  | 4 => .object "CrossedWords$Row"
  | _ => .object "CrossedWords$Row"
theorem nmX2 : ∀ a, a < 6 → ∀ b, b < 6 → a ≠ b → (TX2 a).2.1 ≠ (TX2 b).2.1 := by decide +kernel
theorem tyX2_ok : ∀ k, k < 6 → parseFieldDescriptor (TX2 k).2.2.1 = some (tyX2 k) := by decide +kernel
abbrev cX2_init : ByteArray := prog_4_method_1_code
def yX2_init : MethodName := ⟨RX2, "<init>", "(LCrossedWords$Slots;LCrossedWords$Chances;)V"⟩
abbrev cX2_fillings : ByteArray := prog_4_method_2_code
def yX2_fillings : MethodName := ⟨RX2, "fillings", "(I)I"⟩
abbrev cX2_fillingsWith : ByteArray := prog_4_method_3_code
def yX2_fillingsWith : MethodName := ⟨RX2, "fillingsWith", "(III)I"⟩
abbrev cX2_canFill : ByteArray := prog_4_method_4_code
def yX2_canFill : MethodName := ⟨RX2, "canFill", "(I)Z"⟩
abbrev cX2_begin : ByteArray := prog_4_method_5_code
def yX2_begin : MethodName := ⟨RX2, "begin", "(ILCrossedWords$Row;)V"⟩
abbrev cX2_ways : ByteArray := prog_4_method_6_code
def yX2_ways : MethodName := ⟨RX2, "ways", "(LCrossedWords$Filler;II)I"⟩
abbrev cX2_choose : ByteArray := prog_4_method_7_code
def yX2_choose : MethodName := ⟨RX2, "choose", "(II)Z"⟩
def RX3 : String := "CrossedWords$Index"
def TX3 : u_T := fun k => match k with
  | 0 => ("CrossedWords$Index", "sized", "LCrossedWords$Row;", true)
  | 1 => ("CrossedWords$Index", "having", "LCrossedWords$Row;", true)
  | _ => ("CrossedWords$Index", "letters", "LCrossedWords$Row;", true)
def tyX3 : Nat → FieldType := fun k => match k with
  | 0 => .object "CrossedWords$Row"
  | 1 => .object "CrossedWords$Row"
  | _ => .object "CrossedWords$Row"
theorem nmX3 : ∀ a, a < 3 → ∀ b, b < 3 → a ≠ b → (TX3 a).2.1 ≠ (TX3 b).2.1 := by decide +kernel
theorem tyX3_ok : ∀ k, k < 3 → parseFieldDescriptor (TX3 k).2.2.1 = some (tyX3 k) := by decide +kernel
abbrev cX3_init : ByteArray := prog_5_method_1_code
def yX3_init : MethodName := ⟨RX3, "<init>", "()V"⟩
abbrev cX3_read : ByteArray := prog_5_method_2_code
def yX3_read : MethodName := ⟨RX3, "read", "(LCrossedWords$Board;)V"⟩
abbrev cX3_readWord : ByteArray := prog_5_method_3_code
def yX3_readWord : MethodName := ⟨RX3, "readWord", "(II)V"⟩
abbrev cX3_letterOf : ByteArray := prog_5_method_4_code
def yX3_letterOf : MethodName := ⟨RX3, "letterOf", "(II)I"⟩
abbrev cX3_wordsHaving : ByteArray := prog_5_method_5_code
def yX3_wordsHaving : MethodName := ⟨RX3, "wordsHaving", "(II)I"⟩
def RX4 : String := "CrossedWords$Past"
def TX4 : u_T := fun k => match k with
  | 0 => ("CrossedWords$Past", "boards", "LCrossedWords$Row;", true)
  | 1 => ("CrossedWords$Past", "next", "I", false)
  | 2 => ("CrossedWords$Past", "depth", "I", false)
  | _ => ("CrossedWords$Past", "images", "I", false)
def tyX4 : Nat → FieldType := fun k => match k with
  | 0 => .object "CrossedWords$Row"
  | 1 => .int
  | 2 => .int
  | _ => .int
theorem nmX4 : ∀ a, a < 4 → ∀ b, b < 4 → a ≠ b → (TX4 a).2.1 ≠ (TX4 b).2.1 := by decide +kernel
theorem tyX4_ok : ∀ k, k < 4 → parseFieldDescriptor (TX4 k).2.2.1 = some (tyX4 k) := by decide +kernel
abbrev cX4_init : ByteArray := prog_6_method_1_code
def yX4_init : MethodName := ⟨RX4, "<init>", "()V"⟩
abbrev cX4_note : ByteArray := prog_6_method_2_code
def yX4_note : MethodName := ⟨RX4, "note", "(LCrossedWords$Board;)V"⟩
abbrev cX4_stepBack : ByteArray := prog_6_method_3_code
def yX4_stepBack : MethodName := ⟨RX4, "stepBack", "(LCrossedWords$Board;)V"⟩
abbrev cX4_keepImage : ByteArray := prog_6_method_4_code
def yX4_keepImage : MethodName := ⟨RX4, "keepImage", "(ILCrossedWords$Board;)V"⟩
abbrev cX4_bringImage : ByteArray := prog_6_method_5_code
def yX4_bringImage : MethodName := ⟨RX4, "bringImage", "(ILCrossedWords$Board;)V"⟩
abbrev cX4_save : ByteArray := prog_6_method_6_code
def yX4_save : MethodName := ⟨RX4, "save", "(ILCrossedWords$Board;)V"⟩
abbrev cX4_load : ByteArray := prog_6_method_7_code
def yX4_load : MethodName := ⟨RX4, "load", "(ILCrossedWords$Board;)V"⟩
def RX5 : String := "CrossedWords$Row"
def TX5 : u_T := fun k => match k with
  | _ => ("CrossedWords$Row", "items", "[I", true)
def tyX5 : Nat → FieldType := fun k => match k with
  | _ => .array .int
theorem nmX5 : ∀ a, a < 1 → ∀ b, b < 1 → a ≠ b → (TX5 a).2.1 ≠ (TX5 b).2.1 := by decide +kernel
theorem tyX5_ok : ∀ k, k < 1 → parseFieldDescriptor (TX5 k).2.2.1 = some (tyX5 k) := by decide +kernel
abbrev cX5_init : ByteArray := prog_7_method_1_code
def yX5_init : MethodName := ⟨RX5, "<init>", "(I)V"⟩
abbrev cX5_get : ByteArray := prog_7_method_2_code
def yX5_get : MethodName := ⟨RX5, "get", "(I)I"⟩
abbrev cX5_set : ByteArray := prog_7_method_3_code
def yX5_set : MethodName := ⟨RX5, "set", "(II)V"⟩
abbrev cX5_fill : ByteArray := prog_7_method_4_code
def yX5_fill : MethodName := ⟨RX5, "fill", "(I)V"⟩
def RX6 : String := "CrossedWords$Slots"
def TX6 : u_T := fun k => match k with
  | 0 => ("CrossedWords$Slots", "first", "LCrossedWords$Row;", true)
  | 1 => ("CrossedWords$Slots", "size", "LCrossedWords$Row;", true)
  | 2 => ("CrossedWords$Slots", "crossed", "LCrossedWords$Row;", true)
  | 3 => ("CrossedWords$Slots", "meeting", "LCrossedWords$Row;", true)
  | 4 => ("CrossedWords$Slots", "across", "LCrossedWords$Row;", true)
  | 5 => ("CrossedWords$Slots", "down", "LCrossedWords$Row;", true)
  | 6 => ("CrossedWords$Slots", "count", "I", false)
  | 7 => ("CrossedWords$Slots", "countAcross", "I", false)
  | _ => ("CrossedWords$Slots", "crossings", "I", false)
def tyX6 : Nat → FieldType := fun k => match k with
  | 0 => .object "CrossedWords$Row"
  | 1 => .object "CrossedWords$Row"
  | 2 => .object "CrossedWords$Row"
  | 3 => .object "CrossedWords$Row"
  | 4 => .object "CrossedWords$Row"
  | 5 => .object "CrossedWords$Row"
  | 6 => .int
  | 7 => .int
  | _ => .int
theorem nmX6 : ∀ a, a < 9 → ∀ b, b < 9 → a ≠ b → (TX6 a).2.1 ≠ (TX6 b).2.1 := by decide +kernel
theorem tyX6_ok : ∀ k, k < 9 → parseFieldDescriptor (TX6 k).2.2.1 = some (tyX6 k) := by decide +kernel
abbrev cX6_init : ByteArray := prog_8_method_1_code
def yX6_init : MethodName := ⟨RX6, "<init>", "()V"⟩
abbrev cX6_read : ByteArray := prog_8_method_2_code
def yX6_read : MethodName := ⟨RX6, "read", "(LCrossedWords$Board;)V"⟩
abbrev cX6_readLine : ByteArray := prog_8_method_3_code
def yX6_readLine : MethodName := ⟨RX6, "readLine", "(LCrossedWords$Board;IILCrossedWords$Row;)V"⟩
abbrev cX6_addSlot : ByteArray := prog_8_method_4_code
def yX6_addSlot : MethodName := ⟨RX6, "addSlot", "(IIILCrossedWords$Row;)V"⟩
abbrev cX6_readCrossings : ByteArray := prog_8_method_5_code
def yX6_readCrossings : MethodName := ⟨RX6, "readCrossings", "()V"⟩
abbrev cX6_isDown : ByteArray := prog_8_method_6_code
def yX6_isDown : MethodName := ⟨RX6, "isDown", "(I)Z"⟩
abbrev cX6_cellAt : ByteArray := prog_8_method_7_code
def yX6_cellAt : MethodName := ⟨RX6, "cellAt", "(II)I"⟩
abbrev cX6_placeOf : ByteArray := prog_8_method_8_code
def yX6_placeOf : MethodName := ⟨RX6, "placeOf", "(II)I"⟩
abbrev cX6_codeIn : ByteArray := prog_8_method_9_code
def yX6_codeIn : MethodName := ⟨RX6, "codeIn", "(ILCrossedWords$Board;)I"⟩
def RX7 : String := "CrossedWords"
def TX7 : u_T := fun k => match k with
  | 0 => ("CrossedWords", "board", "LCrossedWords$Board;", true)
  | 1 => ("CrossedWords", "slots", "LCrossedWords$Slots;", true)
  | 2 => ("CrossedWords", "index", "LCrossedWords$Index;", true)
  | 3 => ("CrossedWords", "chances", "LCrossedWords$Chances;", true)
  | 4 => ("CrossedWords", "filler", "LCrossedWords$Filler;", true)
  | _ => ("CrossedWords", "past", "LCrossedWords$Past;", true)
def tyX7 : Nat → FieldType := fun k => match k with
  | 0 => .object "CrossedWords$Board"
  | 1 => .object "CrossedWords$Slots"
  | 2 => .object "CrossedWords$Index"
  | 3 => .object "CrossedWords$Chances"
  | 4 => .object "CrossedWords$Filler"
  | _ => .object "CrossedWords$Past"
theorem nmX7 : ∀ a, a < 6 → ∀ b, b < 6 → a ≠ b → (TX7 a).2.1 ≠ (TX7 b).2.1 := by decide +kernel
theorem tyX7_ok : ∀ k, k < 6 → parseFieldDescriptor (TX7 k).2.2.1 = some (tyX7 k) := by decide +kernel
abbrev cX7_init : ByteArray := prog_1_method_1_code
def yX7_init : MethodName := ⟨RX7, "<init>", "()V"⟩
abbrev cX7_block : ByteArray := prog_1_method_2_code
def yX7_block : MethodName := ⟨RX7, "block", "(I)I"⟩
abbrev cX7_open : ByteArray := prog_1_method_3_code
def yX7_open : MethodName := ⟨RX7, "open", "(I)I"⟩
abbrev cX7_letter : ByteArray := prog_1_method_4_code
def yX7_letter : MethodName := ⟨RX7, "letter", "(II)I"⟩
abbrev cX7_put : ByteArray := prog_1_method_5_code
def yX7_put : MethodName := ⟨RX7, "put", "(II)I"⟩
abbrev cX7_wipe : ByteArray := prog_1_method_6_code
def yX7_wipe : MethodName := ⟨RX7, "wipe", "()I"⟩
abbrev cX7_turn : ByteArray := prog_1_method_7_code
def yX7_turn : MethodName := ⟨RX7, "turn", "()I"⟩
abbrev cX7_add : ByteArray := prog_1_method_8_code
def yX7_add : MethodName := ⟨RX7, "add", "(I)I"⟩
abbrev cX7_strike : ByteArray := prog_1_method_9_code
def yX7_strike : MethodName := ⟨RX7, "strike", "(I)I"⟩
abbrev cX7_drift : ByteArray := prog_1_method_10_code
def yX7_drift : MethodName := ⟨RX7, "drift", "(II)I"⟩
abbrev cX7_undo : ByteArray := prog_1_method_11_code
def yX7_undo : MethodName := ⟨RX7, "undo", "()I"⟩
abbrev cX7_told : ByteArray := prog_1_method_12_code
def yX7_told : MethodName := ⟨RX7, "told", "(I)I"⟩
abbrev cX7_cell : ByteArray := prog_1_method_13_code
def yX7_cell : MethodName := ⟨RX7, "cell", "(II)I"⟩
abbrev cX7_slot : ByteArray := prog_1_method_14_code
def yX7_slot : MethodName := ⟨RX7, "slot", "(II)I"⟩
abbrev cX7_word : ByteArray := prog_1_method_15_code
def yX7_word : MethodName := ⟨RX7, "word", "(II)I"⟩
abbrev cX7_find : ByteArray := prog_1_method_16_code
def yX7_find : MethodName := ⟨RX7, "find", "(I)I"⟩
abbrev cX7_odds : ByteArray := prog_1_method_17_code
def yX7_odds : MethodName := ⟨RX7, "odds", "(IIII)I"⟩
abbrev cX7_with : ByteArray := prog_1_method_18_code
def yX7_with : MethodName := ⟨RX7, "with", "(II)I"⟩
abbrev cX7_keep : ByteArray := prog_1_method_19_code
def yX7_keep : MethodName := ⟨RX7, "keep", "(I)I"⟩
abbrev cX7_goBack : ByteArray := prog_1_method_20_code
def yX7_goBack : MethodName := ⟨RX7, "goBack", "(I)I"⟩
abbrev cX7_isCell : ByteArray := prog_1_method_21_code
def yX7_isCell : MethodName := ⟨RX7, "isCell", "(I)Z"⟩
abbrev cX7_isLetter : ByteArray := prog_1_method_22_code
def yX7_isLetter : MethodName := ⟨RX7, "isLetter", "(I)Z"⟩
abbrev cX7_isImage : ByteArray := prog_1_method_23_code
def yX7_isImage : MethodName := ⟨RX7, "isImage", "(I)Z"⟩
abbrev cX7_isSlot : ByteArray := prog_1_method_24_code
def yX7_isSlot : MethodName := ⟨RX7, "isSlot", "(I)Z"⟩
abbrev cX7_isWord : ByteArray := prog_1_method_25_code
def yX7_isWord : MethodName := ⟨RX7, "isWord", "(I)Z"⟩
abbrev cX7_contains : ByteArray := prog_1_method_26_code
def yX7_contains : MethodName := ⟨RX7, "contains", "(II)Z"⟩
abbrev cX7_lengthOf : ByteArray := prog_1_method_27_code
def yX7_lengthOf : MethodName := ⟨RX7, "lengthOf", "(I)I"⟩
abbrev cX7_renew : ByteArray := prog_1_method_28_code
def yX7_renew : MethodName := ⟨RX7, "renew", "()V"⟩
abbrev cX7_writeWord : ByteArray := prog_1_method_29_code
def yX7_writeWord : MethodName := ⟨RX7, "writeWord", "(II)I"⟩
abbrev cX7_appendByLots : ByteArray := prog_1_method_30_code
def yX7_appendByLots : MethodName := ⟨RX7, "appendByLots", "(II)I"⟩
abbrev cX7_nextLot : ByteArray := prog_1_method_31_code
def yX7_nextLot : MethodName := ⟨RX7, "nextLot", "(J)J"⟩
abbrev cX7_fullSlots : ByteArray := prog_1_method_32_code
def yX7_fullSlots : MethodName := ⟨RX7, "fullSlots", "()I"⟩
abbrev cX7_wrongSlots : ByteArray := prog_1_method_33_code
def yX7_wrongSlots : MethodName := ⟨RX7, "wrongSlots", "()I"⟩
abbrev cX7_firstSlotThatReads : ByteArray := prog_1_method_34_code
def yX7_firstSlotThatReads : MethodName := ⟨RX7, "firstSlotThatReads", "(I)I"⟩
abbrev cX7_hardestSlot : ByteArray := prog_1_method_35_code
def yX7_hardestSlot : MethodName := ⟨RX7, "hardestSlot", "()I"⟩
abbrev cX7_isHarder : ByteArray := prog_1_method_36_code
def yX7_isHarder : MethodName := ⟨RX7, "isHarder", "(II)Z"⟩
abbrev cX7_knottedSlots : ByteArray := prog_1_method_37_code
def yX7_knottedSlots : MethodName := ⟨RX7, "knottedSlots", "()I"⟩
abbrev cX7_emptySlots : ByteArray := prog_1_method_38_code
def yX7_emptySlots : MethodName := ⟨RX7, "emptySlots", "()I"⟩
abbrev cX7_wordInFirstFilling : ByteArray := prog_1_method_39_code
def yX7_wordInFirstFilling : MethodName := ⟨RX7, "wordInFirstFilling", "(I)I"⟩
abbrev cX7_lettersThatCanBe : ByteArray := prog_1_method_40_code
def yX7_lettersThatCanBe : MethodName := ⟨RX7, "lettersThatCanBe", "(I)I"⟩
abbrev cX7_lettersLeft : ByteArray := prog_1_method_41_code
def yX7_lettersLeft : MethodName := ⟨RX7, "lettersLeft", "(II)I"⟩
def RX8 : String := "CrossedWordsModel"
def TX8 : u_T := fun k => match k with
  | 0 => ("CrossedWordsModel", "now", "[I", true)
  | 1 => ("CrossedWordsModel", "undoMany", "I", false)
  | 2 => ("CrossedWordsModel", "undoAt", "I", false)
  | 3 => ("CrossedWordsModel", "undos", "[I", true)
  | 4 => ("CrossedWordsModel", "isKept", "[Z", true)
  | 5 => ("CrossedWordsModel", "kept", "[I", true)
  | 6 => ("CrossedWordsModel", "slotMany", "I", false)
  | 7 => ("CrossedWordsModel", "first", "[I", true)
  | 8 => ("CrossedWordsModel", "size", "[I", true)
  | 9 => ("CrossedWordsModel", "step", "[I", true)
  | 10 => ("CrossedWordsModel", "lot", "J", false)
  | 11 => ("CrossedWordsModel", "left", "[I", true)
  | _ => ("CrossedWordsModel", "chosen", "[I", true)
def tyX8 : Nat → FieldType := fun k => match k with
  | 0 => .array .int
  | 1 => .int
  | 2 => .int
  | 3 => .array .int
  | 4 => .array .boolean
  | 5 => .array .int
  | 6 => .int
  | 7 => .array .int
  | 8 => .array .int
  | 9 => .array .int
  | 10 => .long
  | 11 => .array .int
  | _ => .array .int
theorem nmX8 : ∀ a, a < 13 → ∀ b, b < 13 → a ≠ b → (TX8 a).2.1 ≠ (TX8 b).2.1 := by decide +kernel
theorem tyX8_ok : ∀ k, k < 13 → parseFieldDescriptor (TX8 k).2.2.1 = some (tyX8 k) := by decide +kernel
abbrev cX8_init : ByteArray := prog_10_method_1_code
def yX8_init : MethodName := ⟨RX8, "<init>", "()V"⟩
abbrev cX8_in : ByteArray := prog_10_method_2_code
def yX8_in : MethodName := ⟨RX8, "in", "(III)Z"⟩
abbrev cX8_has : ByteArray := prog_10_method_3_code
def yX8_has : MethodName := ⟨RX8, "has", "(II)Z"⟩
abbrev cX8_bits : ByteArray := prog_10_method_4_code
def yX8_bits : MethodName := ⟨RX8, "bits", "(I)I"⟩
abbrev cX8_remember : ByteArray := prog_10_method_5_code
def yX8_remember : MethodName := ⟨RX8, "remember", "()V"⟩
abbrev cX8_layLine : ByteArray := prog_10_method_6_code
def yX8_layLine : MethodName := ⟨RX8, "layLine", "(II)V"⟩
abbrev cX8_laySlots : ByteArray := prog_10_method_7_code
def yX8_laySlots : MethodName := ⟨RX8, "laySlots", "()V"⟩
abbrev cX8_cellOf : ByteArray := prog_10_method_8_code
def yX8_cellOf : MethodName := ⟨RX8, "cellOf", "(II)I"⟩
abbrev cX8_placeIn : ByteArray := prog_10_method_9_code
def yX8_placeIn : MethodName := ⟨RX8, "placeIn", "(II)I"⟩
abbrev cX8_common : ByteArray := prog_10_method_10_code
def yX8_common : MethodName := ⟨RX8, "common", "(II)I"⟩
abbrev cX8_crossed : ByteArray := prog_10_method_11_code
def yX8_crossed : MethodName := ⟨RX8, "crossed", "(I)I"⟩
abbrev cX8_isSlot : ByteArray := prog_10_method_12_code
def yX8_isSlot : MethodName := ⟨RX8, "isSlot", "(I)Z"⟩
abbrev cX8_isWord : ByteArray := prog_10_method_13_code
def yX8_isWord : MethodName := ⟨RX8, "isWord", "(I)Z"⟩
abbrev cX8_lengthOf : ByteArray := prog_10_method_14_code
def yX8_lengthOf : MethodName := ⟨RX8, "lengthOf", "(I)I"⟩
abbrev cX8_letterOf : ByteArray := prog_10_method_15_code
def yX8_letterOf : MethodName := ⟨RX8, "letterOf", "(II)I"⟩
abbrev cX8_isCode : ByteArray := prog_10_method_16_code
def yX8_isCode : MethodName := ⟨RX8, "isCode", "(I)Z"⟩
abbrev cX8_codeAt : ByteArray := prog_10_method_17_code
def yX8_codeAt : MethodName := ⟨RX8, "codeAt", "(I)I"⟩
abbrev cX8_findCode : ByteArray := prog_10_method_18_code
def yX8_findCode : MethodName := ⟨RX8, "findCode", "(I)I"⟩
abbrev cX8_fits : ByteArray := prog_10_method_19_code
def yX8_fits : MethodName := ⟨RX8, "fits", "(II)Z"⟩
abbrev cX8_letterIn : ByteArray := prog_10_method_20_code
def yX8_letterIn : MethodName := ⟨RX8, "letterIn", "(III)I"⟩
abbrev cX8_isFull : ByteArray := prog_10_method_21_code
def yX8_isFull : MethodName := ⟨RX8, "isFull", "(I)Z"⟩
abbrev cX8_lettersOf : ByteArray := prog_10_method_22_code
def yX8_lettersOf : MethodName := ⟨RX8, "lettersOf", "(I)I"⟩
abbrev cX8_changed : ByteArray := prog_10_method_23_code
def yX8_changed : MethodName := ⟨RX8, "changed", "()I"⟩
abbrev cX8_block : ByteArray := prog_10_method_24_code
def yX8_block : MethodName := ⟨RX8, "block", "(I)I"⟩
abbrev cX8_open : ByteArray := prog_10_method_25_code
def yX8_open : MethodName := ⟨RX8, "open", "(I)I"⟩
abbrev cX8_letter : ByteArray := prog_10_method_26_code
def yX8_letter : MethodName := ⟨RX8, "letter", "(II)I"⟩
abbrev cX8_put : ByteArray := prog_10_method_27_code
def yX8_put : MethodName := ⟨RX8, "put", "(II)I"⟩
abbrev cX8_wipe : ByteArray := prog_10_method_28_code
def yX8_wipe : MethodName := ⟨RX8, "wipe", "()I"⟩
abbrev cX8_turn : ByteArray := prog_10_method_29_code
def yX8_turn : MethodName := ⟨RX8, "turn", "()I"⟩
abbrev cX8_add : ByteArray := prog_10_method_30_code
def yX8_add : MethodName := ⟨RX8, "add", "(I)I"⟩
abbrev cX8_strike : ByteArray := prog_10_method_31_code
def yX8_strike : MethodName := ⟨RX8, "strike", "(I)I"⟩
abbrev cX8_lots : ByteArray := prog_10_method_32_code
def yX8_lots : MethodName := ⟨RX8, "lots", "(I)I"⟩
abbrev cX8_drift : ByteArray := prog_10_method_33_code
def yX8_drift : MethodName := ⟨RX8, "drift", "(II)I"⟩
abbrev cX8_undo : ByteArray := prog_10_method_34_code
def yX8_undo : MethodName := ⟨RX8, "undo", "()I"⟩
abbrev cX8_goesWith : ByteArray := prog_10_method_35_code
def yX8_goesWith : MethodName := ⟨RX8, "goesWith", "(IIII)Z"⟩
abbrev cX8_stays : ByteArray := prog_10_method_36_code
def yX8_stays : MethodName := ⟨RX8, "stays", "(II)Z"⟩
abbrev cX8_layLeft : ByteArray := prog_10_method_37_code
def yX8_layLeft : MethodName := ⟨RX8, "layLeft", "()V"⟩
abbrev cX8_canBe : ByteArray := prog_10_method_38_code
def yX8_canBe : MethodName := ⟨RX8, "canBe", "(I)I"⟩
abbrev cX8_hardest : ByteArray := prog_10_method_39_code
def yX8_hardest : MethodName := ⟨RX8, "hardest", "()I"⟩
abbrev cX8_goes : ByteArray := prog_10_method_40_code
def yX8_goes : MethodName := ⟨RX8, "goes", "(III)Z"⟩
abbrev cX8_nextSlot : ByteArray := prog_10_method_41_code
def yX8_nextSlot : MethodName := ⟨RX8, "nextSlot", "(III)I"⟩
abbrev cX8_fillings : ByteArray := prog_10_method_42_code
def yX8_fillings : MethodName := ⟨RX8, "fillings", "(IIII)I"⟩
abbrev cX8_all : ByteArray := prog_10_method_43_code
def yX8_all : MethodName := ⟨RX8, "all", "()I"⟩
abbrev cX8_knot : ByteArray := prog_10_method_44_code
def yX8_knot : MethodName := ⟨RX8, "knot", "()I"⟩
abbrev cX8_wrong : ByteArray := prog_10_method_45_code
def yX8_wrong : MethodName := ⟨RX8, "wrong", "()I"⟩
abbrev cX8_ofCells : ByteArray := prog_10_method_46_code
def yX8_ofCells : MethodName := ⟨RX8, "ofCells", "(I)I"⟩
abbrev cX8_ofSlots : ByteArray := prog_10_method_47_code
def yX8_ofSlots : MethodName := ⟨RX8, "ofSlots", "(I)I"⟩
abbrev cX8_told : ByteArray := prog_10_method_48_code
def yX8_told : MethodName := ⟨RX8, "told", "(I)I"⟩
abbrev cX8_cell : ByteArray := prog_10_method_49_code
def yX8_cell : MethodName := ⟨RX8, "cell", "(II)I"⟩
abbrev cX8_fittingWords : ByteArray := prog_10_method_50_code
def yX8_fittingWords : MethodName := ⟨RX8, "fittingWords", "(I)I"⟩
abbrev cX8_slot : ByteArray := prog_10_method_51_code
def yX8_slot : MethodName := ⟨RX8, "slot", "(II)I"⟩
abbrev cX8_ofWord : ByteArray := prog_10_method_52_code
def yX8_ofWord : MethodName := ⟨RX8, "ofWord", "(II)I"⟩
abbrev cX8_word : ByteArray := prog_10_method_53_code
def yX8_word : MethodName := ⟨RX8, "word", "(II)I"⟩
abbrev cX8_find : ByteArray := prog_10_method_54_code
def yX8_find : MethodName := ⟨RX8, "find", "(I)I"⟩
abbrev cX8_odds : ByteArray := prog_10_method_55_code
def yX8_odds : MethodName := ⟨RX8, "odds", "(IIII)I"⟩
abbrev cX8_with : ByteArray := prog_10_method_56_code
def yX8_with : MethodName := ⟨RX8, "with", "(II)I"⟩
abbrev cX8_keep : ByteArray := prog_10_method_57_code
def yX8_keep : MethodName := ⟨RX8, "keep", "(I)I"⟩
abbrev cX8_goBack : ByteArray := prog_10_method_58_code
def yX8_goBack : MethodName := ⟨RX8, "goBack", "(I)I"⟩
def RJ6 : String := "java/lang/Integer"
def TJ6 : u_T := fun k => match k with
  | _ => ("", "", "", false)
def tyJ6 : Nat → FieldType := fun k => match k with
  | _ => .int
theorem nmJ6 : ∀ a, a < 0 → ∀ b, b < 0 → a ≠ b → (TJ6 a).2.1 ≠ (TJ6 b).2.1 := by decide +kernel
theorem tyJ6_ok : ∀ k, k < 0 → parseFieldDescriptor (TJ6 k).2.2.1 = some (tyJ6 k) := by decide +kernel
abbrev cJ6_bitCount_0f7a4 : ByteArray := prog_11_method_49_code
def yJ6_bitCount_0f7a4 : MethodName := ⟨RJ6, "bitCount", "(I)I"⟩
def RJ9 : String := "java/lang/Math"
def TJ9 : u_T := fun k => match k with
  | _ => ("", "", "", false)
def tyJ9 : Nat → FieldType := fun k => match k with
  | _ => .int
theorem nmJ9 : ∀ a, a < 0 → ∀ b, b < 0 → a ≠ b → (TJ9 a).2.1 ≠ (TJ9 b).2.1 := by decide +kernel
theorem tyJ9_ok : ∀ k, k < 0 → parseFieldDescriptor (TJ9 k).2.2.1 = some (tyJ9 k) := by decide +kernel
abbrev cJ9_max_7cf53 : ByteArray := prog_12_method_65_code
def yJ9_max_7cf53 : MethodName := ⟨RJ9, "max", "(II)I"⟩
abbrev cJ9_min_7cf53 : ByteArray := prog_12_method_69_code
def yJ9_min_7cf53 : MethodName := ⟨RJ9, "min", "(II)I"⟩
def RL : String := "CrossedWordsLaw"
abbrev cL_law : ByteArray := code
def yL_law : MethodName := ⟨RL, "law", "([I)Z"⟩
abbrev vwCl : List vw_C := [(RX0, TX0, 3), (RX1, TX1, 4), (RX2, TX2, 6), (RX3, TX3, 3), (RX4, TX4, 4), (RX5, TX5, 1), (RX6, TX6, 9), (RX7, TX7, 6), (RX8, TX8, 13)]
