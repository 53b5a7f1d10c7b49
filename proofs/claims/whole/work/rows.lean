section
-- ===== PART A: goes FIRST, ahead of the names: the tables' words, and 'selects' of the private methods out of them =====
/-- a private method of a class that the tables say can be made, by its rows of tables_1 -/
def lw_okq (q : MethodName × Nat) : Prop := (q.1.cls ≠ "java/lang/invoke/MethodHandle" ∧ q.1.cls ≠ "java/lang/invoke/VarHandle") ∧ Cond.instantiable q.1.cls q.2 ∈ tables_1 ∧ Cond.privateMethod q.1 ∈ tables_1 ∧ Cond.instanceMethod q.1 ∈ tables_1
theorem lw_p0 : lw_okq (⟨"CellHeap$Heap", "reach", "(I)V"⟩, 8) := ⟨⟨by decide +kernel, by decide +kernel⟩, List.mem_of_getElem? (i := 36) (by decide +kernel), List.mem_of_getElem? (i := 255) (by decide +kernel), List.mem_of_getElem? (i := 256) (by decide +kernel)⟩
theorem lw_p1 : lw_okq (⟨"CellHeap$Heap", "sortAt", "(I)I"⟩, 8) := ⟨⟨by decide +kernel, by decide +kernel⟩, List.mem_of_getElem? (i := 36) (by decide +kernel), List.mem_of_getElem? (i := 265) (by decide +kernel), List.mem_of_getElem? (i := 266) (by decide +kernel)⟩
theorem lw_p2 : lw_okq (⟨"CellHeap$Heap", "chooseNewPlaces", "()V"⟩, 8) := ⟨⟨by decide +kernel, by decide +kernel⟩, List.mem_of_getElem? (i := 36) (by decide +kernel), List.mem_of_getElem? (i := 269) (by decide +kernel), List.mem_of_getElem? (i := 270) (by decide +kernel)⟩
theorem lw_p3 : lw_okq (⟨"CellHeap$Heap", "moved", "(I)I"⟩, 8) := ⟨⟨by decide +kernel, by decide +kernel⟩, List.mem_of_getElem? (i := 36) (by decide +kernel), List.mem_of_getElem? (i := 277) (by decide +kernel), List.mem_of_getElem? (i := 278) (by decide +kernel)⟩
theorem lw_p4 : lw_okq (⟨"CellHeap$Heap", "moveLiving", "()V"⟩, 8) := ⟨⟨by decide +kernel, by decide +kernel⟩, List.mem_of_getElem? (i := 36) (by decide +kernel), List.mem_of_getElem? (i := 284) (by decide +kernel), List.mem_of_getElem? (i := 285) (by decide +kernel)⟩
theorem lw_p5 : lw_okq (⟨"java/lang/Throwable", "fillInStackTrace", "(I)Ljava/lang/Throwable;"⟩, 6) := ⟨⟨by decide +kernel, by decide +kernel⟩, List.mem_of_getElem? (i := 342) (by decide +kernel), List.mem_of_getElem? (i := 340) (by decide +kernel), List.mem_of_getElem? (i := 341) (by decide +kernel)⟩
theorem lw_p6 : lw_okq (⟨"CellHeap", "keepResult", "(I)I"⟩, 4) := ⟨⟨by decide +kernel, by decide +kernel⟩, List.mem_of_getElem? (i := 28) (by decide +kernel), List.mem_of_getElem? (i := 387) (by decide +kernel), List.mem_of_getElem? (i := 388) (by decide +kernel)⟩
theorem lw_p7 : lw_okq (⟨"CellHeap$Heap", "addWhole", "(LCellHeap$Whole;)I"⟩, 8) := ⟨⟨by decide +kernel, by decide +kernel⟩, List.mem_of_getElem? (i := 36) (by decide +kernel), List.mem_of_getElem? (i := 424) (by decide +kernel), List.mem_of_getElem? (i := 425) (by decide +kernel)⟩
theorem lw_p8 : lw_okq (⟨"CellHeap", "isOperand", "(IZ)Z"⟩, 4) := ⟨⟨by decide +kernel, by decide +kernel⟩, List.mem_of_getElem? (i := 28) (by decide +kernel), List.mem_of_getElem? (i := 485) (by decide +kernel), List.mem_of_getElem? (i := 486) (by decide +kernel)⟩
theorem lw_p9 : lw_okq (⟨"CellHeap$Reckoner", "findDivisor", "(LCellHeap$Whole;LCellHeap$Whole;)V"⟩, 7) := ⟨⟨by decide +kernel, by decide +kernel⟩, List.mem_of_getElem? (i := 88) (by decide +kernel), List.mem_of_getElem? (i := 518) (by decide +kernel), List.mem_of_getElem? (i := 519) (by decide +kernel)⟩
theorem lw_p10 : lw_okq (⟨"CellHeap$Division", "divideByWords", "(LCellHeap$Whole;LCellHeap$Whole;)V"⟩, 4) := ⟨⟨by decide +kernel, by decide +kernel⟩, List.mem_of_getElem? (i := 142) (by decide +kernel), List.mem_of_getElem? (i := 551) (by decide +kernel), List.mem_of_getElem? (i := 552) (by decide +kernel)⟩
theorem lw_p11 : lw_okq (⟨"CellHeap$Division", "guessQuotientWord", "(II)J"⟩, 4) := ⟨⟨by decide +kernel, by decide +kernel⟩, List.mem_of_getElem? (i := 142) (by decide +kernel), List.mem_of_getElem? (i := 562) (by decide +kernel), List.mem_of_getElem? (i := 563) (by decide +kernel)⟩
theorem lw_p12 : lw_okq (⟨"CellHeap$Division", "subtractTimes", "(JII)Z"⟩, 4) := ⟨⟨by decide +kernel, by decide +kernel⟩, List.mem_of_getElem? (i := 142) (by decide +kernel), List.mem_of_getElem? (i := 570) (by decide +kernel), List.mem_of_getElem? (i := 571) (by decide +kernel)⟩
theorem lw_p13 : lw_okq (⟨"CellHeap$Division", "addBack", "(II)V"⟩, 4) := ⟨⟨by decide +kernel, by decide +kernel⟩, List.mem_of_getElem? (i := 142) (by decide +kernel), List.mem_of_getElem? (i := 574) (by decide +kernel), List.mem_of_getElem? (i := 575) (by decide +kernel)⟩
theorem lw_p14 : lw_okq (⟨"CellHeap$Whole", "setSumOfSizes", "(LCellHeap$Whole;LCellHeap$Whole;)V"⟩, 3) := ⟨⟨by decide +kernel, by decide +kernel⟩, List.mem_of_getElem? (i := 100) (by decide +kernel), List.mem_of_getElem? (i := 854) (by decide +kernel), List.mem_of_getElem? (i := 855) (by decide +kernel)⟩
theorem lw_p15 : lw_okq (⟨"CellHeap$Whole", "setDifferenceOfSizes", "(LCellHeap$Whole;LCellHeap$Whole;)V"⟩, 3) := ⟨⟨by decide +kernel, by decide +kernel⟩, List.mem_of_getElem? (i := 100) (by decide +kernel), List.mem_of_getElem? (i := 860) (by decide +kernel), List.mem_of_getElem? (i := 861) (by decide +kernel)⟩
def lw_privs_1 : List (MethodName × Nat) := [(⟨"CellHeap$Heap", "reach", "(I)V"⟩, 8), (⟨"CellHeap$Heap", "sortAt", "(I)I"⟩, 8), (⟨"CellHeap$Heap", "chooseNewPlaces", "()V"⟩, 8), (⟨"CellHeap$Heap", "moved", "(I)I"⟩, 8), (⟨"CellHeap$Heap", "moveLiving", "()V"⟩, 8), (⟨"java/lang/Throwable", "fillInStackTrace", "(I)Ljava/lang/Throwable;"⟩, 6), (⟨"CellHeap", "keepResult", "(I)I"⟩, 4), (⟨"CellHeap$Heap", "addWhole", "(LCellHeap$Whole;)I"⟩, 8), (⟨"CellHeap", "isOperand", "(IZ)Z"⟩, 4), (⟨"CellHeap$Reckoner", "findDivisor", "(LCellHeap$Whole;LCellHeap$Whole;)V"⟩, 7), (⟨"CellHeap$Division", "divideByWords", "(LCellHeap$Whole;LCellHeap$Whole;)V"⟩, 4), (⟨"CellHeap$Division", "guessQuotientWord", "(II)J"⟩, 4), (⟨"CellHeap$Division", "subtractTimes", "(JII)Z"⟩, 4), (⟨"CellHeap$Division", "addBack", "(II)V"⟩, 4), (⟨"CellHeap$Whole", "setSumOfSizes", "(LCellHeap$Whole;LCellHeap$Whole;)V"⟩, 3), (⟨"CellHeap$Whole", "setDifferenceOfSizes", "(LCellHeap$Whole;LCellHeap$Whole;)V"⟩, 3)]
theorem lw_r1 : ∀ q ∈ lw_privs_1, lw_okq q := List.forall_mem_cons.mpr ⟨lw_p0, List.forall_mem_cons.mpr ⟨lw_p1, List.forall_mem_cons.mpr ⟨lw_p2, List.forall_mem_cons.mpr ⟨lw_p3, List.forall_mem_cons.mpr ⟨lw_p4, List.forall_mem_cons.mpr ⟨lw_p5, List.forall_mem_cons.mpr ⟨lw_p6, List.forall_mem_cons.mpr ⟨lw_p7, List.forall_mem_cons.mpr ⟨lw_p8, List.forall_mem_cons.mpr ⟨lw_p9, List.forall_mem_cons.mpr ⟨lw_p10, List.forall_mem_cons.mpr ⟨lw_p11, List.forall_mem_cons.mpr ⟨lw_p12, List.forall_mem_cons.mpr ⟨lw_p13, List.forall_mem_cons.mpr ⟨lw_p14, List.forall_mem_cons.mpr ⟨lw_p15, fun _ h => absurd h List.not_mem_nil⟩⟩⟩⟩⟩⟩⟩⟩⟩⟩⟩⟩⟩⟩⟩⟩
theorem lw_p16 : lw_okq (⟨"CellHeap$Line", "stands", "(CI)Z"⟩, 2) := ⟨⟨by decide +kernel, by decide +kernel⟩, List.mem_of_getElem? (i := 73) (by decide +kernel), List.mem_of_getElem? (i := 932) (by decide +kernel), List.mem_of_getElem? (i := 933) (by decide +kernel)⟩
theorem lw_p17 : lw_okq (⟨"CellHeap$Line", "endOfDigits", "(I)I"⟩, 2) := ⟨⟨by decide +kernel, by decide +kernel⟩, List.mem_of_getElem? (i := 73) (by decide +kernel), List.mem_of_getElem? (i := 936) (by decide +kernel), List.mem_of_getElem? (i := 937) (by decide +kernel)⟩
theorem lw_p18 : lw_okq (⟨"CellHeap$Line", "takeDigits", "(IILCellHeap$Whole;)V"⟩, 2) := ⟨⟨by decide +kernel, by decide +kernel⟩, List.mem_of_getElem? (i := 73) (by decide +kernel), List.mem_of_getElem? (i := 940) (by decide +kernel), List.mem_of_getElem? (i := 941) (by decide +kernel)⟩
theorem lw_p19 : lw_okq (⟨"CellHeap$Printer", "openPairs", "(LCellHeap$Heap;I)I"⟩, 7) := ⟨⟨by decide +kernel, by decide +kernel⟩, List.mem_of_getElem? (i := 190) (by decide +kernel), List.mem_of_getElem? (i := 962) (by decide +kernel), List.mem_of_getElem? (i := 963) (by decide +kernel)⟩
theorem lw_p20 : lw_okq (⟨"CellHeap$Printer", "put", "(C)V"⟩, 7) := ⟨⟨by decide +kernel, by decide +kernel⟩, List.mem_of_getElem? (i := 190) (by decide +kernel), List.mem_of_getElem? (i := 967) (by decide +kernel), List.mem_of_getElem? (i := 968) (by decide +kernel)⟩
theorem lw_p21 : lw_okq (⟨"CellHeap$Printer", "putAtom", "(LCellHeap$Heap;I)V"⟩, 7) := ⟨⟨by decide +kernel, by decide +kernel⟩, List.mem_of_getElem? (i := 190) (by decide +kernel), List.mem_of_getElem? (i := 973) (by decide +kernel), List.mem_of_getElem? (i := 974) (by decide +kernel)⟩
theorem lw_p22 : lw_okq (⟨"CellHeap$Printer", "putWhole", "(LCellHeap$Heap;I)V"⟩, 7) := ⟨⟨by decide +kernel, by decide +kernel⟩, List.mem_of_getElem? (i := 190) (by decide +kernel), List.mem_of_getElem? (i := 977) (by decide +kernel), List.mem_of_getElem? (i := 978) (by decide +kernel)⟩
theorem lw_p23 : lw_okq (⟨"CellHeap$Printer", "fillChunk", "(II)V"⟩, 7) := ⟨⟨by decide +kernel, by decide +kernel⟩, List.mem_of_getElem? (i := 190) (by decide +kernel), List.mem_of_getElem? (i := 985) (by decide +kernel), List.mem_of_getElem? (i := 986) (by decide +kernel)⟩
theorem lw_p24 : lw_okq (⟨"CellHeap$Printer", "closeWith", "(LCellHeap$Heap;I)V"⟩, 7) := ⟨⟨by decide +kernel, by decide +kernel⟩, List.mem_of_getElem? (i := 190) (by decide +kernel), List.mem_of_getElem? (i := 989) (by decide +kernel), List.mem_of_getElem? (i := 990) (by decide +kernel)⟩
theorem lw_p25 : lw_okq (⟨"CellHeapModel", "refused", "(I)Z"⟩, 21) := ⟨⟨by decide +kernel, by decide +kernel⟩, List.mem_of_getElem? (i := 1014) (by decide +kernel), List.mem_of_getElem? (i := 1095) (by decide +kernel), List.mem_of_getElem? (i := 1096) (by decide +kernel)⟩
theorem lw_p26 : lw_okq (⟨"CellHeapModel", "setValue", "(III)V"⟩, 21) := ⟨⟨by decide +kernel, by decide +kernel⟩, List.mem_of_getElem? (i := 1014) (by decide +kernel), List.mem_of_getElem? (i := 1099) (by decide +kernel), List.mem_of_getElem? (i := 1100) (by decide +kernel)⟩
theorem lw_p27 : lw_okq (⟨"CellHeapModel", "setLong", "(IJ)V"⟩, 21) := ⟨⟨by decide +kernel, by decide +kernel⟩, List.mem_of_getElem? (i := 1014) (by decide +kernel), List.mem_of_getElem? (i := 1107) (by decide +kernel), List.mem_of_getElem? (i := 1108) (by decide +kernel)⟩
theorem lw_p28 : lw_okq (⟨"CellHeapModel", "trim", "(I)V"⟩, 21) := ⟨⟨by decide +kernel, by decide +kernel⟩, List.mem_of_getElem? (i := 1014) (by decide +kernel), List.mem_of_getElem? (i := 1113) (by decide +kernel), List.mem_of_getElem? (i := 1114) (by decide +kernel)⟩
theorem lw_p29 : lw_okq (⟨"CellHeapModel", "finish", "(I)I"⟩, 21) := ⟨⟨by decide +kernel, by decide +kernel⟩, List.mem_of_getElem? (i := 1014) (by decide +kernel), List.mem_of_getElem? (i := 1117) (by decide +kernel), List.mem_of_getElem? (i := 1118) (by decide +kernel)⟩
theorem lw_p30 : lw_okq (⟨"CellHeapModel", "isLarge", "(I)Z"⟩, 21) := ⟨⟨by decide +kernel, by decide +kernel⟩, List.mem_of_getElem? (i := 1014) (by decide +kernel), List.mem_of_getElem? (i := 1121) (by decide +kernel), List.mem_of_getElem? (i := 1122) (by decide +kernel)⟩
theorem lw_p31 : lw_okq (⟨"CellHeapModel", "bitsOf", "(I)I"⟩, 21) := ⟨⟨by decide +kernel, by decide +kernel⟩, List.mem_of_getElem? (i := 1014) (by decide +kernel), List.mem_of_getElem? (i := 1125) (by decide +kernel), List.mem_of_getElem? (i := 1126) (by decide +kernel)⟩
def lw_privs_2 : List (MethodName × Nat) := [(⟨"CellHeap$Line", "stands", "(CI)Z"⟩, 2), (⟨"CellHeap$Line", "endOfDigits", "(I)I"⟩, 2), (⟨"CellHeap$Line", "takeDigits", "(IILCellHeap$Whole;)V"⟩, 2), (⟨"CellHeap$Printer", "openPairs", "(LCellHeap$Heap;I)I"⟩, 7), (⟨"CellHeap$Printer", "put", "(C)V"⟩, 7), (⟨"CellHeap$Printer", "putAtom", "(LCellHeap$Heap;I)V"⟩, 7), (⟨"CellHeap$Printer", "putWhole", "(LCellHeap$Heap;I)V"⟩, 7), (⟨"CellHeap$Printer", "fillChunk", "(II)V"⟩, 7), (⟨"CellHeap$Printer", "closeWith", "(LCellHeap$Heap;I)V"⟩, 7), (⟨"CellHeapModel", "refused", "(I)Z"⟩, 21), (⟨"CellHeapModel", "setValue", "(III)V"⟩, 21), (⟨"CellHeapModel", "setLong", "(IJ)V"⟩, 21), (⟨"CellHeapModel", "trim", "(I)V"⟩, 21), (⟨"CellHeapModel", "finish", "(I)I"⟩, 21), (⟨"CellHeapModel", "isLarge", "(I)Z"⟩, 21), (⟨"CellHeapModel", "bitsOf", "(I)I"⟩, 21)]
theorem lw_r2 : ∀ q ∈ lw_privs_2, lw_okq q := List.forall_mem_cons.mpr ⟨lw_p16, List.forall_mem_cons.mpr ⟨lw_p17, List.forall_mem_cons.mpr ⟨lw_p18, List.forall_mem_cons.mpr ⟨lw_p19, List.forall_mem_cons.mpr ⟨lw_p20, List.forall_mem_cons.mpr ⟨lw_p21, List.forall_mem_cons.mpr ⟨lw_p22, List.forall_mem_cons.mpr ⟨lw_p23, List.forall_mem_cons.mpr ⟨lw_p24, List.forall_mem_cons.mpr ⟨lw_p25, List.forall_mem_cons.mpr ⟨lw_p26, List.forall_mem_cons.mpr ⟨lw_p27, List.forall_mem_cons.mpr ⟨lw_p28, List.forall_mem_cons.mpr ⟨lw_p29, List.forall_mem_cons.mpr ⟨lw_p30, List.forall_mem_cons.mpr ⟨lw_p31, fun _ h => absurd h List.not_mem_nil⟩⟩⟩⟩⟩⟩⟩⟩⟩⟩⟩⟩⟩⟩⟩⟩
theorem lw_p32 : lw_okq (⟨"CellHeapModel", "cellsOf", "(I)I"⟩, 21) := ⟨⟨by decide +kernel, by decide +kernel⟩, List.mem_of_getElem? (i := 1014) (by decide +kernel), List.mem_of_getElem? (i := 1129) (by decide +kernel), List.mem_of_getElem? (i := 1130) (by decide +kernel)⟩
theorem lw_p33 : lw_okq (⟨"CellHeapModel", "isFixed", "(I)Z"⟩, 21) := ⟨⟨by decide +kernel, by decide +kernel⟩, List.mem_of_getElem? (i := 1014) (by decide +kernel), List.mem_of_getElem? (i := 1133) (by decide +kernel), List.mem_of_getElem? (i := 1134) (by decide +kernel)⟩
theorem lw_p34 : lw_okq (⟨"CellHeapModel", "limbOf", "(II)I"⟩, 21) := ⟨⟨by decide +kernel, by decide +kernel⟩, List.mem_of_getElem? (i := 1014) (by decide +kernel), List.mem_of_getElem? (i := 1137) (by decide +kernel), List.mem_of_getElem? (i := 1138) (by decide +kernel)⟩
theorem lw_p35 : lw_okq (⟨"CellHeapModel", "wants", "(I)Z"⟩, 21) := ⟨⟨by decide +kernel, by decide +kernel⟩, List.mem_of_getElem? (i := 1014) (by decide +kernel), List.mem_of_getElem? (i := 1142) (by decide +kernel), List.mem_of_getElem? (i := 1143) (by decide +kernel)⟩
theorem lw_p36 : lw_okq (⟨"CellHeapModel", "clean", "()I"⟩, 21) := ⟨⟨by decide +kernel, by decide +kernel⟩, List.mem_of_getElem? (i := 1014) (by decide +kernel), List.mem_of_getElem? (i := 1146) (by decide +kernel), List.mem_of_getElem? (i := 1147) (by decide +kernel)⟩
theorem lw_p37 : lw_okq (⟨"CellHeapModel", "mark", "()I"⟩, 21) := ⟨⟨by decide +kernel, by decide +kernel⟩, List.mem_of_getElem? (i := 1014) (by decide +kernel), List.mem_of_getElem? (i := 1150) (by decide +kernel), List.mem_of_getElem? (i := 1151) (by decide +kernel)⟩
theorem lw_p38 : lw_okq (⟨"CellHeapModel", "place", "(II)V"⟩, 21) := ⟨⟨by decide +kernel, by decide +kernel⟩, List.mem_of_getElem? (i := 1014) (by decide +kernel), List.mem_of_getElem? (i := 1157) (by decide +kernel), List.mem_of_getElem? (i := 1158) (by decide +kernel)⟩
theorem lw_p39 : lw_okq (⟨"CellHeapModel", "make", "(II)I"⟩, 21) := ⟨⟨by decide +kernel, by decide +kernel⟩, List.mem_of_getElem? (i := 1014) (by decide +kernel), List.mem_of_getElem? (i := 1161) (by decide +kernel), List.mem_of_getElem? (i := 1162) (by decide +kernel)⟩
theorem lw_p40 : lw_okq (⟨"CellHeapModel", "copyRow", "(II)V"⟩, 21) := ⟨⟨by decide +kernel, by decide +kernel⟩, List.mem_of_getElem? (i := 1014) (by decide +kernel), List.mem_of_getElem? (i := 1168) (by decide +kernel), List.mem_of_getElem? (i := 1169) (by decide +kernel)⟩
theorem lw_p41 : lw_okq (⟨"CellHeapModel", "copyValue", "(II)V"⟩, 21) := ⟨⟨by decide +kernel, by decide +kernel⟩, List.mem_of_getElem? (i := 1014) (by decide +kernel), List.mem_of_getElem? (i := 1172) (by decide +kernel), List.mem_of_getElem? (i := 1173) (by decide +kernel)⟩
theorem lw_p42 : lw_okq (⟨"CellHeapModel", "sortOf", "(I)I"⟩, 21) := ⟨⟨by decide +kernel, by decide +kernel⟩, List.mem_of_getElem? (i := 1014) (by decide +kernel), List.mem_of_getElem? (i := 1188) (by decide +kernel), List.mem_of_getElem? (i := 1189) (by decide +kernel)⟩
theorem lw_p43 : lw_okq (⟨"CellHeapModel", "isNumber", "(I)Z"⟩, 21) := ⟨⟨by decide +kernel, by decide +kernel⟩, List.mem_of_getElem? (i := 1014) (by decide +kernel), List.mem_of_getElem? (i := 1200) (by decide +kernel), List.mem_of_getElem? (i := 1201) (by decide +kernel)⟩
theorem lw_p44 : lw_okq (⟨"CellHeapModel", "take", "(III)V"⟩, 21) := ⟨⟨by decide +kernel, by decide +kernel⟩, List.mem_of_getElem? (i := 1014) (by decide +kernel), List.mem_of_getElem? (i := 1204) (by decide +kernel), List.mem_of_getElem? (i := 1205) (by decide +kernel)⟩
theorem lw_p45 : lw_okq (⟨"CellHeapModel", "takeWhole", "(II)V"⟩, 21) := ⟨⟨by decide +kernel, by decide +kernel⟩, List.mem_of_getElem? (i := 1014) (by decide +kernel), List.mem_of_getElem? (i := 1208) (by decide +kernel), List.mem_of_getElem? (i := 1209) (by decide +kernel)⟩
theorem lw_p46 : lw_okq (⟨"CellHeapModel", "workWhole", "(II)I"⟩, 21) := ⟨⟨by decide +kernel, by decide +kernel⟩, List.mem_of_getElem? (i := 1014) (by decide +kernel), List.mem_of_getElem? (i := 1212) (by decide +kernel), List.mem_of_getElem? (i := 1213) (by decide +kernel)⟩
theorem lw_p47 : lw_okq (⟨"CellHeapModel", "divisor", "(II)V"⟩, 21) := ⟨⟨by decide +kernel, by decide +kernel⟩, List.mem_of_getElem? (i := 1014) (by decide +kernel), List.mem_of_getElem? (i := 1216) (by decide +kernel), List.mem_of_getElem? (i := 1217) (by decide +kernel)⟩
def lw_privs_3 : List (MethodName × Nat) := [(⟨"CellHeapModel", "cellsOf", "(I)I"⟩, 21), (⟨"CellHeapModel", "isFixed", "(I)Z"⟩, 21), (⟨"CellHeapModel", "limbOf", "(II)I"⟩, 21), (⟨"CellHeapModel", "wants", "(I)Z"⟩, 21), (⟨"CellHeapModel", "clean", "()I"⟩, 21), (⟨"CellHeapModel", "mark", "()I"⟩, 21), (⟨"CellHeapModel", "place", "(II)V"⟩, 21), (⟨"CellHeapModel", "make", "(II)I"⟩, 21), (⟨"CellHeapModel", "copyRow", "(II)V"⟩, 21), (⟨"CellHeapModel", "copyValue", "(II)V"⟩, 21), (⟨"CellHeapModel", "sortOf", "(I)I"⟩, 21), (⟨"CellHeapModel", "isNumber", "(I)Z"⟩, 21), (⟨"CellHeapModel", "take", "(III)V"⟩, 21), (⟨"CellHeapModel", "takeWhole", "(II)V"⟩, 21), (⟨"CellHeapModel", "workWhole", "(II)I"⟩, 21), (⟨"CellHeapModel", "divisor", "(II)V"⟩, 21)]
theorem lw_r3 : ∀ q ∈ lw_privs_3, lw_okq q := List.forall_mem_cons.mpr ⟨lw_p32, List.forall_mem_cons.mpr ⟨lw_p33, List.forall_mem_cons.mpr ⟨lw_p34, List.forall_mem_cons.mpr ⟨lw_p35, List.forall_mem_cons.mpr ⟨lw_p36, List.forall_mem_cons.mpr ⟨lw_p37, List.forall_mem_cons.mpr ⟨lw_p38, List.forall_mem_cons.mpr ⟨lw_p39, List.forall_mem_cons.mpr ⟨lw_p40, List.forall_mem_cons.mpr ⟨lw_p41, List.forall_mem_cons.mpr ⟨lw_p42, List.forall_mem_cons.mpr ⟨lw_p43, List.forall_mem_cons.mpr ⟨lw_p44, List.forall_mem_cons.mpr ⟨lw_p45, List.forall_mem_cons.mpr ⟨lw_p46, List.forall_mem_cons.mpr ⟨lw_p47, fun _ h => absurd h List.not_mem_nil⟩⟩⟩⟩⟩⟩⟩⟩⟩⟩⟩⟩⟩⟩⟩⟩
theorem lw_p48 : lw_okq (⟨"CellHeapModel", "isEven", "(I)Z"⟩, 21) := ⟨⟨by decide +kernel, by decide +kernel⟩, List.mem_of_getElem? (i := 1014) (by decide +kernel), List.mem_of_getElem? (i := 1220) (by decide +kernel), List.mem_of_getElem? (i := 1221) (by decide +kernel)⟩
theorem lw_p49 : lw_okq (⟨"CellHeapModel", "halve", "(I)V"⟩, 21) := ⟨⟨by decide +kernel, by decide +kernel⟩, List.mem_of_getElem? (i := 1014) (by decide +kernel), List.mem_of_getElem? (i := 1224) (by decide +kernel), List.mem_of_getElem? (i := 1225) (by decide +kernel)⟩
theorem lw_p50 : lw_okq (⟨"CellHeapModel", "compareSizes", "(II)I"⟩, 21) := ⟨⟨by decide +kernel, by decide +kernel⟩, List.mem_of_getElem? (i := 1014) (by decide +kernel), List.mem_of_getElem? (i := 1228) (by decide +kernel), List.mem_of_getElem? (i := 1229) (by decide +kernel)⟩
theorem lw_p51 : lw_okq (⟨"CellHeapModel", "subtractSizes", "(III)V"⟩, 21) := ⟨⟨by decide +kernel, by decide +kernel⟩, List.mem_of_getElem? (i := 1014) (by decide +kernel), List.mem_of_getElem? (i := 1232) (by decide +kernel), List.mem_of_getElem? (i := 1233) (by decide +kernel)⟩
theorem lw_p52 : lw_okq (⟨"CellHeapModel", "addSizes", "(III)V"⟩, 21) := ⟨⟨by decide +kernel, by decide +kernel⟩, List.mem_of_getElem? (i := 1014) (by decide +kernel), List.mem_of_getElem? (i := 1236) (by decide +kernel), List.mem_of_getElem? (i := 1237) (by decide +kernel)⟩
theorem lw_p53 : lw_okq (⟨"CellHeapModel", "divide", "(III)V"⟩, 21) := ⟨⟨by decide +kernel, by decide +kernel⟩, List.mem_of_getElem? (i := 1014) (by decide +kernel), List.mem_of_getElem? (i := 1240) (by decide +kernel), List.mem_of_getElem? (i := 1241) (by decide +kernel)⟩
theorem lw_p54 : lw_okq (⟨"CellHeapModel", "divideSmall", "(II)I"⟩, 21) := ⟨⟨by decide +kernel, by decide +kernel⟩, List.mem_of_getElem? (i := 1014) (by decide +kernel), List.mem_of_getElem? (i := 1244) (by decide +kernel), List.mem_of_getElem? (i := 1245) (by decide +kernel)⟩
theorem lw_p55 : lw_okq (⟨"CellHeapModel", "product", "(III)V"⟩, 21) := ⟨⟨by decide +kernel, by decide +kernel⟩, List.mem_of_getElem? (i := 1014) (by decide +kernel), List.mem_of_getElem? (i := 1248) (by decide +kernel), List.mem_of_getElem? (i := 1249) (by decide +kernel)⟩
theorem lw_p56 : lw_okq (⟨"CellHeapModel", "sum", "(IIIZ)V"⟩, 21) := ⟨⟨by decide +kernel, by decide +kernel⟩, List.mem_of_getElem? (i := 1014) (by decide +kernel), List.mem_of_getElem? (i := 1252) (by decide +kernel), List.mem_of_getElem? (i := 1253) (by decide +kernel)⟩
theorem lw_p57 : lw_okq (⟨"CellHeapModel", "reduce", "()V"⟩, 21) := ⟨⟨by decide +kernel, by decide +kernel⟩, List.mem_of_getElem? (i := 1014) (by decide +kernel), List.mem_of_getElem? (i := 1256) (by decide +kernel), List.mem_of_getElem? (i := 1257) (by decide +kernel)⟩
theorem lw_p58 : lw_okq (⟨"CellHeapModel", "put", "(II)V"⟩, 21) := ⟨⟨by decide +kernel, by decide +kernel⟩, List.mem_of_getElem? (i := 1014) (by decide +kernel), List.mem_of_getElem? (i := 1272) (by decide +kernel), List.mem_of_getElem? (i := 1273) (by decide +kernel)⟩
theorem lw_p59 : lw_okq (⟨"CellHeapModel", "readDigits", "(I)Z"⟩, 21) := ⟨⟨by decide +kernel, by decide +kernel⟩, List.mem_of_getElem? (i := 1014) (by decide +kernel), List.mem_of_getElem? (i := 1284) (by decide +kernel), List.mem_of_getElem? (i := 1285) (by decide +kernel)⟩
theorem lw_p60 : lw_okq (⟨"CellHeapModel", "say", "(C)V"⟩, 21) := ⟨⟨by decide +kernel, by decide +kernel⟩, List.mem_of_getElem? (i := 1014) (by decide +kernel), List.mem_of_getElem? (i := 1292) (by decide +kernel), List.mem_of_getElem? (i := 1293) (by decide +kernel)⟩
theorem lw_p61 : lw_okq (⟨"CellHeapModel", "sayPlain", "(I)V"⟩, 21) := ⟨⟨by decide +kernel, by decide +kernel⟩, List.mem_of_getElem? (i := 1014) (by decide +kernel), List.mem_of_getElem? (i := 1296) (by decide +kernel), List.mem_of_getElem? (i := 1297) (by decide +kernel)⟩
theorem lw_p62 : lw_okq (⟨"CellHeapModel", "sayWhole", "(I)V"⟩, 21) := ⟨⟨by decide +kernel, by decide +kernel⟩, List.mem_of_getElem? (i := 1014) (by decide +kernel), List.mem_of_getElem? (i := 1300) (by decide +kernel), List.mem_of_getElem? (i := 1301) (by decide +kernel)⟩
theorem lw_p63 : lw_okq (⟨"CellHeapModel", "cellOf", "(I)I"⟩, 21) := ⟨⟨by decide +kernel, by decide +kernel⟩, List.mem_of_getElem? (i := 1014) (by decide +kernel), List.mem_of_getElem? (i := 1316) (by decide +kernel), List.mem_of_getElem? (i := 1317) (by decide +kernel)⟩
def lw_privs_4 : List (MethodName × Nat) := [(⟨"CellHeapModel", "isEven", "(I)Z"⟩, 21), (⟨"CellHeapModel", "halve", "(I)V"⟩, 21), (⟨"CellHeapModel", "compareSizes", "(II)I"⟩, 21), (⟨"CellHeapModel", "subtractSizes", "(III)V"⟩, 21), (⟨"CellHeapModel", "addSizes", "(III)V"⟩, 21), (⟨"CellHeapModel", "divide", "(III)V"⟩, 21), (⟨"CellHeapModel", "divideSmall", "(II)I"⟩, 21), (⟨"CellHeapModel", "product", "(III)V"⟩, 21), (⟨"CellHeapModel", "sum", "(IIIZ)V"⟩, 21), (⟨"CellHeapModel", "reduce", "()V"⟩, 21), (⟨"CellHeapModel", "put", "(II)V"⟩, 21), (⟨"CellHeapModel", "readDigits", "(I)Z"⟩, 21), (⟨"CellHeapModel", "say", "(C)V"⟩, 21), (⟨"CellHeapModel", "sayPlain", "(I)V"⟩, 21), (⟨"CellHeapModel", "sayWhole", "(I)V"⟩, 21), (⟨"CellHeapModel", "cellOf", "(I)I"⟩, 21)]
theorem lw_r4 : ∀ q ∈ lw_privs_4, lw_okq q := List.forall_mem_cons.mpr ⟨lw_p48, List.forall_mem_cons.mpr ⟨lw_p49, List.forall_mem_cons.mpr ⟨lw_p50, List.forall_mem_cons.mpr ⟨lw_p51, List.forall_mem_cons.mpr ⟨lw_p52, List.forall_mem_cons.mpr ⟨lw_p53, List.forall_mem_cons.mpr ⟨lw_p54, List.forall_mem_cons.mpr ⟨lw_p55, List.forall_mem_cons.mpr ⟨lw_p56, List.forall_mem_cons.mpr ⟨lw_p57, List.forall_mem_cons.mpr ⟨lw_p58, List.forall_mem_cons.mpr ⟨lw_p59, List.forall_mem_cons.mpr ⟨lw_p60, List.forall_mem_cons.mpr ⟨lw_p61, List.forall_mem_cons.mpr ⟨lw_p62, List.forall_mem_cons.mpr ⟨lw_p63, fun _ h => absurd h List.not_mem_nil⟩⟩⟩⟩⟩⟩⟩⟩⟩⟩⟩⟩⟩⟩⟩⟩
def lw_privs : List (MethodName × Nat) := lw_privs_1 ++ (lw_privs_2 ++ (lw_privs_3 ++ (lw_privs_4)))
def lw_tbl : List Cond := k2_sels lw_privs ++ tables_1
theorem lw_privs_ok : ∀ q ∈ lw_privs, lw_okq q := by
  show ∀ q ∈ lw_privs_1 ++ (lw_privs_2 ++ (lw_privs_3 ++ (lw_privs_4))), lw_okq q
  exact List.forall_mem_append.mpr ⟨lw_r1, List.forall_mem_append.mpr ⟨lw_r2, List.forall_mem_append.mpr ⟨lw_r3, lw_r4⟩⟩⟩
/-- the words of the tables that stay true as the machine warms -/
def wx_tbl : List Cond := lw_tbl.filter goodWord
theorem wx_good : ∀ w ∈ wx_tbl, (w.onTables && w.keeps) = true ∨ ∃ ty, w = .arrayClass ty := fun _ hw => good_of_word (List.mem_filter.mp hw).2
theorem wx_in {w : Cond} (n : Nat) (h : lw_tbl[n]? = some w) (g : goodWord w = true) : w ∈ wx_tbl := List.mem_filter.mpr ⟨List.mem_of_getElem? h, g⟩
theorem wx_sub : ∀ w ∈ wx_tbl, w ∈ lw_tbl := fun _ hw => (List.mem_filter.mp hw).1
theorem wx_goodIn {ws : List Cond} (h : ∀ w ∈ ws, w ∈ wx_tbl) : GoodIn wx_tbl ws := fun w hw => ⟨h w hw, wx_good w (h w hw)⟩
end
section
/-! ===== BEGIN words of one list among another's, by their places ===== -/
theorem goodIn_r {big : List Cond} (ws : List Cond) (ps : List Nat) (hp : ws = ps.filterMap (fun i => big[i]?)) (h : ws.all goodWord = true) : GoodIn big ws := by
  intro w hw
  have h1 := List.all_eq_true.mp h w hw
  rw [hp] at hw
  obtain ⟨i, -, hi⟩ := List.mem_filterMap.mp hw
  have hm : w ∈ big := by first | exact List.mem_of_getElem? hi | exact List.getElem?_mem hi
  exact ⟨hm, good_of_word h1⟩
theorem goodIn_app {big a b : List Cond} (ha : GoodIn big a) (hb : GoodIn big b) : GoodIn big (a ++ b) := fun w h => (List.mem_append.mp h).elim (ha w) (hb w)
theorem goodIn_ca {big a b : List Cond} {c : Cond} (ha : GoodIn big (c :: a)) (hb : GoodIn big b) : GoodIn big (c :: (a ++ b)) := fun w h => (List.mem_cons.mp h).elim (fun e => ha w (List.mem_cons.mpr (Or.inl e))) (fun h => (List.mem_append.mp h).elim (fun h => ha w (List.mem_cons.mpr (Or.inr h))) (hb w))
theorem goodIn_sub {big ws : List Cond} (hm : ∀ w ∈ ws, w ∈ big) (h : ws.all goodWord = true) : GoodIn big ws := fun w hw => ⟨hm w hw, good_of_word (List.all_eq_true.mp h w hw)⟩
/-! ===== END ===== -/
/-! ===== BEGIN exceptions that leave a method, and their catching by the caller (launches without stack traces) ===== -/
section VXA
/-! The laws vx_back, vx_callV, vx_callS, vx_callSW, vx_throw0, vx_throwS follow proofs of the library, with one case more: JvmDerived/Free/Laws.lean (Back.of_free), Shelf42/LK1.lean (callV, callS), Shelf/KitTraced.lean (throwNew0V, throwNewS). -/
/-- where a method has thrown q: the class by its name, the cell, what was written, the world -/
def vx_T (XC : String → State → State → Prop) (st : State) (q : Addr) (t : State) (mc ms : Nat) (free : Addr → Prop) : Prop :=
  ∃ (E : String) (ce : Cell) (L : List Loc), XC E st t ∧ t.heap[q]? = some ce ∧ ce.vm = .none ∧ st.vm.findClass E = some ce.cls ∧ st.WarmedH t.vm ∧ st.sameButNew ({ t with vm := st.vm } : State) L mc ms ∧ ∀ z ∈ L, free z.base
def vx_Q (Qc : Array Value → State → Outcome → State → Prop) (XC : String → State → State → Prop) (mc ms : Nat) (free : Addr → Prop) : Array Value → State → Outcome → State → Prop := fun a st o t =>
  (Qc a st o t ∧ ∃ L, FrameEnd st o t L mc ms ∧ ∀ q ∈ L, free q.base) ∨ ∃ q, o = .threw q ∧ vx_T XC st q t mc ms free
/-- a callee that returns or throws -/
def vx_Met (l : Launch) (y : MethodName) (ws : List Cond) (rm : Room) (Pc : Array Value → State → Prop) (Qc : Array Value → State → Outcome → State → Prop) (XC : String → State → State → Prop) (mc ms : Nat) (free : Addr → Prop) : Prop :=
  MetFree l y (headSpec ws rm) Pc (fun _ _ _ _ _ => True) (vx_Q Qc XC mc ms free)
def vx_Post (XC : String → State → State → Prop) (mc ms : Nat) (free : Addr → Prop) : Pt → Array Value → Addr → Pt → Prop := fun A a q B =>
  ∃ (g : JFrame) (mk : MethodId) (t : State) (L : List Loc) (E : String) (ce : Cell), B.U.heap = t.heap ∧ B.U.vm = t.vm ∧ XC E (A.U.calling g mk a) t ∧ t.heap[q]? = some ce ∧ ce.vm = .none ∧ A.U.vm.findClass E = some ce.cls ∧ B.locs = A.locs ++ L ∧ (∀ z ∈ L, free z.base) ∧ B.cells = A.cells + mc ∧ B.slots = A.slots + ms
def vx_Back (l : Launch) (R : Room) (p : Program) (e : Env) (below : List Frame) (s : State) (sargs : Array Value) (y : MethodName) (len W9 : Nat)
    (Pre : Pt → Array Value → Prop) (Post : Pt → Array Value → Option Value → Pt → Prop) (PostX : Pt → Array Value → Addr → Pt → Prop) : Prop :=
  ∀ (m : MethodId) (meth : Method) (c : Code) (A : Pt) (g : JFrame) (ig : Instr) (mk : MethodId) (a : Array Value),
    Stand p l e R s m sargs below meth c A.U A.locs A.cells A.slots → g.method = m → g.locals.size = c.maxLocals → decode c.code g.pc = .ok (ig, len) →
    2 * g.monitorRoom + (g.stack.map fun v => v.category).sum ≤ W9 → A.U.methodNamed? y = some mk → Pre A a →
    (∃ (v : Option Value) (B : Pt), Stand p l e R s m sargs below meth c B.U B.locs B.cells B.slots ∧ Post A a v B ∧
      Steps p.tables e below (doInvoke e (A.U.setTop g) [] mk a).1 (B.U.setTop { g with pc := g.pc + len, stack := v.toList ++ g.stack })) ∨
    (∃ (q : Addr) (B : Pt), Stand p l e R s m sargs below meth c B.U B.locs B.cells B.slots ∧ PostX A a q B ∧
      Steps p.tables e below (doInvoke e (A.U.setTop g) [] mk a).1 ((B.U.setTop g).pushFrame (.throwing q)))
section Payer
variable {l : Launch} {R : Room} {p : Program} {e : Env} {below : List Frame} {s : State} {sargs : Array Value} {y : MethodName} {len W9 : Nat}
theorem vx_back {ws : List Cond} {rm : Room} {Pc : Array Value → State → Prop} {Qc : Array Value → State → Outcome → State → Prop} {XC : String → State → State → Prop} {mc ms : Nat} {free : Addr → Prop} {bytes : ByteArray} {maxL : Nat} {ret : Option FieldType}
    (hM : vx_Met l y ws rm Pc Qc XC mc ms free) (hblind : FrameBlind Pc) (hrc : rm.cells = mc) (hrs : rm.slots = ms)
    (hframes : rm.frames + 1 ≤ R.frames) (hlocals : W9 + (maxL + 11) + rm.locals ≤ R.locals)
    (hws : ∀ w ∈ ws, ∀ a' U, s.WarmedH U.vm → w.before a' U = true) (hcode : Cond.code y bytes maxL ret ∈ ws) (hinit : ∀ a' U, s.WarmedH U.vm → (Cond.initialized y.cls).before a' U = true) :
    vx_Back l R p e below s sargs y len W9 (PreOf R mc ms Pc) (PostOf Qc mc ms free) (vx_Post XC mc ms free) := by
  intro m meth c A g ig mk a X hg hsize hdg hW hn hp
  have h1 : (headSpec ws rm).pre.before a A.U = true := atoms_intro fun w hw => hws w hw _ _ X.warmed
  have h2 : (Cond.code y bytes maxL ret).before a A.U = true := hws _ hcode _ _ X.warmed
  have h3 : (Cond.initialized y.cls).before a A.U = true := hinit _ _ X.warmed
  have h4 : A.cells + (headSpec ws rm).room.cells ≤ R.cells := by rw [show (headSpec ws rm).room.cells = mc from hrc]; exact hp.1
  have h5 : A.slots + (headSpec ws rm).room.slots ≤ R.slots := by rw [show (headSpec ws rm).room.slots = ms from hrs]; exact hp.2.1
  have hPc : Pc a (A.U.calling g mk a) := hblind _ _ _ _ hp.2.2
  obtain ⟨U, Ls, c0, s0⟩ := A
  dsimp only [Pt.U, Pt.locs, Pt.cells, Pt.slots] at h1 h2 h3 h4 h5 X hn hPc ⊢
  obtain ⟨methY, cY, hmY, hcY, -, hlY, -, -, -, -⟩ := Cond.code_spec hn h2
  obtain ⟨kY, hkY, -⟩ := className_of_methodNamed hn
  have hinitY : kY.init = .initialized := Cond.initialized_spec (findClass_of_methodNamed hn) hkY h3
  have h : At U g.method c below := by rw [hg]; exact X.here
  have hlocals9 : W9 + (maxL + 11) + (headSpec ws rm).room.locals ≤ R.locals := hlocals
  have happ : (headSpec ws rm).appliesLoose y e.platform (U.calling g mk a) = true :=
    Spec.appliesLoose_calling (g := g) h hdg hn hkY hinitY
      (X.room_calling (g := g) (R' := (headSpec ws rm).room) hsize hmY hcY hframes (by rw [hlY]; omega) h4 h5) h1
  obtain ⟨mid, hmid⟩ := h.above
  have hfr : (U.setTop g).frames = (.java g :: mid) ++ below := by rw [State.frames_setTop' g h.top, hmid]; rfl
  obtain ⟨o, s₂, hsteps, -, hend, hq⟩ := Steps.callFree hM p X.admits X.cas X.clock (acts := []) hfr happ hPc trivial
  have hq' : vx_Q Qc XC mc ms free a (U.calling g mk a) o s₂ := hq
  rw [State.frames_setTop' g h.top] at hend
  obtain ⟨g₀, hg0⟩ := Option.isSome_iff_exists.mp h.top
  obtain ⟨r, hr⟩ := State.topJava?_eq_some.mp hg0
  have hr' : (({ U with heap := s₂.heap, slotsUsed := s₂.slotsUsed } : State).setVm s₂.vm).frames = .java g₀ :: r := hr
  rcases hq' with ⟨hqc, L, hfe, hL⟩ | ⟨q, rfl, E, ce, L, hx, hce, hcv, hcl, hW₂, hsm, hL⟩
  · obtain ⟨⟨v, rfl⟩, hW₂, e2, q2, q3, q4, q5, q6⟩ := id hfe
    have e3 : s₂ = ({ (U.calling g mk a).setFrames s₂.frames with heap := s₂.heap, slotsUsed := s₂.slotsUsed } : State).setVm s₂.vm := by
      have : s₂ = ({ s₂ with vm := (U.calling g mk a).vm } : State).setVm s₂.vm := rfl
      rw [e2] at this
      exact this
    obtain ⟨c₂, i₂, len₂, hc₂, hd₂, hf₂⟩ := hend
    have hW' : U.WarmedH s₂.vm := hW₂
    have hcc : c₂ = c := by
      have h1 : s₂.code? g.method = U.code? g.method := by
        rw [State.code?_eq, State.code?_eq, hW'.alike.method?]
      exact Option.some.inj (hc₂.symm.trans (h1.trans h.code))
    subst hcc
    have hlen : len₂ = len := by rw [hdg] at hd₂; cases hd₂; rfl
    subst hlen
    have hs₂ : s₂ = (({ U with heap := s₂.heap, slotsUsed := s₂.slotsUsed } : State).setVm s₂.vm).setTop { g with pc := g.pc + len₂, stack := v.toList ++ g.stack } := by
      refine e3.trans ?_
      rw [hf₂, State.calling_eq h.top, State.setFrames_setFrames, State.setTop_of_frames _ hr', hr]
      rfl
    have hsame : U.sameButNew ({ U with heap := s₂.heap, slotsUsed := s₂.slotsUsed } : State) L mc ms := by
      refine ⟨?_, q2, q3, q4, q5, q6⟩
      obtain ⟨t, ht, -⟩ := State.frames_cons hr
      show ({ U with heap := s₂.heap, slotsUsed := s₂.slotsUsed } : State) = { U.setFrames U.frames with heap := s₂.heap, slotsUsed := s₂.slotsUsed }
      rw [State.setFrames_self ht]
    subst hg
    refine Or.inl ⟨v, ⟨(({ U with heap := s₂.heap, slotsUsed := s₂.slotsUsed } : State).setVm s₂.vm), Ls ++ L, c0 + mc, s0 + ms⟩,
      ⟨X.admits, X.cas, X.clock, X.frames, X.room, X.hears, X.method, X.code, (X.here.setHeapUsed s₂.heap s₂.slotsUsed).setVm hW'.alike, X.tail, State.WarmedH.trans X.warmed hW', X.limits, X.bytes, X.same.trans (hsame.setVm s.vm)⟩,
      ⟨g, mk, s₂, L, rfl, rfl, hqc, rfl, hL, rfl, rfl⟩, ?_⟩
    show Steps p.tables e below _ ((({ U with heap := s₂.heap, slotsUsed := s₂.slotsUsed } : State).setVm s₂.vm).setTop { g with pc := g.pc + len₂, stack := v.toList ++ g.stack })
    rw [← hs₂]
    exact hsteps
  · obtain ⟨e2, q2, q3, q4, q5, q6⟩ := id hsm
    have e3 : s₂ = ({ (U.calling g mk a).setFrames s₂.frames with heap := s₂.heap, slotsUsed := s₂.slotsUsed } : State).setVm s₂.vm := by
      have : s₂ = ({ s₂ with vm := (U.calling g mk a).vm } : State).setVm s₂.vm := rfl
      rw [e2] at this
      exact this
    have hf₂ : s₂.frames = .throwing q :: .java g :: U.frames.tail := hend
    have hW' : U.WarmedH s₂.vm := hW₂
    have hs₂ : s₂ = ((({ U with heap := s₂.heap, slotsUsed := s₂.slotsUsed } : State).setVm s₂.vm).setTop g).pushFrame (.throwing q) := by
      refine e3.trans ?_
      rw [hf₂, State.calling_eq h.top, State.setFrames_setFrames, State.pushFrame, State.frames_setTop _ hr', State.setTop_of_frames _ hr', State.setFrames_setFrames, hr]
      rfl
    have hsame : U.sameButNew ({ U with heap := s₂.heap, slotsUsed := s₂.slotsUsed } : State) L mc ms := by
      refine ⟨?_, q2, q3, q4, q5, q6⟩
      obtain ⟨t, ht, -⟩ := State.frames_cons hr
      show ({ U with heap := s₂.heap, slotsUsed := s₂.slotsUsed } : State) = { U.setFrames U.frames with heap := s₂.heap, slotsUsed := s₂.slotsUsed }
      rw [State.setFrames_self ht]
    subst hg
    refine Or.inr ⟨q, ⟨(({ U with heap := s₂.heap, slotsUsed := s₂.slotsUsed } : State).setVm s₂.vm), Ls ++ L, c0 + mc, s0 + ms⟩,
      ⟨X.admits, X.cas, X.clock, X.frames, X.room, X.hears, X.method, X.code, (X.here.setHeapUsed s₂.heap s₂.slotsUsed).setVm hW'.alike, X.tail, State.WarmedH.trans X.warmed hW', X.limits, X.bytes, X.same.trans (hsame.setVm s.vm)⟩,
      ⟨g, mk, s₂, L, E, ce, rfl, rfl, hx, hce, hcv, hcl, rfl, hL, rfl, rfl⟩, ?_⟩
    show Steps p.tables e below _ (((({ U with heap := s₂.heap, slotsUsed := s₂.slotsUsed } : State).setVm s₂.vm).setTop g).pushFrame (.throwing q))
    rw [← hs₂]
    exact hsteps
end Payer
section Calls
variable {p : Program} {l : Launch} {e : Env} {R : Room} {s : State} {m : MethodId} {args : Array Value} {below : List Frame} {meth : Method} {c : Code} {T : State} {locs : List Loc} {cells slots : Nat}
theorem vx_callV (X : Stand p l e R s m args below meth c T locs cells slots) (hexec : p.tables.exec = Jvm.exec) {own C : String} {index : Nat} {y : MethodName} {bytes : ByteArray} {maxL : Nat} {ret : Option FieldType}
    (hown : s.vm.findClass own = some m.cls) (hlink : (Cond.methodLink own index y).before args s = true) (hinst : (Cond.instanceMethod y).before args s = true) (hsel : (Cond.selects C y y).before args s = true)
    (hcode : (Cond.code y bytes maxL ret).before args s = true) (hy : y.cls ≠ "java/lang/invoke/MethodHandle" ∧ y.cls ≠ "java/lang/invoke/VarHandle")
    {W9 : Nat} {Pre : Pt → Array Value → Prop} {Post : Pt → Array Value → Option Value → Pt → Prop} {PostX : Pt → Array Value → Addr → Pt → Prop} (hK : vx_Back l R p e below s args y 3 W9 Pre Post PostX)
    {b : Addr} {cellB : Cell} (hcell : T.heap[b]? = some cellB) (hobj : cellB.vm.isStatics = false) (hcls : s.vm.findClass C = some cellB.cls)
    {g : JFrame} (hg : g.method = m) (hsize : g.locals.size = c.maxLocals) {argsL rest : List Value} (hlen : ∀ sig, parseMethodDescriptor y.desc = some sig → argsL.length = sig.parameters.length)
    (hstack : g.stack = argsL.reverse ++ .ref b :: rest) (hW : 2 * g.monitorRoom + (rest.map fun v => v.category).sum ≤ W9) (hdg : decode c.code g.pc = .ok (.invokevirtual index, 3))
    (hpre : ∀ vm₁, s.WarmedH vm₁ → Pre ⟨T.setVm vm₁, locs, cells, slots⟩ (Value.ref b :: argsL).toArray) :
    (∃ (v : Option Value) (vm₁ : Vm) (B : Pt), s.WarmedH vm₁ ∧ Stand p l e R s m args below meth c B.U B.locs B.cells B.slots ∧ Post ⟨T.setVm vm₁, locs, cells, slots⟩ (Value.ref b :: argsL).toArray v B ∧
      ∀ target, Steps p.tables e below (B.U.setTop { g with pc := g.pc + 3, stack := v.toList ++ rest }) target → Steps p.tables e below (T.setTop g) target) ∨
    (∃ (q : Addr) (vm₁ : Vm) (B : Pt), s.WarmedH vm₁ ∧ Stand p l e R s m args below meth c B.U B.locs B.cells B.slots ∧ PostX ⟨T.setVm vm₁, locs, cells, slots⟩ (Value.ref b :: argsL).toArray q B ∧
      Steps p.tables e below (T.setTop g) ((B.U.setTop { g with stack := rest }).pushFrame (.throwing q))) := by
  obtain ⟨mk, methM, hnamed, hmethM, hstM, habM⟩ := Cond.instanceMethod_spec hinst
  obtain ⟨methM', cM, hmethM', -, -, -, -, -, -, hsigM⟩ := Cond.code_spec hnamed hcode
  cases hmethM.symm.trans hmethM'
  obtain ⟨c2, r2, m2, q1, q2, q3, q4, kP, hkP, hkPi⟩ := Cond.selects_spec hsel
  cases hcls.symm.trans q1
  cases (State.methodFound?_of_named hnamed hy).symm.trans q2
  cases hnamed.symm.trans q3
  have hselP : selectMethod e.platform s.vm cellB.cls mk = .method mk := by rw [Launch.admits_selectMethod X.admits]; exact q4
  obtain ⟨vm₁, X₁, hstep₁⟩ := X.invokevirtual hexec hown hlink hnamed hmethM hstM hkP hkPi hy (a := b) (cell := cellB) hcell
    (fun z h => by rw [h] at hobj; cases hobj) hselP hmethM habM hkP hkPi (g := g) hg (argsL := argsL) (rest := rest) (hlen _ hsigM) hstack hdg
  rcases hK m meth c ⟨T.setVm vm₁, locs, cells, slots⟩ { g with stack := rest } (.invokevirtual index) mk (Value.ref b :: argsL).toArray X₁ hg hsize hdg hW (X₁.named hnamed) (hpre vm₁ X₁.warmed) with ⟨v, B, X', hpost, hsteps⟩ | ⟨q, B, X', hpost, hsteps⟩
  · exact Or.inl ⟨v, vm₁, B, X₁.warmed, X', hpost, fun target h => hstep₁ _ fun acts => by rw [doInvoke_state]; exact hsteps.trans h⟩
  · exact Or.inr ⟨q, vm₁, B, X₁.warmed, X', hpost, hstep₁ _ fun acts => by rw [doInvoke_state]; exact hsteps⟩
theorem vx_callS (X : Stand p l e R s m args below meth c T locs cells slots) (hexec : p.tables.exec = Jvm.exec) {own : String} {index : Nat} {y : MethodName} {bytes : ByteArray} {maxL : Nat} {ret : Option FieldType}
    (hown : s.vm.findClass own = some m.cls) (hlink : (Cond.methodLink own index y).before args s = true) (hstat : (Cond.static y).before args s = true) (hinit : (Cond.initialized y.cls).before args s = true)
    (hcode : (Cond.code y bytes maxL ret).before args s = true) (hy : y.cls ≠ "java/lang/invoke/MethodHandle" ∧ y.cls ≠ "java/lang/invoke/VarHandle")
    {W9 : Nat} {Pre : Pt → Array Value → Prop} {Post : Pt → Array Value → Option Value → Pt → Prop} {PostX : Pt → Array Value → Addr → Pt → Prop} (hK : vx_Back l R p e below s args y 3 W9 Pre Post PostX)
    {g : JFrame} (hg : g.method = m) (hsize : g.locals.size = c.maxLocals) {argsL rest : List Value} (hlen : ∀ sig, parseMethodDescriptor y.desc = some sig → argsL.length = sig.parameters.length)
    (hstack : g.stack = argsL.reverse ++ rest) (hW : 2 * g.monitorRoom + (rest.map fun v => v.category).sum ≤ W9) (hdg : decode c.code g.pc = .ok (.invokestatic index, 3))
    (hpre : ∀ vm₁, s.WarmedH vm₁ → Pre ⟨T.setVm vm₁, locs, cells, slots⟩ argsL.toArray) :
    (∃ (v : Option Value) (vm₁ : Vm) (B : Pt), s.WarmedH vm₁ ∧ Stand p l e R s m args below meth c B.U B.locs B.cells B.slots ∧ Post ⟨T.setVm vm₁, locs, cells, slots⟩ argsL.toArray v B ∧
      ∀ target, Steps p.tables e below (B.U.setTop { g with pc := g.pc + 3, stack := v.toList ++ rest }) target → Steps p.tables e below (T.setTop g) target) ∨
    (∃ (q : Addr) (vm₁ : Vm) (B : Pt), s.WarmedH vm₁ ∧ Stand p l e R s m args below meth c B.U B.locs B.cells B.slots ∧ PostX ⟨T.setVm vm₁, locs, cells, slots⟩ argsL.toArray q B ∧
      Steps p.tables e below (T.setTop g) ((B.U.setTop { g with stack := rest }).pushFrame (.throwing q))) := by
  obtain ⟨mk, hnamed⟩ := Cond.code_named hcode
  obtain ⟨methM, cM, hmethM, -, -, -, -, -, -, hsigM⟩ := Cond.code_spec hnamed hcode
  have hstatic : methM.isStatic = true := Cond.static_spec hnamed hmethM hstat
  obtain ⟨kP, hkP, -⟩ := className_of_methodNamed hnamed
  have hinitP : kP.init = .initialized := Cond.initialized_spec (findClass_of_methodNamed hnamed) hkP hinit
  obtain ⟨vm₁, X₁, hstep₁⟩ := X.invokestatic hexec hown hlink hnamed hmethM hstatic hkP hinitP hy (g := g) hg (argsL := argsL) (rest := rest) (hlen _ hsigM) hstack hdg
  rcases hK m meth c ⟨T.setVm vm₁, locs, cells, slots⟩ { g with stack := rest } (.invokestatic index) mk argsL.toArray X₁ hg hsize hdg hW (X₁.named hnamed) (hpre vm₁ X₁.warmed) with ⟨v, B, X', hpost, hsteps⟩ | ⟨q, B, X', hpost, hsteps⟩
  · exact Or.inl ⟨v, vm₁, B, X₁.warmed, X', hpost, fun target h => hstep₁ _ fun acts => by rw [doInvoke_state]; exact hsteps.trans h⟩
  · exact Or.inr ⟨q, vm₁, B, X₁.warmed, X', hpost, hstep₁ _ fun acts => by rw [doInvoke_state]; exact hsteps⟩
end Calls
theorem vx_cls {s : State} {T : State} {vm₁ : Vm} {E : String} {k : ClassId} (hW : s.WarmedH vm₁) (h : (T.setVm vm₁).vm.findClass E = some k) : s.vm.findClass E = some k := by
  have h1 : vm₁.findClass E = some k := h
  rw [hW.alike.findClass] at h1
  exact h1
/-- the method's frame g, with q thrown over it -/
def vx_W (p : Program) (l : Launch) (e : Env) (R : Room) (s : State) (m : MethodId) (args : Array Value) (below : List Frame) (meth : Method) (c : Code) (H : Heap) (locs : List Loc) (cells slots : Nat) (Q : State → Prop) (g : JFrame) (q : Addr) : Prop :=
  ∀ T : State, T.heap = H → Stand p l e R s m args below meth c T locs cells slots → ∃ t, Steps p.tables e below ((T.setTop g).pushFrame (.throwing q)) t ∧ Q t
def vx_Run (p : Program) (l : Launch) (e : Env) (R : Room) (s : State) (m : MethodId) (args : Array Value) (below : List Frame) (meth : Method) (c : Code) (H : Heap) (locs : List Loc) (cells slots mc ms : Nat) (g : JFrame) (rest : List Value) (Qa : State → Outcome → State → Prop) (XC : String → State → State → Prop) (free : Addr → Prop) : Prop :=
  ∀ T : State, T.heap = H → Stand p l e R s m args below meth c T locs cells slots →
    (∃ (v : Option Value) (st₀ t T' : State) (L : List Loc), st₀.heap = H ∧ Stand p l e R s m args below meth c T' (locs ++ L) (cells + mc) (slots + ms) ∧ (∀ q ∈ L, free q.base) ∧ T'.heap = t.heap ∧ T'.vm = t.vm ∧ Qa st₀ (.returned v) t ∧
      Goes p e below T g T' { g with pc := g.pc + 3, stack := v.toList ++ rest }) ∨
    (∃ (q : Addr) (st₀ t T' : State) (L : List Loc) (E : String) (ce : Cell), st₀.heap = H ∧ Stand p l e R s m args below meth c T' (locs ++ L) (cells + mc) (slots + ms) ∧ (∀ z ∈ L, free z.base) ∧ T'.heap = t.heap ∧ T'.vm = t.vm ∧ XC E st₀ t ∧ t.heap[q]? = some ce ∧ ce.vm = .none ∧ s.vm.findClass E = some ce.cls ∧
      Steps p.tables e below (T.setTop g) ((T'.setTop { g with stack := rest }).pushFrame (.throwing q)))
def vx_X {S : Type} (px : S → Prop) (B : String → S → State → Prop) (A : Nat → Prop) : String → State → State → Prop := fun E st t => ∃ u : S, px u ∧ B E u t ∧ va_F A st t
section Runs
variable {p : Program} {l : Launch} {e : Env} {R : Room} {s : State} {m : MethodId} {args : Array Value} {below : List Frame} {meth : Method} {c : Code} {H : Heap} {locs : List Loc} {cells slots : Nat}
variable {y : MethodName} {bytes cc : ByteArray} {maxL nL mc ms n index : Nat} {ret : Option FieldType} {ws : List Cond} {rm : Room} {Pc : Array Value → State → Prop} {Qc : Array Value → State → Outcome → State → Prop} {XC : String → State → State → Prop} {free : Addr → Prop} {Ts : List Cond} {own C : String} {b : Addr} {As rest : List Value} {g : JFrame}
theorem vx_callBack (cb : CallB R s args own index y bytes maxL ret ws rm mc ms n) (hM : vx_Met l y ws rm Pc Qc XC mc ms free) (hbl : FrameBlind Pc) : vx_Back l R p e below s args y 3 8 (PreOf R mc ms Pc) (PostOf Qc mc ms free) (vx_Post XC mc ms free) := by
  obtain ⟨hrc, hrs, hfr, hlo, hws, hcw, -, hini, -⟩ := cb
  exact vx_back (bytes := bytes) (maxL := maxL) (ret := ret) hM hbl hrc hrs hfr hlo hws hcw (fun a' U hW => word_at hW (Or.inl (by first | rfl | simp [Cond.onTables, Cond.keeps, Cond.steady])) hini)
theorem vx_runV (S : CallFix p m c cc nL s args Ts own) (hM : vx_Met l y ws rm Pc Qc XC mc ms free) (cw : CallW R s args own C index y bytes maxL ret ws rm mc ms n) (hp : PreV s H C b Pc As)
    (hg : g.method = m) (hn : As.length = n) (hsize : g.locals.size = nL) (hstack : g.stack = As.reverse ++ .ref b :: rest) (hW : 2 * g.monitorRoom + (rest.map fun v => v.category).sum ≤ 8) (hdg : decode cc g.pc = .ok (.invokevirtual index, 3)) (hf : cells + mc ≤ R.cells ∧ slots + ms ≤ R.slots) :
    vx_Run p l e R s m args below meth c H locs cells slots mc ms g rest (Qc (Value.ref b :: As).toArray) XC free := by
  have hK : vx_Back l R p e below s args y 3 8 (PreOf R mc ms Pc) (PostOf Qc mc ms free) (vx_Post XC mc ms free) := vx_callBack cw.1 hM hp.1
  obtain ⟨⟨-, -, -, -, -, -, hcode, -, hy, hlen, hl⟩, hin, hse⟩ := cw
  obtain ⟨hx, hb, hml, ho, -⟩ := S
  obtain ⟨-, ⟨cellB, hcB, hoB, hclB⟩, hPc⟩ := hp
  intro T hT X
  rcases vx_callV X hx (C := C) (bytes := bytes) (maxL := maxL) (ret := ret) ho hl hin hse hcode hy hK (by rw [hT]; exact hcB) hoB hclB hg (hsize.trans hml.symm) (argsL := As) (rest := rest) (fun sig h => hn.trans (hlen sig h)) hstack hW (by rw [hb]; exact hdg)
    (fun vm₁ hW₁ => ⟨hf.1, hf.2, hPc (T.setVm vm₁) hT hW₁⟩) with ⟨v, vm₁, ⟨U', l2, c2, s2⟩, hW₁, X', ⟨g', mk, t, L, e1, e2, hq, h1, hL, h2, h3⟩, st⟩ | ⟨q, vm₁, ⟨U', l2, c2, s2⟩, hW₁, X', ⟨g', mk, t, L, E, ce, e1, e2, hq, hce, hcv, hcl, h1, hL, h2, h3⟩, st⟩
  · dsimp only [Pt.U, Pt.locs, Pt.cells, Pt.slots] at X' e1 e2 h1 h2 h3 st
    subst h1; subst h2; subst h3
    exact Or.inl ⟨v, (T.setVm vm₁).calling g' mk (Value.ref b :: As).toArray, t, U', L, hT, X', hL, e1, e2, hq, st⟩
  · dsimp only [Pt.U, Pt.locs, Pt.cells, Pt.slots] at X' e1 e2 h1 h2 h3 st hcl
    subst h1; subst h2; subst h3
    exact Or.inr ⟨q, (T.setVm vm₁).calling g' mk (Value.ref b :: As).toArray, t, U', L, E, ce, hT, X', hL, e1, e2, hq, hce, hcv, vx_cls hW₁ hcl, st⟩
theorem vx_runS (S : CallFix p m c cc nL s args Ts own) (hM : vx_Met l y ws rm Pc Qc XC mc ms free) (cw : CallB R s args own index y bytes maxL ret ws rm mc ms n ∧ (Cond.static y).before args s = true) (hp : PreS s H Pc As)
    (hg : g.method = m) (hn : As.length = n) (hsize : g.locals.size = nL) (hstack : g.stack = As.reverse ++ rest) (hW : 2 * g.monitorRoom + (rest.map fun v => v.category).sum ≤ 8) (hdg : decode cc g.pc = .ok (.invokestatic index, 3)) (hf : cells + mc ≤ R.cells ∧ slots + ms ≤ R.slots) :
    vx_Run p l e R s m args below meth c H locs cells slots mc ms g rest (Qc As.toArray) XC free := by
  have hK : vx_Back l R p e below s args y 3 8 (PreOf R mc ms Pc) (PostOf Qc mc ms free) (vx_Post XC mc ms free) := vx_callBack cw.1 hM hp.1
  obtain ⟨⟨-, -, -, -, -, -, hcode, hini, hy, hlen, hl⟩, hstt⟩ := cw
  obtain ⟨hx, hb, hml, ho, -⟩ := S
  intro T hT X
  rcases vx_callS X hx (bytes := bytes) (maxL := maxL) (ret := ret) ho hl hstt hini hcode hy hK hg (hsize.trans hml.symm) (argsL := As) (rest := rest) (fun sig h => hn.trans (hlen sig h)) hstack hW (by rw [hb]; exact hdg)
    (fun vm₁ hW₁ => ⟨hf.1, hf.2, hp.2 (T.setVm vm₁) hT hW₁⟩) with ⟨v, vm₁, ⟨U', l2, c2, s2⟩, hW₁, X', ⟨g', mk, t, L, e1, e2, hq, h1, hL, h2, h3⟩, st⟩ | ⟨q, vm₁, ⟨U', l2, c2, s2⟩, hW₁, X', ⟨g', mk, t, L, E, ce, e1, e2, hq, hce, hcv, hcl, h1, hL, h2, h3⟩, st⟩
  · dsimp only [Pt.U, Pt.locs, Pt.cells, Pt.slots] at X' e1 e2 h1 h2 h3 st
    subst h1; subst h2; subst h3
    exact Or.inl ⟨v, (T.setVm vm₁).calling g' mk As.toArray, t, U', L, hT, X', hL, e1, e2, hq, st⟩
  · dsimp only [Pt.U, Pt.locs, Pt.cells, Pt.slots] at X' e1 e2 h1 h2 h3 st hcl
    subst h1; subst h2; subst h3
    exact Or.inr ⟨q, (T.setVm vm₁).calling g' mk As.toArray, t, U', L, E, ce, hT, X', hL, e1, e2, hq, hce, hcv, vx_cls hW₁ hcl, st⟩
end Runs
section Rows
variable {p : Program} {l : Launch} {e : Env} {R : Room} {s : State} {m : MethodId} {args : Array Value} {below : List Frame} {meth : Method} {c : Code} {H : Heap} {locs : List Loc} {cells slots : Nat} {Q : State → Prop}
variable {mc ms : Nat} {free : Addr → Prop} {A0 A1 : Nat → Prop} {H0 : Heap} {a : Array Value} {pc : Nat} {ls : Array Slot} {st0 rest : List Value}
theorem vx_keep {st₀ t T' : State} {L : List Loc} (h0 : st₀.heap = H) (e1 : T'.heap = t.heap) (hS : va_S A0 H0 H locs) (hA : ∀ q, q < H.size → A1 q → A0 q) (hf : ∀ q, free q → A0 q) (hL : ∀ q ∈ L, free q.base) (hF : va_F A1 st₀ t) :
    H.size ≤ T'.heap.size ∧ (∀ q : Nat, q < H.size → ¬ A1 q → T'.heap[q]? = H[q]?) ∧ va_S A0 H0 T'.heap (locs ++ L) := by
  obtain ⟨hz, hk⟩ := hF
  rw [h0] at hz hk
  exact ⟨by rw [e1]; exact hz, fun q h1 h2 => by rw [e1]; exact hk q h1 h2,
    ⟨Nat.le_trans hS.1 (by rw [e1]; exact hz), fun q h1 h2 => by rw [e1, hk q (Nat.lt_of_lt_of_le h1 hS.1) (fun z => h2 (hA q (Nat.lt_of_lt_of_le h1 hS.1) z))]; exact hS.2.1 q h1 h2, fun q hq => by
      rcases List.mem_append.mp hq with h | h
      · exact hS.2.2 q h
      · exact hf _ (hL q h)⟩⟩
theorem vx_calli {S SX : Type} {post : Int32 → S → Prop} {px : SX → Prop} {B : S → State → Prop} {BX : String → SX → State → Prop} {AX : Nat → Prop} (hr : vx_Run p l e R s m args below meth c H locs cells slots mc ms (F0 m pc ls st0) rest (va_Qi post B A1 a) (vx_X px BX AX) free) (hS : va_S A0 H0 H locs) (hA : ∀ q, q < H.size → A1 q → A0 q) (hf : ∀ q, free q → A0 q) (hAX : ∀ q, q < H.size → AX q → A0 q)
    (kx : ∀ (E : String) (ce : Cell) (q9 : Addr) (u : SX) (t : State) (H1 : Heap) (locs1 : List Loc), t.heap = H1 → s.vm.Alike t.vm → px u → BX E u t → H.size ≤ H1.size → (∀ q : Nat, q < H.size → ¬ AX q → H1[q]? = H[q]?) → va_S A0 H0 H1 locs1 → H1[q9]? = some ce → ce.vm = .none → s.vm.findClass E = some ce.cls → vx_W p l e R s m args below meth c H1 locs1 (cells + mc) (slots + ms) Q (F0 m pc ls rest) q9)
    (kk : ∀ (r : Int32) (u : S) (t : State) (H1 : Heap) (locs1 : List Loc), t.heap = H1 → s.vm.Alike t.vm → post r u → B u t → H.size ≤ H1.size → (∀ q : Nat, q < H.size → ¬ A1 q → H1[q]? = H[q]?) → va_S A0 H0 H1 locs1 → W p l e R s m args below meth c H1 locs1 (cells + mc) (slots + ms) Q (F0 m (pc + 3) ls (.int r :: rest))) : W p l e R s m args below meth c H locs cells slots Q (F0 m pc ls st0) := by
  intro T hT X
  rcases hr T hT X with ⟨v, st₀, t, T', L, h0, X', hL, e1, e2, ⟨⟨r, u, hv, hp, hb⟩, hF⟩, st⟩ | ⟨q, st₀, t, T', L, E, ce, h0, X', hL, e1, e2, ⟨u, hp, hb, hF⟩, hce, hcv, hcl, st⟩
  · cases hv
    obtain ⟨k1, k2, k3⟩ := vx_keep h0 e1 hS hA hf hL hF
    obtain ⟨t2, a1, b1⟩ := kk r u t T'.heap (locs ++ L) e1.symm (by rw [← e2]; exact X'.warmed.alike) hp hb k1 k2 k3 T' rfl X'
    exact ⟨t2, st t2 a1, b1⟩
  · obtain ⟨k1, k2, k3⟩ := vx_keep h0 e1 hS hAX hf hL hF
    obtain ⟨t2, a1, b1⟩ := kx E ce q u t T'.heap (locs ++ L) e1.symm (by rw [← e2]; exact X'.warmed.alike) hp hb k1 k2 k3 (by rw [e1]; exact hce) hcv hcl T' rfl X'
    exact ⟨t2, st.trans a1, b1⟩
theorem vx_calll {S SX : Type} {post : Int64 → S → Prop} {px : SX → Prop} {B : S → State → Prop} {BX : String → SX → State → Prop} {AX : Nat → Prop} (hr : vx_Run p l e R s m args below meth c H locs cells slots mc ms (F0 m pc ls st0) rest (va_Ql post B A1 a) (vx_X px BX AX) free) (hS : va_S A0 H0 H locs) (hA : ∀ q, q < H.size → A1 q → A0 q) (hf : ∀ q, free q → A0 q) (hAX : ∀ q, q < H.size → AX q → A0 q)
    (kx : ∀ (E : String) (ce : Cell) (q9 : Addr) (u : SX) (t : State) (H1 : Heap) (locs1 : List Loc), t.heap = H1 → s.vm.Alike t.vm → px u → BX E u t → H.size ≤ H1.size → (∀ q : Nat, q < H.size → ¬ AX q → H1[q]? = H[q]?) → va_S A0 H0 H1 locs1 → H1[q9]? = some ce → ce.vm = .none → s.vm.findClass E = some ce.cls → vx_W p l e R s m args below meth c H1 locs1 (cells + mc) (slots + ms) Q (F0 m pc ls rest) q9)
    (kk : ∀ (r : Int64) (u : S) (t : State) (H1 : Heap) (locs1 : List Loc), t.heap = H1 → s.vm.Alike t.vm → post r u → B u t → H.size ≤ H1.size → (∀ q : Nat, q < H.size → ¬ A1 q → H1[q]? = H[q]?) → va_S A0 H0 H1 locs1 → W p l e R s m args below meth c H1 locs1 (cells + mc) (slots + ms) Q (F0 m (pc + 3) ls (.long r :: rest))) : W p l e R s m args below meth c H locs cells slots Q (F0 m pc ls st0) := by
  intro T hT X
  rcases hr T hT X with ⟨v, st₀, t, T', L, h0, X', hL, e1, e2, ⟨⟨r, u, hv, hp, hb⟩, hF⟩, st⟩ | ⟨q, st₀, t, T', L, E, ce, h0, X', hL, e1, e2, ⟨u, hp, hb, hF⟩, hce, hcv, hcl, st⟩
  · cases hv
    obtain ⟨k1, k2, k3⟩ := vx_keep h0 e1 hS hA hf hL hF
    obtain ⟨t2, a1, b1⟩ := kk r u t T'.heap (locs ++ L) e1.symm (by rw [← e2]; exact X'.warmed.alike) hp hb k1 k2 k3 T' rfl X'
    exact ⟨t2, st t2 a1, b1⟩
  · obtain ⟨k1, k2, k3⟩ := vx_keep h0 e1 hS hAX hf hL hF
    obtain ⟨t2, a1, b1⟩ := kx E ce q u t T'.heap (locs ++ L) e1.symm (by rw [← e2]; exact X'.warmed.alike) hp hb k1 k2 k3 (by rw [e1]; exact hce) hcv hcl T' rfl X'
    exact ⟨t2, st.trans a1, b1⟩
theorem vx_callf {S SX : Type} {post : UInt32 → S → Prop} {px : SX → Prop} {B : S → State → Prop} {BX : String → SX → State → Prop} {AX : Nat → Prop} (hr : vx_Run p l e R s m args below meth c H locs cells slots mc ms (F0 m pc ls st0) rest (va_Qf post B A1 a) (vx_X px BX AX) free) (hS : va_S A0 H0 H locs) (hA : ∀ q, q < H.size → A1 q → A0 q) (hf : ∀ q, free q → A0 q) (hAX : ∀ q, q < H.size → AX q → A0 q)
    (kx : ∀ (E : String) (ce : Cell) (q9 : Addr) (u : SX) (t : State) (H1 : Heap) (locs1 : List Loc), t.heap = H1 → s.vm.Alike t.vm → px u → BX E u t → H.size ≤ H1.size → (∀ q : Nat, q < H.size → ¬ AX q → H1[q]? = H[q]?) → va_S A0 H0 H1 locs1 → H1[q9]? = some ce → ce.vm = .none → s.vm.findClass E = some ce.cls → vx_W p l e R s m args below meth c H1 locs1 (cells + mc) (slots + ms) Q (F0 m pc ls rest) q9)
    (kk : ∀ (r : UInt32) (u : S) (t : State) (H1 : Heap) (locs1 : List Loc), t.heap = H1 → s.vm.Alike t.vm → post r u → B u t → H.size ≤ H1.size → (∀ q : Nat, q < H.size → ¬ A1 q → H1[q]? = H[q]?) → va_S A0 H0 H1 locs1 → W p l e R s m args below meth c H1 locs1 (cells + mc) (slots + ms) Q (F0 m (pc + 3) ls (.float r :: rest))) : W p l e R s m args below meth c H locs cells slots Q (F0 m pc ls st0) := by
  intro T hT X
  rcases hr T hT X with ⟨v, st₀, t, T', L, h0, X', hL, e1, e2, ⟨⟨r, u, hv, hp, hb⟩, hF⟩, st⟩ | ⟨q, st₀, t, T', L, E, ce, h0, X', hL, e1, e2, ⟨u, hp, hb, hF⟩, hce, hcv, hcl, st⟩
  · cases hv
    obtain ⟨k1, k2, k3⟩ := vx_keep h0 e1 hS hA hf hL hF
    obtain ⟨t2, a1, b1⟩ := kk r u t T'.heap (locs ++ L) e1.symm (by rw [← e2]; exact X'.warmed.alike) hp hb k1 k2 k3 T' rfl X'
    exact ⟨t2, st t2 a1, b1⟩
  · obtain ⟨k1, k2, k3⟩ := vx_keep h0 e1 hS hAX hf hL hF
    obtain ⟨t2, a1, b1⟩ := kx E ce q u t T'.heap (locs ++ L) e1.symm (by rw [← e2]; exact X'.warmed.alike) hp hb k1 k2 k3 (by rw [e1]; exact hce) hcv hcl T' rfl X'
    exact ⟨t2, st.trans a1, b1⟩
theorem vx_calld {S SX : Type} {post : UInt64 → S → Prop} {px : SX → Prop} {B : S → State → Prop} {BX : String → SX → State → Prop} {AX : Nat → Prop} (hr : vx_Run p l e R s m args below meth c H locs cells slots mc ms (F0 m pc ls st0) rest (va_Qd post B A1 a) (vx_X px BX AX) free) (hS : va_S A0 H0 H locs) (hA : ∀ q, q < H.size → A1 q → A0 q) (hf : ∀ q, free q → A0 q) (hAX : ∀ q, q < H.size → AX q → A0 q)
    (kx : ∀ (E : String) (ce : Cell) (q9 : Addr) (u : SX) (t : State) (H1 : Heap) (locs1 : List Loc), t.heap = H1 → s.vm.Alike t.vm → px u → BX E u t → H.size ≤ H1.size → (∀ q : Nat, q < H.size → ¬ AX q → H1[q]? = H[q]?) → va_S A0 H0 H1 locs1 → H1[q9]? = some ce → ce.vm = .none → s.vm.findClass E = some ce.cls → vx_W p l e R s m args below meth c H1 locs1 (cells + mc) (slots + ms) Q (F0 m pc ls rest) q9)
    (kk : ∀ (r : UInt64) (u : S) (t : State) (H1 : Heap) (locs1 : List Loc), t.heap = H1 → s.vm.Alike t.vm → post r u → B u t → H.size ≤ H1.size → (∀ q : Nat, q < H.size → ¬ A1 q → H1[q]? = H[q]?) → va_S A0 H0 H1 locs1 → W p l e R s m args below meth c H1 locs1 (cells + mc) (slots + ms) Q (F0 m (pc + 3) ls (.double r :: rest))) : W p l e R s m args below meth c H locs cells slots Q (F0 m pc ls st0) := by
  intro T hT X
  rcases hr T hT X with ⟨v, st₀, t, T', L, h0, X', hL, e1, e2, ⟨⟨r, u, hv, hp, hb⟩, hF⟩, st⟩ | ⟨q, st₀, t, T', L, E, ce, h0, X', hL, e1, e2, ⟨u, hp, hb, hF⟩, hce, hcv, hcl, st⟩
  · cases hv
    obtain ⟨k1, k2, k3⟩ := vx_keep h0 e1 hS hA hf hL hF
    obtain ⟨t2, a1, b1⟩ := kk r u t T'.heap (locs ++ L) e1.symm (by rw [← e2]; exact X'.warmed.alike) hp hb k1 k2 k3 T' rfl X'
    exact ⟨t2, st t2 a1, b1⟩
  · obtain ⟨k1, k2, k3⟩ := vx_keep h0 e1 hS hAX hf hL hF
    obtain ⟨t2, a1, b1⟩ := kx E ce q u t T'.heap (locs ++ L) e1.symm (by rw [← e2]; exact X'.warmed.alike) hp hb k1 k2 k3 (by rw [e1]; exact hce) hcv hcl T' rfl X'
    exact ⟨t2, st.trans a1, b1⟩
theorem vx_callv {S SX : Type} {post : S → Prop} {px : SX → Prop} {B : S → State → Prop} {BX : String → SX → State → Prop} {AX : Nat → Prop} (hr : vx_Run p l e R s m args below meth c H locs cells slots mc ms (F0 m pc ls st0) rest (va_Qv post B A1 a) (vx_X px BX AX) free) (hS : va_S A0 H0 H locs) (hA : ∀ q, q < H.size → A1 q → A0 q) (hf : ∀ q, free q → A0 q) (hAX : ∀ q, q < H.size → AX q → A0 q)
    (kx : ∀ (E : String) (ce : Cell) (q9 : Addr) (u : SX) (t : State) (H1 : Heap) (locs1 : List Loc), t.heap = H1 → s.vm.Alike t.vm → px u → BX E u t → H.size ≤ H1.size → (∀ q : Nat, q < H.size → ¬ AX q → H1[q]? = H[q]?) → va_S A0 H0 H1 locs1 → H1[q9]? = some ce → ce.vm = .none → s.vm.findClass E = some ce.cls → vx_W p l e R s m args below meth c H1 locs1 (cells + mc) (slots + ms) Q (F0 m pc ls rest) q9)
    (kk : ∀ (u : S) (t : State) (H1 : Heap) (locs1 : List Loc), t.heap = H1 → s.vm.Alike t.vm → post u → B u t → H.size ≤ H1.size → (∀ q : Nat, q < H.size → ¬ A1 q → H1[q]? = H[q]?) → va_S A0 H0 H1 locs1 → W p l e R s m args below meth c H1 locs1 (cells + mc) (slots + ms) Q (F0 m (pc + 3) ls (rest))) : W p l e R s m args below meth c H locs cells slots Q (F0 m pc ls st0) := by
  intro T hT X
  rcases hr T hT X with ⟨v, st₀, t, T', L, h0, X', hL, e1, e2, ⟨⟨u, hv, hp, hb⟩, hF⟩, st⟩ | ⟨q, st₀, t, T', L, E, ce, h0, X', hL, e1, e2, ⟨u, hp, hb, hF⟩, hce, hcv, hcl, st⟩
  · cases hv
    obtain ⟨k1, k2, k3⟩ := vx_keep h0 e1 hS hA hf hL hF
    obtain ⟨t2, a1, b1⟩ := kk u t T'.heap (locs ++ L) e1.symm (by rw [← e2]; exact X'.warmed.alike) hp hb k1 k2 k3 T' rfl X'
    exact ⟨t2, st t2 a1, b1⟩
  · obtain ⟨k1, k2, k3⟩ := vx_keep h0 e1 hS hAX hf hL hF
    obtain ⟨t2, a1, b1⟩ := kx E ce q u t T'.heap (locs ++ L) e1.symm (by rw [← e2]; exact X'.warmed.alike) hp hb k1 k2 k3 (by rw [e1]; exact hce) hcv hcl T' rfl X'
    exact ⟨t2, st.trans a1, b1⟩
/-- caught by the row x of this method's table; the rows ahead don't take it -/
theorem vx_catch {own name : String} {E : String} {ce : Cell} {q : Addr} (hown : s.vm.findClass own = some m.cls) (pre : List ExceptionTableEntry) (x : ExceptionTableEntry) (suf : List ExceptionTableEntry) (hsplit : c.exceptionTable.toList = pre ++ x :: suf)
    (hpass : ∀ z ∈ pre, covers z pc = false ∨ (z.catchType ≠ 0 ∧ ∃ nm : String, (Cond.classLink own z.catchType nm).before args s = true ∧ va_Nc E nm s)) (hx : covers x pc = true) (h0 : x.catchType ≠ 0)
    (hlink : (Cond.classLink own x.catchType name).before args s = true) (hcast : (Cond.castable E name).before args s = true) (hcell : H[q]? = some ce) (hv : ce.vm = .none) (hcl : s.vm.findClass E = some ce.cls)
    (kk : W p l e R s m args below meth c H locs cells slots Q (F0 m x.handlerPc ls [.ref q])) : vx_W p l e R s m args below meth c H locs cells slots Q (F0 m pc ls rest) q := by
  intro T hT X
  have hpl : e.platform.magicAccessors = ({} : Platform).magicAccessors := by rw [X.admits.platform]
  obtain ⟨c3, c4, hc3, hc4, hasg⟩ := Cond.castable_spec hcast
  cases Option.some.inj (hc3.symm.trans hcl)
  obtain ⟨c5, hc5, hcl5⟩ := Cond.classLink_spec hown hlink e.platform hpl
  cases Option.some.inj (hc4.symm.trans hc5)
  obtain ⟨vm', X', st⟩ := X.thenCaughtThrough q (g := F0 m pc ls rest) rfl (Steps.refl _) (by rw [hT]; exact hcell) (by rw [hv]; rfl) (by obtain ⟨k9, h9, -⟩ := Vm.findClass_spec hcl; exact ⟨k9, h9⟩) pre x suf hsplit
    (fun z hz => by
      rcases hpass z hz with h | ⟨hz0, nm, hl1, hn1⟩
      · exact Or.inl h
      · obtain ⟨c6, hc6, hcl6⟩ := Cond.classLink_spec hown hl1 e.platform hpl
        obtain ⟨a8, b8, h1, h2, h3⟩ := hn1
        cases Option.some.inj (h1.symm.trans hcl)
        cases Option.some.inj (h2.symm.trans hc6)
        exact Or.inr ⟨hz0, _, hcl6, h3⟩) hx (Or.inr ⟨h0, c4, hcl5, hasg⟩)
  obtain ⟨t, a1, b1⟩ := kk (T.setVm vm') hT X'
  exact ⟨t, st.trans a1, b1⟩
end Rows
section Ends
variable {p : Program} {l : Launch} {e : Env} {R : Room} {s : State} {m : MethodId} {args : Array Value} {below : List Frame} {meth : Method} {c : Code} {H : Heap} {locs : List Loc} {cells slots : Nat} {Q : State → Prop}
variable {mc ms : Nat} {free : Addr → Prop} {A0 A1 : Nat → Prop} {H0 : Heap} {a : Array Value} {ls : Array Slot} {st0 rest : List Value}
variable {Qc : Array Value → State → Outcome → State → Prop} {XC : String → State → State → Prop}
/-- what a body that may throw owes at its end -/
def vx_MQ (below : List Frame) (Qc : Array Value → State → Outcome → State → Prop) (XC : String → State → State → Prop) (a : Array Value) (s : State) (mc ms : Nat) (free : Addr → Prop) : State → Prop := fun t =>
  ∃ o, t.status = .running ∧ Ended t below o ∧ vx_Q Qc XC mc ms free a s o t
theorem vx_ret {g : JFrame} {mc ms : Nat} (k : W p l e R s m args below meth c H locs cells slots (MQ below Qc args s mc ms free) g) : W p l e R s m args below meth c H locs cells slots (vx_MQ below Qc XC args s mc ms free) g := by
  intro T hT X
  obtain ⟨t, a1, o, b1, b2, b3, b4⟩ := k T hT X
  exact ⟨t, a1, o, b1, b2, Or.inl ⟨b3, b4⟩⟩
/-- not caught here: it goes on to the caller -/
theorem vx_widen {g : JFrame} {q : Addr} {k n : Nat} (h1 : cells ≤ k) (h2 : slots ≤ n) (kk : vx_W p l e R s m args below meth c H locs k n Q g q) : vx_W p l e R s m args below meth c H locs cells slots Q g q := fun T hT X => kk T hT (stand_widen X h1 h2)
theorem vx_out {pc : Nat} {E : String} {ce : Cell} {q : Addr} {mc ms : Nat} (hout : ∀ x ∈ c.exceptionTable.toList, covers x pc = false) (hlocks : meth.locks = false) (hcell : H[q]? = some ce) (hv : ce.vm = .none) (hcl : s.vm.findClass E = some ce.cls)
    (hx : ∀ t : State, t.heap = H → s.vm.Alike t.vm → XC E s t) (hf : ∀ z ∈ locs, free z.base) (hc : cells ≤ mc) (hs : slots ≤ ms) :
    vx_W p l e R s m args below meth c H locs cells slots (vx_MQ below Qc XC args s mc ms free) (F0 m pc ls rest) q := by
  intro T hT X
  obtain ⟨st1, hrun, hend, hW, hsm⟩ := X.leaveThrown q (g := F0 m pc ls rest) rfl rfl rfl hout hlocks
  have hcell9 : (T.setFrames (.throwing q :: below)).heap[q]? = some ce := by
    show T.heap[q]? = some ce
    rw [hT]; exact hcell
  exact ⟨_, st1, .threw q, hrun, hend, Or.inr ⟨q, rfl, E, ce, locs, hx _ hT hW.alike, hcell9, hv, hcl, hW, hsm.mono hc hs, hf⟩⟩
theorem vx_frame {U : State} {k n : Nat} (h : s.sameButNew ({ U with vm := s.vm } : State) locs k n) : s.heap.size ≤ U.heap.size ∧ ∀ q : Nat, q < s.heap.size → (∀ z ∈ locs, z.base ≠ q) → U.heap[q]? = s.heap[q]? := by
  obtain ⟨-, h2, -, -, -, h6⟩ := h
  refine ⟨h2, fun q hq hz => ?_⟩
  obtain ⟨c9, e1, e2, e3, e4⟩ := h6 q _ (Array.getElem?_eq_getElem hq)
  have hs : c9.slots = (s.heap[q]).slots := Array.ext_getElem? fun i => e4 i fun hm => hz _ hm rfl
  have h9 : c9 = s.heap[q] := by
    rw [hs] at e2
    exact e2
  have e5 : U.heap[q]? = some c9 := e1
  rw [e5, h9, Array.getElem?_eq_getElem hq]
/-- the words of a throw but the four that speak of the heap -/
def vx_no (w : Cond) : Bool := decide (w ≠ .isRef (.static Bundle.tN "UNASSIGNED_STACK" Bundle.steD)) && decide (w ≠ .isRef (.static Bundle.tN "SUPPRESSED_SENTINEL" Bundle.listD)) && decide (w ≠ .laysStatic Bundle.tN "UNASSIGNED_STACK" Bundle.steD) && decide (w ≠ .laysStatic Bundle.tN "SUPPRESSED_SENTINEL" Bundle.listD)
def vx_at0 (own : String) (ic : Nat) (X : String) (names : List String) : List Cond := (Bundle.ownAtoms0 own ic X names).filter vx_no
def vx_atS (own : String) (ic : Nat) (X : String) (names : List String) : List Cond := (Bundle.ownAtoms own ic X names).filter vx_no
/-- a word that the tables alone decide, or a good one -/
def vx_ot (w : Cond) : Bool := w.onTables || goodWord w
theorem vx_ot_at {args a' : Array Value} {s U : State} {w : Cond} (hW : s.WarmedH U.vm) (hvm : s.vm = U.vm) (hg : vx_ot w = true) (h : w.before args s = true) : w.before a' U = true := by
  simp only [vx_ot, Bool.or_eq_true] at hg
  rcases hg with hg | hg
  · exact va_tabs hg hvm h
  · exact word_at hW (good_of_word hg) h
/-- a list's words: the good ones out of the method's own list, the others by premises of their own -/
theorem vx_hat {args : Array Value} {s : State} {L B : List Cond} (h1 : ∀ w ∈ L.filter goodWord, w.before args s = true) (h2 : ∀ w ∈ L.filter (fun w => !goodWord w), w ∈ B) (h3 : ∀ w ∈ B, w.before args s = true) : ∀ w ∈ L, w.before args s = true := by
  intro w hw
  by_cases g : goodWord w = true
  · exact h1 w (List.mem_filter.mpr ⟨hw, g⟩)
  · refine h3 w (h2 w (List.mem_filter.mpr ⟨hw, ?_⟩))
    show (!goodWord w) = true
    cases hgw : goodWord w
    · rfl
    · exact absurd hgw g
theorem vx_c {args : Array Value} {s : State} {w : Cond} {B : List Cond} (h : w.before args s = true) (t : ∀ w ∈ B, w.before args s = true) : ∀ w' ∈ w :: B, w'.before args s = true := fun w' h' => (List.mem_cons.mp h').elim (fun e => by rw [e]; exact h) (t w')
theorem vx_n {args : Array Value} {s : State} : ∀ w ∈ ([] : List Cond), w.before args s = true := fun _ h => nomatch h
theorem vx_own {args : Array Value} {s : State} {L : List Cond} (h1 : ∀ w ∈ L.filter vx_no, w.before args s = true)
    (hU : (Cond.isRef (.static Bundle.tN "UNASSIGNED_STACK" Bundle.steD)).before args s = true) (hN : (Cond.isRef (.static Bundle.tN "SUPPRESSED_SENTINEL" Bundle.listD)).before args s = true)
    (lU : (Cond.laysStatic Bundle.tN "UNASSIGNED_STACK" Bundle.steD).before args s = true) (lN : (Cond.laysStatic Bundle.tN "SUPPRESSED_SENTINEL" Bundle.listD).before args s = true) : ∀ w ∈ L, w.before args s = true := by
  intro w hw
  by_cases e1 : w = .isRef (.static Bundle.tN "UNASSIGNED_STACK" Bundle.steD)
  · rw [e1]; exact hU
  · by_cases e2 : w = .isRef (.static Bundle.tN "SUPPRESSED_SENTINEL" Bundle.listD)
    · rw [e2]; exact hN
    · by_cases e3 : w = .laysStatic Bundle.tN "UNASSIGNED_STACK" Bundle.steD
      · rw [e3]; exact lU
      · by_cases e4 : w = .laysStatic Bundle.tN "SUPPRESSED_SENTINEL" Bundle.listD
        · rw [e4]; exact lN
        · exact h1 w (List.mem_filter.mpr ⟨hw, by unfold vx_no; rw [decide_eq_true e1, decide_eq_true e2, decide_eq_true e3, decide_eq_true e4]; rfl⟩)
/-- where a static field lies, its class's statics cell in H -/
def vx_L (C n d : String) (A : Nat → Prop) (U : State) (H : Heap) : Prop := ∃ (c : ClassId) (k : Class) (i : Nat) (f : Field) (a : Nat) (cell : Cell), U.vm.findClass C = some c ∧ U.fieldFound? C n d = some (c, k, i, f) ∧ f.isStatic = true ∧ k.statics = some a ∧ H[a]? = some cell ∧ cell.vm.isStatics = true ∧ cell.cls = c ∧ f.slot < cell.slots.size ∧ k.staticTypes[f.slot]? = some f.type ∧ ¬ A a
theorem vx_L.moved {C n d : String} {A : Nat → Prop} {u U : State} {H : Heap} (hvm : u.vm.Alike U.vm) (h : vx_L C n d A u H) : vx_L C n d A U H := by
  obtain ⟨c, k, i, f, a, cell, h1, h2, h3, h4, h5, h6, h7, h8, h9, h10⟩ := h
  obtain ⟨k', hi', he⟩ := State.fieldFound?_setVm hvm h2
  exact ⟨c, k', i, f, a, cell, by rw [hvm.findClass]; exact h1, hi', h3, by rw [he]; exact h4, h5, h6, h7, h8, by rw [he]; exact h9, h10⟩
theorem vx_L.kept {C n d : String} {A : Nat → Prop} {U : State} {H H1 : Heap} (h : vx_L C n d A U H) (hq : ∀ a : Nat, a < H.size → ¬ A a → H1[a]? = H[a]?) : vx_L C n d A U H1 := by
  obtain ⟨c, k, i, f, a, cell, h1, h2, h3, h4, h5, h6, h7, h8, h9, h10⟩ := h
  exact ⟨c, k, i, f, a, cell, h1, h2, h3, h4, by rw [hq a (Array.getElem?_eq_some_iff.mp h5).1 h10]; exact h5, h6, h7, h8, h9, h10⟩
theorem vx_L.narrow {C n d : String} {A B : Nat → Prop} {U : State} {H : Heap} (h : vx_L C n d A U H) (hAB : ∀ q, B q → A q) : vx_L C n d B U H := by
  obtain ⟨c, k, i, f, a, cell, h1, h2, h3, h4, h5, h6, h7, h8, h9, h10⟩ := h
  exact ⟨c, k, i, f, a, cell, h1, h2, h3, h4, h5, h6, h7, h8, h9, fun z => h10 (hAB _ z)⟩
theorem vx_L.word {C n d : String} {A : Nat → Prop} {s : State} {args : Array Value} (h : vx_L C n d A s s.heap) : (Cond.laysStatic C n d).before args s = true := by
  obtain ⟨c, k, i, f, a, cell, h1, h2, h3, h4, h5, h6, h7, h8, h9, -⟩ := h
  show (Cond.laysStatic C n d).holds args s none s [] = true
  exact Cond.laysStatic_of h1 h2 h3 h4 h5 h6 h7 h8 h9
/-- .. and what it holds: null or some reference -/
def vx_Zq (C n d : String) (A : Nat → Prop) (U : State) (H : Heap) : Prop := va_Zq C n d A U H ∧ vx_L C n d A U H
theorem vx_Zq.moved {C n d : String} {A : Nat → Prop} {u U : State} {H : Heap} (hvm : u.vm.Alike U.vm) (h : vx_Zq C n d A u H) : vx_Zq C n d A U H := ⟨va_Zq.moved hvm h.1, vx_L.moved hvm h.2⟩
theorem vx_Zq.kept {C n d : String} {A : Nat → Prop} {U : State} {H H1 : Heap} (h : vx_Zq C n d A U H) (hq : ∀ a : Nat, a < H.size → ¬ A a → H1[a]? = H[a]?) : vx_Zq C n d A U H1 := ⟨va_Zq.kept h.1 hq, vx_L.kept h.2 hq⟩
theorem vx_Zq.narrow {C n d : String} {A B : Nat → Prop} {U : State} {H : Heap} (h : vx_Zq C n d A U H) (hAB : ∀ q, B q → A q) : vx_Zq C n d B U H := ⟨va_Zq.narrow h.1 hAB, vx_L.narrow h.2 hAB⟩
theorem vx_Zqof {args : Array Value} {s : State} {C n d : String} {A : Nat → Prop} (hl : (Cond.laysStatic C n d).before args s = true) (hini : (Cond.initialized C).before args s = true) (h : (Cond.isRef (.static C n d)).before args s = true) (hA : ∀ a : Nat, a < s.heap.size → ¬ A a) : vx_Zq C n d A s s.heap := by
  refine ⟨va_Zqof hl hini h hA, ?_⟩
  obtain ⟨c, k, i, f, a, cell, h1, h2, h3, h4, h5, h6, h7, h8, h9⟩ := Cond.laysStatic_spec hl
  exact ⟨c, k, i, f, a, cell, h1, h2, h3, h4, h5, h6, h7, h8, h9, hA a (Array.getElem?_eq_some_iff.mp h5).1⟩
theorem vx_isRef {C n d : String} {v : Value} {A : Nat → Prop} {s : State} {args : Array Value} (h : va_Z C n d v A s s.heap) (hv : v.isRef = true) : (Cond.isRef (.static C n d)).before args s = true := by
  obtain ⟨cf, kf, fi, f, a, cell, h1, h2, h3, h4, h5, h6, h7, -⟩ := h
  have he : (Term.static C n d).eval args s none [] s = some v := by
    simp [Term.eval, State.fieldNamed?, h1, h2, h4, h5, h6, h7]
  simp only [Cond.before, Cond.holds, Cond.value, he]
  cases v <;> simp_all [Value.isRef]
theorem vx_isRefq {C n d : String} {A : Nat → Prop} {s : State} {args : Array Value} (h : va_Zq C n d A s s.heap) : (Cond.isRef (.static C n d)).before args s = true := by
  rcases h with h | ⟨t, h⟩
  · exact vx_isRef h rfl
  · exact vx_isRef h rfl
/-- the same frame, seen from here: as if the method were called anew in this heap -/
theorem vx_rebase {T : State} (X : Stand p l e R s m args below meth c T locs cells slots) {R' : Room} (hf : R'.frames ≤ R.frames) (hl : R'.locals ≤ R.locals) (hc : cells + R'.cells ≤ R.cells) (hs : slots + R'.slots ≤ R.slots) :
    Stand p l e R' ((T.setVm s.vm).setFrames (.invoking m args :: below)) m args below meth c T [] 0 0 := by
  have htop : (T.setVm s.vm).topJava?.isSome := X.here.top
  have hF : ((T.setVm s.vm).setFrames (.invoking m args :: below)).frames = .invoking m args :: below := State.frames_setFrames _ (State.cur_lt_of_top htop)
  obtain ⟨g₀, hg0⟩ := Option.isSome_iff_exists.mp htop
  obtain ⟨r, hr⟩ := State.topJava?_eq_some.mp hg0
  have hl9 : e.platform.stackLimits (T.setVm s.vm).me = e.platform.stackLimits s.me := X.limits
  have hb9 : (T.setVm s.vm).me.stackBytes = s.me.stackBytes := X.bytes
  refine ⟨X.admits, X.cas, X.clock, hF, ?_, X.hears, X.method, X.code, X.here, X.tail, X.warmed, ?_, ?_, ?_⟩
  · have h := X.room
    have hU : ((T.setVm s.vm).setFrames (.invoking m args :: below)).localsInUse = s.localsInUse := by
      rw [State.localsInUse_invoking hF (meth := meth) (c := c) X.method X.code, State.localsInUse_invoking X.frames X.method X.code]
    simp only [State.hasRoom, Bool.and_eq_true, decide_eq_true_eq] at h ⊢
    obtain ⟨⟨⟨⟨h1, h2, h3, h4, h5, h6⟩, h7⟩, h8⟩, h9⟩ := h
    rw [X.frames, List.length_cons] at h2 h3
    have q1 := X.heapSize
    have q2 := X.used
    simp only [hF, hU, List.length_cons, State.stackLimits_setFrames, State.stackBytes_setFrames, hl9, hb9]
    refine ⟨⟨⟨⟨by omega, by omega, by omega, by omega, by omega, h6⟩, ?_⟩, ?_⟩, X.book⟩
    · show T.heap.size + R'.cells ≤ e.platform.maxCells
      omega
    · show T.slotsUsed + R'.slots ≤ e.platform.maxSlots
      omega
  · rw [State.stackLimits_setFrames]; rfl
  · rw [State.stackBytes_setFrames]; rfl
  · refine ⟨?_, Nat.le_refl _, Nat.le_refl _, ?_, ?_, fun a c9 h9 => ⟨c9, h9, rfl, rfl, fun _ _ => rfl⟩⟩
    · obtain ⟨t, ht, -⟩ := State.frames_cons hr
      show T.setVm s.vm = { ((T.setVm s.vm).setFrames (.invoking m args :: below)).setFrames (T.setVm s.vm).frames with heap := T.heap, slotsUsed := T.slotsUsed }
      rw [State.setFrames_setFrames, State.setFrames_self ht]
      rfl
    · show T.slotsUsed = T.slotsUsed + ((T.heap.toList.drop T.heap.size).map (·.slots.size)).sum
      rw [List.drop_eq_nil_of_le (Nat.le_of_eq Array.length_toList)]
      rfl
    · show ((T.heap.toList.drop T.heap.size).map (·.slots.size)).sum ≤ 0
      rw [List.drop_eq_nil_of_le (Nat.le_of_eq Array.length_toList)]
      exact Nat.le_refl _
/-- 'throw new E()': new; dup; invokespecial; athrow -/
theorem vx_throw0 {cc : ByteArray} {pc : Nat} (hexec : p.tables.exec = Jvm.exec) (hb : c.code = cc) (hl : l.stackTraces = false) {own cls : String} {names : List String} {ik ic mc ms : Nat} {A : Nat → Prop}
    (hown : s.vm.findClass own = some m.cls) (hcls : Bundle.fit cls = true) (hnames : ∀ n ∈ names, Bundle.fit n = true)
    (hk : (Cond.classLink own ik cls).before args s = true) (hini : (Cond.initialized cls).before args s = true) (hat : ∀ w ∈ vx_at0 own ic cls names, w.before args s = true)
    (hgood : ∀ w ∈ Cond.classLink own ik cls :: Cond.initialized cls :: vx_at0 own ic cls names, vx_ot w = true)
    (hU : vx_Zq Bundle.tN "UNASSIGNED_STACK" Bundle.steD A s s.heap) (hN : vx_Zq Bundle.tN "SUPPRESSED_SENTINEL" Bundle.listD A s s.heap) (hS : va_S A s.heap H locs) (hsize : ls.size = c.maxLocals)
    (d0 : decode cc pc = .ok (.new ik, 3)) (d3 : decode cc (pc + 3) = .ok (.dup, 1)) (d4 : decode cc (pc + 4) = .ok (.invokespecial ic, 3)) (d7 : decode cc (pc + 7) = .ok (.athrow, 1))
    (hout : ∀ x ∈ c.exceptionTable.toList, covers x (pc + 7) = false)
    (hRframes : names.length + 3 < R.frames) (hRlocals : (rest.map fun v => v.category).sum + (13 * (names.length + 1) + 42) ≤ R.locals) (hRcells : cells + 1 ≤ R.cells) (hRslots : slots + 6 ≤ R.slots) (hlocks : meth.locks = false)
    (hx : ∀ t : State, s.vm.Alike t.vm → H.size ≤ t.heap.size → (∀ q : Nat, q < H.size → t.heap[q]? = H[q]?) → XC cls s t)
    (hf : ∀ z ∈ locs, free z.base) (hc : cells + 1 ≤ mc) (hs : slots + 6 ≤ ms) :
    W p l e R s m args below meth c H locs cells slots (vx_MQ below Qc XC args s mc ms free) (F0 m pc ls rest) := by
  intro T hT X
  have htr : e.platform.stackTraces = false := (show e.platform.stackTraces = l.stackTraces by rw [X.admits.platform]).trans hl
  have Y := vx_rebase X (R' := { frames := R.frames, locals := R.locals, cells := 1, slots := 6 }) (Nat.le_refl _) (Nat.le_refl _) hRcells hRslots
  obtain ⟨s', hA⟩ : ∃ z, z = (T.setVm s.vm).setFrames (.invoking m args :: below) := ⟨_, rfl⟩
  rw [← hA] at Y
  have hvm : s'.vm = s.vm := by rw [hA]; rfl
  have hhp : s'.heap = H := by rw [hA]; exact hT
  have hW0 : s.WarmedH s'.vm := by rw [hvm]; exact State.WarmedH.refl s
  have hat' : ∀ w ∈ vx_at0 own ic cls names, w.before args s' = true := fun w hw => vx_ot_at hW0 hvm.symm (hgood w (List.mem_cons_of_mem _ (List.mem_cons_of_mem _ hw))) (hat w hw)
  have hk' : (Cond.classLink own ik cls).before args s' = true := vx_ot_at hW0 hvm.symm (hgood _ List.mem_cons_self) hk
  have hini' : (Cond.initialized cls).before args s' = true := vx_ot_at hW0 hvm.symm (hgood _ (List.mem_cons_of_mem _ List.mem_cons_self)) hini
  have hU' : vx_Zq Bundle.tN "UNASSIGNED_STACK" Bundle.steD A s' s'.heap := by rw [hhp]; exact vx_Zq.moved hW0.alike (hU.kept hS.2.1)
  have hN' : vx_Zq Bundle.tN "SUPPRESSED_SENTINEL" Bundle.listD A s' s'.heap := by rw [hhp]; exact vx_Zq.moved hW0.alike (hN.kept hS.2.1)
  have h : ∀ w ∈ Bundle.ownAtoms0 own ic cls names, w.before args s' = true := vx_own hat' (vx_isRefq hU'.1) (vx_isRefq hN'.1) hU'.2.word hN'.2.word
  have hown' : s'.vm.findClass own = some m.cls := by rw [hvm]; exact hown
  have hins : (Cond.instantiable cls 6).before args s' = true := h _ (by simp [Bundle.ownAtoms0])
  obtain ⟨vm₁, cX, kX, hfX, hkX, -, -, X₁, st1⟩ := Y.newCold hexec (own := own) (C := cls) (index := ik) (n := 6) hown' hk' hins hini'
    (g := F0 m pc ls rest) rfl (by rw [hb]; exact d0) (Nat.le_refl _) (Nat.le_refl _)
  generalize hT1 : (T.setVm vm₁).pushCell { cls := cX, slots := kX.instanceTypes.map defaultValue, vm := .none } = T1 at X₁ st1
  have hcat : (Value.ref T.heap.size).category = 1 := rfl
  have hcellA : T1.heap[T.heap.size]? = some (freshCell cX kX) := by rw [← hT1]; exact State.heap_pushCell_size _ _
  have d3' : decode c.code (pc + 3) = .ok (.dup, 1) := by rw [hb]; exact d3
  obtain ⟨U, hsteps, hrun, hend, hW, hsame, ce, hce, hO⟩ := X₁.ctorThrow0 hexec htr (own := own) (cls := cls) (names := names) (ic := ic) hown' hcls hnames h (fun x hx => nomatch hx) hfX hkX hcellA (by rw [hhp, hT]; exact Nat.le_refl _)
    (g := { method := m, pc := pc + 4, locals := ls, stack := .ref T.heap.size :: .ref T.heap.size :: rest, locked := none }) rfl hsize rfl rfl (rest := rest) rfl
    (by rw [hb]; exact d4) (by rw [hb]; exact d7) hout hRframes (by simp only [List.map_cons, List.sum_cons, hcat]; omega) hlocks
  obtain ⟨f1, f2⟩ := vx_frame hsame
  rw [hhp] at f1 f2
  have hWs : s.WarmedH U.vm := State.WarmedH.trans hW0 hW
  have hcl : s.vm.findClass cls = some ce.cls := by
    have h9 := hO.cls
    rw [hvm] at h9
    exact h9
  have hall : s.sameButNew ({ U with vm := s.vm } : State) locs mc ms := by
    subst hA
    obtain ⟨e1, e2⟩ := hsame
    rw [State.setFrames_setFrames] at e1
    have h2 : (T.setVm s.vm).sameButNew ({ U with vm := s.vm } : State) [] (0 + 1) (0 + 6) := ⟨e1, e2⟩
    have h3 := X.same.trans h2
    rw [List.append_nil] at h3
    exact h3.mono hc hs
  refine ⟨U, ?_, .threw T.heap.size, hrun, hend, Or.inr ⟨T.heap.size, rfl, cls, ce, locs, hx U hWs.alike f1 (fun q hq => f2 q hq (fun z hz => nomatch hz)), hce, hO.vm, hcl, hWs, hall, hf⟩⟩
  refine st1 _ ?_
  show Steps p.tables e below (T1.setTop { method := m, pc := pc + 3, locals := ls, stack := .ref T.heap.size :: rest, locked := none }) _
  jvm_step X₁.here [X₁.here.top, hexec, d3', Value.category]
  exact hsteps
/-- 'throw new E("text")': new; dup; ldc; invokespecial; athrow -/
theorem vx_throwS {cc : ByteArray} {pc : Nat} (hexec : p.tables.exec = Jvm.exec) (hb : c.code = cc) (hl : l.stackTraces = false) {own cls text : String} {names : List String} {ik is ic mc ms sa : Nat} {A : Nat → Prop}
    (hown : s.vm.findClass own = some m.cls) (hcls : Bundle.fit cls = true) (hnames : ∀ n ∈ names, Bundle.fit n = true)
    (hk : (Cond.classLink own ik cls).before args s = true) (hini : (Cond.initialized cls).before args s = true) (hstr : vk_R own is text sa s) (hat : ∀ w ∈ vx_atS own ic cls names, w.before args s = true)
    (hgood : ∀ w ∈ Cond.classLink own ik cls :: Cond.initialized cls :: vx_atS own ic cls names, vx_ot w = true)
    (hU : vx_Zq Bundle.tN "UNASSIGNED_STACK" Bundle.steD A s s.heap) (hN : vx_Zq Bundle.tN "SUPPRESSED_SENTINEL" Bundle.listD A s s.heap) (hS : va_S A s.heap H locs) (hsize : ls.size = c.maxLocals)
    (d0 : decode cc pc = .ok (.new ik, 3)) (d3 : decode cc (pc + 3) = .ok (.dup, 1)) (d4 : decode cc (pc + 4) = .ok (.ldc is, 2)) (d6 : decode cc (pc + 6) = .ok (.invokespecial ic, 3)) (d9 : decode cc (pc + 9) = .ok (.athrow, 1))
    (hout : ∀ x ∈ c.exceptionTable.toList, covers x (pc + 9) = false)
    (hRframes : names.length + 3 < R.frames) (hRlocals : (rest.map fun v => v.category).sum + (13 * (names.length + 1) + 43) ≤ R.locals) (hRcells : cells + 1 ≤ R.cells) (hRslots : slots + 6 ≤ R.slots) (hlocks : meth.locks = false)
    (hx : ∀ t : State, s.vm.Alike t.vm → H.size ≤ t.heap.size → (∀ q : Nat, q < H.size → t.heap[q]? = H[q]?) → XC cls s t)
    (hf : ∀ z ∈ locs, free z.base) (hc : cells + 1 ≤ mc) (hs : slots + 6 ≤ ms) :
    W p l e R s m args below meth c H locs cells slots (vx_MQ below Qc XC args s mc ms free) (F0 m pc ls rest) := by
  intro T hT X
  have htr : e.platform.stackTraces = false := (show e.platform.stackTraces = l.stackTraces by rw [X.admits.platform]).trans hl
  have Y := vx_rebase X (R' := { frames := R.frames, locals := R.locals, cells := 1, slots := 6 }) (Nat.le_refl _) (Nat.le_refl _) hRcells hRslots
  obtain ⟨s', hA⟩ : ∃ z, z = (T.setVm s.vm).setFrames (.invoking m args :: below) := ⟨_, rfl⟩
  rw [← hA] at Y
  have hvm : s'.vm = s.vm := by rw [hA]; rfl
  have hhp : s'.heap = H := by rw [hA]; exact hT
  have hW0 : s.WarmedH s'.vm := by rw [hvm]; exact State.WarmedH.refl s
  have hat' : ∀ w ∈ vx_atS own ic cls names, w.before args s' = true := fun w hw => vx_ot_at hW0 hvm.symm (hgood w (List.mem_cons_of_mem _ (List.mem_cons_of_mem _ hw))) (hat w hw)
  have hk' : (Cond.classLink own ik cls).before args s' = true := vx_ot_at hW0 hvm.symm (hgood _ List.mem_cons_self) hk
  have hini' : (Cond.initialized cls).before args s' = true := vx_ot_at hW0 hvm.symm (hgood _ (List.mem_cons_of_mem _ List.mem_cons_self)) hini
  have hU' : vx_Zq Bundle.tN "UNASSIGNED_STACK" Bundle.steD A s' s'.heap := by rw [hhp]; exact vx_Zq.moved hW0.alike (hU.kept hS.2.1)
  have hN' : vx_Zq Bundle.tN "SUPPRESSED_SENTINEL" Bundle.listD A s' s'.heap := by rw [hhp]; exact vx_Zq.moved hW0.alike (hN.kept hS.2.1)
  have h : ∀ w ∈ Bundle.ownAtoms own ic cls names, w.before args s' = true := vx_own hat' (vx_isRefq hU'.1) (vx_isRefq hN'.1) hU'.2.word hN'.2.word
  have hown' : s'.vm.findClass own = some m.cls := by rw [hvm]; exact hown
  have hins : (Cond.instantiable cls 6).before args s' = true := h _ (by simp [Bundle.ownAtoms])
  obtain ⟨vm₁, cX, kX, hfX, hkX, -, -, X₁, st1⟩ := Y.newCold hexec (own := own) (C := cls) (index := ik) (n := 6) hown' hk' hins hini'
    (g := F0 m pc ls rest) rfl (by rw [hb]; exact d0) (Nat.le_refl _) (Nat.le_refl _)
  generalize hT1 : (T.setVm vm₁).pushCell { cls := cX, slots := kX.instanceTypes.map defaultValue, vm := .none } = T1 at X₁ st1
  have hcat : (Value.ref T.heap.size).category = 1 := rfl
  have hcellA : T1.heap[T.heap.size]? = some (freshCell cX kX) := by rw [← hT1]; exact State.heap_pushCell_size _ _
  have d3' : decode c.code (pc + 3) = .ok (.dup, 1) := by rw [hb]; exact d3
  have d4' : decode c.code (pc + 4) = .ok (.ldc is, 2) := by rw [hb]; exact d4
  have hstr' : vk_R own is text sa s' := vk_R.warm hW0 hstr
  obtain ⟨U, hsteps, hrun, hend, hW, hsame, ce, hce, hO⟩ := X₁.ctorThrowS hexec htr (own := own) (cls := cls) (names := names) (ic := ic) hown' hcls hnames h (fun x hx => nomatch hx) hfX hkX hcellA (by rw [hhp, hT]; exact Nat.le_refl _) (msg := .ref sa) rfl
    (g := { method := m, pc := pc + 6, locals := ls, stack := .ref sa :: .ref T.heap.size :: .ref T.heap.size :: rest, locked := none }) rfl hsize rfl rfl (rest := rest) rfl
    (by rw [hb]; exact d6) (by rw [hb]; exact d9) hout hRframes (by simp only [List.map_cons, List.sum_cons, hcat]; omega) hlocks
  obtain ⟨f1, f2⟩ := vx_frame hsame
  rw [hhp] at f1 f2
  have hWs : s.WarmedH U.vm := State.WarmedH.trans hW0 hW
  have hcl : s.vm.findClass cls = some ce.cls := by
    have h9 := hO.cls
    rw [hvm] at h9
    exact h9
  have hall : s.sameButNew ({ U with vm := s.vm } : State) locs mc ms := by
    subst hA
    obtain ⟨e1, e2⟩ := hsame
    rw [State.setFrames_setFrames] at e1
    have h2 : (T.setVm s.vm).sameButNew ({ U with vm := s.vm } : State) [] (0 + 1) (0 + 6) := ⟨e1, e2⟩
    have h3 := X.same.trans h2
    rw [List.append_nil] at h3
    exact h3.mono hc hs
  refine ⟨U, ?_, .threw T.heap.size, hrun, hend, Or.inr ⟨T.heap.size, rfl, cls, ce, locs, hx U hWs.alike f1 (fun q hq => f2 q hq (fun z hz => nomatch hz)), hce, hO.vm, hcl, hWs, hall, hf⟩⟩
  refine st1 _ ?_
  show Steps p.tables e below (T1.setTop { method := m, pc := pc + 3, locals := ls, stack := .ref T.heap.size :: rest, locked := none }) _
  jvm_step X₁.here [X₁.here.top, hexec, d3', Value.category]
  exact X₁.ldcString hexec (own := own) (text := text) (index := is) (a := sa) hown' hstr'.1 hstr'.2
    (g := { method := m, pc := pc + 4, locals := ls, stack := .ref T.heap.size :: .ref T.heap.size :: rest, locked := none }) rfl d4' _ hsteps
/-- 'throw new E("text")', the text by a wide index -/
theorem vx_throwSW {cc : ByteArray} {pc : Nat} (hexec : p.tables.exec = Jvm.exec) (hb : c.code = cc) (hl : l.stackTraces = false) {own cls text : String} {names : List String} {ik is ic mc ms sa : Nat} {A : Nat → Prop}
    (hown : s.vm.findClass own = some m.cls) (hcls : Bundle.fit cls = true) (hnames : ∀ n ∈ names, Bundle.fit n = true)
    (hk : (Cond.classLink own ik cls).before args s = true) (hini : (Cond.initialized cls).before args s = true) (hstr : vk_R own is text sa s) (hat : ∀ w ∈ vx_atS own ic cls names, w.before args s = true)
    (hgood : ∀ w ∈ Cond.classLink own ik cls :: Cond.initialized cls :: vx_atS own ic cls names, vx_ot w = true)
    (hU : vx_Zq Bundle.tN "UNASSIGNED_STACK" Bundle.steD A s s.heap) (hN : vx_Zq Bundle.tN "SUPPRESSED_SENTINEL" Bundle.listD A s s.heap) (hS : va_S A s.heap H locs) (hsize : ls.size = c.maxLocals)
    (d0 : decode cc pc = .ok (.new ik, 3)) (d3 : decode cc (pc + 3) = .ok (.dup, 1)) (d4 : decode cc (pc + 4) = .ok (.ldc_w is, 3)) (d7 : decode cc (pc + 7) = .ok (.invokespecial ic, 3)) (d10 : decode cc (pc + 10) = .ok (.athrow, 1))
    (hout : ∀ x ∈ c.exceptionTable.toList, covers x (pc + 10) = false)
    (hRframes : names.length + 3 < R.frames) (hRlocals : (rest.map fun v => v.category).sum + (13 * (names.length + 1) + 43) ≤ R.locals) (hRcells : cells + 1 ≤ R.cells) (hRslots : slots + 6 ≤ R.slots) (hlocks : meth.locks = false)
    (hx : ∀ t : State, s.vm.Alike t.vm → H.size ≤ t.heap.size → (∀ q : Nat, q < H.size → t.heap[q]? = H[q]?) → XC cls s t)
    (hf : ∀ z ∈ locs, free z.base) (hc : cells + 1 ≤ mc) (hs : slots + 6 ≤ ms) :
    W p l e R s m args below meth c H locs cells slots (vx_MQ below Qc XC args s mc ms free) (F0 m pc ls rest) := by
  intro T hT X
  have htr : e.platform.stackTraces = false := (show e.platform.stackTraces = l.stackTraces by rw [X.admits.platform]).trans hl
  have Y := vx_rebase X (R' := { frames := R.frames, locals := R.locals, cells := 1, slots := 6 }) (Nat.le_refl _) (Nat.le_refl _) hRcells hRslots
  obtain ⟨s', hA⟩ : ∃ z, z = (T.setVm s.vm).setFrames (.invoking m args :: below) := ⟨_, rfl⟩
  rw [← hA] at Y
  have hvm : s'.vm = s.vm := by rw [hA]; rfl
  have hhp : s'.heap = H := by rw [hA]; exact hT
  have hW0 : s.WarmedH s'.vm := by rw [hvm]; exact State.WarmedH.refl s
  have hat' : ∀ w ∈ vx_atS own ic cls names, w.before args s' = true := fun w hw => vx_ot_at hW0 hvm.symm (hgood w (List.mem_cons_of_mem _ (List.mem_cons_of_mem _ hw))) (hat w hw)
  have hk' : (Cond.classLink own ik cls).before args s' = true := vx_ot_at hW0 hvm.symm (hgood _ List.mem_cons_self) hk
  have hini' : (Cond.initialized cls).before args s' = true := vx_ot_at hW0 hvm.symm (hgood _ (List.mem_cons_of_mem _ List.mem_cons_self)) hini
  have hU' : vx_Zq Bundle.tN "UNASSIGNED_STACK" Bundle.steD A s' s'.heap := by rw [hhp]; exact vx_Zq.moved hW0.alike (hU.kept hS.2.1)
  have hN' : vx_Zq Bundle.tN "SUPPRESSED_SENTINEL" Bundle.listD A s' s'.heap := by rw [hhp]; exact vx_Zq.moved hW0.alike (hN.kept hS.2.1)
  have h : ∀ w ∈ Bundle.ownAtoms own ic cls names, w.before args s' = true := vx_own hat' (vx_isRefq hU'.1) (vx_isRefq hN'.1) hU'.2.word hN'.2.word
  have hown' : s'.vm.findClass own = some m.cls := by rw [hvm]; exact hown
  have hins : (Cond.instantiable cls 6).before args s' = true := h _ (by simp [Bundle.ownAtoms])
  obtain ⟨vm₁, cX, kX, hfX, hkX, -, -, X₁, st1⟩ := Y.newCold hexec (own := own) (C := cls) (index := ik) (n := 6) hown' hk' hins hini'
    (g := F0 m pc ls rest) rfl (by rw [hb]; exact d0) (Nat.le_refl _) (Nat.le_refl _)
  generalize hT1 : (T.setVm vm₁).pushCell { cls := cX, slots := kX.instanceTypes.map defaultValue, vm := .none } = T1 at X₁ st1
  have hcat : (Value.ref T.heap.size).category = 1 := rfl
  have hcellA : T1.heap[T.heap.size]? = some (freshCell cX kX) := by rw [← hT1]; exact State.heap_pushCell_size _ _
  have d3' : decode c.code (pc + 3) = .ok (.dup, 1) := by rw [hb]; exact d3
  have d4' : decode c.code (pc + 4) = .ok (.ldc_w is, 3) := by rw [hb]; exact d4
  have hstr' : vk_R own is text sa s' := vk_R.warm hW0 hstr
  obtain ⟨U, hsteps, hrun, hend, hW, hsame, ce, hce, hO⟩ := X₁.ctorThrowS hexec htr (own := own) (cls := cls) (names := names) (ic := ic) hown' hcls hnames h (fun x hx => nomatch hx) hfX hkX hcellA (by rw [hhp, hT]; exact Nat.le_refl _) (msg := .ref sa) rfl
    (g := { method := m, pc := pc + 7, locals := ls, stack := .ref sa :: .ref T.heap.size :: .ref T.heap.size :: rest, locked := none }) rfl hsize rfl rfl (rest := rest) rfl
    (by rw [hb]; exact d7) (by rw [hb]; exact d10) hout hRframes (by simp only [List.map_cons, List.sum_cons, hcat]; omega) hlocks
  obtain ⟨f1, f2⟩ := vx_frame hsame
  rw [hhp] at f1 f2
  have hWs : s.WarmedH U.vm := State.WarmedH.trans hW0 hW
  have hcl : s.vm.findClass cls = some ce.cls := by
    have h9 := hO.cls
    rw [hvm] at h9
    exact h9
  have hall : s.sameButNew ({ U with vm := s.vm } : State) locs mc ms := by
    subst hA
    obtain ⟨e1, e2⟩ := hsame
    rw [State.setFrames_setFrames] at e1
    have h2 : (T.setVm s.vm).sameButNew ({ U with vm := s.vm } : State) [] (0 + 1) (0 + 6) := ⟨e1, e2⟩
    have h3 := X.same.trans h2
    rw [List.append_nil] at h3
    exact h3.mono hc hs
  refine ⟨U, ?_, .threw T.heap.size, hrun, hend, Or.inr ⟨T.heap.size, rfl, cls, ce, locs, hx U hWs.alike f1 (fun q hq => f2 q hq (fun z hz => nomatch hz)), hce, hO.vm, hcl, hWs, hall, hf⟩⟩
  refine st1 _ ?_
  show Steps p.tables e below (T1.setTop { method := m, pc := pc + 3, locals := ls, stack := .ref T.heap.size :: rest, locked := none }) _
  jvm_step X₁.here [X₁.here.top, hexec, d3', Value.category]
  exact X₁.ldcStringW hexec (own := own) (text := text) (index := is) (a := sa) hown' hstr'.1 hstr'.2
    (g := { method := m, pc := pc + 4, locals := ls, stack := .ref T.heap.size :: .ref T.heap.size :: rest, locked := none }) rfl d4' _ hsteps
end Ends
section Bodies
variable {l : Launch}
theorem vx_ofW {y : MethodName} {ws ws' : List Cond} {rm : Room} {Pc : Array Value → State → Prop} {Qc : Array Value → State → Outcome → State → Prop} {XC : String → State → State → Prop} {mc ms : Nat} {free : Addr → Prop} {cc : ByteArray} {maxL : Nat} {ret : Option FieldType}
    (hy : plainName y.cls = true) (hw : ws = Cond.code y cc maxL ret :: ws')
    (body : ∀ p e s m args below meth c s₁, BodyLoose p l y (headSpec ws rm) cc maxL ret e s m args below meth c s₁ → c.maxLocals = maxL → (∀ x ∈ c.exceptionTable.toList, False) → Pc args s →
      W p l e (headSpec ws rm).room s m args below meth c s.heap [] 0 0 (vx_MQ below Qc XC args s mc ms free) (entryFrame m args maxL)) : vx_Met l y ws rm Pc Qc XC mc ms free := by
  refine MetFree.of_bodyS (code := cc) (maxLocals := maxL) (ret := ret) hy ?_ ?_
  · intro args s m h hn
    obtain ⟨meth, c, h1, h2, h3, h4, h5, h6, -, -⟩ := Cond.code_spec hn (atoms_spec (ws := ws) h _ (by rw [hw]; exact List.mem_cons_self))
    exact ⟨meth, c, h1, h2, h3, h4, h5, h6⟩
  · intro p e s m args below meth c s₁ B hml hP _
    have hh0 : s₁.heap = s.heap := by rw [B.state]; rfl
    have ht : ∀ x ∈ c.exceptionTable.toList, False := by
      obtain ⟨meth9, c9, h1, h2, -, -, -, -, h7, -⟩ := Cond.code_spec B.named (atoms_spec (ws := ws) B.pre _ (by rw [hw]; exact List.mem_cons_self))
      cases Option.some.inj (h1.symm.trans B.method)
      cases Option.some.inj (h2.symm.trans (Stand.of_body B).code)
      intro x hx
      rw [Array.isEmpty_iff.mp h7] at hx
      cases hx
    obtain ⟨t, a1, o, b1, b2, b3⟩ := body p e s m args below meth c s₁ B hml ht hP s₁ hh0 (Stand.of_body B)
    exact ⟨t, o, a1, b1, b2, b3⟩
/-- the table of a body with handlers -/
theorem vx_table {p : Program} {x y : MethodName} {S : Spec} {cc bytes : ByteArray} {maxL maxL' : Nat} {ret ret' : Option FieldType} {e : Env} {s s₁ : State} {m : MethodId} {args : Array Value} {below : List Frame} {meth : Method} {c : Code} {hh : List (Nat × Nat × Nat × Nat)}
    (B : BodyLoose p l y S cc maxL ret e s m args below meth c s₁) (h : (Cond.codeWith y bytes maxL' ret' hh).before args s = true) : c.exceptionTable.toList = tableOf hh := by
  obtain ⟨m9, meth9, c9, hn9, h1, h2, -, -, h6, -⟩ := Cond.codeWith_spec h
  cases Option.some.inj (hn9.symm.trans B.named)
  cases Option.some.inj (h1.symm.trans B.method)
  cases Option.some.inj (h2.symm.trans (Stand.of_body B).code)
  rw [← h6, table_eq]
end Bodies
end VXA
/-! ===== END ===== -/
/-! ===== BEGIN a static call of a method with an exception table ===== -/
section VXS
variable {p : Program} {l : Launch} {e : Env} {R : Room} {s : State} {m : MethodId} {args : Array Value} {below : List Frame} {meth : Method} {c : Code} {T : State} {H : Heap} {locs : List Loc} {cells slots : Nat}
abbrev vx_CSW (R : Room) (s : State) (args : Array Value) (own : String) (index : Nat) (y : MethodName) (bytes : ByteArray) (maxL : Nat) (ret : Option FieldType) (hh : List (Nat × Nat × Nat × Nat)) (ws : List Cond) (rm : Room) (mc ms n : Nat) : Prop :=
  (rm.cells = mc ∧ rm.slots = ms ∧ rm.frames + 1 ≤ R.frames ∧ 8 + (maxL + 11) + rm.locals ≤ R.locals ∧ (∀ w ∈ ws, ∀ (a' : Array Value) (U : State), s.WarmedH U.vm → w.before a' U = true) ∧ Cond.codeWith y bytes maxL ret hh ∈ ws) ∧
  (Cond.codeWith y bytes maxL ret hh).before args s = true ∧ (Cond.initialized y.cls).before args s = true ∧ (y.cls ≠ "java/lang/invoke/MethodHandle" ∧ y.cls ≠ "java/lang/invoke/VarHandle") ∧
  (∀ sig, parseMethodDescriptor y.desc = some sig → n = sig.parameters.length) ∧ (Cond.methodLink own index y).before args s = true ∧ (Cond.static y).before args s = true
theorem vx_cwSW {own : String} {index maxL mc ms : Nat} {y : MethodName} {bytes : ByteArray} {ret : Option FieldType} {hh : List (Nat × Nat × Nat × Nat)} {Ts ws ws' : List Cond} {rm : Room} (n : Nat) (ht : ∀ w ∈ Ts, w.before args s = true) (hT : GoodIn Ts (va_wsS own index y ws)) (hw : ws = Cond.codeWith y bytes maxL ret hh :: ws') (hrc : rm.cells = mc) (hrs : rm.slots = ms)
    (hd : y.cls ≠ "java/lang/invoke/MethodHandle" ∧ y.cls ≠ "java/lang/invoke/VarHandle" ∧ (parseMethodDescriptor y.desc).map (fun d => d.parameters.length) = some n) (hR : rm.frames + 1 ≤ R.frames ∧ 8 + (maxL + 11) + rm.locals ≤ R.locals) :
    vx_CSW R s args own index y bytes maxL ret hh ws rm mc ms n := by
  have ok : ∀ w ∈ va_wsS own index y ws, w.before args s = true := fun w h => ht w (hT w h).1
  have hG : GoodIn Ts ws := fun w h => hT w (by unfold va_wsS; exact List.mem_append_right _ h)
  have hc : Cond.codeWith y bytes maxL ret hh ∈ ws := by rw [hw]; exact List.mem_cons_self
  refine ⟨⟨hrc, hrs, hR.1, hR.2, pay_in ht hG, hc⟩, ht _ (hG _ hc).1, ok _ (by simp [va_wsS]), ⟨hd.1, hd.2.1⟩, fun sig h => ?_, ok _ (by simp [va_wsS]), ok _ (by simp [va_wsS])⟩
  have h2 := hd.2.2
  rw [h] at h2
  exact (Option.some.inj h2).symm
theorem vx_callSW (X : Stand p l e R s m args below meth c T locs cells slots) (hexec : p.tables.exec = Jvm.exec) {own : String} {index : Nat} {y : MethodName} {bytes : ByteArray} {maxL : Nat} {ret : Option FieldType} {hh : List (Nat × Nat × Nat × Nat)}
    (hown : s.vm.findClass own = some m.cls) (hlink : (Cond.methodLink own index y).before args s = true) (hstat : (Cond.static y).before args s = true) (hinit : (Cond.initialized y.cls).before args s = true)
    (hcode : (Cond.codeWith y bytes maxL ret hh).before args s = true) (hy : y.cls ≠ "java/lang/invoke/MethodHandle" ∧ y.cls ≠ "java/lang/invoke/VarHandle")
    {W9 : Nat} {Pre : Pt → Array Value → Prop} {Post : Pt → Array Value → Option Value → Pt → Prop} (hK : Back l R p e below s args y 3 W9 Pre Post)
    {g : JFrame} (hg : g.method = m) (hsize : g.locals.size = c.maxLocals) {argsL rest : List Value} (hlen : ∀ sig, parseMethodDescriptor y.desc = some sig → argsL.length = sig.parameters.length)
    (hstack : g.stack = argsL.reverse ++ rest) (hW : 2 * g.monitorRoom + (rest.map fun v => v.category).sum ≤ W9) (hdg : decode c.code g.pc = .ok (.invokestatic index, 3))
    (hpre : ∀ vm₁, s.WarmedH vm₁ → Pre ⟨T.setVm vm₁, locs, cells, slots⟩ argsL.toArray) :
    ∃ (v : Option Value) (vm₁ : Vm) (B : Pt), s.WarmedH vm₁ ∧ Stand p l e R s m args below meth c B.U B.locs B.cells B.slots ∧ Post ⟨T.setVm vm₁, locs, cells, slots⟩ argsL.toArray v B ∧
      ∀ target, Steps p.tables e below (B.U.setTop { g with pc := g.pc + 3, stack := v.toList ++ rest }) target → Steps p.tables e below (T.setTop g) target := by
  obtain ⟨mk, methM, cM, hnamed, hmethM, -, -, -, -, -, -, hsigM⟩ := Cond.codeWith_spec hcode
  have hstatic : methM.isStatic = true := Cond.static_spec hnamed hmethM hstat
  obtain ⟨kP, hkP, -⟩ := className_of_methodNamed hnamed
  have hinitP : kP.init = .initialized := Cond.initialized_spec (findClass_of_methodNamed hnamed) hkP hinit
  obtain ⟨vm₁, X₁, hstep₁⟩ := X.invokestatic hexec hown hlink hnamed hmethM hstatic hkP hinitP hy (g := g) hg (argsL := argsL) (rest := rest) (hlen _ hsigM) hstack hdg
  obtain ⟨v, B, X', hpost, hsteps⟩ := hK m meth c ⟨T.setVm vm₁, locs, cells, slots⟩ { g with stack := rest } (.invokestatic index) mk argsL.toArray X₁ hg hsize hdg hW (X₁.named hnamed) (hpre vm₁ X₁.warmed)
  exact ⟨v, vm₁, B, X₁.warmed, X', hpost, fun target h => hstep₁ _ fun acts => by rw [doInvoke_state]; exact hsteps.trans h⟩
theorem vx_runSW {y : MethodName} {bytes cc : ByteArray} {maxL nL mc ms n index : Nat} {ret : Option FieldType} {hh : List (Nat × Nat × Nat × Nat)} {ws : List Cond} {rm : Room} {Pc : Array Value → State → Prop} {Qc : Array Value → State → Outcome → State → Prop} {free : Addr → Prop} {Ts : List Cond} {own : String} {As rest : List Value} {g : JFrame}
    (S : CallFix p m c cc nL s args Ts own) (hM : Met l y ws rm Pc Qc mc ms free) (cw : vx_CSW R s args own index y bytes maxL ret hh ws rm mc ms n) (hp : PreS s H Pc As)
    (hg : g.method = m) (hn : As.length = n) (hsize : g.locals.size = nL) (hstack : g.stack = As.reverse ++ rest) (hW : 2 * g.monitorRoom + (rest.map fun v => v.category).sum ≤ 8) (hdg : decode cc g.pc = .ok (.invokestatic index, 3)) (hf : cells + mc ≤ R.cells ∧ slots + ms ≤ R.slots) :
    va_Run p l e R s m args below meth c H locs cells slots mc ms g rest (Qc As.toArray) (free) := by
  obtain ⟨⟨hrc, hrs, hfr, hlo, hws, hcw⟩, hcode, hini, hy, hlen, hl, hstt⟩ := cw
  have hK : Back l R p e below s args y 3 8 (PreOf R mc ms Pc) (PostOf Qc mc ms free) := va_backW (hh := hh) (bytes := bytes) (maxL := maxL) (ret := ret) hM hp.1 hrc hrs hfr hlo hws hcw (fun a' U hW => word_at hW (Or.inl (by first | rfl | simp [Cond.onTables, Cond.keeps, Cond.steady])) hini)
  obtain ⟨hx, hb, hml, ho, -⟩ := S
  intro T hT X
  obtain ⟨v, vm₁, ⟨U', l2, c2, s2⟩, hW₁, X', ⟨g', mk, t, L, e1, e2, hq, h1, hL, h2, h3⟩, st⟩ := vx_callSW X hx (hh := hh) (bytes := bytes) (maxL := maxL) (ret := ret) ho hl hstt hini hcode hy hK hg (hsize.trans hml.symm) (argsL := As) (rest := rest) (fun sig h => hn.trans (hlen sig h)) hstack hW (by rw [hb]; exact hdg)
    (fun vm₁ hW₁ => ⟨hf.1, hf.2, hp.2 (T.setVm vm₁) hT hW₁⟩)
  dsimp only [Pt.U, Pt.locs, Pt.cells, Pt.slots] at X' e1 e2 h1 h2 h3 st
  subst h1; subst h2; subst h3
  exact ⟨v, (T.setVm vm₁).calling g' mk As.toArray, t, U', L, hT, X', hL, e1, e2, hq, st⟩
/-- not caught here, past rows that name other classes: it goes on to the caller -/
theorem vx_outP {p : Program} {l : Launch} {e : Env} {R : Room} {s : State} {m : MethodId} {args : Array Value} {below : List Frame} {meth : Method} {c : Code} {H : Heap} {locs : List Loc} {cells slots : Nat} {free : Addr → Prop} {ls : Array Slot} {rest : List Value} {Qc : Array Value → State → Outcome → State → Prop} {XC : String → State → State → Prop}
    {pc : Nat} {own E : String} {ce : Cell} {q : Addr} {mc ms : Nat} (hown : s.vm.findClass own = some m.cls) (hlocks : meth.locks = false)
    (hpass : ∀ z ∈ c.exceptionTable.toList, covers z pc = false ∨ (z.catchType ≠ 0 ∧ ∃ nm : String, (Cond.classLink own z.catchType nm).before args s = true ∧ va_Nc E nm s)) (hcell : H[q]? = some ce) (hv : ce.vm = .none) (hcl : s.vm.findClass E = some ce.cls)
    (hx : ∀ t : State, t.heap = H → s.vm.Alike t.vm → XC E s t) (hf : ∀ z ∈ locs, free z.base) (hc : cells ≤ mc) (hs : slots ≤ ms) :
    vx_W p l e R s m args below meth c H locs cells slots (vx_MQ below Qc XC args s mc ms free) (F0 m pc ls rest) q := by
  intro T hT X
  have hpl : e.platform.magicAccessors = ({} : Platform).magicAccessors := by rw [X.admits.platform]
  obtain ⟨vm', hW', X', st⟩ := X.outThrough hlocks q (g := F0 m pc ls rest) rfl rfl rfl (cell := ce) (by rw [hT]; exact hcell) (by rw [hv]; rfl)
    (by obtain ⟨k9, h9, -⟩ := Vm.findClass_spec hcl; exact ⟨k9, h9⟩) (fun z hz => by
      rcases hpass z hz with h | ⟨hz0, nm, hl1, hn1⟩
      · exact Or.inl h
      · obtain ⟨c6, hc6, hcl6⟩ := Cond.classLink_spec hown hl1 e.platform hpl
        obtain ⟨a8, b8, h1, h2, h3⟩ := hn1
        cases Option.some.inj (h1.symm.trans hcl)
        cases Option.some.inj (h2.symm.trans hc6)
        exact Or.inr ⟨hz0, _, hcl6, h3⟩)
  obtain ⟨g₀, hfr⟩ := X'.frames_eq
  have hcell9 : ((T.setVm vm').setFrames (.throwing q :: below)).heap[q]? = some ce := by
    show T.heap[q]? = some ce
    rw [hT]; exact hcell
  have hend : Ended ((T.setVm vm').setFrames (.throwing q :: below)) below (.threw q) := State.frames_setFrames _ (State.cur_lt_of_frames hfr)
  refine ⟨(T.setVm vm').setFrames (.throwing q :: below), ?_, .threw q, X'.here.running, hend, Or.inr ⟨q, rfl, E, ce, locs, hx _ hT (X'.ends _).1.alike, hcell9, hv, hcl, (X'.ends _).1, (X'.ends _).2.mono hc hs, hf⟩⟩
  rw [X.pushThrowing_eq]
  exact st
/-- a thing of a world lies in the heap -/
theorem vx_lt {D : va_G} {cl : List vw_C} {ws : va_W} {H1 : Heap} (h : va_P D cl ws H1) {k : Nat} {q : Nat × va_E} (hk : ws[k]? = some q) : q.1 < H1.size := (h k q hk).lt
end VXS
/-! ===== END ===== -/
/-! ===== BEGIN methods with a table of their own: called by a name, returning or throwing ===== -/
section VXH
/-! vx_backW, vx_callVX, vx_callSX, vx_callVW, vx_runVW, vx_runVX, vx_runSX, vx_ofWH follow the same proofs as their sisters above (Free/Laws.lean, Shelf42/LK1.lean); vx_outP calls Shelf42/NT130.lean (outThrough). -/
section
variable {l : Launch} {R : Room} {p : Program} {e : Env} {below : List Frame} {s : State} {sargs : Array Value} {y : MethodName} {len W9 : Nat}
theorem vx_backW {ws : List Cond} {rm : Room} {Pc : Array Value → State → Prop} {Qc : Array Value → State → Outcome → State → Prop} {XC : String → State → State → Prop} {mc ms : Nat} {free : Addr → Prop} {bytes : ByteArray} {maxL : Nat} {ret : Option FieldType} {hh : List (Nat × Nat × Nat × Nat)}
    (hM : vx_Met l y ws rm Pc Qc XC mc ms free) (hblind : FrameBlind Pc) (hrc : rm.cells = mc) (hrs : rm.slots = ms)
    (hframes : rm.frames + 1 ≤ R.frames) (hlocals : W9 + (maxL + 11) + rm.locals ≤ R.locals)
    (hws : ∀ w ∈ ws, ∀ a' U, s.WarmedH U.vm → w.before a' U = true) (hcode : Cond.codeWith y bytes maxL ret hh ∈ ws) (hinit : ∀ a' U, s.WarmedH U.vm → (Cond.initialized y.cls).before a' U = true) :
    vx_Back l R p e below s sargs y len W9 (PreOf R mc ms Pc) (PostOf Qc mc ms free) (vx_Post XC mc ms free) := by
  intro m meth c A g ig mk a X hg hsize hdg hW hn hp
  have h1 : (headSpec ws rm).pre.before a A.U = true := atoms_intro fun w hw => hws w hw _ _ X.warmed
  have h2 : (Cond.codeWith y bytes maxL ret hh).before a A.U = true := hws _ hcode _ _ X.warmed
  have h3 : (Cond.initialized y.cls).before a A.U = true := hinit _ _ X.warmed
  have h4 : A.cells + (headSpec ws rm).room.cells ≤ R.cells := by rw [show (headSpec ws rm).room.cells = mc from hrc]; exact hp.1
  have h5 : A.slots + (headSpec ws rm).room.slots ≤ R.slots := by rw [show (headSpec ws rm).room.slots = ms from hrs]; exact hp.2.1
  have hPc : Pc a (A.U.calling g mk a) := hblind _ _ _ _ hp.2.2
  obtain ⟨U, Ls, c0, s0⟩ := A
  dsimp only [Pt.U, Pt.locs, Pt.cells, Pt.slots] at h1 h2 h3 h4 h5 X hn hPc ⊢
  obtain ⟨m9, methY, cY, hn9, hmY, hcY, -, hlY, -⟩ := Cond.codeWith_spec h2
  cases Option.some.inj (hn9.symm.trans hn)
  obtain ⟨kY, hkY, -⟩ := className_of_methodNamed hn
  have hinitY : kY.init = .initialized := Cond.initialized_spec (findClass_of_methodNamed hn) hkY h3
  have h : At U g.method c below := by rw [hg]; exact X.here
  have hlocals9 : W9 + (maxL + 11) + (headSpec ws rm).room.locals ≤ R.locals := hlocals
  have happ : (headSpec ws rm).appliesLoose y e.platform (U.calling g mk a) = true :=
    Spec.appliesLoose_calling (g := g) h hdg hn hkY hinitY
      (X.room_calling (g := g) (R' := (headSpec ws rm).room) hsize hmY hcY hframes (by rw [hlY]; omega) h4 h5) h1
  obtain ⟨mid, hmid⟩ := h.above
  have hfr : (U.setTop g).frames = (.java g :: mid) ++ below := by rw [State.frames_setTop' g h.top, hmid]; rfl
  obtain ⟨o, s₂, hsteps, -, hend, hq⟩ := Steps.callFree hM p X.admits X.cas X.clock (acts := []) hfr happ hPc trivial
  have hq' : vx_Q Qc XC mc ms free a (U.calling g mk a) o s₂ := hq
  rw [State.frames_setTop' g h.top] at hend
  obtain ⟨g₀, hg0⟩ := Option.isSome_iff_exists.mp h.top
  obtain ⟨r, hr⟩ := State.topJava?_eq_some.mp hg0
  have hr' : (({ U with heap := s₂.heap, slotsUsed := s₂.slotsUsed } : State).setVm s₂.vm).frames = .java g₀ :: r := hr
  rcases hq' with ⟨hqc, L, hfe, hL⟩ | ⟨q, rfl, E, ce, L, hx, hce, hcv, hcl, hW₂, hsm, hL⟩
  · obtain ⟨⟨v, rfl⟩, hW₂, e2, q2, q3, q4, q5, q6⟩ := id hfe
    have e3 : s₂ = ({ (U.calling g mk a).setFrames s₂.frames with heap := s₂.heap, slotsUsed := s₂.slotsUsed } : State).setVm s₂.vm := by
      have : s₂ = ({ s₂ with vm := (U.calling g mk a).vm } : State).setVm s₂.vm := rfl
      rw [e2] at this
      exact this
    obtain ⟨c₂, i₂, len₂, hc₂, hd₂, hf₂⟩ := hend
    have hW' : U.WarmedH s₂.vm := hW₂
    have hcc : c₂ = c := by
      have h1 : s₂.code? g.method = U.code? g.method := by
        rw [State.code?_eq, State.code?_eq, hW'.alike.method?]
      exact Option.some.inj (hc₂.symm.trans (h1.trans h.code))
    subst hcc
    have hlen : len₂ = len := by rw [hdg] at hd₂; cases hd₂; rfl
    subst hlen
    have hs₂ : s₂ = (({ U with heap := s₂.heap, slotsUsed := s₂.slotsUsed } : State).setVm s₂.vm).setTop { g with pc := g.pc + len₂, stack := v.toList ++ g.stack } := by
      refine e3.trans ?_
      rw [hf₂, State.calling_eq h.top, State.setFrames_setFrames, State.setTop_of_frames _ hr', hr]
      rfl
    have hsame : U.sameButNew ({ U with heap := s₂.heap, slotsUsed := s₂.slotsUsed } : State) L mc ms := by
      refine ⟨?_, q2, q3, q4, q5, q6⟩
      obtain ⟨t, ht, -⟩ := State.frames_cons hr
      show ({ U with heap := s₂.heap, slotsUsed := s₂.slotsUsed } : State) = { U.setFrames U.frames with heap := s₂.heap, slotsUsed := s₂.slotsUsed }
      rw [State.setFrames_self ht]
    subst hg
    refine Or.inl ⟨v, ⟨(({ U with heap := s₂.heap, slotsUsed := s₂.slotsUsed } : State).setVm s₂.vm), Ls ++ L, c0 + mc, s0 + ms⟩,
      ⟨X.admits, X.cas, X.clock, X.frames, X.room, X.hears, X.method, X.code, (X.here.setHeapUsed s₂.heap s₂.slotsUsed).setVm hW'.alike, X.tail, State.WarmedH.trans X.warmed hW', X.limits, X.bytes, X.same.trans (hsame.setVm s.vm)⟩,
      ⟨g, mk, s₂, L, rfl, rfl, hqc, rfl, hL, rfl, rfl⟩, ?_⟩
    show Steps p.tables e below _ ((({ U with heap := s₂.heap, slotsUsed := s₂.slotsUsed } : State).setVm s₂.vm).setTop { g with pc := g.pc + len₂, stack := v.toList ++ g.stack })
    rw [← hs₂]
    exact hsteps
  · obtain ⟨e2, q2, q3, q4, q5, q6⟩ := id hsm
    have e3 : s₂ = ({ (U.calling g mk a).setFrames s₂.frames with heap := s₂.heap, slotsUsed := s₂.slotsUsed } : State).setVm s₂.vm := by
      have : s₂ = ({ s₂ with vm := (U.calling g mk a).vm } : State).setVm s₂.vm := rfl
      rw [e2] at this
      exact this
    have hf₂ : s₂.frames = .throwing q :: .java g :: U.frames.tail := hend
    have hW' : U.WarmedH s₂.vm := hW₂
    have hs₂ : s₂ = ((({ U with heap := s₂.heap, slotsUsed := s₂.slotsUsed } : State).setVm s₂.vm).setTop g).pushFrame (.throwing q) := by
      refine e3.trans ?_
      rw [hf₂, State.calling_eq h.top, State.setFrames_setFrames, State.pushFrame, State.frames_setTop _ hr', State.setTop_of_frames _ hr', State.setFrames_setFrames, hr]
      rfl
    have hsame : U.sameButNew ({ U with heap := s₂.heap, slotsUsed := s₂.slotsUsed } : State) L mc ms := by
      refine ⟨?_, q2, q3, q4, q5, q6⟩
      obtain ⟨t, ht, -⟩ := State.frames_cons hr
      show ({ U with heap := s₂.heap, slotsUsed := s₂.slotsUsed } : State) = { U.setFrames U.frames with heap := s₂.heap, slotsUsed := s₂.slotsUsed }
      rw [State.setFrames_self ht]
    subst hg
    refine Or.inr ⟨q, ⟨(({ U with heap := s₂.heap, slotsUsed := s₂.slotsUsed } : State).setVm s₂.vm), Ls ++ L, c0 + mc, s0 + ms⟩,
      ⟨X.admits, X.cas, X.clock, X.frames, X.room, X.hears, X.method, X.code, (X.here.setHeapUsed s₂.heap s₂.slotsUsed).setVm hW'.alike, X.tail, State.WarmedH.trans X.warmed hW', X.limits, X.bytes, X.same.trans (hsame.setVm s.vm)⟩,
      ⟨g, mk, s₂, L, E, ce, rfl, rfl, hx, hce, hcv, hcl, rfl, hL, rfl, rfl⟩, ?_⟩
    show Steps p.tables e below _ (((({ U with heap := s₂.heap, slotsUsed := s₂.slotsUsed } : State).setVm s₂.vm).setTop g).pushFrame (.throwing q))
    rw [← hs₂]
    exact hsteps
end
variable {p : Program} {l : Launch} {e : Env} {R : Room} {s : State} {m : MethodId} {args : Array Value} {below : List Frame} {meth : Method} {c : Code} {T : State} {H : Heap} {locs : List Loc} {cells slots : Nat}
theorem vx_callVX (X : Stand p l e R s m args below meth c T locs cells slots) (hexec : p.tables.exec = Jvm.exec) {own C : String} {index : Nat} {y : MethodName} {bytes : ByteArray} {maxL : Nat} {ret : Option FieldType} {hh : List (Nat × Nat × Nat × Nat)}
    (hown : s.vm.findClass own = some m.cls) (hlink : (Cond.methodLink own index y).before args s = true) (hinst : (Cond.instanceMethod y).before args s = true) (hsel : (Cond.selects C y y).before args s = true)
    (hcode : (Cond.codeWith y bytes maxL ret hh).before args s = true) (hy : y.cls ≠ "java/lang/invoke/MethodHandle" ∧ y.cls ≠ "java/lang/invoke/VarHandle")
    {W9 : Nat} {Pre : Pt → Array Value → Prop} {Post : Pt → Array Value → Option Value → Pt → Prop} {PostX : Pt → Array Value → Addr → Pt → Prop} (hK : vx_Back l R p e below s args y 3 W9 Pre Post PostX)
    {b : Addr} {cellB : Cell} (hcell : T.heap[b]? = some cellB) (hobj : cellB.vm.isStatics = false) (hcls : s.vm.findClass C = some cellB.cls)
    {g : JFrame} (hg : g.method = m) (hsize : g.locals.size = c.maxLocals) {argsL rest : List Value} (hlen : ∀ sig, parseMethodDescriptor y.desc = some sig → argsL.length = sig.parameters.length)
    (hstack : g.stack = argsL.reverse ++ .ref b :: rest) (hW : 2 * g.monitorRoom + (rest.map fun v => v.category).sum ≤ W9) (hdg : decode c.code g.pc = .ok (.invokevirtual index, 3))
    (hpre : ∀ vm₁, s.WarmedH vm₁ → Pre ⟨T.setVm vm₁, locs, cells, slots⟩ (Value.ref b :: argsL).toArray) :
    (∃ (v : Option Value) (vm₁ : Vm) (B : Pt), s.WarmedH vm₁ ∧ Stand p l e R s m args below meth c B.U B.locs B.cells B.slots ∧ Post ⟨T.setVm vm₁, locs, cells, slots⟩ (Value.ref b :: argsL).toArray v B ∧
      ∀ target, Steps p.tables e below (B.U.setTop { g with pc := g.pc + 3, stack := v.toList ++ rest }) target → Steps p.tables e below (T.setTop g) target) ∨
    (∃ (q : Addr) (vm₁ : Vm) (B : Pt), s.WarmedH vm₁ ∧ Stand p l e R s m args below meth c B.U B.locs B.cells B.slots ∧ PostX ⟨T.setVm vm₁, locs, cells, slots⟩ (Value.ref b :: argsL).toArray q B ∧
      Steps p.tables e below (T.setTop g) ((B.U.setTop { g with stack := rest }).pushFrame (.throwing q))) := by
  obtain ⟨mk, methM, hnamed, hmethM, hstM, habM⟩ := Cond.instanceMethod_spec hinst
  obtain ⟨m8, methM', cM, hn8, hmethM', -, -, -, -, -, -, hsigM⟩ := Cond.codeWith_spec hcode
  cases Option.some.inj (hn8.symm.trans hnamed)
  cases hmethM.symm.trans hmethM'
  obtain ⟨c2, r2, m2, q1, q2, q3, q4, kP, hkP, hkPi⟩ := Cond.selects_spec hsel
  cases hcls.symm.trans q1
  cases (State.methodFound?_of_named hnamed hy).symm.trans q2
  cases hnamed.symm.trans q3
  have hselP : selectMethod e.platform s.vm cellB.cls mk = .method mk := by rw [Launch.admits_selectMethod X.admits]; exact q4
  obtain ⟨vm₁, X₁, hstep₁⟩ := X.invokevirtual hexec hown hlink hnamed hmethM hstM hkP hkPi hy (a := b) (cell := cellB) hcell
    (fun z h => by rw [h] at hobj; cases hobj) hselP hmethM habM hkP hkPi (g := g) hg (argsL := argsL) (rest := rest) (hlen _ hsigM) hstack hdg
  rcases hK m meth c ⟨T.setVm vm₁, locs, cells, slots⟩ { g with stack := rest } (.invokevirtual index) mk (Value.ref b :: argsL).toArray X₁ hg hsize hdg hW (X₁.named hnamed) (hpre vm₁ X₁.warmed) with ⟨v, B, X', hpost, hsteps⟩ | ⟨q, B, X', hpost, hsteps⟩
  · exact Or.inl ⟨v, vm₁, B, X₁.warmed, X', hpost, fun target h => hstep₁ _ fun acts => by rw [doInvoke_state]; exact hsteps.trans h⟩
  · exact Or.inr ⟨q, vm₁, B, X₁.warmed, X', hpost, hstep₁ _ fun acts => by rw [doInvoke_state]; exact hsteps⟩
theorem vx_callSX (X : Stand p l e R s m args below meth c T locs cells slots) (hexec : p.tables.exec = Jvm.exec) {own : String} {index : Nat} {y : MethodName} {bytes : ByteArray} {maxL : Nat} {ret : Option FieldType} {hh : List (Nat × Nat × Nat × Nat)}
    (hown : s.vm.findClass own = some m.cls) (hlink : (Cond.methodLink own index y).before args s = true) (hstat : (Cond.static y).before args s = true) (hinit : (Cond.initialized y.cls).before args s = true)
    (hcode : (Cond.codeWith y bytes maxL ret hh).before args s = true) (hy : y.cls ≠ "java/lang/invoke/MethodHandle" ∧ y.cls ≠ "java/lang/invoke/VarHandle")
    {W9 : Nat} {Pre : Pt → Array Value → Prop} {Post : Pt → Array Value → Option Value → Pt → Prop} {PostX : Pt → Array Value → Addr → Pt → Prop} (hK : vx_Back l R p e below s args y 3 W9 Pre Post PostX)
    {g : JFrame} (hg : g.method = m) (hsize : g.locals.size = c.maxLocals) {argsL rest : List Value} (hlen : ∀ sig, parseMethodDescriptor y.desc = some sig → argsL.length = sig.parameters.length)
    (hstack : g.stack = argsL.reverse ++ rest) (hW : 2 * g.monitorRoom + (rest.map fun v => v.category).sum ≤ W9) (hdg : decode c.code g.pc = .ok (.invokestatic index, 3))
    (hpre : ∀ vm₁, s.WarmedH vm₁ → Pre ⟨T.setVm vm₁, locs, cells, slots⟩ argsL.toArray) :
    (∃ (v : Option Value) (vm₁ : Vm) (B : Pt), s.WarmedH vm₁ ∧ Stand p l e R s m args below meth c B.U B.locs B.cells B.slots ∧ Post ⟨T.setVm vm₁, locs, cells, slots⟩ argsL.toArray v B ∧
      ∀ target, Steps p.tables e below (B.U.setTop { g with pc := g.pc + 3, stack := v.toList ++ rest }) target → Steps p.tables e below (T.setTop g) target) ∨
    (∃ (q : Addr) (vm₁ : Vm) (B : Pt), s.WarmedH vm₁ ∧ Stand p l e R s m args below meth c B.U B.locs B.cells B.slots ∧ PostX ⟨T.setVm vm₁, locs, cells, slots⟩ argsL.toArray q B ∧
      Steps p.tables e below (T.setTop g) ((B.U.setTop { g with stack := rest }).pushFrame (.throwing q))) := by
  obtain ⟨mk, methM, cM, hnamed, hmethM, -, -, -, -, -, -, hsigM⟩ := Cond.codeWith_spec hcode
  have hstatic : methM.isStatic = true := Cond.static_spec hnamed hmethM hstat
  obtain ⟨kP, hkP, -⟩ := className_of_methodNamed hnamed
  have hinitP : kP.init = .initialized := Cond.initialized_spec (findClass_of_methodNamed hnamed) hkP hinit
  obtain ⟨vm₁, X₁, hstep₁⟩ := X.invokestatic hexec hown hlink hnamed hmethM hstatic hkP hinitP hy (g := g) hg (argsL := argsL) (rest := rest) (hlen _ hsigM) hstack hdg
  rcases hK m meth c ⟨T.setVm vm₁, locs, cells, slots⟩ { g with stack := rest } (.invokestatic index) mk argsL.toArray X₁ hg hsize hdg hW (X₁.named hnamed) (hpre vm₁ X₁.warmed) with ⟨v, B, X', hpost, hsteps⟩ | ⟨q, B, X', hpost, hsteps⟩
  · exact Or.inl ⟨v, vm₁, B, X₁.warmed, X', hpost, fun target h => hstep₁ _ fun acts => by rw [doInvoke_state]; exact hsteps.trans h⟩
  · exact Or.inr ⟨q, vm₁, B, X₁.warmed, X', hpost, hstep₁ _ fun acts => by rw [doInvoke_state]; exact hsteps⟩
theorem vx_callVW (X : Stand p l e R s m args below meth c T locs cells slots) (hexec : p.tables.exec = Jvm.exec) {own C : String} {index : Nat} {y : MethodName} {bytes : ByteArray} {maxL : Nat} {ret : Option FieldType} {hh : List (Nat × Nat × Nat × Nat)}
    (hown : s.vm.findClass own = some m.cls) (hlink : (Cond.methodLink own index y).before args s = true) (hinst : (Cond.instanceMethod y).before args s = true) (hsel : (Cond.selects C y y).before args s = true)
    (hcode : (Cond.codeWith y bytes maxL ret hh).before args s = true) (hy : y.cls ≠ "java/lang/invoke/MethodHandle" ∧ y.cls ≠ "java/lang/invoke/VarHandle")
    {W9 : Nat} {Pre : Pt → Array Value → Prop} {Post : Pt → Array Value → Option Value → Pt → Prop} (hK : Back l R p e below s args y 3 W9 Pre Post)
    {b : Addr} {cellB : Cell} (hcell : T.heap[b]? = some cellB) (hobj : cellB.vm.isStatics = false) (hcls : s.vm.findClass C = some cellB.cls)
    {g : JFrame} (hg : g.method = m) (hsize : g.locals.size = c.maxLocals) {argsL rest : List Value} (hlen : ∀ sig, parseMethodDescriptor y.desc = some sig → argsL.length = sig.parameters.length)
    (hstack : g.stack = argsL.reverse ++ .ref b :: rest) (hW : 2 * g.monitorRoom + (rest.map fun v => v.category).sum ≤ W9) (hdg : decode c.code g.pc = .ok (.invokevirtual index, 3))
    (hpre : ∀ vm₁, s.WarmedH vm₁ → Pre ⟨T.setVm vm₁, locs, cells, slots⟩ (Value.ref b :: argsL).toArray) :
    ∃ (v : Option Value) (vm₁ : Vm) (B : Pt), s.WarmedH vm₁ ∧ Stand p l e R s m args below meth c B.U B.locs B.cells B.slots ∧ Post ⟨T.setVm vm₁, locs, cells, slots⟩ (Value.ref b :: argsL).toArray v B ∧
      ∀ target, Steps p.tables e below (B.U.setTop { g with pc := g.pc + 3, stack := v.toList ++ rest }) target → Steps p.tables e below (T.setTop g) target := by
  obtain ⟨mk, methM, hnamed, hmethM, hstM, habM⟩ := Cond.instanceMethod_spec hinst
  obtain ⟨m8, methM', cM, hn8, hmethM', -, -, -, -, -, -, hsigM⟩ := Cond.codeWith_spec hcode
  cases Option.some.inj (hn8.symm.trans hnamed)
  cases hmethM.symm.trans hmethM'
  obtain ⟨c2, r2, m2, q1, q2, q3, q4, kP, hkP, hkPi⟩ := Cond.selects_spec hsel
  cases hcls.symm.trans q1
  cases (State.methodFound?_of_named hnamed hy).symm.trans q2
  cases hnamed.symm.trans q3
  have hselP : selectMethod e.platform s.vm cellB.cls mk = .method mk := by rw [Launch.admits_selectMethod X.admits]; exact q4
  obtain ⟨vm₁, X₁, hstep₁⟩ := X.invokevirtual hexec hown hlink hnamed hmethM hstM hkP hkPi hy (a := b) (cell := cellB) hcell
    (fun z h => by rw [h] at hobj; cases hobj) hselP hmethM habM hkP hkPi (g := g) hg (argsL := argsL) (rest := rest) (hlen _ hsigM) hstack hdg
  obtain ⟨v, B, X', hpost, hsteps⟩ := hK m meth c ⟨T.setVm vm₁, locs, cells, slots⟩ { g with stack := rest } (.invokevirtual index) mk (Value.ref b :: argsL).toArray X₁ hg hsize hdg hW (X₁.named hnamed) (hpre vm₁ X₁.warmed)
  exact ⟨v, vm₁, B, X₁.warmed, X', hpost, fun target h => hstep₁ _ fun acts => by rw [doInvoke_state]; exact hsteps.trans h⟩
abbrev vx_CVW (R : Room) (s : State) (args : Array Value) (own C : String) (index : Nat) (y : MethodName) (bytes : ByteArray) (maxL : Nat) (ret : Option FieldType) (hh : List (Nat × Nat × Nat × Nat)) (ws : List Cond) (rm : Room) (mc ms n : Nat) : Prop :=
  (rm.cells = mc ∧ rm.slots = ms ∧ rm.frames + 1 ≤ R.frames ∧ 8 + (maxL + 11) + rm.locals ≤ R.locals ∧ (∀ w ∈ ws, ∀ (a' : Array Value) (U : State), s.WarmedH U.vm → w.before a' U = true) ∧ Cond.codeWith y bytes maxL ret hh ∈ ws) ∧
  (Cond.codeWith y bytes maxL ret hh).before args s = true ∧ (Cond.initialized y.cls).before args s = true ∧ (y.cls ≠ "java/lang/invoke/MethodHandle" ∧ y.cls ≠ "java/lang/invoke/VarHandle") ∧
  (∀ sig, parseMethodDescriptor y.desc = some sig → n = sig.parameters.length) ∧ (Cond.methodLink own index y).before args s = true ∧ (Cond.instanceMethod y).before args s = true ∧ (Cond.selects C y y).before args s = true
theorem vx_cwVW {own C : String} {index maxL mc ms : Nat} {y : MethodName} {bytes : ByteArray} {ret : Option FieldType} {hh : List (Nat × Nat × Nat × Nat)} {Ts ws ws' : List Cond} {rm : Room} (n : Nat) (ht : ∀ w ∈ Ts, w.before args s = true) (hT : GoodIn Ts (wsV own index C y ws)) (hw : ws = Cond.codeWith y bytes maxL ret hh :: ws') (hrc : rm.cells = mc) (hrs : rm.slots = ms)
    (hd : y.cls = C ∧ y.cls ≠ "java/lang/invoke/MethodHandle" ∧ y.cls ≠ "java/lang/invoke/VarHandle" ∧ (parseMethodDescriptor y.desc).map (fun d => d.parameters.length) = some n) (hR : rm.frames + 1 ≤ R.frames ∧ 8 + (maxL + 11) + rm.locals ≤ R.locals) :
    vx_CVW R s args own C index y bytes maxL ret hh ws rm mc ms n := by
  obtain ⟨hC, hd⟩ := hd
  subst hC
  have ok : ∀ w ∈ wsV own index y.cls y ws, w.before args s = true := fun w h => ht w (hT w h).1
  have hG : GoodIn Ts ws := fun w h => hT w (by unfold wsV; exact List.mem_append_right _ h)
  have hc : Cond.codeWith y bytes maxL ret hh ∈ ws := by rw [hw]; exact List.mem_cons_self
  refine ⟨⟨hrc, hrs, hR.1, hR.2, pay_in ht hG, hc⟩, ht _ (hG _ hc).1, ok _ (by simp [wsV]), ⟨hd.1, hd.2.1⟩, fun sig h => ?_, ok _ (by simp [wsV]), ok _ (by simp [wsV]), ok _ (by simp [wsV])⟩
  have h2 := hd.2.2
  rw [h] at h2
  exact (Option.some.inj h2).symm
theorem vx_runVW {y : MethodName} {bytes cc : ByteArray} {maxL nL mc ms n index : Nat} {ret : Option FieldType} {hh : List (Nat × Nat × Nat × Nat)} {ws : List Cond} {rm : Room} {Pc : Array Value → State → Prop} {Qc : Array Value → State → Outcome → State → Prop} {free : Addr → Prop} {Ts : List Cond} {own C : String} {b : Addr} {As rest : List Value} {g : JFrame}
    (S : CallFix p m c cc nL s args Ts own) (hM : Met l y ws rm Pc Qc mc ms free) (cw : vx_CVW R s args own C index y bytes maxL ret hh ws rm mc ms n) (hp : PreV s H C b Pc As)
    (hg : g.method = m) (hn : As.length = n) (hsize : g.locals.size = nL) (hstack : g.stack = As.reverse ++ .ref b :: rest) (hW : 2 * g.monitorRoom + (rest.map fun v => v.category).sum ≤ 8) (hdg : decode cc g.pc = .ok (.invokevirtual index, 3)) (hf : cells + mc ≤ R.cells ∧ slots + ms ≤ R.slots) :
    va_Run p l e R s m args below meth c H locs cells slots mc ms g rest (Qc (Value.ref b :: As).toArray) free := by
  obtain ⟨⟨hrc, hrs, hfr, hlo, hws, hcw⟩, hcode, hini, hy, hlen, hl, hin, hse⟩ := cw
  have hK : Back l R p e below s args y 3 8 (PreOf R mc ms Pc) (PostOf Qc mc ms free) := va_backW (hh := hh) (bytes := bytes) (maxL := maxL) (ret := ret) hM hp.1 hrc hrs hfr hlo hws hcw (fun a' U hW => word_at hW (Or.inl (by first | rfl | simp [Cond.onTables, Cond.keeps, Cond.steady])) hini)
  obtain ⟨hx, hb, hml, ho, -⟩ := S
  obtain ⟨-, ⟨cellB, hcB, hoB, hclB⟩, hPc⟩ := hp
  intro T hT X
  obtain ⟨v, vm₁, ⟨U', l2, c2, s2⟩, hW₁, X', ⟨g', mk, t, L, e1, e2, hq, h1, hL, h2, h3⟩, st⟩ := vx_callVW X hx (C := C) (hh := hh) (bytes := bytes) (maxL := maxL) (ret := ret) ho hl hin hse hcode hy hK (by rw [hT]; exact hcB) hoB hclB hg (hsize.trans hml.symm) (argsL := As) (rest := rest) (fun sig h => hn.trans (hlen sig h)) hstack hW (by rw [hb]; exact hdg)
    (fun vm₁ hW₁ => ⟨hf.1, hf.2, hPc (T.setVm vm₁) hT hW₁⟩)
  dsimp only [Pt.U, Pt.locs, Pt.cells, Pt.slots] at X' e1 e2 h1 h2 h3 st
  subst h1; subst h2; subst h3
  exact ⟨v, (T.setVm vm₁).calling g' mk (Value.ref b :: As).toArray, t, U', L, hT, X', hL, e1, e2, hq, st⟩
section
variable {y : MethodName} {bytes cc : ByteArray} {maxL nL mc ms n index : Nat} {ret : Option FieldType} {ws : List Cond} {rm : Room} {Pc : Array Value → State → Prop} {Qc : Array Value → State → Outcome → State → Prop} {XC : String → State → State → Prop} {free : Addr → Prop} {Ts : List Cond} {own C : String} {b : Addr} {As rest : List Value} {g : JFrame}
theorem vx_runVX {hh : List (Nat × Nat × Nat × Nat)} (S : CallFix p m c cc nL s args Ts own) (hM : vx_Met l y ws rm Pc Qc XC mc ms free) (cw : vx_CVW R s args own C index y bytes maxL ret hh ws rm mc ms n) (hp : PreV s H C b Pc As)
    (hg : g.method = m) (hn : As.length = n) (hsize : g.locals.size = nL) (hstack : g.stack = As.reverse ++ .ref b :: rest) (hW : 2 * g.monitorRoom + (rest.map fun v => v.category).sum ≤ 8) (hdg : decode cc g.pc = .ok (.invokevirtual index, 3)) (hf : cells + mc ≤ R.cells ∧ slots + ms ≤ R.slots) :
    vx_Run p l e R s m args below meth c H locs cells slots mc ms g rest (Qc (Value.ref b :: As).toArray) XC free := by
  obtain ⟨⟨hrc, hrs, hfr, hlo, hws, hcw⟩, hcode, hini, hy, hlen, hl, hin, hse⟩ := cw
  have hK : vx_Back l R p e below s args y 3 8 (PreOf R mc ms Pc) (PostOf Qc mc ms free) (vx_Post XC mc ms free) := vx_backW (hh := hh) (bytes := bytes) (maxL := maxL) (ret := ret) hM hp.1 hrc hrs hfr hlo hws hcw (fun a' U hW => word_at hW (Or.inl (by first | rfl | simp [Cond.onTables, Cond.keeps, Cond.steady])) hini)
  obtain ⟨hx, hb, hml, ho, -⟩ := S
  obtain ⟨-, ⟨cellB, hcB, hoB, hclB⟩, hPc⟩ := hp
  intro T hT X
  rcases vx_callVX X hx (C := C) (hh := hh) (bytes := bytes) (maxL := maxL) (ret := ret) ho hl hin hse hcode hy hK (by rw [hT]; exact hcB) hoB hclB hg (hsize.trans hml.symm) (argsL := As) (rest := rest) (fun sig h => hn.trans (hlen sig h)) hstack hW (by rw [hb]; exact hdg)
    (fun vm₁ hW₁ => ⟨hf.1, hf.2, hPc (T.setVm vm₁) hT hW₁⟩) with ⟨v, vm₁, ⟨U', l2, c2, s2⟩, hW₁, X', ⟨g', mk, t, L, e1, e2, hq, h1, hL, h2, h3⟩, st⟩ | ⟨q, vm₁, ⟨U', l2, c2, s2⟩, hW₁, X', ⟨g', mk, t, L, E, ce, e1, e2, hq, hce, hcv, hcl, h1, hL, h2, h3⟩, st⟩
  · dsimp only [Pt.U, Pt.locs, Pt.cells, Pt.slots] at X' e1 e2 h1 h2 h3 st
    subst h1; subst h2; subst h3
    exact Or.inl ⟨v, (T.setVm vm₁).calling g' mk (Value.ref b :: As).toArray, t, U', L, hT, X', hL, e1, e2, hq, st⟩
  · dsimp only [Pt.U, Pt.locs, Pt.cells, Pt.slots] at X' e1 e2 h1 h2 h3 st hcl
    subst h1; subst h2; subst h3
    exact Or.inr ⟨q, (T.setVm vm₁).calling g' mk (Value.ref b :: As).toArray, t, U', L, E, ce, hT, X', hL, e1, e2, hq, hce, hcv, vx_cls hW₁ hcl, st⟩
theorem vx_runSX {hh : List (Nat × Nat × Nat × Nat)} (S : CallFix p m c cc nL s args Ts own) (hM : vx_Met l y ws rm Pc Qc XC mc ms free) (cw : vx_CSW R s args own index y bytes maxL ret hh ws rm mc ms n) (hp : PreS s H Pc As)
    (hg : g.method = m) (hn : As.length = n) (hsize : g.locals.size = nL) (hstack : g.stack = As.reverse ++ rest) (hW : 2 * g.monitorRoom + (rest.map fun v => v.category).sum ≤ 8) (hdg : decode cc g.pc = .ok (.invokestatic index, 3)) (hf : cells + mc ≤ R.cells ∧ slots + ms ≤ R.slots) :
    vx_Run p l e R s m args below meth c H locs cells slots mc ms g rest (Qc As.toArray) XC free := by
  obtain ⟨⟨hrc, hrs, hfr, hlo, hws, hcw⟩, hcode, hini, hy, hlen, hl, hstt⟩ := cw
  have hK : vx_Back l R p e below s args y 3 8 (PreOf R mc ms Pc) (PostOf Qc mc ms free) (vx_Post XC mc ms free) := vx_backW (hh := hh) (bytes := bytes) (maxL := maxL) (ret := ret) hM hp.1 hrc hrs hfr hlo hws hcw (fun a' U hW => word_at hW (Or.inl (by first | rfl | simp [Cond.onTables, Cond.keeps, Cond.steady])) hini)
  obtain ⟨hx, hb, hml, ho, -⟩ := S
  intro T hT X
  rcases vx_callSX X hx (hh := hh) (bytes := bytes) (maxL := maxL) (ret := ret) ho hl hstt hini hcode hy hK hg (hsize.trans hml.symm) (argsL := As) (rest := rest) (fun sig h => hn.trans (hlen sig h)) hstack hW (by rw [hb]; exact hdg)
    (fun vm₁ hW₁ => ⟨hf.1, hf.2, hp.2 (T.setVm vm₁) hT hW₁⟩) with ⟨v, vm₁, ⟨U', l2, c2, s2⟩, hW₁, X', ⟨g', mk, t, L, e1, e2, hq, h1, hL, h2, h3⟩, st⟩ | ⟨q, vm₁, ⟨U', l2, c2, s2⟩, hW₁, X', ⟨g', mk, t, L, E, ce, e1, e2, hq, hce, hcv, hcl, h1, hL, h2, h3⟩, st⟩
  · dsimp only [Pt.U, Pt.locs, Pt.cells, Pt.slots] at X' e1 e2 h1 h2 h3 st
    subst h1; subst h2; subst h3
    exact Or.inl ⟨v, (T.setVm vm₁).calling g' mk As.toArray, t, U', L, hT, X', hL, e1, e2, hq, st⟩
  · dsimp only [Pt.U, Pt.locs, Pt.cells, Pt.slots] at X' e1 e2 h1 h2 h3 st hcl
    subst h1; subst h2; subst h3
    exact Or.inr ⟨q, (T.setVm vm₁).calling g' mk As.toArray, t, U', L, E, ce, hT, X', hL, e1, e2, hq, hce, hcv, vx_cls hW₁ hcl, st⟩
end
end VXH
theorem vx_ofWH {l : Launch} {y : MethodName} {ws ws' : List Cond} {rm : Room} {Pc : Array Value → State → Prop} {Qc : Array Value → State → Outcome → State → Prop} {XC : String → State → State → Prop} {mc ms : Nat} {free : Addr → Prop} {cc : ByteArray} {maxL : Nat} {ret : Option FieldType} {hh : List (Nat × Nat × Nat × Nat)}
    (hy : plainName y.cls = true) (hw : ws = Cond.codeWith y cc maxL ret hh :: ws')
    (body : ∀ p e s m args below meth c s₁, BodyLoose p l y (headSpec ws rm) cc maxL ret e s m args below meth c s₁ → c.maxLocals = maxL → Pc args s →
      W p l e (headSpec ws rm).room s m args below meth c s.heap [] 0 0 (vx_MQ below Qc XC args s mc ms free) (entryFrame m args maxL)) : vx_Met l y ws rm Pc Qc XC mc ms free := by
  refine MetFree.of_bodyS (code := cc) (maxLocals := maxL) (ret := ret) hy ?_ ?_
  · intro args s m h hn
    obtain ⟨m9, meth, c, hn9, h1, h2, h3, h4, -, h5, h6, -⟩ := Cond.codeWith_spec (atoms_spec (ws := ws) h _ (by rw [hw]; exact List.mem_cons_self))
    cases hn.symm.trans hn9
    exact ⟨meth, c, h1, h2, h3, h4, h5, h6⟩
  · intro p e s m args below meth c s₁ B hml hP _
    have hh0 : s₁.heap = s.heap := by rw [B.state]; rfl
    obtain ⟨t, a1, o, b1, b2, b3⟩ := body p e s m args below meth c s₁ B hml hP s₁ hh0 (Stand.of_body B)
    exact ⟨t, o, a1, b1, b2, b3⟩
/-! ===== END ===== -/
end
section
/-! The world: objects by number, all that they hold in one function of numbers; the machine's state seen as pure values. -/
def R_Wh : String := "CellHeap$Whole"
def T_Wh : u_T := fun k => match k with
  | 0 => ("CellHeap$Whole", "words", "[I", true)
  | 1 => ("CellHeap$Whole", "length", "I", false)
  | _ => ("CellHeap$Whole", "below", "Z", false)
def t_Wh : Nat → FieldType := fun k => match k with
  | 0 => .array .int
  | 1 => .int
  | _ => .boolean
theorem n_Wh : ∀ a, a < 3 → ∀ b, b < 3 → a ≠ b → (T_Wh a).2.1 ≠ (T_Wh b).2.1 := by decide +kernel
theorem p_Wh : ∀ k, k < 3 → parseFieldDescriptor (T_Wh k).2.2.1 = some (t_Wh k) := by decide +kernel
theorem i_Wh : ∀ w ∈ u_ws R_Wh T_Wh 3, w ∈ wx_tbl := by decide +kernel
def R_Ra : String := "CellHeap$Ratio"
def T_Ra : u_T := fun k => match k with
  | 0 => ("CellHeap$Ratio", "upper", "LCellHeap$Whole;", true)
  | _ => ("CellHeap$Ratio", "lower", "LCellHeap$Whole;", true)
def t_Ra : Nat → FieldType := fun k => match k with
  | 0 => .object "CellHeap$Whole"
  | _ => .object "CellHeap$Whole"
theorem n_Ra : ∀ a, a < 2 → ∀ b, b < 2 → a ≠ b → (T_Ra a).2.1 ≠ (T_Ra b).2.1 := by decide +kernel
theorem p_Ra : ∀ k, k < 2 → parseFieldDescriptor (T_Ra k).2.2.1 = some (t_Ra k) := by decide +kernel
theorem i_Ra : ∀ w ∈ u_ws R_Ra T_Ra 2, w ∈ wx_tbl := by decide +kernel
def R_Di : String := "CellHeap$Division"
def T_Di : u_T := fun k => match k with
  | 0 => ("CellHeap$Division", "quotient", "LCellHeap$Whole;", true)
  | 1 => ("CellHeap$Division", "remainder", "LCellHeap$Whole;", true)
  | 2 => ("CellHeap$Division", "rest", "[I", true)
  | _ => ("CellHeap$Division", "by", "[I", true)
def t_Di : Nat → FieldType := fun k => match k with
  | 0 => .object "CellHeap$Whole"
  | 1 => .object "CellHeap$Whole"
  | 2 => .array .int
  | _ => .array .int
theorem n_Di : ∀ a, a < 4 → ∀ b, b < 4 → a ≠ b → (T_Di a).2.1 ≠ (T_Di b).2.1 := by decide +kernel
theorem p_Di : ∀ k, k < 4 → parseFieldDescriptor (T_Di k).2.2.1 = some (t_Di k) := by decide +kernel
theorem i_Di : ∀ w ∈ u_ws R_Di T_Di 4, w ∈ wx_tbl := by decide +kernel
def R_Re : String := "CellHeap$Reckoner"
def T_Re : u_T := fun k => match k with
  | 0 => ("CellHeap$Reckoner", "left", "LCellHeap$Ratio;", true)
  | 1 => ("CellHeap$Reckoner", "right", "LCellHeap$Ratio;", true)
  | 2 => ("CellHeap$Reckoner", "result", "LCellHeap$Ratio;", true)
  | 3 => ("CellHeap$Reckoner", "other", "LCellHeap$Whole;", true)
  | 4 => ("CellHeap$Reckoner", "divisor", "LCellHeap$Whole;", true)
  | 5 => ("CellHeap$Reckoner", "next", "LCellHeap$Whole;", true)
  | _ => ("CellHeap$Reckoner", "division", "LCellHeap$Division;", true)
def t_Re : Nat → FieldType := fun k => match k with
  | 0 => .object "CellHeap$Ratio"
  | 1 => .object "CellHeap$Ratio"
  | 2 => .object "CellHeap$Ratio"
  | 3 => .object "CellHeap$Whole"
  | 4 => .object "CellHeap$Whole"
  | 5 => .object "CellHeap$Whole"
  | _ => .object "CellHeap$Division"
theorem n_Re : ∀ a, a < 7 → ∀ b, b < 7 → a ≠ b → (T_Re a).2.1 ≠ (T_Re b).2.1 := by decide +kernel
theorem p_Re : ∀ k, k < 7 → parseFieldDescriptor (T_Re k).2.2.1 = some (t_Re k) := by decide +kernel
theorem i_Re : ∀ w ∈ u_ws R_Re T_Re 7, w ∈ wx_tbl := by decide +kernel
def R_He : String := "CellHeap$Heap"
def T_He : u_T := fun k => match k with
  | 0 => ("CellHeap$Heap", "cells", "[I", true)
  | 1 => ("CellHeap$Heap", "registers", "[I", true)
  | 2 => ("CellHeap$Heap", "top", "I", false)
  | 3 => ("CellHeap$Heap", "collections", "I", false)
  | 4 => ("CellHeap$Heap", "lives", "[Z", true)
  | 5 => ("CellHeap$Heap", "newPlace", "[I", true)
  | 6 => ("CellHeap$Heap", "found", "[I", true)
  | _ => ("CellHeap$Heap", "foundCount", "I", false)
def t_He : Nat → FieldType := fun k => match k with
  | 0 => .array .int
  | 1 => .array .int
  | 2 => .int
  | 3 => .int
  | 4 => .array .boolean
  | 5 => .array .int
  | 6 => .array .int
  | _ => .int
theorem n_He : ∀ a, a < 8 → ∀ b, b < 8 → a ≠ b → (T_He a).2.1 ≠ (T_He b).2.1 := by decide +kernel
theorem p_He : ∀ k, k < 8 → parseFieldDescriptor (T_He k).2.2.1 = some (t_He k) := by decide +kernel
theorem i_He : ∀ w ∈ u_ws R_He T_He 8, w ∈ wx_tbl := by decide +kernel
def R_Li : String := "CellHeap$Line"
def T_Li : u_T := fun k => match k with
  | 0 => ("CellHeap$Line", "text", "[C", true)
  | _ => ("CellHeap$Line", "length", "I", false)
def t_Li : Nat → FieldType := fun k => match k with
  | 0 => .array .char
  | _ => .int
theorem n_Li : ∀ a, a < 2 → ∀ b, b < 2 → a ≠ b → (T_Li a).2.1 ≠ (T_Li b).2.1 := by decide +kernel
theorem p_Li : ∀ k, k < 2 → parseFieldDescriptor (T_Li k).2.2.1 = some (t_Li k) := by decide +kernel
theorem i_Li : ∀ w ∈ u_ws R_Li T_Li 2, w ∈ wx_tbl := by decide +kernel
def R_Pr : String := "CellHeap$Printer"
def T_Pr : u_T := fun k => match k with
  | 0 => ("CellHeap$Printer", "text", "[C", true)
  | 1 => ("CellHeap$Printer", "length", "I", false)
  | 2 => ("CellHeap$Printer", "overran", "Z", false)
  | 3 => ("CellHeap$Printer", "rests", "[I", true)
  | 4 => ("CellHeap$Printer", "open", "I", false)
  | 5 => ("CellHeap$Printer", "shrinking", "LCellHeap$Whole;", true)
  | _ => ("CellHeap$Printer", "digits", "[C", true)
def t_Pr : Nat → FieldType := fun k => match k with
  | 0 => .array .char
  | 1 => .int
  | 2 => .boolean
  | 3 => .array .int
  | 4 => .int
  | 5 => .object "CellHeap$Whole"
  | _ => .array .char
theorem n_Pr : ∀ a, a < 7 → ∀ b, b < 7 → a ≠ b → (T_Pr a).2.1 ≠ (T_Pr b).2.1 := by decide +kernel
theorem p_Pr : ∀ k, k < 7 → parseFieldDescriptor (T_Pr k).2.2.1 = some (t_Pr k) := by decide +kernel
theorem i_Pr : ∀ w ∈ u_ws R_Pr T_Pr 7, w ∈ wx_tbl := by decide +kernel
def R_Ce : String := "CellHeap"
def T_Ce : u_T := fun k => match k with
  | 0 => ("CellHeap", "heap", "LCellHeap$Heap;", true)
  | 1 => ("CellHeap", "line", "LCellHeap$Line;", true)
  | 2 => ("CellHeap", "reckoner", "LCellHeap$Reckoner;", true)
  | _ => ("CellHeap", "printer", "LCellHeap$Printer;", true)
def t_Ce : Nat → FieldType := fun k => match k with
  | 0 => .object "CellHeap$Heap"
  | 1 => .object "CellHeap$Line"
  | 2 => .object "CellHeap$Reckoner"
  | _ => .object "CellHeap$Printer"
theorem n_Ce : ∀ a, a < 4 → ∀ b, b < 4 → a ≠ b → (T_Ce a).2.1 ≠ (T_Ce b).2.1 := by decide +kernel
theorem p_Ce : ∀ k, k < 4 → parseFieldDescriptor (T_Ce k).2.2.1 = some (t_Ce k) := by decide +kernel
theorem i_Ce : ∀ w ∈ u_ws R_Ce T_Ce 4, w ∈ wx_tbl := by decide +kernel
def R_Mo : String := "CellHeapModel"
def T_Mo : u_T := fun k => match k with
  | 0 => ("CellHeapModel", "refusal", "I", false)
  | 1 => ("CellHeapModel", "valueSort", "[I", true)
  | 2 => ("CellHeapModel", "valueOf", "[I", true)
  | 3 => ("CellHeapModel", "many", "I", false)
  | 4 => ("CellHeapModel", "order", "[I", true)
  | 5 => ("CellHeapModel", "sort", "[I", true)
  | 6 => ("CellHeapModel", "cells", "[I", true)
  | 7 => ("CellHeapModel", "isMarked", "[Z", true)
  | 8 => ("CellHeapModel", "pile", "[I", true)
  | 9 => ("CellHeapModel", "top", "I", false)
  | 10 => ("CellHeapModel", "collections", "I", false)
  | 11 => ("CellHeapModel", "limb", "[I", true)
  | 12 => ("CellHeapModel", "length", "[I", true)
  | 13 => ("CellHeapModel", "isBelow", "[Z", true)
  | 14 => ("CellHeapModel", "line", "[C", true)
  | 15 => ("CellHeapModel", "lineSize", "I", false)
  | 16 => ("CellHeapModel", "out", "[C", true)
  | 17 => ("CellHeapModel", "outSize", "I", false)
  | 18 => ("CellHeapModel", "isFull", "Z", false)
  | 19 => ("CellHeapModel", "digits", "[I", true)
  | _ => ("CellHeapModel", "at", "I", false)
def t_Mo : Nat → FieldType := fun k => match k with
  | 0 => .int
  | 1 => .array .int
  | 2 => .array .int
  | 3 => .int
  | 4 => .array .int
  | 5 => .array .int
  | 6 => .array .int
  | 7 => .array .boolean
  | 8 => .array .int
  | 9 => .int
  | 10 => .int
  | 11 => .array .int
  | 12 => .array .int
  | 13 => .array .boolean
  | 14 => .array .char
  | 15 => .int
  | 16 => .array .char
  | 17 => .int
  | 18 => .boolean
  | 19 => .array .int
  | _ => .int
theorem n_Mo : ∀ a, a < 21 → ∀ b, b < 21 → a ≠ b → (T_Mo a).2.1 ≠ (T_Mo b).2.1 := by decide +kernel
theorem p_Mo : ∀ k, k < 21 → parseFieldDescriptor (T_Mo k).2.2.1 = some (t_Mo k) := by decide +kernel
theorem i_Mo : ∀ w ∈ u_ws R_Mo T_Mo 21, w ∈ wx_tbl := by decide +kernel
abbrev wcl : List vw_C := [(R_Wh, T_Wh, 3), (R_Ra, T_Ra, 2), (R_Di, T_Di, 4), (R_Re, T_Re, 7), (R_He, T_He, 8), (R_Li, T_Li, 2), (R_Pr, T_Pr, 7), (R_Ce, T_Ce, 4), (R_Mo, T_Mo, 21)]
abbrev HP : Type := Nat → Nat → Int32
def hs (h : HP) (k : Nat) (f : Nat → Int32) : HP := fun k2 => if k2 = k then f else h k2
def up (h : HP) (k i : Nat) (v : Int32) : HP := hs h k (upd (h k) i v)
theorem hs_self (h : HP) (k : Nat) (f : Nat → Int32) : hs h k f k = f := by simp [hs]
theorem hs_ne {h : HP} {k j : Nat} {f : Nat → Int32} (hj : j ≠ k) : hs h k f j = h j := by simp [hs, hj]
/-- the kinds of the objects by their numbers: a class and 0, or what an array holds (10 int, 11 char, 12 boolean, 13 long) and its length -/
def kd (k : Nat) : Nat × Nat := match k with
  | 0 => (8, 0)
  | 1 => (10, 416)
  | 2 => (10, 416)
  | 3 => (10, 204)
  | 4 => (10, 204)
  | 5 => (10, 204)
  | 6 => (12, 204)
  | 7 => (10, 600)
  | 8 => (10, 21800)
  | 9 => (10, 218)
  | 10 => (12, 218)
  | 11 => (11, 200)
  | 12 => (11, 400)
  | 13 => (10, 60)
  | 14 => (7, 0)
  | 15 => (4, 0)
  | 16 => (10, 400)
  | 17 => (10, 8)
  | 18 => (12, 400)
  | 19 => (10, 400)
  | 20 => (10, 400)
  | 21 => (5, 0)
  | 22 => (11, 200)
  | 23 => (3, 0)
  | 24 => (1, 0)
  | 25 => (0, 0)
  | 26 => (10, 44)
  | 27 => (0, 0)
  | 28 => (10, 44)
  | 29 => (1, 0)
  | 30 => (0, 0)
  | 31 => (10, 44)
  | 32 => (0, 0)
  | 33 => (10, 44)
  | 34 => (1, 0)
  | 35 => (0, 0)
  | 36 => (10, 44)
  | 37 => (0, 0)
  | 38 => (10, 44)
  | 39 => (0, 0)
  | 40 => (10, 44)
  | 41 => (0, 0)
  | 42 => (10, 44)
  | 43 => (0, 0)
  | 44 => (10, 44)
  | 45 => (2, 0)
  | 46 => (0, 0)
  | 47 => (10, 44)
  | 48 => (0, 0)
  | 49 => (10, 44)
  | 50 => (10, 44)
  | 51 => (10, 44)
  | 52 => (6, 0)
  | 53 => (11, 400)
  | 54 => (10, 401)
  | 55 => (0, 0)
  | 56 => (10, 44)
  | 57 => (11, 198)
  | 58 => (13, 1)
  | _ => (99, 0)
/-- what an object holds, references by number -/
def w_pur (h : Nat → Int32) (k : Nat) : (Nat × Nat) ⊕ (Nat × List Value) := match (kd k).1 with
  | 0 => .inr (0, [.ref (k+1), .int (h 1), .int (h 2)])
  | 1 => .inr (1, [.ref (k+1), .ref (k+3)])
  | 2 => .inr (2, [.ref (k+1), .ref (k+3), .ref (k+5), .ref (k+6)])
  | 3 => .inr (3, [.ref (k+1), .ref (k+6), .ref (k+11), .ref (k+16), .ref (k+18), .ref (k+20), .ref (k+22)])
  | 4 => .inr (4, [.ref (k+1), .ref (k+2), .int (h 2), .int (h 3), .ref (k+3), .ref (k+4), .ref (k+5), .int (h 7)])
  | 5 => .inr (5, [.ref (k+1), .int (h 1)])
  | 6 => .inr (6, [.ref (k+1), .int (h 1), .int (h 2), .ref (k+2), .int (h 4), .ref (k+3), .ref (k+5)])
  | 7 => .inr (7, [.ref (k+1), .ref (k+7), .ref (k+9), .ref (k+38)])
  | 8 => .inr (8, [.int (h 0), .ref (k+1), .ref (k+2), .int (h 3), .ref (k+3), .ref (k+4), .ref (k+5), .ref (k+6), .ref (k+7), .int (h 9), .int (h 10), .ref (k+8), .ref (k+9), .ref (k+10), .ref (k+11), .int (h 15), .ref (k+12), .int (h 17), .int (h 18), .ref (k+13), .int (h 20)])
  | 10 => .inl (0, (kd k).2)
  | 11 => .inl (1, (kd k).2)
  | 12 => .inl (2, (kd k).2)
  | 13 => .inl (3, (kd k).2)
  | _ => .inr (99, [])
/-- where the objects are: what the tables say of the classes, the addresses, the classes of arrays, the first address that may be written -/
abbrev WG : Type := va_G × (Nat → Nat) × (Nat → ClassId) × Nat
def vv (G : WG) : Value → Value := fun v => match v with
  | .ref k => .ref (G.2.1 k)
  | v => v
def smap (G : WG) (st : List Value) : List Value := st.map (vv G)
def lmap (G : WG) (ls : List (Nat × Value)) : List (Nat × Value) := ls.map (fun q => (q.1, vv G q.2))
def w_arr (h : Nat → Int32) (t n : Nat) : vp_A := if t = 3 then (n, .inr (.inl (fun i => (h i).toInt64))) else (n, .inl h)
def w_ent (G : WG) (h : Nat → Int32) (k : Nat) : va_E := match w_pur h k with
  | .inl q => .inl (G.2.2.1 q.1, w_arr h q.1 q.2)
  | .inr q => .inr (q.1, smap G q.2)
def wl (G : WG) (h : HP) : va_W := (List.range 59).map (fun k => (G.2.1 k, w_ent G (h k) k))
def Wo (G : WG) (h : HP) (H : Heap) : Prop := va_P G.1 wcl (wl G h) H
def Gok (G : WG) : Prop := (∀ i j, i < 59 → j < 59 → G.2.1 i = G.2.1 j → i = j) ∧ ∀ k, k < 59 → G.2.2.2 ≤ G.2.1 k
def Ga (G : WG) : Nat → Prop := fun q => G.2.2.2 ≤ q
def w_tys (G : WG) : List (ClassId × FieldType) := [(G.2.2.1 0, .int), (G.2.2.1 1, .char), (G.2.2.1 2, .boolean), (G.2.2.1 3, .long)]
def Zq (G : WG) (U : State) (H : Heap) : Prop := vx_Zq Bundle.tN "UNASSIGNED_STACK" Bundle.steD (Ga G) U H ∧ vx_Zq Bundle.tN "SUPPRESSED_SENTINEL" Bundle.listD (Ga G) U H
def Kn (G : WG) (U : State) : Prop := va_K G.1 wcl (w_tys G) U
def Ws (G : WG) (h : HP) (U : State) : Prop := Wo G h U.heap ∧ Kn G U ∧ G.2.2.2 ≤ U.heap.size ∧ Zq G U U.heap
/-- a method's frame: program, launch, environment, room, entry state, method, arguments, frames below, the method and its code, what is owed, the world's places -/
abbrev CX : Type := Program × Launch × Env × Room × State × MethodId × Array Value × List Frame × Method × Code × (State → Prop) × WG
abbrev xp (X : CX) : Program := X.1
abbrev xl (X : CX) : Launch := X.2.1
abbrev xe (X : CX) : Env := X.2.2.1
abbrev xR (X : CX) : Room := X.2.2.2.1
abbrev xs (X : CX) : State := X.2.2.2.2.1
abbrev xm (X : CX) : MethodId := X.2.2.2.2.2.1
abbrev xa (X : CX) : Array Value := X.2.2.2.2.2.2.1
abbrev xb (X : CX) : List Frame := X.2.2.2.2.2.2.2.1
abbrev xt (X : CX) : Method := X.2.2.2.2.2.2.2.2.1
abbrev xc (X : CX) : Code := X.2.2.2.2.2.2.2.2.2.1
abbrev xQ (X : CX) : State → Prop := X.2.2.2.2.2.2.2.2.2.2.1
abbrev xG (X : CX) : WG := X.2.2.2.2.2.2.2.2.2.2.2
/-- from every machine state that looks so, the machine comes to what is owed -/
def Wg (X : CX) (ce sl : Nat) (h : HP) (ls : List (Nat × Value)) (st : List Value) (pc : Nat) : Prop :=
  ce ≤ (xR X).cells → sl ≤ (xR X).slots → ∀ (H : Heap) (L : List Loc) (la : Array Slot), Wo (xG X) h H → va_S (Ga (xG X)) (xs X).heap H L → lv_has la (xc X).maxLocals (lmap (xG X) ls) → W (xp X) (xl X) (xe X) (xR X) (xs X) (xm X) (xa X) (xb X) (xt X) (xc X) H L ce sl (xQ X) (F0 (xm X) pc la (smap (xG X) st))
/-- what holds in a method's frame -/
def Cok (X : CX) (cc : ByteArray) (nL : Nat) (own : String) (ret : Option FieldType) : Prop :=
  (xp X).tables.exec = Jvm.exec ∧ (xc X).code = cc ∧ (xc X).maxLocals = nL ∧ (xs X).vm.findClass own = some (xm X).cls ∧ (∀ w ∈ wx_tbl, w.before (xa X) (xs X) = true) ∧ (xt X).locks = false ∧ (xt X).sig.returnType = ret ∧ (xl X).flags = flags0 ∧ Gok (xG X) ∧ Kn (xG X) (xs X) ∧ (xG X).2.2.2 ≤ (xs X).heap.size ∧ Zq (xG X) (xs X) (xs X).heap
theorem Cok.exec {X : CX} {cc : ByteArray} {nL : Nat} {own : String} {ret : Option FieldType} (C : Cok X cc nL own ret) : (xp X).tables.exec = Jvm.exec := C.1
theorem Cok.code {X : CX} {cc : ByteArray} {nL : Nat} {own : String} {ret : Option FieldType} (C : Cok X cc nL own ret) : (xc X).code = cc := C.2.1
theorem Cok.nloc {X : CX} {cc : ByteArray} {nL : Nat} {own : String} {ret : Option FieldType} (C : Cok X cc nL own ret) : (xc X).maxLocals = nL := C.2.2.1
theorem Cok.own {X : CX} {cc : ByteArray} {nL : Nat} {own : String} {ret : Option FieldType} (C : Cok X cc nL own ret) : (xs X).vm.findClass own = some (xm X).cls := C.2.2.2.1
theorem Cok.hts {X : CX} {cc : ByteArray} {nL : Nat} {own : String} {ret : Option FieldType} (C : Cok X cc nL own ret) : ∀ w ∈ wx_tbl, w.before (xa X) (xs X) = true := C.2.2.2.2.1
theorem Cok.locks {X : CX} {cc : ByteArray} {nL : Nat} {own : String} {ret : Option FieldType} (C : Cok X cc nL own ret) : (xt X).locks = false := C.2.2.2.2.2.1
theorem Cok.ret {X : CX} {cc : ByteArray} {nL : Nat} {own : String} {ret : Option FieldType} (C : Cok X cc nL own ret) : (xt X).sig.returnType = ret := C.2.2.2.2.2.2.1
theorem Cok.flags {X : CX} {cc : ByteArray} {nL : Nat} {own : String} {ret : Option FieldType} (C : Cok X cc nL own ret) : (xl X).flags = flags0 := C.2.2.2.2.2.2.2.1
theorem Cok.gok {X : CX} {cc : ByteArray} {nL : Nat} {own : String} {ret : Option FieldType} (C : Cok X cc nL own ret) : Gok (xG X) := C.2.2.2.2.2.2.2.2.1
theorem Cok.kn {X : CX} {cc : ByteArray} {nL : Nat} {own : String} {ret : Option FieldType} (C : Cok X cc nL own ret) : Kn (xG X) (xs X) := C.2.2.2.2.2.2.2.2.2.1
theorem Cok.base {X : CX} {cc : ByteArray} {nL : Nat} {own : String} {ret : Option FieldType} (C : Cok X cc nL own ret) : (xG X).2.2.2 ≤ (xs X).heap.size := C.2.2.2.2.2.2.2.2.2.2.1
theorem Cok.zq {X : CX} {cc : ByteArray} {nL : Nat} {own : String} {ret : Option FieldType} (C : Cok X cc nL own ret) : Zq (xG X) (xs X) (xs X).heap := C.2.2.2.2.2.2.2.2.2.2.2
theorem vv_cat (G : WG) (v : Value) : (vv G v).category = v.category := by cases v <;> rfl
theorem smap_cat (G : WG) (st : List Value) : ((smap G st).map fun v => v.category).sum = (st.map fun v => v.category).sum := by
  unfold smap
  rw [List.map_map]
  congr 1
  exact List.map_congr_left (fun v _ => vv_cat G v)
theorem lg_at {G : WG} {la : Array Slot} {n : Nat} {ls : List (Nat × Value)} (hl : lv_has la n (lmap G ls)) (j : Nat) {i : Nat} {v : Value} (hj : ls[j]? = some (i, v)) : la[i]? = some (.val (vv G v)) := by
  refine lv_at hl j ?_
  unfold lmap
  rw [List.getElem?_map, hj]
  rfl
/-- the locals behind a store -/
def lset (ls : List (Nat × Value)) (i : Nat) (v : Value) : List (Nat × Value) :=
  (ls.filter fun q => Nat.blt q.1 i && !(Nat.beq (q.1 + 1) i && Nat.beq q.2.category 2)) ++ (i, v) :: (ls.filter fun q => Nat.blt i q.1 && !(Nat.beq q.1 (i + 1) && Nat.beq v.category 2))
theorem lset_in {ls : List (Nat × Value)} {i : Nat} {v : Value} {q : Nat × Value} (h : q ∈ lset ls i v) : q = (i, v) ∨ (q ∈ ls ∧ q.1 ≠ i ∧ ¬ (q.1 + 1 = i ∧ q.2.category = 2) ∧ ¬ (q.1 = i + 1 ∧ v.category = 2)) := by
  unfold lset at h
  rcases List.mem_append.mp h with h | h
  · obtain ⟨h1, h2⟩ := List.mem_filter.mp h
    simp only [Bool.and_eq_true, Bool.not_eq_true', Nat.blt_eq] at h2
    refine Or.inr ⟨h1, by omega, fun z => ?_, by omega⟩
    rw [show Nat.beq (q.1 + 1) i = true from Nat.beq_eq.symm ▸ z.1, show Nat.beq q.2.category 2 = true from Nat.beq_eq.symm ▸ z.2] at h2
    simp at h2
  · rcases List.mem_cons.mp h with h | h
    · exact Or.inl h
    · obtain ⟨h1, h2⟩ := List.mem_filter.mp h
      simp only [Bool.and_eq_true, Bool.not_eq_true', Nat.blt_eq] at h2
      refine Or.inr ⟨h1, by omega, by omega, fun z => ?_⟩
      rw [show Nat.beq q.1 (i + 1) = true from Nat.beq_eq.symm ▸ z.1, show Nat.beq v.category 2 = true from Nat.beq_eq.symm ▸ z.2] at h2
      simp at h2
theorem lset_map {G : WG} {ls : List (Nat × Value)} {i : Nat} {v : Value} {la : Array Slot} {n : Nat} {l2 : List (Nat × Value)} (h : lv_has la n l2) (hq : ∀ q, (q = (i, vv G v) ∨ (q ∈ lmap G ls ∧ q.1 ≠ i ∧ ¬ (q.1 + 1 = i ∧ q.2.category = 2) ∧ ¬ (q.1 = i + 1 ∧ v.category = 2))) → q ∈ l2) : lv_has la n (lmap G (lset ls i v)) := by
  refine ⟨h.1, h.2.1, fun q hqm => h.2.2 q (hq q ?_)⟩
  obtain ⟨q0, h1, rfl⟩ := List.mem_map.mp hqm
  rcases lset_in h1 with rfl | ⟨h2, h3, h4, h5⟩
  · exact Or.inl rfl
  · exact Or.inr ⟨List.mem_map.mpr ⟨q0, h2, rfl⟩, h3, fun z => h4 ⟨z.1, by rw [← vv_cat G]; exact z.2⟩, h5⟩
theorem lset1 {G : WG} {ls : List (Nat × Value)} {i : Nat} {v : Value} {la : Array Slot} {n : Nat} (hc : v.category = 1) (h : lv_has la n ((i, vv G v) :: (lmap G ls).filter (fun q => !(q.1 == i) && !(q.1 + 1 == i && q.2.category == 2)))) : lv_has la n (lmap G (lset ls i v)) := by
  refine lset_map h (fun q hq => ?_)
  rcases hq with rfl | ⟨h1, h2, h3, -⟩
  · exact List.mem_cons_self
  · refine List.mem_cons_of_mem _ (List.mem_filter.mpr ⟨h1, ?_⟩)
    simp only [Bool.and_eq_true, Bool.not_eq_true', beq_eq_false_iff_ne, Bool.and_eq_false_iff]
    refine ⟨h2, ?_⟩
    by_cases hz : q.1 + 1 = i
    · exact Or.inr (fun z => h3 ⟨hz, z⟩)
    · exact Or.inl hz
theorem lset2 {G : WG} {ls : List (Nat × Value)} {i : Nat} {v : Value} {la : Array Slot} {n : Nat} (hc : v.category = 2) (h : lv_has la n ((i, vv G v) :: (lmap G ls).filter (fun q => !(q.1 == i) && (!(q.1 == i + 1) && !(q.1 + 1 == i && q.2.category == 2))))) : lv_has la n (lmap G (lset ls i v)) := by
  refine lset_map h (fun q hq => ?_)
  rcases hq with rfl | ⟨h1, h2, h3, h4⟩
  · exact List.mem_cons_self
  · refine List.mem_cons_of_mem _ (List.mem_filter.mpr ⟨h1, ?_⟩)
    simp only [Bool.and_eq_true, Bool.not_eq_true', beq_eq_false_iff_ne, Bool.and_eq_false_iff]
    refine ⟨h2, fun z => h4 ⟨z, hc⟩, ?_⟩
    by_cases hz : q.1 + 1 = i
    · exact Or.inr (fun z => h3 ⟨hz, z⟩)
    · exact Or.inl hz
/-- fewer locals are known -/
theorem Wg.drop {X : CX} {ce sl : Nat} {h : HP} {ls ls' : List (Nat × Value)} {st : List Value} {pc : Nat} (hs : ∀ q ∈ ls', q ∈ ls) (k : Wg X ce sl h ls' st pc) : Wg X ce sl h ls st pc := fun q1 q2 H L la a b c => k q1 q2 H L la a b ⟨c.1, c.2.1, fun q hq => by
  obtain ⟨q0, h1, rfl⟩ := List.mem_map.mp hq
  exact c.2.2 _ (List.mem_map.mpr ⟨q0, hs q0 h1, rfl⟩)⟩
theorem Wg.widen {X : CX} {ce sl ce2 sl2 : Nat} {h : HP} {ls : List (Nat × Value)} {st : List Value} {pc : Nat} (h1 : ce ≤ ce2) (h2 : sl ≤ sl2) (q3 : ce2 ≤ (xR X).cells) (q4 : sl2 ≤ (xR X).slots) (k : Wg X ce2 sl2 h ls st pc) : Wg X ce sl h ls st pc := fun _ _ H L la a b c => W.widen h1 h2 (k q3 q4 H L la a b c)
section ROWS
variable {X : CX} {ce sl : Nat} {h : HP} {ls ls2 : List (Nat × Value)} {st : List Value} {pc nL : Nat} {cc : ByteArray} {own : String} {ret : Option FieldType}
theorem r_iadd (C : Cok X cc nL own ret) {x y : Int32} (d : decode cc pc = .ok (.iadd, 1)) (k : Wg X ce sl h ls (.int (x + y) :: st) (pc + 1)) : Wg X ce sl h ls (.int y :: .int x :: st) pc := fun q1 q2 H L la a b c => lv_iadd C.1 C.2.1 d  (k q1 q2 H L la a b c)
theorem r_isub (C : Cok X cc nL own ret) {x y : Int32} (d : decode cc pc = .ok (.isub, 1)) (k : Wg X ce sl h ls (.int (x - y) :: st) (pc + 1)) : Wg X ce sl h ls (.int y :: .int x :: st) pc := fun q1 q2 H L la a b c => lv_isub C.1 C.2.1 d  (k q1 q2 H L la a b c)
theorem r_imul (C : Cok X cc nL own ret) {x y : Int32} (d : decode cc pc = .ok (.imul, 1)) (k : Wg X ce sl h ls (.int (x * y) :: st) (pc + 1)) : Wg X ce sl h ls (.int y :: .int x :: st) pc := fun q1 q2 H L la a b c => lv_imul C.1 C.2.1 d  (k q1 q2 H L la a b c)
theorem r_iand (C : Cok X cc nL own ret) {x y : Int32} (d : decode cc pc = .ok (.iand, 1)) (k : Wg X ce sl h ls (.int (x &&& y) :: st) (pc + 1)) : Wg X ce sl h ls (.int y :: .int x :: st) pc := fun q1 q2 H L la a b c => lv_iand C.1 C.2.1 d  (k q1 q2 H L la a b c)
theorem r_ior (C : Cok X cc nL own ret) {x y : Int32} (d : decode cc pc = .ok (.ior, 1)) (k : Wg X ce sl h ls (.int (x ||| y) :: st) (pc + 1)) : Wg X ce sl h ls (.int y :: .int x :: st) pc := fun q1 q2 H L la a b c => lv_ior C.1 C.2.1 d  (k q1 q2 H L la a b c)
theorem r_ixor (C : Cok X cc nL own ret) {x y : Int32} (d : decode cc pc = .ok (.ixor, 1)) (k : Wg X ce sl h ls (.int (x ^^^ y) :: st) (pc + 1)) : Wg X ce sl h ls (.int y :: .int x :: st) pc := fun q1 q2 H L la a b c => lv_ixor C.1 C.2.1 d  (k q1 q2 H L la a b c)
theorem r_ishl (C : Cok X cc nL own ret) {x y : Int32} (d : decode cc pc = .ok (.ishl, 1)) (k : Wg X ce sl h ls (.int (x <<< (y &&& 31)) :: st) (pc + 1)) : Wg X ce sl h ls (.int y :: .int x :: st) pc := fun q1 q2 H L la a b c => lv_ishl C.1 C.2.1 d  (k q1 q2 H L la a b c)
theorem r_ishr (C : Cok X cc nL own ret) {x y : Int32} (d : decode cc pc = .ok (.ishr, 1)) (k : Wg X ce sl h ls (.int (x >>> (y &&& 31)) :: st) (pc + 1)) : Wg X ce sl h ls (.int y :: .int x :: st) pc := fun q1 q2 H L la a b c => lv_ishr C.1 C.2.1 d  (k q1 q2 H L la a b c)
theorem r_ladd (C : Cok X cc nL own ret) {x y : Int64} (d : decode cc pc = .ok (.ladd, 1)) (k : Wg X ce sl h ls (.long (x + y) :: st) (pc + 1)) : Wg X ce sl h ls (.long y :: .long x :: st) pc := fun q1 q2 H L la a b c => lv_ladd C.1 C.2.1 d  (k q1 q2 H L la a b c)
theorem r_lsub (C : Cok X cc nL own ret) {x y : Int64} (d : decode cc pc = .ok (.lsub, 1)) (k : Wg X ce sl h ls (.long (x - y) :: st) (pc + 1)) : Wg X ce sl h ls (.long y :: .long x :: st) pc := fun q1 q2 H L la a b c => lv_lsub C.1 C.2.1 d  (k q1 q2 H L la a b c)
theorem r_lmul (C : Cok X cc nL own ret) {x y : Int64} (d : decode cc pc = .ok (.lmul, 1)) (k : Wg X ce sl h ls (.long (x * y) :: st) (pc + 1)) : Wg X ce sl h ls (.long y :: .long x :: st) pc := fun q1 q2 H L la a b c => lv_lmul C.1 C.2.1 d  (k q1 q2 H L la a b c)
theorem r_land (C : Cok X cc nL own ret) {x y : Int64} (d : decode cc pc = .ok (.land, 1)) (k : Wg X ce sl h ls (.long (x &&& y) :: st) (pc + 1)) : Wg X ce sl h ls (.long y :: .long x :: st) pc := fun q1 q2 H L la a b c => lv_land C.1 C.2.1 d  (k q1 q2 H L la a b c)
theorem r_lor (C : Cok X cc nL own ret) {x y : Int64} (d : decode cc pc = .ok (.lor, 1)) (k : Wg X ce sl h ls (.long (x ||| y) :: st) (pc + 1)) : Wg X ce sl h ls (.long y :: .long x :: st) pc := fun q1 q2 H L la a b c => lv_lor C.1 C.2.1 d  (k q1 q2 H L la a b c)
theorem r_lxor (C : Cok X cc nL own ret) {x y : Int64} (d : decode cc pc = .ok (.lxor, 1)) (k : Wg X ce sl h ls (.long (x ^^^ y) :: st) (pc + 1)) : Wg X ce sl h ls (.long y :: .long x :: st) pc := fun q1 q2 H L la a b c => lv_lxor C.1 C.2.1 d  (k q1 q2 H L la a b c)
def iushr (x y : Int32) : Int32 := (x.toUInt32 >>> (y.toUInt32 &&& Int32.toUInt32 31)).toInt32
def lushr (x : Int64) (y : Int32) : Int64 := (x.toUInt64 >>> (y.toInt64.toUInt64 &&& Int64.toUInt64 63)).toInt64
def lshl (x : Int64) (y : Int32) : Int64 := x <<< (y.toInt64 &&& 63)
def lshr (x : Int64) (y : Int32) : Int64 := x >>> (y.toInt64 &&& 63)
def i2c (x : Int32) : Int32 := (x.toUInt32 % 65536).toInt32
theorem r_iushr (C : Cok X cc nL own ret) {x y : Int32} (d : decode cc pc = .ok (.iushr, 1)) (k : Wg X ce sl h ls (.int (iushr x y) :: st) (pc + 1)) : Wg X ce sl h ls (.int y :: .int x :: st) pc := fun q1 q2 H L la a b c => lv_iushr C.1 C.2.1 d rfl (k q1 q2 H L la a b c)
theorem r_lushr (C : Cok X cc nL own ret) {x : Int64} {y : Int32} (d : decode cc pc = .ok (.lushr, 1)) (k : Wg X ce sl h ls (.long (lushr x y) :: st) (pc + 1)) : Wg X ce sl h ls (.int y :: .long x :: st) pc := fun q1 q2 H L la a b c => lv_lushr C.1 C.2.1 d rfl (k q1 q2 H L la a b c)
theorem r_lshl (C : Cok X cc nL own ret) {x : Int64} {y : Int32} (d : decode cc pc = .ok (.lshl, 1)) (k : Wg X ce sl h ls (.long (lshl x y) :: st) (pc + 1)) : Wg X ce sl h ls (.int y :: .long x :: st) pc := fun q1 q2 H L la a b c => lv_lshl C.1 C.2.1 d rfl (k q1 q2 H L la a b c)
theorem r_lshr (C : Cok X cc nL own ret) {x : Int64} {y : Int32} (d : decode cc pc = .ok (.lshr, 1)) (k : Wg X ce sl h ls (.long (lshr x y) :: st) (pc + 1)) : Wg X ce sl h ls (.int y :: .long x :: st) pc := fun q1 q2 H L la a b c => lv_lshr C.1 C.2.1 d rfl (k q1 q2 H L la a b c)
theorem r_i2l (C : Cok X cc nL own ret) {x : Int32} (d : decode cc pc = .ok (.i2l, 1)) (k : Wg X ce sl h ls (.long x.toInt64 :: st) (pc + 1)) : Wg X ce sl h ls (.int x :: st) pc := fun q1 q2 H L la a b c => lv_i2l C.1 C.2.1 d rfl (k q1 q2 H L la a b c)
theorem r_l2i (C : Cok X cc nL own ret) {x : Int64} (d : decode cc pc = .ok (.l2i, 1)) (k : Wg X ce sl h ls (.int x.toInt32 :: st) (pc + 1)) : Wg X ce sl h ls (.long x :: st) pc := fun q1 q2 H L la a b c => lv_l2i C.1 C.2.1 d rfl (k q1 q2 H L la a b c)
theorem r_i2c (C : Cok X cc nL own ret) {x : Int32} (d : decode cc pc = .ok (.i2c, 1)) (k : Wg X ce sl h ls (.int (i2c x) :: st) (pc + 1)) : Wg X ce sl h ls (.int x :: st) pc := fun q1 q2 H L la a b c => lv_i2c C.1 C.2.1 d rfl (k q1 q2 H L la a b c)
theorem r_ineg (C : Cok X cc nL own ret) {x : Int32} (d : decode cc pc = .ok (.ineg, 1)) (k : Wg X ce sl h ls (.int (-x) :: st) (pc + 1)) : Wg X ce sl h ls (.int x :: st) pc := fun q1 q2 H L la a b c => lv_ineg C.1 C.2.1 d  (k q1 q2 H L la a b c)
theorem r_lneg (C : Cok X cc nL own ret) {x : Int64} (d : decode cc pc = .ok (.lneg, 1)) (k : Wg X ce sl h ls (.long (-x) :: st) (pc + 1)) : Wg X ce sl h ls (.long x :: st) pc := fun q1 q2 H L la a b c => lv_lneg C.1 C.2.1 d  (k q1 q2 H L la a b c)
theorem r_idiv (C : Cok X cc nL own ret) {x y : Int32} (hne : ¬ y = 0) (d : decode cc pc = .ok (.idiv, 1)) (k : Wg X ce sl h ls (.int (x / y) :: st) (pc + 1)) : Wg X ce sl h ls (.int y :: .int x :: st) pc := fun q1 q2 H L la a b c => lv_idiv C.1 C.2.1 d hne (k q1 q2 H L la a b c)
theorem r_irem (C : Cok X cc nL own ret) {x y : Int32} (hne : ¬ y = 0) (d : decode cc pc = .ok (.irem, 1)) (k : Wg X ce sl h ls (.int (x - x / y * y) :: st) (pc + 1)) : Wg X ce sl h ls (.int y :: .int x :: st) pc := fun q1 q2 H L la a b c => lv_irem C.1 C.2.1 d hne (k q1 q2 H L la a b c)
theorem r_ldiv (C : Cok X cc nL own ret) {x y : Int64} (hne : ¬ y = 0) (d : decode cc pc = .ok (.ldiv, 1)) (k : Wg X ce sl h ls (.long (x / y) :: st) (pc + 1)) : Wg X ce sl h ls (.long y :: .long x :: st) pc := fun q1 q2 H L la a b c => lv_ldiv C.1 C.2.1 d hne (k q1 q2 H L la a b c)
theorem r_lrem (C : Cok X cc nL own ret) {x y : Int64} (hne : ¬ y = 0) (d : decode cc pc = .ok (.lrem, 1)) (k : Wg X ce sl h ls (.long (x - x / y * y) :: st) (pc + 1)) : Wg X ce sl h ls (.long y :: .long x :: st) pc := fun q1 q2 H L la a b c => lv_lrem C.1 C.2.1 d hne (k q1 q2 H L la a b c)
theorem r_lcmp (C : Cok X cc nL own ret) {x y : Int64} (d : decode cc pc = .ok (.lcmp, 1)) (k : Wg X ce sl h ls (.int (lg_cmp x y) :: st) (pc + 1)) : Wg X ce sl h ls (.long y :: .long x :: st) pc := fun q1 q2 H L la a b c => W.lcmp C.1 C.2.1 d (k q1 q2 H L la a b c)
theorem r_dup (C : Cok X cc nL own ret) {v : Value} (hv : v.category = 1) (d : decode cc pc = .ok (.dup, 1)) (k : Wg X ce sl h ls (v :: v :: st) (pc + 1)) : Wg X ce sl h ls (v :: st) pc := fun q1 q2 H L la a b c => lv_dup C.1 C.2.1 d ((vv_cat _ v).trans hv) (k q1 q2 H L la a b c)
theorem r_pop (C : Cok X cc nL own ret) {v : Value} (hv : v.category = 1) (d : decode cc pc = .ok (.pop, 1)) (k : Wg X ce sl h ls (st) (pc + 1)) : Wg X ce sl h ls (v :: st) pc := fun q1 q2 H L la a b c => lv_pop C.1 C.2.1 d ((vv_cat _ v).trans hv) (k q1 q2 H L la a b c)
theorem r_dup2_2 (C : Cok X cc nL own ret) {v : Value} (hv : v.category = 2) (d : decode cc pc = .ok (.dup2, 1)) (k : Wg X ce sl h ls (v :: v :: st) (pc + 1)) : Wg X ce sl h ls (v :: st) pc := fun q1 q2 H L la a b c => lv_dup2_2 C.1 C.2.1 d ((vv_cat _ v).trans hv) (k q1 q2 H L la a b c)
theorem r_dup_x1 (C : Cok X cc nL own ret) {v u : Value} (hv : v.category = 1) (hu : u.category = 1) (d : decode cc pc = .ok (.dup_x1, 1)) (k : Wg X ce sl h ls (v :: u :: v :: st) (pc + 1)) : Wg X ce sl h ls (v :: u :: st) pc := fun q1 q2 H L la a b c => lv_dup_x1 C.1 C.2.1 d ((vv_cat _ v).trans hv) ((vv_cat _ u).trans hu) (k q1 q2 H L la a b c)
theorem r_dup_x2 (C : Cok X cc nL own ret) {v u z : Value} (hv : v.category = 1) (hu : u.category = 1) (hz : z.category = 1) (d : decode cc pc = .ok (.dup_x2, 1)) (k : Wg X ce sl h ls (v :: u :: z :: v :: st) (pc + 1)) : Wg X ce sl h ls (v :: u :: z :: st) pc := fun q1 q2 H L la a b c => lv_dup_x2 C.1 C.2.1 d ((vv_cat _ v).trans hv) ((vv_cat _ u).trans hu) ((vv_cat _ z).trans hz) (k q1 q2 H L la a b c)
theorem r_dup2 (C : Cok X cc nL own ret) {v u : Value} (hv : v.category = 1) (hu : u.category = 1) (d : decode cc pc = .ok (.dup2, 1)) (k : Wg X ce sl h ls (v :: u :: v :: u :: st) (pc + 1)) : Wg X ce sl h ls (v :: u :: st) pc := fun q1 q2 H L la a b c => lv_dup2_11 C.1 C.2.1 d ((vv_cat _ v).trans hv) ((vv_cat _ u).trans hu) (k q1 q2 H L la a b c)
theorem r_iconst (C : Cok X cc nL own ret) {n : Int} {v : Int32} (hv : Int32.ofInt n = v) (d : decode cc pc = .ok (.iconst n, 1)) (k : Wg X ce sl h ls (.int v :: st) (pc + 1)) : Wg X ce sl h ls (st) pc := fun q1 q2 H L la a b c => lv_iconst C.1 C.2.1 d hv (k q1 q2 H L la a b c)
theorem r_bipush (C : Cok X cc nL own ret) {n : Int} {v : Int32} (hv : (Int8.ofInt n).toInt32 = v) (d : decode cc pc = .ok (.bipush n, 2)) (k : Wg X ce sl h ls (.int v :: st) (pc + 2)) : Wg X ce sl h ls (st) pc := fun q1 q2 H L la a b c => lv_bipush C.1 C.2.1 d hv (k q1 q2 H L la a b c)
theorem r_sipush (C : Cok X cc nL own ret) {n : Int} {v : Int32} (hv : (Int16.ofInt n).toInt32 = v) (d : decode cc pc = .ok (.sipush n, 3)) (k : Wg X ce sl h ls (.int v :: st) (pc + 3)) : Wg X ce sl h ls (st) pc := fun q1 q2 H L la a b c => lv_sipush C.1 C.2.1 d hv (k q1 q2 H L la a b c)
theorem r_lconst (C : Cok X cc nL own ret) {n : Fin 2} {v : Int64} (hv : Int64.ofNat (n : Nat) = v) (d : decode cc pc = .ok (.lconst n, 1)) (k : Wg X ce sl h ls (.long v :: st) (pc + 1)) : Wg X ce sl h ls (st) pc := fun q1 q2 H L la a b c => lv_lconst C.1 C.2.1 d hv (k q1 q2 H L la a b c)
theorem r_ldc (C : Cok X cc nL own ret) {ix : Nat} {v : Int32} (hc : Jvm.Cond.constant own ix v ∈ wx_tbl) (d : decode cc pc = .ok (.ldc ix, 2)) (k : Wg X ce sl h ls (.int v :: st) (pc + 2)) : Wg X ce sl h ls st pc := fun q1 q2 H L la a b c => lv_ldc C.1 C.2.1 C.own (C.hts _ hc) d (k q1 q2 H L la a b c)
theorem r_ldc2 (C : Cok X cc nL own ret) {ix : Nat} {v : Int64} (hc : Jvm.Cond.constantLong own ix v ∈ wx_tbl) (d : decode cc pc = .ok (.ldc2_w ix, 3)) (k : Wg X ce sl h ls (.long v :: st) (pc + 3)) : Wg X ce sl h ls st pc := fun q1 q2 H L la a b c => lv_ldc2 C.1 C.2.1 C.own (C.hts _ hc) d (k q1 q2 H L la a b c)
theorem r_ldc_w (C : Cok X cc nL own ret) {ix : Nat} {v : Int32} (hc : Jvm.Cond.constant own ix v ∈ wx_tbl) (d : decode cc pc = .ok (.ldc_w ix, 3)) (k : Wg X ce sl h ls (.int v :: st) (pc + 3)) : Wg X ce sl h ls st pc := fun q1 q2 H L la a b c => lv_ldcw C.1 C.2.1 C.own (C.hts _ hc) d (k q1 q2 H L la a b c)
theorem r_iload_n (C : Cok X cc nL own ret) (j : Nat) {n : Fin 4} {x : Int32} (hj : ls[j]? = some ((n : Nat), .int x)) (d : decode cc pc = .ok (.iload_n n, 1)) (k : Wg X ce sl h ls (.int x :: st) (pc + 1)) : Wg X ce sl h ls st pc := fun q1 q2 H L la a b c => lv_iload_n C.1 C.2.1 d rfl (lg_at c j hj) (k q1 q2 H L la a b c)
theorem r_iload (C : Cok X cc nL own ret) (j : Nat) {i : Nat} {x : Int32} (hj : ls[j]? = some (i, .int x)) (d : decode cc pc = .ok (.iload i, 2)) (k : Wg X ce sl h ls (.int x :: st) (pc + 2)) : Wg X ce sl h ls st pc := fun q1 q2 H L la a b c => lv_iload C.1 C.2.1 d (lg_at c j hj) (k q1 q2 H L la a b c)
theorem r_lload_n (C : Cok X cc nL own ret) (j : Nat) {n : Fin 4} {x : Int64} (hj : ls[j]? = some ((n : Nat), .long x)) (d : decode cc pc = .ok (.lload_n n, 1)) (k : Wg X ce sl h ls (.long x :: st) (pc + 1)) : Wg X ce sl h ls st pc := fun q1 q2 H L la a b c => lv_lload_n C.1 C.2.1 d rfl (lg_at c j hj) (k q1 q2 H L la a b c)
theorem r_lload (C : Cok X cc nL own ret) (j : Nat) {i : Nat} {x : Int64} (hj : ls[j]? = some (i, .long x)) (d : decode cc pc = .ok (.lload i, 2)) (k : Wg X ce sl h ls (.long x :: st) (pc + 2)) : Wg X ce sl h ls st pc := fun q1 q2 H L la a b c => lv_lload C.1 C.2.1 d (lg_at c j hj) (k q1 q2 H L la a b c)
theorem r_aload_n (C : Cok X cc nL own ret) (j : Nat) {n : Fin 4} {x : Nat} (hj : ls[j]? = some ((n : Nat), .ref x)) (d : decode cc pc = .ok (.aload_n n, 1)) (k : Wg X ce sl h ls (.ref x :: st) (pc + 1)) : Wg X ce sl h ls st pc := fun q1 q2 H L la a b c => lv_aload_n C.1 C.2.1 d rfl (lg_at c j hj) (k q1 q2 H L la a b c)
theorem r_aload (C : Cok X cc nL own ret) (j : Nat) {i : Nat} {x : Nat} (hj : ls[j]? = some (i, .ref x)) (d : decode cc pc = .ok (.aload i, 2)) (k : Wg X ce sl h ls (.ref x :: st) (pc + 2)) : Wg X ce sl h ls st pc := fun q1 q2 H L la a b c => lv_aload C.1 C.2.1 d (lg_at c j hj) (k q1 q2 H L la a b c)
theorem r_istore_n (C : Cok X cc nL own ret) {n : Fin 4} {i : Nat} {x : Int32} (hi : (n : Nat) = i) (hn : i < nL) (hl : lset ls i (.int x) = ls2) (d : decode cc pc = .ok (.istore_n n, 1)) (k : Wg X ce sl h ls2 st (pc + 1)) : Wg X ce sl h ls (.int x :: st) pc := fun q1 q2 H L la a b c => lv_istore_n C.1 C.2.1 d hi c (by rw [C.nloc]; exact hn) rfl (fun la2 c2 => k q1 q2 H L la2 a b (hl ▸ lset1 (v := .int x) rfl c2))
theorem r_istore (C : Cok X cc nL own ret) {i : Nat} {x : Int32} (hn : i < nL) (hl : lset ls i (.int x) = ls2) (d : decode cc pc = .ok (.istore i, 2)) (k : Wg X ce sl h ls2 st (pc + 2)) : Wg X ce sl h ls (.int x :: st) pc := fun q1 q2 H L la a b c => lv_istore C.1 C.2.1 d c (by rw [C.nloc]; exact hn) rfl (fun la2 c2 => k q1 q2 H L la2 a b (hl ▸ lset1 (v := .int x) rfl c2))
theorem r_astore_n (C : Cok X cc nL own ret) {n : Fin 4} {i : Nat} {x : Nat} (hi : (n : Nat) = i) (hn : i < nL) (hl : lset ls i (.ref x) = ls2) (d : decode cc pc = .ok (.astore_n n, 1)) (k : Wg X ce sl h ls2 st (pc + 1)) : Wg X ce sl h ls (.ref x :: st) pc := fun q1 q2 H L la a b c => lv_astore_n C.1 C.2.1 d hi c (by rw [C.nloc]; exact hn) rfl (fun la2 c2 => k q1 q2 H L la2 a b (hl ▸ lset1 (v := .ref x) rfl c2))
theorem r_astore (C : Cok X cc nL own ret) {i : Nat} {x : Nat} (hn : i < nL) (hl : lset ls i (.ref x) = ls2) (d : decode cc pc = .ok (.astore i, 2)) (k : Wg X ce sl h ls2 st (pc + 2)) : Wg X ce sl h ls (.ref x :: st) pc := fun q1 q2 H L la a b c => lv_astore C.1 C.2.1 d c (by rw [C.nloc]; exact hn) rfl (fun la2 c2 => k q1 q2 H L la2 a b (hl ▸ lset1 (v := .ref x) rfl c2))
theorem r_lstore_n (C : Cok X cc nL own ret) {n : Fin 4} {i : Nat} {x : Int64} (hi : (n : Nat) = i) (hn : i + 1 < nL) (hl : lset ls i (.long x) = ls2) (d : decode cc pc = .ok (.lstore_n n, 1)) (k : Wg X ce sl h ls2 st (pc + 1)) : Wg X ce sl h ls (.long x :: st) pc := fun q1 q2 H L la a b c => lv_lstore_n C.1 C.2.1 d hi c (by rw [C.nloc]; exact hn) rfl (fun la2 c2 => k q1 q2 H L la2 a b (hl ▸ lset2 (v := .long x) rfl c2))
theorem r_lstore (C : Cok X cc nL own ret) {i : Nat} {x : Int64} (hn : i + 1 < nL) (hl : lset ls i (.long x) = ls2) (d : decode cc pc = .ok (.lstore i, 2)) (k : Wg X ce sl h ls2 st (pc + 2)) : Wg X ce sl h ls (.long x :: st) pc := fun q1 q2 H L la a b c => lv_lstore C.1 C.2.1 d c (by rw [C.nloc]; exact hn) rfl (fun la2 c2 => k q1 q2 H L la2 a b (hl ▸ lset2 (v := .long x) rfl c2))
theorem r_iinc (C : Cok X cc nL own ret) (j : Nat) {i : Nat} {n : Int} {x m : Int32} (hj : ls[j]? = some (i, .int x)) (hm : Int32.ofInt n = m) (hn : i < nL) (hl : lset ls i (.int (x + m)) = ls2) (d : decode cc pc = .ok (.iinc i n, 3)) (k : Wg X ce sl h ls2 st (pc + 3)) : Wg X ce sl h ls st pc := fun q1 q2 H L la a b c => lv_iinc (k := j) C.1 C.2.1 d c (by unfold lmap; rw [List.getElem?_map, hj]; rfl) (by rw [hm]) (by rw [C.nloc]; exact hn) rfl (fun la2 c2 => k q1 q2 H L la2 a b (hl ▸ lset1 (v := .int (x + m)) rfl c2))
theorem r_goto (C : Cok X cc nL own ret) (tgt : Nat) {off : Int} (d : decode cc pc = .ok (.goto off, 3)) (ht : (pc : Int) + off = (tgt : Int)) (k : Wg X ce sl h ls st tgt) : Wg X ce sl h ls st pc := fun q1 q2 H L la a b c => lv_goto C.1 C.2.1 d ht (k q1 q2 H L la a b c)
theorem r_if_eq (C : Cok X cc nL own ret) (tgt : Nat) {x : Int32} {off : Int} (d : decode cc pc = .ok (.ifCond .eq off, 3)) (ht : (pc : Int) + off = (tgt : Int)) (k : (x = 0 → Wg X ce sl h ls st tgt) ∧ (¬ x = 0 → Wg X ce sl h ls st (pc + 3))) : Wg X ce sl h ls (.int x :: st) pc := fun q1 q2 H L la a b c => lv_if_eq C.1 C.2.1 d ht (fun z => k.1 z q1 q2 H L la a b c) (fun z => k.2 z q1 q2 H L la a b c)
theorem r_if_ne (C : Cok X cc nL own ret) (tgt : Nat) {x : Int32} {off : Int} (d : decode cc pc = .ok (.ifCond .ne off, 3)) (ht : (pc : Int) + off = (tgt : Int)) (k : (¬ x = 0 → Wg X ce sl h ls st tgt) ∧ (x = 0 → Wg X ce sl h ls st (pc + 3))) : Wg X ce sl h ls (.int x :: st) pc := fun q1 q2 H L la a b c => lv_if_ne C.1 C.2.1 d ht (fun z => k.1 z q1 q2 H L la a b c) (fun z => k.2 z q1 q2 H L la a b c)
theorem r_if_lt (C : Cok X cc nL own ret) (tgt : Nat) {x : Int32} {off : Int} (d : decode cc pc = .ok (.ifCond .lt off, 3)) (ht : (pc : Int) + off = (tgt : Int)) (k : (x < 0 → Wg X ce sl h ls st tgt) ∧ (¬ x < 0 → Wg X ce sl h ls st (pc + 3))) : Wg X ce sl h ls (.int x :: st) pc := fun q1 q2 H L la a b c => lv_if_lt C.1 C.2.1 d ht (fun z => k.1 z q1 q2 H L la a b c) (fun z => k.2 z q1 q2 H L la a b c)
theorem r_if_ge (C : Cok X cc nL own ret) (tgt : Nat) {x : Int32} {off : Int} (d : decode cc pc = .ok (.ifCond .ge off, 3)) (ht : (pc : Int) + off = (tgt : Int)) (k : (0 ≤ x → Wg X ce sl h ls st tgt) ∧ (¬ 0 ≤ x → Wg X ce sl h ls st (pc + 3))) : Wg X ce sl h ls (.int x :: st) pc := fun q1 q2 H L la a b c => lv_if_ge C.1 C.2.1 d ht (fun z => k.1 z q1 q2 H L la a b c) (fun z => k.2 z q1 q2 H L la a b c)
theorem r_if_gt (C : Cok X cc nL own ret) (tgt : Nat) {x : Int32} {off : Int} (d : decode cc pc = .ok (.ifCond .gt off, 3)) (ht : (pc : Int) + off = (tgt : Int)) (k : (0 < x → Wg X ce sl h ls st tgt) ∧ (¬ 0 < x → Wg X ce sl h ls st (pc + 3))) : Wg X ce sl h ls (.int x :: st) pc := fun q1 q2 H L la a b c => lv_if_gt C.1 C.2.1 d ht (fun z => k.1 z q1 q2 H L la a b c) (fun z => k.2 z q1 q2 H L la a b c)
theorem r_if_le (C : Cok X cc nL own ret) (tgt : Nat) {x : Int32} {off : Int} (d : decode cc pc = .ok (.ifCond .le off, 3)) (ht : (pc : Int) + off = (tgt : Int)) (k : (x ≤ 0 → Wg X ce sl h ls st tgt) ∧ (¬ x ≤ 0 → Wg X ce sl h ls st (pc + 3))) : Wg X ce sl h ls (.int x :: st) pc := fun q1 q2 H L la a b c => lv_if_le C.1 C.2.1 d ht (fun z => k.1 z q1 q2 H L la a b c) (fun z => k.2 z q1 q2 H L la a b c)
theorem r_icmp_eq (C : Cok X cc nL own ret) (tgt : Nat) {x y : Int32} {off : Int} (d : decode cc pc = .ok (.if_icmp .eq off, 3)) (ht : (pc : Int) + off = (tgt : Int)) (k : (x = y → Wg X ce sl h ls st tgt) ∧ (¬ x = y → Wg X ce sl h ls st (pc + 3))) : Wg X ce sl h ls (.int y :: .int x :: st) pc := fun q1 q2 H L la a b c => lv_icmp_eq C.1 C.2.1 d ht (fun z => k.1 z q1 q2 H L la a b c) (fun z => k.2 z q1 q2 H L la a b c)
theorem r_icmp_ne (C : Cok X cc nL own ret) (tgt : Nat) {x y : Int32} {off : Int} (d : decode cc pc = .ok (.if_icmp .ne off, 3)) (ht : (pc : Int) + off = (tgt : Int)) (k : (¬ x = y → Wg X ce sl h ls st tgt) ∧ (x = y → Wg X ce sl h ls st (pc + 3))) : Wg X ce sl h ls (.int y :: .int x :: st) pc := fun q1 q2 H L la a b c => lv_icmp_ne C.1 C.2.1 d ht (fun z => k.1 z q1 q2 H L la a b c) (fun z => k.2 z q1 q2 H L la a b c)
theorem r_icmp_lt (C : Cok X cc nL own ret) (tgt : Nat) {x y : Int32} {off : Int} (d : decode cc pc = .ok (.if_icmp .lt off, 3)) (ht : (pc : Int) + off = (tgt : Int)) (k : (x < y → Wg X ce sl h ls st tgt) ∧ (¬ x < y → Wg X ce sl h ls st (pc + 3))) : Wg X ce sl h ls (.int y :: .int x :: st) pc := fun q1 q2 H L la a b c => lv_icmp_lt C.1 C.2.1 d ht (fun z => k.1 z q1 q2 H L la a b c) (fun z => k.2 z q1 q2 H L la a b c)
theorem r_icmp_ge (C : Cok X cc nL own ret) (tgt : Nat) {x y : Int32} {off : Int} (d : decode cc pc = .ok (.if_icmp .ge off, 3)) (ht : (pc : Int) + off = (tgt : Int)) (k : (y ≤ x → Wg X ce sl h ls st tgt) ∧ (¬ y ≤ x → Wg X ce sl h ls st (pc + 3))) : Wg X ce sl h ls (.int y :: .int x :: st) pc := fun q1 q2 H L la a b c => lv_icmp_ge C.1 C.2.1 d ht (fun z => k.1 z q1 q2 H L la a b c) (fun z => k.2 z q1 q2 H L la a b c)
theorem r_icmp_gt (C : Cok X cc nL own ret) (tgt : Nat) {x y : Int32} {off : Int} (d : decode cc pc = .ok (.if_icmp .gt off, 3)) (ht : (pc : Int) + off = (tgt : Int)) (k : (y < x → Wg X ce sl h ls st tgt) ∧ (¬ y < x → Wg X ce sl h ls st (pc + 3))) : Wg X ce sl h ls (.int y :: .int x :: st) pc := fun q1 q2 H L la a b c => lv_icmp_gt C.1 C.2.1 d ht (fun z => k.1 z q1 q2 H L la a b c) (fun z => k.2 z q1 q2 H L la a b c)
theorem r_icmp_le (C : Cok X cc nL own ret) (tgt : Nat) {x y : Int32} {off : Int} (d : decode cc pc = .ok (.if_icmp .le off, 3)) (ht : (pc : Int) + off = (tgt : Int)) (k : (x ≤ y → Wg X ce sl h ls st tgt) ∧ (¬ x ≤ y → Wg X ce sl h ls st (pc + 3))) : Wg X ce sl h ls (.int y :: .int x :: st) pc := fun q1 q2 H L la a b c => lv_icmp_le C.1 C.2.1 d ht (fun z => k.1 z q1 q2 H L la a b c) (fun z => k.2 z q1 q2 H L la a b c)
end ROWS
theorem wl_get (G : WG) (h : HP) {k : Nat} (hk : k < 59) : (wl G h)[k]? = some (G.2.1 k, w_ent G (h k) k) := by
  unfold wl
  rw [List.getElem?_map, List.getElem?_range hk]
  rfl
theorem wl_set (G : WG) (h : HP) {k : Nat} (f : Nat → Int32) {e : va_E} (he : w_ent G f k = e) : (wl G h).set k (G.2.1 k, e) = wl G (hs h k f) := by
  apply List.ext_getElem?
  intro j
  by_cases hj : j = k
  · subst hj
    by_cases hk : j < 59
    · rw [wl_get G _ hk, List.getElem?_set_self (by unfold wl; simpa using hk), hs_self, he]
    · rw [List.getElem?_eq_none (by unfold wl; simp; omega), List.getElem?_eq_none (by unfold wl; simp; omega)]
  · rw [List.getElem?_set_ne (Ne.symm hj)]
    unfold wl
    rw [List.getElem?_map, List.getElem?_map]
    by_cases hk : j < 59
    · rw [List.getElem?_range hk]
      simp [hs_ne hj]
    · rw [List.getElem?_eq_none (by simpa using hk)]
      rfl
theorem wl_D {G : WG} (g : Gok G) (h : HP) : va_D (Ga G) (wl G h) := by
  have key : ∀ (k : Nat) (q : Nat × va_E), (wl G h)[k]? = some q → k < 59 ∧ q.1 = G.2.1 k := by
    intro k q hq
    by_cases hk : k < 59
    · rw [wl_get G h hk] at hq
      cases hq
      exact ⟨hk, rfl⟩
    · rw [List.getElem?_eq_none (by unfold wl; simp; omega)] at hq
      cases hq
  refine ⟨fun i j p q hi hj hpq => ?_, fun k q hk => ?_⟩
  · obtain ⟨a1, a2⟩ := key i p hi
    obtain ⟨b1, b2⟩ := key j q hj
    exact g.1 i j a1 b1 (by rw [← a2, ← b2]; exact hpq)
  · obtain ⟨a1, a2⟩ := key k q hk
    show G.2.2.2 ≤ q.1
    rw [a2]
    exact g.2 k a1
theorem kd_lt {k a n : Nat} (h : kd k = (a, n)) (ha : a < 99) : k < 59 := by
  refine Nat.lt_of_not_le (fun q => ?_)
  obtain ⟨m, rfl⟩ := Nat.exists_eq_add_of_le q
  have : kd (59 + m) = (99, 0) := by rw [Nat.add_comm]; rfl
  rw [this] at h
  cases h
  omega
theorem kd_arr {k a n : Nat} (h : kd k = (10 + a, n)) (ha : a < 4) (G : WG) (f : Nat → Int32) : w_ent G f k = .inl (G.2.2.1 a, w_arr f a n) := by
  have : w_pur f k = .inl (a, n) := by
    unfold w_pur
    rw [h]
    match a, ha with
    | 0, _ => rfl
    | 1, _ => rfl
    | 2, _ => rfl
    | 3, _ => rfl
  unfold w_ent
  rw [this]
theorem e_Wh {k : Nat} (hk : kd k = (0, 0)) (G : WG) (f : Nat → Int32) : w_ent G f k = .inr (0, smap G [.ref (k+1), .int (f 1), .int (f 2)]) := by
  have e : w_pur f k = .inr (0, [.ref (k+1), .int (f 1), .int (f 2)]) := by simp only [w_pur, hk]
  unfold w_ent; rw [e]
theorem e_Ra {k : Nat} (hk : kd k = (1, 0)) (G : WG) (f : Nat → Int32) : w_ent G f k = .inr (1, smap G [.ref (k+1), .ref (k+3)]) := by
  have e : w_pur f k = .inr (1, [.ref (k+1), .ref (k+3)]) := by simp only [w_pur, hk]
  unfold w_ent; rw [e]
theorem e_Di {k : Nat} (hk : kd k = (2, 0)) (G : WG) (f : Nat → Int32) : w_ent G f k = .inr (2, smap G [.ref (k+1), .ref (k+3), .ref (k+5), .ref (k+6)]) := by
  have e : w_pur f k = .inr (2, [.ref (k+1), .ref (k+3), .ref (k+5), .ref (k+6)]) := by simp only [w_pur, hk]
  unfold w_ent; rw [e]
theorem e_Re {k : Nat} (hk : kd k = (3, 0)) (G : WG) (f : Nat → Int32) : w_ent G f k = .inr (3, smap G [.ref (k+1), .ref (k+6), .ref (k+11), .ref (k+16), .ref (k+18), .ref (k+20), .ref (k+22)]) := by
  have e : w_pur f k = .inr (3, [.ref (k+1), .ref (k+6), .ref (k+11), .ref (k+16), .ref (k+18), .ref (k+20), .ref (k+22)]) := by simp only [w_pur, hk]
  unfold w_ent; rw [e]
theorem e_He {k : Nat} (hk : kd k = (4, 0)) (G : WG) (f : Nat → Int32) : w_ent G f k = .inr (4, smap G [.ref (k+1), .ref (k+2), .int (f 2), .int (f 3), .ref (k+3), .ref (k+4), .ref (k+5), .int (f 7)]) := by
  have e : w_pur f k = .inr (4, [.ref (k+1), .ref (k+2), .int (f 2), .int (f 3), .ref (k+3), .ref (k+4), .ref (k+5), .int (f 7)]) := by simp only [w_pur, hk]
  unfold w_ent; rw [e]
theorem e_Li {k : Nat} (hk : kd k = (5, 0)) (G : WG) (f : Nat → Int32) : w_ent G f k = .inr (5, smap G [.ref (k+1), .int (f 1)]) := by
  have e : w_pur f k = .inr (5, [.ref (k+1), .int (f 1)]) := by simp only [w_pur, hk]
  unfold w_ent; rw [e]
theorem e_Pr {k : Nat} (hk : kd k = (6, 0)) (G : WG) (f : Nat → Int32) : w_ent G f k = .inr (6, smap G [.ref (k+1), .int (f 1), .int (f 2), .ref (k+2), .int (f 4), .ref (k+3), .ref (k+5)]) := by
  have e : w_pur f k = .inr (6, [.ref (k+1), .int (f 1), .int (f 2), .ref (k+2), .int (f 4), .ref (k+3), .ref (k+5)]) := by simp only [w_pur, hk]
  unfold w_ent; rw [e]
theorem e_Ce {k : Nat} (hk : kd k = (7, 0)) (G : WG) (f : Nat → Int32) : w_ent G f k = .inr (7, smap G [.ref (k+1), .ref (k+7), .ref (k+9), .ref (k+38)]) := by
  have e : w_pur f k = .inr (7, [.ref (k+1), .ref (k+7), .ref (k+9), .ref (k+38)]) := by simp only [w_pur, hk]
  unfold w_ent; rw [e]
theorem e_Mo {k : Nat} (hk : kd k = (8, 0)) (G : WG) (f : Nat → Int32) : w_ent G f k = .inr (8, smap G [.int (f 0), .ref (k+1), .ref (k+2), .int (f 3), .ref (k+3), .ref (k+4), .ref (k+5), .ref (k+6), .ref (k+7), .int (f 9), .int (f 10), .ref (k+8), .ref (k+9), .ref (k+10), .ref (k+11), .int (f 15), .ref (k+12), .int (f 17), .int (f 18), .ref (k+13), .int (f 20)]) := by
  have e : w_pur f k = .inr (8, [.int (f 0), .ref (k+1), .ref (k+2), .int (f 3), .ref (k+3), .ref (k+4), .ref (k+5), .ref (k+6), .ref (k+7), .int (f 9), .int (f 10), .ref (k+8), .ref (k+9), .ref (k+10), .ref (k+11), .int (f 15), .ref (k+12), .int (f 17), .int (f 18), .ref (k+13), .int (f 20)]) := by simp only [w_pur, hk]
  unfold w_ent; rw [e]
theorem kd_part {k c j a n : Nat} (hk : kd k = (c, 0)) (hc : c < 9) (h : ∀ i, i < 59 → kd i = (c, 0) → kd (i + j) = (a, n)) : kd (k + j) = (a, n) := h k (kd_lt hk (by omega)) hk
theorem kWh1 {k : Nat} (hk : kd k = (0, 0)) : kd (k + 1) = (10, 44) := kd_part hk (by omega) (by decide +kernel)
theorem kRa1 {k : Nat} (hk : kd k = (1, 0)) : kd (k + 1) = (0, 0) := kd_part hk (by omega) (by decide +kernel)
theorem kRa2 {k : Nat} (hk : kd k = (1, 0)) : kd (k + 2) = (10, 44) := kd_part hk (by omega) (by decide +kernel)
theorem kRa3 {k : Nat} (hk : kd k = (1, 0)) : kd (k + 3) = (0, 0) := kd_part hk (by omega) (by decide +kernel)
theorem kRa4 {k : Nat} (hk : kd k = (1, 0)) : kd (k + 4) = (10, 44) := kd_part hk (by omega) (by decide +kernel)
section FIELDS
variable {X : CX} {ce sl : Nat} {h : HP} {ls ls2 : List (Nat × Value)} {st : List Value} {pc nL : Nat} {cc : ByteArray} {own : String} {ret : Option FieldType}
theorem gf_Wh_words (C : Cok X cc nL own ret) {k : Nat} {k2 : Nat} (h2 : k + 1 = k2) (hk : kd k = (0, 0)) {ix : Nat} (hl : Cond.fieldLink own ix R_Wh "words" "[I" ∈ wx_tbl) (d : decode cc pc = .ok (.getfield ix, 3)) (kk : Wg X ce sl h ls (.ref k2 :: st) (pc + 3)) : Wg X ce sl h ls (.ref k :: st) pc := fun q1 q2 H L la a b c => va_get (D := (xG X).1) (ci := 0) (v := vv (xG X) (.ref k2)) (C := R_Wh) (T := T_Wh) (N := 3) C.1 C.2.1 C.hts i_Wh C.own C.kn a k ((wl_get (xG X) h (kd_lt hk (by omega))).trans (by rw [e_Wh hk])) rfl 0 (by omega) (C.hts _ hl) (fun _ z => z) (by subst h2; rfl) d (kk q1 q2 H L la a b c)
theorem gf_Wh_length (C : Cok X cc nL own ret) {k : Nat} (hk : kd k = (0, 0)) {ix : Nat} (hl : Cond.fieldLink own ix R_Wh "length" "I" ∈ wx_tbl) (d : decode cc pc = .ok (.getfield ix, 3)) (kk : Wg X ce sl h ls (.int (h k 1) :: st) (pc + 3)) : Wg X ce sl h ls (.ref k :: st) pc := fun q1 q2 H L la a b c => va_get (D := (xG X).1) (ci := 0) (v := vv (xG X) (.int (h k 1))) (C := R_Wh) (T := T_Wh) (N := 3) C.1 C.2.1 C.hts i_Wh C.own C.kn a k ((wl_get (xG X) h (kd_lt hk (by omega))).trans (by rw [e_Wh hk])) rfl 1 (by omega) (C.hts _ hl) (fun _ z => z) rfl d (kk q1 q2 H L la a b c)
theorem pf_Wh_length (C : Cok X cc nL own ret) {k : Nat} (hk : kd k = (0, 0)) {v : Int32} {ix : Nat} (hl : Cond.fieldLink own ix R_Wh "length" "I" ∈ wx_tbl) (d : decode cc pc = .ok (.putfield ix, 3)) (kk : Wg X ce sl (up h k 1 v) ls st (pc + 3)) : Wg X ce sl h ls (.int v :: .ref k :: st) pc := fun q1 q2 H L la a b c => va_put (D := (xG X).1) (ci := 0) (v := .int v) (ty := .int) (C := R_Wh) (T := T_Wh) (N := 3) C.1 C.2.1 C.hts i_Wh t_Wh p_Wh n_Wh C.own C.kn a (wl_D C.gok h) b k ((wl_get (xG X) h (kd_lt hk (by omega))).trans (by rw [e_Wh hk])) rfl 1 (by omega) (C.hts _ hl) (fun _ z => z) rfl (by decide +kernel) rfl rfl (by show 1 < 3; omega) d (fun H2 L2 a2 _ b2 => kk q1 q2 H2 L2 la (by rw [wl_set (xG X) h (upd (h k) 1 v) (by rw [e_Wh hk]; simp [smap, vv, upd])] at a2; exact a2) b2 c)
theorem gf_Wh_below (C : Cok X cc nL own ret) {k : Nat} (hk : kd k = (0, 0)) {ix : Nat} (hl : Cond.fieldLink own ix R_Wh "below" "Z" ∈ wx_tbl) (d : decode cc pc = .ok (.getfield ix, 3)) (kk : Wg X ce sl h ls (.int (h k 2) :: st) (pc + 3)) : Wg X ce sl h ls (.ref k :: st) pc := fun q1 q2 H L la a b c => va_get (D := (xG X).1) (ci := 0) (v := vv (xG X) (.int (h k 2))) (C := R_Wh) (T := T_Wh) (N := 3) C.1 C.2.1 C.hts i_Wh C.own C.kn a k ((wl_get (xG X) h (kd_lt hk (by omega))).trans (by rw [e_Wh hk])) rfl 2 (by omega) (C.hts _ hl) (fun _ z => z) rfl d (kk q1 q2 H L la a b c)
theorem pf_Wh_below (C : Cok X cc nL own ret) {k : Nat} (hk : kd k = (0, 0)) {v : Int32} (hb : v = 0 ∨ v = 1) {ix : Nat} (hl : Cond.fieldLink own ix R_Wh "below" "Z" ∈ wx_tbl) (d : decode cc pc = .ok (.putfield ix, 3)) (kk : Wg X ce sl (up h k 2 v) ls st (pc + 3)) : Wg X ce sl h ls (.int v :: .ref k :: st) pc := fun q1 q2 H L la a b c => va_put (D := (xG X).1) (ci := 0) (v := .int v) (ty := .boolean) (C := R_Wh) (T := T_Wh) (N := 3) C.1 C.2.1 C.hts i_Wh t_Wh p_Wh n_Wh C.own C.kn a (wl_D C.gok h) b k ((wl_get (xG X) h (kd_lt hk (by omega))).trans (by rw [e_Wh hk])) rfl 2 (by omega) (C.hts _ hl) (fun _ z => z) rfl (by decide +kernel) (by rcases hb with rfl | rfl <;> rfl) (by rcases hb with rfl | rfl <;> rfl) (by show 2 < 3; omega) d (fun H2 L2 a2 _ b2 => kk q1 q2 H2 L2 la (by rw [wl_set (xG X) h (upd (h k) 2 v) (by rw [e_Wh hk]; simp [smap, vv, upd])] at a2; exact a2) b2 c)
theorem gf_Ra_upper (C : Cok X cc nL own ret) {k : Nat} {k2 : Nat} (h2 : k + 1 = k2) (hk : kd k = (1, 0)) {ix : Nat} (hl : Cond.fieldLink own ix R_Ra "upper" "LCellHeap$Whole;" ∈ wx_tbl) (d : decode cc pc = .ok (.getfield ix, 3)) (kk : Wg X ce sl h ls (.ref k2 :: st) (pc + 3)) : Wg X ce sl h ls (.ref k :: st) pc := fun q1 q2 H L la a b c => va_get (D := (xG X).1) (ci := 1) (v := vv (xG X) (.ref k2)) (C := R_Ra) (T := T_Ra) (N := 2) C.1 C.2.1 C.hts i_Ra C.own C.kn a k ((wl_get (xG X) h (kd_lt hk (by omega))).trans (by rw [e_Ra hk])) rfl 0 (by omega) (C.hts _ hl) (fun _ z => z) (by subst h2; rfl) d (kk q1 q2 H L la a b c)
theorem gf_Ra_lower (C : Cok X cc nL own ret) {k : Nat} {k2 : Nat} (h2 : k + 3 = k2) (hk : kd k = (1, 0)) {ix : Nat} (hl : Cond.fieldLink own ix R_Ra "lower" "LCellHeap$Whole;" ∈ wx_tbl) (d : decode cc pc = .ok (.getfield ix, 3)) (kk : Wg X ce sl h ls (.ref k2 :: st) (pc + 3)) : Wg X ce sl h ls (.ref k :: st) pc := fun q1 q2 H L la a b c => va_get (D := (xG X).1) (ci := 1) (v := vv (xG X) (.ref k2)) (C := R_Ra) (T := T_Ra) (N := 2) C.1 C.2.1 C.hts i_Ra C.own C.kn a k ((wl_get (xG X) h (kd_lt hk (by omega))).trans (by rw [e_Ra hk])) rfl 1 (by omega) (C.hts _ hl) (fun _ z => z) (by subst h2; rfl) d (kk q1 q2 H L la a b c)
theorem gf_Di_quotient (C : Cok X cc nL own ret) {k : Nat} {k2 : Nat} (h2 : k + 1 = k2) (hk : kd k = (2, 0)) {ix : Nat} (hl : Cond.fieldLink own ix R_Di "quotient" "LCellHeap$Whole;" ∈ wx_tbl) (d : decode cc pc = .ok (.getfield ix, 3)) (kk : Wg X ce sl h ls (.ref k2 :: st) (pc + 3)) : Wg X ce sl h ls (.ref k :: st) pc := fun q1 q2 H L la a b c => va_get (D := (xG X).1) (ci := 2) (v := vv (xG X) (.ref k2)) (C := R_Di) (T := T_Di) (N := 4) C.1 C.2.1 C.hts i_Di C.own C.kn a k ((wl_get (xG X) h (kd_lt hk (by omega))).trans (by rw [e_Di hk])) rfl 0 (by omega) (C.hts _ hl) (fun _ z => z) (by subst h2; rfl) d (kk q1 q2 H L la a b c)
theorem gf_Di_remainder (C : Cok X cc nL own ret) {k : Nat} {k2 : Nat} (h2 : k + 3 = k2) (hk : kd k = (2, 0)) {ix : Nat} (hl : Cond.fieldLink own ix R_Di "remainder" "LCellHeap$Whole;" ∈ wx_tbl) (d : decode cc pc = .ok (.getfield ix, 3)) (kk : Wg X ce sl h ls (.ref k2 :: st) (pc + 3)) : Wg X ce sl h ls (.ref k :: st) pc := fun q1 q2 H L la a b c => va_get (D := (xG X).1) (ci := 2) (v := vv (xG X) (.ref k2)) (C := R_Di) (T := T_Di) (N := 4) C.1 C.2.1 C.hts i_Di C.own C.kn a k ((wl_get (xG X) h (kd_lt hk (by omega))).trans (by rw [e_Di hk])) rfl 1 (by omega) (C.hts _ hl) (fun _ z => z) (by subst h2; rfl) d (kk q1 q2 H L la a b c)
theorem gf_Di_rest (C : Cok X cc nL own ret) {k : Nat} {k2 : Nat} (h2 : k + 5 = k2) (hk : kd k = (2, 0)) {ix : Nat} (hl : Cond.fieldLink own ix R_Di "rest" "[I" ∈ wx_tbl) (d : decode cc pc = .ok (.getfield ix, 3)) (kk : Wg X ce sl h ls (.ref k2 :: st) (pc + 3)) : Wg X ce sl h ls (.ref k :: st) pc := fun q1 q2 H L la a b c => va_get (D := (xG X).1) (ci := 2) (v := vv (xG X) (.ref k2)) (C := R_Di) (T := T_Di) (N := 4) C.1 C.2.1 C.hts i_Di C.own C.kn a k ((wl_get (xG X) h (kd_lt hk (by omega))).trans (by rw [e_Di hk])) rfl 2 (by omega) (C.hts _ hl) (fun _ z => z) (by subst h2; rfl) d (kk q1 q2 H L la a b c)
theorem gf_Di_by (C : Cok X cc nL own ret) {k : Nat} {k2 : Nat} (h2 : k + 6 = k2) (hk : kd k = (2, 0)) {ix : Nat} (hl : Cond.fieldLink own ix R_Di "by" "[I" ∈ wx_tbl) (d : decode cc pc = .ok (.getfield ix, 3)) (kk : Wg X ce sl h ls (.ref k2 :: st) (pc + 3)) : Wg X ce sl h ls (.ref k :: st) pc := fun q1 q2 H L la a b c => va_get (D := (xG X).1) (ci := 2) (v := vv (xG X) (.ref k2)) (C := R_Di) (T := T_Di) (N := 4) C.1 C.2.1 C.hts i_Di C.own C.kn a k ((wl_get (xG X) h (kd_lt hk (by omega))).trans (by rw [e_Di hk])) rfl 3 (by omega) (C.hts _ hl) (fun _ z => z) (by subst h2; rfl) d (kk q1 q2 H L la a b c)
theorem gf_Re_left (C : Cok X cc nL own ret) {k : Nat} {k2 : Nat} (h2 : k + 1 = k2) (hk : kd k = (3, 0)) {ix : Nat} (hl : Cond.fieldLink own ix R_Re "left" "LCellHeap$Ratio;" ∈ wx_tbl) (d : decode cc pc = .ok (.getfield ix, 3)) (kk : Wg X ce sl h ls (.ref k2 :: st) (pc + 3)) : Wg X ce sl h ls (.ref k :: st) pc := fun q1 q2 H L la a b c => va_get (D := (xG X).1) (ci := 3) (v := vv (xG X) (.ref k2)) (C := R_Re) (T := T_Re) (N := 7) C.1 C.2.1 C.hts i_Re C.own C.kn a k ((wl_get (xG X) h (kd_lt hk (by omega))).trans (by rw [e_Re hk])) rfl 0 (by omega) (C.hts _ hl) (fun _ z => z) (by subst h2; rfl) d (kk q1 q2 H L la a b c)
theorem gf_Re_right (C : Cok X cc nL own ret) {k : Nat} {k2 : Nat} (h2 : k + 6 = k2) (hk : kd k = (3, 0)) {ix : Nat} (hl : Cond.fieldLink own ix R_Re "right" "LCellHeap$Ratio;" ∈ wx_tbl) (d : decode cc pc = .ok (.getfield ix, 3)) (kk : Wg X ce sl h ls (.ref k2 :: st) (pc + 3)) : Wg X ce sl h ls (.ref k :: st) pc := fun q1 q2 H L la a b c => va_get (D := (xG X).1) (ci := 3) (v := vv (xG X) (.ref k2)) (C := R_Re) (T := T_Re) (N := 7) C.1 C.2.1 C.hts i_Re C.own C.kn a k ((wl_get (xG X) h (kd_lt hk (by omega))).trans (by rw [e_Re hk])) rfl 1 (by omega) (C.hts _ hl) (fun _ z => z) (by subst h2; rfl) d (kk q1 q2 H L la a b c)
theorem gf_Re_result (C : Cok X cc nL own ret) {k : Nat} {k2 : Nat} (h2 : k + 11 = k2) (hk : kd k = (3, 0)) {ix : Nat} (hl : Cond.fieldLink own ix R_Re "result" "LCellHeap$Ratio;" ∈ wx_tbl) (d : decode cc pc = .ok (.getfield ix, 3)) (kk : Wg X ce sl h ls (.ref k2 :: st) (pc + 3)) : Wg X ce sl h ls (.ref k :: st) pc := fun q1 q2 H L la a b c => va_get (D := (xG X).1) (ci := 3) (v := vv (xG X) (.ref k2)) (C := R_Re) (T := T_Re) (N := 7) C.1 C.2.1 C.hts i_Re C.own C.kn a k ((wl_get (xG X) h (kd_lt hk (by omega))).trans (by rw [e_Re hk])) rfl 2 (by omega) (C.hts _ hl) (fun _ z => z) (by subst h2; rfl) d (kk q1 q2 H L la a b c)
theorem gf_Re_other (C : Cok X cc nL own ret) {k : Nat} {k2 : Nat} (h2 : k + 16 = k2) (hk : kd k = (3, 0)) {ix : Nat} (hl : Cond.fieldLink own ix R_Re "other" "LCellHeap$Whole;" ∈ wx_tbl) (d : decode cc pc = .ok (.getfield ix, 3)) (kk : Wg X ce sl h ls (.ref k2 :: st) (pc + 3)) : Wg X ce sl h ls (.ref k :: st) pc := fun q1 q2 H L la a b c => va_get (D := (xG X).1) (ci := 3) (v := vv (xG X) (.ref k2)) (C := R_Re) (T := T_Re) (N := 7) C.1 C.2.1 C.hts i_Re C.own C.kn a k ((wl_get (xG X) h (kd_lt hk (by omega))).trans (by rw [e_Re hk])) rfl 3 (by omega) (C.hts _ hl) (fun _ z => z) (by subst h2; rfl) d (kk q1 q2 H L la a b c)
theorem gf_Re_divisor (C : Cok X cc nL own ret) {k : Nat} {k2 : Nat} (h2 : k + 18 = k2) (hk : kd k = (3, 0)) {ix : Nat} (hl : Cond.fieldLink own ix R_Re "divisor" "LCellHeap$Whole;" ∈ wx_tbl) (d : decode cc pc = .ok (.getfield ix, 3)) (kk : Wg X ce sl h ls (.ref k2 :: st) (pc + 3)) : Wg X ce sl h ls (.ref k :: st) pc := fun q1 q2 H L la a b c => va_get (D := (xG X).1) (ci := 3) (v := vv (xG X) (.ref k2)) (C := R_Re) (T := T_Re) (N := 7) C.1 C.2.1 C.hts i_Re C.own C.kn a k ((wl_get (xG X) h (kd_lt hk (by omega))).trans (by rw [e_Re hk])) rfl 4 (by omega) (C.hts _ hl) (fun _ z => z) (by subst h2; rfl) d (kk q1 q2 H L la a b c)
theorem gf_Re_next (C : Cok X cc nL own ret) {k : Nat} {k2 : Nat} (h2 : k + 20 = k2) (hk : kd k = (3, 0)) {ix : Nat} (hl : Cond.fieldLink own ix R_Re "next" "LCellHeap$Whole;" ∈ wx_tbl) (d : decode cc pc = .ok (.getfield ix, 3)) (kk : Wg X ce sl h ls (.ref k2 :: st) (pc + 3)) : Wg X ce sl h ls (.ref k :: st) pc := fun q1 q2 H L la a b c => va_get (D := (xG X).1) (ci := 3) (v := vv (xG X) (.ref k2)) (C := R_Re) (T := T_Re) (N := 7) C.1 C.2.1 C.hts i_Re C.own C.kn a k ((wl_get (xG X) h (kd_lt hk (by omega))).trans (by rw [e_Re hk])) rfl 5 (by omega) (C.hts _ hl) (fun _ z => z) (by subst h2; rfl) d (kk q1 q2 H L la a b c)
theorem gf_Re_division (C : Cok X cc nL own ret) {k : Nat} {k2 : Nat} (h2 : k + 22 = k2) (hk : kd k = (3, 0)) {ix : Nat} (hl : Cond.fieldLink own ix R_Re "division" "LCellHeap$Division;" ∈ wx_tbl) (d : decode cc pc = .ok (.getfield ix, 3)) (kk : Wg X ce sl h ls (.ref k2 :: st) (pc + 3)) : Wg X ce sl h ls (.ref k :: st) pc := fun q1 q2 H L la a b c => va_get (D := (xG X).1) (ci := 3) (v := vv (xG X) (.ref k2)) (C := R_Re) (T := T_Re) (N := 7) C.1 C.2.1 C.hts i_Re C.own C.kn a k ((wl_get (xG X) h (kd_lt hk (by omega))).trans (by rw [e_Re hk])) rfl 6 (by omega) (C.hts _ hl) (fun _ z => z) (by subst h2; rfl) d (kk q1 q2 H L la a b c)
theorem gf_He_cells (C : Cok X cc nL own ret) {k : Nat} {k2 : Nat} (h2 : k + 1 = k2) (hk : kd k = (4, 0)) {ix : Nat} (hl : Cond.fieldLink own ix R_He "cells" "[I" ∈ wx_tbl) (d : decode cc pc = .ok (.getfield ix, 3)) (kk : Wg X ce sl h ls (.ref k2 :: st) (pc + 3)) : Wg X ce sl h ls (.ref k :: st) pc := fun q1 q2 H L la a b c => va_get (D := (xG X).1) (ci := 4) (v := vv (xG X) (.ref k2)) (C := R_He) (T := T_He) (N := 8) C.1 C.2.1 C.hts i_He C.own C.kn a k ((wl_get (xG X) h (kd_lt hk (by omega))).trans (by rw [e_He hk])) rfl 0 (by omega) (C.hts _ hl) (fun _ z => z) (by subst h2; rfl) d (kk q1 q2 H L la a b c)
theorem gf_He_registers (C : Cok X cc nL own ret) {k : Nat} {k2 : Nat} (h2 : k + 2 = k2) (hk : kd k = (4, 0)) {ix : Nat} (hl : Cond.fieldLink own ix R_He "registers" "[I" ∈ wx_tbl) (d : decode cc pc = .ok (.getfield ix, 3)) (kk : Wg X ce sl h ls (.ref k2 :: st) (pc + 3)) : Wg X ce sl h ls (.ref k :: st) pc := fun q1 q2 H L la a b c => va_get (D := (xG X).1) (ci := 4) (v := vv (xG X) (.ref k2)) (C := R_He) (T := T_He) (N := 8) C.1 C.2.1 C.hts i_He C.own C.kn a k ((wl_get (xG X) h (kd_lt hk (by omega))).trans (by rw [e_He hk])) rfl 1 (by omega) (C.hts _ hl) (fun _ z => z) (by subst h2; rfl) d (kk q1 q2 H L la a b c)
theorem gf_He_top (C : Cok X cc nL own ret) {k : Nat} (hk : kd k = (4, 0)) {ix : Nat} (hl : Cond.fieldLink own ix R_He "top" "I" ∈ wx_tbl) (d : decode cc pc = .ok (.getfield ix, 3)) (kk : Wg X ce sl h ls (.int (h k 2) :: st) (pc + 3)) : Wg X ce sl h ls (.ref k :: st) pc := fun q1 q2 H L la a b c => va_get (D := (xG X).1) (ci := 4) (v := vv (xG X) (.int (h k 2))) (C := R_He) (T := T_He) (N := 8) C.1 C.2.1 C.hts i_He C.own C.kn a k ((wl_get (xG X) h (kd_lt hk (by omega))).trans (by rw [e_He hk])) rfl 2 (by omega) (C.hts _ hl) (fun _ z => z) rfl d (kk q1 q2 H L la a b c)
theorem pf_He_top (C : Cok X cc nL own ret) {k : Nat} (hk : kd k = (4, 0)) {v : Int32} {ix : Nat} (hl : Cond.fieldLink own ix R_He "top" "I" ∈ wx_tbl) (d : decode cc pc = .ok (.putfield ix, 3)) (kk : Wg X ce sl (up h k 2 v) ls st (pc + 3)) : Wg X ce sl h ls (.int v :: .ref k :: st) pc := fun q1 q2 H L la a b c => va_put (D := (xG X).1) (ci := 4) (v := .int v) (ty := .int) (C := R_He) (T := T_He) (N := 8) C.1 C.2.1 C.hts i_He t_He p_He n_He C.own C.kn a (wl_D C.gok h) b k ((wl_get (xG X) h (kd_lt hk (by omega))).trans (by rw [e_He hk])) rfl 2 (by omega) (C.hts _ hl) (fun _ z => z) rfl (by decide +kernel) rfl rfl (by show 2 < 8; omega) d (fun H2 L2 a2 _ b2 => kk q1 q2 H2 L2 la (by rw [wl_set (xG X) h (upd (h k) 2 v) (by rw [e_He hk]; simp [smap, vv, upd])] at a2; exact a2) b2 c)
theorem gf_He_collections (C : Cok X cc nL own ret) {k : Nat} (hk : kd k = (4, 0)) {ix : Nat} (hl : Cond.fieldLink own ix R_He "collections" "I" ∈ wx_tbl) (d : decode cc pc = .ok (.getfield ix, 3)) (kk : Wg X ce sl h ls (.int (h k 3) :: st) (pc + 3)) : Wg X ce sl h ls (.ref k :: st) pc := fun q1 q2 H L la a b c => va_get (D := (xG X).1) (ci := 4) (v := vv (xG X) (.int (h k 3))) (C := R_He) (T := T_He) (N := 8) C.1 C.2.1 C.hts i_He C.own C.kn a k ((wl_get (xG X) h (kd_lt hk (by omega))).trans (by rw [e_He hk])) rfl 3 (by omega) (C.hts _ hl) (fun _ z => z) rfl d (kk q1 q2 H L la a b c)
theorem pf_He_collections (C : Cok X cc nL own ret) {k : Nat} (hk : kd k = (4, 0)) {v : Int32} {ix : Nat} (hl : Cond.fieldLink own ix R_He "collections" "I" ∈ wx_tbl) (d : decode cc pc = .ok (.putfield ix, 3)) (kk : Wg X ce sl (up h k 3 v) ls st (pc + 3)) : Wg X ce sl h ls (.int v :: .ref k :: st) pc := fun q1 q2 H L la a b c => va_put (D := (xG X).1) (ci := 4) (v := .int v) (ty := .int) (C := R_He) (T := T_He) (N := 8) C.1 C.2.1 C.hts i_He t_He p_He n_He C.own C.kn a (wl_D C.gok h) b k ((wl_get (xG X) h (kd_lt hk (by omega))).trans (by rw [e_He hk])) rfl 3 (by omega) (C.hts _ hl) (fun _ z => z) rfl (by decide +kernel) rfl rfl (by show 3 < 8; omega) d (fun H2 L2 a2 _ b2 => kk q1 q2 H2 L2 la (by rw [wl_set (xG X) h (upd (h k) 3 v) (by rw [e_He hk]; simp [smap, vv, upd])] at a2; exact a2) b2 c)
theorem gf_He_lives (C : Cok X cc nL own ret) {k : Nat} {k2 : Nat} (h2 : k + 3 = k2) (hk : kd k = (4, 0)) {ix : Nat} (hl : Cond.fieldLink own ix R_He "lives" "[Z" ∈ wx_tbl) (d : decode cc pc = .ok (.getfield ix, 3)) (kk : Wg X ce sl h ls (.ref k2 :: st) (pc + 3)) : Wg X ce sl h ls (.ref k :: st) pc := fun q1 q2 H L la a b c => va_get (D := (xG X).1) (ci := 4) (v := vv (xG X) (.ref k2)) (C := R_He) (T := T_He) (N := 8) C.1 C.2.1 C.hts i_He C.own C.kn a k ((wl_get (xG X) h (kd_lt hk (by omega))).trans (by rw [e_He hk])) rfl 4 (by omega) (C.hts _ hl) (fun _ z => z) (by subst h2; rfl) d (kk q1 q2 H L la a b c)
theorem gf_He_newPlace (C : Cok X cc nL own ret) {k : Nat} {k2 : Nat} (h2 : k + 4 = k2) (hk : kd k = (4, 0)) {ix : Nat} (hl : Cond.fieldLink own ix R_He "newPlace" "[I" ∈ wx_tbl) (d : decode cc pc = .ok (.getfield ix, 3)) (kk : Wg X ce sl h ls (.ref k2 :: st) (pc + 3)) : Wg X ce sl h ls (.ref k :: st) pc := fun q1 q2 H L la a b c => va_get (D := (xG X).1) (ci := 4) (v := vv (xG X) (.ref k2)) (C := R_He) (T := T_He) (N := 8) C.1 C.2.1 C.hts i_He C.own C.kn a k ((wl_get (xG X) h (kd_lt hk (by omega))).trans (by rw [e_He hk])) rfl 5 (by omega) (C.hts _ hl) (fun _ z => z) (by subst h2; rfl) d (kk q1 q2 H L la a b c)
theorem gf_He_found (C : Cok X cc nL own ret) {k : Nat} {k2 : Nat} (h2 : k + 5 = k2) (hk : kd k = (4, 0)) {ix : Nat} (hl : Cond.fieldLink own ix R_He "found" "[I" ∈ wx_tbl) (d : decode cc pc = .ok (.getfield ix, 3)) (kk : Wg X ce sl h ls (.ref k2 :: st) (pc + 3)) : Wg X ce sl h ls (.ref k :: st) pc := fun q1 q2 H L la a b c => va_get (D := (xG X).1) (ci := 4) (v := vv (xG X) (.ref k2)) (C := R_He) (T := T_He) (N := 8) C.1 C.2.1 C.hts i_He C.own C.kn a k ((wl_get (xG X) h (kd_lt hk (by omega))).trans (by rw [e_He hk])) rfl 6 (by omega) (C.hts _ hl) (fun _ z => z) (by subst h2; rfl) d (kk q1 q2 H L la a b c)
theorem gf_He_foundCount (C : Cok X cc nL own ret) {k : Nat} (hk : kd k = (4, 0)) {ix : Nat} (hl : Cond.fieldLink own ix R_He "foundCount" "I" ∈ wx_tbl) (d : decode cc pc = .ok (.getfield ix, 3)) (kk : Wg X ce sl h ls (.int (h k 7) :: st) (pc + 3)) : Wg X ce sl h ls (.ref k :: st) pc := fun q1 q2 H L la a b c => va_get (D := (xG X).1) (ci := 4) (v := vv (xG X) (.int (h k 7))) (C := R_He) (T := T_He) (N := 8) C.1 C.2.1 C.hts i_He C.own C.kn a k ((wl_get (xG X) h (kd_lt hk (by omega))).trans (by rw [e_He hk])) rfl 7 (by omega) (C.hts _ hl) (fun _ z => z) rfl d (kk q1 q2 H L la a b c)
theorem pf_He_foundCount (C : Cok X cc nL own ret) {k : Nat} (hk : kd k = (4, 0)) {v : Int32} {ix : Nat} (hl : Cond.fieldLink own ix R_He "foundCount" "I" ∈ wx_tbl) (d : decode cc pc = .ok (.putfield ix, 3)) (kk : Wg X ce sl (up h k 7 v) ls st (pc + 3)) : Wg X ce sl h ls (.int v :: .ref k :: st) pc := fun q1 q2 H L la a b c => va_put (D := (xG X).1) (ci := 4) (v := .int v) (ty := .int) (C := R_He) (T := T_He) (N := 8) C.1 C.2.1 C.hts i_He t_He p_He n_He C.own C.kn a (wl_D C.gok h) b k ((wl_get (xG X) h (kd_lt hk (by omega))).trans (by rw [e_He hk])) rfl 7 (by omega) (C.hts _ hl) (fun _ z => z) rfl (by decide +kernel) rfl rfl (by show 7 < 8; omega) d (fun H2 L2 a2 _ b2 => kk q1 q2 H2 L2 la (by rw [wl_set (xG X) h (upd (h k) 7 v) (by rw [e_He hk]; simp [smap, vv, upd])] at a2; exact a2) b2 c)
theorem gf_Li_text (C : Cok X cc nL own ret) {k : Nat} {k2 : Nat} (h2 : k + 1 = k2) (hk : kd k = (5, 0)) {ix : Nat} (hl : Cond.fieldLink own ix R_Li "text" "[C" ∈ wx_tbl) (d : decode cc pc = .ok (.getfield ix, 3)) (kk : Wg X ce sl h ls (.ref k2 :: st) (pc + 3)) : Wg X ce sl h ls (.ref k :: st) pc := fun q1 q2 H L la a b c => va_get (D := (xG X).1) (ci := 5) (v := vv (xG X) (.ref k2)) (C := R_Li) (T := T_Li) (N := 2) C.1 C.2.1 C.hts i_Li C.own C.kn a k ((wl_get (xG X) h (kd_lt hk (by omega))).trans (by rw [e_Li hk])) rfl 0 (by omega) (C.hts _ hl) (fun _ z => z) (by subst h2; rfl) d (kk q1 q2 H L la a b c)
theorem gf_Li_length (C : Cok X cc nL own ret) {k : Nat} (hk : kd k = (5, 0)) {ix : Nat} (hl : Cond.fieldLink own ix R_Li "length" "I" ∈ wx_tbl) (d : decode cc pc = .ok (.getfield ix, 3)) (kk : Wg X ce sl h ls (.int (h k 1) :: st) (pc + 3)) : Wg X ce sl h ls (.ref k :: st) pc := fun q1 q2 H L la a b c => va_get (D := (xG X).1) (ci := 5) (v := vv (xG X) (.int (h k 1))) (C := R_Li) (T := T_Li) (N := 2) C.1 C.2.1 C.hts i_Li C.own C.kn a k ((wl_get (xG X) h (kd_lt hk (by omega))).trans (by rw [e_Li hk])) rfl 1 (by omega) (C.hts _ hl) (fun _ z => z) rfl d (kk q1 q2 H L la a b c)
theorem pf_Li_length (C : Cok X cc nL own ret) {k : Nat} (hk : kd k = (5, 0)) {v : Int32} {ix : Nat} (hl : Cond.fieldLink own ix R_Li "length" "I" ∈ wx_tbl) (d : decode cc pc = .ok (.putfield ix, 3)) (kk : Wg X ce sl (up h k 1 v) ls st (pc + 3)) : Wg X ce sl h ls (.int v :: .ref k :: st) pc := fun q1 q2 H L la a b c => va_put (D := (xG X).1) (ci := 5) (v := .int v) (ty := .int) (C := R_Li) (T := T_Li) (N := 2) C.1 C.2.1 C.hts i_Li t_Li p_Li n_Li C.own C.kn a (wl_D C.gok h) b k ((wl_get (xG X) h (kd_lt hk (by omega))).trans (by rw [e_Li hk])) rfl 1 (by omega) (C.hts _ hl) (fun _ z => z) rfl (by decide +kernel) rfl rfl (by show 1 < 2; omega) d (fun H2 L2 a2 _ b2 => kk q1 q2 H2 L2 la (by rw [wl_set (xG X) h (upd (h k) 1 v) (by rw [e_Li hk]; simp [smap, vv, upd])] at a2; exact a2) b2 c)
theorem gf_Pr_text (C : Cok X cc nL own ret) {k : Nat} {k2 : Nat} (h2 : k + 1 = k2) (hk : kd k = (6, 0)) {ix : Nat} (hl : Cond.fieldLink own ix R_Pr "text" "[C" ∈ wx_tbl) (d : decode cc pc = .ok (.getfield ix, 3)) (kk : Wg X ce sl h ls (.ref k2 :: st) (pc + 3)) : Wg X ce sl h ls (.ref k :: st) pc := fun q1 q2 H L la a b c => va_get (D := (xG X).1) (ci := 6) (v := vv (xG X) (.ref k2)) (C := R_Pr) (T := T_Pr) (N := 7) C.1 C.2.1 C.hts i_Pr C.own C.kn a k ((wl_get (xG X) h (kd_lt hk (by omega))).trans (by rw [e_Pr hk])) rfl 0 (by omega) (C.hts _ hl) (fun _ z => z) (by subst h2; rfl) d (kk q1 q2 H L la a b c)
theorem gf_Pr_length (C : Cok X cc nL own ret) {k : Nat} (hk : kd k = (6, 0)) {ix : Nat} (hl : Cond.fieldLink own ix R_Pr "length" "I" ∈ wx_tbl) (d : decode cc pc = .ok (.getfield ix, 3)) (kk : Wg X ce sl h ls (.int (h k 1) :: st) (pc + 3)) : Wg X ce sl h ls (.ref k :: st) pc := fun q1 q2 H L la a b c => va_get (D := (xG X).1) (ci := 6) (v := vv (xG X) (.int (h k 1))) (C := R_Pr) (T := T_Pr) (N := 7) C.1 C.2.1 C.hts i_Pr C.own C.kn a k ((wl_get (xG X) h (kd_lt hk (by omega))).trans (by rw [e_Pr hk])) rfl 1 (by omega) (C.hts _ hl) (fun _ z => z) rfl d (kk q1 q2 H L la a b c)
theorem pf_Pr_length (C : Cok X cc nL own ret) {k : Nat} (hk : kd k = (6, 0)) {v : Int32} {ix : Nat} (hl : Cond.fieldLink own ix R_Pr "length" "I" ∈ wx_tbl) (d : decode cc pc = .ok (.putfield ix, 3)) (kk : Wg X ce sl (up h k 1 v) ls st (pc + 3)) : Wg X ce sl h ls (.int v :: .ref k :: st) pc := fun q1 q2 H L la a b c => va_put (D := (xG X).1) (ci := 6) (v := .int v) (ty := .int) (C := R_Pr) (T := T_Pr) (N := 7) C.1 C.2.1 C.hts i_Pr t_Pr p_Pr n_Pr C.own C.kn a (wl_D C.gok h) b k ((wl_get (xG X) h (kd_lt hk (by omega))).trans (by rw [e_Pr hk])) rfl 1 (by omega) (C.hts _ hl) (fun _ z => z) rfl (by decide +kernel) rfl rfl (by show 1 < 7; omega) d (fun H2 L2 a2 _ b2 => kk q1 q2 H2 L2 la (by rw [wl_set (xG X) h (upd (h k) 1 v) (by rw [e_Pr hk]; simp [smap, vv, upd])] at a2; exact a2) b2 c)
theorem gf_Pr_overran (C : Cok X cc nL own ret) {k : Nat} (hk : kd k = (6, 0)) {ix : Nat} (hl : Cond.fieldLink own ix R_Pr "overran" "Z" ∈ wx_tbl) (d : decode cc pc = .ok (.getfield ix, 3)) (kk : Wg X ce sl h ls (.int (h k 2) :: st) (pc + 3)) : Wg X ce sl h ls (.ref k :: st) pc := fun q1 q2 H L la a b c => va_get (D := (xG X).1) (ci := 6) (v := vv (xG X) (.int (h k 2))) (C := R_Pr) (T := T_Pr) (N := 7) C.1 C.2.1 C.hts i_Pr C.own C.kn a k ((wl_get (xG X) h (kd_lt hk (by omega))).trans (by rw [e_Pr hk])) rfl 2 (by omega) (C.hts _ hl) (fun _ z => z) rfl d (kk q1 q2 H L la a b c)
theorem pf_Pr_overran (C : Cok X cc nL own ret) {k : Nat} (hk : kd k = (6, 0)) {v : Int32} (hb : v = 0 ∨ v = 1) {ix : Nat} (hl : Cond.fieldLink own ix R_Pr "overran" "Z" ∈ wx_tbl) (d : decode cc pc = .ok (.putfield ix, 3)) (kk : Wg X ce sl (up h k 2 v) ls st (pc + 3)) : Wg X ce sl h ls (.int v :: .ref k :: st) pc := fun q1 q2 H L la a b c => va_put (D := (xG X).1) (ci := 6) (v := .int v) (ty := .boolean) (C := R_Pr) (T := T_Pr) (N := 7) C.1 C.2.1 C.hts i_Pr t_Pr p_Pr n_Pr C.own C.kn a (wl_D C.gok h) b k ((wl_get (xG X) h (kd_lt hk (by omega))).trans (by rw [e_Pr hk])) rfl 2 (by omega) (C.hts _ hl) (fun _ z => z) rfl (by decide +kernel) (by rcases hb with rfl | rfl <;> rfl) (by rcases hb with rfl | rfl <;> rfl) (by show 2 < 7; omega) d (fun H2 L2 a2 _ b2 => kk q1 q2 H2 L2 la (by rw [wl_set (xG X) h (upd (h k) 2 v) (by rw [e_Pr hk]; simp [smap, vv, upd])] at a2; exact a2) b2 c)
theorem gf_Pr_rests (C : Cok X cc nL own ret) {k : Nat} {k2 : Nat} (h2 : k + 2 = k2) (hk : kd k = (6, 0)) {ix : Nat} (hl : Cond.fieldLink own ix R_Pr "rests" "[I" ∈ wx_tbl) (d : decode cc pc = .ok (.getfield ix, 3)) (kk : Wg X ce sl h ls (.ref k2 :: st) (pc + 3)) : Wg X ce sl h ls (.ref k :: st) pc := fun q1 q2 H L la a b c => va_get (D := (xG X).1) (ci := 6) (v := vv (xG X) (.ref k2)) (C := R_Pr) (T := T_Pr) (N := 7) C.1 C.2.1 C.hts i_Pr C.own C.kn a k ((wl_get (xG X) h (kd_lt hk (by omega))).trans (by rw [e_Pr hk])) rfl 3 (by omega) (C.hts _ hl) (fun _ z => z) (by subst h2; rfl) d (kk q1 q2 H L la a b c)
theorem gf_Pr_open (C : Cok X cc nL own ret) {k : Nat} (hk : kd k = (6, 0)) {ix : Nat} (hl : Cond.fieldLink own ix R_Pr "open" "I" ∈ wx_tbl) (d : decode cc pc = .ok (.getfield ix, 3)) (kk : Wg X ce sl h ls (.int (h k 4) :: st) (pc + 3)) : Wg X ce sl h ls (.ref k :: st) pc := fun q1 q2 H L la a b c => va_get (D := (xG X).1) (ci := 6) (v := vv (xG X) (.int (h k 4))) (C := R_Pr) (T := T_Pr) (N := 7) C.1 C.2.1 C.hts i_Pr C.own C.kn a k ((wl_get (xG X) h (kd_lt hk (by omega))).trans (by rw [e_Pr hk])) rfl 4 (by omega) (C.hts _ hl) (fun _ z => z) rfl d (kk q1 q2 H L la a b c)
theorem pf_Pr_open (C : Cok X cc nL own ret) {k : Nat} (hk : kd k = (6, 0)) {v : Int32} {ix : Nat} (hl : Cond.fieldLink own ix R_Pr "open" "I" ∈ wx_tbl) (d : decode cc pc = .ok (.putfield ix, 3)) (kk : Wg X ce sl (up h k 4 v) ls st (pc + 3)) : Wg X ce sl h ls (.int v :: .ref k :: st) pc := fun q1 q2 H L la a b c => va_put (D := (xG X).1) (ci := 6) (v := .int v) (ty := .int) (C := R_Pr) (T := T_Pr) (N := 7) C.1 C.2.1 C.hts i_Pr t_Pr p_Pr n_Pr C.own C.kn a (wl_D C.gok h) b k ((wl_get (xG X) h (kd_lt hk (by omega))).trans (by rw [e_Pr hk])) rfl 4 (by omega) (C.hts _ hl) (fun _ z => z) rfl (by decide +kernel) rfl rfl (by show 4 < 7; omega) d (fun H2 L2 a2 _ b2 => kk q1 q2 H2 L2 la (by rw [wl_set (xG X) h (upd (h k) 4 v) (by rw [e_Pr hk]; simp [smap, vv, upd])] at a2; exact a2) b2 c)
theorem gf_Pr_shrinking (C : Cok X cc nL own ret) {k : Nat} {k2 : Nat} (h2 : k + 3 = k2) (hk : kd k = (6, 0)) {ix : Nat} (hl : Cond.fieldLink own ix R_Pr "shrinking" "LCellHeap$Whole;" ∈ wx_tbl) (d : decode cc pc = .ok (.getfield ix, 3)) (kk : Wg X ce sl h ls (.ref k2 :: st) (pc + 3)) : Wg X ce sl h ls (.ref k :: st) pc := fun q1 q2 H L la a b c => va_get (D := (xG X).1) (ci := 6) (v := vv (xG X) (.ref k2)) (C := R_Pr) (T := T_Pr) (N := 7) C.1 C.2.1 C.hts i_Pr C.own C.kn a k ((wl_get (xG X) h (kd_lt hk (by omega))).trans (by rw [e_Pr hk])) rfl 5 (by omega) (C.hts _ hl) (fun _ z => z) (by subst h2; rfl) d (kk q1 q2 H L la a b c)
theorem gf_Pr_digits (C : Cok X cc nL own ret) {k : Nat} {k2 : Nat} (h2 : k + 5 = k2) (hk : kd k = (6, 0)) {ix : Nat} (hl : Cond.fieldLink own ix R_Pr "digits" "[C" ∈ wx_tbl) (d : decode cc pc = .ok (.getfield ix, 3)) (kk : Wg X ce sl h ls (.ref k2 :: st) (pc + 3)) : Wg X ce sl h ls (.ref k :: st) pc := fun q1 q2 H L la a b c => va_get (D := (xG X).1) (ci := 6) (v := vv (xG X) (.ref k2)) (C := R_Pr) (T := T_Pr) (N := 7) C.1 C.2.1 C.hts i_Pr C.own C.kn a k ((wl_get (xG X) h (kd_lt hk (by omega))).trans (by rw [e_Pr hk])) rfl 6 (by omega) (C.hts _ hl) (fun _ z => z) (by subst h2; rfl) d (kk q1 q2 H L la a b c)
theorem gf_Ce_heap (C : Cok X cc nL own ret) {k : Nat} {k2 : Nat} (h2 : k + 1 = k2) (hk : kd k = (7, 0)) {ix : Nat} (hl : Cond.fieldLink own ix R_Ce "heap" "LCellHeap$Heap;" ∈ wx_tbl) (d : decode cc pc = .ok (.getfield ix, 3)) (kk : Wg X ce sl h ls (.ref k2 :: st) (pc + 3)) : Wg X ce sl h ls (.ref k :: st) pc := fun q1 q2 H L la a b c => va_get (D := (xG X).1) (ci := 7) (v := vv (xG X) (.ref k2)) (C := R_Ce) (T := T_Ce) (N := 4) C.1 C.2.1 C.hts i_Ce C.own C.kn a k ((wl_get (xG X) h (kd_lt hk (by omega))).trans (by rw [e_Ce hk])) rfl 0 (by omega) (C.hts _ hl) (fun _ z => z) (by subst h2; rfl) d (kk q1 q2 H L la a b c)
theorem gf_Ce_line (C : Cok X cc nL own ret) {k : Nat} {k2 : Nat} (h2 : k + 7 = k2) (hk : kd k = (7, 0)) {ix : Nat} (hl : Cond.fieldLink own ix R_Ce "line" "LCellHeap$Line;" ∈ wx_tbl) (d : decode cc pc = .ok (.getfield ix, 3)) (kk : Wg X ce sl h ls (.ref k2 :: st) (pc + 3)) : Wg X ce sl h ls (.ref k :: st) pc := fun q1 q2 H L la a b c => va_get (D := (xG X).1) (ci := 7) (v := vv (xG X) (.ref k2)) (C := R_Ce) (T := T_Ce) (N := 4) C.1 C.2.1 C.hts i_Ce C.own C.kn a k ((wl_get (xG X) h (kd_lt hk (by omega))).trans (by rw [e_Ce hk])) rfl 1 (by omega) (C.hts _ hl) (fun _ z => z) (by subst h2; rfl) d (kk q1 q2 H L la a b c)
theorem gf_Ce_reckoner (C : Cok X cc nL own ret) {k : Nat} {k2 : Nat} (h2 : k + 9 = k2) (hk : kd k = (7, 0)) {ix : Nat} (hl : Cond.fieldLink own ix R_Ce "reckoner" "LCellHeap$Reckoner;" ∈ wx_tbl) (d : decode cc pc = .ok (.getfield ix, 3)) (kk : Wg X ce sl h ls (.ref k2 :: st) (pc + 3)) : Wg X ce sl h ls (.ref k :: st) pc := fun q1 q2 H L la a b c => va_get (D := (xG X).1) (ci := 7) (v := vv (xG X) (.ref k2)) (C := R_Ce) (T := T_Ce) (N := 4) C.1 C.2.1 C.hts i_Ce C.own C.kn a k ((wl_get (xG X) h (kd_lt hk (by omega))).trans (by rw [e_Ce hk])) rfl 2 (by omega) (C.hts _ hl) (fun _ z => z) (by subst h2; rfl) d (kk q1 q2 H L la a b c)
theorem gf_Ce_printer (C : Cok X cc nL own ret) {k : Nat} {k2 : Nat} (h2 : k + 38 = k2) (hk : kd k = (7, 0)) {ix : Nat} (hl : Cond.fieldLink own ix R_Ce "printer" "LCellHeap$Printer;" ∈ wx_tbl) (d : decode cc pc = .ok (.getfield ix, 3)) (kk : Wg X ce sl h ls (.ref k2 :: st) (pc + 3)) : Wg X ce sl h ls (.ref k :: st) pc := fun q1 q2 H L la a b c => va_get (D := (xG X).1) (ci := 7) (v := vv (xG X) (.ref k2)) (C := R_Ce) (T := T_Ce) (N := 4) C.1 C.2.1 C.hts i_Ce C.own C.kn a k ((wl_get (xG X) h (kd_lt hk (by omega))).trans (by rw [e_Ce hk])) rfl 3 (by omega) (C.hts _ hl) (fun _ z => z) (by subst h2; rfl) d (kk q1 q2 H L la a b c)
theorem gf_Mo_refusal (C : Cok X cc nL own ret) {k : Nat} (hk : kd k = (8, 0)) {ix : Nat} (hl : Cond.fieldLink own ix R_Mo "refusal" "I" ∈ wx_tbl) (d : decode cc pc = .ok (.getfield ix, 3)) (kk : Wg X ce sl h ls (.int (h k 0) :: st) (pc + 3)) : Wg X ce sl h ls (.ref k :: st) pc := fun q1 q2 H L la a b c => va_get (D := (xG X).1) (ci := 8) (v := vv (xG X) (.int (h k 0))) (C := R_Mo) (T := T_Mo) (N := 21) C.1 C.2.1 C.hts i_Mo C.own C.kn a k ((wl_get (xG X) h (kd_lt hk (by omega))).trans (by rw [e_Mo hk])) rfl 0 (by omega) (C.hts _ hl) (fun _ z => z) rfl d (kk q1 q2 H L la a b c)
theorem pf_Mo_refusal (C : Cok X cc nL own ret) {k : Nat} (hk : kd k = (8, 0)) {v : Int32} {ix : Nat} (hl : Cond.fieldLink own ix R_Mo "refusal" "I" ∈ wx_tbl) (d : decode cc pc = .ok (.putfield ix, 3)) (kk : Wg X ce sl (up h k 0 v) ls st (pc + 3)) : Wg X ce sl h ls (.int v :: .ref k :: st) pc := fun q1 q2 H L la a b c => va_put (D := (xG X).1) (ci := 8) (v := .int v) (ty := .int) (C := R_Mo) (T := T_Mo) (N := 21) C.1 C.2.1 C.hts i_Mo t_Mo p_Mo n_Mo C.own C.kn a (wl_D C.gok h) b k ((wl_get (xG X) h (kd_lt hk (by omega))).trans (by rw [e_Mo hk])) rfl 0 (by omega) (C.hts _ hl) (fun _ z => z) rfl (by decide +kernel) rfl rfl (by show 0 < 21; omega) d (fun H2 L2 a2 _ b2 => kk q1 q2 H2 L2 la (by rw [wl_set (xG X) h (upd (h k) 0 v) (by rw [e_Mo hk]; simp [smap, vv, upd])] at a2; exact a2) b2 c)
theorem gf_Mo_valueSort (C : Cok X cc nL own ret) {k : Nat} {k2 : Nat} (h2 : k + 1 = k2) (hk : kd k = (8, 0)) {ix : Nat} (hl : Cond.fieldLink own ix R_Mo "valueSort" "[I" ∈ wx_tbl) (d : decode cc pc = .ok (.getfield ix, 3)) (kk : Wg X ce sl h ls (.ref k2 :: st) (pc + 3)) : Wg X ce sl h ls (.ref k :: st) pc := fun q1 q2 H L la a b c => va_get (D := (xG X).1) (ci := 8) (v := vv (xG X) (.ref k2)) (C := R_Mo) (T := T_Mo) (N := 21) C.1 C.2.1 C.hts i_Mo C.own C.kn a k ((wl_get (xG X) h (kd_lt hk (by omega))).trans (by rw [e_Mo hk])) rfl 1 (by omega) (C.hts _ hl) (fun _ z => z) (by subst h2; rfl) d (kk q1 q2 H L la a b c)
theorem gf_Mo_valueOf (C : Cok X cc nL own ret) {k : Nat} {k2 : Nat} (h2 : k + 2 = k2) (hk : kd k = (8, 0)) {ix : Nat} (hl : Cond.fieldLink own ix R_Mo "valueOf" "[I" ∈ wx_tbl) (d : decode cc pc = .ok (.getfield ix, 3)) (kk : Wg X ce sl h ls (.ref k2 :: st) (pc + 3)) : Wg X ce sl h ls (.ref k :: st) pc := fun q1 q2 H L la a b c => va_get (D := (xG X).1) (ci := 8) (v := vv (xG X) (.ref k2)) (C := R_Mo) (T := T_Mo) (N := 21) C.1 C.2.1 C.hts i_Mo C.own C.kn a k ((wl_get (xG X) h (kd_lt hk (by omega))).trans (by rw [e_Mo hk])) rfl 2 (by omega) (C.hts _ hl) (fun _ z => z) (by subst h2; rfl) d (kk q1 q2 H L la a b c)
theorem gf_Mo_many (C : Cok X cc nL own ret) {k : Nat} (hk : kd k = (8, 0)) {ix : Nat} (hl : Cond.fieldLink own ix R_Mo "many" "I" ∈ wx_tbl) (d : decode cc pc = .ok (.getfield ix, 3)) (kk : Wg X ce sl h ls (.int (h k 3) :: st) (pc + 3)) : Wg X ce sl h ls (.ref k :: st) pc := fun q1 q2 H L la a b c => va_get (D := (xG X).1) (ci := 8) (v := vv (xG X) (.int (h k 3))) (C := R_Mo) (T := T_Mo) (N := 21) C.1 C.2.1 C.hts i_Mo C.own C.kn a k ((wl_get (xG X) h (kd_lt hk (by omega))).trans (by rw [e_Mo hk])) rfl 3 (by omega) (C.hts _ hl) (fun _ z => z) rfl d (kk q1 q2 H L la a b c)
theorem pf_Mo_many (C : Cok X cc nL own ret) {k : Nat} (hk : kd k = (8, 0)) {v : Int32} {ix : Nat} (hl : Cond.fieldLink own ix R_Mo "many" "I" ∈ wx_tbl) (d : decode cc pc = .ok (.putfield ix, 3)) (kk : Wg X ce sl (up h k 3 v) ls st (pc + 3)) : Wg X ce sl h ls (.int v :: .ref k :: st) pc := fun q1 q2 H L la a b c => va_put (D := (xG X).1) (ci := 8) (v := .int v) (ty := .int) (C := R_Mo) (T := T_Mo) (N := 21) C.1 C.2.1 C.hts i_Mo t_Mo p_Mo n_Mo C.own C.kn a (wl_D C.gok h) b k ((wl_get (xG X) h (kd_lt hk (by omega))).trans (by rw [e_Mo hk])) rfl 3 (by omega) (C.hts _ hl) (fun _ z => z) rfl (by decide +kernel) rfl rfl (by show 3 < 21; omega) d (fun H2 L2 a2 _ b2 => kk q1 q2 H2 L2 la (by rw [wl_set (xG X) h (upd (h k) 3 v) (by rw [e_Mo hk]; simp [smap, vv, upd])] at a2; exact a2) b2 c)
theorem gf_Mo_order (C : Cok X cc nL own ret) {k : Nat} {k2 : Nat} (h2 : k + 3 = k2) (hk : kd k = (8, 0)) {ix : Nat} (hl : Cond.fieldLink own ix R_Mo "order" "[I" ∈ wx_tbl) (d : decode cc pc = .ok (.getfield ix, 3)) (kk : Wg X ce sl h ls (.ref k2 :: st) (pc + 3)) : Wg X ce sl h ls (.ref k :: st) pc := fun q1 q2 H L la a b c => va_get (D := (xG X).1) (ci := 8) (v := vv (xG X) (.ref k2)) (C := R_Mo) (T := T_Mo) (N := 21) C.1 C.2.1 C.hts i_Mo C.own C.kn a k ((wl_get (xG X) h (kd_lt hk (by omega))).trans (by rw [e_Mo hk])) rfl 4 (by omega) (C.hts _ hl) (fun _ z => z) (by subst h2; rfl) d (kk q1 q2 H L la a b c)
theorem gf_Mo_sort (C : Cok X cc nL own ret) {k : Nat} {k2 : Nat} (h2 : k + 4 = k2) (hk : kd k = (8, 0)) {ix : Nat} (hl : Cond.fieldLink own ix R_Mo "sort" "[I" ∈ wx_tbl) (d : decode cc pc = .ok (.getfield ix, 3)) (kk : Wg X ce sl h ls (.ref k2 :: st) (pc + 3)) : Wg X ce sl h ls (.ref k :: st) pc := fun q1 q2 H L la a b c => va_get (D := (xG X).1) (ci := 8) (v := vv (xG X) (.ref k2)) (C := R_Mo) (T := T_Mo) (N := 21) C.1 C.2.1 C.hts i_Mo C.own C.kn a k ((wl_get (xG X) h (kd_lt hk (by omega))).trans (by rw [e_Mo hk])) rfl 5 (by omega) (C.hts _ hl) (fun _ z => z) (by subst h2; rfl) d (kk q1 q2 H L la a b c)
theorem gf_Mo_cells (C : Cok X cc nL own ret) {k : Nat} {k2 : Nat} (h2 : k + 5 = k2) (hk : kd k = (8, 0)) {ix : Nat} (hl : Cond.fieldLink own ix R_Mo "cells" "[I" ∈ wx_tbl) (d : decode cc pc = .ok (.getfield ix, 3)) (kk : Wg X ce sl h ls (.ref k2 :: st) (pc + 3)) : Wg X ce sl h ls (.ref k :: st) pc := fun q1 q2 H L la a b c => va_get (D := (xG X).1) (ci := 8) (v := vv (xG X) (.ref k2)) (C := R_Mo) (T := T_Mo) (N := 21) C.1 C.2.1 C.hts i_Mo C.own C.kn a k ((wl_get (xG X) h (kd_lt hk (by omega))).trans (by rw [e_Mo hk])) rfl 6 (by omega) (C.hts _ hl) (fun _ z => z) (by subst h2; rfl) d (kk q1 q2 H L la a b c)
theorem gf_Mo_isMarked (C : Cok X cc nL own ret) {k : Nat} {k2 : Nat} (h2 : k + 6 = k2) (hk : kd k = (8, 0)) {ix : Nat} (hl : Cond.fieldLink own ix R_Mo "isMarked" "[Z" ∈ wx_tbl) (d : decode cc pc = .ok (.getfield ix, 3)) (kk : Wg X ce sl h ls (.ref k2 :: st) (pc + 3)) : Wg X ce sl h ls (.ref k :: st) pc := fun q1 q2 H L la a b c => va_get (D := (xG X).1) (ci := 8) (v := vv (xG X) (.ref k2)) (C := R_Mo) (T := T_Mo) (N := 21) C.1 C.2.1 C.hts i_Mo C.own C.kn a k ((wl_get (xG X) h (kd_lt hk (by omega))).trans (by rw [e_Mo hk])) rfl 7 (by omega) (C.hts _ hl) (fun _ z => z) (by subst h2; rfl) d (kk q1 q2 H L la a b c)
theorem gf_Mo_pile (C : Cok X cc nL own ret) {k : Nat} {k2 : Nat} (h2 : k + 7 = k2) (hk : kd k = (8, 0)) {ix : Nat} (hl : Cond.fieldLink own ix R_Mo "pile" "[I" ∈ wx_tbl) (d : decode cc pc = .ok (.getfield ix, 3)) (kk : Wg X ce sl h ls (.ref k2 :: st) (pc + 3)) : Wg X ce sl h ls (.ref k :: st) pc := fun q1 q2 H L la a b c => va_get (D := (xG X).1) (ci := 8) (v := vv (xG X) (.ref k2)) (C := R_Mo) (T := T_Mo) (N := 21) C.1 C.2.1 C.hts i_Mo C.own C.kn a k ((wl_get (xG X) h (kd_lt hk (by omega))).trans (by rw [e_Mo hk])) rfl 8 (by omega) (C.hts _ hl) (fun _ z => z) (by subst h2; rfl) d (kk q1 q2 H L la a b c)
theorem gf_Mo_top (C : Cok X cc nL own ret) {k : Nat} (hk : kd k = (8, 0)) {ix : Nat} (hl : Cond.fieldLink own ix R_Mo "top" "I" ∈ wx_tbl) (d : decode cc pc = .ok (.getfield ix, 3)) (kk : Wg X ce sl h ls (.int (h k 9) :: st) (pc + 3)) : Wg X ce sl h ls (.ref k :: st) pc := fun q1 q2 H L la a b c => va_get (D := (xG X).1) (ci := 8) (v := vv (xG X) (.int (h k 9))) (C := R_Mo) (T := T_Mo) (N := 21) C.1 C.2.1 C.hts i_Mo C.own C.kn a k ((wl_get (xG X) h (kd_lt hk (by omega))).trans (by rw [e_Mo hk])) rfl 9 (by omega) (C.hts _ hl) (fun _ z => z) rfl d (kk q1 q2 H L la a b c)
theorem pf_Mo_top (C : Cok X cc nL own ret) {k : Nat} (hk : kd k = (8, 0)) {v : Int32} {ix : Nat} (hl : Cond.fieldLink own ix R_Mo "top" "I" ∈ wx_tbl) (d : decode cc pc = .ok (.putfield ix, 3)) (kk : Wg X ce sl (up h k 9 v) ls st (pc + 3)) : Wg X ce sl h ls (.int v :: .ref k :: st) pc := fun q1 q2 H L la a b c => va_put (D := (xG X).1) (ci := 8) (v := .int v) (ty := .int) (C := R_Mo) (T := T_Mo) (N := 21) C.1 C.2.1 C.hts i_Mo t_Mo p_Mo n_Mo C.own C.kn a (wl_D C.gok h) b k ((wl_get (xG X) h (kd_lt hk (by omega))).trans (by rw [e_Mo hk])) rfl 9 (by omega) (C.hts _ hl) (fun _ z => z) rfl (by decide +kernel) rfl rfl (by show 9 < 21; omega) d (fun H2 L2 a2 _ b2 => kk q1 q2 H2 L2 la (by rw [wl_set (xG X) h (upd (h k) 9 v) (by rw [e_Mo hk]; simp [smap, vv, upd])] at a2; exact a2) b2 c)
theorem gf_Mo_collections (C : Cok X cc nL own ret) {k : Nat} (hk : kd k = (8, 0)) {ix : Nat} (hl : Cond.fieldLink own ix R_Mo "collections" "I" ∈ wx_tbl) (d : decode cc pc = .ok (.getfield ix, 3)) (kk : Wg X ce sl h ls (.int (h k 10) :: st) (pc + 3)) : Wg X ce sl h ls (.ref k :: st) pc := fun q1 q2 H L la a b c => va_get (D := (xG X).1) (ci := 8) (v := vv (xG X) (.int (h k 10))) (C := R_Mo) (T := T_Mo) (N := 21) C.1 C.2.1 C.hts i_Mo C.own C.kn a k ((wl_get (xG X) h (kd_lt hk (by omega))).trans (by rw [e_Mo hk])) rfl 10 (by omega) (C.hts _ hl) (fun _ z => z) rfl d (kk q1 q2 H L la a b c)
theorem pf_Mo_collections (C : Cok X cc nL own ret) {k : Nat} (hk : kd k = (8, 0)) {v : Int32} {ix : Nat} (hl : Cond.fieldLink own ix R_Mo "collections" "I" ∈ wx_tbl) (d : decode cc pc = .ok (.putfield ix, 3)) (kk : Wg X ce sl (up h k 10 v) ls st (pc + 3)) : Wg X ce sl h ls (.int v :: .ref k :: st) pc := fun q1 q2 H L la a b c => va_put (D := (xG X).1) (ci := 8) (v := .int v) (ty := .int) (C := R_Mo) (T := T_Mo) (N := 21) C.1 C.2.1 C.hts i_Mo t_Mo p_Mo n_Mo C.own C.kn a (wl_D C.gok h) b k ((wl_get (xG X) h (kd_lt hk (by omega))).trans (by rw [e_Mo hk])) rfl 10 (by omega) (C.hts _ hl) (fun _ z => z) rfl (by decide +kernel) rfl rfl (by show 10 < 21; omega) d (fun H2 L2 a2 _ b2 => kk q1 q2 H2 L2 la (by rw [wl_set (xG X) h (upd (h k) 10 v) (by rw [e_Mo hk]; simp [smap, vv, upd])] at a2; exact a2) b2 c)
theorem gf_Mo_limb (C : Cok X cc nL own ret) {k : Nat} {k2 : Nat} (h2 : k + 8 = k2) (hk : kd k = (8, 0)) {ix : Nat} (hl : Cond.fieldLink own ix R_Mo "limb" "[I" ∈ wx_tbl) (d : decode cc pc = .ok (.getfield ix, 3)) (kk : Wg X ce sl h ls (.ref k2 :: st) (pc + 3)) : Wg X ce sl h ls (.ref k :: st) pc := fun q1 q2 H L la a b c => va_get (D := (xG X).1) (ci := 8) (v := vv (xG X) (.ref k2)) (C := R_Mo) (T := T_Mo) (N := 21) C.1 C.2.1 C.hts i_Mo C.own C.kn a k ((wl_get (xG X) h (kd_lt hk (by omega))).trans (by rw [e_Mo hk])) rfl 11 (by omega) (C.hts _ hl) (fun _ z => z) (by subst h2; rfl) d (kk q1 q2 H L la a b c)
theorem gf_Mo_length (C : Cok X cc nL own ret) {k : Nat} {k2 : Nat} (h2 : k + 9 = k2) (hk : kd k = (8, 0)) {ix : Nat} (hl : Cond.fieldLink own ix R_Mo "length" "[I" ∈ wx_tbl) (d : decode cc pc = .ok (.getfield ix, 3)) (kk : Wg X ce sl h ls (.ref k2 :: st) (pc + 3)) : Wg X ce sl h ls (.ref k :: st) pc := fun q1 q2 H L la a b c => va_get (D := (xG X).1) (ci := 8) (v := vv (xG X) (.ref k2)) (C := R_Mo) (T := T_Mo) (N := 21) C.1 C.2.1 C.hts i_Mo C.own C.kn a k ((wl_get (xG X) h (kd_lt hk (by omega))).trans (by rw [e_Mo hk])) rfl 12 (by omega) (C.hts _ hl) (fun _ z => z) (by subst h2; rfl) d (kk q1 q2 H L la a b c)
theorem gf_Mo_isBelow (C : Cok X cc nL own ret) {k : Nat} {k2 : Nat} (h2 : k + 10 = k2) (hk : kd k = (8, 0)) {ix : Nat} (hl : Cond.fieldLink own ix R_Mo "isBelow" "[Z" ∈ wx_tbl) (d : decode cc pc = .ok (.getfield ix, 3)) (kk : Wg X ce sl h ls (.ref k2 :: st) (pc + 3)) : Wg X ce sl h ls (.ref k :: st) pc := fun q1 q2 H L la a b c => va_get (D := (xG X).1) (ci := 8) (v := vv (xG X) (.ref k2)) (C := R_Mo) (T := T_Mo) (N := 21) C.1 C.2.1 C.hts i_Mo C.own C.kn a k ((wl_get (xG X) h (kd_lt hk (by omega))).trans (by rw [e_Mo hk])) rfl 13 (by omega) (C.hts _ hl) (fun _ z => z) (by subst h2; rfl) d (kk q1 q2 H L la a b c)
theorem gf_Mo_line (C : Cok X cc nL own ret) {k : Nat} {k2 : Nat} (h2 : k + 11 = k2) (hk : kd k = (8, 0)) {ix : Nat} (hl : Cond.fieldLink own ix R_Mo "line" "[C" ∈ wx_tbl) (d : decode cc pc = .ok (.getfield ix, 3)) (kk : Wg X ce sl h ls (.ref k2 :: st) (pc + 3)) : Wg X ce sl h ls (.ref k :: st) pc := fun q1 q2 H L la a b c => va_get (D := (xG X).1) (ci := 8) (v := vv (xG X) (.ref k2)) (C := R_Mo) (T := T_Mo) (N := 21) C.1 C.2.1 C.hts i_Mo C.own C.kn a k ((wl_get (xG X) h (kd_lt hk (by omega))).trans (by rw [e_Mo hk])) rfl 14 (by omega) (C.hts _ hl) (fun _ z => z) (by subst h2; rfl) d (kk q1 q2 H L la a b c)
theorem gf_Mo_lineSize (C : Cok X cc nL own ret) {k : Nat} (hk : kd k = (8, 0)) {ix : Nat} (hl : Cond.fieldLink own ix R_Mo "lineSize" "I" ∈ wx_tbl) (d : decode cc pc = .ok (.getfield ix, 3)) (kk : Wg X ce sl h ls (.int (h k 15) :: st) (pc + 3)) : Wg X ce sl h ls (.ref k :: st) pc := fun q1 q2 H L la a b c => va_get (D := (xG X).1) (ci := 8) (v := vv (xG X) (.int (h k 15))) (C := R_Mo) (T := T_Mo) (N := 21) C.1 C.2.1 C.hts i_Mo C.own C.kn a k ((wl_get (xG X) h (kd_lt hk (by omega))).trans (by rw [e_Mo hk])) rfl 15 (by omega) (C.hts _ hl) (fun _ z => z) rfl d (kk q1 q2 H L la a b c)
theorem pf_Mo_lineSize (C : Cok X cc nL own ret) {k : Nat} (hk : kd k = (8, 0)) {v : Int32} {ix : Nat} (hl : Cond.fieldLink own ix R_Mo "lineSize" "I" ∈ wx_tbl) (d : decode cc pc = .ok (.putfield ix, 3)) (kk : Wg X ce sl (up h k 15 v) ls st (pc + 3)) : Wg X ce sl h ls (.int v :: .ref k :: st) pc := fun q1 q2 H L la a b c => va_put (D := (xG X).1) (ci := 8) (v := .int v) (ty := .int) (C := R_Mo) (T := T_Mo) (N := 21) C.1 C.2.1 C.hts i_Mo t_Mo p_Mo n_Mo C.own C.kn a (wl_D C.gok h) b k ((wl_get (xG X) h (kd_lt hk (by omega))).trans (by rw [e_Mo hk])) rfl 15 (by omega) (C.hts _ hl) (fun _ z => z) rfl (by decide +kernel) rfl rfl (by show 15 < 21; omega) d (fun H2 L2 a2 _ b2 => kk q1 q2 H2 L2 la (by rw [wl_set (xG X) h (upd (h k) 15 v) (by rw [e_Mo hk]; simp [smap, vv, upd])] at a2; exact a2) b2 c)
theorem gf_Mo_out (C : Cok X cc nL own ret) {k : Nat} {k2 : Nat} (h2 : k + 12 = k2) (hk : kd k = (8, 0)) {ix : Nat} (hl : Cond.fieldLink own ix R_Mo "out" "[C" ∈ wx_tbl) (d : decode cc pc = .ok (.getfield ix, 3)) (kk : Wg X ce sl h ls (.ref k2 :: st) (pc + 3)) : Wg X ce sl h ls (.ref k :: st) pc := fun q1 q2 H L la a b c => va_get (D := (xG X).1) (ci := 8) (v := vv (xG X) (.ref k2)) (C := R_Mo) (T := T_Mo) (N := 21) C.1 C.2.1 C.hts i_Mo C.own C.kn a k ((wl_get (xG X) h (kd_lt hk (by omega))).trans (by rw [e_Mo hk])) rfl 16 (by omega) (C.hts _ hl) (fun _ z => z) (by subst h2; rfl) d (kk q1 q2 H L la a b c)
theorem gf_Mo_outSize (C : Cok X cc nL own ret) {k : Nat} (hk : kd k = (8, 0)) {ix : Nat} (hl : Cond.fieldLink own ix R_Mo "outSize" "I" ∈ wx_tbl) (d : decode cc pc = .ok (.getfield ix, 3)) (kk : Wg X ce sl h ls (.int (h k 17) :: st) (pc + 3)) : Wg X ce sl h ls (.ref k :: st) pc := fun q1 q2 H L la a b c => va_get (D := (xG X).1) (ci := 8) (v := vv (xG X) (.int (h k 17))) (C := R_Mo) (T := T_Mo) (N := 21) C.1 C.2.1 C.hts i_Mo C.own C.kn a k ((wl_get (xG X) h (kd_lt hk (by omega))).trans (by rw [e_Mo hk])) rfl 17 (by omega) (C.hts _ hl) (fun _ z => z) rfl d (kk q1 q2 H L la a b c)
theorem pf_Mo_outSize (C : Cok X cc nL own ret) {k : Nat} (hk : kd k = (8, 0)) {v : Int32} {ix : Nat} (hl : Cond.fieldLink own ix R_Mo "outSize" "I" ∈ wx_tbl) (d : decode cc pc = .ok (.putfield ix, 3)) (kk : Wg X ce sl (up h k 17 v) ls st (pc + 3)) : Wg X ce sl h ls (.int v :: .ref k :: st) pc := fun q1 q2 H L la a b c => va_put (D := (xG X).1) (ci := 8) (v := .int v) (ty := .int) (C := R_Mo) (T := T_Mo) (N := 21) C.1 C.2.1 C.hts i_Mo t_Mo p_Mo n_Mo C.own C.kn a (wl_D C.gok h) b k ((wl_get (xG X) h (kd_lt hk (by omega))).trans (by rw [e_Mo hk])) rfl 17 (by omega) (C.hts _ hl) (fun _ z => z) rfl (by decide +kernel) rfl rfl (by show 17 < 21; omega) d (fun H2 L2 a2 _ b2 => kk q1 q2 H2 L2 la (by rw [wl_set (xG X) h (upd (h k) 17 v) (by rw [e_Mo hk]; simp [smap, vv, upd])] at a2; exact a2) b2 c)
theorem gf_Mo_isFull (C : Cok X cc nL own ret) {k : Nat} (hk : kd k = (8, 0)) {ix : Nat} (hl : Cond.fieldLink own ix R_Mo "isFull" "Z" ∈ wx_tbl) (d : decode cc pc = .ok (.getfield ix, 3)) (kk : Wg X ce sl h ls (.int (h k 18) :: st) (pc + 3)) : Wg X ce sl h ls (.ref k :: st) pc := fun q1 q2 H L la a b c => va_get (D := (xG X).1) (ci := 8) (v := vv (xG X) (.int (h k 18))) (C := R_Mo) (T := T_Mo) (N := 21) C.1 C.2.1 C.hts i_Mo C.own C.kn a k ((wl_get (xG X) h (kd_lt hk (by omega))).trans (by rw [e_Mo hk])) rfl 18 (by omega) (C.hts _ hl) (fun _ z => z) rfl d (kk q1 q2 H L la a b c)
theorem pf_Mo_isFull (C : Cok X cc nL own ret) {k : Nat} (hk : kd k = (8, 0)) {v : Int32} (hb : v = 0 ∨ v = 1) {ix : Nat} (hl : Cond.fieldLink own ix R_Mo "isFull" "Z" ∈ wx_tbl) (d : decode cc pc = .ok (.putfield ix, 3)) (kk : Wg X ce sl (up h k 18 v) ls st (pc + 3)) : Wg X ce sl h ls (.int v :: .ref k :: st) pc := fun q1 q2 H L la a b c => va_put (D := (xG X).1) (ci := 8) (v := .int v) (ty := .boolean) (C := R_Mo) (T := T_Mo) (N := 21) C.1 C.2.1 C.hts i_Mo t_Mo p_Mo n_Mo C.own C.kn a (wl_D C.gok h) b k ((wl_get (xG X) h (kd_lt hk (by omega))).trans (by rw [e_Mo hk])) rfl 18 (by omega) (C.hts _ hl) (fun _ z => z) rfl (by decide +kernel) (by rcases hb with rfl | rfl <;> rfl) (by rcases hb with rfl | rfl <;> rfl) (by show 18 < 21; omega) d (fun H2 L2 a2 _ b2 => kk q1 q2 H2 L2 la (by rw [wl_set (xG X) h (upd (h k) 18 v) (by rw [e_Mo hk]; simp [smap, vv, upd])] at a2; exact a2) b2 c)
theorem gf_Mo_digits (C : Cok X cc nL own ret) {k : Nat} {k2 : Nat} (h2 : k + 13 = k2) (hk : kd k = (8, 0)) {ix : Nat} (hl : Cond.fieldLink own ix R_Mo "digits" "[I" ∈ wx_tbl) (d : decode cc pc = .ok (.getfield ix, 3)) (kk : Wg X ce sl h ls (.ref k2 :: st) (pc + 3)) : Wg X ce sl h ls (.ref k :: st) pc := fun q1 q2 H L la a b c => va_get (D := (xG X).1) (ci := 8) (v := vv (xG X) (.ref k2)) (C := R_Mo) (T := T_Mo) (N := 21) C.1 C.2.1 C.hts i_Mo C.own C.kn a k ((wl_get (xG X) h (kd_lt hk (by omega))).trans (by rw [e_Mo hk])) rfl 19 (by omega) (C.hts _ hl) (fun _ z => z) (by subst h2; rfl) d (kk q1 q2 H L la a b c)
theorem gf_Mo_at (C : Cok X cc nL own ret) {k : Nat} (hk : kd k = (8, 0)) {ix : Nat} (hl : Cond.fieldLink own ix R_Mo "at" "I" ∈ wx_tbl) (d : decode cc pc = .ok (.getfield ix, 3)) (kk : Wg X ce sl h ls (.int (h k 20) :: st) (pc + 3)) : Wg X ce sl h ls (.ref k :: st) pc := fun q1 q2 H L la a b c => va_get (D := (xG X).1) (ci := 8) (v := vv (xG X) (.int (h k 20))) (C := R_Mo) (T := T_Mo) (N := 21) C.1 C.2.1 C.hts i_Mo C.own C.kn a k ((wl_get (xG X) h (kd_lt hk (by omega))).trans (by rw [e_Mo hk])) rfl 20 (by omega) (C.hts _ hl) (fun _ z => z) rfl d (kk q1 q2 H L la a b c)
theorem pf_Mo_at (C : Cok X cc nL own ret) {k : Nat} (hk : kd k = (8, 0)) {v : Int32} {ix : Nat} (hl : Cond.fieldLink own ix R_Mo "at" "I" ∈ wx_tbl) (d : decode cc pc = .ok (.putfield ix, 3)) (kk : Wg X ce sl (up h k 20 v) ls st (pc + 3)) : Wg X ce sl h ls (.int v :: .ref k :: st) pc := fun q1 q2 H L la a b c => va_put (D := (xG X).1) (ci := 8) (v := .int v) (ty := .int) (C := R_Mo) (T := T_Mo) (N := 21) C.1 C.2.1 C.hts i_Mo t_Mo p_Mo n_Mo C.own C.kn a (wl_D C.gok h) b k ((wl_get (xG X) h (kd_lt hk (by omega))).trans (by rw [e_Mo hk])) rfl 20 (by omega) (C.hts _ hl) (fun _ z => z) rfl (by decide +kernel) rfl rfl (by show 20 < 21; omega) d (fun H2 L2 a2 _ b2 => kk q1 q2 H2 L2 la (by rw [wl_set (xG X) h (upd (h k) 20 v) (by rw [e_Mo hk]; simp [smap, vv, upd])] at a2; exact a2) b2 c)
theorem r_iald (C : Cok X cc nL own ret) {k n : Nat} (hk : kd k = (10, n)) {i : Int32} (hin : vp_in i n) (d : decode cc pc = .ok (.iaload, 1)) (kk : Wg X ce sl h ls (.int (h k i.toNatClampNeg) :: st) (pc + 1)) : Wg X ce sl h ls (.int i :: .ref k :: st) pc := fun q1 q2 H L la a b c => va_iald (D := (xG X).1) (f := h k) C.1 C.2.1 C.kn a k 0 ((wl_get (xG X) h (kd_lt hk (by omega))).trans (by rw [kd_arr (a := 0) hk (by omega)]; rfl)) rfl hin d (kk q1 q2 H L la a b c)
theorem r_iast (C : Cok X cc nL own ret) {k n : Nat} (hk : kd k = (10, n)) {i x : Int32} (hin : vp_in i n) (d : decode cc pc = .ok (.iastore, 1)) (kk : Wg X ce sl (up h k i.toNatClampNeg x) ls st (pc + 1)) : Wg X ce sl h ls (.int x :: .int i :: .ref k :: st) pc := fun q1 q2 H L la a b c => va_iast (D := (xG X).1) (f := h k) C.1 C.2.1 C.kn a (wl_D C.gok h) b k 0 ((wl_get (xG X) h (kd_lt hk (by omega))).trans (by rw [kd_arr (a := 0) hk (by omega)]; rfl)) rfl hin d (fun H2 L2 a2 _ b2 => kk q1 q2 H2 L2 la (by rw [wl_set (xG X) h (upd (h k) i.toNatClampNeg x) (by rw [kd_arr (a := 0) hk (by omega)]; rfl)] at a2; exact a2) b2 c)
theorem r_cald (C : Cok X cc nL own ret) {k n : Nat} (hk : kd k = (11, n)) {i : Int32} (hin : vp_in i n) (d : decode cc pc = .ok (.caload, 1)) (kk : Wg X ce sl h ls (.int (h k i.toNatClampNeg) :: st) (pc + 1)) : Wg X ce sl h ls (.int i :: .ref k :: st) pc := fun q1 q2 H L la a b c => va_cald (D := (xG X).1) (f := h k) C.1 C.2.1 C.kn a k 1 ((wl_get (xG X) h (kd_lt hk (by omega))).trans (by rw [kd_arr (a := 1) hk (by omega)]; rfl)) rfl hin d (kk q1 q2 H L la a b c)
theorem r_cast (C : Cok X cc nL own ret) {k n : Nat} (hk : kd k = (11, n)) {i x : Int32} (hin : vp_in i n) (d : decode cc pc = .ok (.castore, 1)) (kk : Wg X ce sl (up h k i.toNatClampNeg (vp_nar .char x)) ls st (pc + 1)) : Wg X ce sl h ls (.int x :: .int i :: .ref k :: st) pc := fun q1 q2 H L la a b c => va_cast (D := (xG X).1) (f := h k) C.1 C.2.1 C.kn a (wl_D C.gok h) b k 1 ((wl_get (xG X) h (kd_lt hk (by omega))).trans (by rw [kd_arr (a := 1) hk (by omega)]; rfl)) rfl hin d (fun H2 L2 a2 _ b2 => kk q1 q2 H2 L2 la (by rw [wl_set (xG X) h (upd (h k) i.toNatClampNeg (vp_nar .char x)) (by rw [kd_arr (a := 1) hk (by omega)]; rfl)] at a2; exact a2) b2 c)
theorem r_zald (C : Cok X cc nL own ret) {k n : Nat} (hk : kd k = (12, n)) {i : Int32} (hin : vp_in i n) (d : decode cc pc = .ok (.baload, 1)) (kk : Wg X ce sl h ls (.int (h k i.toNatClampNeg) :: st) (pc + 1)) : Wg X ce sl h ls (.int i :: .ref k :: st) pc := fun q1 q2 H L la a b c => va_zald (D := (xG X).1) (f := h k) C.1 C.2.1 C.kn a k 2 ((wl_get (xG X) h (kd_lt hk (by omega))).trans (by rw [kd_arr (a := 2) hk (by omega)]; rfl)) rfl hin d (kk q1 q2 H L la a b c)
theorem r_zast (C : Cok X cc nL own ret) {k n : Nat} (hk : kd k = (12, n)) {i x : Int32} (hin : vp_in i n) (d : decode cc pc = .ok (.bastore, 1)) (kk : Wg X ce sl (up h k i.toNatClampNeg (vp_nar .boolean x)) ls st (pc + 1)) : Wg X ce sl h ls (.int x :: .int i :: .ref k :: st) pc := fun q1 q2 H L la a b c => va_zast (D := (xG X).1) (f := h k) C.1 C.2.1 C.kn a (wl_D C.gok h) b k 2 ((wl_get (xG X) h (kd_lt hk (by omega))).trans (by rw [kd_arr (a := 2) hk (by omega)]; rfl)) rfl hin d (fun H2 L2 a2 _ b2 => kk q1 q2 H2 L2 la (by rw [wl_set (xG X) h (upd (h k) i.toNatClampNeg (vp_nar .boolean x)) (by rw [kd_arr (a := 2) hk (by omega)]; rfl)] at a2; exact a2) b2 c)
theorem r_lald (C : Cok X cc nL own ret) {k n : Nat} (hk : kd k = (13, n)) {i : Int32} (hin : vp_in i n) (d : decode cc pc = .ok (.laload, 1)) (kk : Wg X ce sl h ls (.long (h k i.toNatClampNeg).toInt64 :: st) (pc + 1)) : Wg X ce sl h ls (.int i :: .ref k :: st) pc := fun q1 q2 H L la a b c => va_lald (D := (xG X).1) (f := fun j => (h k j).toInt64) C.1 C.2.1 C.kn a k 3 ((wl_get (xG X) h (kd_lt hk (by omega))).trans (by rw [kd_arr (a := 3) hk (by omega)]; rfl)) rfl hin d (kk q1 q2 H L la a b c)
theorem r_last (C : Cok X cc nL own ret) {k n : Nat} (hk : kd k = (13, n)) {i x : Int32} (hin : vp_in i n) (d : decode cc pc = .ok (.lastore, 1)) (kk : Wg X ce sl (up h k i.toNatClampNeg x) ls st (pc + 1)) : Wg X ce sl h ls (.long x.toInt64 :: .int i :: .ref k :: st) pc := fun q1 q2 H L la a b c => va_last (D := (xG X).1) (f := fun j => (h k j).toInt64) C.1 C.2.1 C.kn a (wl_D C.gok h) b k 3 ((wl_get (xG X) h (kd_lt hk (by omega))).trans (by rw [kd_arr (a := 3) hk (by omega)]; rfl)) rfl hin d (fun H2 L2 a2 _ b2 => kk q1 q2 H2 L2 la (by
  rw [wl_set (xG X) h (upd (h k) i.toNatClampNeg x) (e := .inl ((xG X).2.2.1 3, n, .inr (.inl (vp_updL (fun j => (h k j).toInt64) i.toNatClampNeg x.toInt64)))) (by
    rw [kd_arr (a := 3) hk (by omega)]
    show Sum.inl ((xG X).2.2.1 3, n, Sum.inr (Sum.inl _)) = _
    congr 5
    funext j
    by_cases hj : j = i.toNatClampNeg <;> simp [upd, vp_updL, hj])] at a2
  exact a2) b2 c)
theorem r_alen_10 (C : Cok X cc nL own ret) {k n : Nat} (hk : kd k = (10, n)) (d : decode cc pc = .ok (.arraylength, 1)) (kk : Wg X ce sl h ls (.int (Int32.ofNat n) :: st) (pc + 1)) : Wg X ce sl h ls (.ref k :: st) pc := fun q1 q2 H L la a b c => va_alen (D := (xG X).1) (x := (n, .inl (h k))) C.1 C.2.1 C.kn a k 0 ((wl_get (xG X) h (kd_lt hk (by omega))).trans (by rw [kd_arr (a := 0) hk (by omega)]; rfl)) rfl rfl d (kk q1 q2 H L la a b c)
theorem r_alen_11 (C : Cok X cc nL own ret) {k n : Nat} (hk : kd k = (11, n)) (d : decode cc pc = .ok (.arraylength, 1)) (kk : Wg X ce sl h ls (.int (Int32.ofNat n) :: st) (pc + 1)) : Wg X ce sl h ls (.ref k :: st) pc := fun q1 q2 H L la a b c => va_alen (D := (xG X).1) (x := (n, .inl (h k))) C.1 C.2.1 C.kn a k 1 ((wl_get (xG X) h (kd_lt hk (by omega))).trans (by rw [kd_arr (a := 1) hk (by omega)]; rfl)) rfl rfl d (kk q1 q2 H L la a b c)
theorem r_alen_12 (C : Cok X cc nL own ret) {k n : Nat} (hk : kd k = (12, n)) (d : decode cc pc = .ok (.arraylength, 1)) (kk : Wg X ce sl h ls (.int (Int32.ofNat n) :: st) (pc + 1)) : Wg X ce sl h ls (.ref k :: st) pc := fun q1 q2 H L la a b c => va_alen (D := (xG X).1) (x := (n, .inl (h k))) C.1 C.2.1 C.kn a k 2 ((wl_get (xG X) h (kd_lt hk (by omega))).trans (by rw [kd_arr (a := 2) hk (by omega)]; rfl)) rfl rfl d (kk q1 q2 H L la a b c)
end FIELDS
end
section
/-! Contracts over the world, returns, calls. -/
def rml (lv mc ms : Nat) : Room := { frames := lv, cells := mc, slots := ms, locals := 40 * lv }
def Qw (G : WG) (Φ : Option Value → HP → Prop) : Array Value → State → Outcome → State → Prop := fun _ st oc t => (∃ (r : Option Value) (h2 : HP), oc = .returned (r.map (vv G)) ∧ Φ r h2 ∧ Wo G h2 t.heap) ∧ va_F (Ga G) st t
/-- a method, called with these arguments in this world, returns, and what it answers and leaves behind has Φ -/
def Can (y : MethodName) (cc : ByteArray) (nL : Nat) (ret : Option FieldType) (lv mc ms : Nat) (As : List Value) (h : HP) (Φ : Option Value → HP → Prop) : Prop :=
  ∀ (l : Launch) (G : WG), l.flags = flags0 → Gok G → Met l y (.code y cc nL ret :: wx_tbl) (rml lv mc ms) (va_Pc (smap G As) (Ws G h)) (Qw G Φ) mc ms (Ga G)
abbrev CanV (y : MethodName) (cc : ByteArray) (nL : Nat) (ret : Option FieldType) (lv mc ms : Nat) (As : List Value) (h : HP) (Φ : HP → Prop) : Prop := Can y cc nL ret lv mc ms As h (fun r h2 => r = none ∧ Φ h2)
abbrev CanI (y : MethodName) (cc : ByteArray) (nL : Nat) (ret : Option FieldType) (lv mc ms : Nat) (As : List Value) (h : HP) (Φ : Int32 → HP → Prop) : Prop := Can y cc nL ret lv mc ms As h (fun r h2 => ∃ v, r = some (.int v) ∧ Φ v h2)
abbrev CanL (y : MethodName) (cc : ByteArray) (nL : Nat) (ret : Option FieldType) (lv mc ms : Nat) (As : List Value) (h : HP) (Φ : Int64 → HP → Prop) : Prop := Can y cc nL ret lv mc ms As h (fun r h2 => ∃ v, r = some (.long v) ∧ Φ v h2)
theorem Can.mono {y : MethodName} {cc : ByteArray} {nL : Nat} {ret : Option FieldType} {lv mc ms : Nat} {As : List Value} {h : HP} {Φ Ψ : Option Value → HP → Prop} (k : Can y cc nL ret lv mc ms As h Φ) (i : ∀ r h2, Φ r h2 → Ψ r h2) : Can y cc nL ret lv mc ms As h Ψ := fun l G hf hg =>
  MetFree.mono (k l G hf hg) (fun _ _ z => z) (fun _ _ _ _ _ z => z) (fun a st o t _ z => by
    obtain ⟨⟨⟨r, h2, z1, z2, z3⟩, z4⟩, z5⟩ := z
    exact ⟨⟨⟨r, h2, z1, i r h2 z2, z3⟩, z4⟩, z5⟩)
theorem Can.monoV {y : MethodName} {cc : ByteArray} {nL : Nat} {ret : Option FieldType} {lv mc ms : Nat} {As : List Value} {h : HP} {Φ Ψ : HP → Prop} (k : CanV y cc nL ret lv mc ms As h Φ) (i : ∀ h2, Φ h2 → Ψ h2) : CanV y cc nL ret lv mc ms As h Ψ := Can.mono k (fun _ h2 z => ⟨z.1, i h2 z.2⟩)
theorem Can.monoI {y : MethodName} {cc : ByteArray} {nL : Nat} {ret : Option FieldType} {lv mc ms : Nat} {As : List Value} {h : HP} {Φ Ψ : Int32 → HP → Prop} (k : CanI y cc nL ret lv mc ms As h Φ) (i : ∀ v h2, Φ v h2 → Ψ v h2) : CanI y cc nL ret lv mc ms As h Ψ := Can.mono k (fun _ h2 z => by
  obtain ⟨v, z1, z2⟩ := z
  exact ⟨v, z1, i v h2 z2⟩)
theorem Can.monoL {y : MethodName} {cc : ByteArray} {nL : Nat} {ret : Option FieldType} {lv mc ms : Nat} {As : List Value} {h : HP} {Φ Ψ : Int64 → HP → Prop} (k : CanL y cc nL ret lv mc ms As h Φ) (i : ∀ v h2, Φ v h2 → Ψ v h2) : CanL y cc nL ret lv mc ms As h Ψ := Can.mono k (fun _ h2 z => by
  obtain ⟨v, z1, z2⟩ := z
  exact ⟨v, z1, i v h2 z2⟩)
/-- what a method owes at a return -/
def Qok (X : CX) (mc ms : Nat) (Φ : Option Value → HP → Prop) : Prop := ∀ (H : Heap) (L : List Loc) (g : JFrame), W (xp X) (xl X) (xe X) (xR X) (xs X) (xm X) (xa X) (xb X) (xt X) (xc X) H L mc ms (MQ (xb X) (Qw (xG X) Φ) (xa X) (xs X) mc ms (Ga (xG X))) g → W (xp X) (xl X) (xe X) (xR X) (xs X) (xm X) (xa X) (xb X) (xt X) (xc X) H L mc ms (xQ X) g
theorem args_map (G : WG) : ∀ (As : List Value) (n : Nat), lv_args n (smap G As) = lmap G (lv_args n As)
  | [], _ => rfl
  | v :: As, n => by
    show lv_args n (vv G v :: smap G As) = lmap G (lv_args n (v :: As))
    unfold lv_args
    rw [vv_cat]
    split <;> simp [lmap, args_map G As]
theorem Can.intro {y : MethodName} {cc : ByteArray} {nL : Nat} {ret : Option FieldType} {lv mc ms : Nat} {As : List Value} {h : HP} {Φ : Option Value → HP → Prop} (hy : plainName y.cls = true) (hn : ∀ G, (lg_sl (smap G As)).length ≤ nL)
    (body : ∀ X : CX, Cok X cc nL y.cls ret → xR X = rml lv mc ms → Qok X mc ms Φ → Wg X 0 0 h (lv_args 0 As) [] 0) : Can y cc nL ret lv mc ms As h Φ := by
  intro l G hf hg
  refine Met.ofW (cc := cc) (maxL := nL) (ret := ret) hy rfl ?_
  intro p e s m args below meth c s₁ B hml hv
  obtain ⟨rfl, hWo, hK, hb, hZ⟩ := hv
  have hts := atoms_spec (ws := Cond.code y cc nL ret :: wx_tbl) B.pre
  have C : Cok (p, l, e, rml lv mc ms, s, m, (smap G As).toArray, below, meth, c, MQ below (Qw G Φ) (smap G As).toArray s mc ms (Ga G), G) cc nL y.cls ret := ⟨B.exec, B.bytes, hml, findClass_of_methodNamed B.named, fun w hw => hts w (List.mem_cons_of_mem _ hw), B.notSynchronized, B.returns, hf, hg, hK, hb, hZ⟩
  have hl := lv_entry (smap G As) (n := nL) (hn G)
  rw [args_map] at hl
  rw [lg_entry_eq]
  exact body _ C rfl (fun H L g k => k) (Nat.zero_le _) (Nat.zero_le _) s.heap [] _ hWo va_S.rf (by rw [show (xc (p, l, e, rml lv mc ms, s, m, (smap G As).toArray, below, meth, c, MQ below (Qw G Φ) (smap G As).toArray s mc ms (Ga G), G)).maxLocals = nL from hml]; exact hl)
section RETS
variable {X : CX} {mc ms : Nat} {h : HP} {ls : List (Nat × Value)} {pc nL : Nat} {cc : ByteArray} {own : String} {Φ : Option Value → HP → Prop}
theorem q_end {H : Heap} {L : List Loc} {r : Option Value} (hΦ : Φ r h) (a : Wo (xG X) h H) (b : va_S (Ga (xG X)) (xs X).heap H L) : ∀ t : State, t.heap = H → (xs X).WarmedH t.vm → Qw (xG X) Φ (xa X) (xs X) (.returned (r.map (vv (xG X)))) t := fun t ht _ => ⟨⟨r, h, rfl, hΦ, by rw [ht]; exact a⟩, b.F ht⟩
theorem q_iret (C : Cok X cc nL own (some .int)) (Q : Qok X mc ms Φ) {v : Int32} (d : decode cc pc = .ok (.ireturn, 1)) (hΦ : Φ (some (.int v)) h) : Wg X mc ms h ls [.int v] pc := fun _ _ H L la a b c => Q H L _ (W.iret C.1 C.2.1 C.ret (q_end hΦ a b) b.2.2 d C.locks)
theorem q_lret (C : Cok X cc nL own (some .long)) (Q : Qok X mc ms Φ) {v : Int64} (d : decode cc pc = .ok (.lreturn, 1)) (hΦ : Φ (some (.long v)) h) : Wg X mc ms h ls [.long v] pc := fun _ _ H L la a b c => Q H L _ (W.lret C.1 C.2.1 C.ret (q_end hΦ a b) b.2.2 d C.locks)
theorem q_vret (C : Cok X cc nL own none) (Q : Qok X mc ms Φ) (d : decode cc pc = .ok (.return_, 1)) (hΦ : Φ none h) : Wg X mc ms h ls [] pc := fun _ _ H L la a b c => Q H L _ (W.vret C.1 C.2.1 C.ret (q_end hΦ a b) b.2.2 d C.locks)
theorem q_zret (C : Cok X cc nL own (some .boolean)) (Q : Qok X mc ms Φ) {v : Int32} (hb : v = 0 ∨ v = 1) (d : decode cc pc = .ok (.ireturn, 1)) (hΦ : Φ (some (.int v)) h) : Wg X mc ms h ls [.int v] pc := fun _ _ H L la a b c => Q H L _ (W.zret C.1 C.2.1 C.ret (by rcases hb with rfl | rfl <;> rfl) (q_end hΦ a b) b.2.2 d C.locks)
theorem q_cret (C : Cok X cc nL own (some .char)) (Q : Qok X mc ms Φ) {v : Int32} (hb : vp_nar .char v = v) (d : decode cc pc = .ok (.ireturn, 1)) (hΦ : Φ (some (.int v)) h) : Wg X mc ms h ls [.int v] pc := fun _ _ H L la a b c => Q H L _ (W.zret C.1 C.2.1 C.ret (congrArg Value.int hb) (q_end hΦ a b) b.2.2 d C.locks)
end RETS
/-- what the tables say of a method that is called -/
def Ms (y : MethodName) (cc : ByteArray) (nL : Nat) (ret : Option FieldType) (n : Nat) : Prop := Cond.code y cc nL ret ∈ wx_tbl ∧ Cond.static y ∈ wx_tbl ∧ Cond.initialized y.cls ∈ wx_tbl ∧ (y.cls ≠ "java/lang/invoke/MethodHandle" ∧ y.cls ≠ "java/lang/invoke/VarHandle" ∧ (parseMethodDescriptor y.desc).map (fun d => d.parameters.length) = some n) ∧ nL ≤ 21
def Mv (y : MethodName) (cc : ByteArray) (nL : Nat) (ret : Option FieldType) (n ci : Nat) : Prop := Cond.code y cc nL ret ∈ wx_tbl ∧ Cond.instanceMethod y ∈ wx_tbl ∧ Cond.selects y.cls y y ∈ wx_tbl ∧ Cond.initialized y.cls ∈ wx_tbl ∧ (y.cls ≠ "java/lang/invoke/MethodHandle" ∧ y.cls ≠ "java/lang/invoke/VarHandle" ∧ (parseMethodDescriptor y.desc).map (fun d => d.parameters.length) = some n) ∧ nL ≤ 21 ∧ ci < 9 ∧ ∃ T N, wcl[ci]? = some (y.cls, T, N)
theorem rml_ok {R : Room} {lv lvc mc ms mc2 ms2 nL : Nat} (Rm : R = rml lv mc ms) (hlv : lvc < lv) (hn : nL ≤ 21) : (rml lvc mc2 ms2).frames + 1 ≤ R.frames ∧ 8 + (nL + 11) + (rml lvc mc2 ms2).locals ≤ R.locals := by
  subst Rm
  show lvc + 1 ≤ lv ∧ 8 + (nL + 11) + 40 * lvc ≤ 40 * lv
  omega
theorem Ws_at {X : CX} {cc : ByteArray} {nL : Nat} {own : String} {ret : Option FieldType} (C : Cok X cc nL own ret) {h : HP} {H : Heap} {L : List Loc} (a : Wo (xG X) h H) (b : va_S (Ga (xG X)) (xs X).heap H L) (U : State) (hU : U.heap = H) (hW : (xs X).WarmedH U.vm) : Ws (xG X) h U := by
  have hz := C.zq
  have hk : ∀ a0 : Nat, a0 < (xs X).heap.size → ¬ Ga (xG X) a0 → U.heap[a0]? = (xs X).heap[a0]? := fun a0 h1 h2 => by rw [hU]; exact b.2.1 a0 h1 h2
  refine ⟨by rw [hU]; exact a, va_K.moved hW.alike C.kn, Nat.le_trans C.base (by rw [hU]; exact b.1), ?_, ?_⟩
  · exact vx_Zq.moved hW.alike (vx_Zq.kept hz.1 hk)
  · exact vx_Zq.moved hW.alike (vx_Zq.kept hz.2 hk)
theorem Ws_blind (G : WG) (h : HP) (As : List Value) : FrameBlind (va_Pc As (Ws G h)) := fun a U g mk q => by
  obtain ⟨q0, q1, q2, q3, q4⟩ := q
  exact ⟨q0, q1, va_K.moved (u := U) (U := U.calling g mk a) (Vm.Alike.refl U.vm) q2, q3, vx_Zq.moved (u := U) (U := U.calling g mk a) (Vm.Alike.refl U.vm) q4.1, vx_Zq.moved (u := U) (U := U.calling g mk a) (Vm.Alike.refl U.vm) q4.2⟩
theorem w_call {p : Program} {l : Launch} {e : Env} {R : Room} {s : State} {m : MethodId} {args : Array Value} {below : List Frame} {meth : Method} {c : Code} {H : Heap} {L : List Loc} {ce sl mc ms : Nat} {Q : State → Prop} {pc : Nat} {la : Array Slot} {st0 rest : List Value} {a : Array Value} {G : WG} {Φ : Option Value → HP → Prop}
    (hr : va_Run p l e R s m args below meth c H L ce sl mc ms (F0 m pc la st0) rest (Qw G Φ a) (Ga G)) (hS : va_S (Ga G) s.heap H L)
    (kk : ∀ (r : Option Value) (h2 : HP) (H1 : Heap) (L1 : List Loc), Φ r h2 → Wo G h2 H1 → va_S (Ga G) s.heap H1 L1 → W p l e R s m args below meth c H1 L1 (ce + mc) (sl + ms) Q (F0 m (pc + 3) la ((r.map (vv G)).toList ++ rest))) : W p l e R s m args below meth c H L ce sl Q (F0 m pc la st0) := by
  intro T hT X
  obtain ⟨v, st₀, t, T', L2, h0, X', hL, e1, e2, ⟨⟨r, h2, hv, hp, hb⟩, hz, hk⟩, st⟩ := hr T hT X
  cases hv
  rw [h0] at hz hk
  obtain ⟨t2, a1, b1⟩ := kk r h2 T'.heap (L ++ L2) hp (by rw [e1]; exact hb)
    ⟨Nat.le_trans hS.1 (by rw [e1]; exact hz), fun q h1 h2 => by rw [e1, hk q (Nat.lt_of_lt_of_le h1 hS.1) h2]; exact hS.2.1 q h1 h2, fun q hq => by
      rcases List.mem_append.mp hq with h | h
      · exact hS.2.2 q h
      · exact hL q h⟩ T' rfl X'
  exact ⟨t2, st t2 a1, b1⟩
theorem smap_opt (G : WG) (r : Option Value) (st : List Value) : (r.map (vv G)).toList ++ smap G st = smap G (r.toList ++ st) := by cases r <;> rfl
theorem smap_rev (G : WG) (As st : List Value) : smap G (As.reverse ++ st) = (smap G As).reverse ++ smap G st := by simp [smap]
section CALLS
variable {X : CX} {ce sl : Nat} {h : HP} {ls : List (Nat × Value)} {st : List Value} {pc nL lv mc ms : Nat} {cc : ByteArray} {own : String} {ret : Option FieldType}
variable {y : MethodName} {yb : ByteArray} {ynL lvc mcc msc n ci : Nat} {yret : Option FieldType} {As : List Value} {b : Nat}
theorem kd_ent {k c : Nat} (hk : kd k = (c, 0)) (hc : c < 9) (G : WG) (f : Nat → Int32) : ∃ fs, w_ent G f k = .inr (c, fs) := by
  match c, hc with
  | 0, _ => exact ⟨_, e_Wh hk G f⟩
  | 1, _ => exact ⟨_, e_Ra hk G f⟩
  | 2, _ => exact ⟨_, e_Di hk G f⟩
  | 3, _ => exact ⟨_, e_Re hk G f⟩
  | 4, _ => exact ⟨_, e_He hk G f⟩
  | 5, _ => exact ⟨_, e_Li hk G f⟩
  | 6, _ => exact ⟨_, e_Pr hk G f⟩
  | 7, _ => exact ⟨_, e_Ce hk G f⟩
  | 8, _ => exact ⟨_, e_Mo hk G f⟩
theorem w_recv (C : Cok X cc nL own ret) {H : Heap} (a : Wo (xG X) h H) (hk : kd b = (ci, 0)) (hci : ci < 9) {Cn : String} {T : u_T} {N : Nat} (hc : wcl[ci]? = some (Cn, T, N)) : ∃ cell : Cell, H[(xG X).2.1 b]? = some cell ∧ cell.vm.isStatics = false ∧ (xs X).vm.findClass Cn = some cell.cls := by
  obtain ⟨fs, hfs⟩ := kd_ent hk hci (xG X) (h b)
  exact va_recv C.kn a hc (q0 := b) (fs := fs) (by rw [wl_get _ _ (kd_lt hk (by omega)), hfs])
theorem r_callV (C : Cok X cc nL own ret) (Rm : xR X = rml lv mc ms) (M : Mv y yb ynL yret n ci) (hn : As.length = n) {ix : Nat} (hlk : Cond.methodLink own ix y ∈ wx_tbl) (hk : kd b = (ci, 0)) (hlv : lvc < lv) (hst : (st.map fun v => v.category).sum ≤ 8) (hmc : ce + mcc ≤ mc ∧ sl + msc ≤ ms) (d : decode cc pc = .ok (.invokevirtual ix, 3))
    (hM : Can y yb ynL yret lvc mcc msc (.ref b :: As) h (fun r h2 => Wg X (ce + mcc) (sl + msc) h2 ls (r.toList ++ st) (pc + 3))) : Wg X ce sl h ls (As.reverse ++ .ref b :: st) pc := by
  intro q1 q2 H L la a b2 c
  obtain ⟨m1, m2, m3, m4, m5, m6, m7, T, N, m8⟩ := M
  have hR := rml_ok (nL := ynL) (mc2 := mcc) (ms2 := msc) Rm hlv m6
  have hcw : CallW (xR X) (xs X) (xa X) own y.cls ix y yb ynL yret (.code y yb ynL yret :: wx_tbl) (rml lvc mcc msc) mcc msc n := cwV n C.hts (wx_goodIn (fun w hw => by
    unfold wsV at hw
    simp only [List.cons_append, List.nil_append, List.mem_cons] at hw
    rcases hw with rfl | rfl | rfl | rfl | rfl | hw <;> assumption)) rfl rfl rfl ⟨rfl, m5⟩ hR
  have hPre : PreV (xs X) H y.cls ((xG X).2.1 b) (va_Pc (smap (xG X) (.ref b :: As)) (Ws (xG X) h)) (smap (xG X) As) := ⟨Ws_blind _ _ _, w_recv C a hk m7 m8, fun U hU hW => ⟨rfl, Ws_at C a b2 U hU hW⟩⟩
  rw [smap_rev]
  refine w_call (va_runV (As := smap (xG X) As) (rest := smap (xG X) st) ⟨C.exec, C.code, C.nloc, C.own, C.hts⟩ (hM _ _ C.flags C.gok) hcw hPre rfl (by simp [smap, hn]) (by rw [← C.nloc]; exact c.1) rfl (lv_room (by rw [smap_cat]; exact hst)) d (by rw [Rm]; exact hmc)) b2 (fun r h2 H1 L1 z1 z2 z3 => ?_)
  rw [smap_opt]
  exact z1 (by rw [Rm]; exact hmc.1) (by rw [Rm]; exact hmc.2) H1 L1 la z2 z3 c
theorem r_callS (C : Cok X cc nL own ret) (Rm : xR X = rml lv mc ms) (M : Ms y yb ynL yret n) (hn : As.length = n) {ix : Nat} (hlk : Cond.methodLink own ix y ∈ wx_tbl) (hlv : lvc < lv) (hst : (st.map fun v => v.category).sum ≤ 8) (hmc : ce + mcc ≤ mc ∧ sl + msc ≤ ms) (d : decode cc pc = .ok (.invokestatic ix, 3))
    (hM : Can y yb ynL yret lvc mcc msc As h (fun r h2 => Wg X (ce + mcc) (sl + msc) h2 ls (r.toList ++ st) (pc + 3))) : Wg X ce sl h ls (As.reverse ++ st) pc := by
  intro q1 q2 H L la a b2 c
  obtain ⟨m1, m2, m4, m5, m6⟩ := M
  have hR := rml_ok (nL := ynL) (mc2 := mcc) (ms2 := msc) Rm hlv m6
  have hcw : CallB (xR X) (xs X) (xa X) own ix y yb ynL yret (.code y yb ynL yret :: wx_tbl) (rml lvc mcc msc) mcc msc n ∧ (Cond.static y).before (xa X) (xs X) = true := va_cwS n C.hts (wx_goodIn (fun w hw => by
    unfold va_wsS at hw
    simp only [List.cons_append, List.nil_append, List.mem_cons] at hw
    rcases hw with rfl | rfl | rfl | rfl | hw <;> assumption)) rfl rfl rfl m5 hR
  have hPre : PreS (xs X) H (va_Pc (smap (xG X) As) (Ws (xG X) h)) (smap (xG X) As) := ⟨Ws_blind _ _ _, fun U hU hW => ⟨rfl, Ws_at C a b2 U hU hW⟩⟩
  rw [smap_rev]
  refine w_call (va_runS (As := smap (xG X) As) (rest := smap (xG X) st) ⟨C.exec, C.code, C.nloc, C.own, C.hts⟩ (hM _ _ C.flags C.gok) hcw hPre rfl (by simp [smap, hn]) (by rw [← C.nloc]; exact c.1) rfl (lv_room (by rw [smap_cat]; exact hst)) d (by rw [Rm]; exact hmc)) b2 (fun r h2 H1 L1 z1 z2 z3 => ?_)
  rw [smap_opt]
  exact z1 (by rw [Rm]; exact hmc.1) (by rw [Rm]; exact hmc.2) H1 L1 la z2 z3 c
end CALLS
end
section
/-! System.arraycopy between int arrays of the world. -/
def cp_in (sp n : Int32) (N : Nat) : Prop := ¬ sp < 0 ∧ ¬ n < 0 ∧ sp.toNatClampNeg + n.toNatClampNeg ≤ N
theorem r_copy {X : CX} {ce sl : Nat} {h : HP} {ls : List (Nat × Value)} {st : List Value} {pc nL lv mc ms : Nat} {cc : ByteArray} {own : String} {ret : Option FieldType} (C : Cok X cc nL own ret) (Rm : xR X = rml lv mc ms) (hlv : 2 ≤ lv) {ix : Nat} (hlk : Cond.methodLink own ix arraycopyName ∈ wx_tbl) {k0 k1 n0 n1 : Nat} (hk0 : kd k0 = (10, n0)) (hk1 : kd k1 = (10, n1)) {sp dp n : Int32} (h1 : cp_in sp n n0) (h2 : cp_in dp n n1) (hst : (st.map fun v => v.category).sum ≤ 8) (d : decode cc pc = .ok (.invokestatic ix, 3))
    (kk : Wg X ce sl (hs h k1 (va_cpy (h k0) (h k1) sp.toNatClampNeg dp.toNatClampNeg n.toNatClampNeg)) ls st (pc + 3)) : Wg X ce sl h ls (.int n :: .int dp :: .ref k1 :: .int sp :: .ref k0 :: st) pc := fun q1 q2 H L la a b c =>
  va_copyi (D := (xG X).1) (f := h k0) (g := h k1) (ty := .int) C.1 C.2.1 c.1.symm C.own (C.hts _ hlk) (C.hts _ (wx_in (w := .native arraycopyName) 353 (by decide +kernel) rfl)) (C.hts _ (wx_in (w := .static arraycopyName) 352 (by decide +kernel) rfl)) (C.hts _ (wx_in (w := .initialized "java/lang/System") 78 (by decide +kernel) rfl)) C.kn a (wl_D C.gok h) b k0 k1 0 0
    ((wl_get (xG X) h (kd_lt hk0 (by omega))).trans (by rw [kd_arr (a := 0) hk0 (by omega)]; rfl)) ((wl_get (xG X) h (kd_lt hk1 (by omega))).trans (by rw [kd_arr (a := 0) hk1 (by omega)]; rfl)) rfl rfl rfl h1.1 h2.1 h1.2.1 h1.2.2 h2.2.2 (fun _ _ => rfl) (by rw [Rm]; show 1 ≤ lv; omega)
    (by
      have e := smap_cat (xG X) st
      unfold smap at e
      rw [Rm, e]
      show _ + (7 + 11) ≤ 40 * lv
      omega) d (fun H2 L2 a2 _ b2 => kk q1 q2 H2 L2 la (by rw [wl_set (xG X) h (va_cpy (h k0) (h k1) sp.toNatClampNeg dp.toNatClampNeg n.toNatClampNeg) (by rw [kd_arr (a := 0) hk1 (by omega)]; rfl)] at a2; exact a2) b2 c)
abbrev R_Integer : String := "java/lang/Integer"
abbrev R_Math : String := "java/lang/Math"
abbrev R_Arrays : String := "java/util/Arrays"
theorem r_max {X : CX} {ce sl : Nat} {h : HP} {ls : List (Nat × Value)} {st : List Value} {pc nL lv mc ms : Nat} {cc : ByteArray} {own : String} {ret : Option FieldType} (C : Cok X cc nL own ret) (Rm : xR X = rml lv mc ms) (hlv : 1 ≤ lv) {ix : Nat} (hlk : Cond.methodLink own ix Lib.Math.max.name ∈ wx_tbl) {x y : Int32} (hst : (st.map fun v => v.category).sum ≤ 8) (d : decode cc pc = .ok (.invokestatic ix, 3))
    (kk : Wg X ce sl h ls (.int (if x < y then y else x) :: st) (pc + 3)) : Wg X ce sl h ls (.int y :: .int x :: st) pc := fun q1 q2 H L la a b c =>
  va_mmax C.1 C.2.1 c.1.symm C.own (C.hts _ hlk) (C.hts _ (wx_in (w := .static Lib.Math.max.name) 714 (by decide +kernel) rfl)) (C.hts _ (wx_in (w := .initialized "java/lang/Math") 87 (by decide +kernel) rfl)) (C.hts _ (wx_in (w := .code Lib.Math.max.name Lib.Math.max.code 2 (some .int)) 715 (by decide +kernel) rfl)) (by rw [Rm]; show 1 ≤ lv; omega)
    (by
      have e := smap_cat (xG X) st
      unfold smap at e
      rw [Rm, e]
      show _ + 13 ≤ 40 * lv
      omega) q1 q2 d (kk q1 q2 H L la a b c)
end
section

theorem k_105 : (Jvm.Cond.fieldLink "CellHeap$Whole" (9 : Nat) "CellHeap$Whole" "words" "[I") ∈ wx_tbl := wx_in 169 (by decide +kernel) rfl
theorem k_109 : (Jvm.Cond.fieldLink "CellHeap$Whole" (29 : Nat) "CellHeap$Whole" "length" "I") ∈ wx_tbl := wx_in 173 (by decide +kernel) rfl
theorem k_112 : (Jvm.Cond.fieldLink "CellHeap$Whole" (15 : Nat) "CellHeap$Whole" "below" "Z") ∈ wx_tbl := wx_in 176 (by decide +kernel) rfl
theorem k_382 : (Jvm.Cond.methodLink "CellHeap$Whole" (19 : Nat) ({ cls := "CellHeap$Whole", name := "trim", desc := "(I)V" } : Jvm.MethodName)) ∈ wx_tbl := wx_in 446 (by decide +kernel) rfl
theorem k_404 : (Jvm.Cond.constant "CellHeap$Whole" (37 : Nat) (1073741824 : Int32)) ∈ wx_tbl := wx_in 468 (by decide +kernel) rfl
theorem k_405 : (Jvm.Cond.constant "CellHeap$Whole" (38 : Nat) (1073741823 : Int32)) ∈ wx_tbl := wx_in 469 (by decide +kernel) rfl
theorem k_506 : (Jvm.Cond.methodLink "CellHeap$Whole" (23 : Nat) ({ cls := "java/lang/System", name := "arraycopy", desc := "(Ljava/lang/Object;ILjava/lang/Object;II)V" } : Jvm.MethodName)) ∈ wx_tbl := wx_in 570 (by decide +kernel) rfl
theorem k_525 : (Jvm.Cond.methodLink "CellHeap$Whole" (33 : Nat) ({ cls := "CellHeap$Whole", name := "setWords", desc := "([III)V" } : Jvm.MethodName)) ∈ wx_tbl := wx_in 589 (by decide +kernel) rfl
theorem k_536 : (Jvm.Cond.constantLong "CellHeap$Whole" (39 : Nat) (4294967295 : Int64)) ∈ wx_tbl := wx_in 600 (by decide +kernel) rfl
theorem k_541 : (Jvm.Cond.methodLink "CellHeap$Whole" (41 : Nat) ({ cls := "CellHeap$Whole", name := "wordAt", desc := "(I)J" } : Jvm.MethodName)) ∈ wx_tbl := wx_in 605 (by decide +kernel) rfl
theorem k_542 : (Jvm.Cond.methodLink "CellHeap$Whole" (70 : Nat) ({ cls := "CellHeap$Whole", name := "quotientWithoutSign", desc := "(JJ)J" } : Jvm.MethodName)) ∈ wx_tbl := wx_in 606 (by decide +kernel) rfl
theorem k_557 : (Jvm.Cond.constant "java/lang/Integer" (264 : Nat) (65536 : Int32)) ∈ wx_tbl := wx_in 621 (by decide +kernel) rfl
theorem k_587 : (Jvm.Cond.methodLink "CellHeap$Whole" (62 : Nat) ({ cls := "java/util/Arrays", name := "fill", desc := "([IIII)V" } : Jvm.MethodName)) ∈ wx_tbl := wx_in 651 (by decide +kernel) rfl
theorem k_590 : (Jvm.Cond.methodLink "java/util/Arrays" (13 : Nat) ({ cls := "java/util/Arrays", name := "rangeCheck", desc := "(III)V" } : Jvm.MethodName)) ∈ wx_tbl := wx_in 654 (by decide +kernel) rfl
theorem k_853 : (Jvm.Cond.methodLink "CellHeap$Whole" (49 : Nat) ({ cls := "CellHeap$Whole", name := "setSumOfSizes", desc := "(LCellHeap$Whole;LCellHeap$Whole;)V" } : Jvm.MethodName)) ∈ wx_tbl := wx_in 917 (by decide +kernel) rfl
theorem k_857 : (Jvm.Cond.methodLink "CellHeap$Whole" (56 : Nat) ({ cls := "java/lang/Math", name := "max", desc := "(II)I" } : Jvm.MethodName)) ∈ wx_tbl := wx_in 921 (by decide +kernel) rfl
theorem k_858 : (Jvm.Cond.methodLink "CellHeap$Whole" (45 : Nat) ({ cls := "CellHeap$Whole", name := "orderOfSizes", desc := "(LCellHeap$Whole;)I" } : Jvm.MethodName)) ∈ wx_tbl := wx_in 922 (by decide +kernel) rfl
theorem k_859 : (Jvm.Cond.methodLink "CellHeap$Whole" (53 : Nat) ({ cls := "CellHeap$Whole", name := "setDifferenceOfSizes", desc := "(LCellHeap$Whole;LCellHeap$Whole;)V" } : Jvm.MethodName)) ∈ wx_tbl := wx_in 923 (by decide +kernel) rfl
theorem k_948 : (Jvm.Cond.constantLong "CellHeap$Whole" (68 : Nat) (10 : Int64)) ∈ wx_tbl := wx_in 1012 (by decide +kernel) rfl
/-! Ar_rangeCheck: ('java/util/Arrays', 'rangeCheck', '(III)V') -/
abbrev b_Ar_rangeCheck : ByteArray := prog_26_method_30_code
abbrev y_Ar_rangeCheck : MethodName := ⟨R_Arrays, "rangeCheck", "(III)V"⟩
abbrev K_Ar_rangeCheck := CanV y_Ar_rangeCheck b_Ar_rangeCheck 3 none 9 0 0
theorem I_Ar_rangeCheck {h : HP} {v0 : Int32} {v1 : Int32} {v2 : Int32} {Φ : HP → Prop} (body : ∀ X : CX, Cok X b_Ar_rangeCheck 3 R_Arrays none → xR X = rml 9 0 0 → Qok X 0 0 (fun r h2 => r = none ∧ Φ h2) → Wg X 0 0 h [(0, .int v0), (1, .int v1), (2, .int v2)] [] 0) : K_Ar_rangeCheck [.int v0, .int v1, .int v2] h Φ := Can.intro (by decide) (fun _ => Nat.le_of_ble_eq_true rfl) body
theorem M_Ar_rangeCheck : Ms y_Ar_rangeCheck b_Ar_rangeCheck 3 none 3 := ⟨wx_in 656 (by decide +kernel) rfl, wx_in 655 (by decide +kernel) rfl, wx_in 81 (by decide +kernel) rfl, by decide +kernel, by decide⟩
theorem d_Ar_rangeCheck_0 : decode b_Ar_rangeCheck 0 = .ok (.iload_n 1, 1) := by decide +kernel
theorem d_Ar_rangeCheck_1 : decode b_Ar_rangeCheck 1 = .ok (.iload_n 2, 1) := by decide +kernel
theorem d_Ar_rangeCheck_2 : decode b_Ar_rangeCheck 2 = .ok (.if_icmp .le 44, 3) := by decide +kernel
theorem d_Ar_rangeCheck_46 : decode b_Ar_rangeCheck 46 = .ok (.iload_n 1, 1) := by decide +kernel
theorem d_Ar_rangeCheck_47 : decode b_Ar_rangeCheck 47 = .ok (.ifCond .ge 12, 3) := by decide +kernel
theorem d_Ar_rangeCheck_59 : decode b_Ar_rangeCheck 59 = .ok (.iload_n 2, 1) := by decide +kernel
theorem d_Ar_rangeCheck_60 : decode b_Ar_rangeCheck 60 = .ok (.iload_n 0, 1) := by decide +kernel
theorem d_Ar_rangeCheck_61 : decode b_Ar_rangeCheck 61 = .ok (.if_icmp .le 12, 3) := by decide +kernel
theorem d_Ar_rangeCheck_73 : decode b_Ar_rangeCheck 73 = .ok (.return_, 1) := by decide +kernel
/-! Ar_fill: ('java/util/Arrays', 'fill', '([IIII)V') -/
abbrev b_Ar_fill : ByteArray := prog_26_method_104_code
abbrev y_Ar_fill : MethodName := ⟨R_Arrays, "fill", "([IIII)V"⟩
abbrev K_Ar_fill := CanV y_Ar_fill b_Ar_fill 5 none 10 0 0
theorem I_Ar_fill {h : HP} {p0 : Nat} {n0 : Nat} {v1 : Int32} {v2 : Int32} {v3 : Int32} {Φ : HP → Prop} (body : ∀ X : CX, Cok X b_Ar_fill 5 R_Arrays none → xR X = rml 10 0 0 → Qok X 0 0 (fun r h2 => r = none ∧ Φ h2) → Wg X 0 0 h [(0, .ref p0), (1, .int v1), (2, .int v2), (3, .int v3)] [] 0) : K_Ar_fill [.ref p0, .int v1, .int v2, .int v3] h Φ := Can.intro (by decide) (fun _ => Nat.le_of_ble_eq_true rfl) body
theorem M_Ar_fill : Ms y_Ar_fill b_Ar_fill 5 none 4 := ⟨wx_in 653 (by decide +kernel) rfl, wx_in 652 (by decide +kernel) rfl, wx_in 81 (by decide +kernel) rfl, by decide +kernel, by decide⟩
theorem d_Ar_fill_0 : decode b_Ar_fill 0 = .ok (.aload_n 0, 1) := by decide +kernel
theorem d_Ar_fill_1 : decode b_Ar_fill 1 = .ok (.arraylength, 1) := by decide +kernel
theorem d_Ar_fill_2 : decode b_Ar_fill 2 = .ok (.iload_n 1, 1) := by decide +kernel
theorem d_Ar_fill_3 : decode b_Ar_fill 3 = .ok (.iload_n 2, 1) := by decide +kernel
theorem d_Ar_fill_4 : decode b_Ar_fill 4 = .ok (.invokestatic 13, 3) := by decide +kernel
theorem d_Ar_fill_7 : decode b_Ar_fill 7 = .ok (.iload_n 1, 1) := by decide +kernel
theorem d_Ar_fill_8 : decode b_Ar_fill 8 = .ok (.istore 4, 2) := by decide +kernel
theorem d_Ar_fill_10 : decode b_Ar_fill 10 = .ok (.iload 4, 2) := by decide +kernel
theorem d_Ar_fill_12 : decode b_Ar_fill 12 = .ok (.iload_n 2, 1) := by decide +kernel
theorem d_Ar_fill_13 : decode b_Ar_fill 13 = .ok (.if_icmp .ge 14, 3) := by decide +kernel
theorem d_Ar_fill_16 : decode b_Ar_fill 16 = .ok (.aload_n 0, 1) := by decide +kernel
theorem d_Ar_fill_17 : decode b_Ar_fill 17 = .ok (.iload 4, 2) := by decide +kernel
theorem d_Ar_fill_19 : decode b_Ar_fill 19 = .ok (.iload_n 3, 1) := by decide +kernel
theorem d_Ar_fill_20 : decode b_Ar_fill 20 = .ok (.iastore, 1) := by decide +kernel
theorem d_Ar_fill_21 : decode b_Ar_fill 21 = .ok (.iinc 4 1, 3) := by decide +kernel
theorem d_Ar_fill_24 : decode b_Ar_fill 24 = .ok (.goto (-14), 3) := by decide +kernel
theorem d_Ar_fill_27 : decode b_Ar_fill 27 = .ok (.return_, 1) := by decide +kernel
/-! In_nlz: ('java/lang/Integer', 'numberOfLeadingZeros', '(I)I') -/
abbrev b_In_nlz : ByteArray := prog_16_method_47_code
abbrev y_In_nlz : MethodName := ⟨R_Integer, "numberOfLeadingZeros", "(I)I"⟩
abbrev K_In_nlz := CanI y_In_nlz b_In_nlz 2 ((some .int)) 0 0 0
theorem I_In_nlz {h : HP} {v0 : Int32} {Φ : Int32 → HP → Prop} (body : ∀ X : CX, Cok X b_In_nlz 2 R_Integer ((some .int)) → xR X = rml 0 0 0 → Qok X 0 0 (fun r h2 => ∃ v, r = some (.int v) ∧ Φ v h2) → Wg X 0 0 h [(0, .int v0)] [] 0) : K_In_nlz [.int v0] h Φ := Can.intro (by decide) (fun _ => Nat.le_of_ble_eq_true rfl) body
theorem M_In_nlz : Ms y_In_nlz b_In_nlz 2 ((some .int)) 1 := ⟨wx_in 620 (by decide +kernel) rfl, wx_in 619 (by decide +kernel) rfl, wx_in 80 (by decide +kernel) rfl, by decide +kernel, by decide⟩
theorem d_In_nlz_0 : decode b_In_nlz 0 = .ok (.iload_n 0, 1) := by decide +kernel
theorem d_In_nlz_1 : decode b_In_nlz 1 = .ok (.ifCond .gt 14, 3) := by decide +kernel
theorem d_In_nlz_4 : decode b_In_nlz 4 = .ok (.iload_n 0, 1) := by decide +kernel
theorem d_In_nlz_5 : decode b_In_nlz 5 = .ok (.ifCond .ne 8, 3) := by decide +kernel
theorem d_In_nlz_8 : decode b_In_nlz 8 = .ok (.bipush 32, 2) := by decide +kernel
theorem d_In_nlz_10 : decode b_In_nlz 10 = .ok (.goto 4, 3) := by decide +kernel
theorem d_In_nlz_13 : decode b_In_nlz 13 = .ok (.iconst 0, 1) := by decide +kernel
theorem d_In_nlz_14 : decode b_In_nlz 14 = .ok (.ireturn, 1) := by decide +kernel
theorem d_In_nlz_15 : decode b_In_nlz 15 = .ok (.bipush 31, 2) := by decide +kernel
theorem d_In_nlz_17 : decode b_In_nlz 17 = .ok (.istore_n 1, 1) := by decide +kernel
theorem d_In_nlz_18 : decode b_In_nlz 18 = .ok (.iload_n 0, 1) := by decide +kernel
theorem d_In_nlz_19 : decode b_In_nlz 19 = .ok (.ldc_w 264, 3) := by decide +kernel
theorem d_In_nlz_22 : decode b_In_nlz 22 = .ok (.if_icmp .lt 11, 3) := by decide +kernel
theorem d_In_nlz_25 : decode b_In_nlz 25 = .ok (.iinc 1 (-16), 3) := by decide +kernel
theorem d_In_nlz_28 : decode b_In_nlz 28 = .ok (.iload_n 0, 1) := by decide +kernel
theorem d_In_nlz_29 : decode b_In_nlz 29 = .ok (.bipush 16, 2) := by decide +kernel
theorem d_In_nlz_31 : decode b_In_nlz 31 = .ok (.iushr, 1) := by decide +kernel
theorem d_In_nlz_32 : decode b_In_nlz 32 = .ok (.istore_n 0, 1) := by decide +kernel
theorem d_In_nlz_33 : decode b_In_nlz 33 = .ok (.iload_n 0, 1) := by decide +kernel
theorem d_In_nlz_34 : decode b_In_nlz 34 = .ok (.sipush 256, 3) := by decide +kernel
theorem d_In_nlz_37 : decode b_In_nlz 37 = .ok (.if_icmp .lt 11, 3) := by decide +kernel
theorem d_In_nlz_40 : decode b_In_nlz 40 = .ok (.iinc 1 (-8), 3) := by decide +kernel
theorem d_In_nlz_43 : decode b_In_nlz 43 = .ok (.iload_n 0, 1) := by decide +kernel
theorem d_In_nlz_44 : decode b_In_nlz 44 = .ok (.bipush 8, 2) := by decide +kernel
theorem d_In_nlz_46 : decode b_In_nlz 46 = .ok (.iushr, 1) := by decide +kernel
theorem d_In_nlz_47 : decode b_In_nlz 47 = .ok (.istore_n 0, 1) := by decide +kernel
theorem d_In_nlz_48 : decode b_In_nlz 48 = .ok (.iload_n 0, 1) := by decide +kernel
theorem d_In_nlz_49 : decode b_In_nlz 49 = .ok (.bipush 16, 2) := by decide +kernel
theorem d_In_nlz_51 : decode b_In_nlz 51 = .ok (.if_icmp .lt 10, 3) := by decide +kernel
theorem d_In_nlz_54 : decode b_In_nlz 54 = .ok (.iinc 1 (-4), 3) := by decide +kernel
theorem d_In_nlz_57 : decode b_In_nlz 57 = .ok (.iload_n 0, 1) := by decide +kernel
theorem d_In_nlz_58 : decode b_In_nlz 58 = .ok (.iconst 4, 1) := by decide +kernel
theorem d_In_nlz_59 : decode b_In_nlz 59 = .ok (.iushr, 1) := by decide +kernel
theorem d_In_nlz_60 : decode b_In_nlz 60 = .ok (.istore_n 0, 1) := by decide +kernel
theorem d_In_nlz_61 : decode b_In_nlz 61 = .ok (.iload_n 0, 1) := by decide +kernel
theorem d_In_nlz_62 : decode b_In_nlz 62 = .ok (.iconst 4, 1) := by decide +kernel
theorem d_In_nlz_63 : decode b_In_nlz 63 = .ok (.if_icmp .lt 10, 3) := by decide +kernel
theorem d_In_nlz_66 : decode b_In_nlz 66 = .ok (.iinc 1 (-2), 3) := by decide +kernel
theorem d_In_nlz_69 : decode b_In_nlz 69 = .ok (.iload_n 0, 1) := by decide +kernel
theorem d_In_nlz_70 : decode b_In_nlz 70 = .ok (.iconst 2, 1) := by decide +kernel
theorem d_In_nlz_71 : decode b_In_nlz 71 = .ok (.iushr, 1) := by decide +kernel
theorem d_In_nlz_72 : decode b_In_nlz 72 = .ok (.istore_n 0, 1) := by decide +kernel
theorem d_In_nlz_73 : decode b_In_nlz 73 = .ok (.iload_n 1, 1) := by decide +kernel
theorem d_In_nlz_74 : decode b_In_nlz 74 = .ok (.iload_n 0, 1) := by decide +kernel
theorem d_In_nlz_75 : decode b_In_nlz 75 = .ok (.iconst 1, 1) := by decide +kernel
theorem d_In_nlz_76 : decode b_In_nlz 76 = .ok (.iushr, 1) := by decide +kernel
theorem d_In_nlz_77 : decode b_In_nlz 77 = .ok (.isub, 1) := by decide +kernel
theorem d_In_nlz_78 : decode b_In_nlz 78 = .ok (.ireturn, 1) := by decide +kernel
/-! Wh_trim: ('CellHeap$Whole', 'trim', '(I)V') -/
abbrev b_Wh_trim : ByteArray := prog_8_method_5_code
abbrev y_Wh_trim : MethodName := ⟨R_Wh, "trim", "(I)V"⟩
abbrev K_Wh_trim := CanV y_Wh_trim b_Wh_trim 2 none 0 0 0
theorem I_Wh_trim {h : HP} {p0 : Nat} {v1 : Int32} {Φ : HP → Prop} (body : ∀ X : CX, Cok X b_Wh_trim 2 R_Wh none → xR X = rml 0 0 0 → Qok X 0 0 (fun r h2 => r = none ∧ Φ h2) → Wg X 0 0 h [(0, .ref p0), (1, .int v1)] [] 0) : K_Wh_trim [.ref p0, .int v1] h Φ := Can.intro (by decide) (fun _ => Nat.le_of_ble_eq_true rfl) body
theorem M_Wh_trim : Mv y_Wh_trim b_Wh_trim 2 none 1 0 := ⟨wx_in 449 (by decide +kernel) rfl, wx_in 447 (by decide +kernel) rfl, wx_in 448 (by decide +kernel) rfl, wx_in 70 (by decide +kernel) rfl, by decide +kernel, by decide, by decide, _, _, rfl⟩
theorem d_Wh_trim_0 : decode b_Wh_trim 0 = .ok (.aload_n 0, 1) := by decide +kernel
theorem d_Wh_trim_1 : decode b_Wh_trim 1 = .ok (.iload_n 1, 1) := by decide +kernel
theorem d_Wh_trim_2 : decode b_Wh_trim 2 = .ok (.putfield 29, 3) := by decide +kernel
theorem d_Wh_trim_5 : decode b_Wh_trim 5 = .ok (.aload_n 0, 1) := by decide +kernel
theorem d_Wh_trim_6 : decode b_Wh_trim 6 = .ok (.getfield 29, 3) := by decide +kernel
theorem d_Wh_trim_9 : decode b_Wh_trim 9 = .ok (.ifCond .le 30, 3) := by decide +kernel
theorem d_Wh_trim_12 : decode b_Wh_trim 12 = .ok (.aload_n 0, 1) := by decide +kernel
theorem d_Wh_trim_13 : decode b_Wh_trim 13 = .ok (.getfield 9, 3) := by decide +kernel
theorem d_Wh_trim_16 : decode b_Wh_trim 16 = .ok (.aload_n 0, 1) := by decide +kernel
theorem d_Wh_trim_17 : decode b_Wh_trim 17 = .ok (.getfield 29, 3) := by decide +kernel
theorem d_Wh_trim_20 : decode b_Wh_trim 20 = .ok (.iconst 1, 1) := by decide +kernel
theorem d_Wh_trim_21 : decode b_Wh_trim 21 = .ok (.isub, 1) := by decide +kernel
theorem d_Wh_trim_22 : decode b_Wh_trim 22 = .ok (.iaload, 1) := by decide +kernel
theorem d_Wh_trim_23 : decode b_Wh_trim 23 = .ok (.ifCond .ne 16, 3) := by decide +kernel
theorem d_Wh_trim_26 : decode b_Wh_trim 26 = .ok (.aload_n 0, 1) := by decide +kernel
theorem d_Wh_trim_27 : decode b_Wh_trim 27 = .ok (.dup, 1) := by decide +kernel
theorem d_Wh_trim_28 : decode b_Wh_trim 28 = .ok (.getfield 29, 3) := by decide +kernel
theorem d_Wh_trim_31 : decode b_Wh_trim 31 = .ok (.iconst 1, 1) := by decide +kernel
theorem d_Wh_trim_32 : decode b_Wh_trim 32 = .ok (.isub, 1) := by decide +kernel
theorem d_Wh_trim_33 : decode b_Wh_trim 33 = .ok (.putfield 29, 3) := by decide +kernel
theorem d_Wh_trim_36 : decode b_Wh_trim 36 = .ok (.goto (-31), 3) := by decide +kernel
theorem d_Wh_trim_39 : decode b_Wh_trim 39 = .ok (.aload_n 0, 1) := by decide +kernel
theorem d_Wh_trim_40 : decode b_Wh_trim 40 = .ok (.aload_n 0, 1) := by decide +kernel
theorem d_Wh_trim_41 : decode b_Wh_trim 41 = .ok (.getfield 15, 3) := by decide +kernel
theorem d_Wh_trim_44 : decode b_Wh_trim 44 = .ok (.ifCond .eq 14, 3) := by decide +kernel
theorem d_Wh_trim_47 : decode b_Wh_trim 47 = .ok (.aload_n 0, 1) := by decide +kernel
theorem d_Wh_trim_48 : decode b_Wh_trim 48 = .ok (.getfield 29, 3) := by decide +kernel
theorem d_Wh_trim_51 : decode b_Wh_trim 51 = .ok (.ifCond .le 7, 3) := by decide +kernel
theorem d_Wh_trim_54 : decode b_Wh_trim 54 = .ok (.iconst 1, 1) := by decide +kernel
theorem d_Wh_trim_55 : decode b_Wh_trim 55 = .ok (.goto 4, 3) := by decide +kernel
theorem d_Wh_trim_58 : decode b_Wh_trim 58 = .ok (.iconst 0, 1) := by decide +kernel
theorem d_Wh_trim_59 : decode b_Wh_trim 59 = .ok (.putfield 15, 3) := by decide +kernel
theorem d_Wh_trim_62 : decode b_Wh_trim 62 = .ok (.return_, 1) := by decide +kernel
/-! Wh_setLong: ('CellHeap$Whole', 'setLong', '(J)V') -/
abbrev b_Wh_setLong : ByteArray := prog_8_method_2_code
abbrev y_Wh_setLong : MethodName := ⟨R_Wh, "setLong", "(J)V"⟩
abbrev K_Wh_setLong := CanV y_Wh_setLong b_Wh_setLong 5 none 1 0 0
theorem I_Wh_setLong {h : HP} {p0 : Nat} {v1 : Int64} {Φ : HP → Prop} (body : ∀ X : CX, Cok X b_Wh_setLong 5 R_Wh none → xR X = rml 1 0 0 → Qok X 0 0 (fun r h2 => r = none ∧ Φ h2) → Wg X 0 0 h [(0, .ref p0), (1, .long v1)] [] 0) : K_Wh_setLong [.ref p0, .long v1] h Φ := Can.intro (by decide) (fun _ => Nat.le_of_ble_eq_true rfl) body
theorem M_Wh_setLong : Mv y_Wh_setLong b_Wh_setLong 5 none 1 0 := ⟨wx_in 445 (by decide +kernel) rfl, wx_in 443 (by decide +kernel) rfl, wx_in 444 (by decide +kernel) rfl, wx_in 70 (by decide +kernel) rfl, by decide +kernel, by decide, by decide, _, _, rfl⟩
theorem d_Wh_setLong_0 : decode b_Wh_setLong 0 = .ok (.aload_n 0, 1) := by decide +kernel
theorem d_Wh_setLong_1 : decode b_Wh_setLong 1 = .ok (.lload_n 1, 1) := by decide +kernel
theorem d_Wh_setLong_2 : decode b_Wh_setLong 2 = .ok (.lconst 0, 1) := by decide +kernel
theorem d_Wh_setLong_3 : decode b_Wh_setLong 3 = .ok (.lcmp, 1) := by decide +kernel
theorem d_Wh_setLong_4 : decode b_Wh_setLong 4 = .ok (.ifCond .ge 7, 3) := by decide +kernel
theorem d_Wh_setLong_7 : decode b_Wh_setLong 7 = .ok (.iconst 1, 1) := by decide +kernel
theorem d_Wh_setLong_8 : decode b_Wh_setLong 8 = .ok (.goto 4, 3) := by decide +kernel
theorem d_Wh_setLong_11 : decode b_Wh_setLong 11 = .ok (.iconst 0, 1) := by decide +kernel
theorem d_Wh_setLong_12 : decode b_Wh_setLong 12 = .ok (.putfield 15, 3) := by decide +kernel
theorem d_Wh_setLong_15 : decode b_Wh_setLong 15 = .ok (.aload_n 0, 1) := by decide +kernel
theorem d_Wh_setLong_16 : decode b_Wh_setLong 16 = .ok (.getfield 15, 3) := by decide +kernel
theorem d_Wh_setLong_19 : decode b_Wh_setLong 19 = .ok (.ifCond .eq 8, 3) := by decide +kernel
theorem d_Wh_setLong_22 : decode b_Wh_setLong 22 = .ok (.lload_n 1, 1) := by decide +kernel
theorem d_Wh_setLong_23 : decode b_Wh_setLong 23 = .ok (.lneg, 1) := by decide +kernel
theorem d_Wh_setLong_24 : decode b_Wh_setLong 24 = .ok (.goto 4, 3) := by decide +kernel
theorem d_Wh_setLong_27 : decode b_Wh_setLong 27 = .ok (.lload_n 1, 1) := by decide +kernel
theorem d_Wh_setLong_28 : decode b_Wh_setLong 28 = .ok (.lstore_n 3, 1) := by decide +kernel
theorem d_Wh_setLong_29 : decode b_Wh_setLong 29 = .ok (.aload_n 0, 1) := by decide +kernel
theorem d_Wh_setLong_30 : decode b_Wh_setLong 30 = .ok (.getfield 9, 3) := by decide +kernel
theorem d_Wh_setLong_33 : decode b_Wh_setLong 33 = .ok (.iconst 0, 1) := by decide +kernel
theorem d_Wh_setLong_34 : decode b_Wh_setLong 34 = .ok (.lload_n 3, 1) := by decide +kernel
theorem d_Wh_setLong_35 : decode b_Wh_setLong 35 = .ok (.l2i, 1) := by decide +kernel
theorem d_Wh_setLong_36 : decode b_Wh_setLong 36 = .ok (.iastore, 1) := by decide +kernel
theorem d_Wh_setLong_37 : decode b_Wh_setLong 37 = .ok (.aload_n 0, 1) := by decide +kernel
theorem d_Wh_setLong_38 : decode b_Wh_setLong 38 = .ok (.getfield 9, 3) := by decide +kernel
theorem d_Wh_setLong_41 : decode b_Wh_setLong 41 = .ok (.iconst 1, 1) := by decide +kernel
theorem d_Wh_setLong_42 : decode b_Wh_setLong 42 = .ok (.lload_n 3, 1) := by decide +kernel
theorem d_Wh_setLong_43 : decode b_Wh_setLong 43 = .ok (.bipush 32, 2) := by decide +kernel
theorem d_Wh_setLong_45 : decode b_Wh_setLong 45 = .ok (.lushr, 1) := by decide +kernel
theorem d_Wh_setLong_46 : decode b_Wh_setLong 46 = .ok (.l2i, 1) := by decide +kernel
theorem d_Wh_setLong_47 : decode b_Wh_setLong 47 = .ok (.iastore, 1) := by decide +kernel
theorem d_Wh_setLong_48 : decode b_Wh_setLong 48 = .ok (.aload_n 0, 1) := by decide +kernel
theorem d_Wh_setLong_49 : decode b_Wh_setLong 49 = .ok (.iconst 2, 1) := by decide +kernel
theorem d_Wh_setLong_50 : decode b_Wh_setLong 50 = .ok (.invokevirtual 19, 3) := by decide +kernel
theorem d_Wh_setLong_53 : decode b_Wh_setLong 53 = .ok (.return_, 1) := by decide +kernel
/-! Wh_setWords: ('CellHeap$Whole', 'setWords', '([III)V') -/
abbrev b_Wh_setWords : ByteArray := prog_8_method_3_code
abbrev y_Wh_setWords : MethodName := ⟨R_Wh, "setWords", "([III)V"⟩
abbrev K_Wh_setWords := CanV y_Wh_setWords b_Wh_setWords 4 none 2 0 0
theorem I_Wh_setWords {h : HP} {p0 : Nat} {p1 : Nat} {n1 : Nat} {v2 : Int32} {v3 : Int32} {Φ : HP → Prop} (body : ∀ X : CX, Cok X b_Wh_setWords 4 R_Wh none → xR X = rml 2 0 0 → Qok X 0 0 (fun r h2 => r = none ∧ Φ h2) → Wg X 0 0 h [(0, .ref p0), (1, .ref p1), (2, .int v2), (3, .int v3)] [] 0) : K_Wh_setWords [.ref p0, .ref p1, .int v2, .int v3] h Φ := Can.intro (by decide) (fun _ => Nat.le_of_ble_eq_true rfl) body
theorem M_Wh_setWords : Mv y_Wh_setWords b_Wh_setWords 4 none 3 0 := ⟨wx_in 569 (by decide +kernel) rfl, wx_in 567 (by decide +kernel) rfl, wx_in 568 (by decide +kernel) rfl, wx_in 70 (by decide +kernel) rfl, by decide +kernel, by decide, by decide, _, _, rfl⟩
theorem d_Wh_setWords_0 : decode b_Wh_setWords 0 = .ok (.aload_n 1, 1) := by decide +kernel
theorem d_Wh_setWords_1 : decode b_Wh_setWords 1 = .ok (.iload_n 2, 1) := by decide +kernel
theorem d_Wh_setWords_2 : decode b_Wh_setWords 2 = .ok (.aload_n 0, 1) := by decide +kernel
theorem d_Wh_setWords_3 : decode b_Wh_setWords 3 = .ok (.getfield 9, 3) := by decide +kernel
theorem d_Wh_setWords_6 : decode b_Wh_setWords 6 = .ok (.iconst 0, 1) := by decide +kernel
theorem d_Wh_setWords_7 : decode b_Wh_setWords 7 = .ok (.iload_n 3, 1) := by decide +kernel
theorem d_Wh_setWords_8 : decode b_Wh_setWords 8 = .ok (.invokestatic 23, 3) := by decide +kernel
theorem d_Wh_setWords_11 : decode b_Wh_setWords 11 = .ok (.aload_n 0, 1) := by decide +kernel
theorem d_Wh_setWords_12 : decode b_Wh_setWords 12 = .ok (.iload_n 3, 1) := by decide +kernel
theorem d_Wh_setWords_13 : decode b_Wh_setWords 13 = .ok (.putfield 29, 3) := by decide +kernel
theorem d_Wh_setWords_16 : decode b_Wh_setWords 16 = .ok (.aload_n 0, 1) := by decide +kernel
theorem d_Wh_setWords_17 : decode b_Wh_setWords 17 = .ok (.iconst 0, 1) := by decide +kernel
theorem d_Wh_setWords_18 : decode b_Wh_setWords 18 = .ok (.putfield 15, 3) := by decide +kernel
theorem d_Wh_setWords_21 : decode b_Wh_setWords 21 = .ok (.return_, 1) := by decide +kernel
/-! Wh_setTo: ('CellHeap$Whole', 'setTo', '(LCellHeap$Whole;)V') -/
abbrev b_Wh_setTo : ByteArray := prog_8_method_4_code
abbrev y_Wh_setTo : MethodName := ⟨R_Wh, "setTo", "(LCellHeap$Whole;)V"⟩
abbrev K_Wh_setTo := CanV y_Wh_setTo b_Wh_setTo 2 none 3 0 0
theorem I_Wh_setTo {h : HP} {p0 : Nat} {p1 : Nat} {Φ : HP → Prop} (body : ∀ X : CX, Cok X b_Wh_setTo 2 R_Wh none → xR X = rml 3 0 0 → Qok X 0 0 (fun r h2 => r = none ∧ Φ h2) → Wg X 0 0 h [(0, .ref p0), (1, .ref p1)] [] 0) : K_Wh_setTo [.ref p0, .ref p1] h Φ := Can.intro (by decide) (fun _ => Nat.le_of_ble_eq_true rfl) body
theorem M_Wh_setTo : Mv y_Wh_setTo b_Wh_setTo 2 none 1 0 := ⟨wx_in 588 (by decide +kernel) rfl, wx_in 586 (by decide +kernel) rfl, wx_in 587 (by decide +kernel) rfl, wx_in 70 (by decide +kernel) rfl, by decide +kernel, by decide, by decide, _, _, rfl⟩
theorem d_Wh_setTo_0 : decode b_Wh_setTo 0 = .ok (.aload_n 0, 1) := by decide +kernel
theorem d_Wh_setTo_1 : decode b_Wh_setTo 1 = .ok (.aload_n 1, 1) := by decide +kernel
theorem d_Wh_setTo_2 : decode b_Wh_setTo 2 = .ok (.getfield 9, 3) := by decide +kernel
theorem d_Wh_setTo_5 : decode b_Wh_setTo 5 = .ok (.iconst 0, 1) := by decide +kernel
theorem d_Wh_setTo_6 : decode b_Wh_setTo 6 = .ok (.aload_n 1, 1) := by decide +kernel
theorem d_Wh_setTo_7 : decode b_Wh_setTo 7 = .ok (.getfield 29, 3) := by decide +kernel
theorem d_Wh_setTo_10 : decode b_Wh_setTo 10 = .ok (.invokevirtual 33, 3) := by decide +kernel
theorem d_Wh_setTo_13 : decode b_Wh_setTo 13 = .ok (.aload_n 0, 1) := by decide +kernel
theorem d_Wh_setTo_14 : decode b_Wh_setTo 14 = .ok (.aload_n 1, 1) := by decide +kernel
theorem d_Wh_setTo_15 : decode b_Wh_setTo 15 = .ok (.getfield 15, 3) := by decide +kernel
theorem d_Wh_setTo_18 : decode b_Wh_setTo 18 = .ok (.putfield 15, 3) := by decide +kernel
theorem d_Wh_setTo_21 : decode b_Wh_setTo 21 = .ok (.return_, 1) := by decide +kernel
/-! Wh_isZero: ('CellHeap$Whole', 'isZero', '()Z') -/
abbrev b_Wh_isZero : ByteArray := prog_8_method_6_code
abbrev y_Wh_isZero : MethodName := ⟨R_Wh, "isZero", "()Z"⟩
abbrev K_Wh_isZero := CanI y_Wh_isZero b_Wh_isZero 1 ((some .boolean)) 0 0 0
theorem I_Wh_isZero {h : HP} {p0 : Nat} {Φ : Int32 → HP → Prop} (body : ∀ X : CX, Cok X b_Wh_isZero 1 R_Wh ((some .boolean)) → xR X = rml 0 0 0 → Qok X 0 0 (fun r h2 => ∃ v, r = some (.int v) ∧ Φ v h2) → Wg X 0 0 h [(0, .ref p0)] [] 0) : K_Wh_isZero [.ref p0] h Φ := Can.intro (by decide) (fun _ => Nat.le_of_ble_eq_true rfl) body
theorem M_Wh_isZero : Mv y_Wh_isZero b_Wh_isZero 1 ((some .boolean)) 0 0 := ⟨wx_in 575 (by decide +kernel) rfl, wx_in 573 (by decide +kernel) rfl, wx_in 574 (by decide +kernel) rfl, wx_in 70 (by decide +kernel) rfl, by decide +kernel, by decide, by decide, _, _, rfl⟩
theorem d_Wh_isZero_0 : decode b_Wh_isZero 0 = .ok (.aload_n 0, 1) := by decide +kernel
theorem d_Wh_isZero_1 : decode b_Wh_isZero 1 = .ok (.getfield 29, 3) := by decide +kernel
theorem d_Wh_isZero_4 : decode b_Wh_isZero 4 = .ok (.ifCond .ne 7, 3) := by decide +kernel
theorem d_Wh_isZero_7 : decode b_Wh_isZero 7 = .ok (.iconst 1, 1) := by decide +kernel
theorem d_Wh_isZero_8 : decode b_Wh_isZero 8 = .ok (.goto 4, 3) := by decide +kernel
theorem d_Wh_isZero_11 : decode b_Wh_isZero 11 = .ok (.iconst 0, 1) := by decide +kernel
theorem d_Wh_isZero_12 : decode b_Wh_isZero 12 = .ok (.ireturn, 1) := by decide +kernel
/-! Wh_isOne: ('CellHeap$Whole', 'isOne', '()Z') -/
abbrev b_Wh_isOne : ByteArray := prog_8_method_7_code
abbrev y_Wh_isOne : MethodName := ⟨R_Wh, "isOne", "()Z"⟩
abbrev K_Wh_isOne := CanI y_Wh_isOne b_Wh_isOne 1 ((some .boolean)) 0 0 0
theorem I_Wh_isOne {h : HP} {p0 : Nat} {Φ : Int32 → HP → Prop} (body : ∀ X : CX, Cok X b_Wh_isOne 1 R_Wh ((some .boolean)) → xR X = rml 0 0 0 → Qok X 0 0 (fun r h2 => ∃ v, r = some (.int v) ∧ Φ v h2) → Wg X 0 0 h [(0, .ref p0)] [] 0) : K_Wh_isOne [.ref p0] h Φ := Can.intro (by decide) (fun _ => Nat.le_of_ble_eq_true rfl) body
theorem M_Wh_isOne : Mv y_Wh_isOne b_Wh_isOne 1 ((some .boolean)) 0 0 := ⟨wx_in 477 (by decide +kernel) rfl, wx_in 475 (by decide +kernel) rfl, wx_in 476 (by decide +kernel) rfl, wx_in 70 (by decide +kernel) rfl, by decide +kernel, by decide, by decide, _, _, rfl⟩
theorem d_Wh_isOne_0 : decode b_Wh_isOne 0 = .ok (.aload_n 0, 1) := by decide +kernel
theorem d_Wh_isOne_1 : decode b_Wh_isOne 1 = .ok (.getfield 29, 3) := by decide +kernel
theorem d_Wh_isOne_4 : decode b_Wh_isOne 4 = .ok (.iconst 1, 1) := by decide +kernel
theorem d_Wh_isOne_5 : decode b_Wh_isOne 5 = .ok (.if_icmp .ne 24, 3) := by decide +kernel
theorem d_Wh_isOne_8 : decode b_Wh_isOne 8 = .ok (.aload_n 0, 1) := by decide +kernel
theorem d_Wh_isOne_9 : decode b_Wh_isOne 9 = .ok (.getfield 9, 3) := by decide +kernel
theorem d_Wh_isOne_12 : decode b_Wh_isOne 12 = .ok (.iconst 0, 1) := by decide +kernel
theorem d_Wh_isOne_13 : decode b_Wh_isOne 13 = .ok (.iaload, 1) := by decide +kernel
theorem d_Wh_isOne_14 : decode b_Wh_isOne 14 = .ok (.iconst 1, 1) := by decide +kernel
theorem d_Wh_isOne_15 : decode b_Wh_isOne 15 = .ok (.if_icmp .ne 14, 3) := by decide +kernel
theorem d_Wh_isOne_18 : decode b_Wh_isOne 18 = .ok (.aload_n 0, 1) := by decide +kernel
theorem d_Wh_isOne_19 : decode b_Wh_isOne 19 = .ok (.getfield 15, 3) := by decide +kernel
theorem d_Wh_isOne_22 : decode b_Wh_isOne 22 = .ok (.ifCond .ne 7, 3) := by decide +kernel
theorem d_Wh_isOne_25 : decode b_Wh_isOne 25 = .ok (.iconst 1, 1) := by decide +kernel
theorem d_Wh_isOne_26 : decode b_Wh_isOne 26 = .ok (.goto 4, 3) := by decide +kernel
theorem d_Wh_isOne_29 : decode b_Wh_isOne 29 = .ok (.iconst 0, 1) := by decide +kernel
theorem d_Wh_isOne_30 : decode b_Wh_isOne 30 = .ok (.ireturn, 1) := by decide +kernel
/-! Wh_isFixed: ('CellHeap$Whole', 'isFixed', '()Z') -/
abbrev b_Wh_isFixed : ByteArray := prog_8_method_8_code
abbrev y_Wh_isFixed : MethodName := ⟨R_Wh, "isFixed", "()Z"⟩
abbrev K_Wh_isFixed := CanI y_Wh_isFixed b_Wh_isFixed 2 ((some .boolean)) 0 0 0
theorem I_Wh_isFixed {h : HP} {p0 : Nat} {Φ : Int32 → HP → Prop} (body : ∀ X : CX, Cok X b_Wh_isFixed 2 R_Wh ((some .boolean)) → xR X = rml 0 0 0 → Qok X 0 0 (fun r h2 => ∃ v, r = some (.int v) ∧ Φ v h2) → Wg X 0 0 h [(0, .ref p0)] [] 0) : K_Wh_isFixed [.ref p0] h Φ := Can.intro (by decide) (fun _ => Nat.le_of_ble_eq_true rfl) body
theorem M_Wh_isFixed : Mv y_Wh_isFixed b_Wh_isFixed 2 ((some .boolean)) 0 0 := ⟨wx_in 467 (by decide +kernel) rfl, wx_in 465 (by decide +kernel) rfl, wx_in 466 (by decide +kernel) rfl, wx_in 70 (by decide +kernel) rfl, by decide +kernel, by decide, by decide, _, _, rfl⟩
theorem d_Wh_isFixed_0 : decode b_Wh_isFixed 0 = .ok (.aload_n 0, 1) := by decide +kernel
theorem d_Wh_isFixed_1 : decode b_Wh_isFixed 1 = .ok (.getfield 29, 3) := by decide +kernel
theorem d_Wh_isFixed_4 : decode b_Wh_isFixed 4 = .ok (.ifCond .ne 5, 3) := by decide +kernel
theorem d_Wh_isFixed_7 : decode b_Wh_isFixed 7 = .ok (.iconst 1, 1) := by decide +kernel
theorem d_Wh_isFixed_8 : decode b_Wh_isFixed 8 = .ok (.ireturn, 1) := by decide +kernel
theorem d_Wh_isFixed_9 : decode b_Wh_isFixed 9 = .ok (.aload_n 0, 1) := by decide +kernel
theorem d_Wh_isFixed_10 : decode b_Wh_isFixed 10 = .ok (.getfield 15, 3) := by decide +kernel
theorem d_Wh_isFixed_13 : decode b_Wh_isFixed 13 = .ok (.ifCond .eq 8, 3) := by decide +kernel
theorem d_Wh_isFixed_16 : decode b_Wh_isFixed 16 = .ok (.ldc 37, 2) := by decide +kernel
theorem d_Wh_isFixed_18 : decode b_Wh_isFixed 18 = .ok (.goto 5, 3) := by decide +kernel
theorem d_Wh_isFixed_21 : decode b_Wh_isFixed 21 = .ok (.ldc 38, 2) := by decide +kernel
theorem d_Wh_isFixed_23 : decode b_Wh_isFixed 23 = .ok (.istore_n 1, 1) := by decide +kernel
theorem d_Wh_isFixed_24 : decode b_Wh_isFixed 24 = .ok (.aload_n 0, 1) := by decide +kernel
theorem d_Wh_isFixed_25 : decode b_Wh_isFixed 25 = .ok (.getfield 29, 3) := by decide +kernel
theorem d_Wh_isFixed_28 : decode b_Wh_isFixed 28 = .ok (.iconst 1, 1) := by decide +kernel
theorem d_Wh_isFixed_29 : decode b_Wh_isFixed 29 = .ok (.if_icmp .ne 26, 3) := by decide +kernel
theorem d_Wh_isFixed_32 : decode b_Wh_isFixed 32 = .ok (.aload_n 0, 1) := by decide +kernel
theorem d_Wh_isFixed_33 : decode b_Wh_isFixed 33 = .ok (.getfield 9, 3) := by decide +kernel
theorem d_Wh_isFixed_36 : decode b_Wh_isFixed 36 = .ok (.iconst 0, 1) := by decide +kernel
theorem d_Wh_isFixed_37 : decode b_Wh_isFixed 37 = .ok (.iaload, 1) := by decide +kernel
theorem d_Wh_isFixed_38 : decode b_Wh_isFixed 38 = .ok (.ifCond .le 17, 3) := by decide +kernel
theorem d_Wh_isFixed_41 : decode b_Wh_isFixed 41 = .ok (.aload_n 0, 1) := by decide +kernel
theorem d_Wh_isFixed_42 : decode b_Wh_isFixed 42 = .ok (.getfield 9, 3) := by decide +kernel
theorem d_Wh_isFixed_45 : decode b_Wh_isFixed 45 = .ok (.iconst 0, 1) := by decide +kernel
theorem d_Wh_isFixed_46 : decode b_Wh_isFixed 46 = .ok (.iaload, 1) := by decide +kernel
theorem d_Wh_isFixed_47 : decode b_Wh_isFixed 47 = .ok (.iload_n 1, 1) := by decide +kernel
theorem d_Wh_isFixed_48 : decode b_Wh_isFixed 48 = .ok (.if_icmp .gt 7, 3) := by decide +kernel
theorem d_Wh_isFixed_51 : decode b_Wh_isFixed 51 = .ok (.iconst 1, 1) := by decide +kernel
theorem d_Wh_isFixed_52 : decode b_Wh_isFixed 52 = .ok (.goto 4, 3) := by decide +kernel
theorem d_Wh_isFixed_55 : decode b_Wh_isFixed 55 = .ok (.iconst 0, 1) := by decide +kernel
theorem d_Wh_isFixed_56 : decode b_Wh_isFixed 56 = .ok (.ireturn, 1) := by decide +kernel
/-! Wh_asFixed: ('CellHeap$Whole', 'asFixed', '()I') -/
abbrev b_Wh_asFixed : ByteArray := prog_8_method_9_code
abbrev y_Wh_asFixed : MethodName := ⟨R_Wh, "asFixed", "()I"⟩
abbrev K_Wh_asFixed := CanI y_Wh_asFixed b_Wh_asFixed 1 ((some .int)) 0 0 0
theorem I_Wh_asFixed {h : HP} {p0 : Nat} {Φ : Int32 → HP → Prop} (body : ∀ X : CX, Cok X b_Wh_asFixed 1 R_Wh ((some .int)) → xR X = rml 0 0 0 → Qok X 0 0 (fun r h2 => ∃ v, r = some (.int v) ∧ Φ v h2) → Wg X 0 0 h [(0, .ref p0)] [] 0) : K_Wh_asFixed [.ref p0] h Φ := Can.intro (by decide) (fun _ => Nat.le_of_ble_eq_true rfl) body
theorem M_Wh_asFixed : Mv y_Wh_asFixed b_Wh_asFixed 1 ((some .int)) 0 0 := ⟨wx_in 494 (by decide +kernel) rfl, wx_in 492 (by decide +kernel) rfl, wx_in 493 (by decide +kernel) rfl, wx_in 70 (by decide +kernel) rfl, by decide +kernel, by decide, by decide, _, _, rfl⟩
theorem d_Wh_asFixed_0 : decode b_Wh_asFixed 0 = .ok (.aload_n 0, 1) := by decide +kernel
theorem d_Wh_asFixed_1 : decode b_Wh_asFixed 1 = .ok (.getfield 29, 3) := by decide +kernel
theorem d_Wh_asFixed_4 : decode b_Wh_asFixed 4 = .ok (.ifCond .ne 5, 3) := by decide +kernel
theorem d_Wh_asFixed_7 : decode b_Wh_asFixed 7 = .ok (.iconst 0, 1) := by decide +kernel
theorem d_Wh_asFixed_8 : decode b_Wh_asFixed 8 = .ok (.ireturn, 1) := by decide +kernel
theorem d_Wh_asFixed_9 : decode b_Wh_asFixed 9 = .ok (.aload_n 0, 1) := by decide +kernel
theorem d_Wh_asFixed_10 : decode b_Wh_asFixed 10 = .ok (.getfield 15, 3) := by decide +kernel
theorem d_Wh_asFixed_13 : decode b_Wh_asFixed 13 = .ok (.ifCond .eq 13, 3) := by decide +kernel
theorem d_Wh_asFixed_16 : decode b_Wh_asFixed 16 = .ok (.aload_n 0, 1) := by decide +kernel
theorem d_Wh_asFixed_17 : decode b_Wh_asFixed 17 = .ok (.getfield 9, 3) := by decide +kernel
theorem d_Wh_asFixed_20 : decode b_Wh_asFixed 20 = .ok (.iconst 0, 1) := by decide +kernel
theorem d_Wh_asFixed_21 : decode b_Wh_asFixed 21 = .ok (.iaload, 1) := by decide +kernel
theorem d_Wh_asFixed_22 : decode b_Wh_asFixed 22 = .ok (.ineg, 1) := by decide +kernel
theorem d_Wh_asFixed_23 : decode b_Wh_asFixed 23 = .ok (.goto 9, 3) := by decide +kernel
theorem d_Wh_asFixed_26 : decode b_Wh_asFixed 26 = .ok (.aload_n 0, 1) := by decide +kernel
theorem d_Wh_asFixed_27 : decode b_Wh_asFixed 27 = .ok (.getfield 9, 3) := by decide +kernel
theorem d_Wh_asFixed_30 : decode b_Wh_asFixed 30 = .ok (.iconst 0, 1) := by decide +kernel
theorem d_Wh_asFixed_31 : decode b_Wh_asFixed 31 = .ok (.iaload, 1) := by decide +kernel
theorem d_Wh_asFixed_32 : decode b_Wh_asFixed 32 = .ok (.ireturn, 1) := by decide +kernel
/-! Wh_wordAt: ('CellHeap$Whole', 'wordAt', '(I)J') -/
abbrev b_Wh_wordAt : ByteArray := prog_8_method_10_code
abbrev y_Wh_wordAt : MethodName := ⟨R_Wh, "wordAt", "(I)J"⟩
abbrev K_Wh_wordAt := CanL y_Wh_wordAt b_Wh_wordAt 2 ((some .long)) 0 0 0
theorem I_Wh_wordAt {h : HP} {p0 : Nat} {v1 : Int32} {Φ : Int64 → HP → Prop} (body : ∀ X : CX, Cok X b_Wh_wordAt 2 R_Wh ((some .long)) → xR X = rml 0 0 0 → Qok X 0 0 (fun r h2 => ∃ v, r = some (.long v) ∧ Φ v h2) → Wg X 0 0 h [(0, .ref p0), (1, .int v1)] [] 0) : K_Wh_wordAt [.ref p0, .int v1] h Φ := Can.intro (by decide) (fun _ => Nat.le_of_ble_eq_true rfl) body
theorem M_Wh_wordAt : Mv y_Wh_wordAt b_Wh_wordAt 2 ((some .long)) 1 0 := ⟨wx_in 599 (by decide +kernel) rfl, wx_in 597 (by decide +kernel) rfl, wx_in 598 (by decide +kernel) rfl, wx_in 70 (by decide +kernel) rfl, by decide +kernel, by decide, by decide, _, _, rfl⟩
theorem d_Wh_wordAt_0 : decode b_Wh_wordAt 0 = .ok (.iload_n 1, 1) := by decide +kernel
theorem d_Wh_wordAt_1 : decode b_Wh_wordAt 1 = .ok (.aload_n 0, 1) := by decide +kernel
theorem d_Wh_wordAt_2 : decode b_Wh_wordAt 2 = .ok (.getfield 29, 3) := by decide +kernel
theorem d_Wh_wordAt_5 : decode b_Wh_wordAt 5 = .ok (.if_icmp .ge 17, 3) := by decide +kernel
theorem d_Wh_wordAt_8 : decode b_Wh_wordAt 8 = .ok (.aload_n 0, 1) := by decide +kernel
theorem d_Wh_wordAt_9 : decode b_Wh_wordAt 9 = .ok (.getfield 9, 3) := by decide +kernel
theorem d_Wh_wordAt_12 : decode b_Wh_wordAt 12 = .ok (.iload_n 1, 1) := by decide +kernel
theorem d_Wh_wordAt_13 : decode b_Wh_wordAt 13 = .ok (.iaload, 1) := by decide +kernel
theorem d_Wh_wordAt_14 : decode b_Wh_wordAt 14 = .ok (.i2l, 1) := by decide +kernel
theorem d_Wh_wordAt_15 : decode b_Wh_wordAt 15 = .ok (.ldc2_w 39, 3) := by decide +kernel
theorem d_Wh_wordAt_18 : decode b_Wh_wordAt 18 = .ok (.land, 1) := by decide +kernel
theorem d_Wh_wordAt_19 : decode b_Wh_wordAt 19 = .ok (.goto 4, 3) := by decide +kernel
theorem d_Wh_wordAt_22 : decode b_Wh_wordAt 22 = .ok (.lconst 0, 1) := by decide +kernel
theorem d_Wh_wordAt_23 : decode b_Wh_wordAt 23 = .ok (.lreturn, 1) := by decide +kernel
/-! Wh_flipSign: ('CellHeap$Whole', 'flipSign', '()V') -/
abbrev b_Wh_flipSign : ByteArray := prog_8_method_11_code
abbrev y_Wh_flipSign : MethodName := ⟨R_Wh, "flipSign", "()V"⟩
abbrev K_Wh_flipSign := CanV y_Wh_flipSign b_Wh_flipSign 1 none 0 0 0
theorem I_Wh_flipSign {h : HP} {p0 : Nat} {Φ : HP → Prop} (body : ∀ X : CX, Cok X b_Wh_flipSign 1 R_Wh none → xR X = rml 0 0 0 → Qok X 0 0 (fun r h2 => r = none ∧ Φ h2) → Wg X 0 0 h [(0, .ref p0)] [] 0) : K_Wh_flipSign [.ref p0] h Φ := Can.intro (by decide) (fun _ => Nat.le_of_ble_eq_true rfl) body
theorem M_Wh_flipSign : Mv y_Wh_flipSign b_Wh_flipSign 1 none 0 0 := ⟨wx_in 912 (by decide +kernel) rfl, wx_in 910 (by decide +kernel) rfl, wx_in 911 (by decide +kernel) rfl, wx_in 70 (by decide +kernel) rfl, by decide +kernel, by decide, by decide, _, _, rfl⟩
theorem d_Wh_flipSign_0 : decode b_Wh_flipSign 0 = .ok (.aload_n 0, 1) := by decide +kernel
theorem d_Wh_flipSign_1 : decode b_Wh_flipSign 1 = .ok (.aload_n 0, 1) := by decide +kernel
theorem d_Wh_flipSign_2 : decode b_Wh_flipSign 2 = .ok (.getfield 15, 3) := by decide +kernel
theorem d_Wh_flipSign_5 : decode b_Wh_flipSign 5 = .ok (.ifCond .ne 14, 3) := by decide +kernel
theorem d_Wh_flipSign_8 : decode b_Wh_flipSign 8 = .ok (.aload_n 0, 1) := by decide +kernel
theorem d_Wh_flipSign_9 : decode b_Wh_flipSign 9 = .ok (.getfield 29, 3) := by decide +kernel
theorem d_Wh_flipSign_12 : decode b_Wh_flipSign 12 = .ok (.ifCond .le 7, 3) := by decide +kernel
theorem d_Wh_flipSign_15 : decode b_Wh_flipSign 15 = .ok (.iconst 1, 1) := by decide +kernel
theorem d_Wh_flipSign_16 : decode b_Wh_flipSign 16 = .ok (.goto 4, 3) := by decide +kernel
theorem d_Wh_flipSign_19 : decode b_Wh_flipSign 19 = .ok (.iconst 0, 1) := by decide +kernel
theorem d_Wh_flipSign_20 : decode b_Wh_flipSign 20 = .ok (.putfield 15, 3) := by decide +kernel
theorem d_Wh_flipSign_23 : decode b_Wh_flipSign 23 = .ok (.return_, 1) := by decide +kernel
/-! Wh_orderOfSizes: ('CellHeap$Whole', 'orderOfSizes', '(LCellHeap$Whole;)I') -/
abbrev b_Wh_orderOfSizes : ByteArray := prog_8_method_12_code
abbrev y_Wh_orderOfSizes : MethodName := ⟨R_Wh, "orderOfSizes", "(LCellHeap$Whole;)I"⟩
abbrev K_Wh_orderOfSizes := CanI y_Wh_orderOfSizes b_Wh_orderOfSizes 3 ((some .int)) 1 0 0
theorem I_Wh_orderOfSizes {h : HP} {p0 : Nat} {p1 : Nat} {Φ : Int32 → HP → Prop} (body : ∀ X : CX, Cok X b_Wh_orderOfSizes 3 R_Wh ((some .int)) → xR X = rml 1 0 0 → Qok X 0 0 (fun r h2 => ∃ v, r = some (.int v) ∧ Φ v h2) → Wg X 0 0 h [(0, .ref p0), (1, .ref p1)] [] 0) : K_Wh_orderOfSizes [.ref p0, .ref p1] h Φ := Can.intro (by decide) (fun _ => Nat.le_of_ble_eq_true rfl) body
theorem M_Wh_orderOfSizes : Mv y_Wh_orderOfSizes b_Wh_orderOfSizes 3 ((some .int)) 1 0 := ⟨wx_in 613 (by decide +kernel) rfl, wx_in 611 (by decide +kernel) rfl, wx_in 612 (by decide +kernel) rfl, wx_in 70 (by decide +kernel) rfl, by decide +kernel, by decide, by decide, _, _, rfl⟩
theorem d_Wh_orderOfSizes_0 : decode b_Wh_orderOfSizes 0 = .ok (.aload_n 0, 1) := by decide +kernel
theorem d_Wh_orderOfSizes_1 : decode b_Wh_orderOfSizes 1 = .ok (.getfield 29, 3) := by decide +kernel
theorem d_Wh_orderOfSizes_4 : decode b_Wh_orderOfSizes 4 = .ok (.aload_n 1, 1) := by decide +kernel
theorem d_Wh_orderOfSizes_5 : decode b_Wh_orderOfSizes 5 = .ok (.getfield 29, 3) := by decide +kernel
theorem d_Wh_orderOfSizes_8 : decode b_Wh_orderOfSizes 8 = .ok (.if_icmp .eq 20, 3) := by decide +kernel
theorem d_Wh_orderOfSizes_11 : decode b_Wh_orderOfSizes 11 = .ok (.aload_n 0, 1) := by decide +kernel
theorem d_Wh_orderOfSizes_12 : decode b_Wh_orderOfSizes 12 = .ok (.getfield 29, 3) := by decide +kernel
theorem d_Wh_orderOfSizes_15 : decode b_Wh_orderOfSizes 15 = .ok (.aload_n 1, 1) := by decide +kernel
theorem d_Wh_orderOfSizes_16 : decode b_Wh_orderOfSizes 16 = .ok (.getfield 29, 3) := by decide +kernel
theorem d_Wh_orderOfSizes_19 : decode b_Wh_orderOfSizes 19 = .ok (.if_icmp .ge 7, 3) := by decide +kernel
theorem d_Wh_orderOfSizes_22 : decode b_Wh_orderOfSizes 22 = .ok (.iconst (-1), 1) := by decide +kernel
theorem d_Wh_orderOfSizes_23 : decode b_Wh_orderOfSizes 23 = .ok (.goto 4, 3) := by decide +kernel
theorem d_Wh_orderOfSizes_26 : decode b_Wh_orderOfSizes 26 = .ok (.iconst 1, 1) := by decide +kernel
theorem d_Wh_orderOfSizes_27 : decode b_Wh_orderOfSizes 27 = .ok (.ireturn, 1) := by decide +kernel
theorem d_Wh_orderOfSizes_28 : decode b_Wh_orderOfSizes 28 = .ok (.aload_n 0, 1) := by decide +kernel
theorem d_Wh_orderOfSizes_29 : decode b_Wh_orderOfSizes 29 = .ok (.getfield 29, 3) := by decide +kernel
theorem d_Wh_orderOfSizes_32 : decode b_Wh_orderOfSizes 32 = .ok (.iconst 1, 1) := by decide +kernel
theorem d_Wh_orderOfSizes_33 : decode b_Wh_orderOfSizes 33 = .ok (.isub, 1) := by decide +kernel
theorem d_Wh_orderOfSizes_34 : decode b_Wh_orderOfSizes 34 = .ok (.istore_n 2, 1) := by decide +kernel
theorem d_Wh_orderOfSizes_35 : decode b_Wh_orderOfSizes 35 = .ok (.iload_n 2, 1) := by decide +kernel
theorem d_Wh_orderOfSizes_36 : decode b_Wh_orderOfSizes 36 = .ok (.ifCond .lt 44, 3) := by decide +kernel
theorem d_Wh_orderOfSizes_39 : decode b_Wh_orderOfSizes 39 = .ok (.aload_n 0, 1) := by decide +kernel
theorem d_Wh_orderOfSizes_40 : decode b_Wh_orderOfSizes 40 = .ok (.getfield 9, 3) := by decide +kernel
theorem d_Wh_orderOfSizes_43 : decode b_Wh_orderOfSizes 43 = .ok (.iload_n 2, 1) := by decide +kernel
theorem d_Wh_orderOfSizes_44 : decode b_Wh_orderOfSizes 44 = .ok (.iaload, 1) := by decide +kernel
theorem d_Wh_orderOfSizes_45 : decode b_Wh_orderOfSizes 45 = .ok (.aload_n 1, 1) := by decide +kernel
theorem d_Wh_orderOfSizes_46 : decode b_Wh_orderOfSizes 46 = .ok (.getfield 9, 3) := by decide +kernel
theorem d_Wh_orderOfSizes_49 : decode b_Wh_orderOfSizes 49 = .ok (.iload_n 2, 1) := by decide +kernel
theorem d_Wh_orderOfSizes_50 : decode b_Wh_orderOfSizes 50 = .ok (.iaload, 1) := by decide +kernel
theorem d_Wh_orderOfSizes_51 : decode b_Wh_orderOfSizes 51 = .ok (.if_icmp .eq 23, 3) := by decide +kernel
theorem d_Wh_orderOfSizes_54 : decode b_Wh_orderOfSizes 54 = .ok (.aload_n 0, 1) := by decide +kernel
theorem d_Wh_orderOfSizes_55 : decode b_Wh_orderOfSizes 55 = .ok (.iload_n 2, 1) := by decide +kernel
theorem d_Wh_orderOfSizes_56 : decode b_Wh_orderOfSizes 56 = .ok (.invokevirtual 41, 3) := by decide +kernel
theorem d_Wh_orderOfSizes_59 : decode b_Wh_orderOfSizes 59 = .ok (.aload_n 1, 1) := by decide +kernel
theorem d_Wh_orderOfSizes_60 : decode b_Wh_orderOfSizes 60 = .ok (.iload_n 2, 1) := by decide +kernel
theorem d_Wh_orderOfSizes_61 : decode b_Wh_orderOfSizes 61 = .ok (.invokevirtual 41, 3) := by decide +kernel
theorem d_Wh_orderOfSizes_64 : decode b_Wh_orderOfSizes 64 = .ok (.lcmp, 1) := by decide +kernel
theorem d_Wh_orderOfSizes_65 : decode b_Wh_orderOfSizes 65 = .ok (.ifCond .ge 7, 3) := by decide +kernel
theorem d_Wh_orderOfSizes_68 : decode b_Wh_orderOfSizes 68 = .ok (.iconst (-1), 1) := by decide +kernel
theorem d_Wh_orderOfSizes_69 : decode b_Wh_orderOfSizes 69 = .ok (.goto 4, 3) := by decide +kernel
theorem d_Wh_orderOfSizes_72 : decode b_Wh_orderOfSizes 72 = .ok (.iconst 1, 1) := by decide +kernel
theorem d_Wh_orderOfSizes_73 : decode b_Wh_orderOfSizes 73 = .ok (.ireturn, 1) := by decide +kernel
theorem d_Wh_orderOfSizes_74 : decode b_Wh_orderOfSizes 74 = .ok (.iinc 2 (-1), 3) := by decide +kernel
theorem d_Wh_orderOfSizes_77 : decode b_Wh_orderOfSizes 77 = .ok (.goto (-42), 3) := by decide +kernel
theorem d_Wh_orderOfSizes_80 : decode b_Wh_orderOfSizes 80 = .ok (.iconst 0, 1) := by decide +kernel
theorem d_Wh_orderOfSizes_81 : decode b_Wh_orderOfSizes 81 = .ok (.ireturn, 1) := by decide +kernel
/-! Wh_orderTo: ('CellHeap$Whole', 'orderTo', '(LCellHeap$Whole;)I') -/
abbrev b_Wh_orderTo : ByteArray := prog_8_method_13_code
abbrev y_Wh_orderTo : MethodName := ⟨R_Wh, "orderTo", "(LCellHeap$Whole;)I"⟩
abbrev K_Wh_orderTo := CanI y_Wh_orderTo b_Wh_orderTo 2 ((some .int)) 2 0 0
theorem I_Wh_orderTo {h : HP} {p0 : Nat} {p1 : Nat} {Φ : Int32 → HP → Prop} (body : ∀ X : CX, Cok X b_Wh_orderTo 2 R_Wh ((some .int)) → xR X = rml 2 0 0 → Qok X 0 0 (fun r h2 => ∃ v, r = some (.int v) ∧ Φ v h2) → Wg X 0 0 h [(0, .ref p0), (1, .ref p1)] [] 0) : K_Wh_orderTo [.ref p0, .ref p1] h Φ := Can.intro (by decide) (fun _ => Nat.le_of_ble_eq_true rfl) body
theorem M_Wh_orderTo : Mv y_Wh_orderTo b_Wh_orderTo 2 ((some .int)) 1 0 := ⟨wx_in 946 (by decide +kernel) rfl, wx_in 944 (by decide +kernel) rfl, wx_in 945 (by decide +kernel) rfl, wx_in 70 (by decide +kernel) rfl, by decide +kernel, by decide, by decide, _, _, rfl⟩
theorem d_Wh_orderTo_0 : decode b_Wh_orderTo 0 = .ok (.aload_n 0, 1) := by decide +kernel
theorem d_Wh_orderTo_1 : decode b_Wh_orderTo 1 = .ok (.getfield 15, 3) := by decide +kernel
theorem d_Wh_orderTo_4 : decode b_Wh_orderTo 4 = .ok (.aload_n 1, 1) := by decide +kernel
theorem d_Wh_orderTo_5 : decode b_Wh_orderTo 5 = .ok (.getfield 15, 3) := by decide +kernel
theorem d_Wh_orderTo_8 : decode b_Wh_orderTo 8 = .ok (.if_icmp .eq 16, 3) := by decide +kernel
theorem d_Wh_orderTo_11 : decode b_Wh_orderTo 11 = .ok (.aload_n 0, 1) := by decide +kernel
theorem d_Wh_orderTo_12 : decode b_Wh_orderTo 12 = .ok (.getfield 15, 3) := by decide +kernel
theorem d_Wh_orderTo_15 : decode b_Wh_orderTo 15 = .ok (.ifCond .eq 7, 3) := by decide +kernel
theorem d_Wh_orderTo_18 : decode b_Wh_orderTo 18 = .ok (.iconst (-1), 1) := by decide +kernel
theorem d_Wh_orderTo_19 : decode b_Wh_orderTo 19 = .ok (.goto 4, 3) := by decide +kernel
theorem d_Wh_orderTo_22 : decode b_Wh_orderTo 22 = .ok (.iconst 1, 1) := by decide +kernel
theorem d_Wh_orderTo_23 : decode b_Wh_orderTo 23 = .ok (.ireturn, 1) := by decide +kernel
theorem d_Wh_orderTo_24 : decode b_Wh_orderTo 24 = .ok (.aload_n 0, 1) := by decide +kernel
theorem d_Wh_orderTo_25 : decode b_Wh_orderTo 25 = .ok (.getfield 15, 3) := by decide +kernel
theorem d_Wh_orderTo_28 : decode b_Wh_orderTo 28 = .ok (.ifCond .eq 11, 3) := by decide +kernel
theorem d_Wh_orderTo_31 : decode b_Wh_orderTo 31 = .ok (.aload_n 1, 1) := by decide +kernel
theorem d_Wh_orderTo_32 : decode b_Wh_orderTo 32 = .ok (.aload_n 0, 1) := by decide +kernel
theorem d_Wh_orderTo_33 : decode b_Wh_orderTo 33 = .ok (.invokevirtual 45, 3) := by decide +kernel
theorem d_Wh_orderTo_36 : decode b_Wh_orderTo 36 = .ok (.goto 8, 3) := by decide +kernel
theorem d_Wh_orderTo_39 : decode b_Wh_orderTo 39 = .ok (.aload_n 0, 1) := by decide +kernel
theorem d_Wh_orderTo_40 : decode b_Wh_orderTo 40 = .ok (.aload_n 1, 1) := by decide +kernel
theorem d_Wh_orderTo_41 : decode b_Wh_orderTo 41 = .ok (.invokevirtual 45, 3) := by decide +kernel
theorem d_Wh_orderTo_44 : decode b_Wh_orderTo 44 = .ok (.ireturn, 1) := by decide +kernel
/-! Wh_setSumOfSizes: ('CellHeap$Whole', 'setSumOfSizes', '(LCellHeap$Whole;LCellHeap$Whole;)V') -/
abbrev b_Wh_setSumOfSizes : ByteArray := prog_8_method_15_code
abbrev y_Wh_setSumOfSizes : MethodName := ⟨R_Wh, "setSumOfSizes", "(LCellHeap$Whole;LCellHeap$Whole;)V"⟩
abbrev K_Wh_setSumOfSizes := CanV y_Wh_setSumOfSizes b_Wh_setSumOfSizes 7 none 2 0 0
theorem I_Wh_setSumOfSizes {h : HP} {p0 : Nat} {p1 : Nat} {p2 : Nat} {Φ : HP → Prop} (body : ∀ X : CX, Cok X b_Wh_setSumOfSizes 7 R_Wh none → xR X = rml 2 0 0 → Qok X 0 0 (fun r h2 => r = none ∧ Φ h2) → Wg X 0 0 h [(0, .ref p0), (1, .ref p1), (2, .ref p2)] [] 0) : K_Wh_setSumOfSizes [.ref p0, .ref p1, .ref p2] h Φ := Can.intro (by decide) (fun _ => Nat.le_of_ble_eq_true rfl) body
theorem M_Wh_setSumOfSizes : Mv y_Wh_setSumOfSizes b_Wh_setSumOfSizes 7 none 2 0 := ⟨wx_in 920 (by decide +kernel) rfl, wx_in 919 (by decide +kernel) rfl, wx_in 14 (by decide +kernel) rfl, wx_in 70 (by decide +kernel) rfl, by decide +kernel, by decide, by decide, _, _, rfl⟩
theorem d_Wh_setSumOfSizes_0 : decode b_Wh_setSumOfSizes 0 = .ok (.aload_n 1, 1) := by decide +kernel
theorem d_Wh_setSumOfSizes_1 : decode b_Wh_setSumOfSizes 1 = .ok (.getfield 29, 3) := by decide +kernel
theorem d_Wh_setSumOfSizes_4 : decode b_Wh_setSumOfSizes 4 = .ok (.aload_n 2, 1) := by decide +kernel
theorem d_Wh_setSumOfSizes_5 : decode b_Wh_setSumOfSizes 5 = .ok (.getfield 29, 3) := by decide +kernel
theorem d_Wh_setSumOfSizes_8 : decode b_Wh_setSumOfSizes 8 = .ok (.invokestatic 56, 3) := by decide +kernel
theorem d_Wh_setSumOfSizes_11 : decode b_Wh_setSumOfSizes 11 = .ok (.istore_n 3, 1) := by decide +kernel
theorem d_Wh_setSumOfSizes_12 : decode b_Wh_setSumOfSizes 12 = .ok (.lconst 0, 1) := by decide +kernel
theorem d_Wh_setSumOfSizes_13 : decode b_Wh_setSumOfSizes 13 = .ok (.lstore 4, 2) := by decide +kernel
theorem d_Wh_setSumOfSizes_15 : decode b_Wh_setSumOfSizes 15 = .ok (.iconst 0, 1) := by decide +kernel
theorem d_Wh_setSumOfSizes_16 : decode b_Wh_setSumOfSizes 16 = .ok (.istore 6, 2) := by decide +kernel
theorem d_Wh_setSumOfSizes_18 : decode b_Wh_setSumOfSizes 18 = .ok (.iload 6, 2) := by decide +kernel
theorem d_Wh_setSumOfSizes_20 : decode b_Wh_setSumOfSizes 20 = .ok (.iload_n 3, 1) := by decide +kernel
theorem d_Wh_setSumOfSizes_21 : decode b_Wh_setSumOfSizes 21 = .ok (.if_icmp .ge 44, 3) := by decide +kernel
theorem d_Wh_setSumOfSizes_24 : decode b_Wh_setSumOfSizes 24 = .ok (.lload 4, 2) := by decide +kernel
theorem d_Wh_setSumOfSizes_26 : decode b_Wh_setSumOfSizes 26 = .ok (.aload_n 1, 1) := by decide +kernel
theorem d_Wh_setSumOfSizes_27 : decode b_Wh_setSumOfSizes 27 = .ok (.iload 6, 2) := by decide +kernel
theorem d_Wh_setSumOfSizes_29 : decode b_Wh_setSumOfSizes 29 = .ok (.invokevirtual 41, 3) := by decide +kernel
theorem d_Wh_setSumOfSizes_32 : decode b_Wh_setSumOfSizes 32 = .ok (.aload_n 2, 1) := by decide +kernel
theorem d_Wh_setSumOfSizes_33 : decode b_Wh_setSumOfSizes 33 = .ok (.iload 6, 2) := by decide +kernel
theorem d_Wh_setSumOfSizes_35 : decode b_Wh_setSumOfSizes 35 = .ok (.invokevirtual 41, 3) := by decide +kernel
theorem d_Wh_setSumOfSizes_38 : decode b_Wh_setSumOfSizes 38 = .ok (.ladd, 1) := by decide +kernel
theorem d_Wh_setSumOfSizes_39 : decode b_Wh_setSumOfSizes 39 = .ok (.ladd, 1) := by decide +kernel
theorem d_Wh_setSumOfSizes_40 : decode b_Wh_setSumOfSizes 40 = .ok (.lstore 4, 2) := by decide +kernel
theorem d_Wh_setSumOfSizes_42 : decode b_Wh_setSumOfSizes 42 = .ok (.aload_n 0, 1) := by decide +kernel
theorem d_Wh_setSumOfSizes_43 : decode b_Wh_setSumOfSizes 43 = .ok (.getfield 9, 3) := by decide +kernel
theorem d_Wh_setSumOfSizes_46 : decode b_Wh_setSumOfSizes 46 = .ok (.iload 6, 2) := by decide +kernel
theorem d_Wh_setSumOfSizes_48 : decode b_Wh_setSumOfSizes 48 = .ok (.lload 4, 2) := by decide +kernel
theorem d_Wh_setSumOfSizes_50 : decode b_Wh_setSumOfSizes 50 = .ok (.l2i, 1) := by decide +kernel
theorem d_Wh_setSumOfSizes_51 : decode b_Wh_setSumOfSizes 51 = .ok (.iastore, 1) := by decide +kernel
theorem d_Wh_setSumOfSizes_52 : decode b_Wh_setSumOfSizes 52 = .ok (.lload 4, 2) := by decide +kernel
theorem d_Wh_setSumOfSizes_54 : decode b_Wh_setSumOfSizes 54 = .ok (.bipush 32, 2) := by decide +kernel
theorem d_Wh_setSumOfSizes_56 : decode b_Wh_setSumOfSizes 56 = .ok (.lushr, 1) := by decide +kernel
theorem d_Wh_setSumOfSizes_57 : decode b_Wh_setSumOfSizes 57 = .ok (.lstore 4, 2) := by decide +kernel
theorem d_Wh_setSumOfSizes_59 : decode b_Wh_setSumOfSizes 59 = .ok (.iinc 6 1, 3) := by decide +kernel
theorem d_Wh_setSumOfSizes_62 : decode b_Wh_setSumOfSizes 62 = .ok (.goto (-44), 3) := by decide +kernel
theorem d_Wh_setSumOfSizes_65 : decode b_Wh_setSumOfSizes 65 = .ok (.aload_n 0, 1) := by decide +kernel
theorem d_Wh_setSumOfSizes_66 : decode b_Wh_setSumOfSizes 66 = .ok (.getfield 9, 3) := by decide +kernel
theorem d_Wh_setSumOfSizes_69 : decode b_Wh_setSumOfSizes 69 = .ok (.iload_n 3, 1) := by decide +kernel
theorem d_Wh_setSumOfSizes_70 : decode b_Wh_setSumOfSizes 70 = .ok (.lload 4, 2) := by decide +kernel
theorem d_Wh_setSumOfSizes_72 : decode b_Wh_setSumOfSizes 72 = .ok (.l2i, 1) := by decide +kernel
theorem d_Wh_setSumOfSizes_73 : decode b_Wh_setSumOfSizes 73 = .ok (.iastore, 1) := by decide +kernel
theorem d_Wh_setSumOfSizes_74 : decode b_Wh_setSumOfSizes 74 = .ok (.aload_n 0, 1) := by decide +kernel
theorem d_Wh_setSumOfSizes_75 : decode b_Wh_setSumOfSizes 75 = .ok (.iload_n 3, 1) := by decide +kernel
theorem d_Wh_setSumOfSizes_76 : decode b_Wh_setSumOfSizes 76 = .ok (.iconst 1, 1) := by decide +kernel
theorem d_Wh_setSumOfSizes_77 : decode b_Wh_setSumOfSizes 77 = .ok (.iadd, 1) := by decide +kernel
theorem d_Wh_setSumOfSizes_78 : decode b_Wh_setSumOfSizes 78 = .ok (.invokevirtual 19, 3) := by decide +kernel
theorem d_Wh_setSumOfSizes_81 : decode b_Wh_setSumOfSizes 81 = .ok (.return_, 1) := by decide +kernel
/-! Wh_setDifferenceOfSizes: ('CellHeap$Whole', 'setDifferenceOfSizes', '(LCellHeap$Whole;LCellHeap$Whole;)V') -/
abbrev b_Wh_setDifferenceOfSizes : ByteArray := prog_8_method_16_code
abbrev y_Wh_setDifferenceOfSizes : MethodName := ⟨R_Wh, "setDifferenceOfSizes", "(LCellHeap$Whole;LCellHeap$Whole;)V"⟩
abbrev K_Wh_setDifferenceOfSizes := CanV y_Wh_setDifferenceOfSizes b_Wh_setDifferenceOfSizes 9 none 1 0 0
theorem I_Wh_setDifferenceOfSizes {h : HP} {p0 : Nat} {p1 : Nat} {p2 : Nat} {Φ : HP → Prop} (body : ∀ X : CX, Cok X b_Wh_setDifferenceOfSizes 9 R_Wh none → xR X = rml 1 0 0 → Qok X 0 0 (fun r h2 => r = none ∧ Φ h2) → Wg X 0 0 h [(0, .ref p0), (1, .ref p1), (2, .ref p2)] [] 0) : K_Wh_setDifferenceOfSizes [.ref p0, .ref p1, .ref p2] h Φ := Can.intro (by decide) (fun _ => Nat.le_of_ble_eq_true rfl) body
theorem M_Wh_setDifferenceOfSizes : Mv y_Wh_setDifferenceOfSizes b_Wh_setDifferenceOfSizes 9 none 2 0 := ⟨wx_in 926 (by decide +kernel) rfl, wx_in 925 (by decide +kernel) rfl, wx_in 15 (by decide +kernel) rfl, wx_in 70 (by decide +kernel) rfl, by decide +kernel, by decide, by decide, _, _, rfl⟩
theorem d_Wh_setDifferenceOfSizes_0 : decode b_Wh_setDifferenceOfSizes 0 = .ok (.aload_n 1, 1) := by decide +kernel
theorem d_Wh_setDifferenceOfSizes_1 : decode b_Wh_setDifferenceOfSizes 1 = .ok (.getfield 29, 3) := by decide +kernel
theorem d_Wh_setDifferenceOfSizes_4 : decode b_Wh_setDifferenceOfSizes 4 = .ok (.istore_n 3, 1) := by decide +kernel
theorem d_Wh_setDifferenceOfSizes_5 : decode b_Wh_setDifferenceOfSizes 5 = .ok (.lconst 0, 1) := by decide +kernel
theorem d_Wh_setDifferenceOfSizes_6 : decode b_Wh_setDifferenceOfSizes 6 = .ok (.lstore 4, 2) := by decide +kernel
theorem d_Wh_setDifferenceOfSizes_8 : decode b_Wh_setDifferenceOfSizes 8 = .ok (.iconst 0, 1) := by decide +kernel
theorem d_Wh_setDifferenceOfSizes_9 : decode b_Wh_setDifferenceOfSizes 9 = .ok (.istore 6, 2) := by decide +kernel
theorem d_Wh_setDifferenceOfSizes_11 : decode b_Wh_setDifferenceOfSizes 11 = .ok (.iload 6, 2) := by decide +kernel
theorem d_Wh_setDifferenceOfSizes_13 : decode b_Wh_setDifferenceOfSizes 13 = .ok (.iload_n 3, 1) := by decide +kernel
theorem d_Wh_setDifferenceOfSizes_14 : decode b_Wh_setDifferenceOfSizes 14 = .ok (.if_icmp .ge 51, 3) := by decide +kernel
theorem d_Wh_setDifferenceOfSizes_17 : decode b_Wh_setDifferenceOfSizes 17 = .ok (.aload_n 1, 1) := by decide +kernel
theorem d_Wh_setDifferenceOfSizes_18 : decode b_Wh_setDifferenceOfSizes 18 = .ok (.iload 6, 2) := by decide +kernel
theorem d_Wh_setDifferenceOfSizes_20 : decode b_Wh_setDifferenceOfSizes 20 = .ok (.invokevirtual 41, 3) := by decide +kernel
theorem d_Wh_setDifferenceOfSizes_23 : decode b_Wh_setDifferenceOfSizes 23 = .ok (.aload_n 2, 1) := by decide +kernel
theorem d_Wh_setDifferenceOfSizes_24 : decode b_Wh_setDifferenceOfSizes 24 = .ok (.iload 6, 2) := by decide +kernel
theorem d_Wh_setDifferenceOfSizes_26 : decode b_Wh_setDifferenceOfSizes 26 = .ok (.invokevirtual 41, 3) := by decide +kernel
theorem d_Wh_setDifferenceOfSizes_29 : decode b_Wh_setDifferenceOfSizes 29 = .ok (.lsub, 1) := by decide +kernel
theorem d_Wh_setDifferenceOfSizes_30 : decode b_Wh_setDifferenceOfSizes 30 = .ok (.lload 4, 2) := by decide +kernel
theorem d_Wh_setDifferenceOfSizes_32 : decode b_Wh_setDifferenceOfSizes 32 = .ok (.lsub, 1) := by decide +kernel
theorem d_Wh_setDifferenceOfSizes_33 : decode b_Wh_setDifferenceOfSizes 33 = .ok (.lstore 7, 2) := by decide +kernel
theorem d_Wh_setDifferenceOfSizes_35 : decode b_Wh_setDifferenceOfSizes 35 = .ok (.aload_n 0, 1) := by decide +kernel
theorem d_Wh_setDifferenceOfSizes_36 : decode b_Wh_setDifferenceOfSizes 36 = .ok (.getfield 9, 3) := by decide +kernel
theorem d_Wh_setDifferenceOfSizes_39 : decode b_Wh_setDifferenceOfSizes 39 = .ok (.iload 6, 2) := by decide +kernel
theorem d_Wh_setDifferenceOfSizes_41 : decode b_Wh_setDifferenceOfSizes 41 = .ok (.lload 7, 2) := by decide +kernel
theorem d_Wh_setDifferenceOfSizes_43 : decode b_Wh_setDifferenceOfSizes 43 = .ok (.l2i, 1) := by decide +kernel
theorem d_Wh_setDifferenceOfSizes_44 : decode b_Wh_setDifferenceOfSizes 44 = .ok (.iastore, 1) := by decide +kernel
theorem d_Wh_setDifferenceOfSizes_45 : decode b_Wh_setDifferenceOfSizes 45 = .ok (.lload 7, 2) := by decide +kernel
theorem d_Wh_setDifferenceOfSizes_47 : decode b_Wh_setDifferenceOfSizes 47 = .ok (.lconst 0, 1) := by decide +kernel
theorem d_Wh_setDifferenceOfSizes_48 : decode b_Wh_setDifferenceOfSizes 48 = .ok (.lcmp, 1) := by decide +kernel
theorem d_Wh_setDifferenceOfSizes_49 : decode b_Wh_setDifferenceOfSizes 49 = .ok (.ifCond .ge 7, 3) := by decide +kernel
theorem d_Wh_setDifferenceOfSizes_52 : decode b_Wh_setDifferenceOfSizes 52 = .ok (.lconst 1, 1) := by decide +kernel
theorem d_Wh_setDifferenceOfSizes_53 : decode b_Wh_setDifferenceOfSizes 53 = .ok (.goto 4, 3) := by decide +kernel
theorem d_Wh_setDifferenceOfSizes_56 : decode b_Wh_setDifferenceOfSizes 56 = .ok (.lconst 0, 1) := by decide +kernel
theorem d_Wh_setDifferenceOfSizes_57 : decode b_Wh_setDifferenceOfSizes 57 = .ok (.lstore 4, 2) := by decide +kernel
theorem d_Wh_setDifferenceOfSizes_59 : decode b_Wh_setDifferenceOfSizes 59 = .ok (.iinc 6 1, 3) := by decide +kernel
theorem d_Wh_setDifferenceOfSizes_62 : decode b_Wh_setDifferenceOfSizes 62 = .ok (.goto (-51), 3) := by decide +kernel
theorem d_Wh_setDifferenceOfSizes_65 : decode b_Wh_setDifferenceOfSizes 65 = .ok (.aload_n 0, 1) := by decide +kernel
theorem d_Wh_setDifferenceOfSizes_66 : decode b_Wh_setDifferenceOfSizes 66 = .ok (.iload_n 3, 1) := by decide +kernel
theorem d_Wh_setDifferenceOfSizes_67 : decode b_Wh_setDifferenceOfSizes 67 = .ok (.invokevirtual 19, 3) := by decide +kernel
theorem d_Wh_setDifferenceOfSizes_70 : decode b_Wh_setDifferenceOfSizes 70 = .ok (.return_, 1) := by decide +kernel
/-! Wh_setSum: ('CellHeap$Whole', 'setSum', '(LCellHeap$Whole;LCellHeap$Whole;)V') -/
abbrev b_Wh_setSum : ByteArray := prog_8_method_14_code
abbrev y_Wh_setSum : MethodName := ⟨R_Wh, "setSum", "(LCellHeap$Whole;LCellHeap$Whole;)V"⟩
abbrev K_Wh_setSum := CanV y_Wh_setSum b_Wh_setSum 5 none 3 0 0
theorem I_Wh_setSum {h : HP} {p0 : Nat} {p1 : Nat} {p2 : Nat} {Φ : HP → Prop} (body : ∀ X : CX, Cok X b_Wh_setSum 5 R_Wh none → xR X = rml 3 0 0 → Qok X 0 0 (fun r h2 => r = none ∧ Φ h2) → Wg X 0 0 h [(0, .ref p0), (1, .ref p1), (2, .ref p2)] [] 0) : K_Wh_setSum [.ref p0, .ref p1, .ref p2] h Φ := Can.intro (by decide) (fun _ => Nat.le_of_ble_eq_true rfl) body
theorem M_Wh_setSum : Mv y_Wh_setSum b_Wh_setSum 5 none 2 0 := ⟨wx_in 916 (by decide +kernel) rfl, wx_in 914 (by decide +kernel) rfl, wx_in 915 (by decide +kernel) rfl, wx_in 70 (by decide +kernel) rfl, by decide +kernel, by decide, by decide, _, _, rfl⟩
theorem d_Wh_setSum_0 : decode b_Wh_setSum 0 = .ok (.aload_n 1, 1) := by decide +kernel
theorem d_Wh_setSum_1 : decode b_Wh_setSum 1 = .ok (.getfield 15, 3) := by decide +kernel
theorem d_Wh_setSum_4 : decode b_Wh_setSum 4 = .ok (.istore_n 3, 1) := by decide +kernel
theorem d_Wh_setSum_5 : decode b_Wh_setSum 5 = .ok (.aload_n 2, 1) := by decide +kernel
theorem d_Wh_setSum_6 : decode b_Wh_setSum 6 = .ok (.getfield 15, 3) := by decide +kernel
theorem d_Wh_setSum_9 : decode b_Wh_setSum 9 = .ok (.istore 4, 2) := by decide +kernel
theorem d_Wh_setSum_11 : decode b_Wh_setSum 11 = .ok (.iload_n 3, 1) := by decide +kernel
theorem d_Wh_setSum_12 : decode b_Wh_setSum 12 = .ok (.iload 4, 2) := by decide +kernel
theorem d_Wh_setSum_14 : decode b_Wh_setSum 14 = .ok (.if_icmp .ne 17, 3) := by decide +kernel
theorem d_Wh_setSum_17 : decode b_Wh_setSum 17 = .ok (.aload_n 0, 1) := by decide +kernel
theorem d_Wh_setSum_18 : decode b_Wh_setSum 18 = .ok (.iload_n 3, 1) := by decide +kernel
theorem d_Wh_setSum_19 : decode b_Wh_setSum 19 = .ok (.putfield 15, 3) := by decide +kernel
theorem d_Wh_setSum_22 : decode b_Wh_setSum 22 = .ok (.aload_n 0, 1) := by decide +kernel
theorem d_Wh_setSum_23 : decode b_Wh_setSum 23 = .ok (.aload_n 1, 1) := by decide +kernel
theorem d_Wh_setSum_24 : decode b_Wh_setSum 24 = .ok (.aload_n 2, 1) := by decide +kernel
theorem d_Wh_setSum_25 : decode b_Wh_setSum 25 = .ok (.invokevirtual 49, 3) := by decide +kernel
theorem d_Wh_setSum_28 : decode b_Wh_setSum 28 = .ok (.goto 37, 3) := by decide +kernel
theorem d_Wh_setSum_31 : decode b_Wh_setSum 31 = .ok (.aload_n 1, 1) := by decide +kernel
theorem d_Wh_setSum_32 : decode b_Wh_setSum 32 = .ok (.aload_n 2, 1) := by decide +kernel
theorem d_Wh_setSum_33 : decode b_Wh_setSum 33 = .ok (.invokevirtual 45, 3) := by decide +kernel
theorem d_Wh_setSum_36 : decode b_Wh_setSum 36 = .ok (.ifCond .lt 17, 3) := by decide +kernel
theorem d_Wh_setSum_39 : decode b_Wh_setSum 39 = .ok (.aload_n 0, 1) := by decide +kernel
theorem d_Wh_setSum_40 : decode b_Wh_setSum 40 = .ok (.iload_n 3, 1) := by decide +kernel
theorem d_Wh_setSum_41 : decode b_Wh_setSum 41 = .ok (.putfield 15, 3) := by decide +kernel
theorem d_Wh_setSum_44 : decode b_Wh_setSum 44 = .ok (.aload_n 0, 1) := by decide +kernel
theorem d_Wh_setSum_45 : decode b_Wh_setSum 45 = .ok (.aload_n 1, 1) := by decide +kernel
theorem d_Wh_setSum_46 : decode b_Wh_setSum 46 = .ok (.aload_n 2, 1) := by decide +kernel
theorem d_Wh_setSum_47 : decode b_Wh_setSum 47 = .ok (.invokevirtual 53, 3) := by decide +kernel
theorem d_Wh_setSum_50 : decode b_Wh_setSum 50 = .ok (.goto 15, 3) := by decide +kernel
theorem d_Wh_setSum_53 : decode b_Wh_setSum 53 = .ok (.aload_n 0, 1) := by decide +kernel
theorem d_Wh_setSum_54 : decode b_Wh_setSum 54 = .ok (.iload 4, 2) := by decide +kernel
theorem d_Wh_setSum_56 : decode b_Wh_setSum 56 = .ok (.putfield 15, 3) := by decide +kernel
theorem d_Wh_setSum_59 : decode b_Wh_setSum 59 = .ok (.aload_n 0, 1) := by decide +kernel
theorem d_Wh_setSum_60 : decode b_Wh_setSum 60 = .ok (.aload_n 2, 1) := by decide +kernel
theorem d_Wh_setSum_61 : decode b_Wh_setSum 61 = .ok (.aload_n 1, 1) := by decide +kernel
theorem d_Wh_setSum_62 : decode b_Wh_setSum 62 = .ok (.invokevirtual 53, 3) := by decide +kernel
theorem d_Wh_setSum_65 : decode b_Wh_setSum 65 = .ok (.return_, 1) := by decide +kernel
/-! Wh_setProduct: ('CellHeap$Whole', 'setProduct', '(LCellHeap$Whole;LCellHeap$Whole;)V') -/
abbrev b_Wh_setProduct : ByteArray := prog_8_method_17_code
abbrev y_Wh_setProduct : MethodName := ⟨R_Wh, "setProduct", "(LCellHeap$Whole;LCellHeap$Whole;)V"⟩
abbrev K_Wh_setProduct := CanV y_Wh_setProduct b_Wh_setProduct 8 none 11 0 0
theorem I_Wh_setProduct {h : HP} {p0 : Nat} {p1 : Nat} {p2 : Nat} {Φ : HP → Prop} (body : ∀ X : CX, Cok X b_Wh_setProduct 8 R_Wh none → xR X = rml 11 0 0 → Qok X 0 0 (fun r h2 => r = none ∧ Φ h2) → Wg X 0 0 h [(0, .ref p0), (1, .ref p1), (2, .ref p2)] [] 0) : K_Wh_setProduct [.ref p0, .ref p1, .ref p2] h Φ := Can.intro (by decide) (fun _ => Nat.le_of_ble_eq_true rfl) body
theorem M_Wh_setProduct : Mv y_Wh_setProduct b_Wh_setProduct 8 none 2 0 := ⟨wx_in 650 (by decide +kernel) rfl, wx_in 648 (by decide +kernel) rfl, wx_in 649 (by decide +kernel) rfl, wx_in 70 (by decide +kernel) rfl, by decide +kernel, by decide, by decide, _, _, rfl⟩
theorem d_Wh_setProduct_0 : decode b_Wh_setProduct 0 = .ok (.aload_n 1, 1) := by decide +kernel
theorem d_Wh_setProduct_1 : decode b_Wh_setProduct 1 = .ok (.getfield 29, 3) := by decide +kernel
theorem d_Wh_setProduct_4 : decode b_Wh_setProduct 4 = .ok (.aload_n 2, 1) := by decide +kernel
theorem d_Wh_setProduct_5 : decode b_Wh_setProduct 5 = .ok (.getfield 29, 3) := by decide +kernel
theorem d_Wh_setProduct_8 : decode b_Wh_setProduct 8 = .ok (.iadd, 1) := by decide +kernel
theorem d_Wh_setProduct_9 : decode b_Wh_setProduct 9 = .ok (.istore_n 3, 1) := by decide +kernel
theorem d_Wh_setProduct_10 : decode b_Wh_setProduct 10 = .ok (.aload_n 0, 1) := by decide +kernel
theorem d_Wh_setProduct_11 : decode b_Wh_setProduct 11 = .ok (.getfield 9, 3) := by decide +kernel
theorem d_Wh_setProduct_14 : decode b_Wh_setProduct 14 = .ok (.iconst 0, 1) := by decide +kernel
theorem d_Wh_setProduct_15 : decode b_Wh_setProduct 15 = .ok (.iload_n 3, 1) := by decide +kernel
theorem d_Wh_setProduct_16 : decode b_Wh_setProduct 16 = .ok (.iconst 0, 1) := by decide +kernel
theorem d_Wh_setProduct_17 : decode b_Wh_setProduct 17 = .ok (.invokestatic 62, 3) := by decide +kernel
theorem d_Wh_setProduct_20 : decode b_Wh_setProduct 20 = .ok (.iconst 0, 1) := by decide +kernel
theorem d_Wh_setProduct_21 : decode b_Wh_setProduct 21 = .ok (.istore 4, 2) := by decide +kernel
theorem d_Wh_setProduct_23 : decode b_Wh_setProduct 23 = .ok (.iload 4, 2) := by decide +kernel
theorem d_Wh_setProduct_25 : decode b_Wh_setProduct 25 = .ok (.aload_n 1, 1) := by decide +kernel
theorem d_Wh_setProduct_26 : decode b_Wh_setProduct 26 = .ok (.getfield 29, 3) := by decide +kernel
theorem d_Wh_setProduct_29 : decode b_Wh_setProduct 29 = .ok (.if_icmp .ge 99, 3) := by decide +kernel
theorem d_Wh_setProduct_32 : decode b_Wh_setProduct 32 = .ok (.lconst 0, 1) := by decide +kernel
theorem d_Wh_setProduct_33 : decode b_Wh_setProduct 33 = .ok (.lstore 5, 2) := by decide +kernel
theorem d_Wh_setProduct_35 : decode b_Wh_setProduct 35 = .ok (.iconst 0, 1) := by decide +kernel
theorem d_Wh_setProduct_36 : decode b_Wh_setProduct 36 = .ok (.istore 7, 2) := by decide +kernel
theorem d_Wh_setProduct_38 : decode b_Wh_setProduct 38 = .ok (.iload 7, 2) := by decide +kernel
theorem d_Wh_setProduct_40 : decode b_Wh_setProduct 40 = .ok (.aload_n 2, 1) := by decide +kernel
theorem d_Wh_setProduct_41 : decode b_Wh_setProduct 41 = .ok (.getfield 29, 3) := by decide +kernel
theorem d_Wh_setProduct_44 : decode b_Wh_setProduct 44 = .ok (.if_icmp .ge 63, 3) := by decide +kernel
theorem d_Wh_setProduct_47 : decode b_Wh_setProduct 47 = .ok (.lload 5, 2) := by decide +kernel
theorem d_Wh_setProduct_49 : decode b_Wh_setProduct 49 = .ok (.aload_n 1, 1) := by decide +kernel
theorem d_Wh_setProduct_50 : decode b_Wh_setProduct 50 = .ok (.iload 4, 2) := by decide +kernel
theorem d_Wh_setProduct_52 : decode b_Wh_setProduct 52 = .ok (.invokevirtual 41, 3) := by decide +kernel
theorem d_Wh_setProduct_55 : decode b_Wh_setProduct 55 = .ok (.aload_n 2, 1) := by decide +kernel
theorem d_Wh_setProduct_56 : decode b_Wh_setProduct 56 = .ok (.iload 7, 2) := by decide +kernel
theorem d_Wh_setProduct_58 : decode b_Wh_setProduct 58 = .ok (.invokevirtual 41, 3) := by decide +kernel
theorem d_Wh_setProduct_61 : decode b_Wh_setProduct 61 = .ok (.lmul, 1) := by decide +kernel
theorem d_Wh_setProduct_62 : decode b_Wh_setProduct 62 = .ok (.aload_n 0, 1) := by decide +kernel
theorem d_Wh_setProduct_63 : decode b_Wh_setProduct 63 = .ok (.getfield 9, 3) := by decide +kernel
theorem d_Wh_setProduct_66 : decode b_Wh_setProduct 66 = .ok (.iload 4, 2) := by decide +kernel
theorem d_Wh_setProduct_68 : decode b_Wh_setProduct 68 = .ok (.iload 7, 2) := by decide +kernel
theorem d_Wh_setProduct_70 : decode b_Wh_setProduct 70 = .ok (.iadd, 1) := by decide +kernel
theorem d_Wh_setProduct_71 : decode b_Wh_setProduct 71 = .ok (.iaload, 1) := by decide +kernel
theorem d_Wh_setProduct_72 : decode b_Wh_setProduct 72 = .ok (.i2l, 1) := by decide +kernel
theorem d_Wh_setProduct_73 : decode b_Wh_setProduct 73 = .ok (.ldc2_w 39, 3) := by decide +kernel
theorem d_Wh_setProduct_76 : decode b_Wh_setProduct 76 = .ok (.land, 1) := by decide +kernel
theorem d_Wh_setProduct_77 : decode b_Wh_setProduct 77 = .ok (.ladd, 1) := by decide +kernel
theorem d_Wh_setProduct_78 : decode b_Wh_setProduct 78 = .ok (.ladd, 1) := by decide +kernel
theorem d_Wh_setProduct_79 : decode b_Wh_setProduct 79 = .ok (.lstore 5, 2) := by decide +kernel
theorem d_Wh_setProduct_81 : decode b_Wh_setProduct 81 = .ok (.aload_n 0, 1) := by decide +kernel
theorem d_Wh_setProduct_82 : decode b_Wh_setProduct 82 = .ok (.getfield 9, 3) := by decide +kernel
theorem d_Wh_setProduct_85 : decode b_Wh_setProduct 85 = .ok (.iload 4, 2) := by decide +kernel
theorem d_Wh_setProduct_87 : decode b_Wh_setProduct 87 = .ok (.iload 7, 2) := by decide +kernel
theorem d_Wh_setProduct_89 : decode b_Wh_setProduct 89 = .ok (.iadd, 1) := by decide +kernel
theorem d_Wh_setProduct_90 : decode b_Wh_setProduct 90 = .ok (.lload 5, 2) := by decide +kernel
theorem d_Wh_setProduct_92 : decode b_Wh_setProduct 92 = .ok (.l2i, 1) := by decide +kernel
theorem d_Wh_setProduct_93 : decode b_Wh_setProduct 93 = .ok (.iastore, 1) := by decide +kernel
theorem d_Wh_setProduct_94 : decode b_Wh_setProduct 94 = .ok (.lload 5, 2) := by decide +kernel
theorem d_Wh_setProduct_96 : decode b_Wh_setProduct 96 = .ok (.bipush 32, 2) := by decide +kernel
theorem d_Wh_setProduct_98 : decode b_Wh_setProduct 98 = .ok (.lushr, 1) := by decide +kernel
theorem d_Wh_setProduct_99 : decode b_Wh_setProduct 99 = .ok (.lstore 5, 2) := by decide +kernel
theorem d_Wh_setProduct_101 : decode b_Wh_setProduct 101 = .ok (.iinc 7 1, 3) := by decide +kernel
theorem d_Wh_setProduct_104 : decode b_Wh_setProduct 104 = .ok (.goto (-66), 3) := by decide +kernel
theorem d_Wh_setProduct_107 : decode b_Wh_setProduct 107 = .ok (.aload_n 0, 1) := by decide +kernel
theorem d_Wh_setProduct_108 : decode b_Wh_setProduct 108 = .ok (.getfield 9, 3) := by decide +kernel
theorem d_Wh_setProduct_111 : decode b_Wh_setProduct 111 = .ok (.iload 4, 2) := by decide +kernel
theorem d_Wh_setProduct_113 : decode b_Wh_setProduct 113 = .ok (.aload_n 2, 1) := by decide +kernel
theorem d_Wh_setProduct_114 : decode b_Wh_setProduct 114 = .ok (.getfield 29, 3) := by decide +kernel
theorem d_Wh_setProduct_117 : decode b_Wh_setProduct 117 = .ok (.iadd, 1) := by decide +kernel
theorem d_Wh_setProduct_118 : decode b_Wh_setProduct 118 = .ok (.lload 5, 2) := by decide +kernel
theorem d_Wh_setProduct_120 : decode b_Wh_setProduct 120 = .ok (.l2i, 1) := by decide +kernel
theorem d_Wh_setProduct_121 : decode b_Wh_setProduct 121 = .ok (.iastore, 1) := by decide +kernel
theorem d_Wh_setProduct_122 : decode b_Wh_setProduct 122 = .ok (.iinc 4 1, 3) := by decide +kernel
theorem d_Wh_setProduct_125 : decode b_Wh_setProduct 125 = .ok (.goto (-102), 3) := by decide +kernel
theorem d_Wh_setProduct_128 : decode b_Wh_setProduct 128 = .ok (.aload_n 0, 1) := by decide +kernel
theorem d_Wh_setProduct_129 : decode b_Wh_setProduct 129 = .ok (.aload_n 1, 1) := by decide +kernel
theorem d_Wh_setProduct_130 : decode b_Wh_setProduct 130 = .ok (.getfield 15, 3) := by decide +kernel
theorem d_Wh_setProduct_133 : decode b_Wh_setProduct 133 = .ok (.aload_n 2, 1) := by decide +kernel
theorem d_Wh_setProduct_134 : decode b_Wh_setProduct 134 = .ok (.getfield 15, 3) := by decide +kernel
theorem d_Wh_setProduct_137 : decode b_Wh_setProduct 137 = .ok (.if_icmp .eq 7, 3) := by decide +kernel
theorem d_Wh_setProduct_140 : decode b_Wh_setProduct 140 = .ok (.iconst 1, 1) := by decide +kernel
theorem d_Wh_setProduct_141 : decode b_Wh_setProduct 141 = .ok (.goto 4, 3) := by decide +kernel
theorem d_Wh_setProduct_144 : decode b_Wh_setProduct 144 = .ok (.iconst 0, 1) := by decide +kernel
theorem d_Wh_setProduct_145 : decode b_Wh_setProduct 145 = .ok (.putfield 15, 3) := by decide +kernel
theorem d_Wh_setProduct_148 : decode b_Wh_setProduct 148 = .ok (.aload_n 0, 1) := by decide +kernel
theorem d_Wh_setProduct_149 : decode b_Wh_setProduct 149 = .ok (.iload_n 3, 1) := by decide +kernel
theorem d_Wh_setProduct_150 : decode b_Wh_setProduct 150 = .ok (.invokevirtual 19, 3) := by decide +kernel
theorem d_Wh_setProduct_153 : decode b_Wh_setProduct 153 = .ok (.return_, 1) := by decide +kernel
/-! Wh_multiplyBy10AndAdd: ('CellHeap$Whole', 'multiplyBy10AndAdd', '(I)V') -/
abbrev b_Wh_multiplyBy10AndAdd : ByteArray := prog_8_method_18_code
abbrev y_Wh_multiplyBy10AndAdd : MethodName := ⟨R_Wh, "multiplyBy10AndAdd", "(I)V"⟩
abbrev K_Wh_multiplyBy10AndAdd := CanV y_Wh_multiplyBy10AndAdd b_Wh_multiplyBy10AndAdd 5 none 1 0 0
theorem I_Wh_multiplyBy10AndAdd {h : HP} {p0 : Nat} {v1 : Int32} {Φ : HP → Prop} (body : ∀ X : CX, Cok X b_Wh_multiplyBy10AndAdd 5 R_Wh none → xR X = rml 1 0 0 → Qok X 0 0 (fun r h2 => r = none ∧ Φ h2) → Wg X 0 0 h [(0, .ref p0), (1, .int v1)] [] 0) : K_Wh_multiplyBy10AndAdd [.ref p0, .int v1] h Φ := Can.intro (by decide) (fun _ => Nat.le_of_ble_eq_true rfl) body
theorem M_Wh_multiplyBy10AndAdd : Mv y_Wh_multiplyBy10AndAdd b_Wh_multiplyBy10AndAdd 5 none 1 0 := ⟨wx_in 1011 (by decide +kernel) rfl, wx_in 1009 (by decide +kernel) rfl, wx_in 1010 (by decide +kernel) rfl, wx_in 70 (by decide +kernel) rfl, by decide +kernel, by decide, by decide, _, _, rfl⟩
theorem d_Wh_multiplyBy10AndAdd_0 : decode b_Wh_multiplyBy10AndAdd 0 = .ok (.iload_n 1, 1) := by decide +kernel
theorem d_Wh_multiplyBy10AndAdd_1 : decode b_Wh_multiplyBy10AndAdd 1 = .ok (.i2l, 1) := by decide +kernel
theorem d_Wh_multiplyBy10AndAdd_2 : decode b_Wh_multiplyBy10AndAdd 2 = .ok (.lstore_n 2, 1) := by decide +kernel
theorem d_Wh_multiplyBy10AndAdd_3 : decode b_Wh_multiplyBy10AndAdd 3 = .ok (.iconst 0, 1) := by decide +kernel
theorem d_Wh_multiplyBy10AndAdd_4 : decode b_Wh_multiplyBy10AndAdd 4 = .ok (.istore 4, 2) := by decide +kernel
theorem d_Wh_multiplyBy10AndAdd_6 : decode b_Wh_multiplyBy10AndAdd 6 = .ok (.iload 4, 2) := by decide +kernel
theorem d_Wh_multiplyBy10AndAdd_8 : decode b_Wh_multiplyBy10AndAdd 8 = .ok (.aload_n 0, 1) := by decide +kernel
theorem d_Wh_multiplyBy10AndAdd_9 : decode b_Wh_multiplyBy10AndAdd 9 = .ok (.getfield 29, 3) := by decide +kernel
theorem d_Wh_multiplyBy10AndAdd_12 : decode b_Wh_multiplyBy10AndAdd 12 = .ok (.if_icmp .ge 36, 3) := by decide +kernel
theorem d_Wh_multiplyBy10AndAdd_15 : decode b_Wh_multiplyBy10AndAdd 15 = .ok (.lload_n 2, 1) := by decide +kernel
theorem d_Wh_multiplyBy10AndAdd_16 : decode b_Wh_multiplyBy10AndAdd 16 = .ok (.aload_n 0, 1) := by decide +kernel
theorem d_Wh_multiplyBy10AndAdd_17 : decode b_Wh_multiplyBy10AndAdd 17 = .ok (.iload 4, 2) := by decide +kernel
theorem d_Wh_multiplyBy10AndAdd_19 : decode b_Wh_multiplyBy10AndAdd 19 = .ok (.invokevirtual 41, 3) := by decide +kernel
theorem d_Wh_multiplyBy10AndAdd_22 : decode b_Wh_multiplyBy10AndAdd 22 = .ok (.ldc2_w 68, 3) := by decide +kernel
theorem d_Wh_multiplyBy10AndAdd_25 : decode b_Wh_multiplyBy10AndAdd 25 = .ok (.lmul, 1) := by decide +kernel
theorem d_Wh_multiplyBy10AndAdd_26 : decode b_Wh_multiplyBy10AndAdd 26 = .ok (.ladd, 1) := by decide +kernel
theorem d_Wh_multiplyBy10AndAdd_27 : decode b_Wh_multiplyBy10AndAdd 27 = .ok (.lstore_n 2, 1) := by decide +kernel
theorem d_Wh_multiplyBy10AndAdd_28 : decode b_Wh_multiplyBy10AndAdd 28 = .ok (.aload_n 0, 1) := by decide +kernel
theorem d_Wh_multiplyBy10AndAdd_29 : decode b_Wh_multiplyBy10AndAdd 29 = .ok (.getfield 9, 3) := by decide +kernel
theorem d_Wh_multiplyBy10AndAdd_32 : decode b_Wh_multiplyBy10AndAdd 32 = .ok (.iload 4, 2) := by decide +kernel
theorem d_Wh_multiplyBy10AndAdd_34 : decode b_Wh_multiplyBy10AndAdd 34 = .ok (.lload_n 2, 1) := by decide +kernel
theorem d_Wh_multiplyBy10AndAdd_35 : decode b_Wh_multiplyBy10AndAdd 35 = .ok (.l2i, 1) := by decide +kernel
theorem d_Wh_multiplyBy10AndAdd_36 : decode b_Wh_multiplyBy10AndAdd 36 = .ok (.iastore, 1) := by decide +kernel
theorem d_Wh_multiplyBy10AndAdd_37 : decode b_Wh_multiplyBy10AndAdd 37 = .ok (.lload_n 2, 1) := by decide +kernel
theorem d_Wh_multiplyBy10AndAdd_38 : decode b_Wh_multiplyBy10AndAdd 38 = .ok (.bipush 32, 2) := by decide +kernel
theorem d_Wh_multiplyBy10AndAdd_40 : decode b_Wh_multiplyBy10AndAdd 40 = .ok (.lushr, 1) := by decide +kernel
theorem d_Wh_multiplyBy10AndAdd_41 : decode b_Wh_multiplyBy10AndAdd 41 = .ok (.lstore_n 2, 1) := by decide +kernel
theorem d_Wh_multiplyBy10AndAdd_42 : decode b_Wh_multiplyBy10AndAdd 42 = .ok (.iinc 4 1, 3) := by decide +kernel
theorem d_Wh_multiplyBy10AndAdd_45 : decode b_Wh_multiplyBy10AndAdd 45 = .ok (.goto (-39), 3) := by decide +kernel
theorem d_Wh_multiplyBy10AndAdd_48 : decode b_Wh_multiplyBy10AndAdd 48 = .ok (.aload_n 0, 1) := by decide +kernel
theorem d_Wh_multiplyBy10AndAdd_49 : decode b_Wh_multiplyBy10AndAdd 49 = .ok (.getfield 9, 3) := by decide +kernel
theorem d_Wh_multiplyBy10AndAdd_52 : decode b_Wh_multiplyBy10AndAdd 52 = .ok (.aload_n 0, 1) := by decide +kernel
theorem d_Wh_multiplyBy10AndAdd_53 : decode b_Wh_multiplyBy10AndAdd 53 = .ok (.getfield 29, 3) := by decide +kernel
theorem d_Wh_multiplyBy10AndAdd_56 : decode b_Wh_multiplyBy10AndAdd 56 = .ok (.lload_n 2, 1) := by decide +kernel
theorem d_Wh_multiplyBy10AndAdd_57 : decode b_Wh_multiplyBy10AndAdd 57 = .ok (.l2i, 1) := by decide +kernel
theorem d_Wh_multiplyBy10AndAdd_58 : decode b_Wh_multiplyBy10AndAdd 58 = .ok (.iastore, 1) := by decide +kernel
theorem d_Wh_multiplyBy10AndAdd_59 : decode b_Wh_multiplyBy10AndAdd 59 = .ok (.aload_n 0, 1) := by decide +kernel
theorem d_Wh_multiplyBy10AndAdd_60 : decode b_Wh_multiplyBy10AndAdd 60 = .ok (.aload_n 0, 1) := by decide +kernel
theorem d_Wh_multiplyBy10AndAdd_61 : decode b_Wh_multiplyBy10AndAdd 61 = .ok (.getfield 29, 3) := by decide +kernel
theorem d_Wh_multiplyBy10AndAdd_64 : decode b_Wh_multiplyBy10AndAdd 64 = .ok (.iconst 1, 1) := by decide +kernel
theorem d_Wh_multiplyBy10AndAdd_65 : decode b_Wh_multiplyBy10AndAdd 65 = .ok (.iadd, 1) := by decide +kernel
theorem d_Wh_multiplyBy10AndAdd_66 : decode b_Wh_multiplyBy10AndAdd 66 = .ok (.invokevirtual 19, 3) := by decide +kernel
theorem d_Wh_multiplyBy10AndAdd_69 : decode b_Wh_multiplyBy10AndAdd 69 = .ok (.return_, 1) := by decide +kernel
/-! Wh_quotientWithoutSign: ('CellHeap$Whole', 'quotientWithoutSign', '(JJ)J') -/
abbrev b_Wh_quotientWithoutSign : ByteArray := prog_8_method_20_code
abbrev y_Wh_quotientWithoutSign : MethodName := ⟨R_Wh, "quotientWithoutSign", "(JJ)J"⟩
abbrev K_Wh_quotientWithoutSign := CanL y_Wh_quotientWithoutSign b_Wh_quotientWithoutSign 6 ((some .long)) 0 0 0
theorem I_Wh_quotientWithoutSign {h : HP} {v0 : Int64} {v2 : Int64} {Φ : Int64 → HP → Prop} (body : ∀ X : CX, Cok X b_Wh_quotientWithoutSign 6 R_Wh ((some .long)) → xR X = rml 0 0 0 → Qok X 0 0 (fun r h2 => ∃ v, r = some (.long v) ∧ Φ v h2) → Wg X 0 0 h [(0, .long v0), (2, .long v2)] [] 0) : K_Wh_quotientWithoutSign [.long v0, .long v2] h Φ := Can.intro (by decide) (fun _ => Nat.le_of_ble_eq_true rfl) body
theorem M_Wh_quotientWithoutSign : Ms y_Wh_quotientWithoutSign b_Wh_quotientWithoutSign 6 ((some .long)) 2 := ⟨wx_in 608 (by decide +kernel) rfl, wx_in 607 (by decide +kernel) rfl, wx_in 70 (by decide +kernel) rfl, by decide +kernel, by decide⟩
theorem d_Wh_quotientWithoutSign_0 : decode b_Wh_quotientWithoutSign 0 = .ok (.lload_n 0, 1) := by decide +kernel
theorem d_Wh_quotientWithoutSign_1 : decode b_Wh_quotientWithoutSign 1 = .ok (.iconst 1, 1) := by decide +kernel
theorem d_Wh_quotientWithoutSign_2 : decode b_Wh_quotientWithoutSign 2 = .ok (.lushr, 1) := by decide +kernel
theorem d_Wh_quotientWithoutSign_3 : decode b_Wh_quotientWithoutSign 3 = .ok (.lload_n 2, 1) := by decide +kernel
theorem d_Wh_quotientWithoutSign_4 : decode b_Wh_quotientWithoutSign 4 = .ok (.ldiv, 1) := by decide +kernel
theorem d_Wh_quotientWithoutSign_5 : decode b_Wh_quotientWithoutSign 5 = .ok (.iconst 1, 1) := by decide +kernel
theorem d_Wh_quotientWithoutSign_6 : decode b_Wh_quotientWithoutSign 6 = .ok (.lshl, 1) := by decide +kernel
theorem d_Wh_quotientWithoutSign_7 : decode b_Wh_quotientWithoutSign 7 = .ok (.lstore 4, 2) := by decide +kernel
theorem d_Wh_quotientWithoutSign_9 : decode b_Wh_quotientWithoutSign 9 = .ok (.lload_n 0, 1) := by decide +kernel
theorem d_Wh_quotientWithoutSign_10 : decode b_Wh_quotientWithoutSign 10 = .ok (.lload 4, 2) := by decide +kernel
theorem d_Wh_quotientWithoutSign_12 : decode b_Wh_quotientWithoutSign 12 = .ok (.lload_n 2, 1) := by decide +kernel
theorem d_Wh_quotientWithoutSign_13 : decode b_Wh_quotientWithoutSign 13 = .ok (.lmul, 1) := by decide +kernel
theorem d_Wh_quotientWithoutSign_14 : decode b_Wh_quotientWithoutSign 14 = .ok (.lsub, 1) := by decide +kernel
theorem d_Wh_quotientWithoutSign_15 : decode b_Wh_quotientWithoutSign 15 = .ok (.lload_n 2, 1) := by decide +kernel
theorem d_Wh_quotientWithoutSign_16 : decode b_Wh_quotientWithoutSign 16 = .ok (.lcmp, 1) := by decide +kernel
theorem d_Wh_quotientWithoutSign_17 : decode b_Wh_quotientWithoutSign 17 = .ok (.ifCond .lt 10, 3) := by decide +kernel
theorem d_Wh_quotientWithoutSign_20 : decode b_Wh_quotientWithoutSign 20 = .ok (.lload 4, 2) := by decide +kernel
theorem d_Wh_quotientWithoutSign_22 : decode b_Wh_quotientWithoutSign 22 = .ok (.lconst 1, 1) := by decide +kernel
theorem d_Wh_quotientWithoutSign_23 : decode b_Wh_quotientWithoutSign 23 = .ok (.ladd, 1) := by decide +kernel
theorem d_Wh_quotientWithoutSign_24 : decode b_Wh_quotientWithoutSign 24 = .ok (.goto 5, 3) := by decide +kernel
theorem d_Wh_quotientWithoutSign_27 : decode b_Wh_quotientWithoutSign 27 = .ok (.lload 4, 2) := by decide +kernel
theorem d_Wh_quotientWithoutSign_29 : decode b_Wh_quotientWithoutSign 29 = .ok (.lreturn, 1) := by decide +kernel
/-! Wh_divideByWord: ('CellHeap$Whole', 'divideByWord', '(J)J') -/
abbrev b_Wh_divideByWord : ByteArray := prog_8_method_19_code
abbrev y_Wh_divideByWord : MethodName := ⟨R_Wh, "divideByWord", "(J)J"⟩
abbrev K_Wh_divideByWord := CanL y_Wh_divideByWord b_Wh_divideByWord 10 ((some .long)) 1 0 0
theorem I_Wh_divideByWord {h : HP} {p0 : Nat} {v1 : Int64} {Φ : Int64 → HP → Prop} (body : ∀ X : CX, Cok X b_Wh_divideByWord 10 R_Wh ((some .long)) → xR X = rml 1 0 0 → Qok X 0 0 (fun r h2 => ∃ v, r = some (.long v) ∧ Φ v h2) → Wg X 0 0 h [(0, .ref p0), (1, .long v1)] [] 0) : K_Wh_divideByWord [.ref p0, .long v1] h Φ := Can.intro (by decide) (fun _ => Nat.le_of_ble_eq_true rfl) body
theorem M_Wh_divideByWord : Mv y_Wh_divideByWord b_Wh_divideByWord 10 ((some .long)) 1 0 := ⟨wx_in 604 (by decide +kernel) rfl, wx_in 602 (by decide +kernel) rfl, wx_in 603 (by decide +kernel) rfl, wx_in 70 (by decide +kernel) rfl, by decide +kernel, by decide, by decide, _, _, rfl⟩
theorem d_Wh_divideByWord_0 : decode b_Wh_divideByWord 0 = .ok (.lconst 0, 1) := by decide +kernel
theorem d_Wh_divideByWord_1 : decode b_Wh_divideByWord 1 = .ok (.lstore_n 3, 1) := by decide +kernel
theorem d_Wh_divideByWord_2 : decode b_Wh_divideByWord 2 = .ok (.aload_n 0, 1) := by decide +kernel
theorem d_Wh_divideByWord_3 : decode b_Wh_divideByWord 3 = .ok (.getfield 29, 3) := by decide +kernel
theorem d_Wh_divideByWord_6 : decode b_Wh_divideByWord 6 = .ok (.iconst 1, 1) := by decide +kernel
theorem d_Wh_divideByWord_7 : decode b_Wh_divideByWord 7 = .ok (.isub, 1) := by decide +kernel
theorem d_Wh_divideByWord_8 : decode b_Wh_divideByWord 8 = .ok (.istore 5, 2) := by decide +kernel
theorem d_Wh_divideByWord_10 : decode b_Wh_divideByWord 10 = .ok (.iload 5, 2) := by decide +kernel
theorem d_Wh_divideByWord_12 : decode b_Wh_divideByWord 12 = .ok (.ifCond .lt 48, 3) := by decide +kernel
theorem d_Wh_divideByWord_15 : decode b_Wh_divideByWord 15 = .ok (.lload_n 3, 1) := by decide +kernel
theorem d_Wh_divideByWord_16 : decode b_Wh_divideByWord 16 = .ok (.bipush 32, 2) := by decide +kernel
theorem d_Wh_divideByWord_18 : decode b_Wh_divideByWord 18 = .ok (.lshl, 1) := by decide +kernel
theorem d_Wh_divideByWord_19 : decode b_Wh_divideByWord 19 = .ok (.aload_n 0, 1) := by decide +kernel
theorem d_Wh_divideByWord_20 : decode b_Wh_divideByWord 20 = .ok (.iload 5, 2) := by decide +kernel
theorem d_Wh_divideByWord_22 : decode b_Wh_divideByWord 22 = .ok (.invokevirtual 41, 3) := by decide +kernel
theorem d_Wh_divideByWord_25 : decode b_Wh_divideByWord 25 = .ok (.lor, 1) := by decide +kernel
theorem d_Wh_divideByWord_26 : decode b_Wh_divideByWord 26 = .ok (.lstore 6, 2) := by decide +kernel
theorem d_Wh_divideByWord_28 : decode b_Wh_divideByWord 28 = .ok (.lload 6, 2) := by decide +kernel
theorem d_Wh_divideByWord_30 : decode b_Wh_divideByWord 30 = .ok (.lload_n 1, 1) := by decide +kernel
theorem d_Wh_divideByWord_31 : decode b_Wh_divideByWord 31 = .ok (.invokestatic 70, 3) := by decide +kernel
theorem d_Wh_divideByWord_34 : decode b_Wh_divideByWord 34 = .ok (.lstore 8, 2) := by decide +kernel
theorem d_Wh_divideByWord_36 : decode b_Wh_divideByWord 36 = .ok (.aload_n 0, 1) := by decide +kernel
theorem d_Wh_divideByWord_37 : decode b_Wh_divideByWord 37 = .ok (.getfield 9, 3) := by decide +kernel
theorem d_Wh_divideByWord_40 : decode b_Wh_divideByWord 40 = .ok (.iload 5, 2) := by decide +kernel
theorem d_Wh_divideByWord_42 : decode b_Wh_divideByWord 42 = .ok (.lload 8, 2) := by decide +kernel
theorem d_Wh_divideByWord_44 : decode b_Wh_divideByWord 44 = .ok (.l2i, 1) := by decide +kernel
theorem d_Wh_divideByWord_45 : decode b_Wh_divideByWord 45 = .ok (.iastore, 1) := by decide +kernel
theorem d_Wh_divideByWord_46 : decode b_Wh_divideByWord 46 = .ok (.lload 6, 2) := by decide +kernel
theorem d_Wh_divideByWord_48 : decode b_Wh_divideByWord 48 = .ok (.lload 8, 2) := by decide +kernel
theorem d_Wh_divideByWord_50 : decode b_Wh_divideByWord 50 = .ok (.lload_n 1, 1) := by decide +kernel
theorem d_Wh_divideByWord_51 : decode b_Wh_divideByWord 51 = .ok (.lmul, 1) := by decide +kernel
theorem d_Wh_divideByWord_52 : decode b_Wh_divideByWord 52 = .ok (.lsub, 1) := by decide +kernel
theorem d_Wh_divideByWord_53 : decode b_Wh_divideByWord 53 = .ok (.lstore_n 3, 1) := by decide +kernel
theorem d_Wh_divideByWord_54 : decode b_Wh_divideByWord 54 = .ok (.iinc 5 (-1), 3) := by decide +kernel
theorem d_Wh_divideByWord_57 : decode b_Wh_divideByWord 57 = .ok (.goto (-47), 3) := by decide +kernel
theorem d_Wh_divideByWord_60 : decode b_Wh_divideByWord 60 = .ok (.aload_n 0, 1) := by decide +kernel
theorem d_Wh_divideByWord_61 : decode b_Wh_divideByWord 61 = .ok (.aload_n 0, 1) := by decide +kernel
theorem d_Wh_divideByWord_62 : decode b_Wh_divideByWord 62 = .ok (.getfield 29, 3) := by decide +kernel
theorem d_Wh_divideByWord_65 : decode b_Wh_divideByWord 65 = .ok (.invokevirtual 19, 3) := by decide +kernel
theorem d_Wh_divideByWord_68 : decode b_Wh_divideByWord 68 = .ok (.lload_n 3, 1) := by decide +kernel
theorem d_Wh_divideByWord_69 : decode b_Wh_divideByWord 69 = .ok (.lreturn, 1) := by decide +kernel
set_option maxRecDepth 20000 in
theorem g_Ar_rangeCheck_0 {X : CX} {h : HP} {v0 : Int32} {v1 : Int32} {v2 : Int32} {Φ : HP → Prop} (C : Cok X b_Ar_rangeCheck 3 R_Arrays none) (Rm : xR X = rml 9 0 0) (Q : Qok X 0 0 (fun r h2 => r = none ∧ Φ h2)) 
    (K : (v1 ≤ v2 → (0 ≤ v1 → (v2 ≤ v0 → Φ h) ∧ (¬ v2 ≤ v0 → False)) ∧ (¬ 0 ≤ v1 → False)) ∧ (¬ v1 ≤ v2 → False)) :
    Wg X 0 0 h [(0, .int v0), (1, .int v1), (2, .int v2)] [] 0 := by
  refine r_iload_n C 1 rfl d_Ar_rangeCheck_0 ?_
  refine r_iload_n C 2 rfl d_Ar_rangeCheck_1 ?_
  refine r_icmp_le C 46 d_Ar_rangeCheck_2 (by decide) ⟨fun c0 => ?_, fun c0 => ?_⟩
  · have K := K.1 c0
    refine r_iload_n C 1 rfl d_Ar_rangeCheck_46 ?_
    refine r_if_ge C 59 d_Ar_rangeCheck_47 (by decide) ⟨fun c0 => ?_, fun c0 => ?_⟩
    · have K := K.1 c0
      refine r_iload_n C 2 rfl d_Ar_rangeCheck_59 ?_
      refine r_iload_n C 0 rfl d_Ar_rangeCheck_60 ?_
      refine r_icmp_le C 73 d_Ar_rangeCheck_61 (by decide) ⟨fun c0 => ?_, fun c0 => ?_⟩
      · have K := K.1 c0
        exact q_vret C Q d_Ar_rangeCheck_73 ⟨rfl, K⟩
      · have K := K.2 c0
        exact K.elim
    · have K := K.2 c0
      exact K.elim
  · have K := K.2 c0
    exact K.elim
set_option maxRecDepth 20000 in
theorem g_Ar_fill_0 {X : CX} {h : HP} {p0 : Nat} {n0 : Nat} {v1 : Int32} {v2 : Int32} {v3 : Int32} {Φ : HP → Prop} (C : Cok X b_Ar_fill 5 R_Arrays none) (Rm : xR X = rml 10 0 0) (Q : Qok X 0 0 (fun r h2 => r = none ∧ Φ h2)) (hp0 : kd p0 = (10, n0))
    (K : K_Ar_rangeCheck [.int (Int32.ofNat n0), .int v1, .int v2] h (fun h1 => Wg X 0 0 h1 [(0, .ref p0), (1, .int v1), (2, .int v2), (3, .int v3), (4, .int v1)] [] 10)) :
    Wg X 0 0 h [(0, .ref p0), (1, .int v1), (2, .int v2), (3, .int v3)] [] 0 := by
  refine r_aload_n C 0 rfl d_Ar_fill_0 ?_
  refine r_alen_10 C hp0 d_Ar_fill_1 ?_
  refine r_iload_n C 1 rfl d_Ar_fill_2 ?_
  refine r_iload_n C 2 rfl d_Ar_fill_3 ?_
  refine r_callS (As := [.int (Int32.ofNat n0), .int v1, .int v2]) (st := []) (lvc := 9) (mcc := 0) (msc := 0) C Rm M_Ar_rangeCheck rfl k_590 (by decide) (Nat.le_of_ble_eq_true rfl) ⟨by decide, by decide⟩ d_Ar_fill_4 ?_
  refine Can.mono K (fun _ h1 z => ?_)
  obtain ⟨rfl, K⟩ := z
  show Wg X 0 0 h1 [(0, .ref p0), (1, .int v1), (2, .int v2), (3, .int v3)] [] 7
  refine r_iload_n C 1 rfl d_Ar_fill_7 ?_
  refine r_istore (ls2 := [(0, .ref p0), (1, .int v1), (2, .int v2), (3, .int v3), (4, .int v1)]) C (by decide) rfl d_Ar_fill_8 ?_
  exact K
set_option maxRecDepth 20000 in
theorem g_Ar_fill_10 {X : CX} {h : HP} {p0 : Nat} {n0 : Nat} {v1 : Int32} {v2 : Int32} {v3 : Int32} {v4 : Int32} {Φ : HP → Prop} (C : Cok X b_Ar_fill 5 R_Arrays none) (Rm : xR X = rml 10 0 0) (Q : Qok X 0 0 (fun r h2 => r = none ∧ Φ h2)) (hp0 : kd p0 = (10, n0))
    (K : (v2 ≤ v4 → Φ h) ∧ (¬ v2 ≤ v4 → vp_in v4 n0 ∧ (Wg X 0 0 (up h p0 v4.toNatClampNeg v3) [(0, .ref p0), (1, .int v1), (2, .int v2), (3, .int v3), (4, .int (v4 + 1))] [] 10))) :
    Wg X 0 0 h [(0, .ref p0), (1, .int v1), (2, .int v2), (3, .int v3), (4, .int v4)] [] 10 := by
  refine r_iload C 4 rfl d_Ar_fill_10 ?_
  refine r_iload_n C 2 rfl d_Ar_fill_12 ?_
  refine r_icmp_ge C 27 d_Ar_fill_13 (by decide) ⟨fun c0 => ?_, fun c0 => ?_⟩
  · have K := K.1 c0
    exact q_vret C Q d_Ar_fill_27 ⟨rfl, K⟩
  · have K := K.2 c0
    refine r_aload_n C 0 rfl d_Ar_fill_16 ?_
    refine r_iload C 4 rfl d_Ar_fill_17 ?_
    refine r_iload_n C 3 rfl d_Ar_fill_19 ?_
    obtain ⟨s0, K⟩ := K
    refine r_iast C hp0 s0 d_Ar_fill_20 ?_
    refine r_iinc (ls2 := [(0, .ref p0), (1, .int v1), (2, .int v2), (3, .int v3), (4, .int (v4 + 1))]) C 4 (m := 1) rfl (by decide) (by decide) rfl d_Ar_fill_21 ?_
    refine r_goto C 10 d_Ar_fill_24 (by decide) ?_
    exact K
set_option maxRecDepth 20000 in
theorem g_In_nlz_0 {X : CX} {h : HP} {v0 : Int32} {Φ : Int32 → HP → Prop} (C : Cok X b_In_nlz 2 R_Integer ((some .int))) (Rm : xR X = rml 0 0 0) (Q : Qok X 0 0 (fun r h2 => ∃ v, r = some (.int v) ∧ Φ v h2)) 
    (K : (0 < v0 → (v0 < 65536 → Wg X 0 0 h [(0, .int v0), (1, .int 31)] [] 33) ∧ (¬ v0 < 65536 → Wg X 0 0 h [(0, .int (iushr v0 16)), (1, .int (31 + (-16)))] [] 33)) ∧ (¬ 0 < v0 → (¬ v0 = 0 → Φ 0 h) ∧ (v0 = 0 → Φ 32 h))) :
    Wg X 0 0 h [(0, .int v0)] [] 0 := by
  refine r_iload_n C 0 rfl d_In_nlz_0 ?_
  refine r_if_gt C 15 d_In_nlz_1 (by decide) ⟨fun c0 => ?_, fun c0 => ?_⟩
  · have K := K.1 c0
    refine r_bipush (v := 31) C (by decide) d_In_nlz_15 ?_
    refine r_istore_n (ls2 := [(0, .int v0), (1, .int 31)]) C rfl (by decide) rfl d_In_nlz_17 ?_
    refine r_iload_n C 0 rfl d_In_nlz_18 ?_
    refine r_ldc_w (v := 65536) C k_557 d_In_nlz_19 ?_
    refine r_icmp_lt C 33 d_In_nlz_22 (by decide) ⟨fun c0 => ?_, fun c0 => ?_⟩
    · have K := K.1 c0
      exact K
    · have K := K.2 c0
      refine r_iinc (ls2 := [(0, .int v0), (1, .int (31 + (-16)))]) C 1 (m := -16) rfl (by decide) (by decide) rfl d_In_nlz_25 ?_
      refine r_iload_n C 0 rfl d_In_nlz_28 ?_
      refine r_bipush (v := 16) C (by decide) d_In_nlz_29 ?_
      refine r_iushr C d_In_nlz_31 ?_
      refine r_istore_n (ls2 := [(0, .int (iushr v0 16)), (1, .int (31 + (-16)))]) C rfl (by decide) rfl d_In_nlz_32 ?_
      exact K
  · have K := K.2 c0
    refine r_iload_n C 0 rfl d_In_nlz_4 ?_
    refine r_if_ne C 13 d_In_nlz_5 (by decide) ⟨fun c0 => ?_, fun c0 => ?_⟩
    · have K := K.1 c0
      refine r_iconst (v := 0) C (by decide) d_In_nlz_13 ?_
      exact q_iret C Q d_In_nlz_14 ⟨_, rfl, K⟩
    · have K := K.2 c0
      refine r_bipush (v := 32) C (by decide) d_In_nlz_8 ?_
      refine r_goto C 14 d_In_nlz_10 (by decide) ?_
      exact q_iret C Q d_In_nlz_14 ⟨_, rfl, K⟩
set_option maxRecDepth 20000 in
theorem g_In_nlz_33 {X : CX} {h : HP} {v0 : Int32} {v1 : Int32} {Φ : Int32 → HP → Prop} (C : Cok X b_In_nlz 2 R_Integer ((some .int))) (Rm : xR X = rml 0 0 0) (Q : Qok X 0 0 (fun r h2 => ∃ v, r = some (.int v) ∧ Φ v h2)) 
    (K : (v0 < 256 → (v0 < 16 → Wg X 0 0 h [(0, .int v0), (1, .int v1)] [] 61) ∧ (¬ v0 < 16 → Wg X 0 0 h [(0, .int (iushr v0 4)), (1, .int (v1 + (-4)))] [] 61)) ∧ (¬ v0 < 256 → ((iushr v0 8) < 16 → Wg X 0 0 h [(0, .int (iushr v0 8)), (1, .int (v1 + (-8)))] [] 61) ∧ (¬ (iushr v0 8) < 16 → Wg X 0 0 h [(0, .int (iushr (iushr v0 8) 4)), (1, .int ((v1 + (-8)) + (-4)))] [] 61))) :
    Wg X 0 0 h [(0, .int v0), (1, .int v1)] [] 33 := by
  refine r_iload_n C 0 rfl d_In_nlz_33 ?_
  refine r_sipush (v := 256) C (by decide) d_In_nlz_34 ?_
  refine r_icmp_lt C 48 d_In_nlz_37 (by decide) ⟨fun c0 => ?_, fun c0 => ?_⟩
  · have K := K.1 c0
    refine r_iload_n C 0 rfl d_In_nlz_48 ?_
    refine r_bipush (v := 16) C (by decide) d_In_nlz_49 ?_
    refine r_icmp_lt C 61 d_In_nlz_51 (by decide) ⟨fun c0 => ?_, fun c0 => ?_⟩
    · have K := K.1 c0
      exact K
    · have K := K.2 c0
      refine r_iinc (ls2 := [(0, .int v0), (1, .int (v1 + (-4)))]) C 1 (m := -4) rfl (by decide) (by decide) rfl d_In_nlz_54 ?_
      refine r_iload_n C 0 rfl d_In_nlz_57 ?_
      refine r_iconst (v := 4) C (by decide) d_In_nlz_58 ?_
      refine r_iushr C d_In_nlz_59 ?_
      refine r_istore_n (ls2 := [(0, .int (iushr v0 4)), (1, .int (v1 + (-4)))]) C rfl (by decide) rfl d_In_nlz_60 ?_
      exact K
  · have K := K.2 c0
    refine r_iinc (ls2 := [(0, .int v0), (1, .int (v1 + (-8)))]) C 1 (m := -8) rfl (by decide) (by decide) rfl d_In_nlz_40 ?_
    refine r_iload_n C 0 rfl d_In_nlz_43 ?_
    refine r_bipush (v := 8) C (by decide) d_In_nlz_44 ?_
    refine r_iushr C d_In_nlz_46 ?_
    refine r_istore_n (ls2 := [(0, .int (iushr v0 8)), (1, .int (v1 + (-8)))]) C rfl (by decide) rfl d_In_nlz_47 ?_
    refine r_iload_n C 0 rfl d_In_nlz_48 ?_
    refine r_bipush (v := 16) C (by decide) d_In_nlz_49 ?_
    refine r_icmp_lt C 61 d_In_nlz_51 (by decide) ⟨fun c0 => ?_, fun c0 => ?_⟩
    · have K := K.1 c0
      exact K
    · have K := K.2 c0
      refine r_iinc (ls2 := [(0, .int (iushr v0 8)), (1, .int ((v1 + (-8)) + (-4)))]) C 1 (m := -4) rfl (by decide) (by decide) rfl d_In_nlz_54 ?_
      refine r_iload_n C 0 rfl d_In_nlz_57 ?_
      refine r_iconst (v := 4) C (by decide) d_In_nlz_58 ?_
      refine r_iushr C d_In_nlz_59 ?_
      refine r_istore_n (ls2 := [(0, .int (iushr (iushr v0 8) 4)), (1, .int ((v1 + (-8)) + (-4)))]) C rfl (by decide) rfl d_In_nlz_60 ?_
      exact K
set_option maxRecDepth 20000 in
theorem g_In_nlz_61 {X : CX} {h : HP} {v0 : Int32} {v1 : Int32} {Φ : Int32 → HP → Prop} (C : Cok X b_In_nlz 2 R_Integer ((some .int))) (Rm : xR X = rml 0 0 0) (Q : Qok X 0 0 (fun r h2 => ∃ v, r = some (.int v) ∧ Φ v h2)) 
    (K : (v0 < 4 → Φ (v1 - (iushr v0 1)) h) ∧ (¬ v0 < 4 → Φ ((v1 + (-2)) - (iushr (iushr v0 2) 1)) h)) :
    Wg X 0 0 h [(0, .int v0), (1, .int v1)] [] 61 := by
  refine r_iload_n C 0 rfl d_In_nlz_61 ?_
  refine r_iconst (v := 4) C (by decide) d_In_nlz_62 ?_
  refine r_icmp_lt C 73 d_In_nlz_63 (by decide) ⟨fun c0 => ?_, fun c0 => ?_⟩
  · have K := K.1 c0
    refine r_iload_n C 1 rfl d_In_nlz_73 ?_
    refine r_iload_n C 0 rfl d_In_nlz_74 ?_
    refine r_iconst (v := 1) C (by decide) d_In_nlz_75 ?_
    refine r_iushr C d_In_nlz_76 ?_
    refine r_isub C d_In_nlz_77 ?_
    exact q_iret C Q d_In_nlz_78 ⟨_, rfl, K⟩
  · have K := K.2 c0
    refine r_iinc (ls2 := [(0, .int v0), (1, .int (v1 + (-2)))]) C 1 (m := -2) rfl (by decide) (by decide) rfl d_In_nlz_66 ?_
    refine r_iload_n C 0 rfl d_In_nlz_69 ?_
    refine r_iconst (v := 2) C (by decide) d_In_nlz_70 ?_
    refine r_iushr C d_In_nlz_71 ?_
    refine r_istore_n (ls2 := [(0, .int (iushr v0 2)), (1, .int (v1 + (-2)))]) C rfl (by decide) rfl d_In_nlz_72 ?_
    refine r_iload_n C 1 rfl d_In_nlz_73 ?_
    refine r_iload_n C 0 rfl d_In_nlz_74 ?_
    refine r_iconst (v := 1) C (by decide) d_In_nlz_75 ?_
    refine r_iushr C d_In_nlz_76 ?_
    refine r_isub C d_In_nlz_77 ?_
    exact q_iret C Q d_In_nlz_78 ⟨_, rfl, K⟩
set_option maxRecDepth 20000 in
theorem g_Wh_trim_0 {X : CX} {h : HP} {p0 : Nat} {v1 : Int32} {Φ : HP → Prop} (C : Cok X b_Wh_trim 2 R_Wh none) (Rm : xR X = rml 0 0 0) (Q : Qok X 0 0 (fun r h2 => r = none ∧ Φ h2)) (hp0 : kd p0 = (0, 0))
    (K : Wg X 0 0 (up h p0 1 v1) [(0, .ref p0), (1, .int v1)] [] 5) :
    Wg X 0 0 h [(0, .ref p0), (1, .int v1)] [] 0 := by
  refine r_aload_n C 0 rfl d_Wh_trim_0 ?_
  refine r_iload_n C 1 rfl d_Wh_trim_1 ?_
  refine pf_Wh_length C hp0 k_109 d_Wh_trim_2 ?_
  exact K
set_option maxRecDepth 20000 in
theorem g_Wh_trim_5 {X : CX} {h : HP} {p0 : Nat} {v1 : Int32} {Φ : HP → Prop} (C : Cok X b_Wh_trim 2 R_Wh none) (Rm : xR X = rml 0 0 0) (Q : Qok X 0 0 (fun r h2 => r = none ∧ Φ h2)) (hp0 : kd p0 = (0, 0))
    (K : ((h p0 1) ≤ 0 → Wg X 0 0 h [(0, .ref p0), (1, .int v1)] [] 39) ∧ (¬ (h p0 1) ≤ 0 → vp_in ((h p0 1) - 1) 44 ∧ ((¬ (h (p0 + 1) ((h p0 1) - 1).toNatClampNeg) = 0 → Wg X 0 0 h [(0, .ref p0), (1, .int v1)] [] 39) ∧ ((h (p0 + 1) ((h p0 1) - 1).toNatClampNeg) = 0 → Wg X 0 0 (up h p0 1 ((h p0 1) - 1)) [(0, .ref p0), (1, .int v1)] [] 5)))) :
    Wg X 0 0 h [(0, .ref p0), (1, .int v1)] [] 5 := by
  refine r_aload_n C 0 rfl d_Wh_trim_5 ?_
  refine gf_Wh_length C hp0 k_109 d_Wh_trim_6 ?_
  refine r_if_le C 39 d_Wh_trim_9 (by decide) ⟨fun c0 => ?_, fun c0 => ?_⟩
  · have K := K.1 c0
    exact K
  · have K := K.2 c0
    refine r_aload_n C 0 rfl d_Wh_trim_12 ?_
    refine gf_Wh_words (k2 := p0 + 1) C rfl hp0 k_105 d_Wh_trim_13 ?_
    refine r_aload_n C 0 rfl d_Wh_trim_16 ?_
    refine gf_Wh_length C hp0 k_109 d_Wh_trim_17 ?_
    refine r_iconst (v := 1) C (by decide) d_Wh_trim_20 ?_
    refine r_isub C d_Wh_trim_21 ?_
    obtain ⟨s0, K⟩ := K
    refine r_iald C (kWh1 hp0) s0 d_Wh_trim_22 ?_
    refine r_if_ne C 39 d_Wh_trim_23 (by decide) ⟨fun c0 => ?_, fun c0 => ?_⟩
    · have K := K.1 c0
      exact K
    · have K := K.2 c0
      refine r_aload_n C 0 rfl d_Wh_trim_26 ?_
      refine r_dup C rfl d_Wh_trim_27 ?_
      refine gf_Wh_length C hp0 k_109 d_Wh_trim_28 ?_
      refine r_iconst (v := 1) C (by decide) d_Wh_trim_31 ?_
      refine r_isub C d_Wh_trim_32 ?_
      refine pf_Wh_length C hp0 k_109 d_Wh_trim_33 ?_
      refine r_goto C 5 d_Wh_trim_36 (by decide) ?_
      exact K
set_option maxRecDepth 20000 in
theorem g_Wh_trim_39 {X : CX} {h : HP} {p0 : Nat} {v1 : Int32} {Φ : HP → Prop} (C : Cok X b_Wh_trim 2 R_Wh none) (Rm : xR X = rml 0 0 0) (Q : Qok X 0 0 (fun r h2 => r = none ∧ Φ h2)) (hp0 : kd p0 = (0, 0))
    (K : ((h p0 2) = 0 → Φ (up h p0 2 0)) ∧ (¬ (h p0 2) = 0 → ((h p0 1) ≤ 0 → Φ (up h p0 2 0)) ∧ (¬ (h p0 1) ≤ 0 → Φ (up h p0 2 1)))) :
    Wg X 0 0 h [(0, .ref p0), (1, .int v1)] [] 39 := by
  refine r_aload_n C 0 rfl d_Wh_trim_39 ?_
  refine r_aload_n C 0 rfl d_Wh_trim_40 ?_
  refine gf_Wh_below C hp0 k_112 d_Wh_trim_41 ?_
  refine r_if_eq C 58 d_Wh_trim_44 (by decide) ⟨fun c0 => ?_, fun c0 => ?_⟩
  · have K := K.1 c0
    refine r_iconst (v := 0) C (by decide) d_Wh_trim_58 ?_
    refine pf_Wh_below C hp0 (by decide) k_112 d_Wh_trim_59 ?_
    exact q_vret C Q d_Wh_trim_62 ⟨rfl, K⟩
  · have K := K.2 c0
    refine r_aload_n C 0 rfl d_Wh_trim_47 ?_
    refine gf_Wh_length C hp0 k_109 d_Wh_trim_48 ?_
    refine r_if_le C 58 d_Wh_trim_51 (by decide) ⟨fun c0 => ?_, fun c0 => ?_⟩
    · have K := K.1 c0
      refine r_iconst (v := 0) C (by decide) d_Wh_trim_58 ?_
      refine pf_Wh_below C hp0 (by decide) k_112 d_Wh_trim_59 ?_
      exact q_vret C Q d_Wh_trim_62 ⟨rfl, K⟩
    · have K := K.2 c0
      refine r_iconst (v := 1) C (by decide) d_Wh_trim_54 ?_
      refine r_goto C 59 d_Wh_trim_55 (by decide) ?_
      refine pf_Wh_below C hp0 (by decide) k_112 d_Wh_trim_59 ?_
      exact q_vret C Q d_Wh_trim_62 ⟨rfl, K⟩
set_option maxRecDepth 20000 in
theorem g_Wh_setLong_0 {X : CX} {h : HP} {p0 : Nat} {v1 : Int64} {Φ : HP → Prop} (C : Cok X b_Wh_setLong 5 R_Wh none) (Rm : xR X = rml 1 0 0) (Q : Qok X 0 0 (fun r h2 => r = none ∧ Φ h2)) (hp0 : kd p0 = (0, 0))
    (K : (0 ≤ (lg_cmp v1 0) → (((up h p0 2 0) p0 2) = 0 → Wg X 0 0 (up h p0 2 0) [(0, .ref p0), (1, .long v1)] [.long v1] 28) ∧ (¬ ((up h p0 2 0) p0 2) = 0 → Wg X 0 0 (up h p0 2 0) [(0, .ref p0), (1, .long v1)] [.long (-v1)] 28)) ∧ (¬ 0 ≤ (lg_cmp v1 0) → (((up h p0 2 1) p0 2) = 0 → Wg X 0 0 (up h p0 2 1) [(0, .ref p0), (1, .long v1)] [.long v1] 28) ∧ (¬ ((up h p0 2 1) p0 2) = 0 → Wg X 0 0 (up h p0 2 1) [(0, .ref p0), (1, .long v1)] [.long (-v1)] 28))) :
    Wg X 0 0 h [(0, .ref p0), (1, .long v1)] [] 0 := by
  refine r_aload_n C 0 rfl d_Wh_setLong_0 ?_
  refine r_lload_n C 1 rfl d_Wh_setLong_1 ?_
  refine r_lconst (v := 0) C (by decide) d_Wh_setLong_2 ?_
  refine r_lcmp C d_Wh_setLong_3 ?_
  refine r_if_ge C 11 d_Wh_setLong_4 (by decide) ⟨fun c0 => ?_, fun c0 => ?_⟩
  · have K := K.1 c0
    refine r_iconst (v := 0) C (by decide) d_Wh_setLong_11 ?_
    refine pf_Wh_below C hp0 (by decide) k_112 d_Wh_setLong_12 ?_
    refine r_aload_n C 0 rfl d_Wh_setLong_15 ?_
    refine gf_Wh_below C hp0 k_112 d_Wh_setLong_16 ?_
    refine r_if_eq C 27 d_Wh_setLong_19 (by decide) ⟨fun c0 => ?_, fun c0 => ?_⟩
    · have K := K.1 c0
      refine r_lload_n C 1 rfl d_Wh_setLong_27 ?_
      exact K
    · have K := K.2 c0
      refine r_lload_n C 1 rfl d_Wh_setLong_22 ?_
      refine r_lneg C d_Wh_setLong_23 ?_
      refine r_goto C 28 d_Wh_setLong_24 (by decide) ?_
      exact K
  · have K := K.2 c0
    refine r_iconst (v := 1) C (by decide) d_Wh_setLong_7 ?_
    refine r_goto C 12 d_Wh_setLong_8 (by decide) ?_
    refine pf_Wh_below C hp0 (by decide) k_112 d_Wh_setLong_12 ?_
    refine r_aload_n C 0 rfl d_Wh_setLong_15 ?_
    refine gf_Wh_below C hp0 k_112 d_Wh_setLong_16 ?_
    refine r_if_eq C 27 d_Wh_setLong_19 (by decide) ⟨fun c0 => ?_, fun c0 => ?_⟩
    · have K := K.1 c0
      refine r_lload_n C 1 rfl d_Wh_setLong_27 ?_
      exact K
    · have K := K.2 c0
      refine r_lload_n C 1 rfl d_Wh_setLong_22 ?_
      refine r_lneg C d_Wh_setLong_23 ?_
      refine r_goto C 28 d_Wh_setLong_24 (by decide) ?_
      exact K
set_option maxRecDepth 20000 in
theorem g_Wh_setLong_28 {X : CX} {h : HP} {p0 : Nat} {v1 : Int64} {t0 : Int64} {Φ : HP → Prop} (C : Cok X b_Wh_setLong 5 R_Wh none) (Rm : xR X = rml 1 0 0) (Q : Qok X 0 0 (fun r h2 => r = none ∧ Φ h2)) (hp0 : kd p0 = (0, 0))
    (K : vp_in 0 44 ∧ (vp_in 1 44 ∧ (K_Wh_trim [.ref p0, .int 2] (up (up h (p0 + 1) (0 : Int32).toNatClampNeg (Int64.toInt32 t0)) (p0 + 1) (1 : Int32).toNatClampNeg (Int64.toInt32 (lushr t0 32))) (fun h1 => Φ h1)))) :
    Wg X 0 0 h [(0, .ref p0), (1, .long v1)] [.long t0] 28 := by
  refine r_lstore_n (ls2 := [(0, .ref p0), (1, .long v1), (3, .long t0)]) C rfl (by decide) rfl d_Wh_setLong_28 ?_
  refine r_aload_n C 0 rfl d_Wh_setLong_29 ?_
  refine gf_Wh_words (k2 := p0 + 1) C rfl hp0 k_105 d_Wh_setLong_30 ?_
  refine r_iconst (v := 0) C (by decide) d_Wh_setLong_33 ?_
  refine r_lload_n C 2 rfl d_Wh_setLong_34 ?_
  refine r_l2i C d_Wh_setLong_35 ?_
  obtain ⟨s0, K⟩ := K
  refine r_iast C (kWh1 hp0) s0 d_Wh_setLong_36 ?_
  refine r_aload_n C 0 rfl d_Wh_setLong_37 ?_
  refine gf_Wh_words (k2 := p0 + 1) C rfl hp0 k_105 d_Wh_setLong_38 ?_
  refine r_iconst (v := 1) C (by decide) d_Wh_setLong_41 ?_
  refine r_lload_n C 2 rfl d_Wh_setLong_42 ?_
  refine r_bipush (v := 32) C (by decide) d_Wh_setLong_43 ?_
  refine r_lushr C d_Wh_setLong_45 ?_
  refine r_l2i C d_Wh_setLong_46 ?_
  obtain ⟨s0, K⟩ := K
  refine r_iast C (kWh1 hp0) s0 d_Wh_setLong_47 ?_
  refine r_aload_n C 0 rfl d_Wh_setLong_48 ?_
  refine r_iconst (v := 2) C (by decide) d_Wh_setLong_49 ?_
  refine r_callV (As := [.int 2]) (st := []) (lvc := 0) (mcc := 0) (msc := 0) C Rm M_Wh_trim rfl k_382 hp0 (by decide) (Nat.le_of_ble_eq_true rfl) ⟨by decide, by decide⟩ d_Wh_setLong_50 ?_
  refine Can.mono K (fun _ h1 z => ?_)
  obtain ⟨rfl, K⟩ := z
  show Wg X 0 0 h1 [(0, .ref p0), (1, .long v1), (3, .long t0)] [] 53
  exact q_vret C Q d_Wh_setLong_53 ⟨rfl, K⟩
set_option maxRecDepth 20000 in
theorem g_Wh_setWords_0 {X : CX} {h : HP} {p0 : Nat} {p1 : Nat} {n1 : Nat} {v2 : Int32} {v3 : Int32} {Φ : HP → Prop} (C : Cok X b_Wh_setWords 4 R_Wh none) (Rm : xR X = rml 2 0 0) (Q : Qok X 0 0 (fun r h2 => r = none ∧ Φ h2)) (hp0 : kd p0 = (0, 0)) (hp1 : kd p1 = (10, n1))
    (K : cp_in v2 v3 n1 ∧ cp_in 0 v3 44 ∧ (Φ (up (up (hs h (p0 + 1) (va_cpy (h p1) (h (p0 + 1)) v2.toNatClampNeg (0 : Int32).toNatClampNeg v3.toNatClampNeg)) p0 1 v3) p0 2 0))) :
    Wg X 0 0 h [(0, .ref p0), (1, .ref p1), (2, .int v2), (3, .int v3)] [] 0 := by
  refine r_aload_n C 1 rfl d_Wh_setWords_0 ?_
  refine r_iload_n C 2 rfl d_Wh_setWords_1 ?_
  refine r_aload_n C 0 rfl d_Wh_setWords_2 ?_
  refine gf_Wh_words (k2 := p0 + 1) C rfl hp0 k_105 d_Wh_setWords_3 ?_
  refine r_iconst (v := 0) C (by decide) d_Wh_setWords_6 ?_
  refine r_iload_n C 3 rfl d_Wh_setWords_7 ?_
  obtain ⟨s0, s1, K⟩ := K
  refine r_copy C Rm (by decide) k_506 hp1 (kWh1 hp0) s0 s1 (Nat.le_of_ble_eq_true rfl) d_Wh_setWords_8 ?_
  refine r_aload_n C 0 rfl d_Wh_setWords_11 ?_
  refine r_iload_n C 3 rfl d_Wh_setWords_12 ?_
  refine pf_Wh_length C hp0 k_109 d_Wh_setWords_13 ?_
  refine r_aload_n C 0 rfl d_Wh_setWords_16 ?_
  refine r_iconst (v := 0) C (by decide) d_Wh_setWords_17 ?_
  refine pf_Wh_below C hp0 (by decide) k_112 d_Wh_setWords_18 ?_
  exact q_vret C Q d_Wh_setWords_21 ⟨rfl, K⟩
set_option maxRecDepth 20000 in
theorem g_Wh_setTo_0 {X : CX} {h : HP} {p0 : Nat} {p1 : Nat} {Φ : HP → Prop} (C : Cok X b_Wh_setTo 2 R_Wh none) (Rm : xR X = rml 3 0 0) (Q : Qok X 0 0 (fun r h2 => r = none ∧ Φ h2)) (hp0 : kd p0 = (0, 0)) (hp1 : kd p1 = (0, 0))
    (K : K_Wh_setWords [.ref p0, .ref (p1 + 1), .int 0, .int (h p1 1)] h (fun h1 => ((h1 p1 2) = 0 ∨ (h1 p1 2) = 1) ∧ (Φ (up h1 p0 2 (h1 p1 2))))) :
    Wg X 0 0 h [(0, .ref p0), (1, .ref p1)] [] 0 := by
  refine r_aload_n C 0 rfl d_Wh_setTo_0 ?_
  refine r_aload_n C 1 rfl d_Wh_setTo_1 ?_
  refine gf_Wh_words (k2 := p1 + 1) C rfl hp1 k_105 d_Wh_setTo_2 ?_
  refine r_iconst (v := 0) C (by decide) d_Wh_setTo_5 ?_
  refine r_aload_n C 1 rfl d_Wh_setTo_6 ?_
  refine gf_Wh_length C hp1 k_109 d_Wh_setTo_7 ?_
  refine r_callV (As := [.ref (p1 + 1), .int 0, .int (h p1 1)]) (st := []) (lvc := 2) (mcc := 0) (msc := 0) C Rm M_Wh_setWords rfl k_525 hp0 (by decide) (Nat.le_of_ble_eq_true rfl) ⟨by decide, by decide⟩ d_Wh_setTo_10 ?_
  refine Can.mono K (fun _ h1 z => ?_)
  obtain ⟨rfl, K⟩ := z
  show Wg X 0 0 h1 [(0, .ref p0), (1, .ref p1)] [] 13
  refine r_aload_n C 0 rfl d_Wh_setTo_13 ?_
  refine r_aload_n C 1 rfl d_Wh_setTo_14 ?_
  refine gf_Wh_below C hp1 k_112 d_Wh_setTo_15 ?_
  obtain ⟨s0, K⟩ := K
  refine pf_Wh_below C hp0 s0 k_112 d_Wh_setTo_18 ?_
  exact q_vret C Q d_Wh_setTo_21 ⟨rfl, K⟩
set_option maxRecDepth 20000 in
theorem g_Wh_isZero_0 {X : CX} {h : HP} {p0 : Nat} {Φ : Int32 → HP → Prop} (C : Cok X b_Wh_isZero 1 R_Wh ((some .boolean))) (Rm : xR X = rml 0 0 0) (Q : Qok X 0 0 (fun r h2 => ∃ v, r = some (.int v) ∧ Φ v h2)) (hp0 : kd p0 = (0, 0))
    (K : (¬ (h p0 1) = 0 → Φ 0 h) ∧ ((h p0 1) = 0 → Φ 1 h)) :
    Wg X 0 0 h [(0, .ref p0)] [] 0 := by
  refine r_aload_n C 0 rfl d_Wh_isZero_0 ?_
  refine gf_Wh_length C hp0 k_109 d_Wh_isZero_1 ?_
  refine r_if_ne C 11 d_Wh_isZero_4 (by decide) ⟨fun c0 => ?_, fun c0 => ?_⟩
  · have K := K.1 c0
    refine r_iconst (v := 0) C (by decide) d_Wh_isZero_11 ?_
    exact q_zret C Q (by decide) d_Wh_isZero_12 ⟨_, rfl, K⟩
  · have K := K.2 c0
    refine r_iconst (v := 1) C (by decide) d_Wh_isZero_7 ?_
    refine r_goto C 12 d_Wh_isZero_8 (by decide) ?_
    exact q_zret C Q (by decide) d_Wh_isZero_12 ⟨_, rfl, K⟩
set_option maxRecDepth 20000 in
theorem g_Wh_isOne_0 {X : CX} {h : HP} {p0 : Nat} {Φ : Int32 → HP → Prop} (C : Cok X b_Wh_isOne 1 R_Wh ((some .boolean))) (Rm : xR X = rml 0 0 0) (Q : Qok X 0 0 (fun r h2 => ∃ v, r = some (.int v) ∧ Φ v h2)) (hp0 : kd p0 = (0, 0))
    (K : (¬ (h p0 1) = 1 → Φ 0 h) ∧ ((h p0 1) = 1 → vp_in 0 44 ∧ ((¬ (h (p0 + 1) (0 : Int32).toNatClampNeg) = 1 → Φ 0 h) ∧ ((h (p0 + 1) (0 : Int32).toNatClampNeg) = 1 → (¬ (h p0 2) = 0 → Φ 0 h) ∧ ((h p0 2) = 0 → Φ 1 h))))) :
    Wg X 0 0 h [(0, .ref p0)] [] 0 := by
  refine r_aload_n C 0 rfl d_Wh_isOne_0 ?_
  refine gf_Wh_length C hp0 k_109 d_Wh_isOne_1 ?_
  refine r_iconst (v := 1) C (by decide) d_Wh_isOne_4 ?_
  refine r_icmp_ne C 29 d_Wh_isOne_5 (by decide) ⟨fun c0 => ?_, fun c0 => ?_⟩
  · have K := K.1 c0
    refine r_iconst (v := 0) C (by decide) d_Wh_isOne_29 ?_
    exact q_zret C Q (by decide) d_Wh_isOne_30 ⟨_, rfl, K⟩
  · have K := K.2 c0
    refine r_aload_n C 0 rfl d_Wh_isOne_8 ?_
    refine gf_Wh_words (k2 := p0 + 1) C rfl hp0 k_105 d_Wh_isOne_9 ?_
    refine r_iconst (v := 0) C (by decide) d_Wh_isOne_12 ?_
    obtain ⟨s0, K⟩ := K
    refine r_iald C (kWh1 hp0) s0 d_Wh_isOne_13 ?_
    refine r_iconst (v := 1) C (by decide) d_Wh_isOne_14 ?_
    refine r_icmp_ne C 29 d_Wh_isOne_15 (by decide) ⟨fun c0 => ?_, fun c0 => ?_⟩
    · have K := K.1 c0
      refine r_iconst (v := 0) C (by decide) d_Wh_isOne_29 ?_
      exact q_zret C Q (by decide) d_Wh_isOne_30 ⟨_, rfl, K⟩
    · have K := K.2 c0
      refine r_aload_n C 0 rfl d_Wh_isOne_18 ?_
      refine gf_Wh_below C hp0 k_112 d_Wh_isOne_19 ?_
      refine r_if_ne C 29 d_Wh_isOne_22 (by decide) ⟨fun c0 => ?_, fun c0 => ?_⟩
      · have K := K.1 c0
        refine r_iconst (v := 0) C (by decide) d_Wh_isOne_29 ?_
        exact q_zret C Q (by decide) d_Wh_isOne_30 ⟨_, rfl, K⟩
      · have K := K.2 c0
        refine r_iconst (v := 1) C (by decide) d_Wh_isOne_25 ?_
        refine r_goto C 30 d_Wh_isOne_26 (by decide) ?_
        exact q_zret C Q (by decide) d_Wh_isOne_30 ⟨_, rfl, K⟩
set_option maxRecDepth 20000 in
theorem g_Wh_isFixed_0 {X : CX} {h : HP} {p0 : Nat} {Φ : Int32 → HP → Prop} (C : Cok X b_Wh_isFixed 2 R_Wh ((some .boolean))) (Rm : xR X = rml 0 0 0) (Q : Qok X 0 0 (fun r h2 => ∃ v, r = some (.int v) ∧ Φ v h2)) (hp0 : kd p0 = (0, 0))
    (K : (¬ (h p0 1) = 0 → ((h p0 2) = 0 → Wg X 0 0 h [(0, .ref p0)] [.int 1073741823] 23) ∧ (¬ (h p0 2) = 0 → Wg X 0 0 h [(0, .ref p0)] [.int 1073741824] 23)) ∧ ((h p0 1) = 0 → Φ 1 h)) :
    Wg X 0 0 h [(0, .ref p0)] [] 0 := by
  refine r_aload_n C 0 rfl d_Wh_isFixed_0 ?_
  refine gf_Wh_length C hp0 k_109 d_Wh_isFixed_1 ?_
  refine r_if_ne C 9 d_Wh_isFixed_4 (by decide) ⟨fun c0 => ?_, fun c0 => ?_⟩
  · have K := K.1 c0
    refine r_aload_n C 0 rfl d_Wh_isFixed_9 ?_
    refine gf_Wh_below C hp0 k_112 d_Wh_isFixed_10 ?_
    refine r_if_eq C 21 d_Wh_isFixed_13 (by decide) ⟨fun c0 => ?_, fun c0 => ?_⟩
    · have K := K.1 c0
      refine r_ldc (v := 1073741823) C k_405 d_Wh_isFixed_21 ?_
      exact K
    · have K := K.2 c0
      refine r_ldc (v := 1073741824) C k_404 d_Wh_isFixed_16 ?_
      refine r_goto C 23 d_Wh_isFixed_18 (by decide) ?_
      exact K
  · have K := K.2 c0
    refine r_iconst (v := 1) C (by decide) d_Wh_isFixed_7 ?_
    exact q_zret C Q (by decide) d_Wh_isFixed_8 ⟨_, rfl, K⟩
set_option maxRecDepth 20000 in
theorem g_Wh_isFixed_23 {X : CX} {h : HP} {p0 : Nat} {t0 : Int32} {Φ : Int32 → HP → Prop} (C : Cok X b_Wh_isFixed 2 R_Wh ((some .boolean))) (Rm : xR X = rml 0 0 0) (Q : Qok X 0 0 (fun r h2 => ∃ v, r = some (.int v) ∧ Φ v h2)) (hp0 : kd p0 = (0, 0))
    (K : (¬ (h p0 1) = 1 → Φ 0 h) ∧ ((h p0 1) = 1 → vp_in 0 44 ∧ (((h (p0 + 1) (0 : Int32).toNatClampNeg) ≤ 0 → Φ 0 h) ∧ (¬ (h (p0 + 1) (0 : Int32).toNatClampNeg) ≤ 0 → vp_in 0 44 ∧ ((t0 < (h (p0 + 1) (0 : Int32).toNatClampNeg) → Φ 0 h) ∧ (¬ t0 < (h (p0 + 1) (0 : Int32).toNatClampNeg) → Φ 1 h)))))) :
    Wg X 0 0 h [(0, .ref p0)] [.int t0] 23 := by
  refine r_istore_n (ls2 := [(0, .ref p0), (1, .int t0)]) C rfl (by decide) rfl d_Wh_isFixed_23 ?_
  refine r_aload_n C 0 rfl d_Wh_isFixed_24 ?_
  refine gf_Wh_length C hp0 k_109 d_Wh_isFixed_25 ?_
  refine r_iconst (v := 1) C (by decide) d_Wh_isFixed_28 ?_
  refine r_icmp_ne C 55 d_Wh_isFixed_29 (by decide) ⟨fun c0 => ?_, fun c0 => ?_⟩
  · have K := K.1 c0
    refine r_iconst (v := 0) C (by decide) d_Wh_isFixed_55 ?_
    exact q_zret C Q (by decide) d_Wh_isFixed_56 ⟨_, rfl, K⟩
  · have K := K.2 c0
    refine r_aload_n C 0 rfl d_Wh_isFixed_32 ?_
    refine gf_Wh_words (k2 := p0 + 1) C rfl hp0 k_105 d_Wh_isFixed_33 ?_
    refine r_iconst (v := 0) C (by decide) d_Wh_isFixed_36 ?_
    obtain ⟨s0, K⟩ := K
    refine r_iald C (kWh1 hp0) s0 d_Wh_isFixed_37 ?_
    refine r_if_le C 55 d_Wh_isFixed_38 (by decide) ⟨fun c0 => ?_, fun c0 => ?_⟩
    · have K := K.1 c0
      refine r_iconst (v := 0) C (by decide) d_Wh_isFixed_55 ?_
      exact q_zret C Q (by decide) d_Wh_isFixed_56 ⟨_, rfl, K⟩
    · have K := K.2 c0
      refine r_aload_n C 0 rfl d_Wh_isFixed_41 ?_
      refine gf_Wh_words (k2 := p0 + 1) C rfl hp0 k_105 d_Wh_isFixed_42 ?_
      refine r_iconst (v := 0) C (by decide) d_Wh_isFixed_45 ?_
      obtain ⟨s0, K⟩ := K
      refine r_iald C (kWh1 hp0) s0 d_Wh_isFixed_46 ?_
      refine r_iload_n C 1 rfl d_Wh_isFixed_47 ?_
      refine r_icmp_gt C 55 d_Wh_isFixed_48 (by decide) ⟨fun c0 => ?_, fun c0 => ?_⟩
      · have K := K.1 c0
        refine r_iconst (v := 0) C (by decide) d_Wh_isFixed_55 ?_
        exact q_zret C Q (by decide) d_Wh_isFixed_56 ⟨_, rfl, K⟩
      · have K := K.2 c0
        refine r_iconst (v := 1) C (by decide) d_Wh_isFixed_51 ?_
        refine r_goto C 56 d_Wh_isFixed_52 (by decide) ?_
        exact q_zret C Q (by decide) d_Wh_isFixed_56 ⟨_, rfl, K⟩
set_option maxRecDepth 20000 in
theorem g_Wh_asFixed_0 {X : CX} {h : HP} {p0 : Nat} {Φ : Int32 → HP → Prop} (C : Cok X b_Wh_asFixed 1 R_Wh ((some .int))) (Rm : xR X = rml 0 0 0) (Q : Qok X 0 0 (fun r h2 => ∃ v, r = some (.int v) ∧ Φ v h2)) (hp0 : kd p0 = (0, 0))
    (K : (¬ (h p0 1) = 0 → ((h p0 2) = 0 → vp_in 0 44 ∧ (Φ (h (p0 + 1) (0 : Int32).toNatClampNeg) h)) ∧ (¬ (h p0 2) = 0 → vp_in 0 44 ∧ (Φ (-(h (p0 + 1) (0 : Int32).toNatClampNeg)) h))) ∧ ((h p0 1) = 0 → Φ 0 h)) :
    Wg X 0 0 h [(0, .ref p0)] [] 0 := by
  refine r_aload_n C 0 rfl d_Wh_asFixed_0 ?_
  refine gf_Wh_length C hp0 k_109 d_Wh_asFixed_1 ?_
  refine r_if_ne C 9 d_Wh_asFixed_4 (by decide) ⟨fun c0 => ?_, fun c0 => ?_⟩
  · have K := K.1 c0
    refine r_aload_n C 0 rfl d_Wh_asFixed_9 ?_
    refine gf_Wh_below C hp0 k_112 d_Wh_asFixed_10 ?_
    refine r_if_eq C 26 d_Wh_asFixed_13 (by decide) ⟨fun c0 => ?_, fun c0 => ?_⟩
    · have K := K.1 c0
      refine r_aload_n C 0 rfl d_Wh_asFixed_26 ?_
      refine gf_Wh_words (k2 := p0 + 1) C rfl hp0 k_105 d_Wh_asFixed_27 ?_
      refine r_iconst (v := 0) C (by decide) d_Wh_asFixed_30 ?_
      obtain ⟨s0, K⟩ := K
      refine r_iald C (kWh1 hp0) s0 d_Wh_asFixed_31 ?_
      exact q_iret C Q d_Wh_asFixed_32 ⟨_, rfl, K⟩
    · have K := K.2 c0
      refine r_aload_n C 0 rfl d_Wh_asFixed_16 ?_
      refine gf_Wh_words (k2 := p0 + 1) C rfl hp0 k_105 d_Wh_asFixed_17 ?_
      refine r_iconst (v := 0) C (by decide) d_Wh_asFixed_20 ?_
      obtain ⟨s0, K⟩ := K
      refine r_iald C (kWh1 hp0) s0 d_Wh_asFixed_21 ?_
      refine r_ineg C d_Wh_asFixed_22 ?_
      refine r_goto C 32 d_Wh_asFixed_23 (by decide) ?_
      exact q_iret C Q d_Wh_asFixed_32 ⟨_, rfl, K⟩
  · have K := K.2 c0
    refine r_iconst (v := 0) C (by decide) d_Wh_asFixed_7 ?_
    exact q_iret C Q d_Wh_asFixed_8 ⟨_, rfl, K⟩
set_option maxRecDepth 20000 in
theorem g_Wh_wordAt_0 {X : CX} {h : HP} {p0 : Nat} {v1 : Int32} {Φ : Int64 → HP → Prop} (C : Cok X b_Wh_wordAt 2 R_Wh ((some .long))) (Rm : xR X = rml 0 0 0) (Q : Qok X 0 0 (fun r h2 => ∃ v, r = some (.long v) ∧ Φ v h2)) (hp0 : kd p0 = (0, 0))
    (K : ((h p0 1) ≤ v1 → Φ 0 h) ∧ (¬ (h p0 1) ≤ v1 → vp_in v1 44 ∧ (Φ ((Int32.toInt64 (h (p0 + 1) v1.toNatClampNeg)) &&& 4294967295) h))) :
    Wg X 0 0 h [(0, .ref p0), (1, .int v1)] [] 0 := by
  refine r_iload_n C 1 rfl d_Wh_wordAt_0 ?_
  refine r_aload_n C 0 rfl d_Wh_wordAt_1 ?_
  refine gf_Wh_length C hp0 k_109 d_Wh_wordAt_2 ?_
  refine r_icmp_ge C 22 d_Wh_wordAt_5 (by decide) ⟨fun c0 => ?_, fun c0 => ?_⟩
  · have K := K.1 c0
    refine r_lconst (v := 0) C (by decide) d_Wh_wordAt_22 ?_
    exact q_lret C Q d_Wh_wordAt_23 ⟨_, rfl, K⟩
  · have K := K.2 c0
    refine r_aload_n C 0 rfl d_Wh_wordAt_8 ?_
    refine gf_Wh_words (k2 := p0 + 1) C rfl hp0 k_105 d_Wh_wordAt_9 ?_
    refine r_iload_n C 1 rfl d_Wh_wordAt_12 ?_
    obtain ⟨s0, K⟩ := K
    refine r_iald C (kWh1 hp0) s0 d_Wh_wordAt_13 ?_
    refine r_i2l C d_Wh_wordAt_14 ?_
    refine r_ldc2 (v := 4294967295) C k_536 d_Wh_wordAt_15 ?_
    refine r_land C d_Wh_wordAt_18 ?_
    refine r_goto C 23 d_Wh_wordAt_19 (by decide) ?_
    exact q_lret C Q d_Wh_wordAt_23 ⟨_, rfl, K⟩
set_option maxRecDepth 20000 in
theorem g_Wh_flipSign_0 {X : CX} {h : HP} {p0 : Nat} {Φ : HP → Prop} (C : Cok X b_Wh_flipSign 1 R_Wh none) (Rm : xR X = rml 0 0 0) (Q : Qok X 0 0 (fun r h2 => r = none ∧ Φ h2)) (hp0 : kd p0 = (0, 0))
    (K : (¬ (h p0 2) = 0 → Φ (up h p0 2 0)) ∧ ((h p0 2) = 0 → ((h p0 1) ≤ 0 → Φ (up h p0 2 0)) ∧ (¬ (h p0 1) ≤ 0 → Φ (up h p0 2 1)))) :
    Wg X 0 0 h [(0, .ref p0)] [] 0 := by
  refine r_aload_n C 0 rfl d_Wh_flipSign_0 ?_
  refine r_aload_n C 0 rfl d_Wh_flipSign_1 ?_
  refine gf_Wh_below C hp0 k_112 d_Wh_flipSign_2 ?_
  refine r_if_ne C 19 d_Wh_flipSign_5 (by decide) ⟨fun c0 => ?_, fun c0 => ?_⟩
  · have K := K.1 c0
    refine r_iconst (v := 0) C (by decide) d_Wh_flipSign_19 ?_
    refine pf_Wh_below C hp0 (by decide) k_112 d_Wh_flipSign_20 ?_
    exact q_vret C Q d_Wh_flipSign_23 ⟨rfl, K⟩
  · have K := K.2 c0
    refine r_aload_n C 0 rfl d_Wh_flipSign_8 ?_
    refine gf_Wh_length C hp0 k_109 d_Wh_flipSign_9 ?_
    refine r_if_le C 19 d_Wh_flipSign_12 (by decide) ⟨fun c0 => ?_, fun c0 => ?_⟩
    · have K := K.1 c0
      refine r_iconst (v := 0) C (by decide) d_Wh_flipSign_19 ?_
      refine pf_Wh_below C hp0 (by decide) k_112 d_Wh_flipSign_20 ?_
      exact q_vret C Q d_Wh_flipSign_23 ⟨rfl, K⟩
    · have K := K.2 c0
      refine r_iconst (v := 1) C (by decide) d_Wh_flipSign_15 ?_
      refine r_goto C 20 d_Wh_flipSign_16 (by decide) ?_
      refine pf_Wh_below C hp0 (by decide) k_112 d_Wh_flipSign_20 ?_
      exact q_vret C Q d_Wh_flipSign_23 ⟨rfl, K⟩
set_option maxRecDepth 20000 in
theorem g_Wh_orderOfSizes_0 {X : CX} {h : HP} {p0 : Nat} {p1 : Nat} {Φ : Int32 → HP → Prop} (C : Cok X b_Wh_orderOfSizes 3 R_Wh ((some .int))) (Rm : xR X = rml 1 0 0) (Q : Qok X 0 0 (fun r h2 => ∃ v, r = some (.int v) ∧ Φ v h2)) (hp0 : kd p0 = (0, 0)) (hp1 : kd p1 = (0, 0))
    (K : ((h p0 1) = (h p1 1) → Wg X 0 0 h [(0, .ref p0), (1, .ref p1), (2, .int ((h p0 1) - 1))] [] 35) ∧ (¬ (h p0 1) = (h p1 1) → ((h p1 1) ≤ (h p0 1) → Φ 1 h) ∧ (¬ (h p1 1) ≤ (h p0 1) → Φ ((-1)) h))) :
    Wg X 0 0 h [(0, .ref p0), (1, .ref p1)] [] 0 := by
  refine r_aload_n C 0 rfl d_Wh_orderOfSizes_0 ?_
  refine gf_Wh_length C hp0 k_109 d_Wh_orderOfSizes_1 ?_
  refine r_aload_n C 1 rfl d_Wh_orderOfSizes_4 ?_
  refine gf_Wh_length C hp1 k_109 d_Wh_orderOfSizes_5 ?_
  refine r_icmp_eq C 28 d_Wh_orderOfSizes_8 (by decide) ⟨fun c0 => ?_, fun c0 => ?_⟩
  · have K := K.1 c0
    refine r_aload_n C 0 rfl d_Wh_orderOfSizes_28 ?_
    refine gf_Wh_length C hp0 k_109 d_Wh_orderOfSizes_29 ?_
    refine r_iconst (v := 1) C (by decide) d_Wh_orderOfSizes_32 ?_
    refine r_isub C d_Wh_orderOfSizes_33 ?_
    refine r_istore_n (ls2 := [(0, .ref p0), (1, .ref p1), (2, .int ((h p0 1) - 1))]) C rfl (by decide) rfl d_Wh_orderOfSizes_34 ?_
    exact K
  · have K := K.2 c0
    refine r_aload_n C 0 rfl d_Wh_orderOfSizes_11 ?_
    refine gf_Wh_length C hp0 k_109 d_Wh_orderOfSizes_12 ?_
    refine r_aload_n C 1 rfl d_Wh_orderOfSizes_15 ?_
    refine gf_Wh_length C hp1 k_109 d_Wh_orderOfSizes_16 ?_
    refine r_icmp_ge C 26 d_Wh_orderOfSizes_19 (by decide) ⟨fun c0 => ?_, fun c0 => ?_⟩
    · have K := K.1 c0
      refine r_iconst (v := 1) C (by decide) d_Wh_orderOfSizes_26 ?_
      exact q_iret C Q d_Wh_orderOfSizes_27 ⟨_, rfl, K⟩
    · have K := K.2 c0
      refine r_iconst (v := (-1)) C (by decide) d_Wh_orderOfSizes_22 ?_
      refine r_goto C 27 d_Wh_orderOfSizes_23 (by decide) ?_
      exact q_iret C Q d_Wh_orderOfSizes_27 ⟨_, rfl, K⟩
set_option maxRecDepth 20000 in
theorem g_Wh_orderOfSizes_35 {X : CX} {h : HP} {p0 : Nat} {p1 : Nat} {v2 : Int32} {Φ : Int32 → HP → Prop} (C : Cok X b_Wh_orderOfSizes 3 R_Wh ((some .int))) (Rm : xR X = rml 1 0 0) (Q : Qok X 0 0 (fun r h2 => ∃ v, r = some (.int v) ∧ Φ v h2)) (hp0 : kd p0 = (0, 0)) (hp1 : kd p1 = (0, 0))
    (K : (v2 < 0 → Φ 0 h) ∧ (¬ v2 < 0 → vp_in v2 44 ∧ (vp_in v2 44 ∧ (((h (p0 + 1) v2.toNatClampNeg) = (h (p1 + 1) v2.toNatClampNeg) → Wg X 0 0 h [(0, .ref p0), (1, .ref p1), (2, .int (v2 + (-1)))] [] 35) ∧ (¬ (h (p0 + 1) v2.toNatClampNeg) = (h (p1 + 1) v2.toNatClampNeg) → K_Wh_wordAt [.ref p0, .int v2] h (fun r1 h1 => K_Wh_wordAt [.ref p1, .int v2] h1 (fun r2 h2 => (0 ≤ (lg_cmp r1 r2) → Φ 1 h2) ∧ (¬ 0 ≤ (lg_cmp r1 r2) → Φ ((-1)) h2)))))))) :
    Wg X 0 0 h [(0, .ref p0), (1, .ref p1), (2, .int v2)] [] 35 := by
  refine r_iload_n C 2 rfl d_Wh_orderOfSizes_35 ?_
  refine r_if_lt C 80 d_Wh_orderOfSizes_36 (by decide) ⟨fun c0 => ?_, fun c0 => ?_⟩
  · have K := K.1 c0
    refine r_iconst (v := 0) C (by decide) d_Wh_orderOfSizes_80 ?_
    exact q_iret C Q d_Wh_orderOfSizes_81 ⟨_, rfl, K⟩
  · have K := K.2 c0
    refine r_aload_n C 0 rfl d_Wh_orderOfSizes_39 ?_
    refine gf_Wh_words (k2 := p0 + 1) C rfl hp0 k_105 d_Wh_orderOfSizes_40 ?_
    refine r_iload_n C 2 rfl d_Wh_orderOfSizes_43 ?_
    obtain ⟨s0, K⟩ := K
    refine r_iald C (kWh1 hp0) s0 d_Wh_orderOfSizes_44 ?_
    refine r_aload_n C 1 rfl d_Wh_orderOfSizes_45 ?_
    refine gf_Wh_words (k2 := p1 + 1) C rfl hp1 k_105 d_Wh_orderOfSizes_46 ?_
    refine r_iload_n C 2 rfl d_Wh_orderOfSizes_49 ?_
    obtain ⟨s0, K⟩ := K
    refine r_iald C (kWh1 hp1) s0 d_Wh_orderOfSizes_50 ?_
    refine r_icmp_eq C 74 d_Wh_orderOfSizes_51 (by decide) ⟨fun c0 => ?_, fun c0 => ?_⟩
    · have K := K.1 c0
      refine r_iinc (ls2 := [(0, .ref p0), (1, .ref p1), (2, .int (v2 + (-1)))]) C 2 (m := -1) rfl (by decide) (by decide) rfl d_Wh_orderOfSizes_74 ?_
      refine r_goto C 35 d_Wh_orderOfSizes_77 (by decide) ?_
      exact K
    · have K := K.2 c0
      refine r_aload_n C 0 rfl d_Wh_orderOfSizes_54 ?_
      refine r_iload_n C 2 rfl d_Wh_orderOfSizes_55 ?_
      refine r_callV (As := [.int v2]) (st := []) (lvc := 0) (mcc := 0) (msc := 0) C Rm M_Wh_wordAt rfl k_541 hp0 (by decide) (Nat.le_of_ble_eq_true rfl) ⟨by decide, by decide⟩ d_Wh_orderOfSizes_56 ?_
      refine Can.mono K (fun _ h1 z => ?_)
      obtain ⟨r1, rfl, K⟩ := z
      show Wg X 0 0 h1 [(0, .ref p0), (1, .ref p1), (2, .int v2)] [.long r1] 59
      refine r_aload_n C 1 rfl d_Wh_orderOfSizes_59 ?_
      refine r_iload_n C 2 rfl d_Wh_orderOfSizes_60 ?_
      refine r_callV (As := [.int v2]) (st := [.long r1]) (lvc := 0) (mcc := 0) (msc := 0) C Rm M_Wh_wordAt rfl k_541 hp1 (by decide) (Nat.le_of_ble_eq_true rfl) ⟨by decide, by decide⟩ d_Wh_orderOfSizes_61 ?_
      refine Can.mono K (fun _ h2 z => ?_)
      obtain ⟨r2, rfl, K⟩ := z
      show Wg X 0 0 h2 [(0, .ref p0), (1, .ref p1), (2, .int v2)] [.long r2, .long r1] 64
      refine r_lcmp C d_Wh_orderOfSizes_64 ?_
      refine r_if_ge C 72 d_Wh_orderOfSizes_65 (by decide) ⟨fun c0 => ?_, fun c0 => ?_⟩
      · have K := K.1 c0
        refine r_iconst (v := 1) C (by decide) d_Wh_orderOfSizes_72 ?_
        exact q_iret C Q d_Wh_orderOfSizes_73 ⟨_, rfl, K⟩
      · have K := K.2 c0
        refine r_iconst (v := (-1)) C (by decide) d_Wh_orderOfSizes_68 ?_
        refine r_goto C 73 d_Wh_orderOfSizes_69 (by decide) ?_
        exact q_iret C Q d_Wh_orderOfSizes_73 ⟨_, rfl, K⟩
set_option maxRecDepth 20000 in
theorem g_Wh_orderTo_0 {X : CX} {h : HP} {p0 : Nat} {p1 : Nat} {Φ : Int32 → HP → Prop} (C : Cok X b_Wh_orderTo 2 R_Wh ((some .int))) (Rm : xR X = rml 2 0 0) (Q : Qok X 0 0 (fun r h2 => ∃ v, r = some (.int v) ∧ Φ v h2)) (hp0 : kd p0 = (0, 0)) (hp1 : kd p1 = (0, 0))
    (K : ((h p0 2) = (h p1 2) → ((h p0 2) = 0 → K_Wh_orderOfSizes [.ref p0, .ref p1] h (fun r1 h1 => Φ r1 h1)) ∧ (¬ (h p0 2) = 0 → K_Wh_orderOfSizes [.ref p1, .ref p0] h (fun r2 h2 => Φ r2 h2))) ∧ (¬ (h p0 2) = (h p1 2) → ((h p0 2) = 0 → Φ 1 h) ∧ (¬ (h p0 2) = 0 → Φ ((-1)) h))) :
    Wg X 0 0 h [(0, .ref p0), (1, .ref p1)] [] 0 := by
  refine r_aload_n C 0 rfl d_Wh_orderTo_0 ?_
  refine gf_Wh_below C hp0 k_112 d_Wh_orderTo_1 ?_
  refine r_aload_n C 1 rfl d_Wh_orderTo_4 ?_
  refine gf_Wh_below C hp1 k_112 d_Wh_orderTo_5 ?_
  refine r_icmp_eq C 24 d_Wh_orderTo_8 (by decide) ⟨fun c0 => ?_, fun c0 => ?_⟩
  · have K := K.1 c0
    refine r_aload_n C 0 rfl d_Wh_orderTo_24 ?_
    refine gf_Wh_below C hp0 k_112 d_Wh_orderTo_25 ?_
    refine r_if_eq C 39 d_Wh_orderTo_28 (by decide) ⟨fun c0 => ?_, fun c0 => ?_⟩
    · have K := K.1 c0
      refine r_aload_n C 0 rfl d_Wh_orderTo_39 ?_
      refine r_aload_n C 1 rfl d_Wh_orderTo_40 ?_
      refine r_callV (As := [.ref p1]) (st := []) (lvc := 1) (mcc := 0) (msc := 0) C Rm M_Wh_orderOfSizes rfl k_858 hp0 (by decide) (Nat.le_of_ble_eq_true rfl) ⟨by decide, by decide⟩ d_Wh_orderTo_41 ?_
      refine Can.mono K (fun _ h1 z => ?_)
      obtain ⟨r1, rfl, K⟩ := z
      show Wg X 0 0 h1 [(0, .ref p0), (1, .ref p1)] [.int r1] 44
      exact q_iret C Q d_Wh_orderTo_44 ⟨_, rfl, K⟩
    · have K := K.2 c0
      refine r_aload_n C 1 rfl d_Wh_orderTo_31 ?_
      refine r_aload_n C 0 rfl d_Wh_orderTo_32 ?_
      refine r_callV (As := [.ref p0]) (st := []) (lvc := 1) (mcc := 0) (msc := 0) C Rm M_Wh_orderOfSizes rfl k_858 hp1 (by decide) (Nat.le_of_ble_eq_true rfl) ⟨by decide, by decide⟩ d_Wh_orderTo_33 ?_
      refine Can.mono K (fun _ h2 z => ?_)
      obtain ⟨r2, rfl, K⟩ := z
      show Wg X 0 0 h2 [(0, .ref p0), (1, .ref p1)] [.int r2] 36
      refine r_goto C 44 d_Wh_orderTo_36 (by decide) ?_
      exact q_iret C Q d_Wh_orderTo_44 ⟨_, rfl, K⟩
  · have K := K.2 c0
    refine r_aload_n C 0 rfl d_Wh_orderTo_11 ?_
    refine gf_Wh_below C hp0 k_112 d_Wh_orderTo_12 ?_
    refine r_if_eq C 22 d_Wh_orderTo_15 (by decide) ⟨fun c0 => ?_, fun c0 => ?_⟩
    · have K := K.1 c0
      refine r_iconst (v := 1) C (by decide) d_Wh_orderTo_22 ?_
      exact q_iret C Q d_Wh_orderTo_23 ⟨_, rfl, K⟩
    · have K := K.2 c0
      refine r_iconst (v := (-1)) C (by decide) d_Wh_orderTo_18 ?_
      refine r_goto C 23 d_Wh_orderTo_19 (by decide) ?_
      exact q_iret C Q d_Wh_orderTo_23 ⟨_, rfl, K⟩
set_option maxRecDepth 20000 in
theorem g_Wh_setSumOfSizes_0 {X : CX} {h : HP} {p0 : Nat} {p1 : Nat} {p2 : Nat} {Φ : HP → Prop} (C : Cok X b_Wh_setSumOfSizes 7 R_Wh none) (Rm : xR X = rml 2 0 0) (Q : Qok X 0 0 (fun r h2 => r = none ∧ Φ h2)) (hp0 : kd p0 = (0, 0)) (hp1 : kd p1 = (0, 0)) (hp2 : kd p2 = (0, 0))
    (K : Wg X 0 0 h [(0, .ref p0), (1, .ref p1), (2, .ref p2), (3, .int (if (h p1 1) < (h p2 1) then (h p2 1) else (h p1 1))), (4, .long 0), (6, .int 0)] [] 18) :
    Wg X 0 0 h [(0, .ref p0), (1, .ref p1), (2, .ref p2)] [] 0 := by
  refine r_aload_n C 1 rfl d_Wh_setSumOfSizes_0 ?_
  refine gf_Wh_length C hp1 k_109 d_Wh_setSumOfSizes_1 ?_
  refine r_aload_n C 2 rfl d_Wh_setSumOfSizes_4 ?_
  refine gf_Wh_length C hp2 k_109 d_Wh_setSumOfSizes_5 ?_
  refine r_max C Rm (by decide) k_857 (Nat.le_of_ble_eq_true rfl) d_Wh_setSumOfSizes_8 ?_
  refine r_istore_n (ls2 := [(0, .ref p0), (1, .ref p1), (2, .ref p2), (3, .int (if (h p1 1) < (h p2 1) then (h p2 1) else (h p1 1)))]) C rfl (by decide) rfl d_Wh_setSumOfSizes_11 ?_
  refine r_lconst (v := 0) C (by decide) d_Wh_setSumOfSizes_12 ?_
  refine r_lstore (ls2 := [(0, .ref p0), (1, .ref p1), (2, .ref p2), (3, .int (if (h p1 1) < (h p2 1) then (h p2 1) else (h p1 1))), (4, .long 0)]) C (by decide) rfl d_Wh_setSumOfSizes_13 ?_
  refine r_iconst (v := 0) C (by decide) d_Wh_setSumOfSizes_15 ?_
  refine r_istore (ls2 := [(0, .ref p0), (1, .ref p1), (2, .ref p2), (3, .int (if (h p1 1) < (h p2 1) then (h p2 1) else (h p1 1))), (4, .long 0), (6, .int 0)]) C (by decide) rfl d_Wh_setSumOfSizes_16 ?_
  exact K
set_option maxRecDepth 20000 in
theorem g_Wh_setSumOfSizes_18 {X : CX} {h : HP} {p0 : Nat} {p1 : Nat} {p2 : Nat} {v3 : Int32} {v4 : Int64} {v6 : Int32} {Φ : HP → Prop} (C : Cok X b_Wh_setSumOfSizes 7 R_Wh none) (Rm : xR X = rml 2 0 0) (Q : Qok X 0 0 (fun r h2 => r = none ∧ Φ h2)) (hp0 : kd p0 = (0, 0)) (hp1 : kd p1 = (0, 0)) (hp2 : kd p2 = (0, 0))
    (K : (v3 ≤ v6 → vp_in v3 44 ∧ (K_Wh_trim [.ref p0, .int (v3 + 1)] (up h (p0 + 1) v3.toNatClampNeg (Int64.toInt32 v4)) (fun h1 => Φ h1))) ∧ (¬ v3 ≤ v6 → K_Wh_wordAt [.ref p1, .int v6] h (fun r2 h2 => K_Wh_wordAt [.ref p2, .int v6] h2 (fun r3 h3 => vp_in v6 44 ∧ (Wg X 0 0 (up h3 (p0 + 1) v6.toNatClampNeg (Int64.toInt32 (v4 + (r2 + r3)))) [(0, .ref p0), (1, .ref p1), (2, .ref p2), (3, .int v3), (4, .long (lushr (v4 + (r2 + r3)) 32)), (6, .int (v6 + 1))] [] 18))))) :
    Wg X 0 0 h [(0, .ref p0), (1, .ref p1), (2, .ref p2), (3, .int v3), (4, .long v4), (6, .int v6)] [] 18 := by
  refine r_iload C 5 rfl d_Wh_setSumOfSizes_18 ?_
  refine r_iload_n C 3 rfl d_Wh_setSumOfSizes_20 ?_
  refine r_icmp_ge C 65 d_Wh_setSumOfSizes_21 (by decide) ⟨fun c0 => ?_, fun c0 => ?_⟩
  · have K := K.1 c0
    refine r_aload_n C 0 rfl d_Wh_setSumOfSizes_65 ?_
    refine gf_Wh_words (k2 := p0 + 1) C rfl hp0 k_105 d_Wh_setSumOfSizes_66 ?_
    refine r_iload_n C 3 rfl d_Wh_setSumOfSizes_69 ?_
    refine r_lload C 4 rfl d_Wh_setSumOfSizes_70 ?_
    refine r_l2i C d_Wh_setSumOfSizes_72 ?_
    obtain ⟨s0, K⟩ := K
    refine r_iast C (kWh1 hp0) s0 d_Wh_setSumOfSizes_73 ?_
    refine r_aload_n C 0 rfl d_Wh_setSumOfSizes_74 ?_
    refine r_iload_n C 3 rfl d_Wh_setSumOfSizes_75 ?_
    refine r_iconst (v := 1) C (by decide) d_Wh_setSumOfSizes_76 ?_
    refine r_iadd C d_Wh_setSumOfSizes_77 ?_
    refine r_callV (As := [.int (v3 + 1)]) (st := []) (lvc := 0) (mcc := 0) (msc := 0) C Rm M_Wh_trim rfl k_382 hp0 (by decide) (Nat.le_of_ble_eq_true rfl) ⟨by decide, by decide⟩ d_Wh_setSumOfSizes_78 ?_
    refine Can.mono K (fun _ h1 z => ?_)
    obtain ⟨rfl, K⟩ := z
    show Wg X 0 0 h1 [(0, .ref p0), (1, .ref p1), (2, .ref p2), (3, .int v3), (4, .long v4), (6, .int v6)] [] 81
    exact q_vret C Q d_Wh_setSumOfSizes_81 ⟨rfl, K⟩
  · have K := K.2 c0
    refine r_lload C 4 rfl d_Wh_setSumOfSizes_24 ?_
    refine r_aload_n C 1 rfl d_Wh_setSumOfSizes_26 ?_
    refine r_iload C 5 rfl d_Wh_setSumOfSizes_27 ?_
    refine r_callV (As := [.int v6]) (st := [.long v4]) (lvc := 0) (mcc := 0) (msc := 0) C Rm M_Wh_wordAt rfl k_541 hp1 (by decide) (Nat.le_of_ble_eq_true rfl) ⟨by decide, by decide⟩ d_Wh_setSumOfSizes_29 ?_
    refine Can.mono K (fun _ h2 z => ?_)
    obtain ⟨r2, rfl, K⟩ := z
    show Wg X 0 0 h2 [(0, .ref p0), (1, .ref p1), (2, .ref p2), (3, .int v3), (4, .long v4), (6, .int v6)] [.long r2, .long v4] 32
    refine r_aload_n C 2 rfl d_Wh_setSumOfSizes_32 ?_
    refine r_iload C 5 rfl d_Wh_setSumOfSizes_33 ?_
    refine r_callV (As := [.int v6]) (st := [.long r2, .long v4]) (lvc := 0) (mcc := 0) (msc := 0) C Rm M_Wh_wordAt rfl k_541 hp2 (by decide) (Nat.le_of_ble_eq_true rfl) ⟨by decide, by decide⟩ d_Wh_setSumOfSizes_35 ?_
    refine Can.mono K (fun _ h3 z => ?_)
    obtain ⟨r3, rfl, K⟩ := z
    show Wg X 0 0 h3 [(0, .ref p0), (1, .ref p1), (2, .ref p2), (3, .int v3), (4, .long v4), (6, .int v6)] [.long r3, .long r2, .long v4] 38
    refine r_ladd C d_Wh_setSumOfSizes_38 ?_
    refine r_ladd C d_Wh_setSumOfSizes_39 ?_
    refine r_lstore (ls2 := [(0, .ref p0), (1, .ref p1), (2, .ref p2), (3, .int v3), (4, .long (v4 + (r2 + r3))), (6, .int v6)]) C (by decide) rfl d_Wh_setSumOfSizes_40 ?_
    refine r_aload_n C 0 rfl d_Wh_setSumOfSizes_42 ?_
    refine gf_Wh_words (k2 := p0 + 1) C rfl hp0 k_105 d_Wh_setSumOfSizes_43 ?_
    refine r_iload C 5 rfl d_Wh_setSumOfSizes_46 ?_
    refine r_lload C 4 rfl d_Wh_setSumOfSizes_48 ?_
    refine r_l2i C d_Wh_setSumOfSizes_50 ?_
    obtain ⟨s0, K⟩ := K
    refine r_iast C (kWh1 hp0) s0 d_Wh_setSumOfSizes_51 ?_
    refine r_lload C 4 rfl d_Wh_setSumOfSizes_52 ?_
    refine r_bipush (v := 32) C (by decide) d_Wh_setSumOfSizes_54 ?_
    refine r_lushr C d_Wh_setSumOfSizes_56 ?_
    refine r_lstore (ls2 := [(0, .ref p0), (1, .ref p1), (2, .ref p2), (3, .int v3), (4, .long (lushr (v4 + (r2 + r3)) 32)), (6, .int v6)]) C (by decide) rfl d_Wh_setSumOfSizes_57 ?_
    refine r_iinc (ls2 := [(0, .ref p0), (1, .ref p1), (2, .ref p2), (3, .int v3), (4, .long (lushr (v4 + (r2 + r3)) 32)), (6, .int (v6 + 1))]) C 5 (m := 1) rfl (by decide) (by decide) rfl d_Wh_setSumOfSizes_59 ?_
    refine r_goto C 18 d_Wh_setSumOfSizes_62 (by decide) ?_
    exact K
set_option maxRecDepth 20000 in
theorem g_Wh_setDifferenceOfSizes_0 {X : CX} {h : HP} {p0 : Nat} {p1 : Nat} {p2 : Nat} {Φ : HP → Prop} (C : Cok X b_Wh_setDifferenceOfSizes 9 R_Wh none) (Rm : xR X = rml 1 0 0) (Q : Qok X 0 0 (fun r h2 => r = none ∧ Φ h2)) (hp0 : kd p0 = (0, 0)) (hp1 : kd p1 = (0, 0)) (hp2 : kd p2 = (0, 0))
    (K : Wg X 0 0 h [(0, .ref p0), (1, .ref p1), (2, .ref p2), (3, .int (h p1 1)), (4, .long 0), (6, .int 0)] [] 11) :
    Wg X 0 0 h [(0, .ref p0), (1, .ref p1), (2, .ref p2)] [] 0 := by
  refine r_aload_n C 1 rfl d_Wh_setDifferenceOfSizes_0 ?_
  refine gf_Wh_length C hp1 k_109 d_Wh_setDifferenceOfSizes_1 ?_
  refine r_istore_n (ls2 := [(0, .ref p0), (1, .ref p1), (2, .ref p2), (3, .int (h p1 1))]) C rfl (by decide) rfl d_Wh_setDifferenceOfSizes_4 ?_
  refine r_lconst (v := 0) C (by decide) d_Wh_setDifferenceOfSizes_5 ?_
  refine r_lstore (ls2 := [(0, .ref p0), (1, .ref p1), (2, .ref p2), (3, .int (h p1 1)), (4, .long 0)]) C (by decide) rfl d_Wh_setDifferenceOfSizes_6 ?_
  refine r_iconst (v := 0) C (by decide) d_Wh_setDifferenceOfSizes_8 ?_
  refine r_istore (ls2 := [(0, .ref p0), (1, .ref p1), (2, .ref p2), (3, .int (h p1 1)), (4, .long 0), (6, .int 0)]) C (by decide) rfl d_Wh_setDifferenceOfSizes_9 ?_
  exact K
set_option maxRecDepth 20000 in
theorem g_Wh_setDifferenceOfSizes_11 {X : CX} {h : HP} {p0 : Nat} {p1 : Nat} {p2 : Nat} {v3 : Int32} {v4 : Int64} {v6 : Int32} {Φ : HP → Prop} (C : Cok X b_Wh_setDifferenceOfSizes 9 R_Wh none) (Rm : xR X = rml 1 0 0) (Q : Qok X 0 0 (fun r h2 => r = none ∧ Φ h2)) (hp0 : kd p0 = (0, 0)) (hp1 : kd p1 = (0, 0)) (hp2 : kd p2 = (0, 0))
    (K : (v3 ≤ v6 → K_Wh_trim [.ref p0, .int v3] h (fun h1 => Φ h1)) ∧ (¬ v3 ≤ v6 → K_Wh_wordAt [.ref p1, .int v6] h (fun r2 h2 => K_Wh_wordAt [.ref p2, .int v6] h2 (fun r3 h3 => vp_in v6 44 ∧ ((0 ≤ (lg_cmp ((r2 - r3) - v4) 0) → Wg X 0 0 (up h3 (p0 + 1) v6.toNatClampNeg (Int64.toInt32 ((r2 - r3) - v4))) [(0, .ref p0), (1, .ref p1), (2, .ref p2), (3, .int v3), (4, .long 0), (6, .int (v6 + 1))] [] 11) ∧ (¬ 0 ≤ (lg_cmp ((r2 - r3) - v4) 0) → Wg X 0 0 (up h3 (p0 + 1) v6.toNatClampNeg (Int64.toInt32 ((r2 - r3) - v4))) [(0, .ref p0), (1, .ref p1), (2, .ref p2), (3, .int v3), (4, .long 1), (6, .int (v6 + 1))] [] 11)))))) :
    Wg X 0 0 h [(0, .ref p0), (1, .ref p1), (2, .ref p2), (3, .int v3), (4, .long v4), (6, .int v6)] [] 11 := by
  refine r_iload C 5 rfl d_Wh_setDifferenceOfSizes_11 ?_
  refine r_iload_n C 3 rfl d_Wh_setDifferenceOfSizes_13 ?_
  refine r_icmp_ge C 65 d_Wh_setDifferenceOfSizes_14 (by decide) ⟨fun c0 => ?_, fun c0 => ?_⟩
  · have K := K.1 c0
    refine r_aload_n C 0 rfl d_Wh_setDifferenceOfSizes_65 ?_
    refine r_iload_n C 3 rfl d_Wh_setDifferenceOfSizes_66 ?_
    refine r_callV (As := [.int v3]) (st := []) (lvc := 0) (mcc := 0) (msc := 0) C Rm M_Wh_trim rfl k_382 hp0 (by decide) (Nat.le_of_ble_eq_true rfl) ⟨by decide, by decide⟩ d_Wh_setDifferenceOfSizes_67 ?_
    refine Can.mono K (fun _ h1 z => ?_)
    obtain ⟨rfl, K⟩ := z
    show Wg X 0 0 h1 [(0, .ref p0), (1, .ref p1), (2, .ref p2), (3, .int v3), (4, .long v4), (6, .int v6)] [] 70
    exact q_vret C Q d_Wh_setDifferenceOfSizes_70 ⟨rfl, K⟩
  · have K := K.2 c0
    refine r_aload_n C 1 rfl d_Wh_setDifferenceOfSizes_17 ?_
    refine r_iload C 5 rfl d_Wh_setDifferenceOfSizes_18 ?_
    refine r_callV (As := [.int v6]) (st := []) (lvc := 0) (mcc := 0) (msc := 0) C Rm M_Wh_wordAt rfl k_541 hp1 (by decide) (Nat.le_of_ble_eq_true rfl) ⟨by decide, by decide⟩ d_Wh_setDifferenceOfSizes_20 ?_
    refine Can.mono K (fun _ h2 z => ?_)
    obtain ⟨r2, rfl, K⟩ := z
    show Wg X 0 0 h2 [(0, .ref p0), (1, .ref p1), (2, .ref p2), (3, .int v3), (4, .long v4), (6, .int v6)] [.long r2] 23
    refine r_aload_n C 2 rfl d_Wh_setDifferenceOfSizes_23 ?_
    refine r_iload C 5 rfl d_Wh_setDifferenceOfSizes_24 ?_
    refine r_callV (As := [.int v6]) (st := [.long r2]) (lvc := 0) (mcc := 0) (msc := 0) C Rm M_Wh_wordAt rfl k_541 hp2 (by decide) (Nat.le_of_ble_eq_true rfl) ⟨by decide, by decide⟩ d_Wh_setDifferenceOfSizes_26 ?_
    refine Can.mono K (fun _ h3 z => ?_)
    obtain ⟨r3, rfl, K⟩ := z
    show Wg X 0 0 h3 [(0, .ref p0), (1, .ref p1), (2, .ref p2), (3, .int v3), (4, .long v4), (6, .int v6)] [.long r3, .long r2] 29
    refine r_lsub C d_Wh_setDifferenceOfSizes_29 ?_
    refine r_lload C 4 rfl d_Wh_setDifferenceOfSizes_30 ?_
    refine r_lsub C d_Wh_setDifferenceOfSizes_32 ?_
    refine r_lstore (ls2 := [(0, .ref p0), (1, .ref p1), (2, .ref p2), (3, .int v3), (4, .long v4), (6, .int v6), (7, .long ((r2 - r3) - v4))]) C (by decide) rfl d_Wh_setDifferenceOfSizes_33 ?_
    refine r_aload_n C 0 rfl d_Wh_setDifferenceOfSizes_35 ?_
    refine gf_Wh_words (k2 := p0 + 1) C rfl hp0 k_105 d_Wh_setDifferenceOfSizes_36 ?_
    refine r_iload C 5 rfl d_Wh_setDifferenceOfSizes_39 ?_
    refine r_lload C 6 rfl d_Wh_setDifferenceOfSizes_41 ?_
    refine r_l2i C d_Wh_setDifferenceOfSizes_43 ?_
    obtain ⟨s0, K⟩ := K
    refine r_iast C (kWh1 hp0) s0 d_Wh_setDifferenceOfSizes_44 ?_
    refine r_lload C 6 rfl d_Wh_setDifferenceOfSizes_45 ?_
    refine r_lconst (v := 0) C (by decide) d_Wh_setDifferenceOfSizes_47 ?_
    refine r_lcmp C d_Wh_setDifferenceOfSizes_48 ?_
    refine r_if_ge C 56 d_Wh_setDifferenceOfSizes_49 (by decide) ⟨fun c0 => ?_, fun c0 => ?_⟩
    · have K := K.1 c0
      refine r_lconst (v := 0) C (by decide) d_Wh_setDifferenceOfSizes_56 ?_
      refine r_lstore (ls2 := [(0, .ref p0), (1, .ref p1), (2, .ref p2), (3, .int v3), (4, .long 0), (6, .int v6), (7, .long ((r2 - r3) - v4))]) C (by decide) rfl d_Wh_setDifferenceOfSizes_57 ?_
      refine r_iinc (ls2 := [(0, .ref p0), (1, .ref p1), (2, .ref p2), (3, .int v3), (4, .long 0), (6, .int (v6 + 1)), (7, .long ((r2 - r3) - v4))]) C 5 (m := 1) rfl (by decide) (by decide) rfl d_Wh_setDifferenceOfSizes_59 ?_
      refine r_goto C 11 d_Wh_setDifferenceOfSizes_62 (by decide) ?_
      exact Wg.drop (by simp) K
    · have K := K.2 c0
      refine r_lconst (v := 1) C (by decide) d_Wh_setDifferenceOfSizes_52 ?_
      refine r_goto C 57 d_Wh_setDifferenceOfSizes_53 (by decide) ?_
      refine r_lstore (ls2 := [(0, .ref p0), (1, .ref p1), (2, .ref p2), (3, .int v3), (4, .long 1), (6, .int v6), (7, .long ((r2 - r3) - v4))]) C (by decide) rfl d_Wh_setDifferenceOfSizes_57 ?_
      refine r_iinc (ls2 := [(0, .ref p0), (1, .ref p1), (2, .ref p2), (3, .int v3), (4, .long 1), (6, .int (v6 + 1)), (7, .long ((r2 - r3) - v4))]) C 5 (m := 1) rfl (by decide) (by decide) rfl d_Wh_setDifferenceOfSizes_59 ?_
      refine r_goto C 11 d_Wh_setDifferenceOfSizes_62 (by decide) ?_
      exact Wg.drop (by simp) K
set_option maxRecDepth 20000 in
theorem g_Wh_setSum_0 {X : CX} {h : HP} {p0 : Nat} {p1 : Nat} {p2 : Nat} {Φ : HP → Prop} (C : Cok X b_Wh_setSum 5 R_Wh none) (Rm : xR X = rml 3 0 0) (Q : Qok X 0 0 (fun r h2 => r = none ∧ Φ h2)) (hp0 : kd p0 = (0, 0)) (hp1 : kd p1 = (0, 0)) (hp2 : kd p2 = (0, 0))
    (K : (¬ (h p1 2) = (h p2 2) → K_Wh_orderOfSizes [.ref p1, .ref p2] h (fun r1 h1 => (r1 < 0 → ((h p2 2) = 0 ∨ (h p2 2) = 1) ∧ (K_Wh_setDifferenceOfSizes [.ref p0, .ref p2, .ref p1] (up h1 p0 2 (h p2 2)) (fun h2 => Φ h2))) ∧ (¬ r1 < 0 → ((h p1 2) = 0 ∨ (h p1 2) = 1) ∧ (K_Wh_setDifferenceOfSizes [.ref p0, .ref p1, .ref p2] (up h1 p0 2 (h p1 2)) (fun h3 => Φ h3))))) ∧ ((h p1 2) = (h p2 2) → ((h p1 2) = 0 ∨ (h p1 2) = 1) ∧ (K_Wh_setSumOfSizes [.ref p0, .ref p1, .ref p2] (up h p0 2 (h p1 2)) (fun h4 => Φ h4)))) :
    Wg X 0 0 h [(0, .ref p0), (1, .ref p1), (2, .ref p2)] [] 0 := by
  refine r_aload_n C 1 rfl d_Wh_setSum_0 ?_
  refine gf_Wh_below C hp1 k_112 d_Wh_setSum_1 ?_
  refine r_istore_n (ls2 := [(0, .ref p0), (1, .ref p1), (2, .ref p2), (3, .int (h p1 2))]) C rfl (by decide) rfl d_Wh_setSum_4 ?_
  refine r_aload_n C 2 rfl d_Wh_setSum_5 ?_
  refine gf_Wh_below C hp2 k_112 d_Wh_setSum_6 ?_
  refine r_istore (ls2 := [(0, .ref p0), (1, .ref p1), (2, .ref p2), (3, .int (h p1 2)), (4, .int (h p2 2))]) C (by decide) rfl d_Wh_setSum_9 ?_
  refine r_iload_n C 3 rfl d_Wh_setSum_11 ?_
  refine r_iload C 4 rfl d_Wh_setSum_12 ?_
  refine r_icmp_ne C 31 d_Wh_setSum_14 (by decide) ⟨fun c0 => ?_, fun c0 => ?_⟩
  · have K := K.1 c0
    refine r_aload_n C 1 rfl d_Wh_setSum_31 ?_
    refine r_aload_n C 2 rfl d_Wh_setSum_32 ?_
    refine r_callV (As := [.ref p2]) (st := []) (lvc := 1) (mcc := 0) (msc := 0) C Rm M_Wh_orderOfSizes rfl k_858 hp1 (by decide) (Nat.le_of_ble_eq_true rfl) ⟨by decide, by decide⟩ d_Wh_setSum_33 ?_
    refine Can.mono K (fun _ h1 z => ?_)
    obtain ⟨r1, rfl, K⟩ := z
    show Wg X 0 0 h1 [(0, .ref p0), (1, .ref p1), (2, .ref p2), (3, .int (h p1 2)), (4, .int (h p2 2))] [.int r1] 36
    refine r_if_lt C 53 d_Wh_setSum_36 (by decide) ⟨fun c0 => ?_, fun c0 => ?_⟩
    · have K := K.1 c0
      refine r_aload_n C 0 rfl d_Wh_setSum_53 ?_
      refine r_iload C 4 rfl d_Wh_setSum_54 ?_
      obtain ⟨s0, K⟩ := K
      refine pf_Wh_below C hp0 s0 k_112 d_Wh_setSum_56 ?_
      refine r_aload_n C 0 rfl d_Wh_setSum_59 ?_
      refine r_aload_n C 2 rfl d_Wh_setSum_60 ?_
      refine r_aload_n C 1 rfl d_Wh_setSum_61 ?_
      refine r_callV (As := [.ref p2, .ref p1]) (st := []) (lvc := 1) (mcc := 0) (msc := 0) C Rm M_Wh_setDifferenceOfSizes rfl k_859 hp0 (by decide) (Nat.le_of_ble_eq_true rfl) ⟨by decide, by decide⟩ d_Wh_setSum_62 ?_
      refine Can.mono K (fun _ h2 z => ?_)
      obtain ⟨rfl, K⟩ := z
      show Wg X 0 0 h2 [(0, .ref p0), (1, .ref p1), (2, .ref p2), (3, .int (h p1 2)), (4, .int (h p2 2))] [] 65
      exact q_vret C Q d_Wh_setSum_65 ⟨rfl, K⟩
    · have K := K.2 c0
      refine r_aload_n C 0 rfl d_Wh_setSum_39 ?_
      refine r_iload_n C 3 rfl d_Wh_setSum_40 ?_
      obtain ⟨s0, K⟩ := K
      refine pf_Wh_below C hp0 s0 k_112 d_Wh_setSum_41 ?_
      refine r_aload_n C 0 rfl d_Wh_setSum_44 ?_
      refine r_aload_n C 1 rfl d_Wh_setSum_45 ?_
      refine r_aload_n C 2 rfl d_Wh_setSum_46 ?_
      refine r_callV (As := [.ref p1, .ref p2]) (st := []) (lvc := 1) (mcc := 0) (msc := 0) C Rm M_Wh_setDifferenceOfSizes rfl k_859 hp0 (by decide) (Nat.le_of_ble_eq_true rfl) ⟨by decide, by decide⟩ d_Wh_setSum_47 ?_
      refine Can.mono K (fun _ h3 z => ?_)
      obtain ⟨rfl, K⟩ := z
      show Wg X 0 0 h3 [(0, .ref p0), (1, .ref p1), (2, .ref p2), (3, .int (h p1 2)), (4, .int (h p2 2))] [] 50
      refine r_goto C 65 d_Wh_setSum_50 (by decide) ?_
      exact q_vret C Q d_Wh_setSum_65 ⟨rfl, K⟩
  · have K := K.2 c0
    refine r_aload_n C 0 rfl d_Wh_setSum_17 ?_
    refine r_iload_n C 3 rfl d_Wh_setSum_18 ?_
    obtain ⟨s0, K⟩ := K
    refine pf_Wh_below C hp0 s0 k_112 d_Wh_setSum_19 ?_
    refine r_aload_n C 0 rfl d_Wh_setSum_22 ?_
    refine r_aload_n C 1 rfl d_Wh_setSum_23 ?_
    refine r_aload_n C 2 rfl d_Wh_setSum_24 ?_
    refine r_callV (As := [.ref p1, .ref p2]) (st := []) (lvc := 2) (mcc := 0) (msc := 0) C Rm M_Wh_setSumOfSizes rfl k_853 hp0 (by decide) (Nat.le_of_ble_eq_true rfl) ⟨by decide, by decide⟩ d_Wh_setSum_25 ?_
    refine Can.mono K (fun _ h4 z => ?_)
    obtain ⟨rfl, K⟩ := z
    show Wg X 0 0 h4 [(0, .ref p0), (1, .ref p1), (2, .ref p2), (3, .int (h p1 2)), (4, .int (h p2 2))] [] 28
    refine r_goto C 65 d_Wh_setSum_28 (by decide) ?_
    exact q_vret C Q d_Wh_setSum_65 ⟨rfl, K⟩
set_option maxRecDepth 20000 in
theorem g_Wh_setProduct_0 {X : CX} {h : HP} {p0 : Nat} {p1 : Nat} {p2 : Nat} {Φ : HP → Prop} (C : Cok X b_Wh_setProduct 8 R_Wh none) (Rm : xR X = rml 11 0 0) (Q : Qok X 0 0 (fun r h2 => r = none ∧ Φ h2)) (hp0 : kd p0 = (0, 0)) (hp1 : kd p1 = (0, 0)) (hp2 : kd p2 = (0, 0))
    (K : K_Ar_fill [.ref (p0 + 1), .int 0, .int ((h p1 1) + (h p2 1)), .int 0] h (fun h1 => Wg X 0 0 h1 [(0, .ref p0), (1, .ref p1), (2, .ref p2), (3, .int ((h p1 1) + (h p2 1))), (4, .int 0)] [] 23)) :
    Wg X 0 0 h [(0, .ref p0), (1, .ref p1), (2, .ref p2)] [] 0 := by
  refine r_aload_n C 1 rfl d_Wh_setProduct_0 ?_
  refine gf_Wh_length C hp1 k_109 d_Wh_setProduct_1 ?_
  refine r_aload_n C 2 rfl d_Wh_setProduct_4 ?_
  refine gf_Wh_length C hp2 k_109 d_Wh_setProduct_5 ?_
  refine r_iadd C d_Wh_setProduct_8 ?_
  refine r_istore_n (ls2 := [(0, .ref p0), (1, .ref p1), (2, .ref p2), (3, .int ((h p1 1) + (h p2 1)))]) C rfl (by decide) rfl d_Wh_setProduct_9 ?_
  refine r_aload_n C 0 rfl d_Wh_setProduct_10 ?_
  refine gf_Wh_words (k2 := p0 + 1) C rfl hp0 k_105 d_Wh_setProduct_11 ?_
  refine r_iconst (v := 0) C (by decide) d_Wh_setProduct_14 ?_
  refine r_iload_n C 3 rfl d_Wh_setProduct_15 ?_
  refine r_iconst (v := 0) C (by decide) d_Wh_setProduct_16 ?_
  refine r_callS (As := [.ref (p0 + 1), .int 0, .int ((h p1 1) + (h p2 1)), .int 0]) (st := []) (lvc := 10) (mcc := 0) (msc := 0) C Rm M_Ar_fill rfl k_587 (by decide) (Nat.le_of_ble_eq_true rfl) ⟨by decide, by decide⟩ d_Wh_setProduct_17 ?_
  refine Can.mono K (fun _ h1 z => ?_)
  obtain ⟨rfl, K⟩ := z
  show Wg X 0 0 h1 [(0, .ref p0), (1, .ref p1), (2, .ref p2), (3, .int ((h p1 1) + (h p2 1)))] [] 20
  refine r_iconst (v := 0) C (by decide) d_Wh_setProduct_20 ?_
  refine r_istore (ls2 := [(0, .ref p0), (1, .ref p1), (2, .ref p2), (3, .int ((h p1 1) + (h p2 1))), (4, .int 0)]) C (by decide) rfl d_Wh_setProduct_21 ?_
  exact K
set_option maxRecDepth 20000 in
theorem g_Wh_setProduct_23 {X : CX} {h : HP} {p0 : Nat} {p1 : Nat} {p2 : Nat} {v3 : Int32} {v4 : Int32} {Φ : HP → Prop} (C : Cok X b_Wh_setProduct 8 R_Wh none) (Rm : xR X = rml 11 0 0) (Q : Qok X 0 0 (fun r h2 => r = none ∧ Φ h2)) (hp0 : kd p0 = (0, 0)) (hp1 : kd p1 = (0, 0)) (hp2 : kd p2 = (0, 0))
    (K : ((h p1 1) ≤ v4 → ((h p1 2) = (h p2 2) → K_Wh_trim [.ref p0, .int v3] (up h p0 2 0) (fun h1 => Φ h1)) ∧ (¬ (h p1 2) = (h p2 2) → K_Wh_trim [.ref p0, .int v3] (up h p0 2 1) (fun h2 => Φ h2))) ∧ (¬ (h p1 1) ≤ v4 → Wg X 0 0 h [(0, .ref p0), (1, .ref p1), (2, .ref p2), (3, .int v3), (4, .int v4), (5, .long 0), (7, .int 0)] [] 38)) :
    Wg X 0 0 h [(0, .ref p0), (1, .ref p1), (2, .ref p2), (3, .int v3), (4, .int v4)] [] 23 := by
  refine r_iload C 4 rfl d_Wh_setProduct_23 ?_
  refine r_aload_n C 1 rfl d_Wh_setProduct_25 ?_
  refine gf_Wh_length C hp1 k_109 d_Wh_setProduct_26 ?_
  refine r_icmp_ge C 128 d_Wh_setProduct_29 (by decide) ⟨fun c0 => ?_, fun c0 => ?_⟩
  · have K := K.1 c0
    refine r_aload_n C 0 rfl d_Wh_setProduct_128 ?_
    refine r_aload_n C 1 rfl d_Wh_setProduct_129 ?_
    refine gf_Wh_below C hp1 k_112 d_Wh_setProduct_130 ?_
    refine r_aload_n C 2 rfl d_Wh_setProduct_133 ?_
    refine gf_Wh_below C hp2 k_112 d_Wh_setProduct_134 ?_
    refine r_icmp_eq C 144 d_Wh_setProduct_137 (by decide) ⟨fun c0 => ?_, fun c0 => ?_⟩
    · have K := K.1 c0
      refine r_iconst (v := 0) C (by decide) d_Wh_setProduct_144 ?_
      refine pf_Wh_below C hp0 (by decide) k_112 d_Wh_setProduct_145 ?_
      refine r_aload_n C 0 rfl d_Wh_setProduct_148 ?_
      refine r_iload_n C 3 rfl d_Wh_setProduct_149 ?_
      refine r_callV (As := [.int v3]) (st := []) (lvc := 0) (mcc := 0) (msc := 0) C Rm M_Wh_trim rfl k_382 hp0 (by decide) (Nat.le_of_ble_eq_true rfl) ⟨by decide, by decide⟩ d_Wh_setProduct_150 ?_
      refine Can.mono K (fun _ h1 z => ?_)
      obtain ⟨rfl, K⟩ := z
      show Wg X 0 0 h1 [(0, .ref p0), (1, .ref p1), (2, .ref p2), (3, .int v3), (4, .int v4)] [] 153
      exact q_vret C Q d_Wh_setProduct_153 ⟨rfl, K⟩
    · have K := K.2 c0
      refine r_iconst (v := 1) C (by decide) d_Wh_setProduct_140 ?_
      refine r_goto C 145 d_Wh_setProduct_141 (by decide) ?_
      refine pf_Wh_below C hp0 (by decide) k_112 d_Wh_setProduct_145 ?_
      refine r_aload_n C 0 rfl d_Wh_setProduct_148 ?_
      refine r_iload_n C 3 rfl d_Wh_setProduct_149 ?_
      refine r_callV (As := [.int v3]) (st := []) (lvc := 0) (mcc := 0) (msc := 0) C Rm M_Wh_trim rfl k_382 hp0 (by decide) (Nat.le_of_ble_eq_true rfl) ⟨by decide, by decide⟩ d_Wh_setProduct_150 ?_
      refine Can.mono K (fun _ h2 z => ?_)
      obtain ⟨rfl, K⟩ := z
      show Wg X 0 0 h2 [(0, .ref p0), (1, .ref p1), (2, .ref p2), (3, .int v3), (4, .int v4)] [] 153
      exact q_vret C Q d_Wh_setProduct_153 ⟨rfl, K⟩
  · have K := K.2 c0
    refine r_lconst (v := 0) C (by decide) d_Wh_setProduct_32 ?_
    refine r_lstore (ls2 := [(0, .ref p0), (1, .ref p1), (2, .ref p2), (3, .int v3), (4, .int v4), (5, .long 0)]) C (by decide) rfl d_Wh_setProduct_33 ?_
    refine r_iconst (v := 0) C (by decide) d_Wh_setProduct_35 ?_
    refine r_istore (ls2 := [(0, .ref p0), (1, .ref p1), (2, .ref p2), (3, .int v3), (4, .int v4), (5, .long 0), (7, .int 0)]) C (by decide) rfl d_Wh_setProduct_36 ?_
    exact K
set_option maxRecDepth 20000 in
theorem g_Wh_setProduct_38 {X : CX} {h : HP} {p0 : Nat} {p1 : Nat} {p2 : Nat} {v3 : Int32} {v4 : Int32} {v5 : Int64} {v7 : Int32} {Φ : HP → Prop} (C : Cok X b_Wh_setProduct 8 R_Wh none) (Rm : xR X = rml 11 0 0) (Q : Qok X 0 0 (fun r h2 => r = none ∧ Φ h2)) (hp0 : kd p0 = (0, 0)) (hp1 : kd p1 = (0, 0)) (hp2 : kd p2 = (0, 0))
    (K : ((h p2 1) ≤ v7 → vp_in (v4 + (h p2 1)) 44 ∧ (Wg X 0 0 (up h (p0 + 1) (v4 + (h p2 1)).toNatClampNeg (Int64.toInt32 v5)) [(0, .ref p0), (1, .ref p1), (2, .ref p2), (3, .int v3), (4, .int (v4 + 1))] [] 23)) ∧ (¬ (h p2 1) ≤ v7 → K_Wh_wordAt [.ref p1, .int v4] h (fun r1 h1 => K_Wh_wordAt [.ref p2, .int v7] h1 (fun r2 h2 => vp_in (v4 + v7) 44 ∧ (vp_in (v4 + v7) 44 ∧ (Wg X 0 0 (up h2 (p0 + 1) (v4 + v7).toNatClampNeg (Int64.toInt32 (v5 + ((r1 * r2) + ((Int32.toInt64 (h2 (p0 + 1) (v4 + v7).toNatClampNeg)) &&& 4294967295))))) [(0, .ref p0), (1, .ref p1), (2, .ref p2), (3, .int v3), (4, .int v4), (5, .long (lushr (v5 + ((r1 * r2) + ((Int32.toInt64 (h2 (p0 + 1) (v4 + v7).toNatClampNeg)) &&& 4294967295))) 32)), (7, .int (v7 + 1))] [] 38)))))) :
    Wg X 0 0 h [(0, .ref p0), (1, .ref p1), (2, .ref p2), (3, .int v3), (4, .int v4), (5, .long v5), (7, .int v7)] [] 38 := by
  refine r_iload C 6 rfl d_Wh_setProduct_38 ?_
  refine r_aload_n C 2 rfl d_Wh_setProduct_40 ?_
  refine gf_Wh_length C hp2 k_109 d_Wh_setProduct_41 ?_
  refine r_icmp_ge C 107 d_Wh_setProduct_44 (by decide) ⟨fun c0 => ?_, fun c0 => ?_⟩
  · have K := K.1 c0
    refine r_aload_n C 0 rfl d_Wh_setProduct_107 ?_
    refine gf_Wh_words (k2 := p0 + 1) C rfl hp0 k_105 d_Wh_setProduct_108 ?_
    refine r_iload C 4 rfl d_Wh_setProduct_111 ?_
    refine r_aload_n C 2 rfl d_Wh_setProduct_113 ?_
    refine gf_Wh_length C hp2 k_109 d_Wh_setProduct_114 ?_
    refine r_iadd C d_Wh_setProduct_117 ?_
    refine r_lload C 5 rfl d_Wh_setProduct_118 ?_
    refine r_l2i C d_Wh_setProduct_120 ?_
    obtain ⟨s0, K⟩ := K
    refine r_iast C (kWh1 hp0) s0 d_Wh_setProduct_121 ?_
    refine r_iinc (ls2 := [(0, .ref p0), (1, .ref p1), (2, .ref p2), (3, .int v3), (4, .int (v4 + 1)), (5, .long v5), (7, .int v7)]) C 4 (m := 1) rfl (by decide) (by decide) rfl d_Wh_setProduct_122 ?_
    refine r_goto C 23 d_Wh_setProduct_125 (by decide) ?_
    exact Wg.drop (by simp) K
  · have K := K.2 c0
    refine r_lload C 5 rfl d_Wh_setProduct_47 ?_
    refine r_aload_n C 1 rfl d_Wh_setProduct_49 ?_
    refine r_iload C 4 rfl d_Wh_setProduct_50 ?_
    refine r_callV (As := [.int v4]) (st := [.long v5]) (lvc := 0) (mcc := 0) (msc := 0) C Rm M_Wh_wordAt rfl k_541 hp1 (by decide) (Nat.le_of_ble_eq_true rfl) ⟨by decide, by decide⟩ d_Wh_setProduct_52 ?_
    refine Can.mono K (fun _ h1 z => ?_)
    obtain ⟨r1, rfl, K⟩ := z
    show Wg X 0 0 h1 [(0, .ref p0), (1, .ref p1), (2, .ref p2), (3, .int v3), (4, .int v4), (5, .long v5), (7, .int v7)] [.long r1, .long v5] 55
    refine r_aload_n C 2 rfl d_Wh_setProduct_55 ?_
    refine r_iload C 6 rfl d_Wh_setProduct_56 ?_
    refine r_callV (As := [.int v7]) (st := [.long r1, .long v5]) (lvc := 0) (mcc := 0) (msc := 0) C Rm M_Wh_wordAt rfl k_541 hp2 (by decide) (Nat.le_of_ble_eq_true rfl) ⟨by decide, by decide⟩ d_Wh_setProduct_58 ?_
    refine Can.mono K (fun _ h2 z => ?_)
    obtain ⟨r2, rfl, K⟩ := z
    show Wg X 0 0 h2 [(0, .ref p0), (1, .ref p1), (2, .ref p2), (3, .int v3), (4, .int v4), (5, .long v5), (7, .int v7)] [.long r2, .long r1, .long v5] 61
    refine r_lmul C d_Wh_setProduct_61 ?_
    refine r_aload_n C 0 rfl d_Wh_setProduct_62 ?_
    refine gf_Wh_words (k2 := p0 + 1) C rfl hp0 k_105 d_Wh_setProduct_63 ?_
    refine r_iload C 4 rfl d_Wh_setProduct_66 ?_
    refine r_iload C 6 rfl d_Wh_setProduct_68 ?_
    refine r_iadd C d_Wh_setProduct_70 ?_
    obtain ⟨s0, K⟩ := K
    refine r_iald C (kWh1 hp0) s0 d_Wh_setProduct_71 ?_
    refine r_i2l C d_Wh_setProduct_72 ?_
    refine r_ldc2 (v := 4294967295) C k_536 d_Wh_setProduct_73 ?_
    refine r_land C d_Wh_setProduct_76 ?_
    refine r_ladd C d_Wh_setProduct_77 ?_
    refine r_ladd C d_Wh_setProduct_78 ?_
    refine r_lstore (ls2 := [(0, .ref p0), (1, .ref p1), (2, .ref p2), (3, .int v3), (4, .int v4), (5, .long (v5 + ((r1 * r2) + ((Int32.toInt64 (h2 (p0 + 1) (v4 + v7).toNatClampNeg)) &&& 4294967295)))), (7, .int v7)]) C (by decide) rfl d_Wh_setProduct_79 ?_
    refine r_aload_n C 0 rfl d_Wh_setProduct_81 ?_
    refine gf_Wh_words (k2 := p0 + 1) C rfl hp0 k_105 d_Wh_setProduct_82 ?_
    refine r_iload C 4 rfl d_Wh_setProduct_85 ?_
    refine r_iload C 6 rfl d_Wh_setProduct_87 ?_
    refine r_iadd C d_Wh_setProduct_89 ?_
    refine r_lload C 5 rfl d_Wh_setProduct_90 ?_
    refine r_l2i C d_Wh_setProduct_92 ?_
    obtain ⟨s0, K⟩ := K
    refine r_iast C (kWh1 hp0) s0 d_Wh_setProduct_93 ?_
    refine r_lload C 5 rfl d_Wh_setProduct_94 ?_
    refine r_bipush (v := 32) C (by decide) d_Wh_setProduct_96 ?_
    refine r_lushr C d_Wh_setProduct_98 ?_
    refine r_lstore (ls2 := [(0, .ref p0), (1, .ref p1), (2, .ref p2), (3, .int v3), (4, .int v4), (5, .long (lushr (v5 + ((r1 * r2) + ((Int32.toInt64 (h2 (p0 + 1) (v4 + v7).toNatClampNeg)) &&& 4294967295))) 32)), (7, .int v7)]) C (by decide) rfl d_Wh_setProduct_99 ?_
    refine r_iinc (ls2 := [(0, .ref p0), (1, .ref p1), (2, .ref p2), (3, .int v3), (4, .int v4), (5, .long (lushr (v5 + ((r1 * r2) + ((Int32.toInt64 (h2 (p0 + 1) (v4 + v7).toNatClampNeg)) &&& 4294967295))) 32)), (7, .int (v7 + 1))]) C 6 (m := 1) rfl (by decide) (by decide) rfl d_Wh_setProduct_101 ?_
    refine r_goto C 38 d_Wh_setProduct_104 (by decide) ?_
    exact K
set_option maxRecDepth 20000 in
theorem g_Wh_multiplyBy10AndAdd_0 {X : CX} {h : HP} {p0 : Nat} {v1 : Int32} {Φ : HP → Prop} (C : Cok X b_Wh_multiplyBy10AndAdd 5 R_Wh none) (Rm : xR X = rml 1 0 0) (Q : Qok X 0 0 (fun r h2 => r = none ∧ Φ h2)) (hp0 : kd p0 = (0, 0))
    (K : Wg X 0 0 h [(0, .ref p0), (1, .int v1), (2, .long (Int32.toInt64 v1)), (4, .int 0)] [] 6) :
    Wg X 0 0 h [(0, .ref p0), (1, .int v1)] [] 0 := by
  refine r_iload_n C 1 rfl d_Wh_multiplyBy10AndAdd_0 ?_
  refine r_i2l C d_Wh_multiplyBy10AndAdd_1 ?_
  refine r_lstore_n (ls2 := [(0, .ref p0), (1, .int v1), (2, .long (Int32.toInt64 v1))]) C rfl (by decide) rfl d_Wh_multiplyBy10AndAdd_2 ?_
  refine r_iconst (v := 0) C (by decide) d_Wh_multiplyBy10AndAdd_3 ?_
  refine r_istore (ls2 := [(0, .ref p0), (1, .int v1), (2, .long (Int32.toInt64 v1)), (4, .int 0)]) C (by decide) rfl d_Wh_multiplyBy10AndAdd_4 ?_
  exact K
set_option maxRecDepth 20000 in
theorem g_Wh_multiplyBy10AndAdd_6 {X : CX} {h : HP} {p0 : Nat} {v1 : Int32} {v2 : Int64} {v4 : Int32} {Φ : HP → Prop} (C : Cok X b_Wh_multiplyBy10AndAdd 5 R_Wh none) (Rm : xR X = rml 1 0 0) (Q : Qok X 0 0 (fun r h2 => r = none ∧ Φ h2)) (hp0 : kd p0 = (0, 0))
    (K : ((h p0 1) ≤ v4 → vp_in (h p0 1) 44 ∧ (K_Wh_trim [.ref p0, .int (((up h (p0 + 1) (h p0 1).toNatClampNeg (Int64.toInt32 v2)) p0 1) + 1)] (up h (p0 + 1) (h p0 1).toNatClampNeg (Int64.toInt32 v2)) (fun h1 => Φ h1))) ∧ (¬ (h p0 1) ≤ v4 → K_Wh_wordAt [.ref p0, .int v4] h (fun r2 h2 => vp_in v4 44 ∧ (Wg X 0 0 (up h2 (p0 + 1) v4.toNatClampNeg (Int64.toInt32 (v2 + (r2 * 10)))) [(0, .ref p0), (1, .int v1), (2, .long (lushr (v2 + (r2 * 10)) 32)), (4, .int (v4 + 1))] [] 6)))) :
    Wg X 0 0 h [(0, .ref p0), (1, .int v1), (2, .long v2), (4, .int v4)] [] 6 := by
  refine r_iload C 3 rfl d_Wh_multiplyBy10AndAdd_6 ?_
  refine r_aload_n C 0 rfl d_Wh_multiplyBy10AndAdd_8 ?_
  refine gf_Wh_length C hp0 k_109 d_Wh_multiplyBy10AndAdd_9 ?_
  refine r_icmp_ge C 48 d_Wh_multiplyBy10AndAdd_12 (by decide) ⟨fun c0 => ?_, fun c0 => ?_⟩
  · have K := K.1 c0
    refine r_aload_n C 0 rfl d_Wh_multiplyBy10AndAdd_48 ?_
    refine gf_Wh_words (k2 := p0 + 1) C rfl hp0 k_105 d_Wh_multiplyBy10AndAdd_49 ?_
    refine r_aload_n C 0 rfl d_Wh_multiplyBy10AndAdd_52 ?_
    refine gf_Wh_length C hp0 k_109 d_Wh_multiplyBy10AndAdd_53 ?_
    refine r_lload_n C 2 rfl d_Wh_multiplyBy10AndAdd_56 ?_
    refine r_l2i C d_Wh_multiplyBy10AndAdd_57 ?_
    obtain ⟨s0, K⟩ := K
    refine r_iast C (kWh1 hp0) s0 d_Wh_multiplyBy10AndAdd_58 ?_
    refine r_aload_n C 0 rfl d_Wh_multiplyBy10AndAdd_59 ?_
    refine r_aload_n C 0 rfl d_Wh_multiplyBy10AndAdd_60 ?_
    refine gf_Wh_length C hp0 k_109 d_Wh_multiplyBy10AndAdd_61 ?_
    refine r_iconst (v := 1) C (by decide) d_Wh_multiplyBy10AndAdd_64 ?_
    refine r_iadd C d_Wh_multiplyBy10AndAdd_65 ?_
    refine r_callV (As := [.int (((up h (p0 + 1) (h p0 1).toNatClampNeg (Int64.toInt32 v2)) p0 1) + 1)]) (st := []) (lvc := 0) (mcc := 0) (msc := 0) C Rm M_Wh_trim rfl k_382 hp0 (by decide) (Nat.le_of_ble_eq_true rfl) ⟨by decide, by decide⟩ d_Wh_multiplyBy10AndAdd_66 ?_
    refine Can.mono K (fun _ h1 z => ?_)
    obtain ⟨rfl, K⟩ := z
    show Wg X 0 0 h1 [(0, .ref p0), (1, .int v1), (2, .long v2), (4, .int v4)] [] 69
    exact q_vret C Q d_Wh_multiplyBy10AndAdd_69 ⟨rfl, K⟩
  · have K := K.2 c0
    refine r_lload_n C 2 rfl d_Wh_multiplyBy10AndAdd_15 ?_
    refine r_aload_n C 0 rfl d_Wh_multiplyBy10AndAdd_16 ?_
    refine r_iload C 3 rfl d_Wh_multiplyBy10AndAdd_17 ?_
    refine r_callV (As := [.int v4]) (st := [.long v2]) (lvc := 0) (mcc := 0) (msc := 0) C Rm M_Wh_wordAt rfl k_541 hp0 (by decide) (Nat.le_of_ble_eq_true rfl) ⟨by decide, by decide⟩ d_Wh_multiplyBy10AndAdd_19 ?_
    refine Can.mono K (fun _ h2 z => ?_)
    obtain ⟨r2, rfl, K⟩ := z
    show Wg X 0 0 h2 [(0, .ref p0), (1, .int v1), (2, .long v2), (4, .int v4)] [.long r2, .long v2] 22
    refine r_ldc2 (v := 10) C k_948 d_Wh_multiplyBy10AndAdd_22 ?_
    refine r_lmul C d_Wh_multiplyBy10AndAdd_25 ?_
    refine r_ladd C d_Wh_multiplyBy10AndAdd_26 ?_
    refine r_lstore_n (ls2 := [(0, .ref p0), (1, .int v1), (2, .long (v2 + (r2 * 10))), (4, .int v4)]) C rfl (by decide) rfl d_Wh_multiplyBy10AndAdd_27 ?_
    refine r_aload_n C 0 rfl d_Wh_multiplyBy10AndAdd_28 ?_
    refine gf_Wh_words (k2 := p0 + 1) C rfl hp0 k_105 d_Wh_multiplyBy10AndAdd_29 ?_
    refine r_iload C 3 rfl d_Wh_multiplyBy10AndAdd_32 ?_
    refine r_lload_n C 2 rfl d_Wh_multiplyBy10AndAdd_34 ?_
    refine r_l2i C d_Wh_multiplyBy10AndAdd_35 ?_
    obtain ⟨s0, K⟩ := K
    refine r_iast C (kWh1 hp0) s0 d_Wh_multiplyBy10AndAdd_36 ?_
    refine r_lload_n C 2 rfl d_Wh_multiplyBy10AndAdd_37 ?_
    refine r_bipush (v := 32) C (by decide) d_Wh_multiplyBy10AndAdd_38 ?_
    refine r_lushr C d_Wh_multiplyBy10AndAdd_40 ?_
    refine r_lstore_n (ls2 := [(0, .ref p0), (1, .int v1), (2, .long (lushr (v2 + (r2 * 10)) 32)), (4, .int v4)]) C rfl (by decide) rfl d_Wh_multiplyBy10AndAdd_41 ?_
    refine r_iinc (ls2 := [(0, .ref p0), (1, .int v1), (2, .long (lushr (v2 + (r2 * 10)) 32)), (4, .int (v4 + 1))]) C 3 (m := 1) rfl (by decide) (by decide) rfl d_Wh_multiplyBy10AndAdd_42 ?_
    refine r_goto C 6 d_Wh_multiplyBy10AndAdd_45 (by decide) ?_
    exact K
set_option maxRecDepth 20000 in
theorem g_Wh_quotientWithoutSign_0 {X : CX} {h : HP} {v0 : Int64} {v2 : Int64} {Φ : Int64 → HP → Prop} (C : Cok X b_Wh_quotientWithoutSign 6 R_Wh ((some .long))) (Rm : xR X = rml 0 0 0) (Q : Qok X 0 0 (fun r h2 => ∃ v, r = some (.long v) ∧ Φ v h2)) 
    (K : ¬ v2 = 0 ∧ (((lg_cmp (v0 - ((lshl ((lushr v0 1) / v2) 1) * v2)) v2) < 0 → Φ (lshl ((lushr v0 1) / v2) 1) h) ∧ (¬ (lg_cmp (v0 - ((lshl ((lushr v0 1) / v2) 1) * v2)) v2) < 0 → Φ ((lshl ((lushr v0 1) / v2) 1) + 1) h))) :
    Wg X 0 0 h [(0, .long v0), (2, .long v2)] [] 0 := by
  refine r_lload_n C 0 rfl d_Wh_quotientWithoutSign_0 ?_
  refine r_iconst (v := 1) C (by decide) d_Wh_quotientWithoutSign_1 ?_
  refine r_lushr C d_Wh_quotientWithoutSign_2 ?_
  refine r_lload_n C 1 rfl d_Wh_quotientWithoutSign_3 ?_
  obtain ⟨s0, K⟩ := K
  refine r_ldiv C s0 d_Wh_quotientWithoutSign_4 ?_
  refine r_iconst (v := 1) C (by decide) d_Wh_quotientWithoutSign_5 ?_
  refine r_lshl C d_Wh_quotientWithoutSign_6 ?_
  refine r_lstore (ls2 := [(0, .long v0), (2, .long v2), (4, .long (lshl ((lushr v0 1) / v2) 1))]) C (by decide) rfl d_Wh_quotientWithoutSign_7 ?_
  refine r_lload_n C 0 rfl d_Wh_quotientWithoutSign_9 ?_
  refine r_lload C 2 rfl d_Wh_quotientWithoutSign_10 ?_
  refine r_lload_n C 1 rfl d_Wh_quotientWithoutSign_12 ?_
  refine r_lmul C d_Wh_quotientWithoutSign_13 ?_
  refine r_lsub C d_Wh_quotientWithoutSign_14 ?_
  refine r_lload_n C 1 rfl d_Wh_quotientWithoutSign_15 ?_
  refine r_lcmp C d_Wh_quotientWithoutSign_16 ?_
  refine r_if_lt C 27 d_Wh_quotientWithoutSign_17 (by decide) ⟨fun c0 => ?_, fun c0 => ?_⟩
  · have K := K.1 c0
    refine r_lload C 2 rfl d_Wh_quotientWithoutSign_27 ?_
    exact q_lret C Q d_Wh_quotientWithoutSign_29 ⟨_, rfl, K⟩
  · have K := K.2 c0
    refine r_lload C 2 rfl d_Wh_quotientWithoutSign_20 ?_
    refine r_lconst (v := 1) C (by decide) d_Wh_quotientWithoutSign_22 ?_
    refine r_ladd C d_Wh_quotientWithoutSign_23 ?_
    refine r_goto C 29 d_Wh_quotientWithoutSign_24 (by decide) ?_
    exact q_lret C Q d_Wh_quotientWithoutSign_29 ⟨_, rfl, K⟩
set_option maxRecDepth 20000 in
theorem g_Wh_divideByWord_0 {X : CX} {h : HP} {p0 : Nat} {v1 : Int64} {Φ : Int64 → HP → Prop} (C : Cok X b_Wh_divideByWord 10 R_Wh ((some .long))) (Rm : xR X = rml 1 0 0) (Q : Qok X 0 0 (fun r h2 => ∃ v, r = some (.long v) ∧ Φ v h2)) (hp0 : kd p0 = (0, 0))
    (K : Wg X 0 0 h [(0, .ref p0), (1, .long v1), (3, .long 0), (5, .int ((h p0 1) - 1))] [] 10) :
    Wg X 0 0 h [(0, .ref p0), (1, .long v1)] [] 0 := by
  refine r_lconst (v := 0) C (by decide) d_Wh_divideByWord_0 ?_
  refine r_lstore_n (ls2 := [(0, .ref p0), (1, .long v1), (3, .long 0)]) C rfl (by decide) rfl d_Wh_divideByWord_1 ?_
  refine r_aload_n C 0 rfl d_Wh_divideByWord_2 ?_
  refine gf_Wh_length C hp0 k_109 d_Wh_divideByWord_3 ?_
  refine r_iconst (v := 1) C (by decide) d_Wh_divideByWord_6 ?_
  refine r_isub C d_Wh_divideByWord_7 ?_
  refine r_istore (ls2 := [(0, .ref p0), (1, .long v1), (3, .long 0), (5, .int ((h p0 1) - 1))]) C (by decide) rfl d_Wh_divideByWord_8 ?_
  exact K
set_option maxRecDepth 20000 in
theorem g_Wh_divideByWord_10 {X : CX} {h : HP} {p0 : Nat} {v1 : Int64} {v3 : Int64} {v5 : Int32} {Φ : Int64 → HP → Prop} (C : Cok X b_Wh_divideByWord 10 R_Wh ((some .long))) (Rm : xR X = rml 1 0 0) (Q : Qok X 0 0 (fun r h2 => ∃ v, r = some (.long v) ∧ Φ v h2)) (hp0 : kd p0 = (0, 0))
    (K : (v5 < 0 → K_Wh_trim [.ref p0, .int (h p0 1)] h (fun h1 => Φ v3 h1)) ∧ (¬ v5 < 0 → K_Wh_wordAt [.ref p0, .int v5] h (fun r2 h2 => K_Wh_quotientWithoutSign [.long ((lshl v3 32) ||| r2), .long v1] h2 (fun r3 h3 => vp_in v5 44 ∧ (Wg X 0 0 (up h3 (p0 + 1) v5.toNatClampNeg (Int64.toInt32 r3)) [(0, .ref p0), (1, .long v1), (3, .long (((lshl v3 32) ||| r2) - (r3 * v1))), (5, .int (v5 + (-1)))] [] 10))))) :
    Wg X 0 0 h [(0, .ref p0), (1, .long v1), (3, .long v3), (5, .int v5)] [] 10 := by
  refine r_iload C 3 rfl d_Wh_divideByWord_10 ?_
  refine r_if_lt C 60 d_Wh_divideByWord_12 (by decide) ⟨fun c0 => ?_, fun c0 => ?_⟩
  · have K := K.1 c0
    refine r_aload_n C 0 rfl d_Wh_divideByWord_60 ?_
    refine r_aload_n C 0 rfl d_Wh_divideByWord_61 ?_
    refine gf_Wh_length C hp0 k_109 d_Wh_divideByWord_62 ?_
    refine r_callV (As := [.int (h p0 1)]) (st := []) (lvc := 0) (mcc := 0) (msc := 0) C Rm M_Wh_trim rfl k_382 hp0 (by decide) (Nat.le_of_ble_eq_true rfl) ⟨by decide, by decide⟩ d_Wh_divideByWord_65 ?_
    refine Can.mono K (fun _ h1 z => ?_)
    obtain ⟨rfl, K⟩ := z
    show Wg X 0 0 h1 [(0, .ref p0), (1, .long v1), (3, .long v3), (5, .int v5)] [] 68
    refine r_lload_n C 2 rfl d_Wh_divideByWord_68 ?_
    exact q_lret C Q d_Wh_divideByWord_69 ⟨_, rfl, K⟩
  · have K := K.2 c0
    refine r_lload_n C 2 rfl d_Wh_divideByWord_15 ?_
    refine r_bipush (v := 32) C (by decide) d_Wh_divideByWord_16 ?_
    refine r_lshl C d_Wh_divideByWord_18 ?_
    refine r_aload_n C 0 rfl d_Wh_divideByWord_19 ?_
    refine r_iload C 3 rfl d_Wh_divideByWord_20 ?_
    refine r_callV (As := [.int v5]) (st := [.long (lshl v3 32)]) (lvc := 0) (mcc := 0) (msc := 0) C Rm M_Wh_wordAt rfl k_541 hp0 (by decide) (Nat.le_of_ble_eq_true rfl) ⟨by decide, by decide⟩ d_Wh_divideByWord_22 ?_
    refine Can.mono K (fun _ h2 z => ?_)
    obtain ⟨r2, rfl, K⟩ := z
    show Wg X 0 0 h2 [(0, .ref p0), (1, .long v1), (3, .long v3), (5, .int v5)] [.long r2, .long (lshl v3 32)] 25
    refine r_lor C d_Wh_divideByWord_25 ?_
    refine r_lstore (ls2 := [(0, .ref p0), (1, .long v1), (3, .long v3), (5, .int v5), (6, .long ((lshl v3 32) ||| r2))]) C (by decide) rfl d_Wh_divideByWord_26 ?_
    refine r_lload C 4 rfl d_Wh_divideByWord_28 ?_
    refine r_lload_n C 1 rfl d_Wh_divideByWord_30 ?_
    refine r_callS (As := [.long ((lshl v3 32) ||| r2), .long v1]) (st := []) (lvc := 0) (mcc := 0) (msc := 0) C Rm M_Wh_quotientWithoutSign rfl k_542 (by decide) (Nat.le_of_ble_eq_true rfl) ⟨by decide, by decide⟩ d_Wh_divideByWord_31 ?_
    refine Can.mono K (fun _ h3 z => ?_)
    obtain ⟨r3, rfl, K⟩ := z
    show Wg X 0 0 h3 [(0, .ref p0), (1, .long v1), (3, .long v3), (5, .int v5), (6, .long ((lshl v3 32) ||| r2))] [.long r3] 34
    refine r_lstore (ls2 := [(0, .ref p0), (1, .long v1), (3, .long v3), (5, .int v5), (6, .long ((lshl v3 32) ||| r2)), (8, .long r3)]) C (by decide) rfl d_Wh_divideByWord_34 ?_
    refine r_aload_n C 0 rfl d_Wh_divideByWord_36 ?_
    refine gf_Wh_words (k2 := p0 + 1) C rfl hp0 k_105 d_Wh_divideByWord_37 ?_
    refine r_iload C 3 rfl d_Wh_divideByWord_40 ?_
    refine r_lload C 5 rfl d_Wh_divideByWord_42 ?_
    refine r_l2i C d_Wh_divideByWord_44 ?_
    obtain ⟨s0, K⟩ := K
    refine r_iast C (kWh1 hp0) s0 d_Wh_divideByWord_45 ?_
    refine r_lload C 4 rfl d_Wh_divideByWord_46 ?_
    refine r_lload C 5 rfl d_Wh_divideByWord_48 ?_
    refine r_lload_n C 1 rfl d_Wh_divideByWord_50 ?_
    refine r_lmul C d_Wh_divideByWord_51 ?_
    refine r_lsub C d_Wh_divideByWord_52 ?_
    refine r_lstore_n (ls2 := [(0, .ref p0), (1, .long v1), (3, .long (((lshl v3 32) ||| r2) - (r3 * v1))), (5, .int v5), (6, .long ((lshl v3 32) ||| r2)), (8, .long r3)]) C rfl (by decide) rfl d_Wh_divideByWord_53 ?_
    refine r_iinc (ls2 := [(0, .ref p0), (1, .long v1), (3, .long (((lshl v3 32) ||| r2) - (r3 * v1))), (5, .int (v5 + (-1))), (6, .long ((lshl v3 32) ||| r2)), (8, .long r3)]) C 3 (m := -1) rfl (by decide) (by decide) rfl d_Wh_divideByWord_54 ?_
    refine r_goto C 10 d_Wh_divideByWord_57 (by decide) ?_
    exact Wg.drop (by simp) K
end
