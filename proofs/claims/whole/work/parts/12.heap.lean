
theorem k_41 : (Jvm.Cond.fieldLink "CellHeap$Heap" (9 : Nat) "CellHeap$Heap" "cells" "[I") ∈ wx_tbl := wx_in 105 (by decide +kernel) rfl
theorem k_43 : (Jvm.Cond.fieldLink "CellHeap$Heap" (15 : Nat) "CellHeap$Heap" "registers" "[I") ∈ wx_tbl := wx_in 107 (by decide +kernel) rfl
theorem k_45 : (Jvm.Cond.fieldLink "CellHeap$Heap" (96 : Nat) "CellHeap$Heap" "top" "I") ∈ wx_tbl := wx_in 109 (by decide +kernel) rfl
theorem k_48 : (Jvm.Cond.fieldLink "CellHeap$Heap" (144 : Nat) "CellHeap$Heap" "collections" "I") ∈ wx_tbl := wx_in 112 (by decide +kernel) rfl
theorem k_49 : (Jvm.Cond.fieldLink "CellHeap$Heap" (18 : Nat) "CellHeap$Heap" "lives" "[Z") ∈ wx_tbl := wx_in 113 (by decide +kernel) rfl
theorem k_50 : (Jvm.Cond.fieldLink "CellHeap$Heap" (22 : Nat) "CellHeap$Heap" "newPlace" "[I") ∈ wx_tbl := wx_in 114 (by decide +kernel) rfl
theorem k_51 : (Jvm.Cond.fieldLink "CellHeap$Heap" (25 : Nat) "CellHeap$Heap" "found" "[I") ∈ wx_tbl := wx_in 115 (by decide +kernel) rfl
theorem k_52 : (Jvm.Cond.fieldLink "CellHeap$Heap" (125 : Nat) "CellHeap$Heap" "foundCount" "I") ∈ wx_tbl := wx_in 116 (by decide +kernel) rfl
theorem k_78 : (Jvm.Cond.fieldLink "CellHeap$Line" (9 : Nat) "CellHeap$Line" "text" "[C") ∈ wx_tbl := wx_in 142 (by decide +kernel) rfl
theorem k_79 : (Jvm.Cond.fieldLink "CellHeap$Line" (15 : Nat) "CellHeap$Line" "length" "I") ∈ wx_tbl := wx_in 143 (by decide +kernel) rfl
theorem k_107 : (Jvm.Cond.fieldLink "CellHeap$Heap" (109 : Nat) "CellHeap$Whole" "words" "[I") ∈ wx_tbl := wx_in 171 (by decide +kernel) rfl
theorem k_111 : (Jvm.Cond.fieldLink "CellHeap$Heap" (34 : Nat) "CellHeap$Whole" "length" "I") ∈ wx_tbl := wx_in 175 (by decide +kernel) rfl
theorem k_115 : (Jvm.Cond.fieldLink "CellHeap$Printer" (74 : Nat) "CellHeap$Whole" "below" "Z") ∈ wx_tbl := wx_in 179 (by decide +kernel) rfl
theorem k_116 : (Jvm.Cond.fieldLink "CellHeap$Heap" (82 : Nat) "CellHeap$Whole" "below" "Z") ∈ wx_tbl := wx_in 180 (by decide +kernel) rfl
theorem k_126 : (Jvm.Cond.fieldLink "CellHeap$Line" (27 : Nat) "CellHeap$Ratio" "upper" "LCellHeap$Whole;") ∈ wx_tbl := wx_in 190 (by decide +kernel) rfl
theorem k_127 : (Jvm.Cond.fieldLink "CellHeap$Heap" (38 : Nat) "CellHeap$Ratio" "upper" "LCellHeap$Whole;") ∈ wx_tbl := wx_in 191 (by decide +kernel) rfl
theorem k_131 : (Jvm.Cond.fieldLink "CellHeap$Line" (42 : Nat) "CellHeap$Ratio" "lower" "LCellHeap$Whole;") ∈ wx_tbl := wx_in 195 (by decide +kernel) rfl
theorem k_132 : (Jvm.Cond.fieldLink "CellHeap$Heap" (51 : Nat) "CellHeap$Ratio" "lower" "LCellHeap$Whole;") ∈ wx_tbl := wx_in 196 (by decide +kernel) rfl
theorem k_197 : (Jvm.Cond.fieldLink "CellHeap$Printer" (11 : Nat) "CellHeap$Printer" "text" "[C") ∈ wx_tbl := wx_in 261 (by decide +kernel) rfl
theorem k_199 : (Jvm.Cond.fieldLink "CellHeap$Printer" (29 : Nat) "CellHeap$Printer" "length" "I") ∈ wx_tbl := wx_in 263 (by decide +kernel) rfl
theorem k_201 : (Jvm.Cond.fieldLink "CellHeap$Printer" (33 : Nat) "CellHeap$Printer" "overran" "Z") ∈ wx_tbl := wx_in 265 (by decide +kernel) rfl
theorem k_202 : (Jvm.Cond.fieldLink "CellHeap$Printer" (15 : Nat) "CellHeap$Printer" "rests" "[I") ∈ wx_tbl := wx_in 266 (by decide +kernel) rfl
theorem k_203 : (Jvm.Cond.fieldLink "CellHeap$Printer" (37 : Nat) "CellHeap$Printer" "open" "I") ∈ wx_tbl := wx_in 267 (by decide +kernel) rfl
theorem k_204 : (Jvm.Cond.fieldLink "CellHeap$Printer" (22 : Nat) "CellHeap$Printer" "shrinking" "LCellHeap$Whole;") ∈ wx_tbl := wx_in 268 (by decide +kernel) rfl
theorem k_205 : (Jvm.Cond.fieldLink "CellHeap$Printer" (26 : Nat) "CellHeap$Printer" "digits" "[C") ∈ wx_tbl := wx_in 269 (by decide +kernel) rfl
theorem k_250 : (Jvm.Cond.methodLink "CellHeap$Heap" (132 : Nat) ({ cls := "CellHeap$Heap", name := "markLiving", desc := "()I" } : Jvm.MethodName)) ∈ wx_tbl := wx_in 314 (by decide +kernel) rfl
theorem k_254 : (Jvm.Cond.methodLink "CellHeap$Heap" (128 : Nat) ({ cls := "CellHeap$Heap", name := "reach", desc := "(I)V" } : Jvm.MethodName)) ∈ wx_tbl := wx_in 318 (by decide +kernel) rfl
theorem k_258 : (Jvm.Cond.methodLink "CellHeap$Heap" (54 : Nat) ({ cls := "CellHeap$Heap", name := "isObject", desc := "(I)Z" } : Jvm.MethodName)) ∈ wx_tbl := wx_in 322 (by decide +kernel) rfl
theorem k_261 : (Jvm.Cond.methodLink "CellHeap$Heap" (58 : Nat) ({ cls := "CellHeap$Heap", name := "cellOf", desc := "(I)I" } : Jvm.MethodName)) ∈ wx_tbl := wx_in 325 (by decide +kernel) rfl
theorem k_264 : (Jvm.Cond.methodLink "CellHeap$Heap" (62 : Nat) ({ cls := "CellHeap$Heap", name := "sortAt", desc := "(I)I" } : Jvm.MethodName)) ∈ wx_tbl := wx_in 328 (by decide +kernel) rfl
theorem k_268 : (Jvm.Cond.methodLink "CellHeap$Heap" (135 : Nat) ({ cls := "CellHeap$Heap", name := "chooseNewPlaces", desc := "()V" } : Jvm.MethodName)) ∈ wx_tbl := wx_in 332 (by decide +kernel) rfl
theorem k_272 : (Jvm.Cond.methodLink "CellHeap$Heap" (75 : Nat) ({ cls := "CellHeap$Heap", name := "sizeAt", desc := "(I)I" } : Jvm.MethodName)) ∈ wx_tbl := wx_in 336 (by decide +kernel) rfl
theorem k_276 : (Jvm.Cond.methodLink "CellHeap$Heap" (138 : Nat) ({ cls := "CellHeap$Heap", name := "moved", desc := "(I)I" } : Jvm.MethodName)) ∈ wx_tbl := wx_in 340 (by decide +kernel) rfl
theorem k_280 : (Jvm.Cond.methodLink "CellHeap$Heap" (102 : Nat) ({ cls := "CellHeap$Heap", name := "objectAt", desc := "(I)I" } : Jvm.MethodName)) ∈ wx_tbl := wx_in 344 (by decide +kernel) rfl
theorem k_283 : (Jvm.Cond.methodLink "CellHeap$Heap" (141 : Nat) ({ cls := "CellHeap$Heap", name := "moveLiving", desc := "()V" } : Jvm.MethodName)) ∈ wx_tbl := wx_in 347 (by decide +kernel) rfl
theorem k_287 : (Jvm.Cond.methodLink "CellHeap$Heap" (112 : Nat) ({ cls := "java/lang/System", name := "arraycopy", desc := "(Ljava/lang/Object;ILjava/lang/Object;II)V" } : Jvm.MethodName)) ∈ wx_tbl := wx_in 351 (by decide +kernel) rfl
theorem k_397 : (Jvm.Cond.methodLink "CellHeap$Heap" (44 : Nat) ({ cls := "CellHeap$Heap", name := "cellsFor", desc := "(LCellHeap$Whole;)I" } : Jvm.MethodName)) ∈ wx_tbl := wx_in 461 (by decide +kernel) rfl
theorem k_400 : (Jvm.Cond.methodLink "CellHeap$Heap" (28 : Nat) ({ cls := "CellHeap$Whole", name := "isFixed", desc := "()Z" } : Jvm.MethodName)) ∈ wx_tbl := wx_in 464 (by decide +kernel) rfl
theorem k_406 : (Jvm.Cond.methodLink "CellHeap$Heap" (48 : Nat) ({ cls := "CellHeap$Ratio", name := "isWhole", desc := "()Z" } : Jvm.MethodName)) ∈ wx_tbl := wx_in 470 (by decide +kernel) rfl
theorem k_418 : (Jvm.Cond.methodLink "CellHeap$Heap" (99 : Nat) ({ cls := "CellHeap$Heap", name := "slideLiving", desc := "()V" } : Jvm.MethodName)) ∈ wx_tbl := wx_in 482 (by decide +kernel) rfl
theorem k_423 : (Jvm.Cond.methodLink "CellHeap$Heap" (118 : Nat) ({ cls := "CellHeap$Heap", name := "addWhole", desc := "(LCellHeap$Whole;)I" } : Jvm.MethodName)) ∈ wx_tbl := wx_in 487 (by decide +kernel) rfl
theorem k_427 : (Jvm.Cond.methodLink "CellHeap$Heap" (105 : Nat) ({ cls := "CellHeap$Whole", name := "asFixed", desc := "()I" } : Jvm.MethodName)) ∈ wx_tbl := wx_in 491 (by decide +kernel) rfl
theorem k_431 : (Jvm.Cond.methodLink "CellHeap$Heap" (121 : Nat) ({ cls := "CellHeap$Heap", name := "addTriple", desc := "(III)I" } : Jvm.MethodName)) ∈ wx_tbl := wx_in 495 (by decide +kernel) rfl
theorem k_492 : (Jvm.Cond.methodLink "CellHeap$Heap" (65 : Nat) ({ cls := "CellHeap$Heap", name := "sortOf", desc := "(I)I" } : Jvm.MethodName)) ∈ wx_tbl := wx_in 556 (by decide +kernel) rfl
theorem k_493 : (Jvm.Cond.methodLink "CellHeap$Heap" (86 : Nat) ({ cls := "CellHeap$Heap", name := "firstOf", desc := "(I)I" } : Jvm.MethodName)) ∈ wx_tbl := wx_in 557 (by decide +kernel) rfl
theorem k_494 : (Jvm.Cond.methodLink "CellHeap$Heap" (89 : Nat) ({ cls := "CellHeap$Heap", name := "fetchWhole", desc := "(ILCellHeap$Whole;)V" } : Jvm.MethodName)) ∈ wx_tbl := wx_in 558 (by decide +kernel) rfl
theorem k_498 : (Jvm.Cond.methodLink "CellHeap$Heap" (68 : Nat) ({ cls := "CellHeap$Heap", name := "fixedOf", desc := "(I)I" } : Jvm.MethodName)) ∈ wx_tbl := wx_in 562 (by decide +kernel) rfl
theorem k_501 : (Jvm.Cond.methodLink "CellHeap$Heap" (71 : Nat) ({ cls := "CellHeap$Whole", name := "setLong", desc := "(J)V" } : Jvm.MethodName)) ∈ wx_tbl := wx_in 565 (by decide +kernel) rfl
theorem k_502 : (Jvm.Cond.methodLink "CellHeap$Heap" (78 : Nat) ({ cls := "CellHeap$Whole", name := "setWords", desc := "([III)V" } : Jvm.MethodName)) ∈ wx_tbl := wx_in 566 (by decide +kernel) rfl
theorem k_507 : (Jvm.Cond.methodLink "CellHeap$Heap" (93 : Nat) ({ cls := "CellHeap$Heap", name := "secondOf", desc := "(I)I" } : Jvm.MethodName)) ∈ wx_tbl := wx_in 571 (by decide +kernel) rfl
theorem k_931 : (Jvm.Cond.methodLink "CellHeap$Line" (19 : Nat) ({ cls := "CellHeap$Line", name := "stands", desc := "(CI)Z" } : Jvm.MethodName)) ∈ wx_tbl := wx_in 995 (by decide +kernel) rfl
theorem k_935 : (Jvm.Cond.methodLink "CellHeap$Line" (23 : Nat) ({ cls := "CellHeap$Line", name := "endOfDigits", desc := "(I)I" } : Jvm.MethodName)) ∈ wx_tbl := wx_in 999 (by decide +kernel) rfl
theorem k_939 : (Jvm.Cond.methodLink "CellHeap$Line" (33 : Nat) ({ cls := "CellHeap$Line", name := "takeDigits", desc := "(IILCellHeap$Whole;)V" } : Jvm.MethodName)) ∈ wx_tbl := wx_in 1003 (by decide +kernel) rfl
theorem k_943 : (Jvm.Cond.methodLink "CellHeap$Line" (45 : Nat) ({ cls := "CellHeap$Whole", name := "setLong", desc := "(J)V" } : Jvm.MethodName)) ∈ wx_tbl := wx_in 1007 (by decide +kernel) rfl
theorem k_944 : (Jvm.Cond.methodLink "CellHeap$Line" (49 : Nat) ({ cls := "CellHeap$Whole", name := "multiplyBy10AndAdd", desc := "(I)V" } : Jvm.MethodName)) ∈ wx_tbl := wx_in 1008 (by decide +kernel) rfl
theorem k_949 : (Jvm.Cond.methodLink "CellHeap$Line" (37 : Nat) ({ cls := "CellHeap$Whole", name := "flipSign", desc := "()V" } : Jvm.MethodName)) ∈ wx_tbl := wx_in 1013 (by decide +kernel) rfl
theorem k_961 : (Jvm.Cond.methodLink "CellHeap$Printer" (40 : Nat) ({ cls := "CellHeap$Printer", name := "openPairs", desc := "(LCellHeap$Heap;I)I" } : Jvm.MethodName)) ∈ wx_tbl := wx_in 1025 (by decide +kernel) rfl
theorem k_965 : (Jvm.Cond.methodLink "CellHeap$Printer" (48 : Nat) ({ cls := "CellHeap$Heap", name := "sortOf", desc := "(I)I" } : Jvm.MethodName)) ∈ wx_tbl := wx_in 1029 (by decide +kernel) rfl
theorem k_966 : (Jvm.Cond.methodLink "CellHeap$Printer" (54 : Nat) ({ cls := "CellHeap$Printer", name := "put", desc := "(C)V" } : Jvm.MethodName)) ∈ wx_tbl := wx_in 1030 (by decide +kernel) rfl
theorem k_970 : (Jvm.Cond.methodLink "CellHeap$Printer" (58 : Nat) ({ cls := "CellHeap$Heap", name := "secondOf", desc := "(I)I" } : Jvm.MethodName)) ∈ wx_tbl := wx_in 1034 (by decide +kernel) rfl
theorem k_971 : (Jvm.Cond.methodLink "CellHeap$Printer" (61 : Nat) ({ cls := "CellHeap$Heap", name := "firstOf", desc := "(I)I" } : Jvm.MethodName)) ∈ wx_tbl := wx_in 1035 (by decide +kernel) rfl
theorem k_972 : (Jvm.Cond.methodLink "CellHeap$Printer" (44 : Nat) ({ cls := "CellHeap$Printer", name := "putAtom", desc := "(LCellHeap$Heap;I)V" } : Jvm.MethodName)) ∈ wx_tbl := wx_in 1036 (by decide +kernel) rfl
theorem k_976 : (Jvm.Cond.methodLink "CellHeap$Printer" (67 : Nat) ({ cls := "CellHeap$Printer", name := "putWhole", desc := "(LCellHeap$Heap;I)V" } : Jvm.MethodName)) ∈ wx_tbl := wx_in 1040 (by decide +kernel) rfl
theorem k_980 : (Jvm.Cond.methodLink "CellHeap$Printer" (70 : Nat) ({ cls := "CellHeap$Heap", name := "fetchWhole", desc := "(ILCellHeap$Whole;)V" } : Jvm.MethodName)) ∈ wx_tbl := wx_in 1044 (by decide +kernel) rfl
theorem k_981 : (Jvm.Cond.methodLink "CellHeap$Printer" (77 : Nat) ({ cls := "CellHeap$Whole", name := "isZero", desc := "()Z" } : Jvm.MethodName)) ∈ wx_tbl := wx_in 1045 (by decide +kernel) rfl
theorem k_982 : (Jvm.Cond.constantLong "CellHeap$Printer" (81 : Nat) (1000000000 : Int64)) ∈ wx_tbl := wx_in 1046 (by decide +kernel) rfl
theorem k_983 : (Jvm.Cond.methodLink "CellHeap$Printer" (83 : Nat) ({ cls := "CellHeap$Whole", name := "divideByWord", desc := "(J)J" } : Jvm.MethodName)) ∈ wx_tbl := wx_in 1047 (by decide +kernel) rfl
theorem k_984 : (Jvm.Cond.methodLink "CellHeap$Printer" (87 : Nat) ({ cls := "CellHeap$Printer", name := "fillChunk", desc := "(II)V" } : Jvm.MethodName)) ∈ wx_tbl := wx_in 1048 (by decide +kernel) rfl
theorem k_988 : (Jvm.Cond.methodLink "CellHeap$Printer" (64 : Nat) ({ cls := "CellHeap$Printer", name := "closeWith", desc := "(LCellHeap$Heap;I)V" } : Jvm.MethodName)) ∈ wx_tbl := wx_in 1052 (by decide +kernel) rfl
/-! He_fixedOf: ('CellHeap$Heap', 'fixedOf', '(I)I') -/
abbrev b_He_fixedOf : ByteArray := prog_3_method_2_code
abbrev y_He_fixedOf : MethodName := ⟨R_He, "fixedOf", "(I)I"⟩
abbrev K_He_fixedOf := CanI y_He_fixedOf b_He_fixedOf 1 ((some .int)) 0 0 0
theorem I_He_fixedOf {h : HP} {v0 : Int32} {Φ : Int32 → HP → Prop} (body : ∀ X : CX, Cok X b_He_fixedOf 1 R_He ((some .int)) → xR X = rml 0 0 0 → Qok X 0 0 (fun r h2 => ∃ v, r = some (.int v) ∧ Φ v h2) → Wg X 0 0 h [(0, .int v0)] [] 0) : K_He_fixedOf [.int v0] h Φ := Can.intro (by decide) (fun _ => Nat.le_of_ble_eq_true rfl) body
theorem M_He_fixedOf : Ms y_He_fixedOf b_He_fixedOf 1 ((some .int)) 1 := ⟨wx_in 564 (by decide +kernel) rfl, wx_in 563 (by decide +kernel) rfl, wx_in 66 (by decide +kernel) rfl, by decide +kernel, by decide⟩
theorem d_He_fixedOf_0 : decode b_He_fixedOf 0 = .ok (.iload_n 0, 1) := by decide +kernel
theorem d_He_fixedOf_1 : decode b_He_fixedOf 1 = .ok (.iconst 1, 1) := by decide +kernel
theorem d_He_fixedOf_2 : decode b_He_fixedOf 2 = .ok (.ishr, 1) := by decide +kernel
theorem d_He_fixedOf_3 : decode b_He_fixedOf 3 = .ok (.ireturn, 1) := by decide +kernel
/-! He_cellOf: ('CellHeap$Heap', 'cellOf', '(I)I') -/
abbrev b_He_cellOf : ByteArray := prog_3_method_3_code
abbrev y_He_cellOf : MethodName := ⟨R_He, "cellOf", "(I)I"⟩
abbrev K_He_cellOf := CanI y_He_cellOf b_He_cellOf 1 ((some .int)) 0 0 0
theorem I_He_cellOf {h : HP} {v0 : Int32} {Φ : Int32 → HP → Prop} (body : ∀ X : CX, Cok X b_He_cellOf 1 R_He ((some .int)) → xR X = rml 0 0 0 → Qok X 0 0 (fun r h2 => ∃ v, r = some (.int v) ∧ Φ v h2) → Wg X 0 0 h [(0, .int v0)] [] 0) : K_He_cellOf [.int v0] h Φ := Can.intro (by decide) (fun _ => Nat.le_of_ble_eq_true rfl) body
theorem M_He_cellOf : Ms y_He_cellOf b_He_cellOf 1 ((some .int)) 1 := ⟨wx_in 327 (by decide +kernel) rfl, wx_in 326 (by decide +kernel) rfl, wx_in 66 (by decide +kernel) rfl, by decide +kernel, by decide⟩
theorem d_He_cellOf_0 : decode b_He_cellOf 0 = .ok (.iload_n 0, 1) := by decide +kernel
theorem d_He_cellOf_1 : decode b_He_cellOf 1 = .ok (.iconst 1, 1) := by decide +kernel
theorem d_He_cellOf_2 : decode b_He_cellOf 2 = .ok (.ishr, 1) := by decide +kernel
theorem d_He_cellOf_3 : decode b_He_cellOf 3 = .ok (.iconst 1, 1) := by decide +kernel
theorem d_He_cellOf_4 : decode b_He_cellOf 4 = .ok (.isub, 1) := by decide +kernel
theorem d_He_cellOf_5 : decode b_He_cellOf 5 = .ok (.ireturn, 1) := by decide +kernel
/-! He_objectAt: ('CellHeap$Heap', 'objectAt', '(I)I') -/
abbrev b_He_objectAt : ByteArray := prog_3_method_4_code
abbrev y_He_objectAt : MethodName := ⟨R_He, "objectAt", "(I)I"⟩
abbrev K_He_objectAt := CanI y_He_objectAt b_He_objectAt 1 ((some .int)) 0 0 0
theorem I_He_objectAt {h : HP} {v0 : Int32} {Φ : Int32 → HP → Prop} (body : ∀ X : CX, Cok X b_He_objectAt 1 R_He ((some .int)) → xR X = rml 0 0 0 → Qok X 0 0 (fun r h2 => ∃ v, r = some (.int v) ∧ Φ v h2) → Wg X 0 0 h [(0, .int v0)] [] 0) : K_He_objectAt [.int v0] h Φ := Can.intro (by decide) (fun _ => Nat.le_of_ble_eq_true rfl) body
theorem M_He_objectAt : Ms y_He_objectAt b_He_objectAt 1 ((some .int)) 1 := ⟨wx_in 346 (by decide +kernel) rfl, wx_in 345 (by decide +kernel) rfl, wx_in 66 (by decide +kernel) rfl, by decide +kernel, by decide⟩
theorem d_He_objectAt_0 : decode b_He_objectAt 0 = .ok (.iload_n 0, 1) := by decide +kernel
theorem d_He_objectAt_1 : decode b_He_objectAt 1 = .ok (.iconst 1, 1) := by decide +kernel
theorem d_He_objectAt_2 : decode b_He_objectAt 2 = .ok (.iadd, 1) := by decide +kernel
theorem d_He_objectAt_3 : decode b_He_objectAt 3 = .ok (.iconst 1, 1) := by decide +kernel
theorem d_He_objectAt_4 : decode b_He_objectAt 4 = .ok (.ishl, 1) := by decide +kernel
theorem d_He_objectAt_5 : decode b_He_objectAt 5 = .ok (.ireturn, 1) := by decide +kernel
/-! He_isObject: ('CellHeap$Heap', 'isObject', '(I)Z') -/
abbrev b_He_isObject : ByteArray := prog_3_method_5_code
abbrev y_He_isObject : MethodName := ⟨R_He, "isObject", "(I)Z"⟩
abbrev K_He_isObject := CanI y_He_isObject b_He_isObject 1 ((some .boolean)) 0 0 0
theorem I_He_isObject {h : HP} {v0 : Int32} {Φ : Int32 → HP → Prop} (body : ∀ X : CX, Cok X b_He_isObject 1 R_He ((some .boolean)) → xR X = rml 0 0 0 → Qok X 0 0 (fun r h2 => ∃ v, r = some (.int v) ∧ Φ v h2) → Wg X 0 0 h [(0, .int v0)] [] 0) : K_He_isObject [.int v0] h Φ := Can.intro (by decide) (fun _ => Nat.le_of_ble_eq_true rfl) body
theorem M_He_isObject : Ms y_He_isObject b_He_isObject 1 ((some .boolean)) 1 := ⟨wx_in 324 (by decide +kernel) rfl, wx_in 323 (by decide +kernel) rfl, wx_in 66 (by decide +kernel) rfl, by decide +kernel, by decide⟩
theorem d_He_isObject_0 : decode b_He_isObject 0 = .ok (.iload_n 0, 1) := by decide +kernel
theorem d_He_isObject_1 : decode b_He_isObject 1 = .ok (.ifCond .eq 13, 3) := by decide +kernel
theorem d_He_isObject_4 : decode b_He_isObject 4 = .ok (.iload_n 0, 1) := by decide +kernel
theorem d_He_isObject_5 : decode b_He_isObject 5 = .ok (.iconst 1, 1) := by decide +kernel
theorem d_He_isObject_6 : decode b_He_isObject 6 = .ok (.iand, 1) := by decide +kernel
theorem d_He_isObject_7 : decode b_He_isObject 7 = .ok (.ifCond .ne 7, 3) := by decide +kernel
theorem d_He_isObject_10 : decode b_He_isObject 10 = .ok (.iconst 1, 1) := by decide +kernel
theorem d_He_isObject_11 : decode b_He_isObject 11 = .ok (.goto 4, 3) := by decide +kernel
theorem d_He_isObject_14 : decode b_He_isObject 14 = .ok (.iconst 0, 1) := by decide +kernel
theorem d_He_isObject_15 : decode b_He_isObject 15 = .ok (.ireturn, 1) := by decide +kernel
/-! He_cellsFor: ('CellHeap$Heap', 'cellsFor', '(LCellHeap$Whole;)I') -/
abbrev b_He_cellsFor : ByteArray := prog_3_method_6_code
abbrev y_He_cellsFor : MethodName := ⟨R_He, "cellsFor", "(LCellHeap$Whole;)I"⟩
abbrev K_He_cellsFor := CanI y_He_cellsFor b_He_cellsFor 1 ((some .int)) 1 0 0
theorem I_He_cellsFor {h : HP} {p0 : Nat} {Φ : Int32 → HP → Prop} (body : ∀ X : CX, Cok X b_He_cellsFor 1 R_He ((some .int)) → xR X = rml 1 0 0 → Qok X 0 0 (fun r h2 => ∃ v, r = some (.int v) ∧ Φ v h2) → Wg X 0 0 h [(0, .ref p0)] [] 0) : K_He_cellsFor [.ref p0] h Φ := Can.intro (by decide) (fun _ => Nat.le_of_ble_eq_true rfl) body
theorem M_He_cellsFor : Ms y_He_cellsFor b_He_cellsFor 1 ((some .int)) 1 := ⟨wx_in 463 (by decide +kernel) rfl, wx_in 462 (by decide +kernel) rfl, wx_in 66 (by decide +kernel) rfl, by decide +kernel, by decide⟩
theorem d_He_cellsFor_0 : decode b_He_cellsFor 0 = .ok (.aload_n 0, 1) := by decide +kernel
theorem d_He_cellsFor_1 : decode b_He_cellsFor 1 = .ok (.invokevirtual 28, 3) := by decide +kernel
theorem d_He_cellsFor_4 : decode b_He_cellsFor 4 = .ok (.ifCond .eq 7, 3) := by decide +kernel
theorem d_He_cellsFor_7 : decode b_He_cellsFor 7 = .ok (.iconst 0, 1) := by decide +kernel
theorem d_He_cellsFor_8 : decode b_He_cellsFor 8 = .ok (.goto 9, 3) := by decide +kernel
theorem d_He_cellsFor_11 : decode b_He_cellsFor 11 = .ok (.iconst 1, 1) := by decide +kernel
theorem d_He_cellsFor_12 : decode b_He_cellsFor 12 = .ok (.aload_n 0, 1) := by decide +kernel
theorem d_He_cellsFor_13 : decode b_He_cellsFor 13 = .ok (.getfield 34, 3) := by decide +kernel
theorem d_He_cellsFor_16 : decode b_He_cellsFor 16 = .ok (.iadd, 1) := by decide +kernel
theorem d_He_cellsFor_17 : decode b_He_cellsFor 17 = .ok (.ireturn, 1) := by decide +kernel
/-! He_cellsFor_: ('CellHeap$Heap', 'cellsFor', '(LCellHeap$Ratio;)I') -/
abbrev b_He_cellsFor_ : ByteArray := prog_3_method_7_code
abbrev y_He_cellsFor_ : MethodName := ⟨R_He, "cellsFor", "(LCellHeap$Ratio;)I"⟩
abbrev K_He_cellsFor_ := CanI y_He_cellsFor_ b_He_cellsFor_ 2 ((some .int)) 2 0 0
theorem I_He_cellsFor_ {h : HP} {p0 : Nat} {Φ : Int32 → HP → Prop} (body : ∀ X : CX, Cok X b_He_cellsFor_ 2 R_He ((some .int)) → xR X = rml 2 0 0 → Qok X 0 0 (fun r h2 => ∃ v, r = some (.int v) ∧ Φ v h2) → Wg X 0 0 h [(0, .ref p0)] [] 0) : K_He_cellsFor_ [.ref p0] h Φ := Can.intro (by decide) (fun _ => Nat.le_of_ble_eq_true rfl) body
theorem M_He_cellsFor_ : Ms y_He_cellsFor_ b_He_cellsFor_ 2 ((some .int)) 1 := ⟨wx_in 460 (by decide +kernel) rfl, wx_in 459 (by decide +kernel) rfl, wx_in 66 (by decide +kernel) rfl, by decide +kernel, by decide⟩
theorem d_He_cellsFor__0 : decode b_He_cellsFor_ 0 = .ok (.aload_n 0, 1) := by decide +kernel
theorem d_He_cellsFor__1 : decode b_He_cellsFor_ 1 = .ok (.getfield 38, 3) := by decide +kernel
theorem d_He_cellsFor__4 : decode b_He_cellsFor_ 4 = .ok (.invokestatic 44, 3) := by decide +kernel
theorem d_He_cellsFor__7 : decode b_He_cellsFor_ 7 = .ok (.istore_n 1, 1) := by decide +kernel
theorem d_He_cellsFor__8 : decode b_He_cellsFor_ 8 = .ok (.aload_n 0, 1) := by decide +kernel
theorem d_He_cellsFor__9 : decode b_He_cellsFor_ 9 = .ok (.invokevirtual 48, 3) := by decide +kernel
theorem d_He_cellsFor__12 : decode b_He_cellsFor_ 12 = .ok (.ifCond .eq 7, 3) := by decide +kernel
theorem d_He_cellsFor__15 : decode b_He_cellsFor_ 15 = .ok (.iload_n 1, 1) := by decide +kernel
theorem d_He_cellsFor__16 : decode b_He_cellsFor_ 16 = .ok (.goto 14, 3) := by decide +kernel
theorem d_He_cellsFor__19 : decode b_He_cellsFor_ 19 = .ok (.iload_n 1, 1) := by decide +kernel
theorem d_He_cellsFor__20 : decode b_He_cellsFor_ 20 = .ok (.aload_n 0, 1) := by decide +kernel
theorem d_He_cellsFor__21 : decode b_He_cellsFor_ 21 = .ok (.getfield 51, 3) := by decide +kernel
theorem d_He_cellsFor__24 : decode b_He_cellsFor_ 24 = .ok (.invokestatic 44, 3) := by decide +kernel
theorem d_He_cellsFor__27 : decode b_He_cellsFor_ 27 = .ok (.iadd, 1) := by decide +kernel
theorem d_He_cellsFor__28 : decode b_He_cellsFor_ 28 = .ok (.iconst 3, 1) := by decide +kernel
theorem d_He_cellsFor__29 : decode b_He_cellsFor_ 29 = .ok (.iadd, 1) := by decide +kernel
theorem d_He_cellsFor__30 : decode b_He_cellsFor_ 30 = .ok (.ireturn, 1) := by decide +kernel
/-! He_sortAt: ('CellHeap$Heap', 'sortAt', '(I)I') -/
abbrev b_He_sortAt : ByteArray := prog_3_method_9_code
abbrev y_He_sortAt : MethodName := ⟨R_He, "sortAt", "(I)I"⟩
abbrev K_He_sortAt := CanI y_He_sortAt b_He_sortAt 2 ((some .int)) 0 0 0
theorem I_He_sortAt {h : HP} {v1 : Int32} {Φ : Int32 → HP → Prop} (body : ∀ X : CX, Cok X b_He_sortAt 2 R_He ((some .int)) → xR X = rml 0 0 0 → Qok X 0 0 (fun r h2 => ∃ v, r = some (.int v) ∧ Φ v h2) → Wg X 0 0 h [(0, .ref 15), (1, .int v1)] [] 0) : K_He_sortAt [.ref 15, .int v1] h Φ := Can.intro (by decide) (fun _ => Nat.le_of_ble_eq_true rfl) body
theorem M_He_sortAt : Mv y_He_sortAt b_He_sortAt 2 ((some .int)) 1 4 := ⟨wx_in 331 (by decide +kernel) rfl, wx_in 330 (by decide +kernel) rfl, wx_in 1 (by decide +kernel) rfl, wx_in 66 (by decide +kernel) rfl, by decide +kernel, by decide, by decide, _, _, rfl⟩
theorem d_He_sortAt_0 : decode b_He_sortAt 0 = .ok (.aload_n 0, 1) := by decide +kernel
theorem d_He_sortAt_1 : decode b_He_sortAt 1 = .ok (.getfield 9, 3) := by decide +kernel
theorem d_He_sortAt_4 : decode b_He_sortAt 4 = .ok (.iload_n 1, 1) := by decide +kernel
theorem d_He_sortAt_5 : decode b_He_sortAt 5 = .ok (.iaload, 1) := by decide +kernel
theorem d_He_sortAt_6 : decode b_He_sortAt 6 = .ok (.bipush 7, 2) := by decide +kernel
theorem d_He_sortAt_8 : decode b_He_sortAt 8 = .ok (.iand, 1) := by decide +kernel
theorem d_He_sortAt_9 : decode b_He_sortAt 9 = .ok (.ireturn, 1) := by decide +kernel
/-! He_sizeAt: ('CellHeap$Heap', 'sizeAt', '(I)I') -/
abbrev b_He_sizeAt : ByteArray := prog_3_method_10_code
abbrev y_He_sizeAt : MethodName := ⟨R_He, "sizeAt", "(I)I"⟩
abbrev K_He_sizeAt := CanI y_He_sizeAt b_He_sizeAt 2 ((some .int)) 0 0 0
theorem I_He_sizeAt {h : HP} {v1 : Int32} {Φ : Int32 → HP → Prop} (body : ∀ X : CX, Cok X b_He_sizeAt 2 R_He ((some .int)) → xR X = rml 0 0 0 → Qok X 0 0 (fun r h2 => ∃ v, r = some (.int v) ∧ Φ v h2) → Wg X 0 0 h [(0, .ref 15), (1, .int v1)] [] 0) : K_He_sizeAt [.ref 15, .int v1] h Φ := Can.intro (by decide) (fun _ => Nat.le_of_ble_eq_true rfl) body
theorem M_He_sizeAt : Mv y_He_sizeAt b_He_sizeAt 2 ((some .int)) 1 4 := ⟨wx_in 339 (by decide +kernel) rfl, wx_in 337 (by decide +kernel) rfl, wx_in 338 (by decide +kernel) rfl, wx_in 66 (by decide +kernel) rfl, by decide +kernel, by decide, by decide, _, _, rfl⟩
theorem d_He_sizeAt_0 : decode b_He_sizeAt 0 = .ok (.aload_n 0, 1) := by decide +kernel
theorem d_He_sizeAt_1 : decode b_He_sizeAt 1 = .ok (.getfield 9, 3) := by decide +kernel
theorem d_He_sizeAt_4 : decode b_He_sizeAt 4 = .ok (.iload_n 1, 1) := by decide +kernel
theorem d_He_sizeAt_5 : decode b_He_sizeAt 5 = .ok (.iaload, 1) := by decide +kernel
theorem d_He_sizeAt_6 : decode b_He_sizeAt 6 = .ok (.iconst 4, 1) := by decide +kernel
theorem d_He_sizeAt_7 : decode b_He_sizeAt 7 = .ok (.ishr, 1) := by decide +kernel
theorem d_He_sizeAt_8 : decode b_He_sizeAt 8 = .ok (.ireturn, 1) := by decide +kernel
/-! He_sortOf: ('CellHeap$Heap', 'sortOf', '(I)I') -/
abbrev b_He_sortOf : ByteArray := prog_3_method_8_code
abbrev y_He_sortOf : MethodName := ⟨R_He, "sortOf", "(I)I"⟩
abbrev K_He_sortOf := CanI y_He_sortOf b_He_sortOf 2 ((some .int)) 1 0 0
theorem I_He_sortOf {h : HP} {v1 : Int32} {Φ : Int32 → HP → Prop} (body : ∀ X : CX, Cok X b_He_sortOf 2 R_He ((some .int)) → xR X = rml 1 0 0 → Qok X 0 0 (fun r h2 => ∃ v, r = some (.int v) ∧ Φ v h2) → Wg X 0 0 h [(0, .ref 15), (1, .int v1)] [] 0) : K_He_sortOf [.ref 15, .int v1] h Φ := Can.intro (by decide) (fun _ => Nat.le_of_ble_eq_true rfl) body
theorem M_He_sortOf : Mv y_He_sortOf b_He_sortOf 2 ((some .int)) 1 4 := ⟨wx_in 525 (by decide +kernel) rfl, wx_in 523 (by decide +kernel) rfl, wx_in 524 (by decide +kernel) rfl, wx_in 66 (by decide +kernel) rfl, by decide +kernel, by decide, by decide, _, _, rfl⟩
theorem d_He_sortOf_0 : decode b_He_sortOf 0 = .ok (.iload_n 1, 1) := by decide +kernel
theorem d_He_sortOf_1 : decode b_He_sortOf 1 = .ok (.invokestatic 54, 3) := by decide +kernel
theorem d_He_sortOf_4 : decode b_He_sortOf 4 = .ok (.ifCond .eq 12, 3) := by decide +kernel
theorem d_He_sortOf_7 : decode b_He_sortOf 7 = .ok (.aload_n 0, 1) := by decide +kernel
theorem d_He_sortOf_8 : decode b_He_sortOf 8 = .ok (.iload_n 1, 1) := by decide +kernel
theorem d_He_sortOf_9 : decode b_He_sortOf 9 = .ok (.invokestatic 58, 3) := by decide +kernel
theorem d_He_sortOf_12 : decode b_He_sortOf 12 = .ok (.invokevirtual 62, 3) := by decide +kernel
theorem d_He_sortOf_15 : decode b_He_sortOf 15 = .ok (.ireturn, 1) := by decide +kernel
theorem d_He_sortOf_16 : decode b_He_sortOf 16 = .ok (.iload_n 1, 1) := by decide +kernel
theorem d_He_sortOf_17 : decode b_He_sortOf 17 = .ok (.ifCond .ne 7, 3) := by decide +kernel
theorem d_He_sortOf_20 : decode b_He_sortOf 20 = .ok (.iconst 0, 1) := by decide +kernel
theorem d_He_sortOf_21 : decode b_He_sortOf 21 = .ok (.goto 4, 3) := by decide +kernel
theorem d_He_sortOf_24 : decode b_He_sortOf 24 = .ok (.iconst 1, 1) := by decide +kernel
theorem d_He_sortOf_25 : decode b_He_sortOf 25 = .ok (.ireturn, 1) := by decide +kernel
/-! He_firstOf: ('CellHeap$Heap', 'firstOf', '(I)I') -/
abbrev b_He_firstOf : ByteArray := prog_3_method_11_code
abbrev y_He_firstOf : MethodName := ⟨R_He, "firstOf", "(I)I"⟩
abbrev K_He_firstOf := CanI y_He_firstOf b_He_firstOf 2 ((some .int)) 1 0 0
theorem I_He_firstOf {h : HP} {v1 : Int32} {Φ : Int32 → HP → Prop} (body : ∀ X : CX, Cok X b_He_firstOf 2 R_He ((some .int)) → xR X = rml 1 0 0 → Qok X 0 0 (fun r h2 => ∃ v, r = some (.int v) ∧ Φ v h2) → Wg X 0 0 h [(0, .ref 15), (1, .int v1)] [] 0) : K_He_firstOf [.ref 15, .int v1] h Φ := Can.intro (by decide) (fun _ => Nat.le_of_ble_eq_true rfl) body
theorem M_He_firstOf : Mv y_He_firstOf b_He_firstOf 2 ((some .int)) 1 4 := ⟨wx_in 529 (by decide +kernel) rfl, wx_in 527 (by decide +kernel) rfl, wx_in 528 (by decide +kernel) rfl, wx_in 66 (by decide +kernel) rfl, by decide +kernel, by decide, by decide, _, _, rfl⟩
theorem d_He_firstOf_0 : decode b_He_firstOf 0 = .ok (.aload_n 0, 1) := by decide +kernel
theorem d_He_firstOf_1 : decode b_He_firstOf 1 = .ok (.getfield 9, 3) := by decide +kernel
theorem d_He_firstOf_4 : decode b_He_firstOf 4 = .ok (.iload_n 1, 1) := by decide +kernel
theorem d_He_firstOf_5 : decode b_He_firstOf 5 = .ok (.invokestatic 58, 3) := by decide +kernel
theorem d_He_firstOf_8 : decode b_He_firstOf 8 = .ok (.iconst 1, 1) := by decide +kernel
theorem d_He_firstOf_9 : decode b_He_firstOf 9 = .ok (.iadd, 1) := by decide +kernel
theorem d_He_firstOf_10 : decode b_He_firstOf 10 = .ok (.iaload, 1) := by decide +kernel
theorem d_He_firstOf_11 : decode b_He_firstOf 11 = .ok (.ireturn, 1) := by decide +kernel
/-! He_secondOf: ('CellHeap$Heap', 'secondOf', '(I)I') -/
abbrev b_He_secondOf : ByteArray := prog_3_method_12_code
abbrev y_He_secondOf : MethodName := ⟨R_He, "secondOf", "(I)I"⟩
abbrev K_He_secondOf := CanI y_He_secondOf b_He_secondOf 2 ((some .int)) 1 0 0
theorem I_He_secondOf {h : HP} {v1 : Int32} {Φ : Int32 → HP → Prop} (body : ∀ X : CX, Cok X b_He_secondOf 2 R_He ((some .int)) → xR X = rml 1 0 0 → Qok X 0 0 (fun r h2 => ∃ v, r = some (.int v) ∧ Φ v h2) → Wg X 0 0 h [(0, .ref 15), (1, .int v1)] [] 0) : K_He_secondOf [.ref 15, .int v1] h Φ := Can.intro (by decide) (fun _ => Nat.le_of_ble_eq_true rfl) body
theorem M_He_secondOf : Mv y_He_secondOf b_He_secondOf 2 ((some .int)) 1 4 := ⟨wx_in 533 (by decide +kernel) rfl, wx_in 531 (by decide +kernel) rfl, wx_in 532 (by decide +kernel) rfl, wx_in 66 (by decide +kernel) rfl, by decide +kernel, by decide, by decide, _, _, rfl⟩
theorem d_He_secondOf_0 : decode b_He_secondOf 0 = .ok (.aload_n 0, 1) := by decide +kernel
theorem d_He_secondOf_1 : decode b_He_secondOf 1 = .ok (.getfield 9, 3) := by decide +kernel
theorem d_He_secondOf_4 : decode b_He_secondOf 4 = .ok (.iload_n 1, 1) := by decide +kernel
theorem d_He_secondOf_5 : decode b_He_secondOf 5 = .ok (.invokestatic 58, 3) := by decide +kernel
theorem d_He_secondOf_8 : decode b_He_secondOf 8 = .ok (.iconst 2, 1) := by decide +kernel
theorem d_He_secondOf_9 : decode b_He_secondOf 9 = .ok (.iadd, 1) := by decide +kernel
theorem d_He_secondOf_10 : decode b_He_secondOf 10 = .ok (.iaload, 1) := by decide +kernel
theorem d_He_secondOf_11 : decode b_He_secondOf 11 = .ok (.ireturn, 1) := by decide +kernel
/-! He_fetchWhole: ('CellHeap$Heap', 'fetchWhole', '(ILCellHeap$Whole;)V') -/
abbrev b_He_fetchWhole : ByteArray := prog_3_method_13_code
abbrev y_He_fetchWhole : MethodName := ⟨R_He, "fetchWhole", "(ILCellHeap$Whole;)V"⟩
abbrev K_He_fetchWhole := CanV y_He_fetchWhole b_He_fetchWhole 4 none 3 0 0
theorem I_He_fetchWhole {h : HP} {v1 : Int32} {p2 : Nat} {Φ : HP → Prop} (body : ∀ X : CX, Cok X b_He_fetchWhole 4 R_He none → xR X = rml 3 0 0 → Qok X 0 0 (fun r h2 => r = none ∧ Φ h2) → Wg X 0 0 h [(0, .ref 15), (1, .int v1), (2, .ref p2)] [] 0) : K_He_fetchWhole [.ref 15, .int v1, .ref p2] h Φ := Can.intro (by decide) (fun _ => Nat.le_of_ble_eq_true rfl) body
theorem M_He_fetchWhole : Mv y_He_fetchWhole b_He_fetchWhole 4 none 2 4 := ⟨wx_in 561 (by decide +kernel) rfl, wx_in 559 (by decide +kernel) rfl, wx_in 560 (by decide +kernel) rfl, wx_in 66 (by decide +kernel) rfl, by decide +kernel, by decide, by decide, _, _, rfl⟩
theorem d_He_fetchWhole_0 : decode b_He_fetchWhole 0 = .ok (.aload_n 0, 1) := by decide +kernel
theorem d_He_fetchWhole_1 : decode b_He_fetchWhole 1 = .ok (.iload_n 1, 1) := by decide +kernel
theorem d_He_fetchWhole_2 : decode b_He_fetchWhole 2 = .ok (.invokevirtual 65, 3) := by decide +kernel
theorem d_He_fetchWhole_5 : decode b_He_fetchWhole 5 = .ok (.iconst 2, 1) := by decide +kernel
theorem d_He_fetchWhole_6 : decode b_He_fetchWhole 6 = .ok (.if_icmp .eq 13, 3) := by decide +kernel
theorem d_He_fetchWhole_9 : decode b_He_fetchWhole 9 = .ok (.aload_n 2, 1) := by decide +kernel
theorem d_He_fetchWhole_10 : decode b_He_fetchWhole 10 = .ok (.iload_n 1, 1) := by decide +kernel
theorem d_He_fetchWhole_11 : decode b_He_fetchWhole 11 = .ok (.invokestatic 68, 3) := by decide +kernel
theorem d_He_fetchWhole_14 : decode b_He_fetchWhole 14 = .ok (.i2l, 1) := by decide +kernel
theorem d_He_fetchWhole_15 : decode b_He_fetchWhole 15 = .ok (.invokevirtual 71, 3) := by decide +kernel
theorem d_He_fetchWhole_18 : decode b_He_fetchWhole 18 = .ok (.return_, 1) := by decide +kernel
theorem d_He_fetchWhole_19 : decode b_He_fetchWhole 19 = .ok (.iload_n 1, 1) := by decide +kernel
theorem d_He_fetchWhole_20 : decode b_He_fetchWhole 20 = .ok (.invokestatic 58, 3) := by decide +kernel
theorem d_He_fetchWhole_23 : decode b_He_fetchWhole 23 = .ok (.istore_n 3, 1) := by decide +kernel
theorem d_He_fetchWhole_24 : decode b_He_fetchWhole 24 = .ok (.aload_n 2, 1) := by decide +kernel
theorem d_He_fetchWhole_25 : decode b_He_fetchWhole 25 = .ok (.aload_n 0, 1) := by decide +kernel
theorem d_He_fetchWhole_26 : decode b_He_fetchWhole 26 = .ok (.getfield 9, 3) := by decide +kernel
theorem d_He_fetchWhole_29 : decode b_He_fetchWhole 29 = .ok (.iload_n 3, 1) := by decide +kernel
theorem d_He_fetchWhole_30 : decode b_He_fetchWhole 30 = .ok (.iconst 1, 1) := by decide +kernel
theorem d_He_fetchWhole_31 : decode b_He_fetchWhole 31 = .ok (.iadd, 1) := by decide +kernel
theorem d_He_fetchWhole_32 : decode b_He_fetchWhole 32 = .ok (.aload_n 0, 1) := by decide +kernel
theorem d_He_fetchWhole_33 : decode b_He_fetchWhole 33 = .ok (.iload_n 3, 1) := by decide +kernel
theorem d_He_fetchWhole_34 : decode b_He_fetchWhole 34 = .ok (.invokevirtual 75, 3) := by decide +kernel
theorem d_He_fetchWhole_37 : decode b_He_fetchWhole 37 = .ok (.iconst 1, 1) := by decide +kernel
theorem d_He_fetchWhole_38 : decode b_He_fetchWhole 38 = .ok (.isub, 1) := by decide +kernel
theorem d_He_fetchWhole_39 : decode b_He_fetchWhole 39 = .ok (.invokevirtual 78, 3) := by decide +kernel
theorem d_He_fetchWhole_42 : decode b_He_fetchWhole 42 = .ok (.aload_n 2, 1) := by decide +kernel
theorem d_He_fetchWhole_43 : decode b_He_fetchWhole 43 = .ok (.aload_n 0, 1) := by decide +kernel
theorem d_He_fetchWhole_44 : decode b_He_fetchWhole 44 = .ok (.getfield 9, 3) := by decide +kernel
theorem d_He_fetchWhole_47 : decode b_He_fetchWhole 47 = .ok (.iload_n 3, 1) := by decide +kernel
theorem d_He_fetchWhole_48 : decode b_He_fetchWhole 48 = .ok (.iaload, 1) := by decide +kernel
theorem d_He_fetchWhole_49 : decode b_He_fetchWhole 49 = .ok (.bipush 8, 2) := by decide +kernel
theorem d_He_fetchWhole_51 : decode b_He_fetchWhole 51 = .ok (.iand, 1) := by decide +kernel
theorem d_He_fetchWhole_52 : decode b_He_fetchWhole 52 = .ok (.ifCond .eq 7, 3) := by decide +kernel
theorem d_He_fetchWhole_55 : decode b_He_fetchWhole 55 = .ok (.iconst 1, 1) := by decide +kernel
theorem d_He_fetchWhole_56 : decode b_He_fetchWhole 56 = .ok (.goto 4, 3) := by decide +kernel
theorem d_He_fetchWhole_59 : decode b_He_fetchWhole 59 = .ok (.iconst 0, 1) := by decide +kernel
theorem d_He_fetchWhole_60 : decode b_He_fetchWhole 60 = .ok (.putfield 82, 3) := by decide +kernel
theorem d_He_fetchWhole_63 : decode b_He_fetchWhole 63 = .ok (.return_, 1) := by decide +kernel
/-! He_fetchNumber: ('CellHeap$Heap', 'fetchNumber', '(ILCellHeap$Ratio;)V') -/
abbrev b_He_fetchNumber : ByteArray := prog_3_method_14_code
abbrev y_He_fetchNumber : MethodName := ⟨R_He, "fetchNumber", "(ILCellHeap$Ratio;)V"⟩
abbrev K_He_fetchNumber := CanV y_He_fetchNumber b_He_fetchNumber 3 none 4 0 0
theorem I_He_fetchNumber {h : HP} {v1 : Int32} {p2 : Nat} {Φ : HP → Prop} (body : ∀ X : CX, Cok X b_He_fetchNumber 3 R_He none → xR X = rml 4 0 0 → Qok X 0 0 (fun r h2 => r = none ∧ Φ h2) → Wg X 0 0 h [(0, .ref 15), (1, .int v1), (2, .ref p2)] [] 0) : K_He_fetchNumber [.ref 15, .int v1, .ref p2] h Φ := Can.intro (by decide) (fun _ => Nat.le_of_ble_eq_true rfl) body
theorem M_He_fetchNumber : Mv y_He_fetchNumber b_He_fetchNumber 3 none 2 4 := ⟨wx_in 555 (by decide +kernel) rfl, wx_in 553 (by decide +kernel) rfl, wx_in 554 (by decide +kernel) rfl, wx_in 66 (by decide +kernel) rfl, by decide +kernel, by decide, by decide, _, _, rfl⟩
theorem d_He_fetchNumber_0 : decode b_He_fetchNumber 0 = .ok (.aload_n 0, 1) := by decide +kernel
theorem d_He_fetchNumber_1 : decode b_He_fetchNumber 1 = .ok (.iload_n 1, 1) := by decide +kernel
theorem d_He_fetchNumber_2 : decode b_He_fetchNumber 2 = .ok (.invokevirtual 65, 3) := by decide +kernel
theorem d_He_fetchNumber_5 : decode b_He_fetchNumber 5 = .ok (.iconst 3, 1) := by decide +kernel
theorem d_He_fetchNumber_6 : decode b_He_fetchNumber 6 = .ok (.if_icmp .ne 32, 3) := by decide +kernel
theorem d_He_fetchNumber_9 : decode b_He_fetchNumber 9 = .ok (.aload_n 0, 1) := by decide +kernel
theorem d_He_fetchNumber_10 : decode b_He_fetchNumber 10 = .ok (.aload_n 0, 1) := by decide +kernel
theorem d_He_fetchNumber_11 : decode b_He_fetchNumber 11 = .ok (.iload_n 1, 1) := by decide +kernel
theorem d_He_fetchNumber_12 : decode b_He_fetchNumber 12 = .ok (.invokevirtual 86, 3) := by decide +kernel
theorem d_He_fetchNumber_15 : decode b_He_fetchNumber 15 = .ok (.aload_n 2, 1) := by decide +kernel
theorem d_He_fetchNumber_16 : decode b_He_fetchNumber 16 = .ok (.getfield 38, 3) := by decide +kernel
theorem d_He_fetchNumber_19 : decode b_He_fetchNumber 19 = .ok (.invokevirtual 89, 3) := by decide +kernel
theorem d_He_fetchNumber_22 : decode b_He_fetchNumber 22 = .ok (.aload_n 0, 1) := by decide +kernel
theorem d_He_fetchNumber_23 : decode b_He_fetchNumber 23 = .ok (.aload_n 0, 1) := by decide +kernel
theorem d_He_fetchNumber_24 : decode b_He_fetchNumber 24 = .ok (.iload_n 1, 1) := by decide +kernel
theorem d_He_fetchNumber_25 : decode b_He_fetchNumber 25 = .ok (.invokevirtual 93, 3) := by decide +kernel
theorem d_He_fetchNumber_28 : decode b_He_fetchNumber 28 = .ok (.aload_n 2, 1) := by decide +kernel
theorem d_He_fetchNumber_29 : decode b_He_fetchNumber 29 = .ok (.getfield 51, 3) := by decide +kernel
theorem d_He_fetchNumber_32 : decode b_He_fetchNumber 32 = .ok (.invokevirtual 89, 3) := by decide +kernel
theorem d_He_fetchNumber_35 : decode b_He_fetchNumber 35 = .ok (.goto 20, 3) := by decide +kernel
theorem d_He_fetchNumber_38 : decode b_He_fetchNumber 38 = .ok (.aload_n 0, 1) := by decide +kernel
theorem d_He_fetchNumber_39 : decode b_He_fetchNumber 39 = .ok (.iload_n 1, 1) := by decide +kernel
theorem d_He_fetchNumber_40 : decode b_He_fetchNumber 40 = .ok (.aload_n 2, 1) := by decide +kernel
theorem d_He_fetchNumber_41 : decode b_He_fetchNumber 41 = .ok (.getfield 38, 3) := by decide +kernel
theorem d_He_fetchNumber_44 : decode b_He_fetchNumber 44 = .ok (.invokevirtual 89, 3) := by decide +kernel
theorem d_He_fetchNumber_47 : decode b_He_fetchNumber 47 = .ok (.aload_n 2, 1) := by decide +kernel
theorem d_He_fetchNumber_48 : decode b_He_fetchNumber 48 = .ok (.getfield 51, 3) := by decide +kernel
theorem d_He_fetchNumber_51 : decode b_He_fetchNumber 51 = .ok (.lconst 1, 1) := by decide +kernel
theorem d_He_fetchNumber_52 : decode b_He_fetchNumber 52 = .ok (.invokevirtual 71, 3) := by decide +kernel
theorem d_He_fetchNumber_55 : decode b_He_fetchNumber 55 = .ok (.return_, 1) := by decide +kernel
/-! He_reach: ('CellHeap$Heap', 'reach', '(I)V') -/
abbrev b_He_reach : ByteArray := prog_3_method_21_code
abbrev y_He_reach : MethodName := ⟨R_He, "reach", "(I)V"⟩
abbrev K_He_reach := CanV y_He_reach b_He_reach 2 none 1 0 0
theorem I_He_reach {h : HP} {v1 : Int32} {Φ : HP → Prop} (body : ∀ X : CX, Cok X b_He_reach 2 R_He none → xR X = rml 1 0 0 → Qok X 0 0 (fun r h2 => r = none ∧ Φ h2) → Wg X 0 0 h [(0, .ref 15), (1, .int v1)] [] 0) : K_He_reach [.ref 15, .int v1] h Φ := Can.intro (by decide) (fun _ => Nat.le_of_ble_eq_true rfl) body
theorem M_He_reach : Mv y_He_reach b_He_reach 2 none 1 4 := ⟨wx_in 321 (by decide +kernel) rfl, wx_in 320 (by decide +kernel) rfl, wx_in 0 (by decide +kernel) rfl, wx_in 66 (by decide +kernel) rfl, by decide +kernel, by decide, by decide, _, _, rfl⟩
theorem d_He_reach_0 : decode b_He_reach 0 = .ok (.iload_n 1, 1) := by decide +kernel
theorem d_He_reach_1 : decode b_He_reach 1 = .ok (.invokestatic 54, 3) := by decide +kernel
theorem d_He_reach_4 : decode b_He_reach 4 = .ok (.ifCond .eq 48, 3) := by decide +kernel
theorem d_He_reach_7 : decode b_He_reach 7 = .ok (.aload_n 0, 1) := by decide +kernel
theorem d_He_reach_8 : decode b_He_reach 8 = .ok (.getfield 18, 3) := by decide +kernel
theorem d_He_reach_11 : decode b_He_reach 11 = .ok (.iload_n 1, 1) := by decide +kernel
theorem d_He_reach_12 : decode b_He_reach 12 = .ok (.invokestatic 58, 3) := by decide +kernel
theorem d_He_reach_15 : decode b_He_reach 15 = .ok (.baload, 1) := by decide +kernel
theorem d_He_reach_16 : decode b_He_reach 16 = .ok (.ifCond .ne 36, 3) := by decide +kernel
theorem d_He_reach_19 : decode b_He_reach 19 = .ok (.aload_n 0, 1) := by decide +kernel
theorem d_He_reach_20 : decode b_He_reach 20 = .ok (.getfield 18, 3) := by decide +kernel
theorem d_He_reach_23 : decode b_He_reach 23 = .ok (.iload_n 1, 1) := by decide +kernel
theorem d_He_reach_24 : decode b_He_reach 24 = .ok (.invokestatic 58, 3) := by decide +kernel
theorem d_He_reach_27 : decode b_He_reach 27 = .ok (.iconst 1, 1) := by decide +kernel
theorem d_He_reach_28 : decode b_He_reach 28 = .ok (.bastore, 1) := by decide +kernel
theorem d_He_reach_29 : decode b_He_reach 29 = .ok (.aload_n 0, 1) := by decide +kernel
theorem d_He_reach_30 : decode b_He_reach 30 = .ok (.getfield 25, 3) := by decide +kernel
theorem d_He_reach_33 : decode b_He_reach 33 = .ok (.aload_n 0, 1) := by decide +kernel
theorem d_He_reach_34 : decode b_He_reach 34 = .ok (.getfield 125, 3) := by decide +kernel
theorem d_He_reach_37 : decode b_He_reach 37 = .ok (.iload_n 1, 1) := by decide +kernel
theorem d_He_reach_38 : decode b_He_reach 38 = .ok (.invokestatic 58, 3) := by decide +kernel
theorem d_He_reach_41 : decode b_He_reach 41 = .ok (.iastore, 1) := by decide +kernel
theorem d_He_reach_42 : decode b_He_reach 42 = .ok (.aload_n 0, 1) := by decide +kernel
theorem d_He_reach_43 : decode b_He_reach 43 = .ok (.dup, 1) := by decide +kernel
theorem d_He_reach_44 : decode b_He_reach 44 = .ok (.getfield 125, 3) := by decide +kernel
theorem d_He_reach_47 : decode b_He_reach 47 = .ok (.iconst 1, 1) := by decide +kernel
theorem d_He_reach_48 : decode b_He_reach 48 = .ok (.iadd, 1) := by decide +kernel
theorem d_He_reach_49 : decode b_He_reach 49 = .ok (.putfield 125, 3) := by decide +kernel
theorem d_He_reach_52 : decode b_He_reach 52 = .ok (.return_, 1) := by decide +kernel
/-! He_markLiving: ('CellHeap$Heap', 'markLiving', '()I') -/
abbrev b_He_markLiving : ByteArray := prog_3_method_20_code
abbrev y_He_markLiving : MethodName := ⟨R_He, "markLiving", "()I"⟩
abbrev K_He_markLiving := CanI y_He_markLiving b_He_markLiving 3 ((some .int)) 2 0 0
theorem I_He_markLiving {h : HP}  {Φ : Int32 → HP → Prop} (body : ∀ X : CX, Cok X b_He_markLiving 3 R_He ((some .int)) → xR X = rml 2 0 0 → Qok X 0 0 (fun r h2 => ∃ v, r = some (.int v) ∧ Φ v h2) → Wg X 0 0 h [(0, .ref 15)] [] 0) : K_He_markLiving [.ref 15] h Φ := Can.intro (by decide) (fun _ => Nat.le_of_ble_eq_true rfl) body
theorem M_He_markLiving : Mv y_He_markLiving b_He_markLiving 3 ((some .int)) 0 4 := ⟨wx_in 317 (by decide +kernel) rfl, wx_in 315 (by decide +kernel) rfl, wx_in 316 (by decide +kernel) rfl, wx_in 66 (by decide +kernel) rfl, by decide +kernel, by decide, by decide, _, _, rfl⟩
theorem d_He_markLiving_0 : decode b_He_markLiving 0 = .ok (.iconst 0, 1) := by decide +kernel
theorem d_He_markLiving_1 : decode b_He_markLiving 1 = .ok (.istore_n 1, 1) := by decide +kernel
theorem d_He_markLiving_2 : decode b_He_markLiving 2 = .ok (.iload_n 1, 1) := by decide +kernel
theorem d_He_markLiving_3 : decode b_He_markLiving 3 = .ok (.sipush 400, 3) := by decide +kernel
theorem d_He_markLiving_6 : decode b_He_markLiving 6 = .ok (.if_icmp .ge 16, 3) := by decide +kernel
theorem d_He_markLiving_9 : decode b_He_markLiving 9 = .ok (.aload_n 0, 1) := by decide +kernel
theorem d_He_markLiving_10 : decode b_He_markLiving 10 = .ok (.getfield 18, 3) := by decide +kernel
theorem d_He_markLiving_13 : decode b_He_markLiving 13 = .ok (.iload_n 1, 1) := by decide +kernel
theorem d_He_markLiving_14 : decode b_He_markLiving 14 = .ok (.iconst 0, 1) := by decide +kernel
theorem d_He_markLiving_15 : decode b_He_markLiving 15 = .ok (.bastore, 1) := by decide +kernel
theorem d_He_markLiving_16 : decode b_He_markLiving 16 = .ok (.iinc 1 1, 3) := by decide +kernel
theorem d_He_markLiving_19 : decode b_He_markLiving 19 = .ok (.goto (-17), 3) := by decide +kernel
theorem d_He_markLiving_22 : decode b_He_markLiving 22 = .ok (.aload_n 0, 1) := by decide +kernel
theorem d_He_markLiving_23 : decode b_He_markLiving 23 = .ok (.iconst 0, 1) := by decide +kernel
theorem d_He_markLiving_24 : decode b_He_markLiving 24 = .ok (.putfield 125, 3) := by decide +kernel
theorem d_He_markLiving_27 : decode b_He_markLiving 27 = .ok (.iconst 0, 1) := by decide +kernel
theorem d_He_markLiving_28 : decode b_He_markLiving 28 = .ok (.istore_n 1, 1) := by decide +kernel
theorem d_He_markLiving_29 : decode b_He_markLiving 29 = .ok (.iload_n 1, 1) := by decide +kernel
theorem d_He_markLiving_30 : decode b_He_markLiving 30 = .ok (.bipush 8, 2) := by decide +kernel
theorem d_He_markLiving_32 : decode b_He_markLiving 32 = .ok (.if_icmp .ge 19, 3) := by decide +kernel
theorem d_He_markLiving_35 : decode b_He_markLiving 35 = .ok (.aload_n 0, 1) := by decide +kernel
theorem d_He_markLiving_36 : decode b_He_markLiving 36 = .ok (.aload_n 0, 1) := by decide +kernel
theorem d_He_markLiving_37 : decode b_He_markLiving 37 = .ok (.getfield 15, 3) := by decide +kernel
theorem d_He_markLiving_40 : decode b_He_markLiving 40 = .ok (.iload_n 1, 1) := by decide +kernel
theorem d_He_markLiving_41 : decode b_He_markLiving 41 = .ok (.iaload, 1) := by decide +kernel
theorem d_He_markLiving_42 : decode b_He_markLiving 42 = .ok (.invokevirtual 128, 3) := by decide +kernel
theorem d_He_markLiving_45 : decode b_He_markLiving 45 = .ok (.iinc 1 1, 3) := by decide +kernel
theorem d_He_markLiving_48 : decode b_He_markLiving 48 = .ok (.goto (-19), 3) := by decide +kernel
theorem d_He_markLiving_51 : decode b_He_markLiving 51 = .ok (.iconst 0, 1) := by decide +kernel
theorem d_He_markLiving_52 : decode b_He_markLiving 52 = .ok (.istore_n 1, 1) := by decide +kernel
theorem d_He_markLiving_53 : decode b_He_markLiving 53 = .ok (.iload_n 1, 1) := by decide +kernel
theorem d_He_markLiving_54 : decode b_He_markLiving 54 = .ok (.aload_n 0, 1) := by decide +kernel
theorem d_He_markLiving_55 : decode b_He_markLiving 55 = .ok (.getfield 125, 3) := by decide +kernel
theorem d_He_markLiving_58 : decode b_He_markLiving 58 = .ok (.if_icmp .ge 56, 3) := by decide +kernel
theorem d_He_markLiving_61 : decode b_He_markLiving 61 = .ok (.iload_n 1, 1) := by decide +kernel
theorem d_He_markLiving_62 : decode b_He_markLiving 62 = .ok (.sipush 400, 3) := by decide +kernel
theorem d_He_markLiving_65 : decode b_He_markLiving 65 = .ok (.if_icmp .ge 49, 3) := by decide +kernel
theorem d_He_markLiving_68 : decode b_He_markLiving 68 = .ok (.aload_n 0, 1) := by decide +kernel
theorem d_He_markLiving_69 : decode b_He_markLiving 69 = .ok (.getfield 25, 3) := by decide +kernel
theorem d_He_markLiving_72 : decode b_He_markLiving 72 = .ok (.iload_n 1, 1) := by decide +kernel
theorem d_He_markLiving_73 : decode b_He_markLiving 73 = .ok (.iaload, 1) := by decide +kernel
theorem d_He_markLiving_74 : decode b_He_markLiving 74 = .ok (.istore_n 2, 1) := by decide +kernel
theorem d_He_markLiving_75 : decode b_He_markLiving 75 = .ok (.aload_n 0, 1) := by decide +kernel
theorem d_He_markLiving_76 : decode b_He_markLiving 76 = .ok (.iload_n 2, 1) := by decide +kernel
theorem d_He_markLiving_77 : decode b_He_markLiving 77 = .ok (.invokevirtual 62, 3) := by decide +kernel
theorem d_He_markLiving_80 : decode b_He_markLiving 80 = .ok (.iconst 2, 1) := by decide +kernel
theorem d_He_markLiving_81 : decode b_He_markLiving 81 = .ok (.if_icmp .eq 27, 3) := by decide +kernel
theorem d_He_markLiving_84 : decode b_He_markLiving 84 = .ok (.aload_n 0, 1) := by decide +kernel
theorem d_He_markLiving_85 : decode b_He_markLiving 85 = .ok (.aload_n 0, 1) := by decide +kernel
theorem d_He_markLiving_86 : decode b_He_markLiving 86 = .ok (.getfield 9, 3) := by decide +kernel
theorem d_He_markLiving_89 : decode b_He_markLiving 89 = .ok (.iload_n 2, 1) := by decide +kernel
theorem d_He_markLiving_90 : decode b_He_markLiving 90 = .ok (.iconst 1, 1) := by decide +kernel
theorem d_He_markLiving_91 : decode b_He_markLiving 91 = .ok (.iadd, 1) := by decide +kernel
theorem d_He_markLiving_92 : decode b_He_markLiving 92 = .ok (.iaload, 1) := by decide +kernel
theorem d_He_markLiving_93 : decode b_He_markLiving 93 = .ok (.invokevirtual 128, 3) := by decide +kernel
theorem d_He_markLiving_96 : decode b_He_markLiving 96 = .ok (.aload_n 0, 1) := by decide +kernel
theorem d_He_markLiving_97 : decode b_He_markLiving 97 = .ok (.aload_n 0, 1) := by decide +kernel
theorem d_He_markLiving_98 : decode b_He_markLiving 98 = .ok (.getfield 9, 3) := by decide +kernel
theorem d_He_markLiving_101 : decode b_He_markLiving 101 = .ok (.iload_n 2, 1) := by decide +kernel
theorem d_He_markLiving_102 : decode b_He_markLiving 102 = .ok (.iconst 2, 1) := by decide +kernel
theorem d_He_markLiving_103 : decode b_He_markLiving 103 = .ok (.iadd, 1) := by decide +kernel
theorem d_He_markLiving_104 : decode b_He_markLiving 104 = .ok (.iaload, 1) := by decide +kernel
theorem d_He_markLiving_105 : decode b_He_markLiving 105 = .ok (.invokevirtual 128, 3) := by decide +kernel
theorem d_He_markLiving_108 : decode b_He_markLiving 108 = .ok (.iinc 1 1, 3) := by decide +kernel
theorem d_He_markLiving_111 : decode b_He_markLiving 111 = .ok (.goto (-58), 3) := by decide +kernel
theorem d_He_markLiving_114 : decode b_He_markLiving 114 = .ok (.aload_n 0, 1) := by decide +kernel
theorem d_He_markLiving_115 : decode b_He_markLiving 115 = .ok (.getfield 125, 3) := by decide +kernel
theorem d_He_markLiving_118 : decode b_He_markLiving 118 = .ok (.ireturn, 1) := by decide +kernel
/-! He_chooseNewPlaces: ('CellHeap$Heap', 'chooseNewPlaces', '()V') -/
abbrev b_He_chooseNewPlaces : ByteArray := prog_3_method_23_code
abbrev y_He_chooseNewPlaces : MethodName := ⟨R_He, "chooseNewPlaces", "()V"⟩
abbrev K_He_chooseNewPlaces := CanV y_He_chooseNewPlaces b_He_chooseNewPlaces 5 none 1 0 0
theorem I_He_chooseNewPlaces {h : HP}  {Φ : HP → Prop} (body : ∀ X : CX, Cok X b_He_chooseNewPlaces 5 R_He none → xR X = rml 1 0 0 → Qok X 0 0 (fun r h2 => r = none ∧ Φ h2) → Wg X 0 0 h [(0, .ref 15)] [] 0) : K_He_chooseNewPlaces [.ref 15] h Φ := Can.intro (by decide) (fun _ => Nat.le_of_ble_eq_true rfl) body
theorem M_He_chooseNewPlaces : Mv y_He_chooseNewPlaces b_He_chooseNewPlaces 5 none 0 4 := ⟨wx_in 335 (by decide +kernel) rfl, wx_in 334 (by decide +kernel) rfl, wx_in 2 (by decide +kernel) rfl, wx_in 66 (by decide +kernel) rfl, by decide +kernel, by decide, by decide, _, _, rfl⟩
theorem d_He_chooseNewPlaces_0 : decode b_He_chooseNewPlaces 0 = .ok (.iconst 0, 1) := by decide +kernel
theorem d_He_chooseNewPlaces_1 : decode b_He_chooseNewPlaces 1 = .ok (.istore_n 1, 1) := by decide +kernel
theorem d_He_chooseNewPlaces_2 : decode b_He_chooseNewPlaces 2 = .ok (.iconst 0, 1) := by decide +kernel
theorem d_He_chooseNewPlaces_3 : decode b_He_chooseNewPlaces 3 = .ok (.istore_n 2, 1) := by decide +kernel
theorem d_He_chooseNewPlaces_4 : decode b_He_chooseNewPlaces 4 = .ok (.iconst 0, 1) := by decide +kernel
theorem d_He_chooseNewPlaces_5 : decode b_He_chooseNewPlaces 5 = .ok (.istore_n 3, 1) := by decide +kernel
theorem d_He_chooseNewPlaces_6 : decode b_He_chooseNewPlaces 6 = .ok (.iload_n 3, 1) := by decide +kernel
theorem d_He_chooseNewPlaces_7 : decode b_He_chooseNewPlaces 7 = .ok (.sipush 400, 3) := by decide +kernel
theorem d_He_chooseNewPlaces_10 : decode b_He_chooseNewPlaces 10 = .ok (.if_icmp .ge 50, 3) := by decide +kernel
theorem d_He_chooseNewPlaces_13 : decode b_He_chooseNewPlaces 13 = .ok (.iload_n 2, 1) := by decide +kernel
theorem d_He_chooseNewPlaces_14 : decode b_He_chooseNewPlaces 14 = .ok (.aload_n 0, 1) := by decide +kernel
theorem d_He_chooseNewPlaces_15 : decode b_He_chooseNewPlaces 15 = .ok (.getfield 96, 3) := by decide +kernel
theorem d_He_chooseNewPlaces_18 : decode b_He_chooseNewPlaces 18 = .ok (.if_icmp .ge 42, 3) := by decide +kernel
theorem d_He_chooseNewPlaces_21 : decode b_He_chooseNewPlaces 21 = .ok (.aload_n 0, 1) := by decide +kernel
theorem d_He_chooseNewPlaces_22 : decode b_He_chooseNewPlaces 22 = .ok (.getfield 22, 3) := by decide +kernel
theorem d_He_chooseNewPlaces_25 : decode b_He_chooseNewPlaces 25 = .ok (.iload_n 2, 1) := by decide +kernel
theorem d_He_chooseNewPlaces_26 : decode b_He_chooseNewPlaces 26 = .ok (.iload_n 1, 1) := by decide +kernel
theorem d_He_chooseNewPlaces_27 : decode b_He_chooseNewPlaces 27 = .ok (.iastore, 1) := by decide +kernel
theorem d_He_chooseNewPlaces_28 : decode b_He_chooseNewPlaces 28 = .ok (.aload_n 0, 1) := by decide +kernel
theorem d_He_chooseNewPlaces_29 : decode b_He_chooseNewPlaces 29 = .ok (.iload_n 2, 1) := by decide +kernel
theorem d_He_chooseNewPlaces_30 : decode b_He_chooseNewPlaces 30 = .ok (.invokevirtual 75, 3) := by decide +kernel
theorem d_He_chooseNewPlaces_33 : decode b_He_chooseNewPlaces 33 = .ok (.istore 4, 2) := by decide +kernel
theorem d_He_chooseNewPlaces_35 : decode b_He_chooseNewPlaces 35 = .ok (.aload_n 0, 1) := by decide +kernel
theorem d_He_chooseNewPlaces_36 : decode b_He_chooseNewPlaces 36 = .ok (.getfield 18, 3) := by decide +kernel
theorem d_He_chooseNewPlaces_39 : decode b_He_chooseNewPlaces 39 = .ok (.iload_n 2, 1) := by decide +kernel
theorem d_He_chooseNewPlaces_40 : decode b_He_chooseNewPlaces 40 = .ok (.baload, 1) := by decide +kernel
theorem d_He_chooseNewPlaces_41 : decode b_He_chooseNewPlaces 41 = .ok (.ifCond .eq 8, 3) := by decide +kernel
theorem d_He_chooseNewPlaces_44 : decode b_He_chooseNewPlaces 44 = .ok (.iload_n 1, 1) := by decide +kernel
theorem d_He_chooseNewPlaces_45 : decode b_He_chooseNewPlaces 45 = .ok (.iload 4, 2) := by decide +kernel
theorem d_He_chooseNewPlaces_47 : decode b_He_chooseNewPlaces 47 = .ok (.iadd, 1) := by decide +kernel
theorem d_He_chooseNewPlaces_48 : decode b_He_chooseNewPlaces 48 = .ok (.istore_n 1, 1) := by decide +kernel
theorem d_He_chooseNewPlaces_49 : decode b_He_chooseNewPlaces 49 = .ok (.iload_n 2, 1) := by decide +kernel
theorem d_He_chooseNewPlaces_50 : decode b_He_chooseNewPlaces 50 = .ok (.iload 4, 2) := by decide +kernel
theorem d_He_chooseNewPlaces_52 : decode b_He_chooseNewPlaces 52 = .ok (.iadd, 1) := by decide +kernel
theorem d_He_chooseNewPlaces_53 : decode b_He_chooseNewPlaces 53 = .ok (.istore_n 2, 1) := by decide +kernel
theorem d_He_chooseNewPlaces_54 : decode b_He_chooseNewPlaces 54 = .ok (.iinc 3 1, 3) := by decide +kernel
theorem d_He_chooseNewPlaces_57 : decode b_He_chooseNewPlaces 57 = .ok (.goto (-51), 3) := by decide +kernel
theorem d_He_chooseNewPlaces_60 : decode b_He_chooseNewPlaces 60 = .ok (.return_, 1) := by decide +kernel
/-! He_moved: ('CellHeap$Heap', 'moved', '(I)I') -/
abbrev b_He_moved : ByteArray := prog_3_method_24_code
abbrev y_He_moved : MethodName := ⟨R_He, "moved", "(I)I"⟩
abbrev K_He_moved := CanI y_He_moved b_He_moved 2 ((some .int)) 1 0 0
theorem I_He_moved {h : HP} {v1 : Int32} {Φ : Int32 → HP → Prop} (body : ∀ X : CX, Cok X b_He_moved 2 R_He ((some .int)) → xR X = rml 1 0 0 → Qok X 0 0 (fun r h2 => ∃ v, r = some (.int v) ∧ Φ v h2) → Wg X 0 0 h [(0, .ref 15), (1, .int v1)] [] 0) : K_He_moved [.ref 15, .int v1] h Φ := Can.intro (by decide) (fun _ => Nat.le_of_ble_eq_true rfl) body
theorem M_He_moved : Mv y_He_moved b_He_moved 2 ((some .int)) 1 4 := ⟨wx_in 343 (by decide +kernel) rfl, wx_in 342 (by decide +kernel) rfl, wx_in 3 (by decide +kernel) rfl, wx_in 66 (by decide +kernel) rfl, by decide +kernel, by decide, by decide, _, _, rfl⟩
theorem d_He_moved_0 : decode b_He_moved 0 = .ok (.iload_n 1, 1) := by decide +kernel
theorem d_He_moved_1 : decode b_He_moved 1 = .ok (.invokestatic 54, 3) := by decide +kernel
theorem d_He_moved_4 : decode b_He_moved 4 = .ok (.ifCond .eq 18, 3) := by decide +kernel
theorem d_He_moved_7 : decode b_He_moved 7 = .ok (.aload_n 0, 1) := by decide +kernel
theorem d_He_moved_8 : decode b_He_moved 8 = .ok (.getfield 22, 3) := by decide +kernel
theorem d_He_moved_11 : decode b_He_moved 11 = .ok (.iload_n 1, 1) := by decide +kernel
theorem d_He_moved_12 : decode b_He_moved 12 = .ok (.invokestatic 58, 3) := by decide +kernel
theorem d_He_moved_15 : decode b_He_moved 15 = .ok (.iaload, 1) := by decide +kernel
theorem d_He_moved_16 : decode b_He_moved 16 = .ok (.invokestatic 102, 3) := by decide +kernel
theorem d_He_moved_19 : decode b_He_moved 19 = .ok (.goto 4, 3) := by decide +kernel
theorem d_He_moved_22 : decode b_He_moved 22 = .ok (.iload_n 1, 1) := by decide +kernel
theorem d_He_moved_23 : decode b_He_moved 23 = .ok (.ireturn, 1) := by decide +kernel
/-! He_moveLiving: ('CellHeap$Heap', 'moveLiving', '()V') -/
abbrev b_He_moveLiving : ByteArray := prog_3_method_25_code
abbrev y_He_moveLiving : MethodName := ⟨R_He, "moveLiving", "()V"⟩
abbrev K_He_moveLiving := CanV y_He_moveLiving b_He_moveLiving 5 none 2 0 0
theorem I_He_moveLiving {h : HP}  {Φ : HP → Prop} (body : ∀ X : CX, Cok X b_He_moveLiving 5 R_He none → xR X = rml 2 0 0 → Qok X 0 0 (fun r h2 => r = none ∧ Φ h2) → Wg X 0 0 h [(0, .ref 15)] [] 0) : K_He_moveLiving [.ref 15] h Φ := Can.intro (by decide) (fun _ => Nat.le_of_ble_eq_true rfl) body
theorem M_He_moveLiving : Mv y_He_moveLiving b_He_moveLiving 5 none 0 4 := ⟨wx_in 350 (by decide +kernel) rfl, wx_in 349 (by decide +kernel) rfl, wx_in 4 (by decide +kernel) rfl, wx_in 66 (by decide +kernel) rfl, by decide +kernel, by decide, by decide, _, _, rfl⟩
theorem d_He_moveLiving_0 : decode b_He_moveLiving 0 = .ok (.iconst 0, 1) := by decide +kernel
theorem d_He_moveLiving_1 : decode b_He_moveLiving 1 = .ok (.istore_n 1, 1) := by decide +kernel
theorem d_He_moveLiving_2 : decode b_He_moveLiving 2 = .ok (.iconst 0, 1) := by decide +kernel
theorem d_He_moveLiving_3 : decode b_He_moveLiving 3 = .ok (.istore_n 2, 1) := by decide +kernel
theorem d_He_moveLiving_4 : decode b_He_moveLiving 4 = .ok (.iconst 0, 1) := by decide +kernel
theorem d_He_moveLiving_5 : decode b_He_moveLiving 5 = .ok (.istore_n 3, 1) := by decide +kernel
theorem d_He_moveLiving_6 : decode b_He_moveLiving 6 = .ok (.iload_n 3, 1) := by decide +kernel
theorem d_He_moveLiving_7 : decode b_He_moveLiving 7 = .ok (.sipush 400, 3) := by decide +kernel
theorem d_He_moveLiving_10 : decode b_He_moveLiving 10 = .ok (.if_icmp .ge 107, 3) := by decide +kernel
theorem d_He_moveLiving_13 : decode b_He_moveLiving 13 = .ok (.iload_n 2, 1) := by decide +kernel
theorem d_He_moveLiving_14 : decode b_He_moveLiving 14 = .ok (.aload_n 0, 1) := by decide +kernel
theorem d_He_moveLiving_15 : decode b_He_moveLiving 15 = .ok (.getfield 96, 3) := by decide +kernel
theorem d_He_moveLiving_18 : decode b_He_moveLiving 18 = .ok (.if_icmp .ge 99, 3) := by decide +kernel
theorem d_He_moveLiving_21 : decode b_He_moveLiving 21 = .ok (.aload_n 0, 1) := by decide +kernel
theorem d_He_moveLiving_22 : decode b_He_moveLiving 22 = .ok (.iload_n 2, 1) := by decide +kernel
theorem d_He_moveLiving_23 : decode b_He_moveLiving 23 = .ok (.invokevirtual 75, 3) := by decide +kernel
theorem d_He_moveLiving_26 : decode b_He_moveLiving 26 = .ok (.istore 4, 2) := by decide +kernel
theorem d_He_moveLiving_28 : decode b_He_moveLiving 28 = .ok (.aload_n 0, 1) := by decide +kernel
theorem d_He_moveLiving_29 : decode b_He_moveLiving 29 = .ok (.getfield 18, 3) := by decide +kernel
theorem d_He_moveLiving_32 : decode b_He_moveLiving 32 = .ok (.iload_n 2, 1) := by decide +kernel
theorem d_He_moveLiving_33 : decode b_He_moveLiving 33 = .ok (.baload, 1) := by decide +kernel
theorem d_He_moveLiving_34 : decode b_He_moveLiving 34 = .ok (.ifCond .eq 72, 3) := by decide +kernel
theorem d_He_moveLiving_37 : decode b_He_moveLiving 37 = .ok (.aload_n 0, 1) := by decide +kernel
theorem d_He_moveLiving_38 : decode b_He_moveLiving 38 = .ok (.iload_n 2, 1) := by decide +kernel
theorem d_He_moveLiving_39 : decode b_He_moveLiving 39 = .ok (.invokevirtual 62, 3) := by decide +kernel
theorem d_He_moveLiving_42 : decode b_He_moveLiving 42 = .ok (.iconst 2, 1) := by decide +kernel
theorem d_He_moveLiving_43 : decode b_He_moveLiving 43 = .ok (.if_icmp .eq 43, 3) := by decide +kernel
theorem d_He_moveLiving_46 : decode b_He_moveLiving 46 = .ok (.aload_n 0, 1) := by decide +kernel
theorem d_He_moveLiving_47 : decode b_He_moveLiving 47 = .ok (.getfield 9, 3) := by decide +kernel
theorem d_He_moveLiving_50 : decode b_He_moveLiving 50 = .ok (.iload_n 2, 1) := by decide +kernel
theorem d_He_moveLiving_51 : decode b_He_moveLiving 51 = .ok (.iconst 1, 1) := by decide +kernel
theorem d_He_moveLiving_52 : decode b_He_moveLiving 52 = .ok (.iadd, 1) := by decide +kernel
theorem d_He_moveLiving_53 : decode b_He_moveLiving 53 = .ok (.aload_n 0, 1) := by decide +kernel
theorem d_He_moveLiving_54 : decode b_He_moveLiving 54 = .ok (.aload_n 0, 1) := by decide +kernel
theorem d_He_moveLiving_55 : decode b_He_moveLiving 55 = .ok (.getfield 9, 3) := by decide +kernel
theorem d_He_moveLiving_58 : decode b_He_moveLiving 58 = .ok (.iload_n 2, 1) := by decide +kernel
theorem d_He_moveLiving_59 : decode b_He_moveLiving 59 = .ok (.iconst 1, 1) := by decide +kernel
theorem d_He_moveLiving_60 : decode b_He_moveLiving 60 = .ok (.iadd, 1) := by decide +kernel
theorem d_He_moveLiving_61 : decode b_He_moveLiving 61 = .ok (.iaload, 1) := by decide +kernel
theorem d_He_moveLiving_62 : decode b_He_moveLiving 62 = .ok (.invokevirtual 138, 3) := by decide +kernel
theorem d_He_moveLiving_65 : decode b_He_moveLiving 65 = .ok (.iastore, 1) := by decide +kernel
theorem d_He_moveLiving_66 : decode b_He_moveLiving 66 = .ok (.aload_n 0, 1) := by decide +kernel
theorem d_He_moveLiving_67 : decode b_He_moveLiving 67 = .ok (.getfield 9, 3) := by decide +kernel
theorem d_He_moveLiving_70 : decode b_He_moveLiving 70 = .ok (.iload_n 2, 1) := by decide +kernel
theorem d_He_moveLiving_71 : decode b_He_moveLiving 71 = .ok (.iconst 2, 1) := by decide +kernel
theorem d_He_moveLiving_72 : decode b_He_moveLiving 72 = .ok (.iadd, 1) := by decide +kernel
theorem d_He_moveLiving_73 : decode b_He_moveLiving 73 = .ok (.aload_n 0, 1) := by decide +kernel
theorem d_He_moveLiving_74 : decode b_He_moveLiving 74 = .ok (.aload_n 0, 1) := by decide +kernel
theorem d_He_moveLiving_75 : decode b_He_moveLiving 75 = .ok (.getfield 9, 3) := by decide +kernel
theorem d_He_moveLiving_78 : decode b_He_moveLiving 78 = .ok (.iload_n 2, 1) := by decide +kernel
theorem d_He_moveLiving_79 : decode b_He_moveLiving 79 = .ok (.iconst 2, 1) := by decide +kernel
theorem d_He_moveLiving_80 : decode b_He_moveLiving 80 = .ok (.iadd, 1) := by decide +kernel
theorem d_He_moveLiving_81 : decode b_He_moveLiving 81 = .ok (.iaload, 1) := by decide +kernel
theorem d_He_moveLiving_82 : decode b_He_moveLiving 82 = .ok (.invokevirtual 138, 3) := by decide +kernel
theorem d_He_moveLiving_85 : decode b_He_moveLiving 85 = .ok (.iastore, 1) := by decide +kernel
theorem d_He_moveLiving_86 : decode b_He_moveLiving 86 = .ok (.aload_n 0, 1) := by decide +kernel
theorem d_He_moveLiving_87 : decode b_He_moveLiving 87 = .ok (.getfield 9, 3) := by decide +kernel
theorem d_He_moveLiving_90 : decode b_He_moveLiving 90 = .ok (.iload_n 2, 1) := by decide +kernel
theorem d_He_moveLiving_91 : decode b_He_moveLiving 91 = .ok (.aload_n 0, 1) := by decide +kernel
theorem d_He_moveLiving_92 : decode b_He_moveLiving 92 = .ok (.getfield 9, 3) := by decide +kernel
theorem d_He_moveLiving_95 : decode b_He_moveLiving 95 = .ok (.iload_n 1, 1) := by decide +kernel
theorem d_He_moveLiving_96 : decode b_He_moveLiving 96 = .ok (.iload 4, 2) := by decide +kernel
theorem d_He_moveLiving_98 : decode b_He_moveLiving 98 = .ok (.invokestatic 112, 3) := by decide +kernel
theorem d_He_moveLiving_101 : decode b_He_moveLiving 101 = .ok (.iload_n 1, 1) := by decide +kernel
theorem d_He_moveLiving_102 : decode b_He_moveLiving 102 = .ok (.iload 4, 2) := by decide +kernel
theorem d_He_moveLiving_104 : decode b_He_moveLiving 104 = .ok (.iadd, 1) := by decide +kernel
theorem d_He_moveLiving_105 : decode b_He_moveLiving 105 = .ok (.istore_n 1, 1) := by decide +kernel
theorem d_He_moveLiving_106 : decode b_He_moveLiving 106 = .ok (.iload_n 2, 1) := by decide +kernel
theorem d_He_moveLiving_107 : decode b_He_moveLiving 107 = .ok (.iload 4, 2) := by decide +kernel
theorem d_He_moveLiving_109 : decode b_He_moveLiving 109 = .ok (.iadd, 1) := by decide +kernel
theorem d_He_moveLiving_110 : decode b_He_moveLiving 110 = .ok (.istore_n 2, 1) := by decide +kernel
theorem d_He_moveLiving_111 : decode b_He_moveLiving 111 = .ok (.iinc 3 1, 3) := by decide +kernel
theorem d_He_moveLiving_114 : decode b_He_moveLiving 114 = .ok (.goto (-108), 3) := by decide +kernel
theorem d_He_moveLiving_117 : decode b_He_moveLiving 117 = .ok (.aload_n 0, 1) := by decide +kernel
theorem d_He_moveLiving_118 : decode b_He_moveLiving 118 = .ok (.iload_n 1, 1) := by decide +kernel
theorem d_He_moveLiving_119 : decode b_He_moveLiving 119 = .ok (.putfield 96, 3) := by decide +kernel
theorem d_He_moveLiving_122 : decode b_He_moveLiving 122 = .ok (.return_, 1) := by decide +kernel
/-! He_slideLiving: ('CellHeap$Heap', 'slideLiving', '()V') -/
abbrev b_He_slideLiving : ByteArray := prog_3_method_22_code
abbrev y_He_slideLiving : MethodName := ⟨R_He, "slideLiving", "()V"⟩
abbrev K_He_slideLiving := CanV y_He_slideLiving b_He_slideLiving 2 none 3 0 0
theorem I_He_slideLiving {h : HP}  {Φ : HP → Prop} (body : ∀ X : CX, Cok X b_He_slideLiving 2 R_He none → xR X = rml 3 0 0 → Qok X 0 0 (fun r h2 => r = none ∧ Φ h2) → Wg X 0 0 h [(0, .ref 15)] [] 0) : K_He_slideLiving [.ref 15] h Φ := Can.intro (by decide) (fun _ => Nat.le_of_ble_eq_true rfl) body
theorem M_He_slideLiving : Mv y_He_slideLiving b_He_slideLiving 2 none 0 4 := ⟨wx_in 313 (by decide +kernel) rfl, wx_in 311 (by decide +kernel) rfl, wx_in 312 (by decide +kernel) rfl, wx_in 66 (by decide +kernel) rfl, by decide +kernel, by decide, by decide, _, _, rfl⟩
theorem d_He_slideLiving_0 : decode b_He_slideLiving 0 = .ok (.aload_n 0, 1) := by decide +kernel
theorem d_He_slideLiving_1 : decode b_He_slideLiving 1 = .ok (.invokevirtual 132, 3) := by decide +kernel
theorem d_He_slideLiving_4 : decode b_He_slideLiving 4 = .ok (.pop, 1) := by decide +kernel
theorem d_He_slideLiving_5 : decode b_He_slideLiving 5 = .ok (.aload_n 0, 1) := by decide +kernel
theorem d_He_slideLiving_6 : decode b_He_slideLiving 6 = .ok (.invokevirtual 135, 3) := by decide +kernel
theorem d_He_slideLiving_9 : decode b_He_slideLiving 9 = .ok (.iconst 0, 1) := by decide +kernel
theorem d_He_slideLiving_10 : decode b_He_slideLiving 10 = .ok (.istore_n 1, 1) := by decide +kernel
theorem d_He_slideLiving_11 : decode b_He_slideLiving 11 = .ok (.iload_n 1, 1) := by decide +kernel
theorem d_He_slideLiving_12 : decode b_He_slideLiving 12 = .ok (.bipush 8, 2) := by decide +kernel
theorem d_He_slideLiving_14 : decode b_He_slideLiving 14 = .ok (.if_icmp .ge 25, 3) := by decide +kernel
theorem d_He_slideLiving_17 : decode b_He_slideLiving 17 = .ok (.aload_n 0, 1) := by decide +kernel
theorem d_He_slideLiving_18 : decode b_He_slideLiving 18 = .ok (.getfield 15, 3) := by decide +kernel
theorem d_He_slideLiving_21 : decode b_He_slideLiving 21 = .ok (.iload_n 1, 1) := by decide +kernel
theorem d_He_slideLiving_22 : decode b_He_slideLiving 22 = .ok (.aload_n 0, 1) := by decide +kernel
theorem d_He_slideLiving_23 : decode b_He_slideLiving 23 = .ok (.aload_n 0, 1) := by decide +kernel
theorem d_He_slideLiving_24 : decode b_He_slideLiving 24 = .ok (.getfield 15, 3) := by decide +kernel
theorem d_He_slideLiving_27 : decode b_He_slideLiving 27 = .ok (.iload_n 1, 1) := by decide +kernel
theorem d_He_slideLiving_28 : decode b_He_slideLiving 28 = .ok (.iaload, 1) := by decide +kernel
theorem d_He_slideLiving_29 : decode b_He_slideLiving 29 = .ok (.invokevirtual 138, 3) := by decide +kernel
theorem d_He_slideLiving_32 : decode b_He_slideLiving 32 = .ok (.iastore, 1) := by decide +kernel
theorem d_He_slideLiving_33 : decode b_He_slideLiving 33 = .ok (.iinc 1 1, 3) := by decide +kernel
theorem d_He_slideLiving_36 : decode b_He_slideLiving 36 = .ok (.goto (-25), 3) := by decide +kernel
theorem d_He_slideLiving_39 : decode b_He_slideLiving 39 = .ok (.aload_n 0, 1) := by decide +kernel
theorem d_He_slideLiving_40 : decode b_He_slideLiving 40 = .ok (.invokevirtual 141, 3) := by decide +kernel
theorem d_He_slideLiving_43 : decode b_He_slideLiving 43 = .ok (.aload_n 0, 1) := by decide +kernel
theorem d_He_slideLiving_44 : decode b_He_slideLiving 44 = .ok (.dup, 1) := by decide +kernel
theorem d_He_slideLiving_45 : decode b_He_slideLiving 45 = .ok (.getfield 144, 3) := by decide +kernel
theorem d_He_slideLiving_48 : decode b_He_slideLiving 48 = .ok (.iconst 1, 1) := by decide +kernel
theorem d_He_slideLiving_49 : decode b_He_slideLiving 49 = .ok (.iadd, 1) := by decide +kernel
theorem d_He_slideLiving_50 : decode b_He_slideLiving 50 = .ok (.putfield 144, 3) := by decide +kernel
theorem d_He_slideLiving_53 : decode b_He_slideLiving 53 = .ok (.return_, 1) := by decide +kernel
/-! He_makeRoom: ('CellHeap$Heap', 'makeRoom', '(I)Z') -/
abbrev b_He_makeRoom : ByteArray := prog_3_method_15_code
abbrev y_He_makeRoom : MethodName := ⟨R_He, "makeRoom", "(I)Z"⟩
abbrev K_He_makeRoom := CanI y_He_makeRoom b_He_makeRoom 2 ((some .boolean)) 4 0 0
theorem I_He_makeRoom {h : HP} {v1 : Int32} {Φ : Int32 → HP → Prop} (body : ∀ X : CX, Cok X b_He_makeRoom 2 R_He ((some .boolean)) → xR X = rml 4 0 0 → Qok X 0 0 (fun r h2 => ∃ v, r = some (.int v) ∧ Φ v h2) → Wg X 0 0 h [(0, .ref 15), (1, .int v1)] [] 0) : K_He_makeRoom [.ref 15, .int v1] h Φ := Can.intro (by decide) (fun _ => Nat.le_of_ble_eq_true rfl) body
theorem M_He_makeRoom : Mv y_He_makeRoom b_He_makeRoom 2 ((some .boolean)) 1 4 := ⟨wx_in 481 (by decide +kernel) rfl, wx_in 479 (by decide +kernel) rfl, wx_in 480 (by decide +kernel) rfl, wx_in 66 (by decide +kernel) rfl, by decide +kernel, by decide, by decide, _, _, rfl⟩
theorem d_He_makeRoom_0 : decode b_He_makeRoom 0 = .ok (.sipush 400, 3) := by decide +kernel
theorem d_He_makeRoom_3 : decode b_He_makeRoom 3 = .ok (.aload_n 0, 1) := by decide +kernel
theorem d_He_makeRoom_4 : decode b_He_makeRoom 4 = .ok (.getfield 96, 3) := by decide +kernel
theorem d_He_makeRoom_7 : decode b_He_makeRoom 7 = .ok (.isub, 1) := by decide +kernel
theorem d_He_makeRoom_8 : decode b_He_makeRoom 8 = .ok (.iload_n 1, 1) := by decide +kernel
theorem d_He_makeRoom_9 : decode b_He_makeRoom 9 = .ok (.if_icmp .ge 7, 3) := by decide +kernel
theorem d_He_makeRoom_12 : decode b_He_makeRoom 12 = .ok (.aload_n 0, 1) := by decide +kernel
theorem d_He_makeRoom_13 : decode b_He_makeRoom 13 = .ok (.invokevirtual 99, 3) := by decide +kernel
theorem d_He_makeRoom_16 : decode b_He_makeRoom 16 = .ok (.sipush 400, 3) := by decide +kernel
theorem d_He_makeRoom_19 : decode b_He_makeRoom 19 = .ok (.aload_n 0, 1) := by decide +kernel
theorem d_He_makeRoom_20 : decode b_He_makeRoom 20 = .ok (.getfield 96, 3) := by decide +kernel
theorem d_He_makeRoom_23 : decode b_He_makeRoom 23 = .ok (.isub, 1) := by decide +kernel
theorem d_He_makeRoom_24 : decode b_He_makeRoom 24 = .ok (.iload_n 1, 1) := by decide +kernel
theorem d_He_makeRoom_25 : decode b_He_makeRoom 25 = .ok (.if_icmp .lt 7, 3) := by decide +kernel
theorem d_He_makeRoom_28 : decode b_He_makeRoom 28 = .ok (.iconst 1, 1) := by decide +kernel
theorem d_He_makeRoom_29 : decode b_He_makeRoom 29 = .ok (.goto 4, 3) := by decide +kernel
theorem d_He_makeRoom_32 : decode b_He_makeRoom 32 = .ok (.iconst 0, 1) := by decide +kernel
theorem d_He_makeRoom_33 : decode b_He_makeRoom 33 = .ok (.ireturn, 1) := by decide +kernel
/-! He_addTriple: ('CellHeap$Heap', 'addTriple', '(III)I') -/
abbrev b_He_addTriple : ByteArray := prog_3_method_16_code
abbrev y_He_addTriple : MethodName := ⟨R_He, "addTriple", "(III)I"⟩
abbrev K_He_addTriple := CanI y_He_addTriple b_He_addTriple 5 ((some .int)) 1 0 0
theorem I_He_addTriple {h : HP} {v1 : Int32} {v2 : Int32} {v3 : Int32} {Φ : Int32 → HP → Prop} (body : ∀ X : CX, Cok X b_He_addTriple 5 R_He ((some .int)) → xR X = rml 1 0 0 → Qok X 0 0 (fun r h2 => ∃ v, r = some (.int v) ∧ Φ v h2) → Wg X 0 0 h [(0, .ref 15), (1, .int v1), (2, .int v2), (3, .int v3)] [] 0) : K_He_addTriple [.ref 15, .int v1, .int v2, .int v3] h Φ := Can.intro (by decide) (fun _ => Nat.le_of_ble_eq_true rfl) body
theorem M_He_addTriple : Mv y_He_addTriple b_He_addTriple 5 ((some .int)) 3 4 := ⟨wx_in 498 (by decide +kernel) rfl, wx_in 496 (by decide +kernel) rfl, wx_in 497 (by decide +kernel) rfl, wx_in 66 (by decide +kernel) rfl, by decide +kernel, by decide, by decide, _, _, rfl⟩
theorem d_He_addTriple_0 : decode b_He_addTriple 0 = .ok (.aload_n 0, 1) := by decide +kernel
theorem d_He_addTriple_1 : decode b_He_addTriple 1 = .ok (.getfield 96, 3) := by decide +kernel
theorem d_He_addTriple_4 : decode b_He_addTriple 4 = .ok (.istore 4, 2) := by decide +kernel
theorem d_He_addTriple_6 : decode b_He_addTriple 6 = .ok (.aload_n 0, 1) := by decide +kernel
theorem d_He_addTriple_7 : decode b_He_addTriple 7 = .ok (.getfield 9, 3) := by decide +kernel
theorem d_He_addTriple_10 : decode b_He_addTriple 10 = .ok (.iload 4, 2) := by decide +kernel
theorem d_He_addTriple_12 : decode b_He_addTriple 12 = .ok (.bipush 48, 2) := by decide +kernel
theorem d_He_addTriple_14 : decode b_He_addTriple 14 = .ok (.iload_n 1, 1) := by decide +kernel
theorem d_He_addTriple_15 : decode b_He_addTriple 15 = .ok (.ior, 1) := by decide +kernel
theorem d_He_addTriple_16 : decode b_He_addTriple 16 = .ok (.iastore, 1) := by decide +kernel
theorem d_He_addTriple_17 : decode b_He_addTriple 17 = .ok (.aload_n 0, 1) := by decide +kernel
theorem d_He_addTriple_18 : decode b_He_addTriple 18 = .ok (.getfield 9, 3) := by decide +kernel
theorem d_He_addTriple_21 : decode b_He_addTriple 21 = .ok (.iload 4, 2) := by decide +kernel
theorem d_He_addTriple_23 : decode b_He_addTriple 23 = .ok (.iconst 1, 1) := by decide +kernel
theorem d_He_addTriple_24 : decode b_He_addTriple 24 = .ok (.iadd, 1) := by decide +kernel
theorem d_He_addTriple_25 : decode b_He_addTriple 25 = .ok (.iload_n 2, 1) := by decide +kernel
theorem d_He_addTriple_26 : decode b_He_addTriple 26 = .ok (.iastore, 1) := by decide +kernel
theorem d_He_addTriple_27 : decode b_He_addTriple 27 = .ok (.aload_n 0, 1) := by decide +kernel
theorem d_He_addTriple_28 : decode b_He_addTriple 28 = .ok (.getfield 9, 3) := by decide +kernel
theorem d_He_addTriple_31 : decode b_He_addTriple 31 = .ok (.iload 4, 2) := by decide +kernel
theorem d_He_addTriple_33 : decode b_He_addTriple 33 = .ok (.iconst 2, 1) := by decide +kernel
theorem d_He_addTriple_34 : decode b_He_addTriple 34 = .ok (.iadd, 1) := by decide +kernel
theorem d_He_addTriple_35 : decode b_He_addTriple 35 = .ok (.iload_n 3, 1) := by decide +kernel
theorem d_He_addTriple_36 : decode b_He_addTriple 36 = .ok (.iastore, 1) := by decide +kernel
theorem d_He_addTriple_37 : decode b_He_addTriple 37 = .ok (.aload_n 0, 1) := by decide +kernel
theorem d_He_addTriple_38 : decode b_He_addTriple 38 = .ok (.dup, 1) := by decide +kernel
theorem d_He_addTriple_39 : decode b_He_addTriple 39 = .ok (.getfield 96, 3) := by decide +kernel
theorem d_He_addTriple_42 : decode b_He_addTriple 42 = .ok (.iconst 3, 1) := by decide +kernel
theorem d_He_addTriple_43 : decode b_He_addTriple 43 = .ok (.iadd, 1) := by decide +kernel
theorem d_He_addTriple_44 : decode b_He_addTriple 44 = .ok (.putfield 96, 3) := by decide +kernel
theorem d_He_addTriple_47 : decode b_He_addTriple 47 = .ok (.iload 4, 2) := by decide +kernel
theorem d_He_addTriple_49 : decode b_He_addTriple 49 = .ok (.invokestatic 102, 3) := by decide +kernel
theorem d_He_addTriple_52 : decode b_He_addTriple 52 = .ok (.ireturn, 1) := by decide +kernel
/-! He_addWhole: ('CellHeap$Heap', 'addWhole', '(LCellHeap$Whole;)I') -/
abbrev b_He_addWhole : ByteArray := prog_3_method_17_code
abbrev y_He_addWhole : MethodName := ⟨R_He, "addWhole", "(LCellHeap$Whole;)I"⟩
abbrev K_He_addWhole := CanI y_He_addWhole b_He_addWhole 4 ((some .int)) 2 0 0
theorem I_He_addWhole {h : HP} {p1 : Nat} {Φ : Int32 → HP → Prop} (body : ∀ X : CX, Cok X b_He_addWhole 4 R_He ((some .int)) → xR X = rml 2 0 0 → Qok X 0 0 (fun r h2 => ∃ v, r = some (.int v) ∧ Φ v h2) → Wg X 0 0 h [(0, .ref 15), (1, .ref p1)] [] 0) : K_He_addWhole [.ref 15, .ref p1] h Φ := Can.intro (by decide) (fun _ => Nat.le_of_ble_eq_true rfl) body
theorem M_He_addWhole : Mv y_He_addWhole b_He_addWhole 4 ((some .int)) 1 4 := ⟨wx_in 490 (by decide +kernel) rfl, wx_in 489 (by decide +kernel) rfl, wx_in 7 (by decide +kernel) rfl, wx_in 66 (by decide +kernel) rfl, by decide +kernel, by decide, by decide, _, _, rfl⟩
theorem d_He_addWhole_0 : decode b_He_addWhole 0 = .ok (.aload_n 1, 1) := by decide +kernel
theorem d_He_addWhole_1 : decode b_He_addWhole 1 = .ok (.invokevirtual 28, 3) := by decide +kernel
theorem d_He_addWhole_4 : decode b_He_addWhole 4 = .ok (.ifCond .eq 12, 3) := by decide +kernel
theorem d_He_addWhole_7 : decode b_He_addWhole 7 = .ok (.aload_n 1, 1) := by decide +kernel
theorem d_He_addWhole_8 : decode b_He_addWhole 8 = .ok (.invokevirtual 105, 3) := by decide +kernel
theorem d_He_addWhole_11 : decode b_He_addWhole 11 = .ok (.iconst 1, 1) := by decide +kernel
theorem d_He_addWhole_12 : decode b_He_addWhole 12 = .ok (.ishl, 1) := by decide +kernel
theorem d_He_addWhole_13 : decode b_He_addWhole 13 = .ok (.iconst 1, 1) := by decide +kernel
theorem d_He_addWhole_14 : decode b_He_addWhole 14 = .ok (.ior, 1) := by decide +kernel
theorem d_He_addWhole_15 : decode b_He_addWhole 15 = .ok (.ireturn, 1) := by decide +kernel
theorem d_He_addWhole_16 : decode b_He_addWhole 16 = .ok (.aload_n 0, 1) := by decide +kernel
theorem d_He_addWhole_17 : decode b_He_addWhole 17 = .ok (.getfield 96, 3) := by decide +kernel
theorem d_He_addWhole_20 : decode b_He_addWhole 20 = .ok (.istore_n 2, 1) := by decide +kernel
theorem d_He_addWhole_21 : decode b_He_addWhole 21 = .ok (.iconst 1, 1) := by decide +kernel
theorem d_He_addWhole_22 : decode b_He_addWhole 22 = .ok (.aload_n 1, 1) := by decide +kernel
theorem d_He_addWhole_23 : decode b_He_addWhole 23 = .ok (.getfield 34, 3) := by decide +kernel
theorem d_He_addWhole_26 : decode b_He_addWhole 26 = .ok (.iadd, 1) := by decide +kernel
theorem d_He_addWhole_27 : decode b_He_addWhole 27 = .ok (.istore_n 3, 1) := by decide +kernel
theorem d_He_addWhole_28 : decode b_He_addWhole 28 = .ok (.aload_n 0, 1) := by decide +kernel
theorem d_He_addWhole_29 : decode b_He_addWhole 29 = .ok (.getfield 9, 3) := by decide +kernel
theorem d_He_addWhole_32 : decode b_He_addWhole 32 = .ok (.iload_n 2, 1) := by decide +kernel
theorem d_He_addWhole_33 : decode b_He_addWhole 33 = .ok (.iload_n 3, 1) := by decide +kernel
theorem d_He_addWhole_34 : decode b_He_addWhole 34 = .ok (.iconst 4, 1) := by decide +kernel
theorem d_He_addWhole_35 : decode b_He_addWhole 35 = .ok (.ishl, 1) := by decide +kernel
theorem d_He_addWhole_36 : decode b_He_addWhole 36 = .ok (.aload_n 1, 1) := by decide +kernel
theorem d_He_addWhole_37 : decode b_He_addWhole 37 = .ok (.getfield 82, 3) := by decide +kernel
theorem d_He_addWhole_40 : decode b_He_addWhole 40 = .ok (.ifCond .eq 8, 3) := by decide +kernel
theorem d_He_addWhole_43 : decode b_He_addWhole 43 = .ok (.bipush 8, 2) := by decide +kernel
theorem d_He_addWhole_45 : decode b_He_addWhole 45 = .ok (.goto 4, 3) := by decide +kernel
theorem d_He_addWhole_48 : decode b_He_addWhole 48 = .ok (.iconst 0, 1) := by decide +kernel
theorem d_He_addWhole_49 : decode b_He_addWhole 49 = .ok (.ior, 1) := by decide +kernel
theorem d_He_addWhole_50 : decode b_He_addWhole 50 = .ok (.iconst 2, 1) := by decide +kernel
theorem d_He_addWhole_51 : decode b_He_addWhole 51 = .ok (.ior, 1) := by decide +kernel
theorem d_He_addWhole_52 : decode b_He_addWhole 52 = .ok (.iastore, 1) := by decide +kernel
theorem d_He_addWhole_53 : decode b_He_addWhole 53 = .ok (.aload_n 1, 1) := by decide +kernel
theorem d_He_addWhole_54 : decode b_He_addWhole 54 = .ok (.getfield 109, 3) := by decide +kernel
theorem d_He_addWhole_57 : decode b_He_addWhole 57 = .ok (.iconst 0, 1) := by decide +kernel
theorem d_He_addWhole_58 : decode b_He_addWhole 58 = .ok (.aload_n 0, 1) := by decide +kernel
theorem d_He_addWhole_59 : decode b_He_addWhole 59 = .ok (.getfield 9, 3) := by decide +kernel
theorem d_He_addWhole_62 : decode b_He_addWhole 62 = .ok (.iload_n 2, 1) := by decide +kernel
theorem d_He_addWhole_63 : decode b_He_addWhole 63 = .ok (.iconst 1, 1) := by decide +kernel
theorem d_He_addWhole_64 : decode b_He_addWhole 64 = .ok (.iadd, 1) := by decide +kernel
theorem d_He_addWhole_65 : decode b_He_addWhole 65 = .ok (.aload_n 1, 1) := by decide +kernel
theorem d_He_addWhole_66 : decode b_He_addWhole 66 = .ok (.getfield 34, 3) := by decide +kernel
theorem d_He_addWhole_69 : decode b_He_addWhole 69 = .ok (.invokestatic 112, 3) := by decide +kernel
theorem d_He_addWhole_72 : decode b_He_addWhole 72 = .ok (.aload_n 0, 1) := by decide +kernel
theorem d_He_addWhole_73 : decode b_He_addWhole 73 = .ok (.dup, 1) := by decide +kernel
theorem d_He_addWhole_74 : decode b_He_addWhole 74 = .ok (.getfield 96, 3) := by decide +kernel
theorem d_He_addWhole_77 : decode b_He_addWhole 77 = .ok (.iload_n 3, 1) := by decide +kernel
theorem d_He_addWhole_78 : decode b_He_addWhole 78 = .ok (.iadd, 1) := by decide +kernel
theorem d_He_addWhole_79 : decode b_He_addWhole 79 = .ok (.putfield 96, 3) := by decide +kernel
theorem d_He_addWhole_82 : decode b_He_addWhole 82 = .ok (.iload_n 2, 1) := by decide +kernel
theorem d_He_addWhole_83 : decode b_He_addWhole 83 = .ok (.invokestatic 102, 3) := by decide +kernel
theorem d_He_addWhole_86 : decode b_He_addWhole 86 = .ok (.ireturn, 1) := by decide +kernel
/-! He_addNumber: ('CellHeap$Heap', 'addNumber', '(LCellHeap$Ratio;)I') -/
abbrev b_He_addNumber : ByteArray := prog_3_method_18_code
abbrev y_He_addNumber : MethodName := ⟨R_He, "addNumber", "(LCellHeap$Ratio;)I"⟩
abbrev K_He_addNumber := CanI y_He_addNumber b_He_addNumber 4 ((some .int)) 3 0 0
theorem I_He_addNumber {h : HP} {p1 : Nat} {Φ : Int32 → HP → Prop} (body : ∀ X : CX, Cok X b_He_addNumber 4 R_He ((some .int)) → xR X = rml 3 0 0 → Qok X 0 0 (fun r h2 => ∃ v, r = some (.int v) ∧ Φ v h2) → Wg X 0 0 h [(0, .ref 15), (1, .ref p1)] [] 0) : K_He_addNumber [.ref 15, .ref p1] h Φ := Can.intro (by decide) (fun _ => Nat.le_of_ble_eq_true rfl) body
theorem M_He_addNumber : Mv y_He_addNumber b_He_addNumber 4 ((some .int)) 1 4 := ⟨wx_in 486 (by decide +kernel) rfl, wx_in 484 (by decide +kernel) rfl, wx_in 485 (by decide +kernel) rfl, wx_in 66 (by decide +kernel) rfl, by decide +kernel, by decide, by decide, _, _, rfl⟩
theorem d_He_addNumber_0 : decode b_He_addNumber 0 = .ok (.aload_n 0, 1) := by decide +kernel
theorem d_He_addNumber_1 : decode b_He_addNumber 1 = .ok (.aload_n 1, 1) := by decide +kernel
theorem d_He_addNumber_2 : decode b_He_addNumber 2 = .ok (.getfield 38, 3) := by decide +kernel
theorem d_He_addNumber_5 : decode b_He_addNumber 5 = .ok (.invokevirtual 118, 3) := by decide +kernel
theorem d_He_addNumber_8 : decode b_He_addNumber 8 = .ok (.istore_n 2, 1) := by decide +kernel
theorem d_He_addNumber_9 : decode b_He_addNumber 9 = .ok (.aload_n 1, 1) := by decide +kernel
theorem d_He_addNumber_10 : decode b_He_addNumber 10 = .ok (.invokevirtual 48, 3) := by decide +kernel
theorem d_He_addNumber_13 : decode b_He_addNumber 13 = .ok (.ifCond .eq 5, 3) := by decide +kernel
theorem d_He_addNumber_16 : decode b_He_addNumber 16 = .ok (.iload_n 2, 1) := by decide +kernel
theorem d_He_addNumber_17 : decode b_He_addNumber 17 = .ok (.ireturn, 1) := by decide +kernel
theorem d_He_addNumber_18 : decode b_He_addNumber 18 = .ok (.aload_n 0, 1) := by decide +kernel
theorem d_He_addNumber_19 : decode b_He_addNumber 19 = .ok (.aload_n 1, 1) := by decide +kernel
theorem d_He_addNumber_20 : decode b_He_addNumber 20 = .ok (.getfield 51, 3) := by decide +kernel
theorem d_He_addNumber_23 : decode b_He_addNumber 23 = .ok (.invokevirtual 118, 3) := by decide +kernel
theorem d_He_addNumber_26 : decode b_He_addNumber 26 = .ok (.istore_n 3, 1) := by decide +kernel
theorem d_He_addNumber_27 : decode b_He_addNumber 27 = .ok (.aload_n 0, 1) := by decide +kernel
theorem d_He_addNumber_28 : decode b_He_addNumber 28 = .ok (.iconst 3, 1) := by decide +kernel
theorem d_He_addNumber_29 : decode b_He_addNumber 29 = .ok (.iload_n 2, 1) := by decide +kernel
theorem d_He_addNumber_30 : decode b_He_addNumber 30 = .ok (.iload_n 3, 1) := by decide +kernel
theorem d_He_addNumber_31 : decode b_He_addNumber 31 = .ok (.invokevirtual 121, 3) := by decide +kernel
theorem d_He_addNumber_34 : decode b_He_addNumber 34 = .ok (.ireturn, 1) := by decide +kernel
/-! He_objectsBelowTop: ('CellHeap$Heap', 'objectsBelowTop', '()I') -/
abbrev b_He_objectsBelowTop : ByteArray := prog_3_method_19_code
abbrev y_He_objectsBelowTop : MethodName := ⟨R_He, "objectsBelowTop", "()I"⟩
abbrev K_He_objectsBelowTop := CanI y_He_objectsBelowTop b_He_objectsBelowTop 3 ((some .int)) 1 0 0
theorem I_He_objectsBelowTop {h : HP}  {Φ : Int32 → HP → Prop} (body : ∀ X : CX, Cok X b_He_objectsBelowTop 3 R_He ((some .int)) → xR X = rml 1 0 0 → Qok X 0 0 (fun r h2 => ∃ v, r = some (.int v) ∧ Φ v h2) → Wg X 0 0 h [(0, .ref 15)] [] 0) : K_He_objectsBelowTop [.ref 15] h Φ := Can.intro (by decide) (fun _ => Nat.le_of_ble_eq_true rfl) body
theorem M_He_objectsBelowTop : Mv y_He_objectsBelowTop b_He_objectsBelowTop 3 ((some .int)) 0 4 := ⟨wx_in 1075 (by decide +kernel) rfl, wx_in 1073 (by decide +kernel) rfl, wx_in 1074 (by decide +kernel) rfl, wx_in 66 (by decide +kernel) rfl, by decide +kernel, by decide, by decide, _, _, rfl⟩
theorem d_He_objectsBelowTop_0 : decode b_He_objectsBelowTop 0 = .ok (.iconst 0, 1) := by decide +kernel
theorem d_He_objectsBelowTop_1 : decode b_He_objectsBelowTop 1 = .ok (.istore_n 1, 1) := by decide +kernel
theorem d_He_objectsBelowTop_2 : decode b_He_objectsBelowTop 2 = .ok (.iconst 0, 1) := by decide +kernel
theorem d_He_objectsBelowTop_3 : decode b_He_objectsBelowTop 3 = .ok (.istore_n 2, 1) := by decide +kernel
theorem d_He_objectsBelowTop_4 : decode b_He_objectsBelowTop 4 = .ok (.iload_n 2, 1) := by decide +kernel
theorem d_He_objectsBelowTop_5 : decode b_He_objectsBelowTop 5 = .ok (.aload_n 0, 1) := by decide +kernel
theorem d_He_objectsBelowTop_6 : decode b_He_objectsBelowTop 6 = .ok (.getfield 96, 3) := by decide +kernel
theorem d_He_objectsBelowTop_9 : decode b_He_objectsBelowTop 9 = .ok (.if_icmp .ge 24, 3) := by decide +kernel
theorem d_He_objectsBelowTop_12 : decode b_He_objectsBelowTop 12 = .ok (.iload_n 1, 1) := by decide +kernel
theorem d_He_objectsBelowTop_13 : decode b_He_objectsBelowTop 13 = .ok (.sipush 400, 3) := by decide +kernel
theorem d_He_objectsBelowTop_16 : decode b_He_objectsBelowTop 16 = .ok (.if_icmp .ge 17, 3) := by decide +kernel
theorem d_He_objectsBelowTop_19 : decode b_He_objectsBelowTop 19 = .ok (.iload_n 2, 1) := by decide +kernel
theorem d_He_objectsBelowTop_20 : decode b_He_objectsBelowTop 20 = .ok (.aload_n 0, 1) := by decide +kernel
theorem d_He_objectsBelowTop_21 : decode b_He_objectsBelowTop 21 = .ok (.iload_n 2, 1) := by decide +kernel
theorem d_He_objectsBelowTop_22 : decode b_He_objectsBelowTop 22 = .ok (.invokevirtual 75, 3) := by decide +kernel
theorem d_He_objectsBelowTop_25 : decode b_He_objectsBelowTop 25 = .ok (.iadd, 1) := by decide +kernel
theorem d_He_objectsBelowTop_26 : decode b_He_objectsBelowTop 26 = .ok (.istore_n 2, 1) := by decide +kernel
theorem d_He_objectsBelowTop_27 : decode b_He_objectsBelowTop 27 = .ok (.iinc 1 1, 3) := by decide +kernel
theorem d_He_objectsBelowTop_30 : decode b_He_objectsBelowTop 30 = .ok (.goto (-26), 3) := by decide +kernel
theorem d_He_objectsBelowTop_33 : decode b_He_objectsBelowTop 33 = .ok (.iload_n 1, 1) := by decide +kernel
theorem d_He_objectsBelowTop_34 : decode b_He_objectsBelowTop 34 = .ok (.ireturn, 1) := by decide +kernel
/-! Li_charactersIn: ('CellHeap$Line', 'charactersIn', '(I)I') -/
abbrev b_Li_charactersIn : ByteArray := prog_4_method_2_code
abbrev y_Li_charactersIn : MethodName := ⟨R_Li, "charactersIn", "(I)I"⟩
abbrev K_Li_charactersIn := CanI y_Li_charactersIn b_Li_charactersIn 3 ((some .int)) 0 0 0
theorem I_Li_charactersIn {h : HP} {v0 : Int32} {Φ : Int32 → HP → Prop} (body : ∀ X : CX, Cok X b_Li_charactersIn 3 R_Li ((some .int)) → xR X = rml 0 0 0 → Qok X 0 0 (fun r h2 => ∃ v, r = some (.int v) ∧ Φ v h2) → Wg X 0 0 h [(0, .int v0)] [] 0) : K_Li_charactersIn [.int v0] h Φ := Can.intro (by decide) (fun _ => Nat.le_of_ble_eq_true rfl) body
theorem M_Li_charactersIn : Ms y_Li_charactersIn b_Li_charactersIn 3 ((some .int)) 1 := ⟨wx_in 964 (by decide +kernel) rfl, wx_in 963 (by decide +kernel) rfl, wx_in 67 (by decide +kernel) rfl, by decide +kernel, by decide⟩
theorem d_Li_charactersIn_0 : decode b_Li_charactersIn 0 = .ok (.iconst 0, 1) := by decide +kernel
theorem d_Li_charactersIn_1 : decode b_Li_charactersIn 1 = .ok (.istore_n 1, 1) := by decide +kernel
theorem d_Li_charactersIn_2 : decode b_Li_charactersIn 2 = .ok (.bipush 24, 2) := by decide +kernel
theorem d_Li_charactersIn_4 : decode b_Li_charactersIn 4 = .ok (.istore_n 2, 1) := by decide +kernel
theorem d_Li_charactersIn_5 : decode b_Li_charactersIn 5 = .ok (.iload_n 2, 1) := by decide +kernel
theorem d_Li_charactersIn_6 : decode b_Li_charactersIn 6 = .ok (.ifCond .lt 22, 3) := by decide +kernel
theorem d_Li_charactersIn_9 : decode b_Li_charactersIn 9 = .ok (.iload_n 0, 1) := by decide +kernel
theorem d_Li_charactersIn_10 : decode b_Li_charactersIn 10 = .ok (.iload_n 2, 1) := by decide +kernel
theorem d_Li_charactersIn_11 : decode b_Li_charactersIn 11 = .ok (.iushr, 1) := by decide +kernel
theorem d_Li_charactersIn_12 : decode b_Li_charactersIn 12 = .ok (.sipush 255, 3) := by decide +kernel
theorem d_Li_charactersIn_15 : decode b_Li_charactersIn 15 = .ok (.iand, 1) := by decide +kernel
theorem d_Li_charactersIn_16 : decode b_Li_charactersIn 16 = .ok (.ifCond .eq 6, 3) := by decide +kernel
theorem d_Li_charactersIn_19 : decode b_Li_charactersIn 19 = .ok (.iinc 1 1, 3) := by decide +kernel
theorem d_Li_charactersIn_22 : decode b_Li_charactersIn 22 = .ok (.iinc 2 (-8), 3) := by decide +kernel
theorem d_Li_charactersIn_25 : decode b_Li_charactersIn 25 = .ok (.goto (-20), 3) := by decide +kernel
theorem d_Li_charactersIn_28 : decode b_Li_charactersIn 28 = .ok (.iload_n 1, 1) := by decide +kernel
theorem d_Li_charactersIn_29 : decode b_Li_charactersIn 29 = .ok (.ireturn, 1) := by decide +kernel
/-! Li_addFour: ('CellHeap$Line', 'addFour', '(I)V') -/
abbrev b_Li_addFour : ByteArray := prog_4_method_3_code
abbrev y_Li_addFour : MethodName := ⟨R_Li, "addFour", "(I)V"⟩
abbrev K_Li_addFour := CanV y_Li_addFour b_Li_addFour 4 none 0 0 0
theorem I_Li_addFour {h : HP} {v1 : Int32} {Φ : HP → Prop} (body : ∀ X : CX, Cok X b_Li_addFour 4 R_Li none → xR X = rml 0 0 0 → Qok X 0 0 (fun r h2 => r = none ∧ Φ h2) → Wg X 0 0 h [(0, .ref 21), (1, .int v1)] [] 0) : K_Li_addFour [.ref 21, .int v1] h Φ := Can.intro (by decide) (fun _ => Nat.le_of_ble_eq_true rfl) body
theorem M_Li_addFour : Mv y_Li_addFour b_Li_addFour 4 none 1 5 := ⟨wx_in 983 (by decide +kernel) rfl, wx_in 981 (by decide +kernel) rfl, wx_in 982 (by decide +kernel) rfl, wx_in 67 (by decide +kernel) rfl, by decide +kernel, by decide, by decide, _, _, rfl⟩
theorem d_Li_addFour_0 : decode b_Li_addFour 0 = .ok (.bipush 24, 2) := by decide +kernel
theorem d_Li_addFour_2 : decode b_Li_addFour 2 = .ok (.istore_n 2, 1) := by decide +kernel
theorem d_Li_addFour_3 : decode b_Li_addFour 3 = .ok (.iload_n 2, 1) := by decide +kernel
theorem d_Li_addFour_4 : decode b_Li_addFour 4 = .ok (.ifCond .lt 52, 3) := by decide +kernel
theorem d_Li_addFour_7 : decode b_Li_addFour 7 = .ok (.iload_n 1, 1) := by decide +kernel
theorem d_Li_addFour_8 : decode b_Li_addFour 8 = .ok (.iload_n 2, 1) := by decide +kernel
theorem d_Li_addFour_9 : decode b_Li_addFour 9 = .ok (.iushr, 1) := by decide +kernel
theorem d_Li_addFour_10 : decode b_Li_addFour 10 = .ok (.sipush 255, 3) := by decide +kernel
theorem d_Li_addFour_13 : decode b_Li_addFour 13 = .ok (.iand, 1) := by decide +kernel
theorem d_Li_addFour_14 : decode b_Li_addFour 14 = .ok (.istore_n 3, 1) := by decide +kernel
theorem d_Li_addFour_15 : decode b_Li_addFour 15 = .ok (.iload_n 3, 1) := by decide +kernel
theorem d_Li_addFour_16 : decode b_Li_addFour 16 = .ok (.ifCond .eq 34, 3) := by decide +kernel
theorem d_Li_addFour_19 : decode b_Li_addFour 19 = .ok (.aload_n 0, 1) := by decide +kernel
theorem d_Li_addFour_20 : decode b_Li_addFour 20 = .ok (.getfield 15, 3) := by decide +kernel
theorem d_Li_addFour_23 : decode b_Li_addFour 23 = .ok (.sipush 200, 3) := by decide +kernel
theorem d_Li_addFour_26 : decode b_Li_addFour 26 = .ok (.if_icmp .ge 24, 3) := by decide +kernel
theorem d_Li_addFour_29 : decode b_Li_addFour 29 = .ok (.aload_n 0, 1) := by decide +kernel
theorem d_Li_addFour_30 : decode b_Li_addFour 30 = .ok (.getfield 9, 3) := by decide +kernel
theorem d_Li_addFour_33 : decode b_Li_addFour 33 = .ok (.aload_n 0, 1) := by decide +kernel
theorem d_Li_addFour_34 : decode b_Li_addFour 34 = .ok (.getfield 15, 3) := by decide +kernel
theorem d_Li_addFour_37 : decode b_Li_addFour 37 = .ok (.iload_n 3, 1) := by decide +kernel
theorem d_Li_addFour_38 : decode b_Li_addFour 38 = .ok (.i2c, 1) := by decide +kernel
theorem d_Li_addFour_39 : decode b_Li_addFour 39 = .ok (.castore, 1) := by decide +kernel
theorem d_Li_addFour_40 : decode b_Li_addFour 40 = .ok (.aload_n 0, 1) := by decide +kernel
theorem d_Li_addFour_41 : decode b_Li_addFour 41 = .ok (.dup, 1) := by decide +kernel
theorem d_Li_addFour_42 : decode b_Li_addFour 42 = .ok (.getfield 15, 3) := by decide +kernel
theorem d_Li_addFour_45 : decode b_Li_addFour 45 = .ok (.iconst 1, 1) := by decide +kernel
theorem d_Li_addFour_46 : decode b_Li_addFour 46 = .ok (.iadd, 1) := by decide +kernel
theorem d_Li_addFour_47 : decode b_Li_addFour 47 = .ok (.putfield 15, 3) := by decide +kernel
theorem d_Li_addFour_50 : decode b_Li_addFour 50 = .ok (.iinc 2 (-8), 3) := by decide +kernel
theorem d_Li_addFour_53 : decode b_Li_addFour 53 = .ok (.goto (-50), 3) := by decide +kernel
theorem d_Li_addFour_56 : decode b_Li_addFour 56 = .ok (.return_, 1) := by decide +kernel
/-! Li_stands: ('CellHeap$Line', 'stands', '(CI)Z') -/
abbrev b_Li_stands : ByteArray := prog_4_method_5_code
abbrev y_Li_stands : MethodName := ⟨R_Li, "stands", "(CI)Z"⟩
abbrev K_Li_stands := CanI y_Li_stands b_Li_stands 3 ((some .boolean)) 0 0 0
theorem I_Li_stands {h : HP} {v1 : Int32} {v2 : Int32} {Φ : Int32 → HP → Prop} (body : ∀ X : CX, Cok X b_Li_stands 3 R_Li ((some .boolean)) → xR X = rml 0 0 0 → Qok X 0 0 (fun r h2 => ∃ v, r = some (.int v) ∧ Φ v h2) → Wg X 0 0 h [(0, .ref 21), (1, .int v1), (2, .int v2)] [] 0) : K_Li_stands [.ref 21, .int v1, .int v2] h Φ := Can.intro (by decide) (fun _ => Nat.le_of_ble_eq_true rfl) body
theorem M_Li_stands : Mv y_Li_stands b_Li_stands 3 ((some .boolean)) 2 5 := ⟨wx_in 998 (by decide +kernel) rfl, wx_in 997 (by decide +kernel) rfl, wx_in 16 (by decide +kernel) rfl, wx_in 67 (by decide +kernel) rfl, by decide +kernel, by decide, by decide, _, _, rfl⟩
theorem d_Li_stands_0 : decode b_Li_stands 0 = .ok (.iload_n 2, 1) := by decide +kernel
theorem d_Li_stands_1 : decode b_Li_stands 1 = .ok (.aload_n 0, 1) := by decide +kernel
theorem d_Li_stands_2 : decode b_Li_stands 2 = .ok (.getfield 15, 3) := by decide +kernel
theorem d_Li_stands_5 : decode b_Li_stands 5 = .ok (.if_icmp .ge 17, 3) := by decide +kernel
theorem d_Li_stands_8 : decode b_Li_stands 8 = .ok (.aload_n 0, 1) := by decide +kernel
theorem d_Li_stands_9 : decode b_Li_stands 9 = .ok (.getfield 9, 3) := by decide +kernel
theorem d_Li_stands_12 : decode b_Li_stands 12 = .ok (.iload_n 2, 1) := by decide +kernel
theorem d_Li_stands_13 : decode b_Li_stands 13 = .ok (.caload, 1) := by decide +kernel
theorem d_Li_stands_14 : decode b_Li_stands 14 = .ok (.iload_n 1, 1) := by decide +kernel
theorem d_Li_stands_15 : decode b_Li_stands 15 = .ok (.if_icmp .ne 7, 3) := by decide +kernel
theorem d_Li_stands_18 : decode b_Li_stands 18 = .ok (.iconst 1, 1) := by decide +kernel
theorem d_Li_stands_19 : decode b_Li_stands 19 = .ok (.goto 4, 3) := by decide +kernel
theorem d_Li_stands_22 : decode b_Li_stands 22 = .ok (.iconst 0, 1) := by decide +kernel
theorem d_Li_stands_23 : decode b_Li_stands 23 = .ok (.ireturn, 1) := by decide +kernel
/-! Li_endOfDigits: ('CellHeap$Line', 'endOfDigits', '(I)I') -/
abbrev b_Li_endOfDigits : ByteArray := prog_4_method_6_code
abbrev y_Li_endOfDigits : MethodName := ⟨R_Li, "endOfDigits", "(I)I"⟩
abbrev K_Li_endOfDigits := CanI y_Li_endOfDigits b_Li_endOfDigits 3 ((some .int)) 0 0 0
theorem I_Li_endOfDigits {h : HP} {v1 : Int32} {Φ : Int32 → HP → Prop} (body : ∀ X : CX, Cok X b_Li_endOfDigits 3 R_Li ((some .int)) → xR X = rml 0 0 0 → Qok X 0 0 (fun r h2 => ∃ v, r = some (.int v) ∧ Φ v h2) → Wg X 0 0 h [(0, .ref 21), (1, .int v1)] [] 0) : K_Li_endOfDigits [.ref 21, .int v1] h Φ := Can.intro (by decide) (fun _ => Nat.le_of_ble_eq_true rfl) body
theorem M_Li_endOfDigits : Mv y_Li_endOfDigits b_Li_endOfDigits 3 ((some .int)) 1 5 := ⟨wx_in 1002 (by decide +kernel) rfl, wx_in 1001 (by decide +kernel) rfl, wx_in 17 (by decide +kernel) rfl, wx_in 67 (by decide +kernel) rfl, by decide +kernel, by decide, by decide, _, _, rfl⟩
theorem d_Li_endOfDigits_0 : decode b_Li_endOfDigits 0 = .ok (.iload_n 1, 1) := by decide +kernel
theorem d_Li_endOfDigits_1 : decode b_Li_endOfDigits 1 = .ok (.istore_n 2, 1) := by decide +kernel
theorem d_Li_endOfDigits_2 : decode b_Li_endOfDigits 2 = .ok (.iload_n 2, 1) := by decide +kernel
theorem d_Li_endOfDigits_3 : decode b_Li_endOfDigits 3 = .ok (.aload_n 0, 1) := by decide +kernel
theorem d_Li_endOfDigits_4 : decode b_Li_endOfDigits 4 = .ok (.getfield 15, 3) := by decide +kernel
theorem d_Li_endOfDigits_7 : decode b_Li_endOfDigits 7 = .ok (.if_icmp .ge 31, 3) := by decide +kernel
theorem d_Li_endOfDigits_10 : decode b_Li_endOfDigits 10 = .ok (.aload_n 0, 1) := by decide +kernel
theorem d_Li_endOfDigits_11 : decode b_Li_endOfDigits 11 = .ok (.getfield 9, 3) := by decide +kernel
theorem d_Li_endOfDigits_14 : decode b_Li_endOfDigits 14 = .ok (.iload_n 2, 1) := by decide +kernel
theorem d_Li_endOfDigits_15 : decode b_Li_endOfDigits 15 = .ok (.caload, 1) := by decide +kernel
theorem d_Li_endOfDigits_16 : decode b_Li_endOfDigits 16 = .ok (.bipush 48, 2) := by decide +kernel
theorem d_Li_endOfDigits_18 : decode b_Li_endOfDigits 18 = .ok (.if_icmp .lt 20, 3) := by decide +kernel
theorem d_Li_endOfDigits_21 : decode b_Li_endOfDigits 21 = .ok (.aload_n 0, 1) := by decide +kernel
theorem d_Li_endOfDigits_22 : decode b_Li_endOfDigits 22 = .ok (.getfield 9, 3) := by decide +kernel
theorem d_Li_endOfDigits_25 : decode b_Li_endOfDigits 25 = .ok (.iload_n 2, 1) := by decide +kernel
theorem d_Li_endOfDigits_26 : decode b_Li_endOfDigits 26 = .ok (.caload, 1) := by decide +kernel
theorem d_Li_endOfDigits_27 : decode b_Li_endOfDigits 27 = .ok (.bipush 57, 2) := by decide +kernel
theorem d_Li_endOfDigits_29 : decode b_Li_endOfDigits 29 = .ok (.if_icmp .gt 9, 3) := by decide +kernel
theorem d_Li_endOfDigits_32 : decode b_Li_endOfDigits 32 = .ok (.iinc 2 1, 3) := by decide +kernel
theorem d_Li_endOfDigits_35 : decode b_Li_endOfDigits 35 = .ok (.goto (-33), 3) := by decide +kernel
theorem d_Li_endOfDigits_38 : decode b_Li_endOfDigits 38 = .ok (.iload_n 2, 1) := by decide +kernel
theorem d_Li_endOfDigits_39 : decode b_Li_endOfDigits 39 = .ok (.ireturn, 1) := by decide +kernel
/-! Li_takeDigits: ('CellHeap$Line', 'takeDigits', '(IILCellHeap$Whole;)V') -/
abbrev b_Li_takeDigits : ByteArray := prog_4_method_7_code
abbrev y_Li_takeDigits : MethodName := ⟨R_Li, "takeDigits", "(IILCellHeap$Whole;)V"⟩
abbrev K_Li_takeDigits := CanV y_Li_takeDigits b_Li_takeDigits 5 none 2 0 0
theorem I_Li_takeDigits {h : HP} {v1 : Int32} {v2 : Int32} {p3 : Nat} {Φ : HP → Prop} (body : ∀ X : CX, Cok X b_Li_takeDigits 5 R_Li none → xR X = rml 2 0 0 → Qok X 0 0 (fun r h2 => r = none ∧ Φ h2) → Wg X 0 0 h [(0, .ref 21), (1, .int v1), (2, .int v2), (3, .ref p3)] [] 0) : K_Li_takeDigits [.ref 21, .int v1, .int v2, .ref p3] h Φ := Can.intro (by decide) (fun _ => Nat.le_of_ble_eq_true rfl) body
theorem M_Li_takeDigits : Mv y_Li_takeDigits b_Li_takeDigits 5 none 3 5 := ⟨wx_in 1006 (by decide +kernel) rfl, wx_in 1005 (by decide +kernel) rfl, wx_in 18 (by decide +kernel) rfl, wx_in 67 (by decide +kernel) rfl, by decide +kernel, by decide, by decide, _, _, rfl⟩
theorem d_Li_takeDigits_0 : decode b_Li_takeDigits 0 = .ok (.aload_n 3, 1) := by decide +kernel
theorem d_Li_takeDigits_1 : decode b_Li_takeDigits 1 = .ok (.lconst 0, 1) := by decide +kernel
theorem d_Li_takeDigits_2 : decode b_Li_takeDigits 2 = .ok (.invokevirtual 45, 3) := by decide +kernel
theorem d_Li_takeDigits_5 : decode b_Li_takeDigits 5 = .ok (.iload_n 1, 1) := by decide +kernel
theorem d_Li_takeDigits_6 : decode b_Li_takeDigits 6 = .ok (.istore 4, 2) := by decide +kernel
theorem d_Li_takeDigits_8 : decode b_Li_takeDigits 8 = .ok (.iload 4, 2) := by decide +kernel
theorem d_Li_takeDigits_10 : decode b_Li_takeDigits 10 = .ok (.iload_n 2, 1) := by decide +kernel
theorem d_Li_takeDigits_11 : decode b_Li_takeDigits 11 = .ok (.if_icmp .ge 23, 3) := by decide +kernel
theorem d_Li_takeDigits_14 : decode b_Li_takeDigits 14 = .ok (.aload_n 3, 1) := by decide +kernel
theorem d_Li_takeDigits_15 : decode b_Li_takeDigits 15 = .ok (.aload_n 0, 1) := by decide +kernel
theorem d_Li_takeDigits_16 : decode b_Li_takeDigits 16 = .ok (.getfield 9, 3) := by decide +kernel
theorem d_Li_takeDigits_19 : decode b_Li_takeDigits 19 = .ok (.iload 4, 2) := by decide +kernel
theorem d_Li_takeDigits_21 : decode b_Li_takeDigits 21 = .ok (.caload, 1) := by decide +kernel
theorem d_Li_takeDigits_22 : decode b_Li_takeDigits 22 = .ok (.bipush 48, 2) := by decide +kernel
theorem d_Li_takeDigits_24 : decode b_Li_takeDigits 24 = .ok (.isub, 1) := by decide +kernel
theorem d_Li_takeDigits_25 : decode b_Li_takeDigits 25 = .ok (.invokevirtual 49, 3) := by decide +kernel
theorem d_Li_takeDigits_28 : decode b_Li_takeDigits 28 = .ok (.iinc 4 1, 3) := by decide +kernel
theorem d_Li_takeDigits_31 : decode b_Li_takeDigits 31 = .ok (.goto (-23), 3) := by decide +kernel
theorem d_Li_takeDigits_34 : decode b_Li_takeDigits 34 = .ok (.return_, 1) := by decide +kernel
/-! Li_tellsNumber: ('CellHeap$Line', 'tellsNumber', '(LCellHeap$Ratio;)Z') -/
abbrev b_Li_tellsNumber : ByteArray := prog_4_method_4_code
abbrev y_Li_tellsNumber : MethodName := ⟨R_Li, "tellsNumber", "(LCellHeap$Ratio;)Z"⟩
abbrev K_Li_tellsNumber := CanI y_Li_tellsNumber b_Li_tellsNumber 7 ((some .boolean)) 3 0 0
theorem I_Li_tellsNumber {h : HP} {p1 : Nat} {Φ : Int32 → HP → Prop} (body : ∀ X : CX, Cok X b_Li_tellsNumber 7 R_Li ((some .boolean)) → xR X = rml 3 0 0 → Qok X 0 0 (fun r h2 => ∃ v, r = some (.int v) ∧ Φ v h2) → Wg X 0 0 h [(0, .ref 21), (1, .ref p1)] [] 0) : K_Li_tellsNumber [.ref 21, .ref p1] h Φ := Can.intro (by decide) (fun _ => Nat.le_of_ble_eq_true rfl) body
theorem M_Li_tellsNumber : Mv y_Li_tellsNumber b_Li_tellsNumber 7 ((some .boolean)) 1 5 := ⟨wx_in 994 (by decide +kernel) rfl, wx_in 992 (by decide +kernel) rfl, wx_in 993 (by decide +kernel) rfl, wx_in 67 (by decide +kernel) rfl, by decide +kernel, by decide, by decide, _, _, rfl⟩
theorem d_Li_tellsNumber_0 : decode b_Li_tellsNumber 0 = .ok (.aload_n 0, 1) := by decide +kernel
theorem d_Li_tellsNumber_1 : decode b_Li_tellsNumber 1 = .ok (.bipush 45, 2) := by decide +kernel
theorem d_Li_tellsNumber_3 : decode b_Li_tellsNumber 3 = .ok (.iconst 0, 1) := by decide +kernel
theorem d_Li_tellsNumber_4 : decode b_Li_tellsNumber 4 = .ok (.invokevirtual 19, 3) := by decide +kernel
theorem d_Li_tellsNumber_7 : decode b_Li_tellsNumber 7 = .ok (.istore_n 2, 1) := by decide +kernel
theorem d_Li_tellsNumber_8 : decode b_Li_tellsNumber 8 = .ok (.iload_n 2, 1) := by decide +kernel
theorem d_Li_tellsNumber_9 : decode b_Li_tellsNumber 9 = .ok (.ifCond .eq 7, 3) := by decide +kernel
theorem d_Li_tellsNumber_12 : decode b_Li_tellsNumber 12 = .ok (.iconst 1, 1) := by decide +kernel
theorem d_Li_tellsNumber_13 : decode b_Li_tellsNumber 13 = .ok (.goto 4, 3) := by decide +kernel
theorem d_Li_tellsNumber_16 : decode b_Li_tellsNumber 16 = .ok (.iconst 0, 1) := by decide +kernel
theorem d_Li_tellsNumber_17 : decode b_Li_tellsNumber 17 = .ok (.istore_n 3, 1) := by decide +kernel
theorem d_Li_tellsNumber_18 : decode b_Li_tellsNumber 18 = .ok (.aload_n 0, 1) := by decide +kernel
theorem d_Li_tellsNumber_19 : decode b_Li_tellsNumber 19 = .ok (.iload_n 3, 1) := by decide +kernel
theorem d_Li_tellsNumber_20 : decode b_Li_tellsNumber 20 = .ok (.invokevirtual 23, 3) := by decide +kernel
theorem d_Li_tellsNumber_23 : decode b_Li_tellsNumber 23 = .ok (.istore 4, 2) := by decide +kernel
theorem d_Li_tellsNumber_25 : decode b_Li_tellsNumber 25 = .ok (.iload 4, 2) := by decide +kernel
theorem d_Li_tellsNumber_27 : decode b_Li_tellsNumber 27 = .ok (.iload_n 3, 1) := by decide +kernel
theorem d_Li_tellsNumber_28 : decode b_Li_tellsNumber 28 = .ok (.if_icmp .ne 5, 3) := by decide +kernel
theorem d_Li_tellsNumber_31 : decode b_Li_tellsNumber 31 = .ok (.iconst 0, 1) := by decide +kernel
theorem d_Li_tellsNumber_32 : decode b_Li_tellsNumber 32 = .ok (.ireturn, 1) := by decide +kernel
theorem d_Li_tellsNumber_33 : decode b_Li_tellsNumber 33 = .ok (.aload_n 0, 1) := by decide +kernel
theorem d_Li_tellsNumber_34 : decode b_Li_tellsNumber 34 = .ok (.iload_n 3, 1) := by decide +kernel
theorem d_Li_tellsNumber_35 : decode b_Li_tellsNumber 35 = .ok (.iload 4, 2) := by decide +kernel
theorem d_Li_tellsNumber_37 : decode b_Li_tellsNumber 37 = .ok (.aload_n 1, 1) := by decide +kernel
theorem d_Li_tellsNumber_38 : decode b_Li_tellsNumber 38 = .ok (.getfield 27, 3) := by decide +kernel
theorem d_Li_tellsNumber_41 : decode b_Li_tellsNumber 41 = .ok (.invokevirtual 33, 3) := by decide +kernel
theorem d_Li_tellsNumber_44 : decode b_Li_tellsNumber 44 = .ok (.iload_n 2, 1) := by decide +kernel
theorem d_Li_tellsNumber_45 : decode b_Li_tellsNumber 45 = .ok (.ifCond .eq 10, 3) := by decide +kernel
theorem d_Li_tellsNumber_48 : decode b_Li_tellsNumber 48 = .ok (.aload_n 1, 1) := by decide +kernel
theorem d_Li_tellsNumber_49 : decode b_Li_tellsNumber 49 = .ok (.getfield 27, 3) := by decide +kernel
theorem d_Li_tellsNumber_52 : decode b_Li_tellsNumber 52 = .ok (.invokevirtual 37, 3) := by decide +kernel
theorem d_Li_tellsNumber_55 : decode b_Li_tellsNumber 55 = .ok (.aload_n 1, 1) := by decide +kernel
theorem d_Li_tellsNumber_56 : decode b_Li_tellsNumber 56 = .ok (.getfield 42, 3) := by decide +kernel
theorem d_Li_tellsNumber_59 : decode b_Li_tellsNumber 59 = .ok (.lconst 1, 1) := by decide +kernel
theorem d_Li_tellsNumber_60 : decode b_Li_tellsNumber 60 = .ok (.invokevirtual 45, 3) := by decide +kernel
theorem d_Li_tellsNumber_63 : decode b_Li_tellsNumber 63 = .ok (.iload 4, 2) := by decide +kernel
theorem d_Li_tellsNumber_65 : decode b_Li_tellsNumber 65 = .ok (.aload_n 0, 1) := by decide +kernel
theorem d_Li_tellsNumber_66 : decode b_Li_tellsNumber 66 = .ok (.getfield 15, 3) := by decide +kernel
theorem d_Li_tellsNumber_69 : decode b_Li_tellsNumber 69 = .ok (.if_icmp .ne 5, 3) := by decide +kernel
theorem d_Li_tellsNumber_72 : decode b_Li_tellsNumber 72 = .ok (.iconst 1, 1) := by decide +kernel
theorem d_Li_tellsNumber_73 : decode b_Li_tellsNumber 73 = .ok (.ireturn, 1) := by decide +kernel
theorem d_Li_tellsNumber_74 : decode b_Li_tellsNumber 74 = .ok (.iload 4, 2) := by decide +kernel
theorem d_Li_tellsNumber_76 : decode b_Li_tellsNumber 76 = .ok (.iconst 1, 1) := by decide +kernel
theorem d_Li_tellsNumber_77 : decode b_Li_tellsNumber 77 = .ok (.iadd, 1) := by decide +kernel
theorem d_Li_tellsNumber_78 : decode b_Li_tellsNumber 78 = .ok (.istore 5, 2) := by decide +kernel
theorem d_Li_tellsNumber_80 : decode b_Li_tellsNumber 80 = .ok (.aload_n 0, 1) := by decide +kernel
theorem d_Li_tellsNumber_81 : decode b_Li_tellsNumber 81 = .ok (.iload 5, 2) := by decide +kernel
theorem d_Li_tellsNumber_83 : decode b_Li_tellsNumber 83 = .ok (.invokevirtual 23, 3) := by decide +kernel
theorem d_Li_tellsNumber_86 : decode b_Li_tellsNumber 86 = .ok (.istore 6, 2) := by decide +kernel
theorem d_Li_tellsNumber_88 : decode b_Li_tellsNumber 88 = .ok (.aload_n 0, 1) := by decide +kernel
theorem d_Li_tellsNumber_89 : decode b_Li_tellsNumber 89 = .ok (.iload 5, 2) := by decide +kernel
theorem d_Li_tellsNumber_91 : decode b_Li_tellsNumber 91 = .ok (.iload 6, 2) := by decide +kernel
theorem d_Li_tellsNumber_93 : decode b_Li_tellsNumber 93 = .ok (.aload_n 1, 1) := by decide +kernel
theorem d_Li_tellsNumber_94 : decode b_Li_tellsNumber 94 = .ok (.getfield 42, 3) := by decide +kernel
theorem d_Li_tellsNumber_97 : decode b_Li_tellsNumber 97 = .ok (.invokevirtual 33, 3) := by decide +kernel
theorem d_Li_tellsNumber_100 : decode b_Li_tellsNumber 100 = .ok (.aload_n 0, 1) := by decide +kernel
theorem d_Li_tellsNumber_101 : decode b_Li_tellsNumber 101 = .ok (.bipush 47, 2) := by decide +kernel
theorem d_Li_tellsNumber_103 : decode b_Li_tellsNumber 103 = .ok (.iload 4, 2) := by decide +kernel
theorem d_Li_tellsNumber_105 : decode b_Li_tellsNumber 105 = .ok (.invokevirtual 19, 3) := by decide +kernel
theorem d_Li_tellsNumber_108 : decode b_Li_tellsNumber 108 = .ok (.ifCond .eq 23, 3) := by decide +kernel
theorem d_Li_tellsNumber_111 : decode b_Li_tellsNumber 111 = .ok (.iload 6, 2) := by decide +kernel
theorem d_Li_tellsNumber_113 : decode b_Li_tellsNumber 113 = .ok (.iload 5, 2) := by decide +kernel
theorem d_Li_tellsNumber_115 : decode b_Li_tellsNumber 115 = .ok (.if_icmp .le 16, 3) := by decide +kernel
theorem d_Li_tellsNumber_118 : decode b_Li_tellsNumber 118 = .ok (.iload 6, 2) := by decide +kernel
theorem d_Li_tellsNumber_120 : decode b_Li_tellsNumber 120 = .ok (.aload_n 0, 1) := by decide +kernel
theorem d_Li_tellsNumber_121 : decode b_Li_tellsNumber 121 = .ok (.getfield 15, 3) := by decide +kernel
theorem d_Li_tellsNumber_124 : decode b_Li_tellsNumber 124 = .ok (.if_icmp .ne 7, 3) := by decide +kernel
theorem d_Li_tellsNumber_127 : decode b_Li_tellsNumber 127 = .ok (.iconst 1, 1) := by decide +kernel
theorem d_Li_tellsNumber_128 : decode b_Li_tellsNumber 128 = .ok (.goto 4, 3) := by decide +kernel
theorem d_Li_tellsNumber_131 : decode b_Li_tellsNumber 131 = .ok (.iconst 0, 1) := by decide +kernel
theorem d_Li_tellsNumber_132 : decode b_Li_tellsNumber 132 = .ok (.ireturn, 1) := by decide +kernel
/-! Pr_put: ('CellHeap$Printer', 'put', '(C)V') -/
abbrev b_Pr_put : ByteArray := prog_5_method_8_code
abbrev y_Pr_put : MethodName := ⟨R_Pr, "put", "(C)V"⟩
abbrev K_Pr_put := CanV y_Pr_put b_Pr_put 2 none 0 0 0
theorem I_Pr_put {h : HP} {v1 : Int32} {Φ : HP → Prop} (body : ∀ X : CX, Cok X b_Pr_put 2 R_Pr none → xR X = rml 0 0 0 → Qok X 0 0 (fun r h2 => r = none ∧ Φ h2) → Wg X 0 0 h [(0, .ref 52), (1, .int v1)] [] 0) : K_Pr_put [.ref 52, .int v1] h Φ := Can.intro (by decide) (fun _ => Nat.le_of_ble_eq_true rfl) body
theorem M_Pr_put : Mv y_Pr_put b_Pr_put 2 none 1 6 := ⟨wx_in 1033 (by decide +kernel) rfl, wx_in 1032 (by decide +kernel) rfl, wx_in 20 (by decide +kernel) rfl, wx_in 72 (by decide +kernel) rfl, by decide +kernel, by decide, by decide, _, _, rfl⟩
theorem d_Pr_put_0 : decode b_Pr_put 0 = .ok (.aload_n 0, 1) := by decide +kernel
theorem d_Pr_put_1 : decode b_Pr_put 1 = .ok (.getfield 29, 3) := by decide +kernel
theorem d_Pr_put_4 : decode b_Pr_put 4 = .ok (.sipush 400, 3) := by decide +kernel
theorem d_Pr_put_7 : decode b_Pr_put 7 = .ok (.if_icmp .ge 26, 3) := by decide +kernel
theorem d_Pr_put_10 : decode b_Pr_put 10 = .ok (.aload_n 0, 1) := by decide +kernel
theorem d_Pr_put_11 : decode b_Pr_put 11 = .ok (.getfield 11, 3) := by decide +kernel
theorem d_Pr_put_14 : decode b_Pr_put 14 = .ok (.aload_n 0, 1) := by decide +kernel
theorem d_Pr_put_15 : decode b_Pr_put 15 = .ok (.getfield 29, 3) := by decide +kernel
theorem d_Pr_put_18 : decode b_Pr_put 18 = .ok (.iload_n 1, 1) := by decide +kernel
theorem d_Pr_put_19 : decode b_Pr_put 19 = .ok (.castore, 1) := by decide +kernel
theorem d_Pr_put_20 : decode b_Pr_put 20 = .ok (.aload_n 0, 1) := by decide +kernel
theorem d_Pr_put_21 : decode b_Pr_put 21 = .ok (.dup, 1) := by decide +kernel
theorem d_Pr_put_22 : decode b_Pr_put 22 = .ok (.getfield 29, 3) := by decide +kernel
theorem d_Pr_put_25 : decode b_Pr_put 25 = .ok (.iconst 1, 1) := by decide +kernel
theorem d_Pr_put_26 : decode b_Pr_put 26 = .ok (.iadd, 1) := by decide +kernel
theorem d_Pr_put_27 : decode b_Pr_put 27 = .ok (.putfield 29, 3) := by decide +kernel
theorem d_Pr_put_30 : decode b_Pr_put 30 = .ok (.goto 8, 3) := by decide +kernel
theorem d_Pr_put_33 : decode b_Pr_put 33 = .ok (.aload_n 0, 1) := by decide +kernel
theorem d_Pr_put_34 : decode b_Pr_put 34 = .ok (.iconst 1, 1) := by decide +kernel
theorem d_Pr_put_35 : decode b_Pr_put 35 = .ok (.putfield 33, 3) := by decide +kernel
theorem d_Pr_put_38 : decode b_Pr_put 38 = .ok (.return_, 1) := by decide +kernel
/-! Pr_fillChunk: ('CellHeap$Printer', 'fillChunk', '(II)V') -/
abbrev b_Pr_fillChunk : ByteArray := prog_5_method_7_code
abbrev y_Pr_fillChunk : MethodName := ⟨R_Pr, "fillChunk", "(II)V"⟩
abbrev K_Pr_fillChunk := CanV y_Pr_fillChunk b_Pr_fillChunk 5 none 0 0 0
theorem I_Pr_fillChunk {h : HP} {v1 : Int32} {v2 : Int32} {Φ : HP → Prop} (body : ∀ X : CX, Cok X b_Pr_fillChunk 5 R_Pr none → xR X = rml 0 0 0 → Qok X 0 0 (fun r h2 => r = none ∧ Φ h2) → Wg X 0 0 h [(0, .ref 52), (1, .int v1), (2, .int v2)] [] 0) : K_Pr_fillChunk [.ref 52, .int v1, .int v2] h Φ := Can.intro (by decide) (fun _ => Nat.le_of_ble_eq_true rfl) body
theorem M_Pr_fillChunk : Mv y_Pr_fillChunk b_Pr_fillChunk 5 none 2 6 := ⟨wx_in 1051 (by decide +kernel) rfl, wx_in 1050 (by decide +kernel) rfl, wx_in 23 (by decide +kernel) rfl, wx_in 72 (by decide +kernel) rfl, by decide +kernel, by decide, by decide, _, _, rfl⟩
theorem d_Pr_fillChunk_0 : decode b_Pr_fillChunk 0 = .ok (.iload_n 2, 1) := by decide +kernel
theorem d_Pr_fillChunk_1 : decode b_Pr_fillChunk 1 = .ok (.istore_n 3, 1) := by decide +kernel
theorem d_Pr_fillChunk_2 : decode b_Pr_fillChunk 2 = .ok (.iload_n 1, 1) := by decide +kernel
theorem d_Pr_fillChunk_3 : decode b_Pr_fillChunk 3 = .ok (.bipush 9, 2) := by decide +kernel
theorem d_Pr_fillChunk_5 : decode b_Pr_fillChunk 5 = .ok (.iadd, 1) := by decide +kernel
theorem d_Pr_fillChunk_6 : decode b_Pr_fillChunk 6 = .ok (.iconst 1, 1) := by decide +kernel
theorem d_Pr_fillChunk_7 : decode b_Pr_fillChunk 7 = .ok (.isub, 1) := by decide +kernel
theorem d_Pr_fillChunk_8 : decode b_Pr_fillChunk 8 = .ok (.istore 4, 2) := by decide +kernel
theorem d_Pr_fillChunk_10 : decode b_Pr_fillChunk 10 = .ok (.iload 4, 2) := by decide +kernel
theorem d_Pr_fillChunk_12 : decode b_Pr_fillChunk 12 = .ok (.iload_n 1, 1) := by decide +kernel
theorem d_Pr_fillChunk_13 : decode b_Pr_fillChunk 13 = .ok (.if_icmp .lt 29, 3) := by decide +kernel
theorem d_Pr_fillChunk_16 : decode b_Pr_fillChunk 16 = .ok (.aload_n 0, 1) := by decide +kernel
theorem d_Pr_fillChunk_17 : decode b_Pr_fillChunk 17 = .ok (.getfield 26, 3) := by decide +kernel
theorem d_Pr_fillChunk_20 : decode b_Pr_fillChunk 20 = .ok (.iload 4, 2) := by decide +kernel
theorem d_Pr_fillChunk_22 : decode b_Pr_fillChunk 22 = .ok (.bipush 48, 2) := by decide +kernel
theorem d_Pr_fillChunk_24 : decode b_Pr_fillChunk 24 = .ok (.iload_n 3, 1) := by decide +kernel
theorem d_Pr_fillChunk_25 : decode b_Pr_fillChunk 25 = .ok (.bipush 10, 2) := by decide +kernel
theorem d_Pr_fillChunk_27 : decode b_Pr_fillChunk 27 = .ok (.irem, 1) := by decide +kernel
theorem d_Pr_fillChunk_28 : decode b_Pr_fillChunk 28 = .ok (.iadd, 1) := by decide +kernel
theorem d_Pr_fillChunk_29 : decode b_Pr_fillChunk 29 = .ok (.i2c, 1) := by decide +kernel
theorem d_Pr_fillChunk_30 : decode b_Pr_fillChunk 30 = .ok (.castore, 1) := by decide +kernel
theorem d_Pr_fillChunk_31 : decode b_Pr_fillChunk 31 = .ok (.iload_n 3, 1) := by decide +kernel
theorem d_Pr_fillChunk_32 : decode b_Pr_fillChunk 32 = .ok (.bipush 10, 2) := by decide +kernel
theorem d_Pr_fillChunk_34 : decode b_Pr_fillChunk 34 = .ok (.idiv, 1) := by decide +kernel
theorem d_Pr_fillChunk_35 : decode b_Pr_fillChunk 35 = .ok (.istore_n 3, 1) := by decide +kernel
theorem d_Pr_fillChunk_36 : decode b_Pr_fillChunk 36 = .ok (.iinc 4 (-1), 3) := by decide +kernel
theorem d_Pr_fillChunk_39 : decode b_Pr_fillChunk 39 = .ok (.goto (-29), 3) := by decide +kernel
theorem d_Pr_fillChunk_42 : decode b_Pr_fillChunk 42 = .ok (.return_, 1) := by decide +kernel
/-! Pr_putWhole: ('CellHeap$Printer', 'putWhole', '(LCellHeap$Heap;I)V') -/
abbrev b_Pr_putWhole : ByteArray := prog_5_method_6_code
abbrev y_Pr_putWhole : MethodName := ⟨R_Pr, "putWhole", "(LCellHeap$Heap;I)V"⟩
abbrev K_Pr_putWhole := CanV y_Pr_putWhole b_Pr_putWhole 5 none 4 0 0
theorem I_Pr_putWhole {h : HP} {v2 : Int32} {Φ : HP → Prop} (body : ∀ X : CX, Cok X b_Pr_putWhole 5 R_Pr none → xR X = rml 4 0 0 → Qok X 0 0 (fun r h2 => r = none ∧ Φ h2) → Wg X 0 0 h [(0, .ref 52), (1, .ref 15), (2, .int v2)] [] 0) : K_Pr_putWhole [.ref 52, .ref 15, .int v2] h Φ := Can.intro (by decide) (fun _ => Nat.le_of_ble_eq_true rfl) body
theorem M_Pr_putWhole : Mv y_Pr_putWhole b_Pr_putWhole 5 none 2 6 := ⟨wx_in 1043 (by decide +kernel) rfl, wx_in 1042 (by decide +kernel) rfl, wx_in 22 (by decide +kernel) rfl, wx_in 72 (by decide +kernel) rfl, by decide +kernel, by decide, by decide, _, _, rfl⟩
theorem d_Pr_putWhole_0 : decode b_Pr_putWhole 0 = .ok (.aload_n 1, 1) := by decide +kernel
theorem d_Pr_putWhole_1 : decode b_Pr_putWhole 1 = .ok (.iload_n 2, 1) := by decide +kernel
theorem d_Pr_putWhole_2 : decode b_Pr_putWhole 2 = .ok (.aload_n 0, 1) := by decide +kernel
theorem d_Pr_putWhole_3 : decode b_Pr_putWhole 3 = .ok (.getfield 22, 3) := by decide +kernel
theorem d_Pr_putWhole_6 : decode b_Pr_putWhole 6 = .ok (.invokevirtual 70, 3) := by decide +kernel
theorem d_Pr_putWhole_9 : decode b_Pr_putWhole 9 = .ok (.aload_n 0, 1) := by decide +kernel
theorem d_Pr_putWhole_10 : decode b_Pr_putWhole 10 = .ok (.getfield 22, 3) := by decide +kernel
theorem d_Pr_putWhole_13 : decode b_Pr_putWhole 13 = .ok (.getfield 74, 3) := by decide +kernel
theorem d_Pr_putWhole_16 : decode b_Pr_putWhole 16 = .ok (.ifCond .eq 9, 3) := by decide +kernel
theorem d_Pr_putWhole_19 : decode b_Pr_putWhole 19 = .ok (.aload_n 0, 1) := by decide +kernel
theorem d_Pr_putWhole_20 : decode b_Pr_putWhole 20 = .ok (.bipush 45, 2) := by decide +kernel
theorem d_Pr_putWhole_22 : decode b_Pr_putWhole 22 = .ok (.invokevirtual 54, 3) := by decide +kernel
theorem d_Pr_putWhole_25 : decode b_Pr_putWhole 25 = .ok (.sipush 198, 3) := by decide +kernel
theorem d_Pr_putWhole_28 : decode b_Pr_putWhole 28 = .ok (.istore_n 3, 1) := by decide +kernel
theorem d_Pr_putWhole_29 : decode b_Pr_putWhole 29 = .ok (.iload_n 3, 1) := by decide +kernel
theorem d_Pr_putWhole_30 : decode b_Pr_putWhole 30 = .ok (.bipush 9, 2) := by decide +kernel
theorem d_Pr_putWhole_32 : decode b_Pr_putWhole 32 = .ok (.if_icmp .lt 35, 3) := by decide +kernel
theorem d_Pr_putWhole_35 : decode b_Pr_putWhole 35 = .ok (.aload_n 0, 1) := by decide +kernel
theorem d_Pr_putWhole_36 : decode b_Pr_putWhole 36 = .ok (.getfield 22, 3) := by decide +kernel
theorem d_Pr_putWhole_39 : decode b_Pr_putWhole 39 = .ok (.invokevirtual 77, 3) := by decide +kernel
theorem d_Pr_putWhole_42 : decode b_Pr_putWhole 42 = .ok (.ifCond .ne 25, 3) := by decide +kernel
theorem d_Pr_putWhole_45 : decode b_Pr_putWhole 45 = .ok (.iinc 3 (-9), 3) := by decide +kernel
theorem d_Pr_putWhole_48 : decode b_Pr_putWhole 48 = .ok (.aload_n 0, 1) := by decide +kernel
theorem d_Pr_putWhole_49 : decode b_Pr_putWhole 49 = .ok (.iload_n 3, 1) := by decide +kernel
theorem d_Pr_putWhole_50 : decode b_Pr_putWhole 50 = .ok (.aload_n 0, 1) := by decide +kernel
theorem d_Pr_putWhole_51 : decode b_Pr_putWhole 51 = .ok (.getfield 22, 3) := by decide +kernel
theorem d_Pr_putWhole_54 : decode b_Pr_putWhole 54 = .ok (.ldc2_w 81, 3) := by decide +kernel
theorem d_Pr_putWhole_57 : decode b_Pr_putWhole 57 = .ok (.invokevirtual 83, 3) := by decide +kernel
theorem d_Pr_putWhole_60 : decode b_Pr_putWhole 60 = .ok (.l2i, 1) := by decide +kernel
theorem d_Pr_putWhole_61 : decode b_Pr_putWhole 61 = .ok (.invokevirtual 87, 3) := by decide +kernel
theorem d_Pr_putWhole_64 : decode b_Pr_putWhole 64 = .ok (.goto (-35), 3) := by decide +kernel
theorem d_Pr_putWhole_67 : decode b_Pr_putWhole 67 = .ok (.iload_n 3, 1) := by decide +kernel
theorem d_Pr_putWhole_68 : decode b_Pr_putWhole 68 = .ok (.sipush 198, 3) := by decide +kernel
theorem d_Pr_putWhole_71 : decode b_Pr_putWhole 71 = .ok (.if_icmp .ge 20, 3) := by decide +kernel
theorem d_Pr_putWhole_74 : decode b_Pr_putWhole 74 = .ok (.aload_n 0, 1) := by decide +kernel
theorem d_Pr_putWhole_75 : decode b_Pr_putWhole 75 = .ok (.getfield 26, 3) := by decide +kernel
theorem d_Pr_putWhole_78 : decode b_Pr_putWhole 78 = .ok (.iload_n 3, 1) := by decide +kernel
theorem d_Pr_putWhole_79 : decode b_Pr_putWhole 79 = .ok (.caload, 1) := by decide +kernel
theorem d_Pr_putWhole_80 : decode b_Pr_putWhole 80 = .ok (.bipush 48, 2) := by decide +kernel
theorem d_Pr_putWhole_82 : decode b_Pr_putWhole 82 = .ok (.if_icmp .ne 9, 3) := by decide +kernel
theorem d_Pr_putWhole_85 : decode b_Pr_putWhole 85 = .ok (.iinc 3 1, 3) := by decide +kernel
theorem d_Pr_putWhole_88 : decode b_Pr_putWhole 88 = .ok (.goto (-21), 3) := by decide +kernel
theorem d_Pr_putWhole_91 : decode b_Pr_putWhole 91 = .ok (.iload_n 3, 1) := by decide +kernel
theorem d_Pr_putWhole_92 : decode b_Pr_putWhole 92 = .ok (.sipush 198, 3) := by decide +kernel
theorem d_Pr_putWhole_95 : decode b_Pr_putWhole 95 = .ok (.if_icmp .ne 9, 3) := by decide +kernel
theorem d_Pr_putWhole_98 : decode b_Pr_putWhole 98 = .ok (.aload_n 0, 1) := by decide +kernel
theorem d_Pr_putWhole_99 : decode b_Pr_putWhole 99 = .ok (.bipush 48, 2) := by decide +kernel
theorem d_Pr_putWhole_101 : decode b_Pr_putWhole 101 = .ok (.invokevirtual 54, 3) := by decide +kernel
theorem d_Pr_putWhole_104 : decode b_Pr_putWhole 104 = .ok (.iload_n 3, 1) := by decide +kernel
theorem d_Pr_putWhole_105 : decode b_Pr_putWhole 105 = .ok (.istore 4, 2) := by decide +kernel
theorem d_Pr_putWhole_107 : decode b_Pr_putWhole 107 = .ok (.iload 4, 2) := by decide +kernel
theorem d_Pr_putWhole_109 : decode b_Pr_putWhole 109 = .ok (.sipush 198, 3) := by decide +kernel
theorem d_Pr_putWhole_112 : decode b_Pr_putWhole 112 = .ok (.if_icmp .ge 20, 3) := by decide +kernel
theorem d_Pr_putWhole_115 : decode b_Pr_putWhole 115 = .ok (.aload_n 0, 1) := by decide +kernel
theorem d_Pr_putWhole_116 : decode b_Pr_putWhole 116 = .ok (.aload_n 0, 1) := by decide +kernel
theorem d_Pr_putWhole_117 : decode b_Pr_putWhole 117 = .ok (.getfield 26, 3) := by decide +kernel
theorem d_Pr_putWhole_120 : decode b_Pr_putWhole 120 = .ok (.iload 4, 2) := by decide +kernel
theorem d_Pr_putWhole_122 : decode b_Pr_putWhole 122 = .ok (.caload, 1) := by decide +kernel
theorem d_Pr_putWhole_123 : decode b_Pr_putWhole 123 = .ok (.invokevirtual 54, 3) := by decide +kernel
theorem d_Pr_putWhole_126 : decode b_Pr_putWhole 126 = .ok (.iinc 4 1, 3) := by decide +kernel
theorem d_Pr_putWhole_129 : decode b_Pr_putWhole 129 = .ok (.goto (-22), 3) := by decide +kernel
theorem d_Pr_putWhole_132 : decode b_Pr_putWhole 132 = .ok (.return_, 1) := by decide +kernel
/-! Pr_putAtom: ('CellHeap$Printer', 'putAtom', '(LCellHeap$Heap;I)V') -/
abbrev b_Pr_putAtom : ByteArray := prog_5_method_5_code
abbrev y_Pr_putAtom : MethodName := ⟨R_Pr, "putAtom", "(LCellHeap$Heap;I)V"⟩
abbrev K_Pr_putAtom := CanV y_Pr_putAtom b_Pr_putAtom 4 none 5 0 0
theorem I_Pr_putAtom {h : HP} {v2 : Int32} {Φ : HP → Prop} (body : ∀ X : CX, Cok X b_Pr_putAtom 4 R_Pr none → xR X = rml 5 0 0 → Qok X 0 0 (fun r h2 => r = none ∧ Φ h2) → Wg X 0 0 h [(0, .ref 52), (1, .ref 15), (2, .int v2)] [] 0) : K_Pr_putAtom [.ref 52, .ref 15, .int v2] h Φ := Can.intro (by decide) (fun _ => Nat.le_of_ble_eq_true rfl) body
theorem M_Pr_putAtom : Mv y_Pr_putAtom b_Pr_putAtom 4 none 2 6 := ⟨wx_in 1039 (by decide +kernel) rfl, wx_in 1038 (by decide +kernel) rfl, wx_in 21 (by decide +kernel) rfl, wx_in 72 (by decide +kernel) rfl, by decide +kernel, by decide, by decide, _, _, rfl⟩
theorem d_Pr_putAtom_0 : decode b_Pr_putAtom 0 = .ok (.aload_n 1, 1) := by decide +kernel
theorem d_Pr_putAtom_1 : decode b_Pr_putAtom 1 = .ok (.iload_n 2, 1) := by decide +kernel
theorem d_Pr_putAtom_2 : decode b_Pr_putAtom 2 = .ok (.invokevirtual 48, 3) := by decide +kernel
theorem d_Pr_putAtom_5 : decode b_Pr_putAtom 5 = .ok (.istore_n 3, 1) := by decide +kernel
theorem d_Pr_putAtom_6 : decode b_Pr_putAtom 6 = .ok (.iload_n 3, 1) := by decide +kernel
theorem d_Pr_putAtom_7 : decode b_Pr_putAtom 7 = .ok (.ifCond .ne 18, 3) := by decide +kernel
theorem d_Pr_putAtom_10 : decode b_Pr_putAtom 10 = .ok (.aload_n 0, 1) := by decide +kernel
theorem d_Pr_putAtom_11 : decode b_Pr_putAtom 11 = .ok (.bipush 40, 2) := by decide +kernel
theorem d_Pr_putAtom_13 : decode b_Pr_putAtom 13 = .ok (.invokevirtual 54, 3) := by decide +kernel
theorem d_Pr_putAtom_16 : decode b_Pr_putAtom 16 = .ok (.aload_n 0, 1) := by decide +kernel
theorem d_Pr_putAtom_17 : decode b_Pr_putAtom 17 = .ok (.bipush 41, 2) := by decide +kernel
theorem d_Pr_putAtom_19 : decode b_Pr_putAtom 19 = .ok (.invokevirtual 54, 3) := by decide +kernel
theorem d_Pr_putAtom_22 : decode b_Pr_putAtom 22 = .ok (.goto 48, 3) := by decide +kernel
theorem d_Pr_putAtom_25 : decode b_Pr_putAtom 25 = .ok (.iload_n 3, 1) := by decide +kernel
theorem d_Pr_putAtom_26 : decode b_Pr_putAtom 26 = .ok (.iconst 3, 1) := by decide +kernel
theorem d_Pr_putAtom_27 : decode b_Pr_putAtom 27 = .ok (.if_icmp .ne 32, 3) := by decide +kernel
theorem d_Pr_putAtom_30 : decode b_Pr_putAtom 30 = .ok (.aload_n 0, 1) := by decide +kernel
theorem d_Pr_putAtom_31 : decode b_Pr_putAtom 31 = .ok (.aload_n 1, 1) := by decide +kernel
theorem d_Pr_putAtom_32 : decode b_Pr_putAtom 32 = .ok (.aload_n 1, 1) := by decide +kernel
theorem d_Pr_putAtom_33 : decode b_Pr_putAtom 33 = .ok (.iload_n 2, 1) := by decide +kernel
theorem d_Pr_putAtom_34 : decode b_Pr_putAtom 34 = .ok (.invokevirtual 61, 3) := by decide +kernel
theorem d_Pr_putAtom_37 : decode b_Pr_putAtom 37 = .ok (.invokevirtual 67, 3) := by decide +kernel
theorem d_Pr_putAtom_40 : decode b_Pr_putAtom 40 = .ok (.aload_n 0, 1) := by decide +kernel
theorem d_Pr_putAtom_41 : decode b_Pr_putAtom 41 = .ok (.bipush 47, 2) := by decide +kernel
theorem d_Pr_putAtom_43 : decode b_Pr_putAtom 43 = .ok (.invokevirtual 54, 3) := by decide +kernel
theorem d_Pr_putAtom_46 : decode b_Pr_putAtom 46 = .ok (.aload_n 0, 1) := by decide +kernel
theorem d_Pr_putAtom_47 : decode b_Pr_putAtom 47 = .ok (.aload_n 1, 1) := by decide +kernel
theorem d_Pr_putAtom_48 : decode b_Pr_putAtom 48 = .ok (.aload_n 1, 1) := by decide +kernel
theorem d_Pr_putAtom_49 : decode b_Pr_putAtom 49 = .ok (.iload_n 2, 1) := by decide +kernel
theorem d_Pr_putAtom_50 : decode b_Pr_putAtom 50 = .ok (.invokevirtual 58, 3) := by decide +kernel
theorem d_Pr_putAtom_53 : decode b_Pr_putAtom 53 = .ok (.invokevirtual 67, 3) := by decide +kernel
theorem d_Pr_putAtom_56 : decode b_Pr_putAtom 56 = .ok (.goto 14, 3) := by decide +kernel
theorem d_Pr_putAtom_59 : decode b_Pr_putAtom 59 = .ok (.iload_n 3, 1) := by decide +kernel
theorem d_Pr_putAtom_60 : decode b_Pr_putAtom 60 = .ok (.iconst 4, 1) := by decide +kernel
theorem d_Pr_putAtom_61 : decode b_Pr_putAtom 61 = .ok (.if_icmp .eq 9, 3) := by decide +kernel
theorem d_Pr_putAtom_64 : decode b_Pr_putAtom 64 = .ok (.aload_n 0, 1) := by decide +kernel
theorem d_Pr_putAtom_65 : decode b_Pr_putAtom 65 = .ok (.aload_n 1, 1) := by decide +kernel
theorem d_Pr_putAtom_66 : decode b_Pr_putAtom 66 = .ok (.iload_n 2, 1) := by decide +kernel
theorem d_Pr_putAtom_67 : decode b_Pr_putAtom 67 = .ok (.invokevirtual 67, 3) := by decide +kernel
theorem d_Pr_putAtom_70 : decode b_Pr_putAtom 70 = .ok (.return_, 1) := by decide +kernel
/-! Pr_closeWith: ('CellHeap$Printer', 'closeWith', '(LCellHeap$Heap;I)V') -/
abbrev b_Pr_closeWith : ByteArray := prog_5_method_4_code
abbrev y_Pr_closeWith : MethodName := ⟨R_Pr, "closeWith", "(LCellHeap$Heap;I)V"⟩
abbrev K_Pr_closeWith := CanV y_Pr_closeWith b_Pr_closeWith 3 none 6 0 0
theorem I_Pr_closeWith {h : HP} {v2 : Int32} {Φ : HP → Prop} (body : ∀ X : CX, Cok X b_Pr_closeWith 3 R_Pr none → xR X = rml 6 0 0 → Qok X 0 0 (fun r h2 => r = none ∧ Φ h2) → Wg X 0 0 h [(0, .ref 52), (1, .ref 15), (2, .int v2)] [] 0) : K_Pr_closeWith [.ref 52, .ref 15, .int v2] h Φ := Can.intro (by decide) (fun _ => Nat.le_of_ble_eq_true rfl) body
theorem M_Pr_closeWith : Mv y_Pr_closeWith b_Pr_closeWith 3 none 2 6 := ⟨wx_in 1055 (by decide +kernel) rfl, wx_in 1054 (by decide +kernel) rfl, wx_in 24 (by decide +kernel) rfl, wx_in 72 (by decide +kernel) rfl, by decide +kernel, by decide, by decide, _, _, rfl⟩
theorem d_Pr_closeWith_0 : decode b_Pr_closeWith 0 = .ok (.iload_n 2, 1) := by decide +kernel
theorem d_Pr_closeWith_1 : decode b_Pr_closeWith 1 = .ok (.ifCond .eq 27, 3) := by decide +kernel
theorem d_Pr_closeWith_4 : decode b_Pr_closeWith 4 = .ok (.aload_n 0, 1) := by decide +kernel
theorem d_Pr_closeWith_5 : decode b_Pr_closeWith 5 = .ok (.bipush 32, 2) := by decide +kernel
theorem d_Pr_closeWith_7 : decode b_Pr_closeWith 7 = .ok (.invokevirtual 54, 3) := by decide +kernel
theorem d_Pr_closeWith_10 : decode b_Pr_closeWith 10 = .ok (.aload_n 0, 1) := by decide +kernel
theorem d_Pr_closeWith_11 : decode b_Pr_closeWith 11 = .ok (.bipush 46, 2) := by decide +kernel
theorem d_Pr_closeWith_13 : decode b_Pr_closeWith 13 = .ok (.invokevirtual 54, 3) := by decide +kernel
theorem d_Pr_closeWith_16 : decode b_Pr_closeWith 16 = .ok (.aload_n 0, 1) := by decide +kernel
theorem d_Pr_closeWith_17 : decode b_Pr_closeWith 17 = .ok (.bipush 32, 2) := by decide +kernel
theorem d_Pr_closeWith_19 : decode b_Pr_closeWith 19 = .ok (.invokevirtual 54, 3) := by decide +kernel
theorem d_Pr_closeWith_22 : decode b_Pr_closeWith 22 = .ok (.aload_n 0, 1) := by decide +kernel
theorem d_Pr_closeWith_23 : decode b_Pr_closeWith 23 = .ok (.aload_n 1, 1) := by decide +kernel
theorem d_Pr_closeWith_24 : decode b_Pr_closeWith 24 = .ok (.iload_n 2, 1) := by decide +kernel
theorem d_Pr_closeWith_25 : decode b_Pr_closeWith 25 = .ok (.invokevirtual 44, 3) := by decide +kernel
theorem d_Pr_closeWith_28 : decode b_Pr_closeWith 28 = .ok (.aload_n 0, 1) := by decide +kernel
theorem d_Pr_closeWith_29 : decode b_Pr_closeWith 29 = .ok (.bipush 41, 2) := by decide +kernel
theorem d_Pr_closeWith_31 : decode b_Pr_closeWith 31 = .ok (.invokevirtual 54, 3) := by decide +kernel
theorem d_Pr_closeWith_34 : decode b_Pr_closeWith 34 = .ok (.aload_n 0, 1) := by decide +kernel
theorem d_Pr_closeWith_35 : decode b_Pr_closeWith 35 = .ok (.dup, 1) := by decide +kernel
theorem d_Pr_closeWith_36 : decode b_Pr_closeWith 36 = .ok (.getfield 37, 3) := by decide +kernel
theorem d_Pr_closeWith_39 : decode b_Pr_closeWith 39 = .ok (.iconst 1, 1) := by decide +kernel
theorem d_Pr_closeWith_40 : decode b_Pr_closeWith 40 = .ok (.isub, 1) := by decide +kernel
theorem d_Pr_closeWith_41 : decode b_Pr_closeWith 41 = .ok (.putfield 37, 3) := by decide +kernel
theorem d_Pr_closeWith_44 : decode b_Pr_closeWith 44 = .ok (.return_, 1) := by decide +kernel
/-! Pr_openPairs: ('CellHeap$Printer', 'openPairs', '(LCellHeap$Heap;I)I') -/
abbrev b_Pr_openPairs : ByteArray := prog_5_method_3_code
abbrev y_Pr_openPairs : MethodName := ⟨R_Pr, "openPairs", "(LCellHeap$Heap;I)I"⟩
abbrev K_Pr_openPairs := CanI y_Pr_openPairs b_Pr_openPairs 4 ((some .int)) 2 0 0
theorem I_Pr_openPairs {h : HP} {v2 : Int32} {Φ : Int32 → HP → Prop} (body : ∀ X : CX, Cok X b_Pr_openPairs 4 R_Pr ((some .int)) → xR X = rml 2 0 0 → Qok X 0 0 (fun r h2 => ∃ v, r = some (.int v) ∧ Φ v h2) → Wg X 0 0 h [(0, .ref 52), (1, .ref 15), (2, .int v2)] [] 0) : K_Pr_openPairs [.ref 52, .ref 15, .int v2] h Φ := Can.intro (by decide) (fun _ => Nat.le_of_ble_eq_true rfl) body
theorem M_Pr_openPairs : Mv y_Pr_openPairs b_Pr_openPairs 4 ((some .int)) 2 6 := ⟨wx_in 1028 (by decide +kernel) rfl, wx_in 1027 (by decide +kernel) rfl, wx_in 19 (by decide +kernel) rfl, wx_in 72 (by decide +kernel) rfl, by decide +kernel, by decide, by decide, _, _, rfl⟩
theorem d_Pr_openPairs_0 : decode b_Pr_openPairs 0 = .ok (.iload_n 2, 1) := by decide +kernel
theorem d_Pr_openPairs_1 : decode b_Pr_openPairs 1 = .ok (.istore_n 3, 1) := by decide +kernel
theorem d_Pr_openPairs_2 : decode b_Pr_openPairs 2 = .ok (.aload_n 0, 1) := by decide +kernel
theorem d_Pr_openPairs_3 : decode b_Pr_openPairs 3 = .ok (.getfield 37, 3) := by decide +kernel
theorem d_Pr_openPairs_6 : decode b_Pr_openPairs 6 = .ok (.sipush 400, 3) := by decide +kernel
theorem d_Pr_openPairs_9 : decode b_Pr_openPairs 9 = .ok (.if_icmp .gt 51, 3) := by decide +kernel
theorem d_Pr_openPairs_12 : decode b_Pr_openPairs 12 = .ok (.aload_n 1, 1) := by decide +kernel
theorem d_Pr_openPairs_13 : decode b_Pr_openPairs 13 = .ok (.iload_n 3, 1) := by decide +kernel
theorem d_Pr_openPairs_14 : decode b_Pr_openPairs 14 = .ok (.invokevirtual 48, 3) := by decide +kernel
theorem d_Pr_openPairs_17 : decode b_Pr_openPairs 17 = .ok (.iconst 4, 1) := by decide +kernel
theorem d_Pr_openPairs_18 : decode b_Pr_openPairs 18 = .ok (.if_icmp .ne 42, 3) := by decide +kernel
theorem d_Pr_openPairs_21 : decode b_Pr_openPairs 21 = .ok (.aload_n 0, 1) := by decide +kernel
theorem d_Pr_openPairs_22 : decode b_Pr_openPairs 22 = .ok (.bipush 40, 2) := by decide +kernel
theorem d_Pr_openPairs_24 : decode b_Pr_openPairs 24 = .ok (.invokevirtual 54, 3) := by decide +kernel
theorem d_Pr_openPairs_27 : decode b_Pr_openPairs 27 = .ok (.aload_n 0, 1) := by decide +kernel
theorem d_Pr_openPairs_28 : decode b_Pr_openPairs 28 = .ok (.getfield 15, 3) := by decide +kernel
theorem d_Pr_openPairs_31 : decode b_Pr_openPairs 31 = .ok (.aload_n 0, 1) := by decide +kernel
theorem d_Pr_openPairs_32 : decode b_Pr_openPairs 32 = .ok (.getfield 37, 3) := by decide +kernel
theorem d_Pr_openPairs_35 : decode b_Pr_openPairs 35 = .ok (.aload_n 1, 1) := by decide +kernel
theorem d_Pr_openPairs_36 : decode b_Pr_openPairs 36 = .ok (.iload_n 3, 1) := by decide +kernel
theorem d_Pr_openPairs_37 : decode b_Pr_openPairs 37 = .ok (.invokevirtual 58, 3) := by decide +kernel
theorem d_Pr_openPairs_40 : decode b_Pr_openPairs 40 = .ok (.iastore, 1) := by decide +kernel
theorem d_Pr_openPairs_41 : decode b_Pr_openPairs 41 = .ok (.aload_n 0, 1) := by decide +kernel
theorem d_Pr_openPairs_42 : decode b_Pr_openPairs 42 = .ok (.dup, 1) := by decide +kernel
theorem d_Pr_openPairs_43 : decode b_Pr_openPairs 43 = .ok (.getfield 37, 3) := by decide +kernel
theorem d_Pr_openPairs_46 : decode b_Pr_openPairs 46 = .ok (.iconst 1, 1) := by decide +kernel
theorem d_Pr_openPairs_47 : decode b_Pr_openPairs 47 = .ok (.iadd, 1) := by decide +kernel
theorem d_Pr_openPairs_48 : decode b_Pr_openPairs 48 = .ok (.putfield 37, 3) := by decide +kernel
theorem d_Pr_openPairs_51 : decode b_Pr_openPairs 51 = .ok (.aload_n 1, 1) := by decide +kernel
theorem d_Pr_openPairs_52 : decode b_Pr_openPairs 52 = .ok (.iload_n 3, 1) := by decide +kernel
theorem d_Pr_openPairs_53 : decode b_Pr_openPairs 53 = .ok (.invokevirtual 61, 3) := by decide +kernel
theorem d_Pr_openPairs_56 : decode b_Pr_openPairs 56 = .ok (.istore_n 3, 1) := by decide +kernel
theorem d_Pr_openPairs_57 : decode b_Pr_openPairs 57 = .ok (.goto (-55), 3) := by decide +kernel
theorem d_Pr_openPairs_60 : decode b_Pr_openPairs 60 = .ok (.iload_n 3, 1) := by decide +kernel
theorem d_Pr_openPairs_61 : decode b_Pr_openPairs 61 = .ok (.ireturn, 1) := by decide +kernel
/-! Pr_print: ('CellHeap$Printer', 'print', '(LCellHeap$Heap;I)Z') -/
abbrev b_Pr_print : ByteArray := prog_5_method_2_code
abbrev y_Pr_print : MethodName := ⟨R_Pr, "print", "(LCellHeap$Heap;I)Z"⟩
abbrev K_Pr_print := CanI y_Pr_print b_Pr_print 5 ((some .boolean)) 7 0 0
theorem I_Pr_print {h : HP} {v2 : Int32} {Φ : Int32 → HP → Prop} (body : ∀ X : CX, Cok X b_Pr_print 5 R_Pr ((some .boolean)) → xR X = rml 7 0 0 → Qok X 0 0 (fun r h2 => ∃ v, r = some (.int v) ∧ Φ v h2) → Wg X 0 0 h [(0, .ref 52), (1, .ref 15), (2, .int v2)] [] 0) : K_Pr_print [.ref 52, .ref 15, .int v2] h Φ := Can.intro (by decide) (fun _ => Nat.le_of_ble_eq_true rfl) body
theorem M_Pr_print : Mv y_Pr_print b_Pr_print 5 ((some .boolean)) 2 6 := ⟨wx_in 1024 (by decide +kernel) rfl, wx_in 1022 (by decide +kernel) rfl, wx_in 1023 (by decide +kernel) rfl, wx_in 72 (by decide +kernel) rfl, by decide +kernel, by decide, by decide, _, _, rfl⟩
theorem d_Pr_print_0 : decode b_Pr_print 0 = .ok (.aload_n 0, 1) := by decide +kernel
theorem d_Pr_print_1 : decode b_Pr_print 1 = .ok (.iconst 0, 1) := by decide +kernel
theorem d_Pr_print_2 : decode b_Pr_print 2 = .ok (.putfield 29, 3) := by decide +kernel
theorem d_Pr_print_5 : decode b_Pr_print 5 = .ok (.aload_n 0, 1) := by decide +kernel
theorem d_Pr_print_6 : decode b_Pr_print 6 = .ok (.iconst 0, 1) := by decide +kernel
theorem d_Pr_print_7 : decode b_Pr_print 7 = .ok (.putfield 33, 3) := by decide +kernel
theorem d_Pr_print_10 : decode b_Pr_print 10 = .ok (.aload_n 0, 1) := by decide +kernel
theorem d_Pr_print_11 : decode b_Pr_print 11 = .ok (.iconst 0, 1) := by decide +kernel
theorem d_Pr_print_12 : decode b_Pr_print 12 = .ok (.putfield 37, 3) := by decide +kernel
theorem d_Pr_print_15 : decode b_Pr_print 15 = .ok (.aload_n 0, 1) := by decide +kernel
theorem d_Pr_print_16 : decode b_Pr_print 16 = .ok (.aload_n 1, 1) := by decide +kernel
theorem d_Pr_print_17 : decode b_Pr_print 17 = .ok (.aload_n 0, 1) := by decide +kernel
theorem d_Pr_print_18 : decode b_Pr_print 18 = .ok (.aload_n 1, 1) := by decide +kernel
theorem d_Pr_print_19 : decode b_Pr_print 19 = .ok (.iload_n 2, 1) := by decide +kernel
theorem d_Pr_print_20 : decode b_Pr_print 20 = .ok (.invokevirtual 40, 3) := by decide +kernel
theorem d_Pr_print_23 : decode b_Pr_print 23 = .ok (.invokevirtual 44, 3) := by decide +kernel
theorem d_Pr_print_26 : decode b_Pr_print 26 = .ok (.iconst 0, 1) := by decide +kernel
theorem d_Pr_print_27 : decode b_Pr_print 27 = .ok (.istore_n 3, 1) := by decide +kernel
theorem d_Pr_print_28 : decode b_Pr_print 28 = .ok (.iload_n 3, 1) := by decide +kernel
theorem d_Pr_print_29 : decode b_Pr_print 29 = .ok (.sipush 400, 3) := by decide +kernel
theorem d_Pr_print_32 : decode b_Pr_print 32 = .ok (.if_icmp .gt 95, 3) := by decide +kernel
theorem d_Pr_print_35 : decode b_Pr_print 35 = .ok (.aload_n 0, 1) := by decide +kernel
theorem d_Pr_print_36 : decode b_Pr_print 36 = .ok (.getfield 37, 3) := by decide +kernel
theorem d_Pr_print_39 : decode b_Pr_print 39 = .ok (.ifCond .le 88, 3) := by decide +kernel
theorem d_Pr_print_42 : decode b_Pr_print 42 = .ok (.aload_n 0, 1) := by decide +kernel
theorem d_Pr_print_43 : decode b_Pr_print 43 = .ok (.getfield 33, 3) := by decide +kernel
theorem d_Pr_print_46 : decode b_Pr_print 46 = .ok (.ifCond .ne 81, 3) := by decide +kernel
theorem d_Pr_print_49 : decode b_Pr_print 49 = .ok (.aload_n 0, 1) := by decide +kernel
theorem d_Pr_print_50 : decode b_Pr_print 50 = .ok (.getfield 15, 3) := by decide +kernel
theorem d_Pr_print_53 : decode b_Pr_print 53 = .ok (.aload_n 0, 1) := by decide +kernel
theorem d_Pr_print_54 : decode b_Pr_print 54 = .ok (.getfield 37, 3) := by decide +kernel
theorem d_Pr_print_57 : decode b_Pr_print 57 = .ok (.iconst 1, 1) := by decide +kernel
theorem d_Pr_print_58 : decode b_Pr_print 58 = .ok (.isub, 1) := by decide +kernel
theorem d_Pr_print_59 : decode b_Pr_print 59 = .ok (.iaload, 1) := by decide +kernel
theorem d_Pr_print_60 : decode b_Pr_print 60 = .ok (.istore 4, 2) := by decide +kernel
theorem d_Pr_print_62 : decode b_Pr_print 62 = .ok (.aload_n 1, 1) := by decide +kernel
theorem d_Pr_print_63 : decode b_Pr_print 63 = .ok (.iload 4, 2) := by decide +kernel
theorem d_Pr_print_65 : decode b_Pr_print 65 = .ok (.invokevirtual 48, 3) := by decide +kernel
theorem d_Pr_print_68 : decode b_Pr_print 68 = .ok (.iconst 4, 1) := by decide +kernel
theorem d_Pr_print_69 : decode b_Pr_print 69 = .ok (.if_icmp .ne 45, 3) := by decide +kernel
theorem d_Pr_print_72 : decode b_Pr_print 72 = .ok (.aload_n 0, 1) := by decide +kernel
theorem d_Pr_print_73 : decode b_Pr_print 73 = .ok (.bipush 32, 2) := by decide +kernel
theorem d_Pr_print_75 : decode b_Pr_print 75 = .ok (.invokevirtual 54, 3) := by decide +kernel
theorem d_Pr_print_78 : decode b_Pr_print 78 = .ok (.aload_n 0, 1) := by decide +kernel
theorem d_Pr_print_79 : decode b_Pr_print 79 = .ok (.getfield 15, 3) := by decide +kernel
theorem d_Pr_print_82 : decode b_Pr_print 82 = .ok (.aload_n 0, 1) := by decide +kernel
theorem d_Pr_print_83 : decode b_Pr_print 83 = .ok (.getfield 37, 3) := by decide +kernel
theorem d_Pr_print_86 : decode b_Pr_print 86 = .ok (.iconst 1, 1) := by decide +kernel
theorem d_Pr_print_87 : decode b_Pr_print 87 = .ok (.isub, 1) := by decide +kernel
theorem d_Pr_print_88 : decode b_Pr_print 88 = .ok (.aload_n 1, 1) := by decide +kernel
theorem d_Pr_print_89 : decode b_Pr_print 89 = .ok (.iload 4, 2) := by decide +kernel
theorem d_Pr_print_91 : decode b_Pr_print 91 = .ok (.invokevirtual 58, 3) := by decide +kernel
theorem d_Pr_print_94 : decode b_Pr_print 94 = .ok (.iastore, 1) := by decide +kernel
theorem d_Pr_print_95 : decode b_Pr_print 95 = .ok (.aload_n 0, 1) := by decide +kernel
theorem d_Pr_print_96 : decode b_Pr_print 96 = .ok (.aload_n 1, 1) := by decide +kernel
theorem d_Pr_print_97 : decode b_Pr_print 97 = .ok (.aload_n 0, 1) := by decide +kernel
theorem d_Pr_print_98 : decode b_Pr_print 98 = .ok (.aload_n 1, 1) := by decide +kernel
theorem d_Pr_print_99 : decode b_Pr_print 99 = .ok (.aload_n 1, 1) := by decide +kernel
theorem d_Pr_print_100 : decode b_Pr_print 100 = .ok (.iload 4, 2) := by decide +kernel
theorem d_Pr_print_102 : decode b_Pr_print 102 = .ok (.invokevirtual 61, 3) := by decide +kernel
theorem d_Pr_print_105 : decode b_Pr_print 105 = .ok (.invokevirtual 40, 3) := by decide +kernel
theorem d_Pr_print_108 : decode b_Pr_print 108 = .ok (.invokevirtual 44, 3) := by decide +kernel
theorem d_Pr_print_111 : decode b_Pr_print 111 = .ok (.goto 10, 3) := by decide +kernel
theorem d_Pr_print_114 : decode b_Pr_print 114 = .ok (.aload_n 0, 1) := by decide +kernel
theorem d_Pr_print_115 : decode b_Pr_print 115 = .ok (.aload_n 1, 1) := by decide +kernel
theorem d_Pr_print_116 : decode b_Pr_print 116 = .ok (.iload 4, 2) := by decide +kernel
theorem d_Pr_print_118 : decode b_Pr_print 118 = .ok (.invokevirtual 64, 3) := by decide +kernel
theorem d_Pr_print_121 : decode b_Pr_print 121 = .ok (.iinc 3 1, 3) := by decide +kernel
theorem d_Pr_print_124 : decode b_Pr_print 124 = .ok (.goto (-96), 3) := by decide +kernel
theorem d_Pr_print_127 : decode b_Pr_print 127 = .ok (.aload_n 0, 1) := by decide +kernel
theorem d_Pr_print_128 : decode b_Pr_print 128 = .ok (.getfield 33, 3) := by decide +kernel
theorem d_Pr_print_131 : decode b_Pr_print 131 = .ok (.ifCond .eq 8, 3) := by decide +kernel
theorem d_Pr_print_134 : decode b_Pr_print 134 = .ok (.aload_n 0, 1) := by decide +kernel
theorem d_Pr_print_135 : decode b_Pr_print 135 = .ok (.iconst 0, 1) := by decide +kernel
theorem d_Pr_print_136 : decode b_Pr_print 136 = .ok (.putfield 29, 3) := by decide +kernel
theorem d_Pr_print_139 : decode b_Pr_print 139 = .ok (.aload_n 0, 1) := by decide +kernel
theorem d_Pr_print_140 : decode b_Pr_print 140 = .ok (.getfield 33, 3) := by decide +kernel
theorem d_Pr_print_143 : decode b_Pr_print 143 = .ok (.ifCond .ne 7, 3) := by decide +kernel
theorem d_Pr_print_146 : decode b_Pr_print 146 = .ok (.iconst 1, 1) := by decide +kernel
theorem d_Pr_print_147 : decode b_Pr_print 147 = .ok (.goto 4, 3) := by decide +kernel
theorem d_Pr_print_150 : decode b_Pr_print 150 = .ok (.iconst 0, 1) := by decide +kernel
theorem d_Pr_print_151 : decode b_Pr_print 151 = .ok (.ireturn, 1) := by decide +kernel
set_option maxRecDepth 20000 in
theorem g_He_fixedOf_0 {X : CX} {h : HP} {v0 : Int32} {Φ : Int32 → HP → Prop} (C : Cok X b_He_fixedOf 1 R_He ((some .int))) (Rm : xR X = rml 0 0 0) (Q : Qok X 0 0 (fun r h2 => ∃ v, r = some (.int v) ∧ Φ v h2)) 
    (K : Φ (v0 >>> (1 &&& (31 : Int32))) h) :
    Wg X 0 0 h [(0, .int v0)] [] 0 := by
  refine r_iload_n C 0 rfl d_He_fixedOf_0 ?_
  refine r_iconst (v := 1) C (by decide) d_He_fixedOf_1 ?_
  refine r_ishr C d_He_fixedOf_2 ?_
  exact q_iret C Q d_He_fixedOf_3 ⟨_, rfl, K⟩
set_option maxRecDepth 20000 in
theorem g_He_cellOf_0 {X : CX} {h : HP} {v0 : Int32} {Φ : Int32 → HP → Prop} (C : Cok X b_He_cellOf 1 R_He ((some .int))) (Rm : xR X = rml 0 0 0) (Q : Qok X 0 0 (fun r h2 => ∃ v, r = some (.int v) ∧ Φ v h2)) 
    (K : Φ ((v0 >>> (1 &&& (31 : Int32))) - 1) h) :
    Wg X 0 0 h [(0, .int v0)] [] 0 := by
  refine r_iload_n C 0 rfl d_He_cellOf_0 ?_
  refine r_iconst (v := 1) C (by decide) d_He_cellOf_1 ?_
  refine r_ishr C d_He_cellOf_2 ?_
  refine r_iconst (v := 1) C (by decide) d_He_cellOf_3 ?_
  refine r_isub C d_He_cellOf_4 ?_
  exact q_iret C Q d_He_cellOf_5 ⟨_, rfl, K⟩
set_option maxRecDepth 20000 in
theorem g_He_objectAt_0 {X : CX} {h : HP} {v0 : Int32} {Φ : Int32 → HP → Prop} (C : Cok X b_He_objectAt 1 R_He ((some .int))) (Rm : xR X = rml 0 0 0) (Q : Qok X 0 0 (fun r h2 => ∃ v, r = some (.int v) ∧ Φ v h2)) 
    (K : Φ ((v0 + 1) <<< (1 &&& (31 : Int32))) h) :
    Wg X 0 0 h [(0, .int v0)] [] 0 := by
  refine r_iload_n C 0 rfl d_He_objectAt_0 ?_
  refine r_iconst (v := 1) C (by decide) d_He_objectAt_1 ?_
  refine r_iadd C d_He_objectAt_2 ?_
  refine r_iconst (v := 1) C (by decide) d_He_objectAt_3 ?_
  refine r_ishl C d_He_objectAt_4 ?_
  exact q_iret C Q d_He_objectAt_5 ⟨_, rfl, K⟩
set_option maxRecDepth 20000 in
theorem g_He_isObject_0 {X : CX} {h : HP} {v0 : Int32} {Φ : Int32 → HP → Prop} (C : Cok X b_He_isObject 1 R_He ((some .boolean))) (Rm : xR X = rml 0 0 0) (Q : Qok X 0 0 (fun r h2 => ∃ v, r = some (.int v) ∧ Φ v h2)) 
    (K : (v0 = 0 → Φ 0 h) ∧ (¬ v0 = 0 → (¬ (v0 &&& 1) = 0 → Φ 0 h) ∧ ((v0 &&& 1) = 0 → Φ 1 h))) :
    Wg X 0 0 h [(0, .int v0)] [] 0 := by
  refine r_iload_n C 0 rfl d_He_isObject_0 ?_
  refine r_if_eq C 14 d_He_isObject_1 (by decide) ⟨fun c0 => ?_, fun c0 => ?_⟩
  · have K := K.1 c0
    refine r_iconst (v := 0) C (by decide) d_He_isObject_14 ?_
    exact q_zret C Q (by decide) d_He_isObject_15 ⟨_, rfl, K⟩
  · have K := K.2 c0
    refine r_iload_n C 0 rfl d_He_isObject_4 ?_
    refine r_iconst (v := 1) C (by decide) d_He_isObject_5 ?_
    refine r_iand C d_He_isObject_6 ?_
    refine r_if_ne C 14 d_He_isObject_7 (by decide) ⟨fun c0 => ?_, fun c0 => ?_⟩
    · have K := K.1 c0
      refine r_iconst (v := 0) C (by decide) d_He_isObject_14 ?_
      exact q_zret C Q (by decide) d_He_isObject_15 ⟨_, rfl, K⟩
    · have K := K.2 c0
      refine r_iconst (v := 1) C (by decide) d_He_isObject_10 ?_
      refine r_goto C 15 d_He_isObject_11 (by decide) ?_
      exact q_zret C Q (by decide) d_He_isObject_15 ⟨_, rfl, K⟩
set_option maxRecDepth 20000 in
theorem g_He_cellsFor_0 {X : CX} {h : HP} {p0 : Nat} {Φ : Int32 → HP → Prop} (C : Cok X b_He_cellsFor 1 R_He ((some .int))) (Rm : xR X = rml 1 0 0) (Q : Qok X 0 0 (fun r h2 => ∃ v, r = some (.int v) ∧ Φ v h2)) (hp0 : kd p0 = (0, 0))
    (K : K_Wh_isFixed [.ref p0] h (fun r1 h1 => (r1 = 0 → Φ (1 + (h1 p0 1)) h1) ∧ (¬ r1 = 0 → Φ 0 h1))) :
    Wg X 0 0 h [(0, .ref p0)] [] 0 := by
  refine r_aload_n C 0 rfl d_He_cellsFor_0 ?_
  refine r_callV (As := []) (st := []) (lvc := 0) (mcc := 0) (msc := 0) C Rm M_Wh_isFixed rfl k_400 hp0 (by decide) (Nat.le_of_ble_eq_true rfl) ⟨by decide, by decide⟩ d_He_cellsFor_1 ?_
  refine Can.mono K (fun _ h1 z => ?_)
  obtain ⟨r1, rfl, K⟩ := z
  show Wg X 0 0 h1 [(0, .ref p0)] [.int r1] 4
  refine r_if_eq C 11 d_He_cellsFor_4 (by decide) ⟨fun c0 => ?_, fun c0 => ?_⟩
  · have K := K.1 c0
    refine r_iconst (v := 1) C (by decide) d_He_cellsFor_11 ?_
    refine r_aload_n C 0 rfl d_He_cellsFor_12 ?_
    refine gf_Wh_length C hp0 k_111 d_He_cellsFor_13 ?_
    refine r_iadd C d_He_cellsFor_16 ?_
    exact q_iret C Q d_He_cellsFor_17 ⟨_, rfl, K⟩
  · have K := K.2 c0
    refine r_iconst (v := 0) C (by decide) d_He_cellsFor_7 ?_
    refine r_goto C 17 d_He_cellsFor_8 (by decide) ?_
    exact q_iret C Q d_He_cellsFor_17 ⟨_, rfl, K⟩
set_option maxRecDepth 20000 in
theorem g_He_cellsFor__0 {X : CX} {h : HP} {p0 : Nat} {Φ : Int32 → HP → Prop} (C : Cok X b_He_cellsFor_ 2 R_He ((some .int))) (Rm : xR X = rml 2 0 0) (Q : Qok X 0 0 (fun r h2 => ∃ v, r = some (.int v) ∧ Φ v h2)) (hp0 : kd p0 = (1, 0))
    (K : K_He_cellsFor [.ref (p0 + 1)] h (fun r1 h1 => K_Ra_isWhole [.ref p0] h1 (fun r2 h2 => (r2 = 0 → K_He_cellsFor [.ref (p0 + 3)] h2 (fun r3 h3 => Φ ((r1 + r3) + 3) h3)) ∧ (¬ r2 = 0 → Φ r1 h2)))) :
    Wg X 0 0 h [(0, .ref p0)] [] 0 := by
  refine r_aload_n C 0 rfl d_He_cellsFor__0 ?_
  refine gf_Ra_upper (k2 := p0 + 1) C rfl hp0 k_127 d_He_cellsFor__1 ?_
  refine r_callS (As := [.ref (p0 + 1)]) (st := []) (lvc := 1) (mcc := 0) (msc := 0) C Rm M_He_cellsFor rfl k_397 (by decide) (Nat.le_of_ble_eq_true rfl) ⟨by decide, by decide⟩ d_He_cellsFor__4 ?_
  refine Can.mono K (fun _ h1 z => ?_)
  obtain ⟨r1, rfl, K⟩ := z
  show Wg X 0 0 h1 [(0, .ref p0)] [.int r1] 7
  refine r_istore_n (ls2 := [(0, .ref p0), (1, .int r1)]) C rfl (by decide) rfl d_He_cellsFor__7 ?_
  refine r_aload_n C 0 rfl d_He_cellsFor__8 ?_
  refine r_callV (As := []) (st := []) (lvc := 1) (mcc := 0) (msc := 0) C Rm M_Ra_isWhole rfl k_406 hp0 (by decide) (Nat.le_of_ble_eq_true rfl) ⟨by decide, by decide⟩ d_He_cellsFor__9 ?_
  refine Can.mono K (fun _ h2 z => ?_)
  obtain ⟨r2, rfl, K⟩ := z
  show Wg X 0 0 h2 [(0, .ref p0), (1, .int r1)] [.int r2] 12
  refine r_if_eq C 19 d_He_cellsFor__12 (by decide) ⟨fun c0 => ?_, fun c0 => ?_⟩
  · have K := K.1 c0
    refine r_iload_n C 1 rfl d_He_cellsFor__19 ?_
    refine r_aload_n C 0 rfl d_He_cellsFor__20 ?_
    refine gf_Ra_lower (k2 := p0 + 3) C rfl hp0 k_132 d_He_cellsFor__21 ?_
    refine r_callS (As := [.ref (p0 + 3)]) (st := [.int r1]) (lvc := 1) (mcc := 0) (msc := 0) C Rm M_He_cellsFor rfl k_397 (by decide) (Nat.le_of_ble_eq_true rfl) ⟨by decide, by decide⟩ d_He_cellsFor__24 ?_
    refine Can.mono K (fun _ h3 z => ?_)
    obtain ⟨r3, rfl, K⟩ := z
    show Wg X 0 0 h3 [(0, .ref p0), (1, .int r1)] [.int r3, .int r1] 27
    refine r_iadd C d_He_cellsFor__27 ?_
    refine r_iconst (v := 3) C (by decide) d_He_cellsFor__28 ?_
    refine r_iadd C d_He_cellsFor__29 ?_
    exact q_iret C Q d_He_cellsFor__30 ⟨_, rfl, K⟩
  · have K := K.2 c0
    refine r_iload_n C 1 rfl d_He_cellsFor__15 ?_
    refine r_goto C 30 d_He_cellsFor__16 (by decide) ?_
    exact q_iret C Q d_He_cellsFor__30 ⟨_, rfl, K⟩
set_option maxRecDepth 20000 in
theorem g_He_sortAt_0 {X : CX} {h : HP} {v1 : Int32} {Φ : Int32 → HP → Prop} (C : Cok X b_He_sortAt 2 R_He ((some .int))) (Rm : xR X = rml 0 0 0) (Q : Qok X 0 0 (fun r h2 => ∃ v, r = some (.int v) ∧ Φ v h2)) 
    (K : vp_in v1 400 ∧ (Φ ((h 16 v1.toNatClampNeg) &&& 7) h)) :
    Wg X 0 0 h [(0, .ref 15), (1, .int v1)] [] 0 := by
  refine r_aload_n C 0 rfl d_He_sortAt_0 ?_
  refine gf_He_cells (k2 := 16) C rfl rfl k_41 d_He_sortAt_1 ?_
  refine r_iload_n C 1 rfl d_He_sortAt_4 ?_
  obtain ⟨s0, K⟩ := K
  refine r_iald C rfl s0 d_He_sortAt_5 ?_
  refine r_bipush (v := 7) C (by decide) d_He_sortAt_6 ?_
  refine r_iand C d_He_sortAt_8 ?_
  exact q_iret C Q d_He_sortAt_9 ⟨_, rfl, K⟩
set_option maxRecDepth 20000 in
theorem g_He_sizeAt_0 {X : CX} {h : HP} {v1 : Int32} {Φ : Int32 → HP → Prop} (C : Cok X b_He_sizeAt 2 R_He ((some .int))) (Rm : xR X = rml 0 0 0) (Q : Qok X 0 0 (fun r h2 => ∃ v, r = some (.int v) ∧ Φ v h2)) 
    (K : vp_in v1 400 ∧ (Φ ((h 16 v1.toNatClampNeg) >>> (4 &&& (31 : Int32))) h)) :
    Wg X 0 0 h [(0, .ref 15), (1, .int v1)] [] 0 := by
  refine r_aload_n C 0 rfl d_He_sizeAt_0 ?_
  refine gf_He_cells (k2 := 16) C rfl rfl k_41 d_He_sizeAt_1 ?_
  refine r_iload_n C 1 rfl d_He_sizeAt_4 ?_
  obtain ⟨s0, K⟩ := K
  refine r_iald C rfl s0 d_He_sizeAt_5 ?_
  refine r_iconst (v := 4) C (by decide) d_He_sizeAt_6 ?_
  refine r_ishr C d_He_sizeAt_7 ?_
  exact q_iret C Q d_He_sizeAt_8 ⟨_, rfl, K⟩
set_option maxRecDepth 20000 in
theorem g_He_sortOf_0 {X : CX} {h : HP} {v1 : Int32} {Φ : Int32 → HP → Prop} (C : Cok X b_He_sortOf 2 R_He ((some .int))) (Rm : xR X = rml 1 0 0) (Q : Qok X 0 0 (fun r h2 => ∃ v, r = some (.int v) ∧ Φ v h2)) 
    (K : K_He_isObject [.int v1] h (fun r1 h1 => (r1 = 0 → (¬ v1 = 0 → Φ 1 h1) ∧ (v1 = 0 → Φ 0 h1)) ∧ (¬ r1 = 0 → K_He_cellOf [.int v1] h1 (fun r2 h2 => K_He_sortAt [.ref 15, .int r2] h2 (fun r3 h3 => Φ r3 h3))))) :
    Wg X 0 0 h [(0, .ref 15), (1, .int v1)] [] 0 := by
  refine r_iload_n C 1 rfl d_He_sortOf_0 ?_
  refine r_callS (As := [.int v1]) (st := []) (lvc := 0) (mcc := 0) (msc := 0) C Rm M_He_isObject rfl k_258 (by decide) (Nat.le_of_ble_eq_true rfl) ⟨by decide, by decide⟩ d_He_sortOf_1 ?_
  refine Can.mono K (fun _ h1 z => ?_)
  obtain ⟨r1, rfl, K⟩ := z
  show Wg X 0 0 h1 [(0, .ref 15), (1, .int v1)] [.int r1] 4
  refine r_if_eq C 16 d_He_sortOf_4 (by decide) ⟨fun c0 => ?_, fun c0 => ?_⟩
  · have K := K.1 c0
    refine r_iload_n C 1 rfl d_He_sortOf_16 ?_
    refine r_if_ne C 24 d_He_sortOf_17 (by decide) ⟨fun c0 => ?_, fun c0 => ?_⟩
    · have K := K.1 c0
      refine r_iconst (v := 1) C (by decide) d_He_sortOf_24 ?_
      exact q_iret C Q d_He_sortOf_25 ⟨_, rfl, K⟩
    · have K := K.2 c0
      refine r_iconst (v := 0) C (by decide) d_He_sortOf_20 ?_
      refine r_goto C 25 d_He_sortOf_21 (by decide) ?_
      exact q_iret C Q d_He_sortOf_25 ⟨_, rfl, K⟩
  · have K := K.2 c0
    refine r_aload_n C 0 rfl d_He_sortOf_7 ?_
    refine r_iload_n C 1 rfl d_He_sortOf_8 ?_
    refine r_callS (As := [.int v1]) (st := [.ref 15]) (lvc := 0) (mcc := 0) (msc := 0) C Rm M_He_cellOf rfl k_261 (by decide) (Nat.le_of_ble_eq_true rfl) ⟨by decide, by decide⟩ d_He_sortOf_9 ?_
    refine Can.mono K (fun _ h2 z => ?_)
    obtain ⟨r2, rfl, K⟩ := z
    show Wg X 0 0 h2 [(0, .ref 15), (1, .int v1)] [.int r2, .ref 15] 12
    refine r_callV (As := [.int r2]) (st := []) (lvc := 0) (mcc := 0) (msc := 0) C Rm M_He_sortAt rfl k_264 rfl (by decide) (Nat.le_of_ble_eq_true rfl) ⟨by decide, by decide⟩ d_He_sortOf_12 ?_
    refine Can.mono K (fun _ h3 z => ?_)
    obtain ⟨r3, rfl, K⟩ := z
    show Wg X 0 0 h3 [(0, .ref 15), (1, .int v1)] [.int r3] 15
    exact q_iret C Q d_He_sortOf_15 ⟨_, rfl, K⟩
set_option maxRecDepth 20000 in
theorem g_He_firstOf_0 {X : CX} {h : HP} {v1 : Int32} {Φ : Int32 → HP → Prop} (C : Cok X b_He_firstOf 2 R_He ((some .int))) (Rm : xR X = rml 1 0 0) (Q : Qok X 0 0 (fun r h2 => ∃ v, r = some (.int v) ∧ Φ v h2)) 
    (K : K_He_cellOf [.int v1] h (fun r1 h1 => vp_in (r1 + 1) 400 ∧ (Φ (h1 16 (r1 + 1).toNatClampNeg) h1))) :
    Wg X 0 0 h [(0, .ref 15), (1, .int v1)] [] 0 := by
  refine r_aload_n C 0 rfl d_He_firstOf_0 ?_
  refine gf_He_cells (k2 := 16) C rfl rfl k_41 d_He_firstOf_1 ?_
  refine r_iload_n C 1 rfl d_He_firstOf_4 ?_
  refine r_callS (As := [.int v1]) (st := [.ref 16]) (lvc := 0) (mcc := 0) (msc := 0) C Rm M_He_cellOf rfl k_261 (by decide) (Nat.le_of_ble_eq_true rfl) ⟨by decide, by decide⟩ d_He_firstOf_5 ?_
  refine Can.mono K (fun _ h1 z => ?_)
  obtain ⟨r1, rfl, K⟩ := z
  show Wg X 0 0 h1 [(0, .ref 15), (1, .int v1)] [.int r1, .ref 16] 8
  refine r_iconst (v := 1) C (by decide) d_He_firstOf_8 ?_
  refine r_iadd C d_He_firstOf_9 ?_
  obtain ⟨s0, K⟩ := K
  refine r_iald C rfl s0 d_He_firstOf_10 ?_
  exact q_iret C Q d_He_firstOf_11 ⟨_, rfl, K⟩
set_option maxRecDepth 20000 in
theorem g_He_secondOf_0 {X : CX} {h : HP} {v1 : Int32} {Φ : Int32 → HP → Prop} (C : Cok X b_He_secondOf 2 R_He ((some .int))) (Rm : xR X = rml 1 0 0) (Q : Qok X 0 0 (fun r h2 => ∃ v, r = some (.int v) ∧ Φ v h2)) 
    (K : K_He_cellOf [.int v1] h (fun r1 h1 => vp_in (r1 + 2) 400 ∧ (Φ (h1 16 (r1 + 2).toNatClampNeg) h1))) :
    Wg X 0 0 h [(0, .ref 15), (1, .int v1)] [] 0 := by
  refine r_aload_n C 0 rfl d_He_secondOf_0 ?_
  refine gf_He_cells (k2 := 16) C rfl rfl k_41 d_He_secondOf_1 ?_
  refine r_iload_n C 1 rfl d_He_secondOf_4 ?_
  refine r_callS (As := [.int v1]) (st := [.ref 16]) (lvc := 0) (mcc := 0) (msc := 0) C Rm M_He_cellOf rfl k_261 (by decide) (Nat.le_of_ble_eq_true rfl) ⟨by decide, by decide⟩ d_He_secondOf_5 ?_
  refine Can.mono K (fun _ h1 z => ?_)
  obtain ⟨r1, rfl, K⟩ := z
  show Wg X 0 0 h1 [(0, .ref 15), (1, .int v1)] [.int r1, .ref 16] 8
  refine r_iconst (v := 2) C (by decide) d_He_secondOf_8 ?_
  refine r_iadd C d_He_secondOf_9 ?_
  obtain ⟨s0, K⟩ := K
  refine r_iald C rfl s0 d_He_secondOf_10 ?_
  exact q_iret C Q d_He_secondOf_11 ⟨_, rfl, K⟩
set_option maxRecDepth 20000 in
theorem g_He_fetchWhole_0 {X : CX} {h : HP} {p2 : Nat} {v1 : Int32} {Φ : HP → Prop} (C : Cok X b_He_fetchWhole 4 R_He none) (Rm : xR X = rml 3 0 0) (Q : Qok X 0 0 (fun r h2 => r = none ∧ Φ h2)) (hp2 : kd p2 = (0, 0))
    (K : K_He_sortOf [.ref 15, .int v1] h (fun r1 h1 => (r1 = (2 : Int32) → K_He_cellOf [.int v1] h1 (fun r2 h2 => K_He_sizeAt [.ref 15, .int r2] h2 (fun r3 h3 => K_Wh_setWords [.ref p2, .ref 16, .int (r2 + 1), .int (r3 - 1)] h3 (fun h4 => vp_in r2 400 ∧ ((((h4 16 r2.toNatClampNeg) &&& 8) = 0 → Φ (up h4 p2 2 0)) ∧ (¬ ((h4 16 r2.toNatClampNeg) &&& 8) = 0 → Φ (up h4 p2 2 1))))))) ∧ (¬ r1 = (2 : Int32) → K_He_fixedOf [.int v1] h1 (fun r5 h5 => K_Wh_setLong [.ref p2, .long (Int32.toInt64 r5)] h5 (fun h6 => Φ h6))))) :
    Wg X 0 0 h [(0, .ref 15), (1, .int v1), (2, .ref p2)] [] 0 := by
  refine r_aload_n C 0 rfl d_He_fetchWhole_0 ?_
  refine r_iload_n C 1 rfl d_He_fetchWhole_1 ?_
  refine r_callV (As := [.int v1]) (st := []) (lvc := 1) (mcc := 0) (msc := 0) C Rm M_He_sortOf rfl k_492 rfl (by decide) (Nat.le_of_ble_eq_true rfl) ⟨by decide, by decide⟩ d_He_fetchWhole_2 ?_
  refine Can.mono K (fun _ h1 z => ?_)
  obtain ⟨r1, rfl, K⟩ := z
  show Wg X 0 0 h1 [(0, .ref 15), (1, .int v1), (2, .ref p2)] [.int r1] 5
  refine r_iconst (v := 2) C (by decide) d_He_fetchWhole_5 ?_
  refine r_icmp_eq C 19 d_He_fetchWhole_6 (by decide) ⟨fun c0 => ?_, fun c0 => ?_⟩
  · have K := K.1 c0
    refine r_iload_n C 1 rfl d_He_fetchWhole_19 ?_
    refine r_callS (As := [.int v1]) (st := []) (lvc := 0) (mcc := 0) (msc := 0) C Rm M_He_cellOf rfl k_261 (by decide) (Nat.le_of_ble_eq_true rfl) ⟨by decide, by decide⟩ d_He_fetchWhole_20 ?_
    refine Can.mono K (fun _ h2 z => ?_)
    obtain ⟨r2, rfl, K⟩ := z
    show Wg X 0 0 h2 [(0, .ref 15), (1, .int v1), (2, .ref p2)] [.int r2] 23
    refine r_istore_n (ls2 := [(0, .ref 15), (1, .int v1), (2, .ref p2), (3, .int r2)]) C rfl (by decide) rfl d_He_fetchWhole_23 ?_
    refine r_aload_n C 2 rfl d_He_fetchWhole_24 ?_
    refine r_aload_n C 0 rfl d_He_fetchWhole_25 ?_
    refine gf_He_cells (k2 := 16) C rfl rfl k_41 d_He_fetchWhole_26 ?_
    refine r_iload_n C 3 rfl d_He_fetchWhole_29 ?_
    refine r_iconst (v := 1) C (by decide) d_He_fetchWhole_30 ?_
    refine r_iadd C d_He_fetchWhole_31 ?_
    refine r_aload_n C 0 rfl d_He_fetchWhole_32 ?_
    refine r_iload_n C 3 rfl d_He_fetchWhole_33 ?_
    refine r_callV (As := [.int r2]) (st := [.int (r2 + 1), .ref 16, .ref p2]) (lvc := 0) (mcc := 0) (msc := 0) C Rm M_He_sizeAt rfl k_272 rfl (by decide) (Nat.le_of_ble_eq_true rfl) ⟨by decide, by decide⟩ d_He_fetchWhole_34 ?_
    refine Can.mono K (fun _ h3 z => ?_)
    obtain ⟨r3, rfl, K⟩ := z
    show Wg X 0 0 h3 [(0, .ref 15), (1, .int v1), (2, .ref p2), (3, .int r2)] [.int r3, .int (r2 + 1), .ref 16, .ref p2] 37
    refine r_iconst (v := 1) C (by decide) d_He_fetchWhole_37 ?_
    refine r_isub C d_He_fetchWhole_38 ?_
    refine r_callV (As := [.ref 16, .int (r2 + 1), .int (r3 - 1)]) (st := []) (lvc := 2) (mcc := 0) (msc := 0) C Rm M_Wh_setWords rfl k_502 hp2 (by decide) (Nat.le_of_ble_eq_true rfl) ⟨by decide, by decide⟩ d_He_fetchWhole_39 ?_
    refine Can.mono K (fun _ h4 z => ?_)
    obtain ⟨rfl, K⟩ := z
    show Wg X 0 0 h4 [(0, .ref 15), (1, .int v1), (2, .ref p2), (3, .int r2)] [] 42
    refine r_aload_n C 2 rfl d_He_fetchWhole_42 ?_
    refine r_aload_n C 0 rfl d_He_fetchWhole_43 ?_
    refine gf_He_cells (k2 := 16) C rfl rfl k_41 d_He_fetchWhole_44 ?_
    refine r_iload_n C 3 rfl d_He_fetchWhole_47 ?_
    obtain ⟨s0, K⟩ := K
    refine r_iald C rfl s0 d_He_fetchWhole_48 ?_
    refine r_bipush (v := 8) C (by decide) d_He_fetchWhole_49 ?_
    refine r_iand C d_He_fetchWhole_51 ?_
    refine r_if_eq C 59 d_He_fetchWhole_52 (by decide) ⟨fun c0 => ?_, fun c0 => ?_⟩
    · have K := K.1 c0
      refine r_iconst (v := 0) C (by decide) d_He_fetchWhole_59 ?_
      refine pf_Wh_below C hp2 (by decide) k_116 d_He_fetchWhole_60 ?_
      exact q_vret C Q d_He_fetchWhole_63 ⟨rfl, K⟩
    · have K := K.2 c0
      refine r_iconst (v := 1) C (by decide) d_He_fetchWhole_55 ?_
      refine r_goto C 60 d_He_fetchWhole_56 (by decide) ?_
      refine pf_Wh_below C hp2 (by decide) k_116 d_He_fetchWhole_60 ?_
      exact q_vret C Q d_He_fetchWhole_63 ⟨rfl, K⟩
  · have K := K.2 c0
    refine r_aload_n C 2 rfl d_He_fetchWhole_9 ?_
    refine r_iload_n C 1 rfl d_He_fetchWhole_10 ?_
    refine r_callS (As := [.int v1]) (st := [.ref p2]) (lvc := 0) (mcc := 0) (msc := 0) C Rm M_He_fixedOf rfl k_498 (by decide) (Nat.le_of_ble_eq_true rfl) ⟨by decide, by decide⟩ d_He_fetchWhole_11 ?_
    refine Can.mono K (fun _ h5 z => ?_)
    obtain ⟨r5, rfl, K⟩ := z
    show Wg X 0 0 h5 [(0, .ref 15), (1, .int v1), (2, .ref p2)] [.int r5, .ref p2] 14
    refine r_i2l C d_He_fetchWhole_14 ?_
    refine r_callV (As := [.long (Int32.toInt64 r5)]) (st := []) (lvc := 1) (mcc := 0) (msc := 0) C Rm M_Wh_setLong rfl k_501 hp2 (by decide) (Nat.le_of_ble_eq_true rfl) ⟨by decide, by decide⟩ d_He_fetchWhole_15 ?_
    refine Can.mono K (fun _ h6 z => ?_)
    obtain ⟨rfl, K⟩ := z
    show Wg X 0 0 h6 [(0, .ref 15), (1, .int v1), (2, .ref p2)] [] 18
    exact q_vret C Q d_He_fetchWhole_18 ⟨rfl, K⟩
set_option maxRecDepth 20000 in
theorem g_He_fetchNumber_0 {X : CX} {h : HP} {p2 : Nat} {v1 : Int32} {Φ : HP → Prop} (C : Cok X b_He_fetchNumber 3 R_He none) (Rm : xR X = rml 4 0 0) (Q : Qok X 0 0 (fun r h2 => r = none ∧ Φ h2)) (hp2 : kd p2 = (1, 0))
    (K : K_He_sortOf [.ref 15, .int v1] h (fun r1 h1 => (¬ r1 = (3 : Int32) → K_He_fetchWhole [.ref 15, .int v1, .ref (p2 + 1)] h1 (fun h2 => K_Wh_setLong [.ref (p2 + 3), .long 1] h2 (fun h3 => Φ h3))) ∧ (r1 = (3 : Int32) → K_He_firstOf [.ref 15, .int v1] h1 (fun r4 h4 => K_He_fetchWhole [.ref 15, .int r4, .ref (p2 + 1)] h4 (fun h5 => K_He_secondOf [.ref 15, .int v1] h5 (fun r6 h6 => K_He_fetchWhole [.ref 15, .int r6, .ref (p2 + 3)] h6 (fun h7 => Φ h7))))))) :
    Wg X 0 0 h [(0, .ref 15), (1, .int v1), (2, .ref p2)] [] 0 := by
  refine r_aload_n C 0 rfl d_He_fetchNumber_0 ?_
  refine r_iload_n C 1 rfl d_He_fetchNumber_1 ?_
  refine r_callV (As := [.int v1]) (st := []) (lvc := 1) (mcc := 0) (msc := 0) C Rm M_He_sortOf rfl k_492 rfl (by decide) (Nat.le_of_ble_eq_true rfl) ⟨by decide, by decide⟩ d_He_fetchNumber_2 ?_
  refine Can.mono K (fun _ h1 z => ?_)
  obtain ⟨r1, rfl, K⟩ := z
  show Wg X 0 0 h1 [(0, .ref 15), (1, .int v1), (2, .ref p2)] [.int r1] 5
  refine r_iconst (v := 3) C (by decide) d_He_fetchNumber_5 ?_
  refine r_icmp_ne C 38 d_He_fetchNumber_6 (by decide) ⟨fun c0 => ?_, fun c0 => ?_⟩
  · have K := K.1 c0
    refine r_aload_n C 0 rfl d_He_fetchNumber_38 ?_
    refine r_iload_n C 1 rfl d_He_fetchNumber_39 ?_
    refine r_aload_n C 2 rfl d_He_fetchNumber_40 ?_
    refine gf_Ra_upper (k2 := p2 + 1) C rfl hp2 k_127 d_He_fetchNumber_41 ?_
    refine r_callV (As := [.int v1, .ref (p2 + 1)]) (st := []) (lvc := 3) (mcc := 0) (msc := 0) C Rm M_He_fetchWhole rfl k_494 rfl (by decide) (Nat.le_of_ble_eq_true rfl) ⟨by decide, by decide⟩ d_He_fetchNumber_44 ?_
    refine Can.mono K (fun _ h2 z => ?_)
    obtain ⟨rfl, K⟩ := z
    show Wg X 0 0 h2 [(0, .ref 15), (1, .int v1), (2, .ref p2)] [] 47
    refine r_aload_n C 2 rfl d_He_fetchNumber_47 ?_
    refine gf_Ra_lower (k2 := p2 + 3) C rfl hp2 k_132 d_He_fetchNumber_48 ?_
    refine r_lconst (v := 1) C (by decide) d_He_fetchNumber_51 ?_
    refine r_callV (As := [.long 1]) (st := []) (lvc := 1) (mcc := 0) (msc := 0) C Rm M_Wh_setLong rfl k_501 (kRa3 hp2) (by decide) (Nat.le_of_ble_eq_true rfl) ⟨by decide, by decide⟩ d_He_fetchNumber_52 ?_
    refine Can.mono K (fun _ h3 z => ?_)
    obtain ⟨rfl, K⟩ := z
    show Wg X 0 0 h3 [(0, .ref 15), (1, .int v1), (2, .ref p2)] [] 55
    exact q_vret C Q d_He_fetchNumber_55 ⟨rfl, K⟩
  · have K := K.2 c0
    refine r_aload_n C 0 rfl d_He_fetchNumber_9 ?_
    refine r_aload_n C 0 rfl d_He_fetchNumber_10 ?_
    refine r_iload_n C 1 rfl d_He_fetchNumber_11 ?_
    refine r_callV (As := [.int v1]) (st := [.ref 15]) (lvc := 1) (mcc := 0) (msc := 0) C Rm M_He_firstOf rfl k_493 rfl (by decide) (Nat.le_of_ble_eq_true rfl) ⟨by decide, by decide⟩ d_He_fetchNumber_12 ?_
    refine Can.mono K (fun _ h4 z => ?_)
    obtain ⟨r4, rfl, K⟩ := z
    show Wg X 0 0 h4 [(0, .ref 15), (1, .int v1), (2, .ref p2)] [.int r4, .ref 15] 15
    refine r_aload_n C 2 rfl d_He_fetchNumber_15 ?_
    refine gf_Ra_upper (k2 := p2 + 1) C rfl hp2 k_127 d_He_fetchNumber_16 ?_
    refine r_callV (As := [.int r4, .ref (p2 + 1)]) (st := []) (lvc := 3) (mcc := 0) (msc := 0) C Rm M_He_fetchWhole rfl k_494 rfl (by decide) (Nat.le_of_ble_eq_true rfl) ⟨by decide, by decide⟩ d_He_fetchNumber_19 ?_
    refine Can.mono K (fun _ h5 z => ?_)
    obtain ⟨rfl, K⟩ := z
    show Wg X 0 0 h5 [(0, .ref 15), (1, .int v1), (2, .ref p2)] [] 22
    refine r_aload_n C 0 rfl d_He_fetchNumber_22 ?_
    refine r_aload_n C 0 rfl d_He_fetchNumber_23 ?_
    refine r_iload_n C 1 rfl d_He_fetchNumber_24 ?_
    refine r_callV (As := [.int v1]) (st := [.ref 15]) (lvc := 1) (mcc := 0) (msc := 0) C Rm M_He_secondOf rfl k_507 rfl (by decide) (Nat.le_of_ble_eq_true rfl) ⟨by decide, by decide⟩ d_He_fetchNumber_25 ?_
    refine Can.mono K (fun _ h6 z => ?_)
    obtain ⟨r6, rfl, K⟩ := z
    show Wg X 0 0 h6 [(0, .ref 15), (1, .int v1), (2, .ref p2)] [.int r6, .ref 15] 28
    refine r_aload_n C 2 rfl d_He_fetchNumber_28 ?_
    refine gf_Ra_lower (k2 := p2 + 3) C rfl hp2 k_132 d_He_fetchNumber_29 ?_
    refine r_callV (As := [.int r6, .ref (p2 + 3)]) (st := []) (lvc := 3) (mcc := 0) (msc := 0) C Rm M_He_fetchWhole rfl k_494 rfl (by decide) (Nat.le_of_ble_eq_true rfl) ⟨by decide, by decide⟩ d_He_fetchNumber_32 ?_
    refine Can.mono K (fun _ h7 z => ?_)
    obtain ⟨rfl, K⟩ := z
    show Wg X 0 0 h7 [(0, .ref 15), (1, .int v1), (2, .ref p2)] [] 35
    refine r_goto C 55 d_He_fetchNumber_35 (by decide) ?_
    exact q_vret C Q d_He_fetchNumber_55 ⟨rfl, K⟩
set_option maxRecDepth 20000 in
theorem g_He_reach_0 {X : CX} {h : HP} {v1 : Int32} {Φ : HP → Prop} (C : Cok X b_He_reach 2 R_He none) (Rm : xR X = rml 1 0 0) (Q : Qok X 0 0 (fun r h2 => r = none ∧ Φ h2)) 
    (K : K_He_isObject [.int v1] h (fun r1 h1 => (r1 = 0 → Φ h1) ∧ (¬ r1 = 0 → K_He_cellOf [.int v1] h1 (fun r2 h2 => vp_in r2 400 ∧ ((¬ (h2 18 r2.toNatClampNeg) = 0 → Φ h2) ∧ ((h2 18 r2.toNatClampNeg) = 0 → K_He_cellOf [.int v1] h2 (fun r3 h3 => vp_in r3 400 ∧ (K_He_cellOf [.int v1] (up h3 18 r3.toNatClampNeg (vp_nar .boolean 1)) (fun r4 h4 => vp_in ((up h3 18 r3.toNatClampNeg (vp_nar .boolean 1)) 15 7) 400 ∧ (Φ (up (up h4 20 ((up h3 18 r3.toNatClampNeg (vp_nar .boolean 1)) 15 7).toNatClampNeg r4) 15 7 (((up h4 20 ((up h3 18 r3.toNatClampNeg (vp_nar .boolean 1)) 15 7).toNatClampNeg r4) 15 7) + 1)))))))))))) :
    Wg X 0 0 h [(0, .ref 15), (1, .int v1)] [] 0 := by
  refine r_iload_n C 1 rfl d_He_reach_0 ?_
  refine r_callS (As := [.int v1]) (st := []) (lvc := 0) (mcc := 0) (msc := 0) C Rm M_He_isObject rfl k_258 (by decide) (Nat.le_of_ble_eq_true rfl) ⟨by decide, by decide⟩ d_He_reach_1 ?_
  refine Can.mono K (fun _ h1 z => ?_)
  obtain ⟨r1, rfl, K⟩ := z
  show Wg X 0 0 h1 [(0, .ref 15), (1, .int v1)] [.int r1] 4
  refine r_if_eq C 52 d_He_reach_4 (by decide) ⟨fun c0 => ?_, fun c0 => ?_⟩
  · have K := K.1 c0
    exact q_vret C Q d_He_reach_52 ⟨rfl, K⟩
  · have K := K.2 c0
    refine r_aload_n C 0 rfl d_He_reach_7 ?_
    refine gf_He_lives (k2 := 18) C rfl rfl k_49 d_He_reach_8 ?_
    refine r_iload_n C 1 rfl d_He_reach_11 ?_
    refine r_callS (As := [.int v1]) (st := [.ref 18]) (lvc := 0) (mcc := 0) (msc := 0) C Rm M_He_cellOf rfl k_261 (by decide) (Nat.le_of_ble_eq_true rfl) ⟨by decide, by decide⟩ d_He_reach_12 ?_
    refine Can.mono K (fun _ h2 z => ?_)
    obtain ⟨r2, rfl, K⟩ := z
    show Wg X 0 0 h2 [(0, .ref 15), (1, .int v1)] [.int r2, .ref 18] 15
    obtain ⟨s0, K⟩ := K
    refine r_zald C rfl s0 d_He_reach_15 ?_
    refine r_if_ne C 52 d_He_reach_16 (by decide) ⟨fun c0 => ?_, fun c0 => ?_⟩
    · have K := K.1 c0
      exact q_vret C Q d_He_reach_52 ⟨rfl, K⟩
    · have K := K.2 c0
      refine r_aload_n C 0 rfl d_He_reach_19 ?_
      refine gf_He_lives (k2 := 18) C rfl rfl k_49 d_He_reach_20 ?_
      refine r_iload_n C 1 rfl d_He_reach_23 ?_
      refine r_callS (As := [.int v1]) (st := [.ref 18]) (lvc := 0) (mcc := 0) (msc := 0) C Rm M_He_cellOf rfl k_261 (by decide) (Nat.le_of_ble_eq_true rfl) ⟨by decide, by decide⟩ d_He_reach_24 ?_
      refine Can.mono K (fun _ h3 z => ?_)
      obtain ⟨r3, rfl, K⟩ := z
      show Wg X 0 0 h3 [(0, .ref 15), (1, .int v1)] [.int r3, .ref 18] 27
      refine r_iconst (v := 1) C (by decide) d_He_reach_27 ?_
      obtain ⟨s0, K⟩ := K
      refine r_zast C rfl s0 d_He_reach_28 ?_
      refine r_aload_n C 0 rfl d_He_reach_29 ?_
      refine gf_He_found (k2 := 20) C rfl rfl k_51 d_He_reach_30 ?_
      refine r_aload_n C 0 rfl d_He_reach_33 ?_
      refine gf_He_foundCount C rfl k_52 d_He_reach_34 ?_
      refine r_iload_n C 1 rfl d_He_reach_37 ?_
      refine r_callS (As := [.int v1]) (st := [.int ((up h3 18 r3.toNatClampNeg (vp_nar .boolean 1)) 15 7), .ref 20]) (lvc := 0) (mcc := 0) (msc := 0) C Rm M_He_cellOf rfl k_261 (by decide) (Nat.le_of_ble_eq_true rfl) ⟨by decide, by decide⟩ d_He_reach_38 ?_
      refine Can.mono K (fun _ h4 z => ?_)
      obtain ⟨r4, rfl, K⟩ := z
      show Wg X 0 0 h4 [(0, .ref 15), (1, .int v1)] [.int r4, .int ((up h3 18 r3.toNatClampNeg (vp_nar .boolean 1)) 15 7), .ref 20] 41
      obtain ⟨s0, K⟩ := K
      refine r_iast C rfl s0 d_He_reach_41 ?_
      refine r_aload_n C 0 rfl d_He_reach_42 ?_
      refine r_dup C rfl d_He_reach_43 ?_
      refine gf_He_foundCount C rfl k_52 d_He_reach_44 ?_
      refine r_iconst (v := 1) C (by decide) d_He_reach_47 ?_
      refine r_iadd C d_He_reach_48 ?_
      refine pf_He_foundCount C rfl k_52 d_He_reach_49 ?_
      exact q_vret C Q d_He_reach_52 ⟨rfl, K⟩
set_option maxRecDepth 20000 in
theorem g_He_markLiving_0 {X : CX} {h : HP}  {Φ : Int32 → HP → Prop} (C : Cok X b_He_markLiving 3 R_He ((some .int))) (Rm : xR X = rml 2 0 0) (Q : Qok X 0 0 (fun r h2 => ∃ v, r = some (.int v) ∧ Φ v h2)) 
    (K : Wg X 0 0 h [(0, .ref 15), (1, .int 0)] [] 2) :
    Wg X 0 0 h [(0, .ref 15)] [] 0 := by
  refine r_iconst (v := 0) C (by decide) d_He_markLiving_0 ?_
  refine r_istore_n (ls2 := [(0, .ref 15), (1, .int 0)]) C rfl (by decide) rfl d_He_markLiving_1 ?_
  exact K
set_option maxRecDepth 20000 in
theorem g_He_markLiving_2 {X : CX} {h : HP} {v1 : Int32} {Φ : Int32 → HP → Prop} (C : Cok X b_He_markLiving 3 R_He ((some .int))) (Rm : xR X = rml 2 0 0) (Q : Qok X 0 0 (fun r h2 => ∃ v, r = some (.int v) ∧ Φ v h2)) 
    (K : ((400 : Int32) ≤ v1 → Wg X 0 0 (up h 15 7 0) [(0, .ref 15), (1, .int 0)] [] 29) ∧ (¬ (400 : Int32) ≤ v1 → vp_in v1 400 ∧ (Wg X 0 0 (up h 18 v1.toNatClampNeg (vp_nar .boolean 0)) [(0, .ref 15), (1, .int (v1 + 1))] [] 2))) :
    Wg X 0 0 h [(0, .ref 15), (1, .int v1)] [] 2 := by
  refine r_iload_n C 1 rfl d_He_markLiving_2 ?_
  refine r_sipush (v := 400) C (by decide) d_He_markLiving_3 ?_
  refine r_icmp_ge C 22 d_He_markLiving_6 (by decide) ⟨fun c0 => ?_, fun c0 => ?_⟩
  · have K := K.1 c0
    refine r_aload_n C 0 rfl d_He_markLiving_22 ?_
    refine r_iconst (v := 0) C (by decide) d_He_markLiving_23 ?_
    refine pf_He_foundCount C rfl k_52 d_He_markLiving_24 ?_
    refine r_iconst (v := 0) C (by decide) d_He_markLiving_27 ?_
    refine r_istore_n (ls2 := [(0, .ref 15), (1, .int 0)]) C rfl (by decide) rfl d_He_markLiving_28 ?_
    exact K
  · have K := K.2 c0
    refine r_aload_n C 0 rfl d_He_markLiving_9 ?_
    refine gf_He_lives (k2 := 18) C rfl rfl k_49 d_He_markLiving_10 ?_
    refine r_iload_n C 1 rfl d_He_markLiving_13 ?_
    refine r_iconst (v := 0) C (by decide) d_He_markLiving_14 ?_
    obtain ⟨s0, K⟩ := K
    refine r_zast C rfl s0 d_He_markLiving_15 ?_
    refine r_iinc (ls2 := [(0, .ref 15), (1, .int (v1 + 1))]) C 1 (m := 1) rfl (by decide) (by decide) rfl d_He_markLiving_16 ?_
    refine r_goto C 2 d_He_markLiving_19 (by decide) ?_
    exact K
set_option maxRecDepth 20000 in
theorem g_He_markLiving_29 {X : CX} {h : HP} {v1 : Int32} {Φ : Int32 → HP → Prop} (C : Cok X b_He_markLiving 3 R_He ((some .int))) (Rm : xR X = rml 2 0 0) (Q : Qok X 0 0 (fun r h2 => ∃ v, r = some (.int v) ∧ Φ v h2)) 
    (K : ((8 : Int32) ≤ v1 → Wg X 0 0 h [(0, .ref 15), (1, .int 0)] [] 53) ∧ (¬ (8 : Int32) ≤ v1 → vp_in v1 8 ∧ (K_He_reach [.ref 15, .int (h 17 v1.toNatClampNeg)] h (fun h1 => Wg X 0 0 h1 [(0, .ref 15), (1, .int (v1 + 1))] [] 29)))) :
    Wg X 0 0 h [(0, .ref 15), (1, .int v1)] [] 29 := by
  refine r_iload_n C 1 rfl d_He_markLiving_29 ?_
  refine r_bipush (v := 8) C (by decide) d_He_markLiving_30 ?_
  refine r_icmp_ge C 51 d_He_markLiving_32 (by decide) ⟨fun c0 => ?_, fun c0 => ?_⟩
  · have K := K.1 c0
    refine r_iconst (v := 0) C (by decide) d_He_markLiving_51 ?_
    refine r_istore_n (ls2 := [(0, .ref 15), (1, .int 0)]) C rfl (by decide) rfl d_He_markLiving_52 ?_
    exact K
  · have K := K.2 c0
    refine r_aload_n C 0 rfl d_He_markLiving_35 ?_
    refine r_aload_n C 0 rfl d_He_markLiving_36 ?_
    refine gf_He_registers (k2 := 17) C rfl rfl k_43 d_He_markLiving_37 ?_
    refine r_iload_n C 1 rfl d_He_markLiving_40 ?_
    obtain ⟨s0, K⟩ := K
    refine r_iald C rfl s0 d_He_markLiving_41 ?_
    refine r_callV (As := [.int (h 17 v1.toNatClampNeg)]) (st := []) (lvc := 1) (mcc := 0) (msc := 0) C Rm M_He_reach rfl k_254 rfl (by decide) (Nat.le_of_ble_eq_true rfl) ⟨by decide, by decide⟩ d_He_markLiving_42 ?_
    refine Can.mono K (fun _ h1 z => ?_)
    obtain ⟨rfl, K⟩ := z
    show Wg X 0 0 h1 [(0, .ref 15), (1, .int v1)] [] 45
    refine r_iinc (ls2 := [(0, .ref 15), (1, .int (v1 + 1))]) C 1 (m := 1) rfl (by decide) (by decide) rfl d_He_markLiving_45 ?_
    refine r_goto C 29 d_He_markLiving_48 (by decide) ?_
    exact K
set_option maxRecDepth 20000 in
theorem g_He_markLiving_53 {X : CX} {h : HP} {v1 : Int32} {Φ : Int32 → HP → Prop} (C : Cok X b_He_markLiving 3 R_He ((some .int))) (Rm : xR X = rml 2 0 0) (Q : Qok X 0 0 (fun r h2 => ∃ v, r = some (.int v) ∧ Φ v h2)) 
    (K : (((h 15 7)) ≤ v1 → Φ (h 15 7) h) ∧ (¬ ((h 15 7)) ≤ v1 → ((400 : Int32) ≤ v1 → Φ (h 15 7) h) ∧ (¬ (400 : Int32) ≤ v1 → vp_in v1 400 ∧ (K_He_sortAt [.ref 15, .int (h 20 v1.toNatClampNeg)] h (fun r1 h1 => (r1 = (2 : Int32) → Wg X 0 0 h1 [(0, .ref 15), (1, .int (v1 + 1))] [] 53) ∧ (¬ r1 = (2 : Int32) → vp_in ((h 20 v1.toNatClampNeg) + 1) 400 ∧ (K_He_reach [.ref 15, .int (h1 16 ((h 20 v1.toNatClampNeg) + 1).toNatClampNeg)] h1 (fun h2 => vp_in ((h 20 v1.toNatClampNeg) + 2) 400 ∧ (K_He_reach [.ref 15, .int (h2 16 ((h 20 v1.toNatClampNeg) + 2).toNatClampNeg)] h2 (fun h3 => Wg X 0 0 h3 [(0, .ref 15), (1, .int (v1 + 1))] [] 53)))))))))) :
    Wg X 0 0 h [(0, .ref 15), (1, .int v1)] [] 53 := by
  refine r_iload_n C 1 rfl d_He_markLiving_53 ?_
  refine r_aload_n C 0 rfl d_He_markLiving_54 ?_
  refine gf_He_foundCount C rfl k_52 d_He_markLiving_55 ?_
  refine r_icmp_ge C 114 d_He_markLiving_58 (by decide) ⟨fun c0 => ?_, fun c0 => ?_⟩
  · have K := K.1 c0
    refine r_aload_n C 0 rfl d_He_markLiving_114 ?_
    refine gf_He_foundCount C rfl k_52 d_He_markLiving_115 ?_
    exact q_iret C Q d_He_markLiving_118 ⟨_, rfl, K⟩
  · have K := K.2 c0
    refine r_iload_n C 1 rfl d_He_markLiving_61 ?_
    refine r_sipush (v := 400) C (by decide) d_He_markLiving_62 ?_
    refine r_icmp_ge C 114 d_He_markLiving_65 (by decide) ⟨fun c0 => ?_, fun c0 => ?_⟩
    · have K := K.1 c0
      refine r_aload_n C 0 rfl d_He_markLiving_114 ?_
      refine gf_He_foundCount C rfl k_52 d_He_markLiving_115 ?_
      exact q_iret C Q d_He_markLiving_118 ⟨_, rfl, K⟩
    · have K := K.2 c0
      refine r_aload_n C 0 rfl d_He_markLiving_68 ?_
      refine gf_He_found (k2 := 20) C rfl rfl k_51 d_He_markLiving_69 ?_
      refine r_iload_n C 1 rfl d_He_markLiving_72 ?_
      obtain ⟨s0, K⟩ := K
      refine r_iald C rfl s0 d_He_markLiving_73 ?_
      refine r_istore_n (ls2 := [(0, .ref 15), (1, .int v1), (2, .int (h 20 v1.toNatClampNeg))]) C rfl (by decide) rfl d_He_markLiving_74 ?_
      refine r_aload_n C 0 rfl d_He_markLiving_75 ?_
      refine r_iload_n C 2 rfl d_He_markLiving_76 ?_
      refine r_callV (As := [.int (h 20 v1.toNatClampNeg)]) (st := []) (lvc := 0) (mcc := 0) (msc := 0) C Rm M_He_sortAt rfl k_264 rfl (by decide) (Nat.le_of_ble_eq_true rfl) ⟨by decide, by decide⟩ d_He_markLiving_77 ?_
      refine Can.mono K (fun _ h1 z => ?_)
      obtain ⟨r1, rfl, K⟩ := z
      show Wg X 0 0 h1 [(0, .ref 15), (1, .int v1), (2, .int (h 20 v1.toNatClampNeg))] [.int r1] 80
      refine r_iconst (v := 2) C (by decide) d_He_markLiving_80 ?_
      refine r_icmp_eq C 108 d_He_markLiving_81 (by decide) ⟨fun c0 => ?_, fun c0 => ?_⟩
      · have K := K.1 c0
        refine r_iinc (ls2 := [(0, .ref 15), (1, .int (v1 + 1)), (2, .int (h 20 v1.toNatClampNeg))]) C 1 (m := 1) rfl (by decide) (by decide) rfl d_He_markLiving_108 ?_
        refine r_goto C 53 d_He_markLiving_111 (by decide) ?_
        exact Wg.drop (by simp) K
      · have K := K.2 c0
        refine r_aload_n C 0 rfl d_He_markLiving_84 ?_
        refine r_aload_n C 0 rfl d_He_markLiving_85 ?_
        refine gf_He_cells (k2 := 16) C rfl rfl k_41 d_He_markLiving_86 ?_
        refine r_iload_n C 2 rfl d_He_markLiving_89 ?_
        refine r_iconst (v := 1) C (by decide) d_He_markLiving_90 ?_
        refine r_iadd C d_He_markLiving_91 ?_
        obtain ⟨s0, K⟩ := K
        refine r_iald C rfl s0 d_He_markLiving_92 ?_
        refine r_callV (As := [.int (h1 16 ((h 20 v1.toNatClampNeg) + 1).toNatClampNeg)]) (st := []) (lvc := 1) (mcc := 0) (msc := 0) C Rm M_He_reach rfl k_254 rfl (by decide) (Nat.le_of_ble_eq_true rfl) ⟨by decide, by decide⟩ d_He_markLiving_93 ?_
        refine Can.mono K (fun _ h2 z => ?_)
        obtain ⟨rfl, K⟩ := z
        show Wg X 0 0 h2 [(0, .ref 15), (1, .int v1), (2, .int (h 20 v1.toNatClampNeg))] [] 96
        refine r_aload_n C 0 rfl d_He_markLiving_96 ?_
        refine r_aload_n C 0 rfl d_He_markLiving_97 ?_
        refine gf_He_cells (k2 := 16) C rfl rfl k_41 d_He_markLiving_98 ?_
        refine r_iload_n C 2 rfl d_He_markLiving_101 ?_
        refine r_iconst (v := 2) C (by decide) d_He_markLiving_102 ?_
        refine r_iadd C d_He_markLiving_103 ?_
        obtain ⟨s0, K⟩ := K
        refine r_iald C rfl s0 d_He_markLiving_104 ?_
        refine r_callV (As := [.int (h2 16 ((h 20 v1.toNatClampNeg) + 2).toNatClampNeg)]) (st := []) (lvc := 1) (mcc := 0) (msc := 0) C Rm M_He_reach rfl k_254 rfl (by decide) (Nat.le_of_ble_eq_true rfl) ⟨by decide, by decide⟩ d_He_markLiving_105 ?_
        refine Can.mono K (fun _ h3 z => ?_)
        obtain ⟨rfl, K⟩ := z
        show Wg X 0 0 h3 [(0, .ref 15), (1, .int v1), (2, .int (h 20 v1.toNatClampNeg))] [] 108
        refine r_iinc (ls2 := [(0, .ref 15), (1, .int (v1 + 1)), (2, .int (h 20 v1.toNatClampNeg))]) C 1 (m := 1) rfl (by decide) (by decide) rfl d_He_markLiving_108 ?_
        refine r_goto C 53 d_He_markLiving_111 (by decide) ?_
        exact Wg.drop (by simp) K
set_option maxRecDepth 20000 in
theorem g_He_chooseNewPlaces_0 {X : CX} {h : HP}  {Φ : HP → Prop} (C : Cok X b_He_chooseNewPlaces 5 R_He none) (Rm : xR X = rml 1 0 0) (Q : Qok X 0 0 (fun r h2 => r = none ∧ Φ h2)) 
    (K : Wg X 0 0 h [(0, .ref 15), (1, .int 0), (2, .int 0), (3, .int 0)] [] 6) :
    Wg X 0 0 h [(0, .ref 15)] [] 0 := by
  refine r_iconst (v := 0) C (by decide) d_He_chooseNewPlaces_0 ?_
  refine r_istore_n (ls2 := [(0, .ref 15), (1, .int 0)]) C rfl (by decide) rfl d_He_chooseNewPlaces_1 ?_
  refine r_iconst (v := 0) C (by decide) d_He_chooseNewPlaces_2 ?_
  refine r_istore_n (ls2 := [(0, .ref 15), (1, .int 0), (2, .int 0)]) C rfl (by decide) rfl d_He_chooseNewPlaces_3 ?_
  refine r_iconst (v := 0) C (by decide) d_He_chooseNewPlaces_4 ?_
  refine r_istore_n (ls2 := [(0, .ref 15), (1, .int 0), (2, .int 0), (3, .int 0)]) C rfl (by decide) rfl d_He_chooseNewPlaces_5 ?_
  exact K
set_option maxRecDepth 20000 in
theorem g_He_chooseNewPlaces_6 {X : CX} {h : HP} {v1 : Int32} {v2 : Int32} {v3 : Int32} {Φ : HP → Prop} (C : Cok X b_He_chooseNewPlaces 5 R_He none) (Rm : xR X = rml 1 0 0) (Q : Qok X 0 0 (fun r h2 => r = none ∧ Φ h2)) 
    (K : ((400 : Int32) ≤ v3 → Φ h) ∧ (¬ (400 : Int32) ≤ v3 → (((h 15 2)) ≤ v2 → Φ h) ∧ (¬ ((h 15 2)) ≤ v2 → vp_in v2 400 ∧ (K_He_sizeAt [.ref 15, .int v2] (up h 19 v2.toNatClampNeg v1) (fun r1 h1 => vp_in v2 400 ∧ (((h1 18 v2.toNatClampNeg) = 0 → Wg X 0 0 h1 [(0, .ref 15), (1, .int v1), (2, .int (v2 + r1)), (3, .int (v3 + 1))] [] 6) ∧ (¬ (h1 18 v2.toNatClampNeg) = 0 → Wg X 0 0 h1 [(0, .ref 15), (1, .int (v1 + r1)), (2, .int (v2 + r1)), (3, .int (v3 + 1))] [] 6))))))) :
    Wg X 0 0 h [(0, .ref 15), (1, .int v1), (2, .int v2), (3, .int v3)] [] 6 := by
  refine r_iload_n C 3 rfl d_He_chooseNewPlaces_6 ?_
  refine r_sipush (v := 400) C (by decide) d_He_chooseNewPlaces_7 ?_
  refine r_icmp_ge C 60 d_He_chooseNewPlaces_10 (by decide) ⟨fun c0 => ?_, fun c0 => ?_⟩
  · have K := K.1 c0
    exact q_vret C Q d_He_chooseNewPlaces_60 ⟨rfl, K⟩
  · have K := K.2 c0
    refine r_iload_n C 2 rfl d_He_chooseNewPlaces_13 ?_
    refine r_aload_n C 0 rfl d_He_chooseNewPlaces_14 ?_
    refine gf_He_top C rfl k_45 d_He_chooseNewPlaces_15 ?_
    refine r_icmp_ge C 60 d_He_chooseNewPlaces_18 (by decide) ⟨fun c0 => ?_, fun c0 => ?_⟩
    · have K := K.1 c0
      exact q_vret C Q d_He_chooseNewPlaces_60 ⟨rfl, K⟩
    · have K := K.2 c0
      refine r_aload_n C 0 rfl d_He_chooseNewPlaces_21 ?_
      refine gf_He_newPlace (k2 := 19) C rfl rfl k_50 d_He_chooseNewPlaces_22 ?_
      refine r_iload_n C 2 rfl d_He_chooseNewPlaces_25 ?_
      refine r_iload_n C 1 rfl d_He_chooseNewPlaces_26 ?_
      obtain ⟨s0, K⟩ := K
      refine r_iast C rfl s0 d_He_chooseNewPlaces_27 ?_
      refine r_aload_n C 0 rfl d_He_chooseNewPlaces_28 ?_
      refine r_iload_n C 2 rfl d_He_chooseNewPlaces_29 ?_
      refine r_callV (As := [.int v2]) (st := []) (lvc := 0) (mcc := 0) (msc := 0) C Rm M_He_sizeAt rfl k_272 rfl (by decide) (Nat.le_of_ble_eq_true rfl) ⟨by decide, by decide⟩ d_He_chooseNewPlaces_30 ?_
      refine Can.mono K (fun _ h1 z => ?_)
      obtain ⟨r1, rfl, K⟩ := z
      show Wg X 0 0 h1 [(0, .ref 15), (1, .int v1), (2, .int v2), (3, .int v3)] [.int r1] 33
      refine r_istore (ls2 := [(0, .ref 15), (1, .int v1), (2, .int v2), (3, .int v3), (4, .int r1)]) C (by decide) rfl d_He_chooseNewPlaces_33 ?_
      refine r_aload_n C 0 rfl d_He_chooseNewPlaces_35 ?_
      refine gf_He_lives (k2 := 18) C rfl rfl k_49 d_He_chooseNewPlaces_36 ?_
      refine r_iload_n C 2 rfl d_He_chooseNewPlaces_39 ?_
      obtain ⟨s0, K⟩ := K
      refine r_zald C rfl s0 d_He_chooseNewPlaces_40 ?_
      refine r_if_eq C 49 d_He_chooseNewPlaces_41 (by decide) ⟨fun c0 => ?_, fun c0 => ?_⟩
      · have K := K.1 c0
        refine r_iload_n C 2 rfl d_He_chooseNewPlaces_49 ?_
        refine r_iload C 4 rfl d_He_chooseNewPlaces_50 ?_
        refine r_iadd C d_He_chooseNewPlaces_52 ?_
        refine r_istore_n (ls2 := [(0, .ref 15), (1, .int v1), (2, .int (v2 + r1)), (3, .int v3), (4, .int r1)]) C rfl (by decide) rfl d_He_chooseNewPlaces_53 ?_
        refine r_iinc (ls2 := [(0, .ref 15), (1, .int v1), (2, .int (v2 + r1)), (3, .int (v3 + 1)), (4, .int r1)]) C 3 (m := 1) rfl (by decide) (by decide) rfl d_He_chooseNewPlaces_54 ?_
        refine r_goto C 6 d_He_chooseNewPlaces_57 (by decide) ?_
        exact Wg.drop (by simp) K
      · have K := K.2 c0
        refine r_iload_n C 1 rfl d_He_chooseNewPlaces_44 ?_
        refine r_iload C 4 rfl d_He_chooseNewPlaces_45 ?_
        refine r_iadd C d_He_chooseNewPlaces_47 ?_
        refine r_istore_n (ls2 := [(0, .ref 15), (1, .int (v1 + r1)), (2, .int v2), (3, .int v3), (4, .int r1)]) C rfl (by decide) rfl d_He_chooseNewPlaces_48 ?_
        refine r_iload_n C 2 rfl d_He_chooseNewPlaces_49 ?_
        refine r_iload C 4 rfl d_He_chooseNewPlaces_50 ?_
        refine r_iadd C d_He_chooseNewPlaces_52 ?_
        refine r_istore_n (ls2 := [(0, .ref 15), (1, .int (v1 + r1)), (2, .int (v2 + r1)), (3, .int v3), (4, .int r1)]) C rfl (by decide) rfl d_He_chooseNewPlaces_53 ?_
        refine r_iinc (ls2 := [(0, .ref 15), (1, .int (v1 + r1)), (2, .int (v2 + r1)), (3, .int (v3 + 1)), (4, .int r1)]) C 3 (m := 1) rfl (by decide) (by decide) rfl d_He_chooseNewPlaces_54 ?_
        refine r_goto C 6 d_He_chooseNewPlaces_57 (by decide) ?_
        exact Wg.drop (by simp) K
set_option maxRecDepth 20000 in
theorem g_He_moved_0 {X : CX} {h : HP} {v1 : Int32} {Φ : Int32 → HP → Prop} (C : Cok X b_He_moved 2 R_He ((some .int))) (Rm : xR X = rml 1 0 0) (Q : Qok X 0 0 (fun r h2 => ∃ v, r = some (.int v) ∧ Φ v h2)) 
    (K : K_He_isObject [.int v1] h (fun r1 h1 => (r1 = 0 → Φ v1 h1) ∧ (¬ r1 = 0 → K_He_cellOf [.int v1] h1 (fun r2 h2 => vp_in r2 400 ∧ (K_He_objectAt [.int (h2 19 r2.toNatClampNeg)] h2 (fun r3 h3 => Φ r3 h3)))))) :
    Wg X 0 0 h [(0, .ref 15), (1, .int v1)] [] 0 := by
  refine r_iload_n C 1 rfl d_He_moved_0 ?_
  refine r_callS (As := [.int v1]) (st := []) (lvc := 0) (mcc := 0) (msc := 0) C Rm M_He_isObject rfl k_258 (by decide) (Nat.le_of_ble_eq_true rfl) ⟨by decide, by decide⟩ d_He_moved_1 ?_
  refine Can.mono K (fun _ h1 z => ?_)
  obtain ⟨r1, rfl, K⟩ := z
  show Wg X 0 0 h1 [(0, .ref 15), (1, .int v1)] [.int r1] 4
  refine r_if_eq C 22 d_He_moved_4 (by decide) ⟨fun c0 => ?_, fun c0 => ?_⟩
  · have K := K.1 c0
    refine r_iload_n C 1 rfl d_He_moved_22 ?_
    exact q_iret C Q d_He_moved_23 ⟨_, rfl, K⟩
  · have K := K.2 c0
    refine r_aload_n C 0 rfl d_He_moved_7 ?_
    refine gf_He_newPlace (k2 := 19) C rfl rfl k_50 d_He_moved_8 ?_
    refine r_iload_n C 1 rfl d_He_moved_11 ?_
    refine r_callS (As := [.int v1]) (st := [.ref 19]) (lvc := 0) (mcc := 0) (msc := 0) C Rm M_He_cellOf rfl k_261 (by decide) (Nat.le_of_ble_eq_true rfl) ⟨by decide, by decide⟩ d_He_moved_12 ?_
    refine Can.mono K (fun _ h2 z => ?_)
    obtain ⟨r2, rfl, K⟩ := z
    show Wg X 0 0 h2 [(0, .ref 15), (1, .int v1)] [.int r2, .ref 19] 15
    obtain ⟨s0, K⟩ := K
    refine r_iald C rfl s0 d_He_moved_15 ?_
    refine r_callS (As := [.int (h2 19 r2.toNatClampNeg)]) (st := []) (lvc := 0) (mcc := 0) (msc := 0) C Rm M_He_objectAt rfl k_280 (by decide) (Nat.le_of_ble_eq_true rfl) ⟨by decide, by decide⟩ d_He_moved_16 ?_
    refine Can.mono K (fun _ h3 z => ?_)
    obtain ⟨r3, rfl, K⟩ := z
    show Wg X 0 0 h3 [(0, .ref 15), (1, .int v1)] [.int r3] 19
    refine r_goto C 23 d_He_moved_19 (by decide) ?_
    exact q_iret C Q d_He_moved_23 ⟨_, rfl, K⟩
set_option maxRecDepth 20000 in
theorem g_He_moveLiving_0 {X : CX} {h : HP}  {Φ : HP → Prop} (C : Cok X b_He_moveLiving 5 R_He none) (Rm : xR X = rml 2 0 0) (Q : Qok X 0 0 (fun r h2 => r = none ∧ Φ h2)) 
    (K : Wg X 0 0 h [(0, .ref 15), (1, .int 0), (2, .int 0), (3, .int 0)] [] 6) :
    Wg X 0 0 h [(0, .ref 15)] [] 0 := by
  refine r_iconst (v := 0) C (by decide) d_He_moveLiving_0 ?_
  refine r_istore_n (ls2 := [(0, .ref 15), (1, .int 0)]) C rfl (by decide) rfl d_He_moveLiving_1 ?_
  refine r_iconst (v := 0) C (by decide) d_He_moveLiving_2 ?_
  refine r_istore_n (ls2 := [(0, .ref 15), (1, .int 0), (2, .int 0)]) C rfl (by decide) rfl d_He_moveLiving_3 ?_
  refine r_iconst (v := 0) C (by decide) d_He_moveLiving_4 ?_
  refine r_istore_n (ls2 := [(0, .ref 15), (1, .int 0), (2, .int 0), (3, .int 0)]) C rfl (by decide) rfl d_He_moveLiving_5 ?_
  exact K
set_option maxRecDepth 20000 in
theorem g_He_moveLiving_6 {X : CX} {h : HP} {v1 : Int32} {v2 : Int32} {v3 : Int32} {Φ : HP → Prop} (C : Cok X b_He_moveLiving 5 R_He none) (Rm : xR X = rml 2 0 0) (Q : Qok X 0 0 (fun r h2 => r = none ∧ Φ h2)) 
    (K : ((400 : Int32) ≤ v3 → Φ (up h 15 2 v1)) ∧ (¬ (400 : Int32) ≤ v3 → (((h 15 2)) ≤ v2 → Φ (up h 15 2 v1)) ∧ (¬ ((h 15 2)) ≤ v2 → K_He_sizeAt [.ref 15, .int v2] h (fun r1 h1 => vp_in v2 400 ∧ (((h1 18 v2.toNatClampNeg) = 0 → Wg X 0 0 h1 [(0, .ref 15), (1, .int v1), (2, .int (v2 + r1)), (3, .int (v3 + 1))] [] 6) ∧ (¬ (h1 18 v2.toNatClampNeg) = 0 → K_He_sortAt [.ref 15, .int v2] h1 (fun r2 h2 => (r2 = (2 : Int32) → Wg X 0 0 h2 [(0, .ref 15), (1, .int v1), (2, .int v2), (3, .int v3), (4, .int r1)] [] 86) ∧ (¬ r2 = (2 : Int32) → vp_in (v2 + 1) 400 ∧ (K_He_moved [.ref 15, .int (h2 16 (v2 + 1).toNatClampNeg)] h2 (fun r3 h3 => vp_in (v2 + 1) 400 ∧ (vp_in (v2 + 2) 400 ∧ (K_He_moved [.ref 15, .int ((up h3 16 (v2 + 1).toNatClampNeg r3) 16 (v2 + 2).toNatClampNeg)] (up h3 16 (v2 + 1).toNatClampNeg r3) (fun r4 h4 => vp_in (v2 + 2) 400 ∧ (Wg X 0 0 (up h4 16 (v2 + 2).toNatClampNeg r4) [(0, .ref 15), (1, .int v1), (2, .int v2), (3, .int v3), (4, .int r1)] [] 86)))))))))))))) :
    Wg X 0 0 h [(0, .ref 15), (1, .int v1), (2, .int v2), (3, .int v3)] [] 6 := by
  refine r_iload_n C 3 rfl d_He_moveLiving_6 ?_
  refine r_sipush (v := 400) C (by decide) d_He_moveLiving_7 ?_
  refine r_icmp_ge C 117 d_He_moveLiving_10 (by decide) ⟨fun c0 => ?_, fun c0 => ?_⟩
  · have K := K.1 c0
    refine r_aload_n C 0 rfl d_He_moveLiving_117 ?_
    refine r_iload_n C 1 rfl d_He_moveLiving_118 ?_
    refine pf_He_top C rfl k_45 d_He_moveLiving_119 ?_
    exact q_vret C Q d_He_moveLiving_122 ⟨rfl, K⟩
  · have K := K.2 c0
    refine r_iload_n C 2 rfl d_He_moveLiving_13 ?_
    refine r_aload_n C 0 rfl d_He_moveLiving_14 ?_
    refine gf_He_top C rfl k_45 d_He_moveLiving_15 ?_
    refine r_icmp_ge C 117 d_He_moveLiving_18 (by decide) ⟨fun c0 => ?_, fun c0 => ?_⟩
    · have K := K.1 c0
      refine r_aload_n C 0 rfl d_He_moveLiving_117 ?_
      refine r_iload_n C 1 rfl d_He_moveLiving_118 ?_
      refine pf_He_top C rfl k_45 d_He_moveLiving_119 ?_
      exact q_vret C Q d_He_moveLiving_122 ⟨rfl, K⟩
    · have K := K.2 c0
      refine r_aload_n C 0 rfl d_He_moveLiving_21 ?_
      refine r_iload_n C 2 rfl d_He_moveLiving_22 ?_
      refine r_callV (As := [.int v2]) (st := []) (lvc := 0) (mcc := 0) (msc := 0) C Rm M_He_sizeAt rfl k_272 rfl (by decide) (Nat.le_of_ble_eq_true rfl) ⟨by decide, by decide⟩ d_He_moveLiving_23 ?_
      refine Can.mono K (fun _ h1 z => ?_)
      obtain ⟨r1, rfl, K⟩ := z
      show Wg X 0 0 h1 [(0, .ref 15), (1, .int v1), (2, .int v2), (3, .int v3)] [.int r1] 26
      refine r_istore (ls2 := [(0, .ref 15), (1, .int v1), (2, .int v2), (3, .int v3), (4, .int r1)]) C (by decide) rfl d_He_moveLiving_26 ?_
      refine r_aload_n C 0 rfl d_He_moveLiving_28 ?_
      refine gf_He_lives (k2 := 18) C rfl rfl k_49 d_He_moveLiving_29 ?_
      refine r_iload_n C 2 rfl d_He_moveLiving_32 ?_
      obtain ⟨s0, K⟩ := K
      refine r_zald C rfl s0 d_He_moveLiving_33 ?_
      refine r_if_eq C 106 d_He_moveLiving_34 (by decide) ⟨fun c0 => ?_, fun c0 => ?_⟩
      · have K := K.1 c0
        refine r_iload_n C 2 rfl d_He_moveLiving_106 ?_
        refine r_iload C 4 rfl d_He_moveLiving_107 ?_
        refine r_iadd C d_He_moveLiving_109 ?_
        refine r_istore_n (ls2 := [(0, .ref 15), (1, .int v1), (2, .int (v2 + r1)), (3, .int v3), (4, .int r1)]) C rfl (by decide) rfl d_He_moveLiving_110 ?_
        refine r_iinc (ls2 := [(0, .ref 15), (1, .int v1), (2, .int (v2 + r1)), (3, .int (v3 + 1)), (4, .int r1)]) C 3 (m := 1) rfl (by decide) (by decide) rfl d_He_moveLiving_111 ?_
        refine r_goto C 6 d_He_moveLiving_114 (by decide) ?_
        exact Wg.drop (by simp) K
      · have K := K.2 c0
        refine r_aload_n C 0 rfl d_He_moveLiving_37 ?_
        refine r_iload_n C 2 rfl d_He_moveLiving_38 ?_
        refine r_callV (As := [.int v2]) (st := []) (lvc := 0) (mcc := 0) (msc := 0) C Rm M_He_sortAt rfl k_264 rfl (by decide) (Nat.le_of_ble_eq_true rfl) ⟨by decide, by decide⟩ d_He_moveLiving_39 ?_
        refine Can.mono K (fun _ h2 z => ?_)
        obtain ⟨r2, rfl, K⟩ := z
        show Wg X 0 0 h2 [(0, .ref 15), (1, .int v1), (2, .int v2), (3, .int v3), (4, .int r1)] [.int r2] 42
        refine r_iconst (v := 2) C (by decide) d_He_moveLiving_42 ?_
        refine r_icmp_eq C 86 d_He_moveLiving_43 (by decide) ⟨fun c0 => ?_, fun c0 => ?_⟩
        · have K := K.1 c0
          exact K
        · have K := K.2 c0
          refine r_aload_n C 0 rfl d_He_moveLiving_46 ?_
          refine gf_He_cells (k2 := 16) C rfl rfl k_41 d_He_moveLiving_47 ?_
          refine r_iload_n C 2 rfl d_He_moveLiving_50 ?_
          refine r_iconst (v := 1) C (by decide) d_He_moveLiving_51 ?_
          refine r_iadd C d_He_moveLiving_52 ?_
          refine r_aload_n C 0 rfl d_He_moveLiving_53 ?_
          refine r_aload_n C 0 rfl d_He_moveLiving_54 ?_
          refine gf_He_cells (k2 := 16) C rfl rfl k_41 d_He_moveLiving_55 ?_
          refine r_iload_n C 2 rfl d_He_moveLiving_58 ?_
          refine r_iconst (v := 1) C (by decide) d_He_moveLiving_59 ?_
          refine r_iadd C d_He_moveLiving_60 ?_
          obtain ⟨s0, K⟩ := K
          refine r_iald C rfl s0 d_He_moveLiving_61 ?_
          refine r_callV (As := [.int (h2 16 (v2 + 1).toNatClampNeg)]) (st := [.int (v2 + 1), .ref 16]) (lvc := 1) (mcc := 0) (msc := 0) C Rm M_He_moved rfl k_276 rfl (by decide) (Nat.le_of_ble_eq_true rfl) ⟨by decide, by decide⟩ d_He_moveLiving_62 ?_
          refine Can.mono K (fun _ h3 z => ?_)
          obtain ⟨r3, rfl, K⟩ := z
          show Wg X 0 0 h3 [(0, .ref 15), (1, .int v1), (2, .int v2), (3, .int v3), (4, .int r1)] [.int r3, .int (v2 + 1), .ref 16] 65
          obtain ⟨s0, K⟩ := K
          refine r_iast C rfl s0 d_He_moveLiving_65 ?_
          refine r_aload_n C 0 rfl d_He_moveLiving_66 ?_
          refine gf_He_cells (k2 := 16) C rfl rfl k_41 d_He_moveLiving_67 ?_
          refine r_iload_n C 2 rfl d_He_moveLiving_70 ?_
          refine r_iconst (v := 2) C (by decide) d_He_moveLiving_71 ?_
          refine r_iadd C d_He_moveLiving_72 ?_
          refine r_aload_n C 0 rfl d_He_moveLiving_73 ?_
          refine r_aload_n C 0 rfl d_He_moveLiving_74 ?_
          refine gf_He_cells (k2 := 16) C rfl rfl k_41 d_He_moveLiving_75 ?_
          refine r_iload_n C 2 rfl d_He_moveLiving_78 ?_
          refine r_iconst (v := 2) C (by decide) d_He_moveLiving_79 ?_
          refine r_iadd C d_He_moveLiving_80 ?_
          obtain ⟨s0, K⟩ := K
          refine r_iald C rfl s0 d_He_moveLiving_81 ?_
          refine r_callV (As := [.int ((up h3 16 (v2 + 1).toNatClampNeg r3) 16 (v2 + 2).toNatClampNeg)]) (st := [.int (v2 + 2), .ref 16]) (lvc := 1) (mcc := 0) (msc := 0) C Rm M_He_moved rfl k_276 rfl (by decide) (Nat.le_of_ble_eq_true rfl) ⟨by decide, by decide⟩ d_He_moveLiving_82 ?_
          refine Can.mono K (fun _ h4 z => ?_)
          obtain ⟨r4, rfl, K⟩ := z
          show Wg X 0 0 h4 [(0, .ref 15), (1, .int v1), (2, .int v2), (3, .int v3), (4, .int r1)] [.int r4, .int (v2 + 2), .ref 16] 85
          obtain ⟨s0, K⟩ := K
          refine r_iast C rfl s0 d_He_moveLiving_85 ?_
          exact K
set_option maxRecDepth 20000 in
theorem g_He_moveLiving_86 {X : CX} {h : HP} {v1 : Int32} {v2 : Int32} {v3 : Int32} {v4 : Int32} {Φ : HP → Prop} (C : Cok X b_He_moveLiving 5 R_He none) (Rm : xR X = rml 2 0 0) (Q : Qok X 0 0 (fun r h2 => r = none ∧ Φ h2)) 
    (K : cp_in v2 v4 400 ∧ cp_in v1 v4 400 ∧ (Wg X 0 0 (hs h 16 (va_cpy (h 16) (h 16) v2.toNatClampNeg v1.toNatClampNeg v4.toNatClampNeg)) [(0, .ref 15), (1, .int (v1 + v4)), (2, .int (v2 + v4)), (3, .int (v3 + 1))] [] 6)) :
    Wg X 0 0 h [(0, .ref 15), (1, .int v1), (2, .int v2), (3, .int v3), (4, .int v4)] [] 86 := by
  refine r_aload_n C 0 rfl d_He_moveLiving_86 ?_
  refine gf_He_cells (k2 := 16) C rfl rfl k_41 d_He_moveLiving_87 ?_
  refine r_iload_n C 2 rfl d_He_moveLiving_90 ?_
  refine r_aload_n C 0 rfl d_He_moveLiving_91 ?_
  refine gf_He_cells (k2 := 16) C rfl rfl k_41 d_He_moveLiving_92 ?_
  refine r_iload_n C 1 rfl d_He_moveLiving_95 ?_
  refine r_iload C 4 rfl d_He_moveLiving_96 ?_
  obtain ⟨s0, s1, K⟩ := K
  refine r_copy C Rm (by decide) k_287 rfl rfl s0 s1 (Nat.le_of_ble_eq_true rfl) d_He_moveLiving_98 ?_
  refine r_iload_n C 1 rfl d_He_moveLiving_101 ?_
  refine r_iload C 4 rfl d_He_moveLiving_102 ?_
  refine r_iadd C d_He_moveLiving_104 ?_
  refine r_istore_n (ls2 := [(0, .ref 15), (1, .int (v1 + v4)), (2, .int v2), (3, .int v3), (4, .int v4)]) C rfl (by decide) rfl d_He_moveLiving_105 ?_
  refine r_iload_n C 2 rfl d_He_moveLiving_106 ?_
  refine r_iload C 4 rfl d_He_moveLiving_107 ?_
  refine r_iadd C d_He_moveLiving_109 ?_
  refine r_istore_n (ls2 := [(0, .ref 15), (1, .int (v1 + v4)), (2, .int (v2 + v4)), (3, .int v3), (4, .int v4)]) C rfl (by decide) rfl d_He_moveLiving_110 ?_
  refine r_iinc (ls2 := [(0, .ref 15), (1, .int (v1 + v4)), (2, .int (v2 + v4)), (3, .int (v3 + 1)), (4, .int v4)]) C 3 (m := 1) rfl (by decide) (by decide) rfl d_He_moveLiving_111 ?_
  refine r_goto C 6 d_He_moveLiving_114 (by decide) ?_
  exact Wg.drop (by simp) K
set_option maxRecDepth 20000 in
theorem g_He_slideLiving_0 {X : CX} {h : HP}  {Φ : HP → Prop} (C : Cok X b_He_slideLiving 2 R_He none) (Rm : xR X = rml 3 0 0) (Q : Qok X 0 0 (fun r h2 => r = none ∧ Φ h2)) 
    (K : K_He_markLiving [.ref 15] h (fun r1 h1 => K_He_chooseNewPlaces [.ref 15] h1 (fun h2 => Wg X 0 0 h2 [(0, .ref 15), (1, .int 0)] [] 11))) :
    Wg X 0 0 h [(0, .ref 15)] [] 0 := by
  refine r_aload_n C 0 rfl d_He_slideLiving_0 ?_
  refine r_callV (As := []) (st := []) (lvc := 2) (mcc := 0) (msc := 0) C Rm M_He_markLiving rfl k_250 rfl (by decide) (Nat.le_of_ble_eq_true rfl) ⟨by decide, by decide⟩ d_He_slideLiving_1 ?_
  refine Can.mono K (fun _ h1 z => ?_)
  obtain ⟨r1, rfl, K⟩ := z
  show Wg X 0 0 h1 [(0, .ref 15)] [.int r1] 4
  refine r_pop C rfl d_He_slideLiving_4 ?_
  refine r_aload_n C 0 rfl d_He_slideLiving_5 ?_
  refine r_callV (As := []) (st := []) (lvc := 1) (mcc := 0) (msc := 0) C Rm M_He_chooseNewPlaces rfl k_268 rfl (by decide) (Nat.le_of_ble_eq_true rfl) ⟨by decide, by decide⟩ d_He_slideLiving_6 ?_
  refine Can.mono K (fun _ h2 z => ?_)
  obtain ⟨rfl, K⟩ := z
  show Wg X 0 0 h2 [(0, .ref 15)] [] 9
  refine r_iconst (v := 0) C (by decide) d_He_slideLiving_9 ?_
  refine r_istore_n (ls2 := [(0, .ref 15), (1, .int 0)]) C rfl (by decide) rfl d_He_slideLiving_10 ?_
  exact K
set_option maxRecDepth 20000 in
theorem g_He_slideLiving_11 {X : CX} {h : HP} {v1 : Int32} {Φ : HP → Prop} (C : Cok X b_He_slideLiving 2 R_He none) (Rm : xR X = rml 3 0 0) (Q : Qok X 0 0 (fun r h2 => r = none ∧ Φ h2)) 
    (K : ((8 : Int32) ≤ v1 → K_He_moveLiving [.ref 15] h (fun h1 => Φ (up h1 15 3 ((h1 15 3) + 1)))) ∧ (¬ (8 : Int32) ≤ v1 → vp_in v1 8 ∧ (K_He_moved [.ref 15, .int (h 17 v1.toNatClampNeg)] h (fun r2 h2 => vp_in v1 8 ∧ (Wg X 0 0 (up h2 17 v1.toNatClampNeg r2) [(0, .ref 15), (1, .int (v1 + 1))] [] 11))))) :
    Wg X 0 0 h [(0, .ref 15), (1, .int v1)] [] 11 := by
  refine r_iload_n C 1 rfl d_He_slideLiving_11 ?_
  refine r_bipush (v := 8) C (by decide) d_He_slideLiving_12 ?_
  refine r_icmp_ge C 39 d_He_slideLiving_14 (by decide) ⟨fun c0 => ?_, fun c0 => ?_⟩
  · have K := K.1 c0
    refine r_aload_n C 0 rfl d_He_slideLiving_39 ?_
    refine r_callV (As := []) (st := []) (lvc := 2) (mcc := 0) (msc := 0) C Rm M_He_moveLiving rfl k_283 rfl (by decide) (Nat.le_of_ble_eq_true rfl) ⟨by decide, by decide⟩ d_He_slideLiving_40 ?_
    refine Can.mono K (fun _ h1 z => ?_)
    obtain ⟨rfl, K⟩ := z
    show Wg X 0 0 h1 [(0, .ref 15), (1, .int v1)] [] 43
    refine r_aload_n C 0 rfl d_He_slideLiving_43 ?_
    refine r_dup C rfl d_He_slideLiving_44 ?_
    refine gf_He_collections C rfl k_48 d_He_slideLiving_45 ?_
    refine r_iconst (v := 1) C (by decide) d_He_slideLiving_48 ?_
    refine r_iadd C d_He_slideLiving_49 ?_
    refine pf_He_collections C rfl k_48 d_He_slideLiving_50 ?_
    exact q_vret C Q d_He_slideLiving_53 ⟨rfl, K⟩
  · have K := K.2 c0
    refine r_aload_n C 0 rfl d_He_slideLiving_17 ?_
    refine gf_He_registers (k2 := 17) C rfl rfl k_43 d_He_slideLiving_18 ?_
    refine r_iload_n C 1 rfl d_He_slideLiving_21 ?_
    refine r_aload_n C 0 rfl d_He_slideLiving_22 ?_
    refine r_aload_n C 0 rfl d_He_slideLiving_23 ?_
    refine gf_He_registers (k2 := 17) C rfl rfl k_43 d_He_slideLiving_24 ?_
    refine r_iload_n C 1 rfl d_He_slideLiving_27 ?_
    obtain ⟨s0, K⟩ := K
    refine r_iald C rfl s0 d_He_slideLiving_28 ?_
    refine r_callV (As := [.int (h 17 v1.toNatClampNeg)]) (st := [.int v1, .ref 17]) (lvc := 1) (mcc := 0) (msc := 0) C Rm M_He_moved rfl k_276 rfl (by decide) (Nat.le_of_ble_eq_true rfl) ⟨by decide, by decide⟩ d_He_slideLiving_29 ?_
    refine Can.mono K (fun _ h2 z => ?_)
    obtain ⟨r2, rfl, K⟩ := z
    show Wg X 0 0 h2 [(0, .ref 15), (1, .int v1)] [.int r2, .int v1, .ref 17] 32
    obtain ⟨s0, K⟩ := K
    refine r_iast C rfl s0 d_He_slideLiving_32 ?_
    refine r_iinc (ls2 := [(0, .ref 15), (1, .int (v1 + 1))]) C 1 (m := 1) rfl (by decide) (by decide) rfl d_He_slideLiving_33 ?_
    refine r_goto C 11 d_He_slideLiving_36 (by decide) ?_
    exact K
set_option maxRecDepth 20000 in
theorem g_He_makeRoom_0 {X : CX} {h : HP} {v1 : Int32} {Φ : Int32 → HP → Prop} (C : Cok X b_He_makeRoom 2 R_He ((some .boolean))) (Rm : xR X = rml 4 0 0) (Q : Qok X 0 0 (fun r h2 => ∃ v, r = some (.int v) ∧ Φ v h2)) 
    (K : (v1 ≤ ((400 - (h 15 2))) → (((400 - (h 15 2))) < v1 → Φ 0 h) ∧ (¬ ((400 - (h 15 2))) < v1 → Φ 1 h)) ∧ (¬ v1 ≤ ((400 - (h 15 2))) → K_He_slideLiving [.ref 15] h (fun h1 => (((400 - (h1 15 2))) < v1 → Φ 0 h1) ∧ (¬ ((400 - (h1 15 2))) < v1 → Φ 1 h1)))) :
    Wg X 0 0 h [(0, .ref 15), (1, .int v1)] [] 0 := by
  refine r_sipush (v := 400) C (by decide) d_He_makeRoom_0 ?_
  refine r_aload_n C 0 rfl d_He_makeRoom_3 ?_
  refine gf_He_top C rfl k_45 d_He_makeRoom_4 ?_
  refine r_isub C d_He_makeRoom_7 ?_
  refine r_iload_n C 1 rfl d_He_makeRoom_8 ?_
  refine r_icmp_ge C 16 d_He_makeRoom_9 (by decide) ⟨fun c0 => ?_, fun c0 => ?_⟩
  · have K := K.1 c0
    refine r_sipush (v := 400) C (by decide) d_He_makeRoom_16 ?_
    refine r_aload_n C 0 rfl d_He_makeRoom_19 ?_
    refine gf_He_top C rfl k_45 d_He_makeRoom_20 ?_
    refine r_isub C d_He_makeRoom_23 ?_
    refine r_iload_n C 1 rfl d_He_makeRoom_24 ?_
    refine r_icmp_lt C 32 d_He_makeRoom_25 (by decide) ⟨fun c0 => ?_, fun c0 => ?_⟩
    · have K := K.1 c0
      refine r_iconst (v := 0) C (by decide) d_He_makeRoom_32 ?_
      exact q_zret C Q (by decide) d_He_makeRoom_33 ⟨_, rfl, K⟩
    · have K := K.2 c0
      refine r_iconst (v := 1) C (by decide) d_He_makeRoom_28 ?_
      refine r_goto C 33 d_He_makeRoom_29 (by decide) ?_
      exact q_zret C Q (by decide) d_He_makeRoom_33 ⟨_, rfl, K⟩
  · have K := K.2 c0
    refine r_aload_n C 0 rfl d_He_makeRoom_12 ?_
    refine r_callV (As := []) (st := []) (lvc := 3) (mcc := 0) (msc := 0) C Rm M_He_slideLiving rfl k_418 rfl (by decide) (Nat.le_of_ble_eq_true rfl) ⟨by decide, by decide⟩ d_He_makeRoom_13 ?_
    refine Can.mono K (fun _ h1 z => ?_)
    obtain ⟨rfl, K⟩ := z
    show Wg X 0 0 h1 [(0, .ref 15), (1, .int v1)] [] 16
    refine r_sipush (v := 400) C (by decide) d_He_makeRoom_16 ?_
    refine r_aload_n C 0 rfl d_He_makeRoom_19 ?_
    refine gf_He_top C rfl k_45 d_He_makeRoom_20 ?_
    refine r_isub C d_He_makeRoom_23 ?_
    refine r_iload_n C 1 rfl d_He_makeRoom_24 ?_
    refine r_icmp_lt C 32 d_He_makeRoom_25 (by decide) ⟨fun c0 => ?_, fun c0 => ?_⟩
    · have K := K.1 c0
      refine r_iconst (v := 0) C (by decide) d_He_makeRoom_32 ?_
      exact q_zret C Q (by decide) d_He_makeRoom_33 ⟨_, rfl, K⟩
    · have K := K.2 c0
      refine r_iconst (v := 1) C (by decide) d_He_makeRoom_28 ?_
      refine r_goto C 33 d_He_makeRoom_29 (by decide) ?_
      exact q_zret C Q (by decide) d_He_makeRoom_33 ⟨_, rfl, K⟩
set_option maxRecDepth 20000 in
theorem g_He_addTriple_0 {X : CX} {h : HP} {v1 : Int32} {v2 : Int32} {v3 : Int32} {Φ : Int32 → HP → Prop} (C : Cok X b_He_addTriple 5 R_He ((some .int))) (Rm : xR X = rml 1 0 0) (Q : Qok X 0 0 (fun r h2 => ∃ v, r = some (.int v) ∧ Φ v h2)) 
    (K : vp_in (h 15 2) 400 ∧ (vp_in ((h 15 2) + 1) 400 ∧ (vp_in ((h 15 2) + 2) 400 ∧ (K_He_objectAt [.int (h 15 2)] (up (up (up (up h 16 (h 15 2).toNatClampNeg (48 ||| v1)) 16 ((h 15 2) + 1).toNatClampNeg v2) 16 ((h 15 2) + 2).toNatClampNeg v3) 15 2 (((up (up (up h 16 (h 15 2).toNatClampNeg (48 ||| v1)) 16 ((h 15 2) + 1).toNatClampNeg v2) 16 ((h 15 2) + 2).toNatClampNeg v3) 15 2) + 3)) (fun r1 h1 => Φ r1 h1))))) :
    Wg X 0 0 h [(0, .ref 15), (1, .int v1), (2, .int v2), (3, .int v3)] [] 0 := by
  refine r_aload_n C 0 rfl d_He_addTriple_0 ?_
  refine gf_He_top C rfl k_45 d_He_addTriple_1 ?_
  refine r_istore (ls2 := [(0, .ref 15), (1, .int v1), (2, .int v2), (3, .int v3), (4, .int (h 15 2))]) C (by decide) rfl d_He_addTriple_4 ?_
  refine r_aload_n C 0 rfl d_He_addTriple_6 ?_
  refine gf_He_cells (k2 := 16) C rfl rfl k_41 d_He_addTriple_7 ?_
  refine r_iload C 4 rfl d_He_addTriple_10 ?_
  refine r_bipush (v := 48) C (by decide) d_He_addTriple_12 ?_
  refine r_iload_n C 1 rfl d_He_addTriple_14 ?_
  refine r_ior C d_He_addTriple_15 ?_
  obtain ⟨s0, K⟩ := K
  refine r_iast C rfl s0 d_He_addTriple_16 ?_
  refine r_aload_n C 0 rfl d_He_addTriple_17 ?_
  refine gf_He_cells (k2 := 16) C rfl rfl k_41 d_He_addTriple_18 ?_
  refine r_iload C 4 rfl d_He_addTriple_21 ?_
  refine r_iconst (v := 1) C (by decide) d_He_addTriple_23 ?_
  refine r_iadd C d_He_addTriple_24 ?_
  refine r_iload_n C 2 rfl d_He_addTriple_25 ?_
  obtain ⟨s0, K⟩ := K
  refine r_iast C rfl s0 d_He_addTriple_26 ?_
  refine r_aload_n C 0 rfl d_He_addTriple_27 ?_
  refine gf_He_cells (k2 := 16) C rfl rfl k_41 d_He_addTriple_28 ?_
  refine r_iload C 4 rfl d_He_addTriple_31 ?_
  refine r_iconst (v := 2) C (by decide) d_He_addTriple_33 ?_
  refine r_iadd C d_He_addTriple_34 ?_
  refine r_iload_n C 3 rfl d_He_addTriple_35 ?_
  obtain ⟨s0, K⟩ := K
  refine r_iast C rfl s0 d_He_addTriple_36 ?_
  refine r_aload_n C 0 rfl d_He_addTriple_37 ?_
  refine r_dup C rfl d_He_addTriple_38 ?_
  refine gf_He_top C rfl k_45 d_He_addTriple_39 ?_
  refine r_iconst (v := 3) C (by decide) d_He_addTriple_42 ?_
  refine r_iadd C d_He_addTriple_43 ?_
  refine pf_He_top C rfl k_45 d_He_addTriple_44 ?_
  refine r_iload C 4 rfl d_He_addTriple_47 ?_
  refine r_callS (As := [.int (h 15 2)]) (st := []) (lvc := 0) (mcc := 0) (msc := 0) C Rm M_He_objectAt rfl k_280 (by decide) (Nat.le_of_ble_eq_true rfl) ⟨by decide, by decide⟩ d_He_addTriple_49 ?_
  refine Can.mono K (fun _ h1 z => ?_)
  obtain ⟨r1, rfl, K⟩ := z
  show Wg X 0 0 h1 [(0, .ref 15), (1, .int v1), (2, .int v2), (3, .int v3), (4, .int (h 15 2))] [.int r1] 52
  exact q_iret C Q d_He_addTriple_52 ⟨_, rfl, K⟩
set_option maxRecDepth 20000 in
theorem g_He_addWhole_0 {X : CX} {h : HP} {p1 : Nat} {Φ : Int32 → HP → Prop} (C : Cok X b_He_addWhole 4 R_He ((some .int))) (Rm : xR X = rml 2 0 0) (Q : Qok X 0 0 (fun r h2 => ∃ v, r = some (.int v) ∧ Φ v h2)) (hp1 : kd p1 = (0, 0))
    (K : K_Wh_isFixed [.ref p1] h (fun r1 h1 => (r1 = 0 → ((h1 p1 2) = 0 → Wg X 0 0 h1 [(0, .ref 15), (1, .ref p1), (2, .int (h1 15 2)), (3, .int (1 + (h1 p1 1)))] [.int 0, .int ((1 + (h1 p1 1)) <<< (4 &&& (31 : Int32))), .int (h1 15 2), .ref 16] 49) ∧ (¬ (h1 p1 2) = 0 → Wg X 0 0 h1 [(0, .ref 15), (1, .ref p1), (2, .int (h1 15 2)), (3, .int (1 + (h1 p1 1)))] [.int 8, .int ((1 + (h1 p1 1)) <<< (4 &&& (31 : Int32))), .int (h1 15 2), .ref 16] 49)) ∧ (¬ r1 = 0 → K_Wh_asFixed [.ref p1] h1 (fun r2 h2 => Φ ((r2 <<< (1 &&& (31 : Int32))) ||| 1) h2)))) :
    Wg X 0 0 h [(0, .ref 15), (1, .ref p1)] [] 0 := by
  refine r_aload_n C 1 rfl d_He_addWhole_0 ?_
  refine r_callV (As := []) (st := []) (lvc := 0) (mcc := 0) (msc := 0) C Rm M_Wh_isFixed rfl k_400 hp1 (by decide) (Nat.le_of_ble_eq_true rfl) ⟨by decide, by decide⟩ d_He_addWhole_1 ?_
  refine Can.mono K (fun _ h1 z => ?_)
  obtain ⟨r1, rfl, K⟩ := z
  show Wg X 0 0 h1 [(0, .ref 15), (1, .ref p1)] [.int r1] 4
  refine r_if_eq C 16 d_He_addWhole_4 (by decide) ⟨fun c0 => ?_, fun c0 => ?_⟩
  · have K := K.1 c0
    refine r_aload_n C 0 rfl d_He_addWhole_16 ?_
    refine gf_He_top C rfl k_45 d_He_addWhole_17 ?_
    refine r_istore_n (ls2 := [(0, .ref 15), (1, .ref p1), (2, .int (h1 15 2))]) C rfl (by decide) rfl d_He_addWhole_20 ?_
    refine r_iconst (v := 1) C (by decide) d_He_addWhole_21 ?_
    refine r_aload_n C 1 rfl d_He_addWhole_22 ?_
    refine gf_Wh_length C hp1 k_111 d_He_addWhole_23 ?_
    refine r_iadd C d_He_addWhole_26 ?_
    refine r_istore_n (ls2 := [(0, .ref 15), (1, .ref p1), (2, .int (h1 15 2)), (3, .int (1 + (h1 p1 1)))]) C rfl (by decide) rfl d_He_addWhole_27 ?_
    refine r_aload_n C 0 rfl d_He_addWhole_28 ?_
    refine gf_He_cells (k2 := 16) C rfl rfl k_41 d_He_addWhole_29 ?_
    refine r_iload_n C 2 rfl d_He_addWhole_32 ?_
    refine r_iload_n C 3 rfl d_He_addWhole_33 ?_
    refine r_iconst (v := 4) C (by decide) d_He_addWhole_34 ?_
    refine r_ishl C d_He_addWhole_35 ?_
    refine r_aload_n C 1 rfl d_He_addWhole_36 ?_
    refine gf_Wh_below C hp1 k_116 d_He_addWhole_37 ?_
    refine r_if_eq C 48 d_He_addWhole_40 (by decide) ⟨fun c0 => ?_, fun c0 => ?_⟩
    · have K := K.1 c0
      refine r_iconst (v := 0) C (by decide) d_He_addWhole_48 ?_
      exact K
    · have K := K.2 c0
      refine r_bipush (v := 8) C (by decide) d_He_addWhole_43 ?_
      refine r_goto C 49 d_He_addWhole_45 (by decide) ?_
      exact K
  · have K := K.2 c0
    refine r_aload_n C 1 rfl d_He_addWhole_7 ?_
    refine r_callV (As := []) (st := []) (lvc := 0) (mcc := 0) (msc := 0) C Rm M_Wh_asFixed rfl k_427 hp1 (by decide) (Nat.le_of_ble_eq_true rfl) ⟨by decide, by decide⟩ d_He_addWhole_8 ?_
    refine Can.mono K (fun _ h2 z => ?_)
    obtain ⟨r2, rfl, K⟩ := z
    show Wg X 0 0 h2 [(0, .ref 15), (1, .ref p1)] [.int r2] 11
    refine r_iconst (v := 1) C (by decide) d_He_addWhole_11 ?_
    refine r_ishl C d_He_addWhole_12 ?_
    refine r_iconst (v := 1) C (by decide) d_He_addWhole_13 ?_
    refine r_ior C d_He_addWhole_14 ?_
    exact q_iret C Q d_He_addWhole_15 ⟨_, rfl, K⟩
set_option maxRecDepth 20000 in
theorem g_He_addWhole_49 {X : CX} {h : HP} {p1 : Nat} {v2 : Int32} {v3 : Int32} {t3 : Int32} {t2 : Int32} {t1 : Int32} {Φ : Int32 → HP → Prop} (C : Cok X b_He_addWhole 4 R_He ((some .int))) (Rm : xR X = rml 2 0 0) (Q : Qok X 0 0 (fun r h2 => ∃ v, r = some (.int v) ∧ Φ v h2)) (hp1 : kd p1 = (0, 0))
    (K : vp_in t1 400 ∧ (cp_in 0 ((up h 16 t1.toNatClampNeg ((t2 ||| t3) ||| 2)) p1 1) 44 ∧ cp_in (v2 + 1) ((up h 16 t1.toNatClampNeg ((t2 ||| t3) ||| 2)) p1 1) 400 ∧ (K_He_objectAt [.int v2] (up (hs (up h 16 t1.toNatClampNeg ((t2 ||| t3) ||| 2)) 16 (va_cpy ((up h 16 t1.toNatClampNeg ((t2 ||| t3) ||| 2)) (p1 + 1)) ((up h 16 t1.toNatClampNeg ((t2 ||| t3) ||| 2)) 16) (0 : Int32).toNatClampNeg (v2 + 1).toNatClampNeg ((up h 16 t1.toNatClampNeg ((t2 ||| t3) ||| 2)) p1 1).toNatClampNeg)) 15 2 (((hs (up h 16 t1.toNatClampNeg ((t2 ||| t3) ||| 2)) 16 (va_cpy ((up h 16 t1.toNatClampNeg ((t2 ||| t3) ||| 2)) (p1 + 1)) ((up h 16 t1.toNatClampNeg ((t2 ||| t3) ||| 2)) 16) (0 : Int32).toNatClampNeg (v2 + 1).toNatClampNeg ((up h 16 t1.toNatClampNeg ((t2 ||| t3) ||| 2)) p1 1).toNatClampNeg)) 15 2) + v3)) (fun r1 h1 => Φ r1 h1)))) :
    Wg X 0 0 h [(0, .ref 15), (1, .ref p1), (2, .int v2), (3, .int v3)] [.int t3, .int t2, .int t1, .ref 16] 49 := by
  refine r_ior C d_He_addWhole_49 ?_
  refine r_iconst (v := 2) C (by decide) d_He_addWhole_50 ?_
  refine r_ior C d_He_addWhole_51 ?_
  obtain ⟨s0, K⟩ := K
  refine r_iast C rfl s0 d_He_addWhole_52 ?_
  refine r_aload_n C 1 rfl d_He_addWhole_53 ?_
  refine gf_Wh_words (k2 := p1 + 1) C rfl hp1 k_107 d_He_addWhole_54 ?_
  refine r_iconst (v := 0) C (by decide) d_He_addWhole_57 ?_
  refine r_aload_n C 0 rfl d_He_addWhole_58 ?_
  refine gf_He_cells (k2 := 16) C rfl rfl k_41 d_He_addWhole_59 ?_
  refine r_iload_n C 2 rfl d_He_addWhole_62 ?_
  refine r_iconst (v := 1) C (by decide) d_He_addWhole_63 ?_
  refine r_iadd C d_He_addWhole_64 ?_
  refine r_aload_n C 1 rfl d_He_addWhole_65 ?_
  refine gf_Wh_length C hp1 k_111 d_He_addWhole_66 ?_
  obtain ⟨s0, s1, K⟩ := K
  refine r_copy C Rm (by decide) k_287 (kWh1 hp1) rfl s0 s1 (Nat.le_of_ble_eq_true rfl) d_He_addWhole_69 ?_
  refine r_aload_n C 0 rfl d_He_addWhole_72 ?_
  refine r_dup C rfl d_He_addWhole_73 ?_
  refine gf_He_top C rfl k_45 d_He_addWhole_74 ?_
  refine r_iload_n C 3 rfl d_He_addWhole_77 ?_
  refine r_iadd C d_He_addWhole_78 ?_
  refine pf_He_top C rfl k_45 d_He_addWhole_79 ?_
  refine r_iload_n C 2 rfl d_He_addWhole_82 ?_
  refine r_callS (As := [.int v2]) (st := []) (lvc := 0) (mcc := 0) (msc := 0) C Rm M_He_objectAt rfl k_280 (by decide) (Nat.le_of_ble_eq_true rfl) ⟨by decide, by decide⟩ d_He_addWhole_83 ?_
  refine Can.mono K (fun _ h1 z => ?_)
  obtain ⟨r1, rfl, K⟩ := z
  show Wg X 0 0 h1 [(0, .ref 15), (1, .ref p1), (2, .int v2), (3, .int v3)] [.int r1] 86
  exact q_iret C Q d_He_addWhole_86 ⟨_, rfl, K⟩
set_option maxRecDepth 20000 in
theorem g_He_addNumber_0 {X : CX} {h : HP} {p1 : Nat} {Φ : Int32 → HP → Prop} (C : Cok X b_He_addNumber 4 R_He ((some .int))) (Rm : xR X = rml 3 0 0) (Q : Qok X 0 0 (fun r h2 => ∃ v, r = some (.int v) ∧ Φ v h2)) (hp1 : kd p1 = (1, 0))
    (K : K_He_addWhole [.ref 15, .ref (p1 + 1)] h (fun r1 h1 => K_Ra_isWhole [.ref p1] h1 (fun r2 h2 => (r2 = 0 → K_He_addWhole [.ref 15, .ref (p1 + 3)] h2 (fun r3 h3 => K_He_addTriple [.ref 15, .int 3, .int r1, .int r3] h3 (fun r4 h4 => Φ r4 h4))) ∧ (¬ r2 = 0 → Φ r1 h2)))) :
    Wg X 0 0 h [(0, .ref 15), (1, .ref p1)] [] 0 := by
  refine r_aload_n C 0 rfl d_He_addNumber_0 ?_
  refine r_aload_n C 1 rfl d_He_addNumber_1 ?_
  refine gf_Ra_upper (k2 := p1 + 1) C rfl hp1 k_127 d_He_addNumber_2 ?_
  refine r_callV (As := [.ref (p1 + 1)]) (st := []) (lvc := 2) (mcc := 0) (msc := 0) C Rm M_He_addWhole rfl k_423 rfl (by decide) (Nat.le_of_ble_eq_true rfl) ⟨by decide, by decide⟩ d_He_addNumber_5 ?_
  refine Can.mono K (fun _ h1 z => ?_)
  obtain ⟨r1, rfl, K⟩ := z
  show Wg X 0 0 h1 [(0, .ref 15), (1, .ref p1)] [.int r1] 8
  refine r_istore_n (ls2 := [(0, .ref 15), (1, .ref p1), (2, .int r1)]) C rfl (by decide) rfl d_He_addNumber_8 ?_
  refine r_aload_n C 1 rfl d_He_addNumber_9 ?_
  refine r_callV (As := []) (st := []) (lvc := 1) (mcc := 0) (msc := 0) C Rm M_Ra_isWhole rfl k_406 hp1 (by decide) (Nat.le_of_ble_eq_true rfl) ⟨by decide, by decide⟩ d_He_addNumber_10 ?_
  refine Can.mono K (fun _ h2 z => ?_)
  obtain ⟨r2, rfl, K⟩ := z
  show Wg X 0 0 h2 [(0, .ref 15), (1, .ref p1), (2, .int r1)] [.int r2] 13
  refine r_if_eq C 18 d_He_addNumber_13 (by decide) ⟨fun c0 => ?_, fun c0 => ?_⟩
  · have K := K.1 c0
    refine r_aload_n C 0 rfl d_He_addNumber_18 ?_
    refine r_aload_n C 1 rfl d_He_addNumber_19 ?_
    refine gf_Ra_lower (k2 := p1 + 3) C rfl hp1 k_132 d_He_addNumber_20 ?_
    refine r_callV (As := [.ref (p1 + 3)]) (st := []) (lvc := 2) (mcc := 0) (msc := 0) C Rm M_He_addWhole rfl k_423 rfl (by decide) (Nat.le_of_ble_eq_true rfl) ⟨by decide, by decide⟩ d_He_addNumber_23 ?_
    refine Can.mono K (fun _ h3 z => ?_)
    obtain ⟨r3, rfl, K⟩ := z
    show Wg X 0 0 h3 [(0, .ref 15), (1, .ref p1), (2, .int r1)] [.int r3] 26
    refine r_istore_n (ls2 := [(0, .ref 15), (1, .ref p1), (2, .int r1), (3, .int r3)]) C rfl (by decide) rfl d_He_addNumber_26 ?_
    refine r_aload_n C 0 rfl d_He_addNumber_27 ?_
    refine r_iconst (v := 3) C (by decide) d_He_addNumber_28 ?_
    refine r_iload_n C 2 rfl d_He_addNumber_29 ?_
    refine r_iload_n C 3 rfl d_He_addNumber_30 ?_
    refine r_callV (As := [.int 3, .int r1, .int r3]) (st := []) (lvc := 1) (mcc := 0) (msc := 0) C Rm M_He_addTriple rfl k_431 rfl (by decide) (Nat.le_of_ble_eq_true rfl) ⟨by decide, by decide⟩ d_He_addNumber_31 ?_
    refine Can.mono K (fun _ h4 z => ?_)
    obtain ⟨r4, rfl, K⟩ := z
    show Wg X 0 0 h4 [(0, .ref 15), (1, .ref p1), (2, .int r1), (3, .int r3)] [.int r4] 34
    exact q_iret C Q d_He_addNumber_34 ⟨_, rfl, K⟩
  · have K := K.2 c0
    refine r_iload_n C 2 rfl d_He_addNumber_16 ?_
    exact q_iret C Q d_He_addNumber_17 ⟨_, rfl, K⟩
set_option maxRecDepth 20000 in
theorem g_He_objectsBelowTop_0 {X : CX} {h : HP}  {Φ : Int32 → HP → Prop} (C : Cok X b_He_objectsBelowTop 3 R_He ((some .int))) (Rm : xR X = rml 1 0 0) (Q : Qok X 0 0 (fun r h2 => ∃ v, r = some (.int v) ∧ Φ v h2)) 
    (K : Wg X 0 0 h [(0, .ref 15), (1, .int 0), (2, .int 0)] [] 4) :
    Wg X 0 0 h [(0, .ref 15)] [] 0 := by
  refine r_iconst (v := 0) C (by decide) d_He_objectsBelowTop_0 ?_
  refine r_istore_n (ls2 := [(0, .ref 15), (1, .int 0)]) C rfl (by decide) rfl d_He_objectsBelowTop_1 ?_
  refine r_iconst (v := 0) C (by decide) d_He_objectsBelowTop_2 ?_
  refine r_istore_n (ls2 := [(0, .ref 15), (1, .int 0), (2, .int 0)]) C rfl (by decide) rfl d_He_objectsBelowTop_3 ?_
  exact K
set_option maxRecDepth 20000 in
theorem g_He_objectsBelowTop_4 {X : CX} {h : HP} {v1 : Int32} {v2 : Int32} {Φ : Int32 → HP → Prop} (C : Cok X b_He_objectsBelowTop 3 R_He ((some .int))) (Rm : xR X = rml 1 0 0) (Q : Qok X 0 0 (fun r h2 => ∃ v, r = some (.int v) ∧ Φ v h2)) 
    (K : (((h 15 2)) ≤ v2 → Φ v1 h) ∧ (¬ ((h 15 2)) ≤ v2 → ((400 : Int32) ≤ v1 → Φ v1 h) ∧ (¬ (400 : Int32) ≤ v1 → K_He_sizeAt [.ref 15, .int v2] h (fun r1 h1 => Wg X 0 0 h1 [(0, .ref 15), (1, .int (v1 + 1)), (2, .int (v2 + r1))] [] 4)))) :
    Wg X 0 0 h [(0, .ref 15), (1, .int v1), (2, .int v2)] [] 4 := by
  refine r_iload_n C 2 rfl d_He_objectsBelowTop_4 ?_
  refine r_aload_n C 0 rfl d_He_objectsBelowTop_5 ?_
  refine gf_He_top C rfl k_45 d_He_objectsBelowTop_6 ?_
  refine r_icmp_ge C 33 d_He_objectsBelowTop_9 (by decide) ⟨fun c0 => ?_, fun c0 => ?_⟩
  · have K := K.1 c0
    refine r_iload_n C 1 rfl d_He_objectsBelowTop_33 ?_
    exact q_iret C Q d_He_objectsBelowTop_34 ⟨_, rfl, K⟩
  · have K := K.2 c0
    refine r_iload_n C 1 rfl d_He_objectsBelowTop_12 ?_
    refine r_sipush (v := 400) C (by decide) d_He_objectsBelowTop_13 ?_
    refine r_icmp_ge C 33 d_He_objectsBelowTop_16 (by decide) ⟨fun c0 => ?_, fun c0 => ?_⟩
    · have K := K.1 c0
      refine r_iload_n C 1 rfl d_He_objectsBelowTop_33 ?_
      exact q_iret C Q d_He_objectsBelowTop_34 ⟨_, rfl, K⟩
    · have K := K.2 c0
      refine r_iload_n C 2 rfl d_He_objectsBelowTop_19 ?_
      refine r_aload_n C 0 rfl d_He_objectsBelowTop_20 ?_
      refine r_iload_n C 2 rfl d_He_objectsBelowTop_21 ?_
      refine r_callV (As := [.int v2]) (st := [.int v2]) (lvc := 0) (mcc := 0) (msc := 0) C Rm M_He_sizeAt rfl k_272 rfl (by decide) (Nat.le_of_ble_eq_true rfl) ⟨by decide, by decide⟩ d_He_objectsBelowTop_22 ?_
      refine Can.mono K (fun _ h1 z => ?_)
      obtain ⟨r1, rfl, K⟩ := z
      show Wg X 0 0 h1 [(0, .ref 15), (1, .int v1), (2, .int v2)] [.int r1, .int v2] 25
      refine r_iadd C d_He_objectsBelowTop_25 ?_
      refine r_istore_n (ls2 := [(0, .ref 15), (1, .int v1), (2, .int (v2 + r1))]) C rfl (by decide) rfl d_He_objectsBelowTop_26 ?_
      refine r_iinc (ls2 := [(0, .ref 15), (1, .int (v1 + 1)), (2, .int (v2 + r1))]) C 1 (m := 1) rfl (by decide) (by decide) rfl d_He_objectsBelowTop_27 ?_
      refine r_goto C 4 d_He_objectsBelowTop_30 (by decide) ?_
      exact K
set_option maxRecDepth 20000 in
theorem g_Li_charactersIn_0 {X : CX} {h : HP} {v0 : Int32} {Φ : Int32 → HP → Prop} (C : Cok X b_Li_charactersIn 3 R_Li ((some .int))) (Rm : xR X = rml 0 0 0) (Q : Qok X 0 0 (fun r h2 => ∃ v, r = some (.int v) ∧ Φ v h2)) 
    (K : Wg X 0 0 h [(0, .int v0), (1, .int 0), (2, .int 24)] [] 5) :
    Wg X 0 0 h [(0, .int v0)] [] 0 := by
  refine r_iconst (v := 0) C (by decide) d_Li_charactersIn_0 ?_
  refine r_istore_n (ls2 := [(0, .int v0), (1, .int 0)]) C rfl (by decide) rfl d_Li_charactersIn_1 ?_
  refine r_bipush (v := 24) C (by decide) d_Li_charactersIn_2 ?_
  refine r_istore_n (ls2 := [(0, .int v0), (1, .int 0), (2, .int 24)]) C rfl (by decide) rfl d_Li_charactersIn_4 ?_
  exact K
set_option maxRecDepth 20000 in
theorem g_Li_charactersIn_5 {X : CX} {h : HP} {v0 : Int32} {v1 : Int32} {v2 : Int32} {Φ : Int32 → HP → Prop} (C : Cok X b_Li_charactersIn 3 R_Li ((some .int))) (Rm : xR X = rml 0 0 0) (Q : Qok X 0 0 (fun r h2 => ∃ v, r = some (.int v) ∧ Φ v h2)) 
    (K : (v2 < 0 → Φ v1 h) ∧ (¬ v2 < 0 → (((iushr v0 v2) &&& 255) = 0 → Wg X 0 0 h [(0, .int v0), (1, .int v1), (2, .int (v2 + (-8)))] [] 5) ∧ (¬ ((iushr v0 v2) &&& 255) = 0 → Wg X 0 0 h [(0, .int v0), (1, .int (v1 + 1)), (2, .int (v2 + (-8)))] [] 5))) :
    Wg X 0 0 h [(0, .int v0), (1, .int v1), (2, .int v2)] [] 5 := by
  refine r_iload_n C 2 rfl d_Li_charactersIn_5 ?_
  refine r_if_lt C 28 d_Li_charactersIn_6 (by decide) ⟨fun c0 => ?_, fun c0 => ?_⟩
  · have K := K.1 c0
    refine r_iload_n C 1 rfl d_Li_charactersIn_28 ?_
    exact q_iret C Q d_Li_charactersIn_29 ⟨_, rfl, K⟩
  · have K := K.2 c0
    refine r_iload_n C 0 rfl d_Li_charactersIn_9 ?_
    refine r_iload_n C 2 rfl d_Li_charactersIn_10 ?_
    refine r_iushr C d_Li_charactersIn_11 ?_
    refine r_sipush (v := 255) C (by decide) d_Li_charactersIn_12 ?_
    refine r_iand C d_Li_charactersIn_15 ?_
    refine r_if_eq C 22 d_Li_charactersIn_16 (by decide) ⟨fun c0 => ?_, fun c0 => ?_⟩
    · have K := K.1 c0
      refine r_iinc (ls2 := [(0, .int v0), (1, .int v1), (2, .int (v2 + (-8)))]) C 2 (m := -8) rfl (by decide) (by decide) rfl d_Li_charactersIn_22 ?_
      refine r_goto C 5 d_Li_charactersIn_25 (by decide) ?_
      exact K
    · have K := K.2 c0
      refine r_iinc (ls2 := [(0, .int v0), (1, .int (v1 + 1)), (2, .int v2)]) C 1 (m := 1) rfl (by decide) (by decide) rfl d_Li_charactersIn_19 ?_
      refine r_iinc (ls2 := [(0, .int v0), (1, .int (v1 + 1)), (2, .int (v2 + (-8)))]) C 2 (m := -8) rfl (by decide) (by decide) rfl d_Li_charactersIn_22 ?_
      refine r_goto C 5 d_Li_charactersIn_25 (by decide) ?_
      exact K
set_option maxRecDepth 20000 in
theorem g_Li_addFour_0 {X : CX} {h : HP} {v1 : Int32} {Φ : HP → Prop} (C : Cok X b_Li_addFour 4 R_Li none) (Rm : xR X = rml 0 0 0) (Q : Qok X 0 0 (fun r h2 => r = none ∧ Φ h2)) 
    (K : Wg X 0 0 h [(0, .ref 21), (1, .int v1), (2, .int 24)] [] 3) :
    Wg X 0 0 h [(0, .ref 21), (1, .int v1)] [] 0 := by
  refine r_bipush (v := 24) C (by decide) d_Li_addFour_0 ?_
  refine r_istore_n (ls2 := [(0, .ref 21), (1, .int v1), (2, .int 24)]) C rfl (by decide) rfl d_Li_addFour_2 ?_
  exact K
set_option maxRecDepth 20000 in
theorem g_Li_addFour_3 {X : CX} {h : HP} {v1 : Int32} {v2 : Int32} {Φ : HP → Prop} (C : Cok X b_Li_addFour 4 R_Li none) (Rm : xR X = rml 0 0 0) (Q : Qok X 0 0 (fun r h2 => r = none ∧ Φ h2)) 
    (K : (v2 < 0 → Φ h) ∧ (¬ v2 < 0 → (((iushr v1 v2) &&& 255) = 0 → Wg X 0 0 h [(0, .ref 21), (1, .int v1), (2, .int (v2 + (-8)))] [] 3) ∧ (¬ ((iushr v1 v2) &&& 255) = 0 → ((200 : Int32) ≤ ((h 21 1)) → Wg X 0 0 h [(0, .ref 21), (1, .int v1), (2, .int (v2 + (-8)))] [] 3) ∧ (¬ (200 : Int32) ≤ ((h 21 1)) → vp_in (h 21 1) 200 ∧ (Wg X 0 0 (up (up h 22 (h 21 1).toNatClampNeg (vp_nar .char (i2c ((iushr v1 v2) &&& 255)))) 21 1 (((up h 22 (h 21 1).toNatClampNeg (vp_nar .char (i2c ((iushr v1 v2) &&& 255)))) 21 1) + 1)) [(0, .ref 21), (1, .int v1), (2, .int (v2 + (-8)))] [] 3))))) :
    Wg X 0 0 h [(0, .ref 21), (1, .int v1), (2, .int v2)] [] 3 := by
  refine r_iload_n C 2 rfl d_Li_addFour_3 ?_
  refine r_if_lt C 56 d_Li_addFour_4 (by decide) ⟨fun c0 => ?_, fun c0 => ?_⟩
  · have K := K.1 c0
    exact q_vret C Q d_Li_addFour_56 ⟨rfl, K⟩
  · have K := K.2 c0
    refine r_iload_n C 1 rfl d_Li_addFour_7 ?_
    refine r_iload_n C 2 rfl d_Li_addFour_8 ?_
    refine r_iushr C d_Li_addFour_9 ?_
    refine r_sipush (v := 255) C (by decide) d_Li_addFour_10 ?_
    refine r_iand C d_Li_addFour_13 ?_
    refine r_istore_n (ls2 := [(0, .ref 21), (1, .int v1), (2, .int v2), (3, .int ((iushr v1 v2) &&& 255))]) C rfl (by decide) rfl d_Li_addFour_14 ?_
    refine r_iload_n C 3 rfl d_Li_addFour_15 ?_
    refine r_if_eq C 50 d_Li_addFour_16 (by decide) ⟨fun c0 => ?_, fun c0 => ?_⟩
    · have K := K.1 c0
      refine r_iinc (ls2 := [(0, .ref 21), (1, .int v1), (2, .int (v2 + (-8))), (3, .int ((iushr v1 v2) &&& 255))]) C 2 (m := -8) rfl (by decide) (by decide) rfl d_Li_addFour_50 ?_
      refine r_goto C 3 d_Li_addFour_53 (by decide) ?_
      exact Wg.drop (by simp) K
    · have K := K.2 c0
      refine r_aload_n C 0 rfl d_Li_addFour_19 ?_
      refine gf_Li_length C rfl k_79 d_Li_addFour_20 ?_
      refine r_sipush (v := 200) C (by decide) d_Li_addFour_23 ?_
      refine r_icmp_ge C 50 d_Li_addFour_26 (by decide) ⟨fun c0 => ?_, fun c0 => ?_⟩
      · have K := K.1 c0
        refine r_iinc (ls2 := [(0, .ref 21), (1, .int v1), (2, .int (v2 + (-8))), (3, .int ((iushr v1 v2) &&& 255))]) C 2 (m := -8) rfl (by decide) (by decide) rfl d_Li_addFour_50 ?_
        refine r_goto C 3 d_Li_addFour_53 (by decide) ?_
        exact Wg.drop (by simp) K
      · have K := K.2 c0
        refine r_aload_n C 0 rfl d_Li_addFour_29 ?_
        refine gf_Li_text (k2 := 22) C rfl rfl k_78 d_Li_addFour_30 ?_
        refine r_aload_n C 0 rfl d_Li_addFour_33 ?_
        refine gf_Li_length C rfl k_79 d_Li_addFour_34 ?_
        refine r_iload_n C 3 rfl d_Li_addFour_37 ?_
        refine r_i2c C d_Li_addFour_38 ?_
        obtain ⟨s0, K⟩ := K
        refine r_cast C rfl s0 d_Li_addFour_39 ?_
        refine r_aload_n C 0 rfl d_Li_addFour_40 ?_
        refine r_dup C rfl d_Li_addFour_41 ?_
        refine gf_Li_length C rfl k_79 d_Li_addFour_42 ?_
        refine r_iconst (v := 1) C (by decide) d_Li_addFour_45 ?_
        refine r_iadd C d_Li_addFour_46 ?_
        refine pf_Li_length C rfl k_79 d_Li_addFour_47 ?_
        refine r_iinc (ls2 := [(0, .ref 21), (1, .int v1), (2, .int (v2 + (-8))), (3, .int ((iushr v1 v2) &&& 255))]) C 2 (m := -8) rfl (by decide) (by decide) rfl d_Li_addFour_50 ?_
        refine r_goto C 3 d_Li_addFour_53 (by decide) ?_
        exact Wg.drop (by simp) K
set_option maxRecDepth 20000 in
theorem g_Li_stands_0 {X : CX} {h : HP} {v1 : Int32} {v2 : Int32} {Φ : Int32 → HP → Prop} (C : Cok X b_Li_stands 3 R_Li ((some .boolean))) (Rm : xR X = rml 0 0 0) (Q : Qok X 0 0 (fun r h2 => ∃ v, r = some (.int v) ∧ Φ v h2)) 
    (K : (((h 21 1)) ≤ v2 → Φ 0 h) ∧ (¬ ((h 21 1)) ≤ v2 → vp_in v2 200 ∧ ((¬ ((h 22 v2.toNatClampNeg)) = v1 → Φ 0 h) ∧ (((h 22 v2.toNatClampNeg)) = v1 → Φ 1 h)))) :
    Wg X 0 0 h [(0, .ref 21), (1, .int v1), (2, .int v2)] [] 0 := by
  refine r_iload_n C 2 rfl d_Li_stands_0 ?_
  refine r_aload_n C 0 rfl d_Li_stands_1 ?_
  refine gf_Li_length C rfl k_79 d_Li_stands_2 ?_
  refine r_icmp_ge C 22 d_Li_stands_5 (by decide) ⟨fun c0 => ?_, fun c0 => ?_⟩
  · have K := K.1 c0
    refine r_iconst (v := 0) C (by decide) d_Li_stands_22 ?_
    exact q_zret C Q (by decide) d_Li_stands_23 ⟨_, rfl, K⟩
  · have K := K.2 c0
    refine r_aload_n C 0 rfl d_Li_stands_8 ?_
    refine gf_Li_text (k2 := 22) C rfl rfl k_78 d_Li_stands_9 ?_
    refine r_iload_n C 2 rfl d_Li_stands_12 ?_
    obtain ⟨s0, K⟩ := K
    refine r_cald C rfl s0 d_Li_stands_13 ?_
    refine r_iload_n C 1 rfl d_Li_stands_14 ?_
    refine r_icmp_ne C 22 d_Li_stands_15 (by decide) ⟨fun c0 => ?_, fun c0 => ?_⟩
    · have K := K.1 c0
      refine r_iconst (v := 0) C (by decide) d_Li_stands_22 ?_
      exact q_zret C Q (by decide) d_Li_stands_23 ⟨_, rfl, K⟩
    · have K := K.2 c0
      refine r_iconst (v := 1) C (by decide) d_Li_stands_18 ?_
      refine r_goto C 23 d_Li_stands_19 (by decide) ?_
      exact q_zret C Q (by decide) d_Li_stands_23 ⟨_, rfl, K⟩
set_option maxRecDepth 20000 in
theorem g_Li_endOfDigits_0 {X : CX} {h : HP} {v1 : Int32} {Φ : Int32 → HP → Prop} (C : Cok X b_Li_endOfDigits 3 R_Li ((some .int))) (Rm : xR X = rml 0 0 0) (Q : Qok X 0 0 (fun r h2 => ∃ v, r = some (.int v) ∧ Φ v h2)) 
    (K : Wg X 0 0 h [(0, .ref 21), (1, .int v1), (2, .int v1)] [] 2) :
    Wg X 0 0 h [(0, .ref 21), (1, .int v1)] [] 0 := by
  refine r_iload_n C 1 rfl d_Li_endOfDigits_0 ?_
  refine r_istore_n (ls2 := [(0, .ref 21), (1, .int v1), (2, .int v1)]) C rfl (by decide) rfl d_Li_endOfDigits_1 ?_
  exact K
set_option maxRecDepth 20000 in
theorem g_Li_endOfDigits_2 {X : CX} {h : HP} {v1 : Int32} {v2 : Int32} {Φ : Int32 → HP → Prop} (C : Cok X b_Li_endOfDigits 3 R_Li ((some .int))) (Rm : xR X = rml 0 0 0) (Q : Qok X 0 0 (fun r h2 => ∃ v, r = some (.int v) ∧ Φ v h2)) 
    (K : (((h 21 1)) ≤ v2 → Φ v2 h) ∧ (¬ ((h 21 1)) ≤ v2 → vp_in v2 200 ∧ ((((h 22 v2.toNatClampNeg)) < (48 : Int32) → Φ v2 h) ∧ (¬ ((h 22 v2.toNatClampNeg)) < (48 : Int32) → vp_in v2 200 ∧ (((57 : Int32) < ((h 22 v2.toNatClampNeg)) → Φ v2 h) ∧ (¬ (57 : Int32) < ((h 22 v2.toNatClampNeg)) → Wg X 0 0 h [(0, .ref 21), (1, .int v1), (2, .int (v2 + 1))] [] 2)))))) :
    Wg X 0 0 h [(0, .ref 21), (1, .int v1), (2, .int v2)] [] 2 := by
  refine r_iload_n C 2 rfl d_Li_endOfDigits_2 ?_
  refine r_aload_n C 0 rfl d_Li_endOfDigits_3 ?_
  refine gf_Li_length C rfl k_79 d_Li_endOfDigits_4 ?_
  refine r_icmp_ge C 38 d_Li_endOfDigits_7 (by decide) ⟨fun c0 => ?_, fun c0 => ?_⟩
  · have K := K.1 c0
    refine r_iload_n C 2 rfl d_Li_endOfDigits_38 ?_
    exact q_iret C Q d_Li_endOfDigits_39 ⟨_, rfl, K⟩
  · have K := K.2 c0
    refine r_aload_n C 0 rfl d_Li_endOfDigits_10 ?_
    refine gf_Li_text (k2 := 22) C rfl rfl k_78 d_Li_endOfDigits_11 ?_
    refine r_iload_n C 2 rfl d_Li_endOfDigits_14 ?_
    obtain ⟨s0, K⟩ := K
    refine r_cald C rfl s0 d_Li_endOfDigits_15 ?_
    refine r_bipush (v := 48) C (by decide) d_Li_endOfDigits_16 ?_
    refine r_icmp_lt C 38 d_Li_endOfDigits_18 (by decide) ⟨fun c0 => ?_, fun c0 => ?_⟩
    · have K := K.1 c0
      refine r_iload_n C 2 rfl d_Li_endOfDigits_38 ?_
      exact q_iret C Q d_Li_endOfDigits_39 ⟨_, rfl, K⟩
    · have K := K.2 c0
      refine r_aload_n C 0 rfl d_Li_endOfDigits_21 ?_
      refine gf_Li_text (k2 := 22) C rfl rfl k_78 d_Li_endOfDigits_22 ?_
      refine r_iload_n C 2 rfl d_Li_endOfDigits_25 ?_
      obtain ⟨s0, K⟩ := K
      refine r_cald C rfl s0 d_Li_endOfDigits_26 ?_
      refine r_bipush (v := 57) C (by decide) d_Li_endOfDigits_27 ?_
      refine r_icmp_gt C 38 d_Li_endOfDigits_29 (by decide) ⟨fun c0 => ?_, fun c0 => ?_⟩
      · have K := K.1 c0
        refine r_iload_n C 2 rfl d_Li_endOfDigits_38 ?_
        exact q_iret C Q d_Li_endOfDigits_39 ⟨_, rfl, K⟩
      · have K := K.2 c0
        refine r_iinc (ls2 := [(0, .ref 21), (1, .int v1), (2, .int (v2 + 1))]) C 2 (m := 1) rfl (by decide) (by decide) rfl d_Li_endOfDigits_32 ?_
        refine r_goto C 2 d_Li_endOfDigits_35 (by decide) ?_
        exact K
set_option maxRecDepth 20000 in
theorem g_Li_takeDigits_0 {X : CX} {h : HP} {p3 : Nat} {v1 : Int32} {v2 : Int32} {Φ : HP → Prop} (C : Cok X b_Li_takeDigits 5 R_Li none) (Rm : xR X = rml 2 0 0) (Q : Qok X 0 0 (fun r h2 => r = none ∧ Φ h2)) (hp3 : kd p3 = (0, 0))
    (K : K_Wh_setLong [.ref p3, .long 0] h (fun h1 => Wg X 0 0 h1 [(0, .ref 21), (1, .int v1), (2, .int v2), (3, .ref p3), (4, .int v1)] [] 8)) :
    Wg X 0 0 h [(0, .ref 21), (1, .int v1), (2, .int v2), (3, .ref p3)] [] 0 := by
  refine r_aload_n C 3 rfl d_Li_takeDigits_0 ?_
  refine r_lconst (v := 0) C (by decide) d_Li_takeDigits_1 ?_
  refine r_callV (As := [.long 0]) (st := []) (lvc := 1) (mcc := 0) (msc := 0) C Rm M_Wh_setLong rfl k_943 hp3 (by decide) (Nat.le_of_ble_eq_true rfl) ⟨by decide, by decide⟩ d_Li_takeDigits_2 ?_
  refine Can.mono K (fun _ h1 z => ?_)
  obtain ⟨rfl, K⟩ := z
  show Wg X 0 0 h1 [(0, .ref 21), (1, .int v1), (2, .int v2), (3, .ref p3)] [] 5
  refine r_iload_n C 1 rfl d_Li_takeDigits_5 ?_
  refine r_istore (ls2 := [(0, .ref 21), (1, .int v1), (2, .int v2), (3, .ref p3), (4, .int v1)]) C (by decide) rfl d_Li_takeDigits_6 ?_
  exact K
set_option maxRecDepth 20000 in
theorem g_Li_takeDigits_8 {X : CX} {h : HP} {p3 : Nat} {v1 : Int32} {v2 : Int32} {v4 : Int32} {Φ : HP → Prop} (C : Cok X b_Li_takeDigits 5 R_Li none) (Rm : xR X = rml 2 0 0) (Q : Qok X 0 0 (fun r h2 => r = none ∧ Φ h2)) (hp3 : kd p3 = (0, 0))
    (K : (v2 ≤ v4 → Φ h) ∧ (¬ v2 ≤ v4 → vp_in v4 200 ∧ (K_Wh_multiplyBy10AndAdd [.ref p3, .int ((h 22 v4.toNatClampNeg) - 48)] h (fun h1 => Wg X 0 0 h1 [(0, .ref 21), (1, .int v1), (2, .int v2), (3, .ref p3), (4, .int (v4 + 1))] [] 8)))) :
    Wg X 0 0 h [(0, .ref 21), (1, .int v1), (2, .int v2), (3, .ref p3), (4, .int v4)] [] 8 := by
  refine r_iload C 4 rfl d_Li_takeDigits_8 ?_
  refine r_iload_n C 2 rfl d_Li_takeDigits_10 ?_
  refine r_icmp_ge C 34 d_Li_takeDigits_11 (by decide) ⟨fun c0 => ?_, fun c0 => ?_⟩
  · have K := K.1 c0
    exact q_vret C Q d_Li_takeDigits_34 ⟨rfl, K⟩
  · have K := K.2 c0
    refine r_aload_n C 3 rfl d_Li_takeDigits_14 ?_
    refine r_aload_n C 0 rfl d_Li_takeDigits_15 ?_
    refine gf_Li_text (k2 := 22) C rfl rfl k_78 d_Li_takeDigits_16 ?_
    refine r_iload C 4 rfl d_Li_takeDigits_19 ?_
    obtain ⟨s0, K⟩ := K
    refine r_cald C rfl s0 d_Li_takeDigits_21 ?_
    refine r_bipush (v := 48) C (by decide) d_Li_takeDigits_22 ?_
    refine r_isub C d_Li_takeDigits_24 ?_
    refine r_callV (As := [.int ((h 22 v4.toNatClampNeg) - 48)]) (st := []) (lvc := 1) (mcc := 0) (msc := 0) C Rm M_Wh_multiplyBy10AndAdd rfl k_944 hp3 (by decide) (Nat.le_of_ble_eq_true rfl) ⟨by decide, by decide⟩ d_Li_takeDigits_25 ?_
    refine Can.mono K (fun _ h1 z => ?_)
    obtain ⟨rfl, K⟩ := z
    show Wg X 0 0 h1 [(0, .ref 21), (1, .int v1), (2, .int v2), (3, .ref p3), (4, .int v4)] [] 28
    refine r_iinc (ls2 := [(0, .ref 21), (1, .int v1), (2, .int v2), (3, .ref p3), (4, .int (v4 + 1))]) C 4 (m := 1) rfl (by decide) (by decide) rfl d_Li_takeDigits_28 ?_
    refine r_goto C 8 d_Li_takeDigits_31 (by decide) ?_
    exact K
set_option maxRecDepth 20000 in
theorem g_Li_tellsNumber_0 {X : CX} {h : HP} {p1 : Nat} {Φ : Int32 → HP → Prop} (C : Cok X b_Li_tellsNumber 7 R_Li ((some .boolean))) (Rm : xR X = rml 3 0 0) (Q : Qok X 0 0 (fun r h2 => ∃ v, r = some (.int v) ∧ Φ v h2)) (hp1 : kd p1 = (1, 0))
    (K : K_Li_stands [.ref 21, .int 45, .int 0] h (fun r1 h1 => (r1 = 0 → Wg X 0 0 h1 [(0, .ref 21), (1, .ref p1), (2, .int r1)] [.int 0] 17) ∧ (¬ r1 = 0 → Wg X 0 0 h1 [(0, .ref 21), (1, .ref p1), (2, .int r1)] [.int 1] 17))) :
    Wg X 0 0 h [(0, .ref 21), (1, .ref p1)] [] 0 := by
  refine r_aload_n C 0 rfl d_Li_tellsNumber_0 ?_
  refine r_bipush (v := 45) C (by decide) d_Li_tellsNumber_1 ?_
  refine r_iconst (v := 0) C (by decide) d_Li_tellsNumber_3 ?_
  refine r_callV (As := [.int 45, .int 0]) (st := []) (lvc := 0) (mcc := 0) (msc := 0) C Rm M_Li_stands rfl k_931 rfl (by decide) (Nat.le_of_ble_eq_true rfl) ⟨by decide, by decide⟩ d_Li_tellsNumber_4 ?_
  refine Can.mono K (fun _ h1 z => ?_)
  obtain ⟨r1, rfl, K⟩ := z
  show Wg X 0 0 h1 [(0, .ref 21), (1, .ref p1)] [.int r1] 7
  refine r_istore_n (ls2 := [(0, .ref 21), (1, .ref p1), (2, .int r1)]) C rfl (by decide) rfl d_Li_tellsNumber_7 ?_
  refine r_iload_n C 2 rfl d_Li_tellsNumber_8 ?_
  refine r_if_eq C 16 d_Li_tellsNumber_9 (by decide) ⟨fun c0 => ?_, fun c0 => ?_⟩
  · have K := K.1 c0
    refine r_iconst (v := 0) C (by decide) d_Li_tellsNumber_16 ?_
    exact K
  · have K := K.2 c0
    refine r_iconst (v := 1) C (by decide) d_Li_tellsNumber_12 ?_
    refine r_goto C 17 d_Li_tellsNumber_13 (by decide) ?_
    exact K
set_option maxRecDepth 20000 in
theorem g_Li_tellsNumber_17 {X : CX} {h : HP} {p1 : Nat} {v2 : Int32} {t0 : Int32} {Φ : Int32 → HP → Prop} (C : Cok X b_Li_tellsNumber 7 R_Li ((some .boolean))) (Rm : xR X = rml 3 0 0) (Q : Qok X 0 0 (fun r h2 => ∃ v, r = some (.int v) ∧ Φ v h2)) (hp1 : kd p1 = (1, 0))
    (K : K_Li_endOfDigits [.ref 21, .int t0] h (fun r1 h1 => (¬ r1 = t0 → K_Li_takeDigits [.ref 21, .int t0, .int r1, .ref (p1 + 1)] h1 (fun h2 => (v2 = 0 → Wg X 0 0 h2 [(0, .ref 21), (1, .ref p1), (2, .int v2), (3, .int t0), (4, .int r1)] [] 55) ∧ (¬ v2 = 0 → K_Wh_flipSign [.ref (p1 + 1)] h2 (fun h3 => Wg X 0 0 h3 [(0, .ref 21), (1, .ref p1), (2, .int v2), (3, .int t0), (4, .int r1)] [] 55)))) ∧ (r1 = t0 → Φ 0 h1))) :
    Wg X 0 0 h [(0, .ref 21), (1, .ref p1), (2, .int v2)] [.int t0] 17 := by
  refine r_istore_n (ls2 := [(0, .ref 21), (1, .ref p1), (2, .int v2), (3, .int t0)]) C rfl (by decide) rfl d_Li_tellsNumber_17 ?_
  refine r_aload_n C 0 rfl d_Li_tellsNumber_18 ?_
  refine r_iload_n C 3 rfl d_Li_tellsNumber_19 ?_
  refine r_callV (As := [.int t0]) (st := []) (lvc := 0) (mcc := 0) (msc := 0) C Rm M_Li_endOfDigits rfl k_935 rfl (by decide) (Nat.le_of_ble_eq_true rfl) ⟨by decide, by decide⟩ d_Li_tellsNumber_20 ?_
  refine Can.mono K (fun _ h1 z => ?_)
  obtain ⟨r1, rfl, K⟩ := z
  show Wg X 0 0 h1 [(0, .ref 21), (1, .ref p1), (2, .int v2), (3, .int t0)] [.int r1] 23
  refine r_istore (ls2 := [(0, .ref 21), (1, .ref p1), (2, .int v2), (3, .int t0), (4, .int r1)]) C (by decide) rfl d_Li_tellsNumber_23 ?_
  refine r_iload C 4 rfl d_Li_tellsNumber_25 ?_
  refine r_iload_n C 3 rfl d_Li_tellsNumber_27 ?_
  refine r_icmp_ne C 33 d_Li_tellsNumber_28 (by decide) ⟨fun c0 => ?_, fun c0 => ?_⟩
  · have K := K.1 c0
    refine r_aload_n C 0 rfl d_Li_tellsNumber_33 ?_
    refine r_iload_n C 3 rfl d_Li_tellsNumber_34 ?_
    refine r_iload C 4 rfl d_Li_tellsNumber_35 ?_
    refine r_aload_n C 1 rfl d_Li_tellsNumber_37 ?_
    refine gf_Ra_upper (k2 := p1 + 1) C rfl hp1 k_126 d_Li_tellsNumber_38 ?_
    refine r_callV (As := [.int t0, .int r1, .ref (p1 + 1)]) (st := []) (lvc := 2) (mcc := 0) (msc := 0) C Rm M_Li_takeDigits rfl k_939 rfl (by decide) (Nat.le_of_ble_eq_true rfl) ⟨by decide, by decide⟩ d_Li_tellsNumber_41 ?_
    refine Can.mono K (fun _ h2 z => ?_)
    obtain ⟨rfl, K⟩ := z
    show Wg X 0 0 h2 [(0, .ref 21), (1, .ref p1), (2, .int v2), (3, .int t0), (4, .int r1)] [] 44
    refine r_iload_n C 2 rfl d_Li_tellsNumber_44 ?_
    refine r_if_eq C 55 d_Li_tellsNumber_45 (by decide) ⟨fun c0 => ?_, fun c0 => ?_⟩
    · have K := K.1 c0
      exact K
    · have K := K.2 c0
      refine r_aload_n C 1 rfl d_Li_tellsNumber_48 ?_
      refine gf_Ra_upper (k2 := p1 + 1) C rfl hp1 k_126 d_Li_tellsNumber_49 ?_
      refine r_callV (As := []) (st := []) (lvc := 0) (mcc := 0) (msc := 0) C Rm M_Wh_flipSign rfl k_949 (kRa1 hp1) (by decide) (Nat.le_of_ble_eq_true rfl) ⟨by decide, by decide⟩ d_Li_tellsNumber_52 ?_
      refine Can.mono K (fun _ h3 z => ?_)
      obtain ⟨rfl, K⟩ := z
      show Wg X 0 0 h3 [(0, .ref 21), (1, .ref p1), (2, .int v2), (3, .int t0), (4, .int r1)] [] 55
      exact K
  · have K := K.2 c0
    refine r_iconst (v := 0) C (by decide) d_Li_tellsNumber_31 ?_
    exact q_zret C Q (by decide) d_Li_tellsNumber_32 ⟨_, rfl, K⟩
set_option maxRecDepth 20000 in
theorem g_Li_tellsNumber_55 {X : CX} {h : HP} {p1 : Nat} {v2 : Int32} {v3 : Int32} {v4 : Int32} {Φ : Int32 → HP → Prop} (C : Cok X b_Li_tellsNumber 7 R_Li ((some .boolean))) (Rm : xR X = rml 3 0 0) (Q : Qok X 0 0 (fun r h2 => ∃ v, r = some (.int v) ∧ Φ v h2)) (hp1 : kd p1 = (1, 0))
    (K : K_Wh_setLong [.ref (p1 + 3), .long 1] h (fun h1 => (¬ v4 = ((h1 21 1)) → K_Li_endOfDigits [.ref 21, .int (v4 + 1)] h1 (fun r2 h2 => K_Li_takeDigits [.ref 21, .int (v4 + 1), .int r2, .ref (p1 + 3)] h2 (fun h3 => K_Li_stands [.ref 21, .int 47, .int v4] h3 (fun r4 h4 => (r4 = 0 → Φ 0 h4) ∧ (¬ r4 = 0 → (r2 ≤ ((v4 + 1)) → Φ 0 h4) ∧ (¬ r2 ≤ ((v4 + 1)) → (¬ r2 = ((h4 21 1)) → Φ 0 h4) ∧ (r2 = ((h4 21 1)) → Φ 1 h4))))))) ∧ (v4 = ((h1 21 1)) → Φ 1 h1))) :
    Wg X 0 0 h [(0, .ref 21), (1, .ref p1), (2, .int v2), (3, .int v3), (4, .int v4)] [] 55 := by
  refine r_aload_n C 1 rfl d_Li_tellsNumber_55 ?_
  refine gf_Ra_lower (k2 := p1 + 3) C rfl hp1 k_131 d_Li_tellsNumber_56 ?_
  refine r_lconst (v := 1) C (by decide) d_Li_tellsNumber_59 ?_
  refine r_callV (As := [.long 1]) (st := []) (lvc := 1) (mcc := 0) (msc := 0) C Rm M_Wh_setLong rfl k_943 (kRa3 hp1) (by decide) (Nat.le_of_ble_eq_true rfl) ⟨by decide, by decide⟩ d_Li_tellsNumber_60 ?_
  refine Can.mono K (fun _ h1 z => ?_)
  obtain ⟨rfl, K⟩ := z
  show Wg X 0 0 h1 [(0, .ref 21), (1, .ref p1), (2, .int v2), (3, .int v3), (4, .int v4)] [] 63
  refine r_iload C 4 rfl d_Li_tellsNumber_63 ?_
  refine r_aload_n C 0 rfl d_Li_tellsNumber_65 ?_
  refine gf_Li_length C rfl k_79 d_Li_tellsNumber_66 ?_
  refine r_icmp_ne C 74 d_Li_tellsNumber_69 (by decide) ⟨fun c0 => ?_, fun c0 => ?_⟩
  · have K := K.1 c0
    refine r_iload C 4 rfl d_Li_tellsNumber_74 ?_
    refine r_iconst (v := 1) C (by decide) d_Li_tellsNumber_76 ?_
    refine r_iadd C d_Li_tellsNumber_77 ?_
    refine r_istore (ls2 := [(0, .ref 21), (1, .ref p1), (2, .int v2), (3, .int v3), (4, .int v4), (5, .int (v4 + 1))]) C (by decide) rfl d_Li_tellsNumber_78 ?_
    refine r_aload_n C 0 rfl d_Li_tellsNumber_80 ?_
    refine r_iload C 5 rfl d_Li_tellsNumber_81 ?_
    refine r_callV (As := [.int (v4 + 1)]) (st := []) (lvc := 0) (mcc := 0) (msc := 0) C Rm M_Li_endOfDigits rfl k_935 rfl (by decide) (Nat.le_of_ble_eq_true rfl) ⟨by decide, by decide⟩ d_Li_tellsNumber_83 ?_
    refine Can.mono K (fun _ h2 z => ?_)
    obtain ⟨r2, rfl, K⟩ := z
    show Wg X 0 0 h2 [(0, .ref 21), (1, .ref p1), (2, .int v2), (3, .int v3), (4, .int v4), (5, .int (v4 + 1))] [.int r2] 86
    refine r_istore (ls2 := [(0, .ref 21), (1, .ref p1), (2, .int v2), (3, .int v3), (4, .int v4), (5, .int (v4 + 1)), (6, .int r2)]) C (by decide) rfl d_Li_tellsNumber_86 ?_
    refine r_aload_n C 0 rfl d_Li_tellsNumber_88 ?_
    refine r_iload C 5 rfl d_Li_tellsNumber_89 ?_
    refine r_iload C 6 rfl d_Li_tellsNumber_91 ?_
    refine r_aload_n C 1 rfl d_Li_tellsNumber_93 ?_
    refine gf_Ra_lower (k2 := p1 + 3) C rfl hp1 k_131 d_Li_tellsNumber_94 ?_
    refine r_callV (As := [.int (v4 + 1), .int r2, .ref (p1 + 3)]) (st := []) (lvc := 2) (mcc := 0) (msc := 0) C Rm M_Li_takeDigits rfl k_939 rfl (by decide) (Nat.le_of_ble_eq_true rfl) ⟨by decide, by decide⟩ d_Li_tellsNumber_97 ?_
    refine Can.mono K (fun _ h3 z => ?_)
    obtain ⟨rfl, K⟩ := z
    show Wg X 0 0 h3 [(0, .ref 21), (1, .ref p1), (2, .int v2), (3, .int v3), (4, .int v4), (5, .int (v4 + 1)), (6, .int r2)] [] 100
    refine r_aload_n C 0 rfl d_Li_tellsNumber_100 ?_
    refine r_bipush (v := 47) C (by decide) d_Li_tellsNumber_101 ?_
    refine r_iload C 4 rfl d_Li_tellsNumber_103 ?_
    refine r_callV (As := [.int 47, .int v4]) (st := []) (lvc := 0) (mcc := 0) (msc := 0) C Rm M_Li_stands rfl k_931 rfl (by decide) (Nat.le_of_ble_eq_true rfl) ⟨by decide, by decide⟩ d_Li_tellsNumber_105 ?_
    refine Can.mono K (fun _ h4 z => ?_)
    obtain ⟨r4, rfl, K⟩ := z
    show Wg X 0 0 h4 [(0, .ref 21), (1, .ref p1), (2, .int v2), (3, .int v3), (4, .int v4), (5, .int (v4 + 1)), (6, .int r2)] [.int r4] 108
    refine r_if_eq C 131 d_Li_tellsNumber_108 (by decide) ⟨fun c0 => ?_, fun c0 => ?_⟩
    · have K := K.1 c0
      refine r_iconst (v := 0) C (by decide) d_Li_tellsNumber_131 ?_
      exact q_zret C Q (by decide) d_Li_tellsNumber_132 ⟨_, rfl, K⟩
    · have K := K.2 c0
      refine r_iload C 6 rfl d_Li_tellsNumber_111 ?_
      refine r_iload C 5 rfl d_Li_tellsNumber_113 ?_
      refine r_icmp_le C 131 d_Li_tellsNumber_115 (by decide) ⟨fun c0 => ?_, fun c0 => ?_⟩
      · have K := K.1 c0
        refine r_iconst (v := 0) C (by decide) d_Li_tellsNumber_131 ?_
        exact q_zret C Q (by decide) d_Li_tellsNumber_132 ⟨_, rfl, K⟩
      · have K := K.2 c0
        refine r_iload C 6 rfl d_Li_tellsNumber_118 ?_
        refine r_aload_n C 0 rfl d_Li_tellsNumber_120 ?_
        refine gf_Li_length C rfl k_79 d_Li_tellsNumber_121 ?_
        refine r_icmp_ne C 131 d_Li_tellsNumber_124 (by decide) ⟨fun c0 => ?_, fun c0 => ?_⟩
        · have K := K.1 c0
          refine r_iconst (v := 0) C (by decide) d_Li_tellsNumber_131 ?_
          exact q_zret C Q (by decide) d_Li_tellsNumber_132 ⟨_, rfl, K⟩
        · have K := K.2 c0
          refine r_iconst (v := 1) C (by decide) d_Li_tellsNumber_127 ?_
          refine r_goto C 132 d_Li_tellsNumber_128 (by decide) ?_
          exact q_zret C Q (by decide) d_Li_tellsNumber_132 ⟨_, rfl, K⟩
  · have K := K.2 c0
    refine r_iconst (v := 1) C (by decide) d_Li_tellsNumber_72 ?_
    exact q_zret C Q (by decide) d_Li_tellsNumber_73 ⟨_, rfl, K⟩
set_option maxRecDepth 20000 in
theorem g_Pr_put_0 {X : CX} {h : HP} {v1 : Int32} {Φ : HP → Prop} (C : Cok X b_Pr_put 2 R_Pr none) (Rm : xR X = rml 0 0 0) (Q : Qok X 0 0 (fun r h2 => r = none ∧ Φ h2)) 
    (K : ((400 : Int32) ≤ ((h 52 1)) → Φ (up h 52 2 1)) ∧ (¬ (400 : Int32) ≤ ((h 52 1)) → vp_in (h 52 1) 400 ∧ (Φ (up (up h 53 (h 52 1).toNatClampNeg (vp_nar .char v1)) 52 1 (((up h 53 (h 52 1).toNatClampNeg (vp_nar .char v1)) 52 1) + 1))))) :
    Wg X 0 0 h [(0, .ref 52), (1, .int v1)] [] 0 := by
  refine r_aload_n C 0 rfl d_Pr_put_0 ?_
  refine gf_Pr_length C rfl k_199 d_Pr_put_1 ?_
  refine r_sipush (v := 400) C (by decide) d_Pr_put_4 ?_
  refine r_icmp_ge C 33 d_Pr_put_7 (by decide) ⟨fun c0 => ?_, fun c0 => ?_⟩
  · have K := K.1 c0
    refine r_aload_n C 0 rfl d_Pr_put_33 ?_
    refine r_iconst (v := 1) C (by decide) d_Pr_put_34 ?_
    refine pf_Pr_overran C rfl (by decide) k_201 d_Pr_put_35 ?_
    exact q_vret C Q d_Pr_put_38 ⟨rfl, K⟩
  · have K := K.2 c0
    refine r_aload_n C 0 rfl d_Pr_put_10 ?_
    refine gf_Pr_text (k2 := 53) C rfl rfl k_197 d_Pr_put_11 ?_
    refine r_aload_n C 0 rfl d_Pr_put_14 ?_
    refine gf_Pr_length C rfl k_199 d_Pr_put_15 ?_
    refine r_iload_n C 1 rfl d_Pr_put_18 ?_
    obtain ⟨s0, K⟩ := K
    refine r_cast C rfl s0 d_Pr_put_19 ?_
    refine r_aload_n C 0 rfl d_Pr_put_20 ?_
    refine r_dup C rfl d_Pr_put_21 ?_
    refine gf_Pr_length C rfl k_199 d_Pr_put_22 ?_
    refine r_iconst (v := 1) C (by decide) d_Pr_put_25 ?_
    refine r_iadd C d_Pr_put_26 ?_
    refine pf_Pr_length C rfl k_199 d_Pr_put_27 ?_
    refine r_goto C 38 d_Pr_put_30 (by decide) ?_
    exact q_vret C Q d_Pr_put_38 ⟨rfl, K⟩
set_option maxRecDepth 20000 in
theorem g_Pr_fillChunk_0 {X : CX} {h : HP} {v1 : Int32} {v2 : Int32} {Φ : HP → Prop} (C : Cok X b_Pr_fillChunk 5 R_Pr none) (Rm : xR X = rml 0 0 0) (Q : Qok X 0 0 (fun r h2 => r = none ∧ Φ h2)) 
    (K : Wg X 0 0 h [(0, .ref 52), (1, .int v1), (2, .int v2), (3, .int v2), (4, .int ((v1 + 9) - 1))] [] 10) :
    Wg X 0 0 h [(0, .ref 52), (1, .int v1), (2, .int v2)] [] 0 := by
  refine r_iload_n C 2 rfl d_Pr_fillChunk_0 ?_
  refine r_istore_n (ls2 := [(0, .ref 52), (1, .int v1), (2, .int v2), (3, .int v2)]) C rfl (by decide) rfl d_Pr_fillChunk_1 ?_
  refine r_iload_n C 1 rfl d_Pr_fillChunk_2 ?_
  refine r_bipush (v := 9) C (by decide) d_Pr_fillChunk_3 ?_
  refine r_iadd C d_Pr_fillChunk_5 ?_
  refine r_iconst (v := 1) C (by decide) d_Pr_fillChunk_6 ?_
  refine r_isub C d_Pr_fillChunk_7 ?_
  refine r_istore (ls2 := [(0, .ref 52), (1, .int v1), (2, .int v2), (3, .int v2), (4, .int ((v1 + 9) - 1))]) C (by decide) rfl d_Pr_fillChunk_8 ?_
  exact K
set_option maxRecDepth 20000 in
theorem g_Pr_fillChunk_10 {X : CX} {h : HP} {v1 : Int32} {v2 : Int32} {v3 : Int32} {v4 : Int32} {Φ : HP → Prop} (C : Cok X b_Pr_fillChunk 5 R_Pr none) (Rm : xR X = rml 0 0 0) (Q : Qok X 0 0 (fun r h2 => r = none ∧ Φ h2)) 
    (K : (v4 < v1 → Φ h) ∧ (¬ v4 < v1 → vp_in v4 198 ∧ (Wg X 0 0 (up h 57 v4.toNatClampNeg (vp_nar .char (i2c (48 + (v3 - v3 / 10 * 10))))) [(0, .ref 52), (1, .int v1), (2, .int v2), (3, .int (v3 / 10)), (4, .int (v4 + (-1)))] [] 10))) :
    Wg X 0 0 h [(0, .ref 52), (1, .int v1), (2, .int v2), (3, .int v3), (4, .int v4)] [] 10 := by
  refine r_iload C 4 rfl d_Pr_fillChunk_10 ?_
  refine r_iload_n C 1 rfl d_Pr_fillChunk_12 ?_
  refine r_icmp_lt C 42 d_Pr_fillChunk_13 (by decide) ⟨fun c0 => ?_, fun c0 => ?_⟩
  · have K := K.1 c0
    exact q_vret C Q d_Pr_fillChunk_42 ⟨rfl, K⟩
  · have K := K.2 c0
    refine r_aload_n C 0 rfl d_Pr_fillChunk_16 ?_
    refine gf_Pr_digits (k2 := 57) C rfl rfl k_205 d_Pr_fillChunk_17 ?_
    refine r_iload C 4 rfl d_Pr_fillChunk_20 ?_
    refine r_bipush (v := 48) C (by decide) d_Pr_fillChunk_22 ?_
    refine r_iload_n C 3 rfl d_Pr_fillChunk_24 ?_
    refine r_bipush (v := 10) C (by decide) d_Pr_fillChunk_25 ?_
    refine r_irem C (by decide) d_Pr_fillChunk_27 ?_
    refine r_iadd C d_Pr_fillChunk_28 ?_
    refine r_i2c C d_Pr_fillChunk_29 ?_
    obtain ⟨s0, K⟩ := K
    refine r_cast C rfl s0 d_Pr_fillChunk_30 ?_
    refine r_iload_n C 3 rfl d_Pr_fillChunk_31 ?_
    refine r_bipush (v := 10) C (by decide) d_Pr_fillChunk_32 ?_
    refine r_idiv C (by decide) d_Pr_fillChunk_34 ?_
    refine r_istore_n (ls2 := [(0, .ref 52), (1, .int v1), (2, .int v2), (3, .int (v3 / 10)), (4, .int v4)]) C rfl (by decide) rfl d_Pr_fillChunk_35 ?_
    refine r_iinc (ls2 := [(0, .ref 52), (1, .int v1), (2, .int v2), (3, .int (v3 / 10)), (4, .int (v4 + (-1)))]) C 4 (m := -1) rfl (by decide) (by decide) rfl d_Pr_fillChunk_36 ?_
    refine r_goto C 10 d_Pr_fillChunk_39 (by decide) ?_
    exact K
set_option maxRecDepth 20000 in
theorem g_Pr_putWhole_0 {X : CX} {h : HP} {v2 : Int32} {Φ : HP → Prop} (C : Cok X b_Pr_putWhole 5 R_Pr none) (Rm : xR X = rml 4 0 0) (Q : Qok X 0 0 (fun r h2 => r = none ∧ Φ h2)) 
    (K : K_He_fetchWhole [.ref 15, .int v2, .ref 55] h (fun h1 => ((h1 55 2) = 0 → Wg X 0 0 h1 [(0, .ref 52), (1, .ref 15), (2, .int v2), (3, .int 198)] [] 29) ∧ (¬ (h1 55 2) = 0 → K_Pr_put [.ref 52, .int 45] h1 (fun h2 => Wg X 0 0 h2 [(0, .ref 52), (1, .ref 15), (2, .int v2), (3, .int 198)] [] 29)))) :
    Wg X 0 0 h [(0, .ref 52), (1, .ref 15), (2, .int v2)] [] 0 := by
  refine r_aload_n C 1 rfl d_Pr_putWhole_0 ?_
  refine r_iload_n C 2 rfl d_Pr_putWhole_1 ?_
  refine r_aload_n C 0 rfl d_Pr_putWhole_2 ?_
  refine gf_Pr_shrinking (k2 := 55) C rfl rfl k_204 d_Pr_putWhole_3 ?_
  refine r_callV (As := [.int v2, .ref 55]) (st := []) (lvc := 3) (mcc := 0) (msc := 0) C Rm M_He_fetchWhole rfl k_980 rfl (by decide) (Nat.le_of_ble_eq_true rfl) ⟨by decide, by decide⟩ d_Pr_putWhole_6 ?_
  refine Can.mono K (fun _ h1 z => ?_)
  obtain ⟨rfl, K⟩ := z
  show Wg X 0 0 h1 [(0, .ref 52), (1, .ref 15), (2, .int v2)] [] 9
  refine r_aload_n C 0 rfl d_Pr_putWhole_9 ?_
  refine gf_Pr_shrinking (k2 := 55) C rfl rfl k_204 d_Pr_putWhole_10 ?_
  refine gf_Wh_below C rfl k_115 d_Pr_putWhole_13 ?_
  refine r_if_eq C 25 d_Pr_putWhole_16 (by decide) ⟨fun c0 => ?_, fun c0 => ?_⟩
  · have K := K.1 c0
    refine r_sipush (v := 198) C (by decide) d_Pr_putWhole_25 ?_
    refine r_istore_n (ls2 := [(0, .ref 52), (1, .ref 15), (2, .int v2), (3, .int 198)]) C rfl (by decide) rfl d_Pr_putWhole_28 ?_
    exact K
  · have K := K.2 c0
    refine r_aload_n C 0 rfl d_Pr_putWhole_19 ?_
    refine r_bipush (v := 45) C (by decide) d_Pr_putWhole_20 ?_
    refine r_callV (As := [.int 45]) (st := []) (lvc := 0) (mcc := 0) (msc := 0) C Rm M_Pr_put rfl k_966 rfl (by decide) (Nat.le_of_ble_eq_true rfl) ⟨by decide, by decide⟩ d_Pr_putWhole_22 ?_
    refine Can.mono K (fun _ h2 z => ?_)
    obtain ⟨rfl, K⟩ := z
    show Wg X 0 0 h2 [(0, .ref 52), (1, .ref 15), (2, .int v2)] [] 25
    refine r_sipush (v := 198) C (by decide) d_Pr_putWhole_25 ?_
    refine r_istore_n (ls2 := [(0, .ref 52), (1, .ref 15), (2, .int v2), (3, .int 198)]) C rfl (by decide) rfl d_Pr_putWhole_28 ?_
    exact K
set_option maxRecDepth 20000 in
theorem g_Pr_putWhole_29 {X : CX} {h : HP} {v2 : Int32} {v3 : Int32} {Φ : HP → Prop} (C : Cok X b_Pr_putWhole 5 R_Pr none) (Rm : xR X = rml 4 0 0) (Q : Qok X 0 0 (fun r h2 => r = none ∧ Φ h2)) 
    (K : (v3 < (9 : Int32) → Wg X 0 0 h [(0, .ref 52), (1, .ref 15), (2, .int v2), (3, .int v3)] [] 67) ∧ (¬ v3 < (9 : Int32) → K_Wh_isZero [.ref 55] h (fun r1 h1 => (¬ r1 = 0 → Wg X 0 0 h1 [(0, .ref 52), (1, .ref 15), (2, .int v2), (3, .int v3)] [] 67) ∧ (r1 = 0 → K_Wh_divideByWord [.ref 55, .long 1000000000] h1 (fun r2 h2 => K_Pr_fillChunk [.ref 52, .int (v3 + (-9)), .int (Int64.toInt32 r2)] h2 (fun h3 => Wg X 0 0 h3 [(0, .ref 52), (1, .ref 15), (2, .int v2), (3, .int (v3 + (-9)))] [] 29)))))) :
    Wg X 0 0 h [(0, .ref 52), (1, .ref 15), (2, .int v2), (3, .int v3)] [] 29 := by
  refine r_iload_n C 3 rfl d_Pr_putWhole_29 ?_
  refine r_bipush (v := 9) C (by decide) d_Pr_putWhole_30 ?_
  refine r_icmp_lt C 67 d_Pr_putWhole_32 (by decide) ⟨fun c0 => ?_, fun c0 => ?_⟩
  · have K := K.1 c0
    exact K
  · have K := K.2 c0
    refine r_aload_n C 0 rfl d_Pr_putWhole_35 ?_
    refine gf_Pr_shrinking (k2 := 55) C rfl rfl k_204 d_Pr_putWhole_36 ?_
    refine r_callV (As := []) (st := []) (lvc := 0) (mcc := 0) (msc := 0) C Rm M_Wh_isZero rfl k_981 rfl (by decide) (Nat.le_of_ble_eq_true rfl) ⟨by decide, by decide⟩ d_Pr_putWhole_39 ?_
    refine Can.mono K (fun _ h1 z => ?_)
    obtain ⟨r1, rfl, K⟩ := z
    show Wg X 0 0 h1 [(0, .ref 52), (1, .ref 15), (2, .int v2), (3, .int v3)] [.int r1] 42
    refine r_if_ne C 67 d_Pr_putWhole_42 (by decide) ⟨fun c0 => ?_, fun c0 => ?_⟩
    · have K := K.1 c0
      exact K
    · have K := K.2 c0
      refine r_iinc (ls2 := [(0, .ref 52), (1, .ref 15), (2, .int v2), (3, .int (v3 + (-9)))]) C 3 (m := -9) rfl (by decide) (by decide) rfl d_Pr_putWhole_45 ?_
      refine r_aload_n C 0 rfl d_Pr_putWhole_48 ?_
      refine r_iload_n C 3 rfl d_Pr_putWhole_49 ?_
      refine r_aload_n C 0 rfl d_Pr_putWhole_50 ?_
      refine gf_Pr_shrinking (k2 := 55) C rfl rfl k_204 d_Pr_putWhole_51 ?_
      refine r_ldc2 (v := 1000000000) C k_982 d_Pr_putWhole_54 ?_
      refine r_callV (As := [.long 1000000000]) (st := [.int (v3 + (-9)), .ref 52]) (lvc := 1) (mcc := 0) (msc := 0) C Rm M_Wh_divideByWord rfl k_983 rfl (by decide) (Nat.le_of_ble_eq_true rfl) ⟨by decide, by decide⟩ d_Pr_putWhole_57 ?_
      refine Can.mono K (fun _ h2 z => ?_)
      obtain ⟨r2, rfl, K⟩ := z
      show Wg X 0 0 h2 [(0, .ref 52), (1, .ref 15), (2, .int v2), (3, .int (v3 + (-9)))] [.long r2, .int (v3 + (-9)), .ref 52] 60
      refine r_l2i C d_Pr_putWhole_60 ?_
      refine r_callV (As := [.int (v3 + (-9)), .int (Int64.toInt32 r2)]) (st := []) (lvc := 0) (mcc := 0) (msc := 0) C Rm M_Pr_fillChunk rfl k_984 rfl (by decide) (Nat.le_of_ble_eq_true rfl) ⟨by decide, by decide⟩ d_Pr_putWhole_61 ?_
      refine Can.mono K (fun _ h3 z => ?_)
      obtain ⟨rfl, K⟩ := z
      show Wg X 0 0 h3 [(0, .ref 52), (1, .ref 15), (2, .int v2), (3, .int (v3 + (-9)))] [] 64
      refine r_goto C 29 d_Pr_putWhole_64 (by decide) ?_
      exact K
set_option maxRecDepth 20000 in
theorem g_Pr_putWhole_67 {X : CX} {h : HP} {v2 : Int32} {v3 : Int32} {Φ : HP → Prop} (C : Cok X b_Pr_putWhole 5 R_Pr none) (Rm : xR X = rml 4 0 0) (Q : Qok X 0 0 (fun r h2 => r = none ∧ Φ h2)) 
    (K : ((198 : Int32) ≤ v3 → (¬ v3 = (198 : Int32) → Wg X 0 0 h [(0, .ref 52), (1, .ref 15), (2, .int v2), (3, .int v3), (4, .int v3)] [] 107) ∧ (v3 = (198 : Int32) → K_Pr_put [.ref 52, .int 48] h (fun h1 => Wg X 0 0 h1 [(0, .ref 52), (1, .ref 15), (2, .int v2), (3, .int v3), (4, .int v3)] [] 107))) ∧ (¬ (198 : Int32) ≤ v3 → vp_in v3 198 ∧ ((¬ ((h 57 v3.toNatClampNeg)) = (48 : Int32) → (¬ v3 = (198 : Int32) → Wg X 0 0 h [(0, .ref 52), (1, .ref 15), (2, .int v2), (3, .int v3), (4, .int v3)] [] 107) ∧ (v3 = (198 : Int32) → K_Pr_put [.ref 52, .int 48] h (fun h2 => Wg X 0 0 h2 [(0, .ref 52), (1, .ref 15), (2, .int v2), (3, .int v3), (4, .int v3)] [] 107))) ∧ (((h 57 v3.toNatClampNeg)) = (48 : Int32) → Wg X 0 0 h [(0, .ref 52), (1, .ref 15), (2, .int v2), (3, .int (v3 + 1))] [] 67)))) :
    Wg X 0 0 h [(0, .ref 52), (1, .ref 15), (2, .int v2), (3, .int v3)] [] 67 := by
  refine r_iload_n C 3 rfl d_Pr_putWhole_67 ?_
  refine r_sipush (v := 198) C (by decide) d_Pr_putWhole_68 ?_
  refine r_icmp_ge C 91 d_Pr_putWhole_71 (by decide) ⟨fun c0 => ?_, fun c0 => ?_⟩
  · have K := K.1 c0
    refine r_iload_n C 3 rfl d_Pr_putWhole_91 ?_
    refine r_sipush (v := 198) C (by decide) d_Pr_putWhole_92 ?_
    refine r_icmp_ne C 104 d_Pr_putWhole_95 (by decide) ⟨fun c0 => ?_, fun c0 => ?_⟩
    · have K := K.1 c0
      refine r_iload_n C 3 rfl d_Pr_putWhole_104 ?_
      refine r_istore (ls2 := [(0, .ref 52), (1, .ref 15), (2, .int v2), (3, .int v3), (4, .int v3)]) C (by decide) rfl d_Pr_putWhole_105 ?_
      exact K
    · have K := K.2 c0
      refine r_aload_n C 0 rfl d_Pr_putWhole_98 ?_
      refine r_bipush (v := 48) C (by decide) d_Pr_putWhole_99 ?_
      refine r_callV (As := [.int 48]) (st := []) (lvc := 0) (mcc := 0) (msc := 0) C Rm M_Pr_put rfl k_966 rfl (by decide) (Nat.le_of_ble_eq_true rfl) ⟨by decide, by decide⟩ d_Pr_putWhole_101 ?_
      refine Can.mono K (fun _ h1 z => ?_)
      obtain ⟨rfl, K⟩ := z
      show Wg X 0 0 h1 [(0, .ref 52), (1, .ref 15), (2, .int v2), (3, .int v3)] [] 104
      refine r_iload_n C 3 rfl d_Pr_putWhole_104 ?_
      refine r_istore (ls2 := [(0, .ref 52), (1, .ref 15), (2, .int v2), (3, .int v3), (4, .int v3)]) C (by decide) rfl d_Pr_putWhole_105 ?_
      exact K
  · have K := K.2 c0
    refine r_aload_n C 0 rfl d_Pr_putWhole_74 ?_
    refine gf_Pr_digits (k2 := 57) C rfl rfl k_205 d_Pr_putWhole_75 ?_
    refine r_iload_n C 3 rfl d_Pr_putWhole_78 ?_
    obtain ⟨s0, K⟩ := K
    refine r_cald C rfl s0 d_Pr_putWhole_79 ?_
    refine r_bipush (v := 48) C (by decide) d_Pr_putWhole_80 ?_
    refine r_icmp_ne C 91 d_Pr_putWhole_82 (by decide) ⟨fun c0 => ?_, fun c0 => ?_⟩
    · have K := K.1 c0
      refine r_iload_n C 3 rfl d_Pr_putWhole_91 ?_
      refine r_sipush (v := 198) C (by decide) d_Pr_putWhole_92 ?_
      refine r_icmp_ne C 104 d_Pr_putWhole_95 (by decide) ⟨fun c0 => ?_, fun c0 => ?_⟩
      · have K := K.1 c0
        refine r_iload_n C 3 rfl d_Pr_putWhole_104 ?_
        refine r_istore (ls2 := [(0, .ref 52), (1, .ref 15), (2, .int v2), (3, .int v3), (4, .int v3)]) C (by decide) rfl d_Pr_putWhole_105 ?_
        exact K
      · have K := K.2 c0
        refine r_aload_n C 0 rfl d_Pr_putWhole_98 ?_
        refine r_bipush (v := 48) C (by decide) d_Pr_putWhole_99 ?_
        refine r_callV (As := [.int 48]) (st := []) (lvc := 0) (mcc := 0) (msc := 0) C Rm M_Pr_put rfl k_966 rfl (by decide) (Nat.le_of_ble_eq_true rfl) ⟨by decide, by decide⟩ d_Pr_putWhole_101 ?_
        refine Can.mono K (fun _ h2 z => ?_)
        obtain ⟨rfl, K⟩ := z
        show Wg X 0 0 h2 [(0, .ref 52), (1, .ref 15), (2, .int v2), (3, .int v3)] [] 104
        refine r_iload_n C 3 rfl d_Pr_putWhole_104 ?_
        refine r_istore (ls2 := [(0, .ref 52), (1, .ref 15), (2, .int v2), (3, .int v3), (4, .int v3)]) C (by decide) rfl d_Pr_putWhole_105 ?_
        exact K
    · have K := K.2 c0
      refine r_iinc (ls2 := [(0, .ref 52), (1, .ref 15), (2, .int v2), (3, .int (v3 + 1))]) C 3 (m := 1) rfl (by decide) (by decide) rfl d_Pr_putWhole_85 ?_
      refine r_goto C 67 d_Pr_putWhole_88 (by decide) ?_
      exact K
set_option maxRecDepth 20000 in
theorem g_Pr_putWhole_107 {X : CX} {h : HP} {v2 : Int32} {v3 : Int32} {v4 : Int32} {Φ : HP → Prop} (C : Cok X b_Pr_putWhole 5 R_Pr none) (Rm : xR X = rml 4 0 0) (Q : Qok X 0 0 (fun r h2 => r = none ∧ Φ h2)) 
    (K : ((198 : Int32) ≤ v4 → Φ h) ∧ (¬ (198 : Int32) ≤ v4 → vp_in v4 198 ∧ (K_Pr_put [.ref 52, .int (h 57 v4.toNatClampNeg)] h (fun h1 => Wg X 0 0 h1 [(0, .ref 52), (1, .ref 15), (2, .int v2), (3, .int v3), (4, .int (v4 + 1))] [] 107)))) :
    Wg X 0 0 h [(0, .ref 52), (1, .ref 15), (2, .int v2), (3, .int v3), (4, .int v4)] [] 107 := by
  refine r_iload C 4 rfl d_Pr_putWhole_107 ?_
  refine r_sipush (v := 198) C (by decide) d_Pr_putWhole_109 ?_
  refine r_icmp_ge C 132 d_Pr_putWhole_112 (by decide) ⟨fun c0 => ?_, fun c0 => ?_⟩
  · have K := K.1 c0
    exact q_vret C Q d_Pr_putWhole_132 ⟨rfl, K⟩
  · have K := K.2 c0
    refine r_aload_n C 0 rfl d_Pr_putWhole_115 ?_
    refine r_aload_n C 0 rfl d_Pr_putWhole_116 ?_
    refine gf_Pr_digits (k2 := 57) C rfl rfl k_205 d_Pr_putWhole_117 ?_
    refine r_iload C 4 rfl d_Pr_putWhole_120 ?_
    obtain ⟨s0, K⟩ := K
    refine r_cald C rfl s0 d_Pr_putWhole_122 ?_
    refine r_callV (As := [.int (h 57 v4.toNatClampNeg)]) (st := []) (lvc := 0) (mcc := 0) (msc := 0) C Rm M_Pr_put rfl k_966 rfl (by decide) (Nat.le_of_ble_eq_true rfl) ⟨by decide, by decide⟩ d_Pr_putWhole_123 ?_
    refine Can.mono K (fun _ h1 z => ?_)
    obtain ⟨rfl, K⟩ := z
    show Wg X 0 0 h1 [(0, .ref 52), (1, .ref 15), (2, .int v2), (3, .int v3), (4, .int v4)] [] 126
    refine r_iinc (ls2 := [(0, .ref 52), (1, .ref 15), (2, .int v2), (3, .int v3), (4, .int (v4 + 1))]) C 4 (m := 1) rfl (by decide) (by decide) rfl d_Pr_putWhole_126 ?_
    refine r_goto C 107 d_Pr_putWhole_129 (by decide) ?_
    exact K
set_option maxRecDepth 20000 in
theorem g_Pr_putAtom_0 {X : CX} {h : HP} {v2 : Int32} {Φ : HP → Prop} (C : Cok X b_Pr_putAtom 4 R_Pr none) (Rm : xR X = rml 5 0 0) (Q : Qok X 0 0 (fun r h2 => r = none ∧ Φ h2)) 
    (K : K_He_sortOf [.ref 15, .int v2] h (fun r1 h1 => (¬ r1 = 0 → (¬ r1 = (3 : Int32) → (r1 = (4 : Int32) → Φ h1) ∧ (¬ r1 = (4 : Int32) → K_Pr_putWhole [.ref 52, .ref 15, .int v2] h1 (fun h2 => Φ h2))) ∧ (r1 = (3 : Int32) → K_He_firstOf [.ref 15, .int v2] h1 (fun r3 h3 => K_Pr_putWhole [.ref 52, .ref 15, .int r3] h3 (fun h4 => K_Pr_put [.ref 52, .int 47] h4 (fun h5 => K_He_secondOf [.ref 15, .int v2] h5 (fun r6 h6 => K_Pr_putWhole [.ref 52, .ref 15, .int r6] h6 (fun h7 => Φ h7))))))) ∧ (r1 = 0 → K_Pr_put [.ref 52, .int 40] h1 (fun h8 => K_Pr_put [.ref 52, .int 41] h8 (fun h9 => Φ h9))))) :
    Wg X 0 0 h [(0, .ref 52), (1, .ref 15), (2, .int v2)] [] 0 := by
  refine r_aload_n C 1 rfl d_Pr_putAtom_0 ?_
  refine r_iload_n C 2 rfl d_Pr_putAtom_1 ?_
  refine r_callV (As := [.int v2]) (st := []) (lvc := 1) (mcc := 0) (msc := 0) C Rm M_He_sortOf rfl k_965 rfl (by decide) (Nat.le_of_ble_eq_true rfl) ⟨by decide, by decide⟩ d_Pr_putAtom_2 ?_
  refine Can.mono K (fun _ h1 z => ?_)
  obtain ⟨r1, rfl, K⟩ := z
  show Wg X 0 0 h1 [(0, .ref 52), (1, .ref 15), (2, .int v2)] [.int r1] 5
  refine r_istore_n (ls2 := [(0, .ref 52), (1, .ref 15), (2, .int v2), (3, .int r1)]) C rfl (by decide) rfl d_Pr_putAtom_5 ?_
  refine r_iload_n C 3 rfl d_Pr_putAtom_6 ?_
  refine r_if_ne C 25 d_Pr_putAtom_7 (by decide) ⟨fun c0 => ?_, fun c0 => ?_⟩
  · have K := K.1 c0
    refine r_iload_n C 3 rfl d_Pr_putAtom_25 ?_
    refine r_iconst (v := 3) C (by decide) d_Pr_putAtom_26 ?_
    refine r_icmp_ne C 59 d_Pr_putAtom_27 (by decide) ⟨fun c0 => ?_, fun c0 => ?_⟩
    · have K := K.1 c0
      refine r_iload_n C 3 rfl d_Pr_putAtom_59 ?_
      refine r_iconst (v := 4) C (by decide) d_Pr_putAtom_60 ?_
      refine r_icmp_eq C 70 d_Pr_putAtom_61 (by decide) ⟨fun c0 => ?_, fun c0 => ?_⟩
      · have K := K.1 c0
        exact q_vret C Q d_Pr_putAtom_70 ⟨rfl, K⟩
      · have K := K.2 c0
        refine r_aload_n C 0 rfl d_Pr_putAtom_64 ?_
        refine r_aload_n C 1 rfl d_Pr_putAtom_65 ?_
        refine r_iload_n C 2 rfl d_Pr_putAtom_66 ?_
        refine r_callV (As := [.ref 15, .int v2]) (st := []) (lvc := 4) (mcc := 0) (msc := 0) C Rm M_Pr_putWhole rfl k_976 rfl (by decide) (Nat.le_of_ble_eq_true rfl) ⟨by decide, by decide⟩ d_Pr_putAtom_67 ?_
        refine Can.mono K (fun _ h2 z => ?_)
        obtain ⟨rfl, K⟩ := z
        show Wg X 0 0 h2 [(0, .ref 52), (1, .ref 15), (2, .int v2), (3, .int r1)] [] 70
        exact q_vret C Q d_Pr_putAtom_70 ⟨rfl, K⟩
    · have K := K.2 c0
      refine r_aload_n C 0 rfl d_Pr_putAtom_30 ?_
      refine r_aload_n C 1 rfl d_Pr_putAtom_31 ?_
      refine r_aload_n C 1 rfl d_Pr_putAtom_32 ?_
      refine r_iload_n C 2 rfl d_Pr_putAtom_33 ?_
      refine r_callV (As := [.int v2]) (st := [.ref 15, .ref 52]) (lvc := 1) (mcc := 0) (msc := 0) C Rm M_He_firstOf rfl k_971 rfl (by decide) (Nat.le_of_ble_eq_true rfl) ⟨by decide, by decide⟩ d_Pr_putAtom_34 ?_
      refine Can.mono K (fun _ h3 z => ?_)
      obtain ⟨r3, rfl, K⟩ := z
      show Wg X 0 0 h3 [(0, .ref 52), (1, .ref 15), (2, .int v2), (3, .int r1)] [.int r3, .ref 15, .ref 52] 37
      refine r_callV (As := [.ref 15, .int r3]) (st := []) (lvc := 4) (mcc := 0) (msc := 0) C Rm M_Pr_putWhole rfl k_976 rfl (by decide) (Nat.le_of_ble_eq_true rfl) ⟨by decide, by decide⟩ d_Pr_putAtom_37 ?_
      refine Can.mono K (fun _ h4 z => ?_)
      obtain ⟨rfl, K⟩ := z
      show Wg X 0 0 h4 [(0, .ref 52), (1, .ref 15), (2, .int v2), (3, .int r1)] [] 40
      refine r_aload_n C 0 rfl d_Pr_putAtom_40 ?_
      refine r_bipush (v := 47) C (by decide) d_Pr_putAtom_41 ?_
      refine r_callV (As := [.int 47]) (st := []) (lvc := 0) (mcc := 0) (msc := 0) C Rm M_Pr_put rfl k_966 rfl (by decide) (Nat.le_of_ble_eq_true rfl) ⟨by decide, by decide⟩ d_Pr_putAtom_43 ?_
      refine Can.mono K (fun _ h5 z => ?_)
      obtain ⟨rfl, K⟩ := z
      show Wg X 0 0 h5 [(0, .ref 52), (1, .ref 15), (2, .int v2), (3, .int r1)] [] 46
      refine r_aload_n C 0 rfl d_Pr_putAtom_46 ?_
      refine r_aload_n C 1 rfl d_Pr_putAtom_47 ?_
      refine r_aload_n C 1 rfl d_Pr_putAtom_48 ?_
      refine r_iload_n C 2 rfl d_Pr_putAtom_49 ?_
      refine r_callV (As := [.int v2]) (st := [.ref 15, .ref 52]) (lvc := 1) (mcc := 0) (msc := 0) C Rm M_He_secondOf rfl k_970 rfl (by decide) (Nat.le_of_ble_eq_true rfl) ⟨by decide, by decide⟩ d_Pr_putAtom_50 ?_
      refine Can.mono K (fun _ h6 z => ?_)
      obtain ⟨r6, rfl, K⟩ := z
      show Wg X 0 0 h6 [(0, .ref 52), (1, .ref 15), (2, .int v2), (3, .int r1)] [.int r6, .ref 15, .ref 52] 53
      refine r_callV (As := [.ref 15, .int r6]) (st := []) (lvc := 4) (mcc := 0) (msc := 0) C Rm M_Pr_putWhole rfl k_976 rfl (by decide) (Nat.le_of_ble_eq_true rfl) ⟨by decide, by decide⟩ d_Pr_putAtom_53 ?_
      refine Can.mono K (fun _ h7 z => ?_)
      obtain ⟨rfl, K⟩ := z
      show Wg X 0 0 h7 [(0, .ref 52), (1, .ref 15), (2, .int v2), (3, .int r1)] [] 56
      refine r_goto C 70 d_Pr_putAtom_56 (by decide) ?_
      exact q_vret C Q d_Pr_putAtom_70 ⟨rfl, K⟩
  · have K := K.2 c0
    refine r_aload_n C 0 rfl d_Pr_putAtom_10 ?_
    refine r_bipush (v := 40) C (by decide) d_Pr_putAtom_11 ?_
    refine r_callV (As := [.int 40]) (st := []) (lvc := 0) (mcc := 0) (msc := 0) C Rm M_Pr_put rfl k_966 rfl (by decide) (Nat.le_of_ble_eq_true rfl) ⟨by decide, by decide⟩ d_Pr_putAtom_13 ?_
    refine Can.mono K (fun _ h8 z => ?_)
    obtain ⟨rfl, K⟩ := z
    show Wg X 0 0 h8 [(0, .ref 52), (1, .ref 15), (2, .int v2), (3, .int r1)] [] 16
    refine r_aload_n C 0 rfl d_Pr_putAtom_16 ?_
    refine r_bipush (v := 41) C (by decide) d_Pr_putAtom_17 ?_
    refine r_callV (As := [.int 41]) (st := []) (lvc := 0) (mcc := 0) (msc := 0) C Rm M_Pr_put rfl k_966 rfl (by decide) (Nat.le_of_ble_eq_true rfl) ⟨by decide, by decide⟩ d_Pr_putAtom_19 ?_
    refine Can.mono K (fun _ h9 z => ?_)
    obtain ⟨rfl, K⟩ := z
    show Wg X 0 0 h9 [(0, .ref 52), (1, .ref 15), (2, .int v2), (3, .int r1)] [] 22
    refine r_goto C 70 d_Pr_putAtom_22 (by decide) ?_
    exact q_vret C Q d_Pr_putAtom_70 ⟨rfl, K⟩
set_option maxRecDepth 20000 in
theorem g_Pr_closeWith_0 {X : CX} {h : HP} {v2 : Int32} {Φ : HP → Prop} (C : Cok X b_Pr_closeWith 3 R_Pr none) (Rm : xR X = rml 6 0 0) (Q : Qok X 0 0 (fun r h2 => r = none ∧ Φ h2)) 
    (K : (v2 = 0 → K_Pr_put [.ref 52, .int 41] h (fun h1 => Φ (up h1 52 4 ((h1 52 4) - 1)))) ∧ (¬ v2 = 0 → K_Pr_put [.ref 52, .int 32] h (fun h2 => K_Pr_put [.ref 52, .int 46] h2 (fun h3 => K_Pr_put [.ref 52, .int 32] h3 (fun h4 => K_Pr_putAtom [.ref 52, .ref 15, .int v2] h4 (fun h5 => K_Pr_put [.ref 52, .int 41] h5 (fun h6 => Φ (up h6 52 4 ((h6 52 4) - 1))))))))) :
    Wg X 0 0 h [(0, .ref 52), (1, .ref 15), (2, .int v2)] [] 0 := by
  refine r_iload_n C 2 rfl d_Pr_closeWith_0 ?_
  refine r_if_eq C 28 d_Pr_closeWith_1 (by decide) ⟨fun c0 => ?_, fun c0 => ?_⟩
  · have K := K.1 c0
    refine r_aload_n C 0 rfl d_Pr_closeWith_28 ?_
    refine r_bipush (v := 41) C (by decide) d_Pr_closeWith_29 ?_
    refine r_callV (As := [.int 41]) (st := []) (lvc := 0) (mcc := 0) (msc := 0) C Rm M_Pr_put rfl k_966 rfl (by decide) (Nat.le_of_ble_eq_true rfl) ⟨by decide, by decide⟩ d_Pr_closeWith_31 ?_
    refine Can.mono K (fun _ h1 z => ?_)
    obtain ⟨rfl, K⟩ := z
    show Wg X 0 0 h1 [(0, .ref 52), (1, .ref 15), (2, .int v2)] [] 34
    refine r_aload_n C 0 rfl d_Pr_closeWith_34 ?_
    refine r_dup C rfl d_Pr_closeWith_35 ?_
    refine gf_Pr_open C rfl k_203 d_Pr_closeWith_36 ?_
    refine r_iconst (v := 1) C (by decide) d_Pr_closeWith_39 ?_
    refine r_isub C d_Pr_closeWith_40 ?_
    refine pf_Pr_open C rfl k_203 d_Pr_closeWith_41 ?_
    exact q_vret C Q d_Pr_closeWith_44 ⟨rfl, K⟩
  · have K := K.2 c0
    refine r_aload_n C 0 rfl d_Pr_closeWith_4 ?_
    refine r_bipush (v := 32) C (by decide) d_Pr_closeWith_5 ?_
    refine r_callV (As := [.int 32]) (st := []) (lvc := 0) (mcc := 0) (msc := 0) C Rm M_Pr_put rfl k_966 rfl (by decide) (Nat.le_of_ble_eq_true rfl) ⟨by decide, by decide⟩ d_Pr_closeWith_7 ?_
    refine Can.mono K (fun _ h2 z => ?_)
    obtain ⟨rfl, K⟩ := z
    show Wg X 0 0 h2 [(0, .ref 52), (1, .ref 15), (2, .int v2)] [] 10
    refine r_aload_n C 0 rfl d_Pr_closeWith_10 ?_
    refine r_bipush (v := 46) C (by decide) d_Pr_closeWith_11 ?_
    refine r_callV (As := [.int 46]) (st := []) (lvc := 0) (mcc := 0) (msc := 0) C Rm M_Pr_put rfl k_966 rfl (by decide) (Nat.le_of_ble_eq_true rfl) ⟨by decide, by decide⟩ d_Pr_closeWith_13 ?_
    refine Can.mono K (fun _ h3 z => ?_)
    obtain ⟨rfl, K⟩ := z
    show Wg X 0 0 h3 [(0, .ref 52), (1, .ref 15), (2, .int v2)] [] 16
    refine r_aload_n C 0 rfl d_Pr_closeWith_16 ?_
    refine r_bipush (v := 32) C (by decide) d_Pr_closeWith_17 ?_
    refine r_callV (As := [.int 32]) (st := []) (lvc := 0) (mcc := 0) (msc := 0) C Rm M_Pr_put rfl k_966 rfl (by decide) (Nat.le_of_ble_eq_true rfl) ⟨by decide, by decide⟩ d_Pr_closeWith_19 ?_
    refine Can.mono K (fun _ h4 z => ?_)
    obtain ⟨rfl, K⟩ := z
    show Wg X 0 0 h4 [(0, .ref 52), (1, .ref 15), (2, .int v2)] [] 22
    refine r_aload_n C 0 rfl d_Pr_closeWith_22 ?_
    refine r_aload_n C 1 rfl d_Pr_closeWith_23 ?_
    refine r_iload_n C 2 rfl d_Pr_closeWith_24 ?_
    refine r_callV (As := [.ref 15, .int v2]) (st := []) (lvc := 5) (mcc := 0) (msc := 0) C Rm M_Pr_putAtom rfl k_972 rfl (by decide) (Nat.le_of_ble_eq_true rfl) ⟨by decide, by decide⟩ d_Pr_closeWith_25 ?_
    refine Can.mono K (fun _ h5 z => ?_)
    obtain ⟨rfl, K⟩ := z
    show Wg X 0 0 h5 [(0, .ref 52), (1, .ref 15), (2, .int v2)] [] 28
    refine r_aload_n C 0 rfl d_Pr_closeWith_28 ?_
    refine r_bipush (v := 41) C (by decide) d_Pr_closeWith_29 ?_
    refine r_callV (As := [.int 41]) (st := []) (lvc := 0) (mcc := 0) (msc := 0) C Rm M_Pr_put rfl k_966 rfl (by decide) (Nat.le_of_ble_eq_true rfl) ⟨by decide, by decide⟩ d_Pr_closeWith_31 ?_
    refine Can.mono K (fun _ h6 z => ?_)
    obtain ⟨rfl, K⟩ := z
    show Wg X 0 0 h6 [(0, .ref 52), (1, .ref 15), (2, .int v2)] [] 34
    refine r_aload_n C 0 rfl d_Pr_closeWith_34 ?_
    refine r_dup C rfl d_Pr_closeWith_35 ?_
    refine gf_Pr_open C rfl k_203 d_Pr_closeWith_36 ?_
    refine r_iconst (v := 1) C (by decide) d_Pr_closeWith_39 ?_
    refine r_isub C d_Pr_closeWith_40 ?_
    refine pf_Pr_open C rfl k_203 d_Pr_closeWith_41 ?_
    exact q_vret C Q d_Pr_closeWith_44 ⟨rfl, K⟩
set_option maxRecDepth 20000 in
theorem g_Pr_openPairs_0 {X : CX} {h : HP} {v2 : Int32} {Φ : Int32 → HP → Prop} (C : Cok X b_Pr_openPairs 4 R_Pr ((some .int))) (Rm : xR X = rml 2 0 0) (Q : Qok X 0 0 (fun r h2 => ∃ v, r = some (.int v) ∧ Φ v h2)) 
    (K : Wg X 0 0 h [(0, .ref 52), (1, .ref 15), (2, .int v2), (3, .int v2)] [] 2) :
    Wg X 0 0 h [(0, .ref 52), (1, .ref 15), (2, .int v2)] [] 0 := by
  refine r_iload_n C 2 rfl d_Pr_openPairs_0 ?_
  refine r_istore_n (ls2 := [(0, .ref 52), (1, .ref 15), (2, .int v2), (3, .int v2)]) C rfl (by decide) rfl d_Pr_openPairs_1 ?_
  exact K
set_option maxRecDepth 20000 in
theorem g_Pr_openPairs_2 {X : CX} {h : HP} {v2 : Int32} {v3 : Int32} {Φ : Int32 → HP → Prop} (C : Cok X b_Pr_openPairs 4 R_Pr ((some .int))) (Rm : xR X = rml 2 0 0) (Q : Qok X 0 0 (fun r h2 => ∃ v, r = some (.int v) ∧ Φ v h2)) 
    (K : ((400 : Int32) < ((h 52 4)) → Φ v3 h) ∧ (¬ (400 : Int32) < ((h 52 4)) → K_He_sortOf [.ref 15, .int v3] h (fun r1 h1 => (¬ r1 = (4 : Int32) → Φ v3 h1) ∧ (r1 = (4 : Int32) → K_Pr_put [.ref 52, .int 40] h1 (fun h2 => K_He_secondOf [.ref 15, .int v3] h2 (fun r3 h3 => vp_in (h2 52 4) 401 ∧ (K_He_firstOf [.ref 15, .int v3] (up (up h3 54 (h2 52 4).toNatClampNeg r3) 52 4 (((up h3 54 (h2 52 4).toNatClampNeg r3) 52 4) + 1)) (fun r4 h4 => Wg X 0 0 h4 [(0, .ref 52), (1, .ref 15), (2, .int v2), (3, .int r4)] [] 2)))))))) :
    Wg X 0 0 h [(0, .ref 52), (1, .ref 15), (2, .int v2), (3, .int v3)] [] 2 := by
  refine r_aload_n C 0 rfl d_Pr_openPairs_2 ?_
  refine gf_Pr_open C rfl k_203 d_Pr_openPairs_3 ?_
  refine r_sipush (v := 400) C (by decide) d_Pr_openPairs_6 ?_
  refine r_icmp_gt C 60 d_Pr_openPairs_9 (by decide) ⟨fun c0 => ?_, fun c0 => ?_⟩
  · have K := K.1 c0
    refine r_iload_n C 3 rfl d_Pr_openPairs_60 ?_
    exact q_iret C Q d_Pr_openPairs_61 ⟨_, rfl, K⟩
  · have K := K.2 c0
    refine r_aload_n C 1 rfl d_Pr_openPairs_12 ?_
    refine r_iload_n C 3 rfl d_Pr_openPairs_13 ?_
    refine r_callV (As := [.int v3]) (st := []) (lvc := 1) (mcc := 0) (msc := 0) C Rm M_He_sortOf rfl k_965 rfl (by decide) (Nat.le_of_ble_eq_true rfl) ⟨by decide, by decide⟩ d_Pr_openPairs_14 ?_
    refine Can.mono K (fun _ h1 z => ?_)
    obtain ⟨r1, rfl, K⟩ := z
    show Wg X 0 0 h1 [(0, .ref 52), (1, .ref 15), (2, .int v2), (3, .int v3)] [.int r1] 17
    refine r_iconst (v := 4) C (by decide) d_Pr_openPairs_17 ?_
    refine r_icmp_ne C 60 d_Pr_openPairs_18 (by decide) ⟨fun c0 => ?_, fun c0 => ?_⟩
    · have K := K.1 c0
      refine r_iload_n C 3 rfl d_Pr_openPairs_60 ?_
      exact q_iret C Q d_Pr_openPairs_61 ⟨_, rfl, K⟩
    · have K := K.2 c0
      refine r_aload_n C 0 rfl d_Pr_openPairs_21 ?_
      refine r_bipush (v := 40) C (by decide) d_Pr_openPairs_22 ?_
      refine r_callV (As := [.int 40]) (st := []) (lvc := 0) (mcc := 0) (msc := 0) C Rm M_Pr_put rfl k_966 rfl (by decide) (Nat.le_of_ble_eq_true rfl) ⟨by decide, by decide⟩ d_Pr_openPairs_24 ?_
      refine Can.mono K (fun _ h2 z => ?_)
      obtain ⟨rfl, K⟩ := z
      show Wg X 0 0 h2 [(0, .ref 52), (1, .ref 15), (2, .int v2), (3, .int v3)] [] 27
      refine r_aload_n C 0 rfl d_Pr_openPairs_27 ?_
      refine gf_Pr_rests (k2 := 54) C rfl rfl k_202 d_Pr_openPairs_28 ?_
      refine r_aload_n C 0 rfl d_Pr_openPairs_31 ?_
      refine gf_Pr_open C rfl k_203 d_Pr_openPairs_32 ?_
      refine r_aload_n C 1 rfl d_Pr_openPairs_35 ?_
      refine r_iload_n C 3 rfl d_Pr_openPairs_36 ?_
      refine r_callV (As := [.int v3]) (st := [.int (h2 52 4), .ref 54]) (lvc := 1) (mcc := 0) (msc := 0) C Rm M_He_secondOf rfl k_970 rfl (by decide) (Nat.le_of_ble_eq_true rfl) ⟨by decide, by decide⟩ d_Pr_openPairs_37 ?_
      refine Can.mono K (fun _ h3 z => ?_)
      obtain ⟨r3, rfl, K⟩ := z
      show Wg X 0 0 h3 [(0, .ref 52), (1, .ref 15), (2, .int v2), (3, .int v3)] [.int r3, .int (h2 52 4), .ref 54] 40
      obtain ⟨s0, K⟩ := K
      refine r_iast C rfl s0 d_Pr_openPairs_40 ?_
      refine r_aload_n C 0 rfl d_Pr_openPairs_41 ?_
      refine r_dup C rfl d_Pr_openPairs_42 ?_
      refine gf_Pr_open C rfl k_203 d_Pr_openPairs_43 ?_
      refine r_iconst (v := 1) C (by decide) d_Pr_openPairs_46 ?_
      refine r_iadd C d_Pr_openPairs_47 ?_
      refine pf_Pr_open C rfl k_203 d_Pr_openPairs_48 ?_
      refine r_aload_n C 1 rfl d_Pr_openPairs_51 ?_
      refine r_iload_n C 3 rfl d_Pr_openPairs_52 ?_
      refine r_callV (As := [.int v3]) (st := []) (lvc := 1) (mcc := 0) (msc := 0) C Rm M_He_firstOf rfl k_971 rfl (by decide) (Nat.le_of_ble_eq_true rfl) ⟨by decide, by decide⟩ d_Pr_openPairs_53 ?_
      refine Can.mono K (fun _ h4 z => ?_)
      obtain ⟨r4, rfl, K⟩ := z
      show Wg X 0 0 h4 [(0, .ref 52), (1, .ref 15), (2, .int v2), (3, .int v3)] [.int r4] 56
      refine r_istore_n (ls2 := [(0, .ref 52), (1, .ref 15), (2, .int v2), (3, .int r4)]) C rfl (by decide) rfl d_Pr_openPairs_56 ?_
      refine r_goto C 2 d_Pr_openPairs_57 (by decide) ?_
      exact K
set_option maxRecDepth 20000 in
theorem g_Pr_print_0 {X : CX} {h : HP} {v2 : Int32} {Φ : Int32 → HP → Prop} (C : Cok X b_Pr_print 5 R_Pr ((some .boolean))) (Rm : xR X = rml 7 0 0) (Q : Qok X 0 0 (fun r h2 => ∃ v, r = some (.int v) ∧ Φ v h2)) 
    (K : K_Pr_openPairs [.ref 52, .ref 15, .int v2] (up (up (up h 52 1 0) 52 2 0) 52 4 0) (fun r1 h1 => K_Pr_putAtom [.ref 52, .ref 15, .int r1] h1 (fun h2 => Wg X 0 0 h2 [(0, .ref 52), (1, .ref 15), (2, .int v2), (3, .int 0)] [] 28))) :
    Wg X 0 0 h [(0, .ref 52), (1, .ref 15), (2, .int v2)] [] 0 := by
  refine r_aload_n C 0 rfl d_Pr_print_0 ?_
  refine r_iconst (v := 0) C (by decide) d_Pr_print_1 ?_
  refine pf_Pr_length C rfl k_199 d_Pr_print_2 ?_
  refine r_aload_n C 0 rfl d_Pr_print_5 ?_
  refine r_iconst (v := 0) C (by decide) d_Pr_print_6 ?_
  refine pf_Pr_overran C rfl (by decide) k_201 d_Pr_print_7 ?_
  refine r_aload_n C 0 rfl d_Pr_print_10 ?_
  refine r_iconst (v := 0) C (by decide) d_Pr_print_11 ?_
  refine pf_Pr_open C rfl k_203 d_Pr_print_12 ?_
  refine r_aload_n C 0 rfl d_Pr_print_15 ?_
  refine r_aload_n C 1 rfl d_Pr_print_16 ?_
  refine r_aload_n C 0 rfl d_Pr_print_17 ?_
  refine r_aload_n C 1 rfl d_Pr_print_18 ?_
  refine r_iload_n C 2 rfl d_Pr_print_19 ?_
  refine r_callV (As := [.ref 15, .int v2]) (st := [.ref 15, .ref 52]) (lvc := 2) (mcc := 0) (msc := 0) C Rm M_Pr_openPairs rfl k_961 rfl (by decide) (Nat.le_of_ble_eq_true rfl) ⟨by decide, by decide⟩ d_Pr_print_20 ?_
  refine Can.mono K (fun _ h1 z => ?_)
  obtain ⟨r1, rfl, K⟩ := z
  show Wg X 0 0 h1 [(0, .ref 52), (1, .ref 15), (2, .int v2)] [.int r1, .ref 15, .ref 52] 23
  refine r_callV (As := [.ref 15, .int r1]) (st := []) (lvc := 5) (mcc := 0) (msc := 0) C Rm M_Pr_putAtom rfl k_972 rfl (by decide) (Nat.le_of_ble_eq_true rfl) ⟨by decide, by decide⟩ d_Pr_print_23 ?_
  refine Can.mono K (fun _ h2 z => ?_)
  obtain ⟨rfl, K⟩ := z
  show Wg X 0 0 h2 [(0, .ref 52), (1, .ref 15), (2, .int v2)] [] 26
  refine r_iconst (v := 0) C (by decide) d_Pr_print_26 ?_
  refine r_istore_n (ls2 := [(0, .ref 52), (1, .ref 15), (2, .int v2), (3, .int 0)]) C rfl (by decide) rfl d_Pr_print_27 ?_
  exact K
set_option maxRecDepth 20000 in
theorem g_Pr_print_28 {X : CX} {h : HP} {v2 : Int32} {v3 : Int32} {Φ : Int32 → HP → Prop} (C : Cok X b_Pr_print 5 R_Pr ((some .boolean))) (Rm : xR X = rml 7 0 0) (Q : Qok X 0 0 (fun r h2 => ∃ v, r = some (.int v) ∧ Φ v h2)) 
    (K : ((400 : Int32) < v3 → Wg X 0 0 h [(0, .ref 52), (1, .ref 15), (2, .int v2), (3, .int v3)] [] 127) ∧ (¬ (400 : Int32) < v3 → ((h 52 4) ≤ 0 → Wg X 0 0 h [(0, .ref 52), (1, .ref 15), (2, .int v2), (3, .int v3)] [] 127) ∧ (¬ (h 52 4) ≤ 0 → (¬ (h 52 2) = 0 → Wg X 0 0 h [(0, .ref 52), (1, .ref 15), (2, .int v2), (3, .int v3)] [] 127) ∧ ((h 52 2) = 0 → vp_in ((h 52 4) - 1) 401 ∧ (K_He_sortOf [.ref 15, .int (h 54 ((h 52 4) - 1).toNatClampNeg)] h (fun r1 h1 => (¬ r1 = (4 : Int32) → K_Pr_closeWith [.ref 52, .ref 15, .int (h 54 ((h 52 4) - 1).toNatClampNeg)] h1 (fun h2 => Wg X 0 0 h2 [(0, .ref 52), (1, .ref 15), (2, .int v2), (3, .int (v3 + 1))] [] 28)) ∧ (r1 = (4 : Int32) → K_Pr_put [.ref 52, .int 32] h1 (fun h3 => K_He_secondOf [.ref 15, .int (h 54 ((h 52 4) - 1).toNatClampNeg)] h3 (fun r4 h4 => vp_in ((h3 52 4) - 1) 401 ∧ (K_He_firstOf [.ref 15, .int (h 54 ((h 52 4) - 1).toNatClampNeg)] (up h4 54 ((h3 52 4) - 1).toNatClampNeg r4) (fun r5 h5 => K_Pr_openPairs [.ref 52, .ref 15, .int r5] h5 (fun r6 h6 => K_Pr_putAtom [.ref 52, .ref 15, .int r6] h6 (fun h7 => Wg X 0 0 h7 [(0, .ref 52), (1, .ref 15), (2, .int v2), (3, .int (v3 + 1))] [] 28))))))))))))) :
    Wg X 0 0 h [(0, .ref 52), (1, .ref 15), (2, .int v2), (3, .int v3)] [] 28 := by
  refine r_iload_n C 3 rfl d_Pr_print_28 ?_
  refine r_sipush (v := 400) C (by decide) d_Pr_print_29 ?_
  refine r_icmp_gt C 127 d_Pr_print_32 (by decide) ⟨fun c0 => ?_, fun c0 => ?_⟩
  · have K := K.1 c0
    exact K
  · have K := K.2 c0
    refine r_aload_n C 0 rfl d_Pr_print_35 ?_
    refine gf_Pr_open C rfl k_203 d_Pr_print_36 ?_
    refine r_if_le C 127 d_Pr_print_39 (by decide) ⟨fun c0 => ?_, fun c0 => ?_⟩
    · have K := K.1 c0
      exact K
    · have K := K.2 c0
      refine r_aload_n C 0 rfl d_Pr_print_42 ?_
      refine gf_Pr_overran C rfl k_201 d_Pr_print_43 ?_
      refine r_if_ne C 127 d_Pr_print_46 (by decide) ⟨fun c0 => ?_, fun c0 => ?_⟩
      · have K := K.1 c0
        exact K
      · have K := K.2 c0
        refine r_aload_n C 0 rfl d_Pr_print_49 ?_
        refine gf_Pr_rests (k2 := 54) C rfl rfl k_202 d_Pr_print_50 ?_
        refine r_aload_n C 0 rfl d_Pr_print_53 ?_
        refine gf_Pr_open C rfl k_203 d_Pr_print_54 ?_
        refine r_iconst (v := 1) C (by decide) d_Pr_print_57 ?_
        refine r_isub C d_Pr_print_58 ?_
        obtain ⟨s0, K⟩ := K
        refine r_iald C rfl s0 d_Pr_print_59 ?_
        refine r_istore (ls2 := [(0, .ref 52), (1, .ref 15), (2, .int v2), (3, .int v3), (4, .int (h 54 ((h 52 4) - 1).toNatClampNeg))]) C (by decide) rfl d_Pr_print_60 ?_
        refine r_aload_n C 1 rfl d_Pr_print_62 ?_
        refine r_iload C 4 rfl d_Pr_print_63 ?_
        refine r_callV (As := [.int (h 54 ((h 52 4) - 1).toNatClampNeg)]) (st := []) (lvc := 1) (mcc := 0) (msc := 0) C Rm M_He_sortOf rfl k_965 rfl (by decide) (Nat.le_of_ble_eq_true rfl) ⟨by decide, by decide⟩ d_Pr_print_65 ?_
        refine Can.mono K (fun _ h1 z => ?_)
        obtain ⟨r1, rfl, K⟩ := z
        show Wg X 0 0 h1 [(0, .ref 52), (1, .ref 15), (2, .int v2), (3, .int v3), (4, .int (h 54 ((h 52 4) - 1).toNatClampNeg))] [.int r1] 68
        refine r_iconst (v := 4) C (by decide) d_Pr_print_68 ?_
        refine r_icmp_ne C 114 d_Pr_print_69 (by decide) ⟨fun c0 => ?_, fun c0 => ?_⟩
        · have K := K.1 c0
          refine r_aload_n C 0 rfl d_Pr_print_114 ?_
          refine r_aload_n C 1 rfl d_Pr_print_115 ?_
          refine r_iload C 4 rfl d_Pr_print_116 ?_
          refine r_callV (As := [.ref 15, .int (h 54 ((h 52 4) - 1).toNatClampNeg)]) (st := []) (lvc := 6) (mcc := 0) (msc := 0) C Rm M_Pr_closeWith rfl k_988 rfl (by decide) (Nat.le_of_ble_eq_true rfl) ⟨by decide, by decide⟩ d_Pr_print_118 ?_
          refine Can.mono K (fun _ h2 z => ?_)
          obtain ⟨rfl, K⟩ := z
          show Wg X 0 0 h2 [(0, .ref 52), (1, .ref 15), (2, .int v2), (3, .int v3), (4, .int (h 54 ((h 52 4) - 1).toNatClampNeg))] [] 121
          refine r_iinc (ls2 := [(0, .ref 52), (1, .ref 15), (2, .int v2), (3, .int (v3 + 1)), (4, .int (h 54 ((h 52 4) - 1).toNatClampNeg))]) C 3 (m := 1) rfl (by decide) (by decide) rfl d_Pr_print_121 ?_
          refine r_goto C 28 d_Pr_print_124 (by decide) ?_
          exact Wg.drop (by simp) K
        · have K := K.2 c0
          refine r_aload_n C 0 rfl d_Pr_print_72 ?_
          refine r_bipush (v := 32) C (by decide) d_Pr_print_73 ?_
          refine r_callV (As := [.int 32]) (st := []) (lvc := 0) (mcc := 0) (msc := 0) C Rm M_Pr_put rfl k_966 rfl (by decide) (Nat.le_of_ble_eq_true rfl) ⟨by decide, by decide⟩ d_Pr_print_75 ?_
          refine Can.mono K (fun _ h3 z => ?_)
          obtain ⟨rfl, K⟩ := z
          show Wg X 0 0 h3 [(0, .ref 52), (1, .ref 15), (2, .int v2), (3, .int v3), (4, .int (h 54 ((h 52 4) - 1).toNatClampNeg))] [] 78
          refine r_aload_n C 0 rfl d_Pr_print_78 ?_
          refine gf_Pr_rests (k2 := 54) C rfl rfl k_202 d_Pr_print_79 ?_
          refine r_aload_n C 0 rfl d_Pr_print_82 ?_
          refine gf_Pr_open C rfl k_203 d_Pr_print_83 ?_
          refine r_iconst (v := 1) C (by decide) d_Pr_print_86 ?_
          refine r_isub C d_Pr_print_87 ?_
          refine r_aload_n C 1 rfl d_Pr_print_88 ?_
          refine r_iload C 4 rfl d_Pr_print_89 ?_
          refine r_callV (As := [.int (h 54 ((h 52 4) - 1).toNatClampNeg)]) (st := [.int ((h3 52 4) - 1), .ref 54]) (lvc := 1) (mcc := 0) (msc := 0) C Rm M_He_secondOf rfl k_970 rfl (by decide) (Nat.le_of_ble_eq_true rfl) ⟨by decide, by decide⟩ d_Pr_print_91 ?_
          refine Can.mono K (fun _ h4 z => ?_)
          obtain ⟨r4, rfl, K⟩ := z
          show Wg X 0 0 h4 [(0, .ref 52), (1, .ref 15), (2, .int v2), (3, .int v3), (4, .int (h 54 ((h 52 4) - 1).toNatClampNeg))] [.int r4, .int ((h3 52 4) - 1), .ref 54] 94
          obtain ⟨s0, K⟩ := K
          refine r_iast C rfl s0 d_Pr_print_94 ?_
          refine r_aload_n C 0 rfl d_Pr_print_95 ?_
          refine r_aload_n C 1 rfl d_Pr_print_96 ?_
          refine r_aload_n C 0 rfl d_Pr_print_97 ?_
          refine r_aload_n C 1 rfl d_Pr_print_98 ?_
          refine r_aload_n C 1 rfl d_Pr_print_99 ?_
          refine r_iload C 4 rfl d_Pr_print_100 ?_
          refine r_callV (As := [.int (h 54 ((h 52 4) - 1).toNatClampNeg)]) (st := [.ref 15, .ref 52, .ref 15, .ref 52]) (lvc := 1) (mcc := 0) (msc := 0) C Rm M_He_firstOf rfl k_971 rfl (by decide) (Nat.le_of_ble_eq_true rfl) ⟨by decide, by decide⟩ d_Pr_print_102 ?_
          refine Can.mono K (fun _ h5 z => ?_)
          obtain ⟨r5, rfl, K⟩ := z
          show Wg X 0 0 h5 [(0, .ref 52), (1, .ref 15), (2, .int v2), (3, .int v3), (4, .int (h 54 ((h 52 4) - 1).toNatClampNeg))] [.int r5, .ref 15, .ref 52, .ref 15, .ref 52] 105
          refine r_callV (As := [.ref 15, .int r5]) (st := [.ref 15, .ref 52]) (lvc := 2) (mcc := 0) (msc := 0) C Rm M_Pr_openPairs rfl k_961 rfl (by decide) (Nat.le_of_ble_eq_true rfl) ⟨by decide, by decide⟩ d_Pr_print_105 ?_
          refine Can.mono K (fun _ h6 z => ?_)
          obtain ⟨r6, rfl, K⟩ := z
          show Wg X 0 0 h6 [(0, .ref 52), (1, .ref 15), (2, .int v2), (3, .int v3), (4, .int (h 54 ((h 52 4) - 1).toNatClampNeg))] [.int r6, .ref 15, .ref 52] 108
          refine r_callV (As := [.ref 15, .int r6]) (st := []) (lvc := 5) (mcc := 0) (msc := 0) C Rm M_Pr_putAtom rfl k_972 rfl (by decide) (Nat.le_of_ble_eq_true rfl) ⟨by decide, by decide⟩ d_Pr_print_108 ?_
          refine Can.mono K (fun _ h7 z => ?_)
          obtain ⟨rfl, K⟩ := z
          show Wg X 0 0 h7 [(0, .ref 52), (1, .ref 15), (2, .int v2), (3, .int v3), (4, .int (h 54 ((h 52 4) - 1).toNatClampNeg))] [] 111
          refine r_goto C 121 d_Pr_print_111 (by decide) ?_
          refine r_iinc (ls2 := [(0, .ref 52), (1, .ref 15), (2, .int v2), (3, .int (v3 + 1)), (4, .int (h 54 ((h 52 4) - 1).toNatClampNeg))]) C 3 (m := 1) rfl (by decide) (by decide) rfl d_Pr_print_121 ?_
          refine r_goto C 28 d_Pr_print_124 (by decide) ?_
          exact Wg.drop (by simp) K
set_option maxRecDepth 20000 in
theorem g_Pr_print_127 {X : CX} {h : HP} {v2 : Int32} {v3 : Int32} {Φ : Int32 → HP → Prop} (C : Cok X b_Pr_print 5 R_Pr ((some .boolean))) (Rm : xR X = rml 7 0 0) (Q : Qok X 0 0 (fun r h2 => ∃ v, r = some (.int v) ∧ Φ v h2)) 
    (K : ((h 52 2) = 0 → (¬ (h 52 2) = 0 → Φ 0 h) ∧ ((h 52 2) = 0 → Φ 1 h)) ∧ (¬ (h 52 2) = 0 → (¬ ((up h 52 1 0) 52 2) = 0 → Φ 0 (up h 52 1 0)) ∧ (((up h 52 1 0) 52 2) = 0 → Φ 1 (up h 52 1 0)))) :
    Wg X 0 0 h [(0, .ref 52), (1, .ref 15), (2, .int v2), (3, .int v3)] [] 127 := by
  refine r_aload_n C 0 rfl d_Pr_print_127 ?_
  refine gf_Pr_overran C rfl k_201 d_Pr_print_128 ?_
  refine r_if_eq C 139 d_Pr_print_131 (by decide) ⟨fun c0 => ?_, fun c0 => ?_⟩
  · have K := K.1 c0
    refine r_aload_n C 0 rfl d_Pr_print_139 ?_
    refine gf_Pr_overran C rfl k_201 d_Pr_print_140 ?_
    refine r_if_ne C 150 d_Pr_print_143 (by decide) ⟨fun c0 => ?_, fun c0 => ?_⟩
    · have K := K.1 c0
      refine r_iconst (v := 0) C (by decide) d_Pr_print_150 ?_
      exact q_zret C Q (by decide) d_Pr_print_151 ⟨_, rfl, K⟩
    · have K := K.2 c0
      refine r_iconst (v := 1) C (by decide) d_Pr_print_146 ?_
      refine r_goto C 151 d_Pr_print_147 (by decide) ?_
      exact q_zret C Q (by decide) d_Pr_print_151 ⟨_, rfl, K⟩
  · have K := K.2 c0
    refine r_aload_n C 0 rfl d_Pr_print_134 ?_
    refine r_iconst (v := 0) C (by decide) d_Pr_print_135 ?_
    refine pf_Pr_length C rfl k_199 d_Pr_print_136 ?_
    refine r_aload_n C 0 rfl d_Pr_print_139 ?_
    refine gf_Pr_overran C rfl k_201 d_Pr_print_140 ?_
    refine r_if_ne C 150 d_Pr_print_143 (by decide) ⟨fun c0 => ?_, fun c0 => ?_⟩
    · have K := K.1 c0
      refine r_iconst (v := 0) C (by decide) d_Pr_print_150 ?_
      exact q_zret C Q (by decide) d_Pr_print_151 ⟨_, rfl, K⟩
    · have K := K.2 c0
      refine r_iconst (v := 1) C (by decide) d_Pr_print_146 ?_
      refine r_goto C 151 d_Pr_print_147 (by decide) ?_
      exact q_zret C Q (by decide) d_Pr_print_151 ⟨_, rfl, K⟩
