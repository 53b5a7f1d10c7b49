
theorem k_42 : (Jvm.Cond.fieldLink "CellHeap" (79 : Nat) "CellHeap$Heap" "cells" "[I") ∈ wx_tbl := wx_in 106 (by decide +kernel) rfl
theorem k_44 : (Jvm.Cond.fieldLink "CellHeap" (41 : Nat) "CellHeap$Heap" "registers" "[I") ∈ wx_tbl := wx_in 108 (by decide +kernel) rfl
theorem k_46 : (Jvm.Cond.fieldLink "CellHeap" (155 : Nat) "CellHeap$Heap" "top" "I") ∈ wx_tbl := wx_in 110 (by decide +kernel) rfl
theorem k_47 : (Jvm.Cond.fieldLink "CellHeap" (167 : Nat) "CellHeap$Heap" "collections" "I") ∈ wx_tbl := wx_in 111 (by decide +kernel) rfl
theorem k_80 : (Jvm.Cond.fieldLink "CellHeap" (126 : Nat) "CellHeap$Line" "length" "I") ∈ wx_tbl := wx_in 144 (by decide +kernel) rfl
theorem k_128 : (Jvm.Cond.fieldLink "CellHeap" (100 : Nat) "CellHeap$Ratio" "upper" "LCellHeap$Whole;") ∈ wx_tbl := wx_in 192 (by decide +kernel) rfl
theorem k_133 : (Jvm.Cond.fieldLink "CellHeap" (140 : Nat) "CellHeap$Ratio" "lower" "LCellHeap$Whole;") ∈ wx_tbl := wx_in 197 (by decide +kernel) rfl
theorem k_165 : (Jvm.Cond.fieldLink "CellHeap" (90 : Nat) "CellHeap$Reckoner" "left" "LCellHeap$Ratio;") ∈ wx_tbl := wx_in 229 (by decide +kernel) rfl
theorem k_167 : (Jvm.Cond.fieldLink "CellHeap" (97 : Nat) "CellHeap$Reckoner" "right" "LCellHeap$Ratio;") ∈ wx_tbl := wx_in 231 (by decide +kernel) rfl
theorem k_169 : (Jvm.Cond.fieldLink "CellHeap" (45 : Nat) "CellHeap$Reckoner" "result" "LCellHeap$Ratio;") ∈ wx_tbl := wx_in 233 (by decide +kernel) rfl
theorem k_198 : (Jvm.Cond.fieldLink "CellHeap" (151 : Nat) "CellHeap$Printer" "text" "[C") ∈ wx_tbl := wx_in 262 (by decide +kernel) rfl
theorem k_200 : (Jvm.Cond.fieldLink "CellHeap" (150 : Nat) "CellHeap$Printer" "length" "I") ∈ wx_tbl := wx_in 264 (by decide +kernel) rfl
theorem k_221 : (Jvm.Cond.fieldLink "CellHeap" (10 : Nat) "CellHeap" "heap" "LCellHeap$Heap;") ∈ wx_tbl := wx_in 285 (by decide +kernel) rfl
theorem k_222 : (Jvm.Cond.fieldLink "CellHeap" (19 : Nat) "CellHeap" "line" "LCellHeap$Line;") ∈ wx_tbl := wx_in 286 (by decide +kernel) rfl
theorem k_223 : (Jvm.Cond.fieldLink "CellHeap" (26 : Nat) "CellHeap" "reckoner" "LCellHeap$Reckoner;") ∈ wx_tbl := wx_in 287 (by decide +kernel) rfl
theorem k_224 : (Jvm.Cond.fieldLink "CellHeap" (33 : Nat) "CellHeap" "printer" "LCellHeap$Printer;") ∈ wx_tbl := wx_in 288 (by decide +kernel) rfl
theorem k_246 : (Jvm.Cond.methodLink "CellHeap" (158 : Nat) ({ cls := "CellHeap$Heap", name := "slideLiving", desc := "()V" } : Jvm.MethodName)) ∈ wx_tbl := wx_in 310 (by decide +kernel) rfl
theorem k_298 : (Jvm.Cond.methodLink "CellHeap" (37 : Nat) ({ cls := "CellHeap", name := "checkRegister", desc := "(I)V" } : Jvm.MethodName)) ∈ wx_tbl := wx_in 362 (by decide +kernel) rfl
theorem k_301 : (Jvm.Cond.methodLink "CellHeap" (82 : Nat) ({ cls := "CellHeap", name := "checkRange", desc := "(II)V" } : Jvm.MethodName)) ∈ wx_tbl := wx_in 365 (by decide +kernel) rfl
theorem k_374 : (Jvm.Cond.methodLink "CellHeap" (49 : Nat) ({ cls := "CellHeap$Ratio", name := "setLong", desc := "(J)V" } : Jvm.MethodName)) ∈ wx_tbl := wx_in 438 (by decide +kernel) rfl
theorem k_386 : (Jvm.Cond.methodLink "CellHeap" (55 : Nat) ({ cls := "CellHeap", name := "keepResult", desc := "(I)I" } : Jvm.MethodName)) ∈ wx_tbl := wx_in 450 (by decide +kernel) rfl
theorem k_390 : (Jvm.Cond.methodLink "CellHeap" (143 : Nat) ({ cls := "CellHeap$Ratio", name := "isLarge", desc := "()Z" } : Jvm.MethodName)) ∈ wx_tbl := wx_in 454 (by decide +kernel) rfl
theorem k_394 : (Jvm.Cond.methodLink "CellHeap" (179 : Nat) ({ cls := "CellHeap$Heap", name := "cellsFor", desc := "(LCellHeap$Ratio;)I" } : Jvm.MethodName)) ∈ wx_tbl := wx_in 458 (by decide +kernel) rfl
theorem k_414 : (Jvm.Cond.methodLink "CellHeap" (59 : Nat) ({ cls := "CellHeap$Heap", name := "makeRoom", desc := "(I)Z" } : Jvm.MethodName)) ∈ wx_tbl := wx_in 478 (by decide +kernel) rfl
theorem k_419 : (Jvm.Cond.methodLink "CellHeap" (183 : Nat) ({ cls := "CellHeap$Heap", name := "addNumber", desc := "(LCellHeap$Ratio;)I" } : Jvm.MethodName)) ∈ wx_tbl := wx_in 483 (by decide +kernel) rfl
theorem k_449 : (Jvm.Cond.methodLink "CellHeap" (63 : Nat) ({ cls := "CellHeap$Heap", name := "addTriple", desc := "(III)I" } : Jvm.MethodName)) ∈ wx_tbl := wx_in 513 (by decide +kernel) rfl
theorem k_450 : (Jvm.Cond.methodLink "CellHeap" (67 : Nat) ({ cls := "CellHeap$Heap", name := "cellOf", desc := "(I)I" } : Jvm.MethodName)) ∈ wx_tbl := wx_in 514 (by decide +kernel) rfl
theorem k_458 : (Jvm.Cond.methodLink "CellHeap" (70 : Nat) ({ cls := "CellHeap$Heap", name := "sortOf", desc := "(I)I" } : Jvm.MethodName)) ∈ wx_tbl := wx_in 522 (by decide +kernel) rfl
theorem k_462 : (Jvm.Cond.methodLink "CellHeap" (73 : Nat) ({ cls := "CellHeap$Heap", name := "firstOf", desc := "(I)I" } : Jvm.MethodName)) ∈ wx_tbl := wx_in 526 (by decide +kernel) rfl
theorem k_466 : (Jvm.Cond.methodLink "CellHeap" (76 : Nat) ({ cls := "CellHeap$Heap", name := "secondOf", desc := "(I)I" } : Jvm.MethodName)) ∈ wx_tbl := wx_in 530 (by decide +kernel) rfl
theorem k_484 : (Jvm.Cond.methodLink "CellHeap" (86 : Nat) ({ cls := "CellHeap", name := "isOperand", desc := "(IZ)Z" } : Jvm.MethodName)) ∈ wx_tbl := wx_in 548 (by decide +kernel) rfl
theorem k_488 : (Jvm.Cond.methodLink "CellHeap" (93 : Nat) ({ cls := "CellHeap$Heap", name := "fetchNumber", desc := "(ILCellHeap$Ratio;)V" } : Jvm.MethodName)) ∈ wx_tbl := wx_in 552 (by decide +kernel) rfl
theorem k_508 : (Jvm.Cond.methodLink "CellHeap" (104 : Nat) ({ cls := "CellHeap$Whole", name := "isZero", desc := "()Z" } : Jvm.MethodName)) ∈ wx_tbl := wx_in 572 (by decide +kernel) rfl
theorem k_512 : (Jvm.Cond.methodLink "CellHeap" (110 : Nat) ({ cls := "CellHeap$Reckoner", name := "workOnWholes", desc := "(I)V" } : Jvm.MethodName)) ∈ wx_tbl := wx_in 576 (by decide +kernel) rfl
theorem k_579 : (Jvm.Cond.methodLink "CellHeap" (113 : Nat) ({ cls := "CellHeap$Reckoner", name := "workOnRatios", desc := "(I)V" } : Jvm.MethodName)) ∈ wx_tbl := wx_in 643 (by decide +kernel) rfl
theorem k_863 : (Jvm.Cond.methodLink "CellHeap" (116 : Nat) ({ cls := "CellHeap$Reckoner", name := "bringToLowestTerms", desc := "()V" } : Jvm.MethodName)) ∈ wx_tbl := wx_in 927 (by decide +kernel) rfl
theorem k_875 : (Jvm.Cond.methodLink "CellHeap" (119 : Nat) ({ cls := "CellHeap$Reckoner", name := "orderOfOperands", desc := "()I" } : Jvm.MethodName)) ∈ wx_tbl := wx_in 939 (by decide +kernel) rfl
theorem k_898 : (Jvm.Cond.methodLink "CellHeap" (123 : Nat) ({ cls := "CellHeap$Line", name := "charactersIn", desc := "(I)I" } : Jvm.MethodName)) ∈ wx_tbl := wx_in 962 (by decide +kernel) rfl
theorem k_916 : (Jvm.Cond.methodLink "CellHeap" (133 : Nat) ({ cls := "CellHeap$Line", name := "addFour", desc := "(I)V" } : Jvm.MethodName)) ∈ wx_tbl := wx_in 980 (by decide +kernel) rfl
theorem k_927 : (Jvm.Cond.methodLink "CellHeap" (136 : Nat) ({ cls := "CellHeap$Line", name := "tellsNumber", desc := "(LCellHeap$Ratio;)Z" } : Jvm.MethodName)) ∈ wx_tbl := wx_in 991 (by decide +kernel) rfl
theorem k_957 : (Jvm.Cond.methodLink "CellHeap" (146 : Nat) ({ cls := "CellHeap$Printer", name := "print", desc := "(LCellHeap$Heap;I)Z" } : Jvm.MethodName)) ∈ wx_tbl := wx_in 1021 (by decide +kernel) rfl
theorem k_999 : (Jvm.Cond.methodLink "CellHeap" (161 : Nat) ({ cls := "CellHeap$Heap", name := "fixedOf", desc := "(I)I" } : Jvm.MethodName)) ∈ wx_tbl := wx_in 1063 (by decide +kernel) rfl
theorem k_1000 : (Jvm.Cond.methodLink "CellHeap" (164 : Nat) ({ cls := "CellHeap$Heap", name := "sizeAt", desc := "(I)I" } : Jvm.MethodName)) ∈ wx_tbl := wx_in 1064 (by decide +kernel) rfl
theorem k_1008 : (Jvm.Cond.methodLink "CellHeap" (170 : Nat) ({ cls := "CellHeap$Heap", name := "objectsBelowTop", desc := "()I" } : Jvm.MethodName)) ∈ wx_tbl := wx_in 1072 (by decide +kernel) rfl
theorem k_1012 : (Jvm.Cond.methodLink "CellHeap" (173 : Nat) ({ cls := "CellHeap$Heap", name := "markLiving", desc := "()I" } : Jvm.MethodName)) ∈ wx_tbl := wx_in 1076 (by decide +kernel) rfl
/-! Ce_checkRange: ('CellHeap', 'checkRange', '(II)V') -/
abbrev b_Ce_checkRange : ByteArray := prog_1_method_20_code
abbrev y_Ce_checkRange : MethodName := ⟨R_Ce, "checkRange", "(II)V"⟩
abbrev K_Ce_checkRange := CanV y_Ce_checkRange b_Ce_checkRange 2 none 9 0 0
theorem I_Ce_checkRange {h : HP} {v0 : Int32} {v1 : Int32} {Φ : HP → Prop} (body : ∀ X : CX, Cok X b_Ce_checkRange 2 R_Ce none → xR X = rml 9 0 0 → Qok X 0 0 (fun r h2 => r = none ∧ Φ h2) → Wg X 0 0 h [(0, .int v0), (1, .int v1)] [] 0) : K_Ce_checkRange [.int v0, .int v1] h Φ := Can.intro (by decide) (fun _ => Nat.le_of_ble_eq_true rfl) body
theorem M_Ce_checkRange : Ms y_Ce_checkRange b_Ce_checkRange 2 none 2 := ⟨wx_in 367 (by decide +kernel) rfl, wx_in 366 (by decide +kernel) rfl, wx_in 65 (by decide +kernel) rfl, by decide +kernel, by decide⟩
theorem d_Ce_checkRange_0 : decode b_Ce_checkRange 0 = .ok (.iload_n 0, 1) := by decide +kernel
theorem d_Ce_checkRange_1 : decode b_Ce_checkRange 1 = .ok (.ifCond .lt 8, 3) := by decide +kernel
theorem d_Ce_checkRange_4 : decode b_Ce_checkRange 4 = .ok (.iload_n 0, 1) := by decide +kernel
theorem d_Ce_checkRange_5 : decode b_Ce_checkRange 5 = .ok (.iload_n 1, 1) := by decide +kernel
theorem d_Ce_checkRange_6 : decode b_Ce_checkRange 6 = .ok (.if_icmp .le 11, 3) := by decide +kernel
theorem d_Ce_checkRange_17 : decode b_Ce_checkRange 17 = .ok (.return_, 1) := by decide +kernel
/-! Ce_checkRegister: ('CellHeap', 'checkRegister', '(I)V') -/
abbrev b_Ce_checkRegister : ByteArray := prog_1_method_19_code
abbrev y_Ce_checkRegister : MethodName := ⟨R_Ce, "checkRegister", "(I)V"⟩
abbrev K_Ce_checkRegister := CanV y_Ce_checkRegister b_Ce_checkRegister 1 none 10 0 0
theorem I_Ce_checkRegister {h : HP} {v0 : Int32} {Φ : HP → Prop} (body : ∀ X : CX, Cok X b_Ce_checkRegister 1 R_Ce none → xR X = rml 10 0 0 → Qok X 0 0 (fun r h2 => r = none ∧ Φ h2) → Wg X 0 0 h [(0, .int v0)] [] 0) : K_Ce_checkRegister [.int v0] h Φ := Can.intro (by decide) (fun _ => Nat.le_of_ble_eq_true rfl) body
theorem M_Ce_checkRegister : Ms y_Ce_checkRegister b_Ce_checkRegister 1 none 1 := ⟨wx_in 364 (by decide +kernel) rfl, wx_in 363 (by decide +kernel) rfl, wx_in 65 (by decide +kernel) rfl, by decide +kernel, by decide⟩
theorem d_Ce_checkRegister_0 : decode b_Ce_checkRegister 0 = .ok (.iload_n 0, 1) := by decide +kernel
theorem d_Ce_checkRegister_1 : decode b_Ce_checkRegister 1 = .ok (.bipush 7, 2) := by decide +kernel
theorem d_Ce_checkRegister_3 : decode b_Ce_checkRegister 3 = .ok (.invokestatic 82, 3) := by decide +kernel
theorem d_Ce_checkRegister_6 : decode b_Ce_checkRegister 6 = .ok (.return_, 1) := by decide +kernel
/-! Ce_isOperand: ('CellHeap', 'isOperand', '(IZ)Z') -/
abbrev b_Ce_isOperand : ByteArray := prog_1_method_21_code
abbrev y_Ce_isOperand : MethodName := ⟨R_Ce, "isOperand", "(IZ)Z"⟩
abbrev K_Ce_isOperand := CanI y_Ce_isOperand b_Ce_isOperand 4 ((some .boolean)) 2 0 0
theorem I_Ce_isOperand {h : HP} {v1 : Int32} {v2 : Int32} {Φ : Int32 → HP → Prop} (body : ∀ X : CX, Cok X b_Ce_isOperand 4 R_Ce ((some .boolean)) → xR X = rml 2 0 0 → Qok X 0 0 (fun r h2 => ∃ v, r = some (.int v) ∧ Φ v h2) → Wg X 0 0 h [(0, .ref 14), (1, .int v1), (2, .int v2)] [] 0) : K_Ce_isOperand [.ref 14, .int v1, .int v2] h Φ := Can.intro (by decide) (fun _ => Nat.le_of_ble_eq_true rfl) body
theorem M_Ce_isOperand : Mv y_Ce_isOperand b_Ce_isOperand 4 ((some .boolean)) 2 7 := ⟨wx_in 551 (by decide +kernel) rfl, wx_in 550 (by decide +kernel) rfl, wx_in 8 (by decide +kernel) rfl, wx_in 65 (by decide +kernel) rfl, by decide +kernel, by decide, by decide, _, _, rfl⟩
theorem d_Ce_isOperand_0 : decode b_Ce_isOperand 0 = .ok (.aload_n 0, 1) := by decide +kernel
theorem d_Ce_isOperand_1 : decode b_Ce_isOperand 1 = .ok (.getfield 10, 3) := by decide +kernel
theorem d_Ce_isOperand_4 : decode b_Ce_isOperand 4 = .ok (.aload_n 0, 1) := by decide +kernel
theorem d_Ce_isOperand_5 : decode b_Ce_isOperand 5 = .ok (.getfield 10, 3) := by decide +kernel
theorem d_Ce_isOperand_8 : decode b_Ce_isOperand 8 = .ok (.getfield 41, 3) := by decide +kernel
theorem d_Ce_isOperand_11 : decode b_Ce_isOperand 11 = .ok (.iload_n 1, 1) := by decide +kernel
theorem d_Ce_isOperand_12 : decode b_Ce_isOperand 12 = .ok (.iaload, 1) := by decide +kernel
theorem d_Ce_isOperand_13 : decode b_Ce_isOperand 13 = .ok (.invokevirtual 70, 3) := by decide +kernel
theorem d_Ce_isOperand_16 : decode b_Ce_isOperand 16 = .ok (.istore_n 3, 1) := by decide +kernel
theorem d_Ce_isOperand_17 : decode b_Ce_isOperand 17 = .ok (.iload_n 3, 1) := by decide +kernel
theorem d_Ce_isOperand_18 : decode b_Ce_isOperand 18 = .ok (.iconst 1, 1) := by decide +kernel
theorem d_Ce_isOperand_19 : decode b_Ce_isOperand 19 = .ok (.if_icmp .eq 17, 3) := by decide +kernel
theorem d_Ce_isOperand_22 : decode b_Ce_isOperand 22 = .ok (.iload_n 3, 1) := by decide +kernel
theorem d_Ce_isOperand_23 : decode b_Ce_isOperand 23 = .ok (.iconst 2, 1) := by decide +kernel
theorem d_Ce_isOperand_24 : decode b_Ce_isOperand 24 = .ok (.if_icmp .eq 12, 3) := by decide +kernel
theorem d_Ce_isOperand_27 : decode b_Ce_isOperand 27 = .ok (.iload_n 3, 1) := by decide +kernel
theorem d_Ce_isOperand_28 : decode b_Ce_isOperand 28 = .ok (.iconst 3, 1) := by decide +kernel
theorem d_Ce_isOperand_29 : decode b_Ce_isOperand 29 = .ok (.if_icmp .ne 11, 3) := by decide +kernel
theorem d_Ce_isOperand_32 : decode b_Ce_isOperand 32 = .ok (.iload_n 2, 1) := by decide +kernel
theorem d_Ce_isOperand_33 : decode b_Ce_isOperand 33 = .ok (.ifCond .ne 7, 3) := by decide +kernel
theorem d_Ce_isOperand_36 : decode b_Ce_isOperand 36 = .ok (.iconst 1, 1) := by decide +kernel
theorem d_Ce_isOperand_37 : decode b_Ce_isOperand 37 = .ok (.goto 4, 3) := by decide +kernel
theorem d_Ce_isOperand_40 : decode b_Ce_isOperand 40 = .ok (.iconst 0, 1) := by decide +kernel
theorem d_Ce_isOperand_41 : decode b_Ce_isOperand 41 = .ok (.ireturn, 1) := by decide +kernel
/-! Ce_keepResult: ('CellHeap', 'keepResult', '(I)I') -/
abbrev b_Ce_keepResult : ByteArray := prog_1_method_22_code
abbrev y_Ce_keepResult : MethodName := ⟨R_Ce, "keepResult", "(I)I"⟩
abbrev K_Ce_keepResult := CanI y_Ce_keepResult b_Ce_keepResult 3 ((some .int)) 5 0 0
theorem I_Ce_keepResult {h : HP} {v1 : Int32} {Φ : Int32 → HP → Prop} (body : ∀ X : CX, Cok X b_Ce_keepResult 3 R_Ce ((some .int)) → xR X = rml 5 0 0 → Qok X 0 0 (fun r h2 => ∃ v, r = some (.int v) ∧ Φ v h2) → Wg X 0 0 h [(0, .ref 14), (1, .int v1)] [] 0) : K_Ce_keepResult [.ref 14, .int v1] h Φ := Can.intro (by decide) (fun _ => Nat.le_of_ble_eq_true rfl) body
theorem M_Ce_keepResult : Mv y_Ce_keepResult b_Ce_keepResult 3 ((some .int)) 1 7 := ⟨wx_in 453 (by decide +kernel) rfl, wx_in 452 (by decide +kernel) rfl, wx_in 6 (by decide +kernel) rfl, wx_in 65 (by decide +kernel) rfl, by decide +kernel, by decide, by decide, _, _, rfl⟩
theorem d_Ce_keepResult_0 : decode b_Ce_keepResult 0 = .ok (.aload_n 0, 1) := by decide +kernel
theorem d_Ce_keepResult_1 : decode b_Ce_keepResult 1 = .ok (.getfield 26, 3) := by decide +kernel
theorem d_Ce_keepResult_4 : decode b_Ce_keepResult 4 = .ok (.getfield 45, 3) := by decide +kernel
theorem d_Ce_keepResult_7 : decode b_Ce_keepResult 7 = .ok (.astore_n 2, 1) := by decide +kernel
theorem d_Ce_keepResult_8 : decode b_Ce_keepResult 8 = .ok (.aload_n 2, 1) := by decide +kernel
theorem d_Ce_keepResult_9 : decode b_Ce_keepResult 9 = .ok (.invokevirtual 143, 3) := by decide +kernel
theorem d_Ce_keepResult_12 : decode b_Ce_keepResult 12 = .ok (.ifCond .eq 6, 3) := by decide +kernel
theorem d_Ce_keepResult_15 : decode b_Ce_keepResult 15 = .ok (.bipush (-3), 2) := by decide +kernel
theorem d_Ce_keepResult_17 : decode b_Ce_keepResult 17 = .ok (.ireturn, 1) := by decide +kernel
theorem d_Ce_keepResult_18 : decode b_Ce_keepResult 18 = .ok (.aload_n 0, 1) := by decide +kernel
theorem d_Ce_keepResult_19 : decode b_Ce_keepResult 19 = .ok (.getfield 10, 3) := by decide +kernel
theorem d_Ce_keepResult_22 : decode b_Ce_keepResult 22 = .ok (.aload_n 2, 1) := by decide +kernel
theorem d_Ce_keepResult_23 : decode b_Ce_keepResult 23 = .ok (.invokestatic 179, 3) := by decide +kernel
theorem d_Ce_keepResult_26 : decode b_Ce_keepResult 26 = .ok (.invokevirtual 59, 3) := by decide +kernel
theorem d_Ce_keepResult_29 : decode b_Ce_keepResult 29 = .ok (.ifCond .ne 6, 3) := by decide +kernel
theorem d_Ce_keepResult_32 : decode b_Ce_keepResult 32 = .ok (.bipush (-2), 2) := by decide +kernel
theorem d_Ce_keepResult_34 : decode b_Ce_keepResult 34 = .ok (.ireturn, 1) := by decide +kernel
theorem d_Ce_keepResult_35 : decode b_Ce_keepResult 35 = .ok (.aload_n 0, 1) := by decide +kernel
theorem d_Ce_keepResult_36 : decode b_Ce_keepResult 36 = .ok (.getfield 10, 3) := by decide +kernel
theorem d_Ce_keepResult_39 : decode b_Ce_keepResult 39 = .ok (.getfield 41, 3) := by decide +kernel
theorem d_Ce_keepResult_42 : decode b_Ce_keepResult 42 = .ok (.iload_n 1, 1) := by decide +kernel
theorem d_Ce_keepResult_43 : decode b_Ce_keepResult 43 = .ok (.aload_n 0, 1) := by decide +kernel
theorem d_Ce_keepResult_44 : decode b_Ce_keepResult 44 = .ok (.getfield 10, 3) := by decide +kernel
theorem d_Ce_keepResult_47 : decode b_Ce_keepResult 47 = .ok (.aload_n 2, 1) := by decide +kernel
theorem d_Ce_keepResult_48 : decode b_Ce_keepResult 48 = .ok (.invokevirtual 183, 3) := by decide +kernel
theorem d_Ce_keepResult_51 : decode b_Ce_keepResult 51 = .ok (.iastore, 1) := by decide +kernel
theorem d_Ce_keepResult_52 : decode b_Ce_keepResult 52 = .ok (.iconst 0, 1) := by decide +kernel
theorem d_Ce_keepResult_53 : decode b_Ce_keepResult 53 = .ok (.ireturn, 1) := by decide +kernel
/-! Ce_nil: ('CellHeap', 'nil', '(I)V') -/
abbrev b_Ce_nil : ByteArray := prog_1_method_2_code
abbrev y_Ce_nil : MethodName := ⟨R_Ce, "nil", "(I)V"⟩
abbrev K_Ce_nil := CanV y_Ce_nil b_Ce_nil 2 none 11 0 0
theorem I_Ce_nil {h : HP} {v1 : Int32} {Φ : HP → Prop} (body : ∀ X : CX, Cok X b_Ce_nil 2 R_Ce none → xR X = rml 11 0 0 → Qok X 0 0 (fun r h2 => r = none ∧ Φ h2) → Wg X 0 0 h [(0, .ref 14), (1, .int v1)] [] 0) : K_Ce_nil [.ref 14, .int v1] h Φ := Can.intro (by decide) (fun _ => Nat.le_of_ble_eq_true rfl) body
theorem M_Ce_nil : Mv y_Ce_nil b_Ce_nil 2 none 1 7 := ⟨wx_in 361 (by decide +kernel) rfl, wx_in 359 (by decide +kernel) rfl, wx_in 360 (by decide +kernel) rfl, wx_in 65 (by decide +kernel) rfl, by decide +kernel, by decide, by decide, _, _, rfl⟩
theorem d_Ce_nil_0 : decode b_Ce_nil 0 = .ok (.iload_n 1, 1) := by decide +kernel
theorem d_Ce_nil_1 : decode b_Ce_nil 1 = .ok (.invokestatic 37, 3) := by decide +kernel
theorem d_Ce_nil_4 : decode b_Ce_nil 4 = .ok (.aload_n 0, 1) := by decide +kernel
theorem d_Ce_nil_5 : decode b_Ce_nil 5 = .ok (.getfield 10, 3) := by decide +kernel
theorem d_Ce_nil_8 : decode b_Ce_nil 8 = .ok (.getfield 41, 3) := by decide +kernel
theorem d_Ce_nil_11 : decode b_Ce_nil 11 = .ok (.iload_n 1, 1) := by decide +kernel
theorem d_Ce_nil_12 : decode b_Ce_nil 12 = .ok (.iconst 0, 1) := by decide +kernel
theorem d_Ce_nil_13 : decode b_Ce_nil 13 = .ok (.iastore, 1) := by decide +kernel
theorem d_Ce_nil_14 : decode b_Ce_nil 14 = .ok (.return_, 1) := by decide +kernel
/-! Ce_load: ('CellHeap', 'load', '(IJ)I') -/
abbrev b_Ce_load : ByteArray := prog_1_method_3_code
abbrev y_Ce_load : MethodName := ⟨R_Ce, "load", "(IJ)I"⟩
abbrev K_Ce_load := CanI y_Ce_load b_Ce_load 4 ((some .int)) 11 0 0
theorem I_Ce_load {h : HP} {v1 : Int32} {v2 : Int64} {Φ : Int32 → HP → Prop} (body : ∀ X : CX, Cok X b_Ce_load 4 R_Ce ((some .int)) → xR X = rml 11 0 0 → Qok X 0 0 (fun r h2 => ∃ v, r = some (.int v) ∧ Φ v h2) → Wg X 0 0 h [(0, .ref 14), (1, .int v1), (2, .long v2)] [] 0) : K_Ce_load [.ref 14, .int v1, .long v2] h Φ := Can.intro (by decide) (fun _ => Nat.le_of_ble_eq_true rfl) body
theorem M_Ce_load : Mv y_Ce_load b_Ce_load 4 ((some .int)) 2 7 := ⟨wx_in 437 (by decide +kernel) rfl, wx_in 435 (by decide +kernel) rfl, wx_in 436 (by decide +kernel) rfl, wx_in 65 (by decide +kernel) rfl, by decide +kernel, by decide, by decide, _, _, rfl⟩
theorem d_Ce_load_0 : decode b_Ce_load 0 = .ok (.iload_n 1, 1) := by decide +kernel
theorem d_Ce_load_1 : decode b_Ce_load 1 = .ok (.invokestatic 37, 3) := by decide +kernel
theorem d_Ce_load_4 : decode b_Ce_load 4 = .ok (.aload_n 0, 1) := by decide +kernel
theorem d_Ce_load_5 : decode b_Ce_load 5 = .ok (.getfield 26, 3) := by decide +kernel
theorem d_Ce_load_8 : decode b_Ce_load 8 = .ok (.getfield 45, 3) := by decide +kernel
theorem d_Ce_load_11 : decode b_Ce_load 11 = .ok (.lload_n 2, 1) := by decide +kernel
theorem d_Ce_load_12 : decode b_Ce_load 12 = .ok (.invokevirtual 49, 3) := by decide +kernel
theorem d_Ce_load_15 : decode b_Ce_load 15 = .ok (.aload_n 0, 1) := by decide +kernel
theorem d_Ce_load_16 : decode b_Ce_load 16 = .ok (.iload_n 1, 1) := by decide +kernel
theorem d_Ce_load_17 : decode b_Ce_load 17 = .ok (.invokevirtual 55, 3) := by decide +kernel
theorem d_Ce_load_20 : decode b_Ce_load 20 = .ok (.ireturn, 1) := by decide +kernel
/-! Ce_copy: ('CellHeap', 'copy', '(II)V') -/
abbrev b_Ce_copy : ByteArray := prog_1_method_4_code
abbrev y_Ce_copy : MethodName := ⟨R_Ce, "copy", "(II)V"⟩
abbrev K_Ce_copy := CanV y_Ce_copy b_Ce_copy 3 none 11 0 0
theorem I_Ce_copy {h : HP} {v1 : Int32} {v2 : Int32} {Φ : HP → Prop} (body : ∀ X : CX, Cok X b_Ce_copy 3 R_Ce none → xR X = rml 11 0 0 → Qok X 0 0 (fun r h2 => r = none ∧ Φ h2) → Wg X 0 0 h [(0, .ref 14), (1, .int v1), (2, .int v2)] [] 0) : K_Ce_copy [.ref 14, .int v1, .int v2] h Φ := Can.intro (by decide) (fun _ => Nat.le_of_ble_eq_true rfl) body
theorem M_Ce_copy : Mv y_Ce_copy b_Ce_copy 3 none 2 7 := ⟨wx_in 505 (by decide +kernel) rfl, wx_in 503 (by decide +kernel) rfl, wx_in 504 (by decide +kernel) rfl, wx_in 65 (by decide +kernel) rfl, by decide +kernel, by decide, by decide, _, _, rfl⟩
theorem d_Ce_copy_0 : decode b_Ce_copy 0 = .ok (.iload_n 1, 1) := by decide +kernel
theorem d_Ce_copy_1 : decode b_Ce_copy 1 = .ok (.invokestatic 37, 3) := by decide +kernel
theorem d_Ce_copy_4 : decode b_Ce_copy 4 = .ok (.iload_n 2, 1) := by decide +kernel
theorem d_Ce_copy_5 : decode b_Ce_copy 5 = .ok (.invokestatic 37, 3) := by decide +kernel
theorem d_Ce_copy_8 : decode b_Ce_copy 8 = .ok (.aload_n 0, 1) := by decide +kernel
theorem d_Ce_copy_9 : decode b_Ce_copy 9 = .ok (.getfield 10, 3) := by decide +kernel
theorem d_Ce_copy_12 : decode b_Ce_copy 12 = .ok (.getfield 41, 3) := by decide +kernel
theorem d_Ce_copy_15 : decode b_Ce_copy 15 = .ok (.iload_n 1, 1) := by decide +kernel
theorem d_Ce_copy_16 : decode b_Ce_copy 16 = .ok (.aload_n 0, 1) := by decide +kernel
theorem d_Ce_copy_17 : decode b_Ce_copy 17 = .ok (.getfield 10, 3) := by decide +kernel
theorem d_Ce_copy_20 : decode b_Ce_copy 20 = .ok (.getfield 41, 3) := by decide +kernel
theorem d_Ce_copy_23 : decode b_Ce_copy 23 = .ok (.iload_n 2, 1) := by decide +kernel
theorem d_Ce_copy_24 : decode b_Ce_copy 24 = .ok (.iaload, 1) := by decide +kernel
theorem d_Ce_copy_25 : decode b_Ce_copy 25 = .ok (.iastore, 1) := by decide +kernel
theorem d_Ce_copy_26 : decode b_Ce_copy 26 = .ok (.return_, 1) := by decide +kernel
/-! Ce_cons: ('CellHeap', 'cons', '(III)I') -/
abbrev b_Ce_cons : ByteArray := prog_1_method_5_code
abbrev y_Ce_cons : MethodName := ⟨R_Ce, "cons", "(III)I"⟩
abbrev K_Ce_cons := CanI y_Ce_cons b_Ce_cons 5 ((some .int)) 11 0 0
theorem I_Ce_cons {h : HP} {v1 : Int32} {v2 : Int32} {v3 : Int32} {Φ : Int32 → HP → Prop} (body : ∀ X : CX, Cok X b_Ce_cons 5 R_Ce ((some .int)) → xR X = rml 11 0 0 → Qok X 0 0 (fun r h2 => ∃ v, r = some (.int v) ∧ Φ v h2) → Wg X 0 0 h [(0, .ref 14), (1, .int v1), (2, .int v2), (3, .int v3)] [] 0) : K_Ce_cons [.ref 14, .int v1, .int v2, .int v3] h Φ := Can.intro (by decide) (fun _ => Nat.le_of_ble_eq_true rfl) body
theorem M_Ce_cons : Mv y_Ce_cons b_Ce_cons 5 ((some .int)) 3 7 := ⟨wx_in 512 (by decide +kernel) rfl, wx_in 510 (by decide +kernel) rfl, wx_in 511 (by decide +kernel) rfl, wx_in 65 (by decide +kernel) rfl, by decide +kernel, by decide, by decide, _, _, rfl⟩
theorem d_Ce_cons_0 : decode b_Ce_cons 0 = .ok (.iload_n 1, 1) := by decide +kernel
theorem d_Ce_cons_1 : decode b_Ce_cons 1 = .ok (.invokestatic 37, 3) := by decide +kernel
theorem d_Ce_cons_4 : decode b_Ce_cons 4 = .ok (.iload_n 2, 1) := by decide +kernel
theorem d_Ce_cons_5 : decode b_Ce_cons 5 = .ok (.invokestatic 37, 3) := by decide +kernel
theorem d_Ce_cons_8 : decode b_Ce_cons 8 = .ok (.iload_n 3, 1) := by decide +kernel
theorem d_Ce_cons_9 : decode b_Ce_cons 9 = .ok (.invokestatic 37, 3) := by decide +kernel
theorem d_Ce_cons_12 : decode b_Ce_cons 12 = .ok (.aload_n 0, 1) := by decide +kernel
theorem d_Ce_cons_13 : decode b_Ce_cons 13 = .ok (.getfield 10, 3) := by decide +kernel
theorem d_Ce_cons_16 : decode b_Ce_cons 16 = .ok (.iconst 3, 1) := by decide +kernel
theorem d_Ce_cons_17 : decode b_Ce_cons 17 = .ok (.invokevirtual 59, 3) := by decide +kernel
theorem d_Ce_cons_20 : decode b_Ce_cons 20 = .ok (.ifCond .ne 6, 3) := by decide +kernel
theorem d_Ce_cons_23 : decode b_Ce_cons 23 = .ok (.bipush (-2), 2) := by decide +kernel
theorem d_Ce_cons_25 : decode b_Ce_cons 25 = .ok (.ireturn, 1) := by decide +kernel
theorem d_Ce_cons_26 : decode b_Ce_cons 26 = .ok (.aload_n 0, 1) := by decide +kernel
theorem d_Ce_cons_27 : decode b_Ce_cons 27 = .ok (.getfield 10, 3) := by decide +kernel
theorem d_Ce_cons_30 : decode b_Ce_cons 30 = .ok (.iconst 4, 1) := by decide +kernel
theorem d_Ce_cons_31 : decode b_Ce_cons 31 = .ok (.aload_n 0, 1) := by decide +kernel
theorem d_Ce_cons_32 : decode b_Ce_cons 32 = .ok (.getfield 10, 3) := by decide +kernel
theorem d_Ce_cons_35 : decode b_Ce_cons 35 = .ok (.getfield 41, 3) := by decide +kernel
theorem d_Ce_cons_38 : decode b_Ce_cons 38 = .ok (.iload_n 2, 1) := by decide +kernel
theorem d_Ce_cons_39 : decode b_Ce_cons 39 = .ok (.iaload, 1) := by decide +kernel
theorem d_Ce_cons_40 : decode b_Ce_cons 40 = .ok (.aload_n 0, 1) := by decide +kernel
theorem d_Ce_cons_41 : decode b_Ce_cons 41 = .ok (.getfield 10, 3) := by decide +kernel
theorem d_Ce_cons_44 : decode b_Ce_cons 44 = .ok (.getfield 41, 3) := by decide +kernel
theorem d_Ce_cons_47 : decode b_Ce_cons 47 = .ok (.iload_n 3, 1) := by decide +kernel
theorem d_Ce_cons_48 : decode b_Ce_cons 48 = .ok (.iaload, 1) := by decide +kernel
theorem d_Ce_cons_49 : decode b_Ce_cons 49 = .ok (.invokevirtual 63, 3) := by decide +kernel
theorem d_Ce_cons_52 : decode b_Ce_cons 52 = .ok (.istore 4, 2) := by decide +kernel
theorem d_Ce_cons_54 : decode b_Ce_cons 54 = .ok (.aload_n 0, 1) := by decide +kernel
theorem d_Ce_cons_55 : decode b_Ce_cons 55 = .ok (.getfield 10, 3) := by decide +kernel
theorem d_Ce_cons_58 : decode b_Ce_cons 58 = .ok (.getfield 41, 3) := by decide +kernel
theorem d_Ce_cons_61 : decode b_Ce_cons 61 = .ok (.iload_n 1, 1) := by decide +kernel
theorem d_Ce_cons_62 : decode b_Ce_cons 62 = .ok (.iload 4, 2) := by decide +kernel
theorem d_Ce_cons_64 : decode b_Ce_cons 64 = .ok (.iastore, 1) := by decide +kernel
theorem d_Ce_cons_65 : decode b_Ce_cons 65 = .ok (.iload 4, 2) := by decide +kernel
theorem d_Ce_cons_67 : decode b_Ce_cons 67 = .ok (.invokestatic 67, 3) := by decide +kernel
theorem d_Ce_cons_70 : decode b_Ce_cons 70 = .ok (.ireturn, 1) := by decide +kernel
/-! Ce_part: ('CellHeap', 'part', '(IIZ)I') -/
abbrev b_Ce_part : ByteArray := prog_1_method_6_code
abbrev y_Ce_part : MethodName := ⟨R_Ce, "part", "(IIZ)I"⟩
abbrev K_Ce_part := CanI y_Ce_part b_Ce_part 5 ((some .int)) 11 0 0
theorem I_Ce_part {h : HP} {v1 : Int32} {v2 : Int32} {v3 : Int32} {Φ : Int32 → HP → Prop} (body : ∀ X : CX, Cok X b_Ce_part 5 R_Ce ((some .int)) → xR X = rml 11 0 0 → Qok X 0 0 (fun r h2 => ∃ v, r = some (.int v) ∧ Φ v h2) → Wg X 0 0 h [(0, .ref 14), (1, .int v1), (2, .int v2), (3, .int v3)] [] 0) : K_Ce_part [.ref 14, .int v1, .int v2, .int v3] h Φ := Can.intro (by decide) (fun _ => Nat.le_of_ble_eq_true rfl) body
theorem M_Ce_part : Mv y_Ce_part b_Ce_part 5 ((some .int)) 3 7 := ⟨wx_in 521 (by decide +kernel) rfl, wx_in 519 (by decide +kernel) rfl, wx_in 520 (by decide +kernel) rfl, wx_in 65 (by decide +kernel) rfl, by decide +kernel, by decide, by decide, _, _, rfl⟩
theorem d_Ce_part_0 : decode b_Ce_part 0 = .ok (.iload_n 1, 1) := by decide +kernel
theorem d_Ce_part_1 : decode b_Ce_part 1 = .ok (.invokestatic 37, 3) := by decide +kernel
theorem d_Ce_part_4 : decode b_Ce_part 4 = .ok (.iload_n 2, 1) := by decide +kernel
theorem d_Ce_part_5 : decode b_Ce_part 5 = .ok (.invokestatic 37, 3) := by decide +kernel
theorem d_Ce_part_8 : decode b_Ce_part 8 = .ok (.aload_n 0, 1) := by decide +kernel
theorem d_Ce_part_9 : decode b_Ce_part 9 = .ok (.getfield 10, 3) := by decide +kernel
theorem d_Ce_part_12 : decode b_Ce_part 12 = .ok (.getfield 41, 3) := by decide +kernel
theorem d_Ce_part_15 : decode b_Ce_part 15 = .ok (.iload_n 2, 1) := by decide +kernel
theorem d_Ce_part_16 : decode b_Ce_part 16 = .ok (.iaload, 1) := by decide +kernel
theorem d_Ce_part_17 : decode b_Ce_part 17 = .ok (.istore 4, 2) := by decide +kernel
theorem d_Ce_part_19 : decode b_Ce_part 19 = .ok (.aload_n 0, 1) := by decide +kernel
theorem d_Ce_part_20 : decode b_Ce_part 20 = .ok (.getfield 10, 3) := by decide +kernel
theorem d_Ce_part_23 : decode b_Ce_part 23 = .ok (.iload 4, 2) := by decide +kernel
theorem d_Ce_part_25 : decode b_Ce_part 25 = .ok (.invokevirtual 70, 3) := by decide +kernel
theorem d_Ce_part_28 : decode b_Ce_part 28 = .ok (.iconst 4, 1) := by decide +kernel
theorem d_Ce_part_29 : decode b_Ce_part 29 = .ok (.if_icmp .eq 6, 3) := by decide +kernel
theorem d_Ce_part_32 : decode b_Ce_part 32 = .ok (.bipush (-4), 2) := by decide +kernel
theorem d_Ce_part_34 : decode b_Ce_part 34 = .ok (.ireturn, 1) := by decide +kernel
theorem d_Ce_part_35 : decode b_Ce_part 35 = .ok (.aload_n 0, 1) := by decide +kernel
theorem d_Ce_part_36 : decode b_Ce_part 36 = .ok (.getfield 10, 3) := by decide +kernel
theorem d_Ce_part_39 : decode b_Ce_part 39 = .ok (.getfield 41, 3) := by decide +kernel
theorem d_Ce_part_42 : decode b_Ce_part 42 = .ok (.iload_n 1, 1) := by decide +kernel
theorem d_Ce_part_43 : decode b_Ce_part 43 = .ok (.iload_n 3, 1) := by decide +kernel
theorem d_Ce_part_44 : decode b_Ce_part 44 = .ok (.ifCond .eq 15, 3) := by decide +kernel
theorem d_Ce_part_47 : decode b_Ce_part 47 = .ok (.aload_n 0, 1) := by decide +kernel
theorem d_Ce_part_48 : decode b_Ce_part 48 = .ok (.getfield 10, 3) := by decide +kernel
theorem d_Ce_part_51 : decode b_Ce_part 51 = .ok (.iload 4, 2) := by decide +kernel
theorem d_Ce_part_53 : decode b_Ce_part 53 = .ok (.invokevirtual 73, 3) := by decide +kernel
theorem d_Ce_part_56 : decode b_Ce_part 56 = .ok (.goto 12, 3) := by decide +kernel
theorem d_Ce_part_59 : decode b_Ce_part 59 = .ok (.aload_n 0, 1) := by decide +kernel
theorem d_Ce_part_60 : decode b_Ce_part 60 = .ok (.getfield 10, 3) := by decide +kernel
theorem d_Ce_part_63 : decode b_Ce_part 63 = .ok (.iload 4, 2) := by decide +kernel
theorem d_Ce_part_65 : decode b_Ce_part 65 = .ok (.invokevirtual 76, 3) := by decide +kernel
theorem d_Ce_part_68 : decode b_Ce_part 68 = .ok (.iastore, 1) := by decide +kernel
theorem d_Ce_part_69 : decode b_Ce_part 69 = .ok (.iconst 0, 1) := by decide +kernel
theorem d_Ce_part_70 : decode b_Ce_part 70 = .ok (.ireturn, 1) := by decide +kernel
/-! Ce_change: ('CellHeap', 'change', '(IZI)I') -/
abbrev b_Ce_change : ByteArray := prog_1_method_7_code
abbrev y_Ce_change : MethodName := ⟨R_Ce, "change", "(IZI)I"⟩
abbrev K_Ce_change := CanI y_Ce_change b_Ce_change 5 ((some .int)) 11 0 0
theorem I_Ce_change {h : HP} {v1 : Int32} {v2 : Int32} {v3 : Int32} {Φ : Int32 → HP → Prop} (body : ∀ X : CX, Cok X b_Ce_change 5 R_Ce ((some .int)) → xR X = rml 11 0 0 → Qok X 0 0 (fun r h2 => ∃ v, r = some (.int v) ∧ Φ v h2) → Wg X 0 0 h [(0, .ref 14), (1, .int v1), (2, .int v2), (3, .int v3)] [] 0) : K_Ce_change [.ref 14, .int v1, .int v2, .int v3] h Φ := Can.intro (by decide) (fun _ => Nat.le_of_ble_eq_true rfl) body
theorem M_Ce_change : Mv y_Ce_change b_Ce_change 5 ((some .int)) 3 7 := ⟨wx_in 540 (by decide +kernel) rfl, wx_in 538 (by decide +kernel) rfl, wx_in 539 (by decide +kernel) rfl, wx_in 65 (by decide +kernel) rfl, by decide +kernel, by decide, by decide, _, _, rfl⟩
theorem d_Ce_change_0 : decode b_Ce_change 0 = .ok (.iload_n 1, 1) := by decide +kernel
theorem d_Ce_change_1 : decode b_Ce_change 1 = .ok (.invokestatic 37, 3) := by decide +kernel
theorem d_Ce_change_4 : decode b_Ce_change 4 = .ok (.iload_n 3, 1) := by decide +kernel
theorem d_Ce_change_5 : decode b_Ce_change 5 = .ok (.invokestatic 37, 3) := by decide +kernel
theorem d_Ce_change_8 : decode b_Ce_change 8 = .ok (.aload_n 0, 1) := by decide +kernel
theorem d_Ce_change_9 : decode b_Ce_change 9 = .ok (.getfield 10, 3) := by decide +kernel
theorem d_Ce_change_12 : decode b_Ce_change 12 = .ok (.getfield 41, 3) := by decide +kernel
theorem d_Ce_change_15 : decode b_Ce_change 15 = .ok (.iload_n 1, 1) := by decide +kernel
theorem d_Ce_change_16 : decode b_Ce_change 16 = .ok (.iaload, 1) := by decide +kernel
theorem d_Ce_change_17 : decode b_Ce_change 17 = .ok (.istore 4, 2) := by decide +kernel
theorem d_Ce_change_19 : decode b_Ce_change 19 = .ok (.aload_n 0, 1) := by decide +kernel
theorem d_Ce_change_20 : decode b_Ce_change 20 = .ok (.getfield 10, 3) := by decide +kernel
theorem d_Ce_change_23 : decode b_Ce_change 23 = .ok (.iload 4, 2) := by decide +kernel
theorem d_Ce_change_25 : decode b_Ce_change 25 = .ok (.invokevirtual 70, 3) := by decide +kernel
theorem d_Ce_change_28 : decode b_Ce_change 28 = .ok (.iconst 4, 1) := by decide +kernel
theorem d_Ce_change_29 : decode b_Ce_change 29 = .ok (.if_icmp .eq 6, 3) := by decide +kernel
theorem d_Ce_change_32 : decode b_Ce_change 32 = .ok (.bipush (-4), 2) := by decide +kernel
theorem d_Ce_change_34 : decode b_Ce_change 34 = .ok (.ireturn, 1) := by decide +kernel
theorem d_Ce_change_35 : decode b_Ce_change 35 = .ok (.aload_n 0, 1) := by decide +kernel
theorem d_Ce_change_36 : decode b_Ce_change 36 = .ok (.getfield 10, 3) := by decide +kernel
theorem d_Ce_change_39 : decode b_Ce_change 39 = .ok (.getfield 79, 3) := by decide +kernel
theorem d_Ce_change_42 : decode b_Ce_change 42 = .ok (.iload 4, 2) := by decide +kernel
theorem d_Ce_change_44 : decode b_Ce_change 44 = .ok (.invokestatic 67, 3) := by decide +kernel
theorem d_Ce_change_47 : decode b_Ce_change 47 = .ok (.iload_n 2, 1) := by decide +kernel
theorem d_Ce_change_48 : decode b_Ce_change 48 = .ok (.ifCond .eq 7, 3) := by decide +kernel
theorem d_Ce_change_51 : decode b_Ce_change 51 = .ok (.iconst 1, 1) := by decide +kernel
theorem d_Ce_change_52 : decode b_Ce_change 52 = .ok (.goto 4, 3) := by decide +kernel
theorem d_Ce_change_55 : decode b_Ce_change 55 = .ok (.iconst 2, 1) := by decide +kernel
theorem d_Ce_change_56 : decode b_Ce_change 56 = .ok (.iadd, 1) := by decide +kernel
theorem d_Ce_change_57 : decode b_Ce_change 57 = .ok (.aload_n 0, 1) := by decide +kernel
theorem d_Ce_change_58 : decode b_Ce_change 58 = .ok (.getfield 10, 3) := by decide +kernel
theorem d_Ce_change_61 : decode b_Ce_change 61 = .ok (.getfield 41, 3) := by decide +kernel
theorem d_Ce_change_64 : decode b_Ce_change 64 = .ok (.iload_n 3, 1) := by decide +kernel
theorem d_Ce_change_65 : decode b_Ce_change 65 = .ok (.iaload, 1) := by decide +kernel
theorem d_Ce_change_66 : decode b_Ce_change 66 = .ok (.iastore, 1) := by decide +kernel
theorem d_Ce_change_67 : decode b_Ce_change 67 = .ok (.iconst 0, 1) := by decide +kernel
theorem d_Ce_change_68 : decode b_Ce_change 68 = .ok (.ireturn, 1) := by decide +kernel
/-! Ce_work: ('CellHeap', 'work', '(IIII)I') -/
abbrev b_Ce_work : ByteArray := prog_1_method_8_code
abbrev y_Ce_work : MethodName := ⟨R_Ce, "work", "(IIII)I"⟩
abbrev K_Ce_work := CanI y_Ce_work b_Ce_work 7 ((some .int)) 13 0 0
theorem I_Ce_work {h : HP} {v1 : Int32} {v2 : Int32} {v3 : Int32} {v4 : Int32} {Φ : Int32 → HP → Prop} (body : ∀ X : CX, Cok X b_Ce_work 7 R_Ce ((some .int)) → xR X = rml 13 0 0 → Qok X 0 0 (fun r h2 => ∃ v, r = some (.int v) ∧ Φ v h2) → Wg X 0 0 h [(0, .ref 14), (1, .int v1), (2, .int v2), (3, .int v3), (4, .int v4)] [] 0) : K_Ce_work [.ref 14, .int v1, .int v2, .int v3, .int v4] h Φ := Can.intro (by decide) (fun _ => Nat.le_of_ble_eq_true rfl) body
theorem M_Ce_work : Mv y_Ce_work b_Ce_work 7 ((some .int)) 4 7 := ⟨wx_in 547 (by decide +kernel) rfl, wx_in 545 (by decide +kernel) rfl, wx_in 546 (by decide +kernel) rfl, wx_in 65 (by decide +kernel) rfl, by decide +kernel, by decide, by decide, _, _, rfl⟩
theorem d_Ce_work_0 : decode b_Ce_work 0 = .ok (.iload_n 1, 1) := by decide +kernel
theorem d_Ce_work_1 : decode b_Ce_work 1 = .ok (.invokestatic 37, 3) := by decide +kernel
theorem d_Ce_work_4 : decode b_Ce_work 4 = .ok (.iload_n 2, 1) := by decide +kernel
theorem d_Ce_work_5 : decode b_Ce_work 5 = .ok (.invokestatic 37, 3) := by decide +kernel
theorem d_Ce_work_8 : decode b_Ce_work 8 = .ok (.iload_n 3, 1) := by decide +kernel
theorem d_Ce_work_9 : decode b_Ce_work 9 = .ok (.invokestatic 37, 3) := by decide +kernel
theorem d_Ce_work_12 : decode b_Ce_work 12 = .ok (.iload 4, 2) := by decide +kernel
theorem d_Ce_work_14 : decode b_Ce_work 14 = .ok (.bipush 6, 2) := by decide +kernel
theorem d_Ce_work_16 : decode b_Ce_work 16 = .ok (.invokestatic 82, 3) := by decide +kernel
theorem d_Ce_work_19 : decode b_Ce_work 19 = .ok (.iload 4, 2) := by decide +kernel
theorem d_Ce_work_21 : decode b_Ce_work 21 = .ok (.iconst 4, 1) := by decide +kernel
theorem d_Ce_work_22 : decode b_Ce_work 22 = .ok (.if_icmp .lt 7, 3) := by decide +kernel
theorem d_Ce_work_25 : decode b_Ce_work 25 = .ok (.iconst 1, 1) := by decide +kernel
theorem d_Ce_work_26 : decode b_Ce_work 26 = .ok (.goto 4, 3) := by decide +kernel
theorem d_Ce_work_29 : decode b_Ce_work 29 = .ok (.iconst 0, 1) := by decide +kernel
theorem d_Ce_work_30 : decode b_Ce_work 30 = .ok (.istore 5, 2) := by decide +kernel
theorem d_Ce_work_32 : decode b_Ce_work 32 = .ok (.aload_n 0, 1) := by decide +kernel
theorem d_Ce_work_33 : decode b_Ce_work 33 = .ok (.iload_n 2, 1) := by decide +kernel
theorem d_Ce_work_34 : decode b_Ce_work 34 = .ok (.iload 5, 2) := by decide +kernel
theorem d_Ce_work_36 : decode b_Ce_work 36 = .ok (.invokevirtual 86, 3) := by decide +kernel
theorem d_Ce_work_39 : decode b_Ce_work 39 = .ok (.ifCond .eq 13, 3) := by decide +kernel
theorem d_Ce_work_42 : decode b_Ce_work 42 = .ok (.aload_n 0, 1) := by decide +kernel
theorem d_Ce_work_43 : decode b_Ce_work 43 = .ok (.iload_n 3, 1) := by decide +kernel
theorem d_Ce_work_44 : decode b_Ce_work 44 = .ok (.iload 5, 2) := by decide +kernel
theorem d_Ce_work_46 : decode b_Ce_work 46 = .ok (.invokevirtual 86, 3) := by decide +kernel
theorem d_Ce_work_49 : decode b_Ce_work 49 = .ok (.ifCond .ne 6, 3) := by decide +kernel
theorem d_Ce_work_52 : decode b_Ce_work 52 = .ok (.bipush (-4), 2) := by decide +kernel
theorem d_Ce_work_54 : decode b_Ce_work 54 = .ok (.ireturn, 1) := by decide +kernel
theorem d_Ce_work_55 : decode b_Ce_work 55 = .ok (.aload_n 0, 1) := by decide +kernel
theorem d_Ce_work_56 : decode b_Ce_work 56 = .ok (.getfield 10, 3) := by decide +kernel
theorem d_Ce_work_59 : decode b_Ce_work 59 = .ok (.aload_n 0, 1) := by decide +kernel
theorem d_Ce_work_60 : decode b_Ce_work 60 = .ok (.getfield 10, 3) := by decide +kernel
theorem d_Ce_work_63 : decode b_Ce_work 63 = .ok (.getfield 41, 3) := by decide +kernel
theorem d_Ce_work_66 : decode b_Ce_work 66 = .ok (.iload_n 2, 1) := by decide +kernel
theorem d_Ce_work_67 : decode b_Ce_work 67 = .ok (.iaload, 1) := by decide +kernel
theorem d_Ce_work_68 : decode b_Ce_work 68 = .ok (.aload_n 0, 1) := by decide +kernel
theorem d_Ce_work_69 : decode b_Ce_work 69 = .ok (.getfield 26, 3) := by decide +kernel
theorem d_Ce_work_72 : decode b_Ce_work 72 = .ok (.getfield 90, 3) := by decide +kernel
theorem d_Ce_work_75 : decode b_Ce_work 75 = .ok (.invokevirtual 93, 3) := by decide +kernel
theorem d_Ce_work_78 : decode b_Ce_work 78 = .ok (.aload_n 0, 1) := by decide +kernel
theorem d_Ce_work_79 : decode b_Ce_work 79 = .ok (.getfield 10, 3) := by decide +kernel
theorem d_Ce_work_82 : decode b_Ce_work 82 = .ok (.aload_n 0, 1) := by decide +kernel
theorem d_Ce_work_83 : decode b_Ce_work 83 = .ok (.getfield 10, 3) := by decide +kernel
theorem d_Ce_work_86 : decode b_Ce_work 86 = .ok (.getfield 41, 3) := by decide +kernel
theorem d_Ce_work_89 : decode b_Ce_work 89 = .ok (.iload_n 3, 1) := by decide +kernel
theorem d_Ce_work_90 : decode b_Ce_work 90 = .ok (.iaload, 1) := by decide +kernel
theorem d_Ce_work_91 : decode b_Ce_work 91 = .ok (.aload_n 0, 1) := by decide +kernel
theorem d_Ce_work_92 : decode b_Ce_work 92 = .ok (.getfield 26, 3) := by decide +kernel
theorem d_Ce_work_95 : decode b_Ce_work 95 = .ok (.getfield 97, 3) := by decide +kernel
theorem d_Ce_work_98 : decode b_Ce_work 98 = .ok (.invokevirtual 93, 3) := by decide +kernel
theorem d_Ce_work_101 : decode b_Ce_work 101 = .ok (.iload 4, 2) := by decide +kernel
theorem d_Ce_work_103 : decode b_Ce_work 103 = .ok (.iconst 3, 1) := by decide +kernel
theorem d_Ce_work_104 : decode b_Ce_work 104 = .ok (.if_icmp .eq 15, 3) := by decide +kernel
theorem d_Ce_work_107 : decode b_Ce_work 107 = .ok (.iload 4, 2) := by decide +kernel
theorem d_Ce_work_109 : decode b_Ce_work 109 = .ok (.iconst 4, 1) := by decide +kernel
theorem d_Ce_work_110 : decode b_Ce_work 110 = .ok (.if_icmp .eq 9, 3) := by decide +kernel
theorem d_Ce_work_113 : decode b_Ce_work 113 = .ok (.iload 4, 2) := by decide +kernel
theorem d_Ce_work_115 : decode b_Ce_work 115 = .ok (.iconst 5, 1) := by decide +kernel
theorem d_Ce_work_116 : decode b_Ce_work 116 = .ok (.if_icmp .ne 7, 3) := by decide +kernel
theorem d_Ce_work_119 : decode b_Ce_work 119 = .ok (.iconst 1, 1) := by decide +kernel
theorem d_Ce_work_120 : decode b_Ce_work 120 = .ok (.goto 4, 3) := by decide +kernel
theorem d_Ce_work_123 : decode b_Ce_work 123 = .ok (.iconst 0, 1) := by decide +kernel
theorem d_Ce_work_124 : decode b_Ce_work 124 = .ok (.istore 6, 2) := by decide +kernel
theorem d_Ce_work_126 : decode b_Ce_work 126 = .ok (.iload 6, 2) := by decide +kernel
theorem d_Ce_work_128 : decode b_Ce_work 128 = .ok (.ifCond .eq 22, 3) := by decide +kernel
theorem d_Ce_work_131 : decode b_Ce_work 131 = .ok (.aload_n 0, 1) := by decide +kernel
theorem d_Ce_work_132 : decode b_Ce_work 132 = .ok (.getfield 26, 3) := by decide +kernel
theorem d_Ce_work_135 : decode b_Ce_work 135 = .ok (.getfield 97, 3) := by decide +kernel
theorem d_Ce_work_138 : decode b_Ce_work 138 = .ok (.getfield 100, 3) := by decide +kernel
theorem d_Ce_work_141 : decode b_Ce_work 141 = .ok (.invokevirtual 104, 3) := by decide +kernel
theorem d_Ce_work_144 : decode b_Ce_work 144 = .ok (.ifCond .eq 6, 3) := by decide +kernel
theorem d_Ce_work_147 : decode b_Ce_work 147 = .ok (.bipush (-5), 2) := by decide +kernel
theorem d_Ce_work_149 : decode b_Ce_work 149 = .ok (.ireturn, 1) := by decide +kernel
theorem d_Ce_work_150 : decode b_Ce_work 150 = .ok (.iload 5, 2) := by decide +kernel
theorem d_Ce_work_152 : decode b_Ce_work 152 = .ok (.ifCond .eq 15, 3) := by decide +kernel
theorem d_Ce_work_155 : decode b_Ce_work 155 = .ok (.aload_n 0, 1) := by decide +kernel
theorem d_Ce_work_156 : decode b_Ce_work 156 = .ok (.getfield 26, 3) := by decide +kernel
theorem d_Ce_work_159 : decode b_Ce_work 159 = .ok (.iload 4, 2) := by decide +kernel
theorem d_Ce_work_161 : decode b_Ce_work 161 = .ok (.invokevirtual 110, 3) := by decide +kernel
theorem d_Ce_work_164 : decode b_Ce_work 164 = .ok (.goto 19, 3) := by decide +kernel
theorem d_Ce_work_167 : decode b_Ce_work 167 = .ok (.aload_n 0, 1) := by decide +kernel
theorem d_Ce_work_168 : decode b_Ce_work 168 = .ok (.getfield 26, 3) := by decide +kernel
theorem d_Ce_work_171 : decode b_Ce_work 171 = .ok (.iload 4, 2) := by decide +kernel
theorem d_Ce_work_173 : decode b_Ce_work 173 = .ok (.invokevirtual 113, 3) := by decide +kernel
theorem d_Ce_work_176 : decode b_Ce_work 176 = .ok (.aload_n 0, 1) := by decide +kernel
theorem d_Ce_work_177 : decode b_Ce_work 177 = .ok (.getfield 26, 3) := by decide +kernel
theorem d_Ce_work_180 : decode b_Ce_work 180 = .ok (.invokevirtual 116, 3) := by decide +kernel
theorem d_Ce_work_183 : decode b_Ce_work 183 = .ok (.aload_n 0, 1) := by decide +kernel
theorem d_Ce_work_184 : decode b_Ce_work 184 = .ok (.iload_n 1, 1) := by decide +kernel
theorem d_Ce_work_185 : decode b_Ce_work 185 = .ok (.invokevirtual 55, 3) := by decide +kernel
theorem d_Ce_work_188 : decode b_Ce_work 188 = .ok (.ireturn, 1) := by decide +kernel
/-! Ce_compare: ('CellHeap', 'compare', '(II)I') -/
abbrev b_Ce_compare : ByteArray := prog_1_method_9_code
abbrev y_Ce_compare : MethodName := ⟨R_Ce, "compare", "(II)I"⟩
abbrev K_Ce_compare := CanI y_Ce_compare b_Ce_compare 3 ((some .int)) 13 0 0
theorem I_Ce_compare {h : HP} {v1 : Int32} {v2 : Int32} {Φ : Int32 → HP → Prop} (body : ∀ X : CX, Cok X b_Ce_compare 3 R_Ce ((some .int)) → xR X = rml 13 0 0 → Qok X 0 0 (fun r h2 => ∃ v, r = some (.int v) ∧ Φ v h2) → Wg X 0 0 h [(0, .ref 14), (1, .int v1), (2, .int v2)] [] 0) : K_Ce_compare [.ref 14, .int v1, .int v2] h Φ := Can.intro (by decide) (fun _ => Nat.le_of_ble_eq_true rfl) body
theorem M_Ce_compare : Mv y_Ce_compare b_Ce_compare 3 ((some .int)) 2 7 := ⟨wx_in 938 (by decide +kernel) rfl, wx_in 936 (by decide +kernel) rfl, wx_in 937 (by decide +kernel) rfl, wx_in 65 (by decide +kernel) rfl, by decide +kernel, by decide, by decide, _, _, rfl⟩
theorem d_Ce_compare_0 : decode b_Ce_compare 0 = .ok (.iload_n 1, 1) := by decide +kernel
theorem d_Ce_compare_1 : decode b_Ce_compare 1 = .ok (.invokestatic 37, 3) := by decide +kernel
theorem d_Ce_compare_4 : decode b_Ce_compare 4 = .ok (.iload_n 2, 1) := by decide +kernel
theorem d_Ce_compare_5 : decode b_Ce_compare 5 = .ok (.invokestatic 37, 3) := by decide +kernel
theorem d_Ce_compare_8 : decode b_Ce_compare 8 = .ok (.aload_n 0, 1) := by decide +kernel
theorem d_Ce_compare_9 : decode b_Ce_compare 9 = .ok (.iload_n 1, 1) := by decide +kernel
theorem d_Ce_compare_10 : decode b_Ce_compare 10 = .ok (.iconst 0, 1) := by decide +kernel
theorem d_Ce_compare_11 : decode b_Ce_compare 11 = .ok (.invokevirtual 86, 3) := by decide +kernel
theorem d_Ce_compare_14 : decode b_Ce_compare 14 = .ok (.ifCond .eq 12, 3) := by decide +kernel
theorem d_Ce_compare_17 : decode b_Ce_compare 17 = .ok (.aload_n 0, 1) := by decide +kernel
theorem d_Ce_compare_18 : decode b_Ce_compare 18 = .ok (.iload_n 2, 1) := by decide +kernel
theorem d_Ce_compare_19 : decode b_Ce_compare 19 = .ok (.iconst 0, 1) := by decide +kernel
theorem d_Ce_compare_20 : decode b_Ce_compare 20 = .ok (.invokevirtual 86, 3) := by decide +kernel
theorem d_Ce_compare_23 : decode b_Ce_compare 23 = .ok (.ifCond .ne 6, 3) := by decide +kernel
theorem d_Ce_compare_26 : decode b_Ce_compare 26 = .ok (.bipush (-4), 2) := by decide +kernel
theorem d_Ce_compare_28 : decode b_Ce_compare 28 = .ok (.ireturn, 1) := by decide +kernel
theorem d_Ce_compare_29 : decode b_Ce_compare 29 = .ok (.aload_n 0, 1) := by decide +kernel
theorem d_Ce_compare_30 : decode b_Ce_compare 30 = .ok (.getfield 10, 3) := by decide +kernel
theorem d_Ce_compare_33 : decode b_Ce_compare 33 = .ok (.aload_n 0, 1) := by decide +kernel
theorem d_Ce_compare_34 : decode b_Ce_compare 34 = .ok (.getfield 10, 3) := by decide +kernel
theorem d_Ce_compare_37 : decode b_Ce_compare 37 = .ok (.getfield 41, 3) := by decide +kernel
theorem d_Ce_compare_40 : decode b_Ce_compare 40 = .ok (.iload_n 1, 1) := by decide +kernel
theorem d_Ce_compare_41 : decode b_Ce_compare 41 = .ok (.iaload, 1) := by decide +kernel
theorem d_Ce_compare_42 : decode b_Ce_compare 42 = .ok (.aload_n 0, 1) := by decide +kernel
theorem d_Ce_compare_43 : decode b_Ce_compare 43 = .ok (.getfield 26, 3) := by decide +kernel
theorem d_Ce_compare_46 : decode b_Ce_compare 46 = .ok (.getfield 90, 3) := by decide +kernel
theorem d_Ce_compare_49 : decode b_Ce_compare 49 = .ok (.invokevirtual 93, 3) := by decide +kernel
theorem d_Ce_compare_52 : decode b_Ce_compare 52 = .ok (.aload_n 0, 1) := by decide +kernel
theorem d_Ce_compare_53 : decode b_Ce_compare 53 = .ok (.getfield 10, 3) := by decide +kernel
theorem d_Ce_compare_56 : decode b_Ce_compare 56 = .ok (.aload_n 0, 1) := by decide +kernel
theorem d_Ce_compare_57 : decode b_Ce_compare 57 = .ok (.getfield 10, 3) := by decide +kernel
theorem d_Ce_compare_60 : decode b_Ce_compare 60 = .ok (.getfield 41, 3) := by decide +kernel
theorem d_Ce_compare_63 : decode b_Ce_compare 63 = .ok (.iload_n 2, 1) := by decide +kernel
theorem d_Ce_compare_64 : decode b_Ce_compare 64 = .ok (.iaload, 1) := by decide +kernel
theorem d_Ce_compare_65 : decode b_Ce_compare 65 = .ok (.aload_n 0, 1) := by decide +kernel
theorem d_Ce_compare_66 : decode b_Ce_compare 66 = .ok (.getfield 26, 3) := by decide +kernel
theorem d_Ce_compare_69 : decode b_Ce_compare 69 = .ok (.getfield 97, 3) := by decide +kernel
theorem d_Ce_compare_72 : decode b_Ce_compare 72 = .ok (.invokevirtual 93, 3) := by decide +kernel
theorem d_Ce_compare_75 : decode b_Ce_compare 75 = .ok (.aload_n 0, 1) := by decide +kernel
theorem d_Ce_compare_76 : decode b_Ce_compare 76 = .ok (.getfield 26, 3) := by decide +kernel
theorem d_Ce_compare_79 : decode b_Ce_compare 79 = .ok (.invokevirtual 119, 3) := by decide +kernel
theorem d_Ce_compare_82 : decode b_Ce_compare 82 = .ok (.ireturn, 1) := by decide +kernel
/-! Ce_same: ('CellHeap', 'same', '(II)Z') -/
abbrev b_Ce_same : ByteArray := prog_1_method_10_code
abbrev y_Ce_same : MethodName := ⟨R_Ce, "same", "(II)Z"⟩
abbrev K_Ce_same := CanI y_Ce_same b_Ce_same 3 ((some .boolean)) 11 0 0
theorem I_Ce_same {h : HP} {v1 : Int32} {v2 : Int32} {Φ : Int32 → HP → Prop} (body : ∀ X : CX, Cok X b_Ce_same 3 R_Ce ((some .boolean)) → xR X = rml 11 0 0 → Qok X 0 0 (fun r h2 => ∃ v, r = some (.int v) ∧ Φ v h2) → Wg X 0 0 h [(0, .ref 14), (1, .int v1), (2, .int v2)] [] 0) : K_Ce_same [.ref 14, .int v1, .int v2] h Φ := Can.intro (by decide) (fun _ => Nat.le_of_ble_eq_true rfl) body
theorem M_Ce_same : Mv y_Ce_same b_Ce_same 3 ((some .boolean)) 2 7 := ⟨wx_in 953 (by decide +kernel) rfl, wx_in 951 (by decide +kernel) rfl, wx_in 952 (by decide +kernel) rfl, wx_in 65 (by decide +kernel) rfl, by decide +kernel, by decide, by decide, _, _, rfl⟩
theorem d_Ce_same_0 : decode b_Ce_same 0 = .ok (.iload_n 1, 1) := by decide +kernel
theorem d_Ce_same_1 : decode b_Ce_same 1 = .ok (.invokestatic 37, 3) := by decide +kernel
theorem d_Ce_same_4 : decode b_Ce_same 4 = .ok (.iload_n 2, 1) := by decide +kernel
theorem d_Ce_same_5 : decode b_Ce_same 5 = .ok (.invokestatic 37, 3) := by decide +kernel
theorem d_Ce_same_8 : decode b_Ce_same 8 = .ok (.aload_n 0, 1) := by decide +kernel
theorem d_Ce_same_9 : decode b_Ce_same 9 = .ok (.getfield 10, 3) := by decide +kernel
theorem d_Ce_same_12 : decode b_Ce_same 12 = .ok (.getfield 41, 3) := by decide +kernel
theorem d_Ce_same_15 : decode b_Ce_same 15 = .ok (.iload_n 1, 1) := by decide +kernel
theorem d_Ce_same_16 : decode b_Ce_same 16 = .ok (.iaload, 1) := by decide +kernel
theorem d_Ce_same_17 : decode b_Ce_same 17 = .ok (.aload_n 0, 1) := by decide +kernel
theorem d_Ce_same_18 : decode b_Ce_same 18 = .ok (.getfield 10, 3) := by decide +kernel
theorem d_Ce_same_21 : decode b_Ce_same 21 = .ok (.getfield 41, 3) := by decide +kernel
theorem d_Ce_same_24 : decode b_Ce_same 24 = .ok (.iload_n 2, 1) := by decide +kernel
theorem d_Ce_same_25 : decode b_Ce_same 25 = .ok (.iaload, 1) := by decide +kernel
theorem d_Ce_same_26 : decode b_Ce_same 26 = .ok (.if_icmp .ne 7, 3) := by decide +kernel
theorem d_Ce_same_29 : decode b_Ce_same 29 = .ok (.iconst 1, 1) := by decide +kernel
theorem d_Ce_same_30 : decode b_Ce_same 30 = .ok (.goto 4, 3) := by decide +kernel
theorem d_Ce_same_33 : decode b_Ce_same 33 = .ok (.iconst 0, 1) := by decide +kernel
theorem d_Ce_same_34 : decode b_Ce_same 34 = .ok (.ireturn, 1) := by decide +kernel
/-! Ce_type: ('CellHeap', 'type', '(IIIII)I') -/
abbrev b_Ce_type : ByteArray := prog_1_method_11_code
abbrev y_Ce_type : MethodName := ⟨R_Ce, "type", "(IIIII)I"⟩
abbrev K_Ce_type := CanI y_Ce_type b_Ce_type 7 ((some .int)) 9 0 0
theorem I_Ce_type {h : HP} {v1 : Int32} {v2 : Int32} {v3 : Int32} {v4 : Int32} {v5 : Int32} {Φ : Int32 → HP → Prop} (body : ∀ X : CX, Cok X b_Ce_type 7 R_Ce ((some .int)) → xR X = rml 9 0 0 → Qok X 0 0 (fun r h2 => ∃ v, r = some (.int v) ∧ Φ v h2) → Wg X 0 0 h [(0, .ref 14), (1, .int v1), (2, .int v2), (3, .int v3), (4, .int v4), (5, .int v5)] [] 0) : K_Ce_type [.ref 14, .int v1, .int v2, .int v3, .int v4, .int v5] h Φ := Can.intro (by decide) (fun _ => Nat.le_of_ble_eq_true rfl) body
theorem M_Ce_type : Mv y_Ce_type b_Ce_type 7 ((some .int)) 5 7 := ⟨wx_in 961 (by decide +kernel) rfl, wx_in 959 (by decide +kernel) rfl, wx_in 960 (by decide +kernel) rfl, wx_in 65 (by decide +kernel) rfl, by decide +kernel, by decide, by decide, _, _, rfl⟩
theorem d_Ce_type_0 : decode b_Ce_type 0 = .ok (.iload_n 1, 1) := by decide +kernel
theorem d_Ce_type_1 : decode b_Ce_type 1 = .ok (.invokestatic 123, 3) := by decide +kernel
theorem d_Ce_type_4 : decode b_Ce_type 4 = .ok (.iload_n 2, 1) := by decide +kernel
theorem d_Ce_type_5 : decode b_Ce_type 5 = .ok (.invokestatic 123, 3) := by decide +kernel
theorem d_Ce_type_8 : decode b_Ce_type 8 = .ok (.iadd, 1) := by decide +kernel
theorem d_Ce_type_9 : decode b_Ce_type 9 = .ok (.iload_n 3, 1) := by decide +kernel
theorem d_Ce_type_10 : decode b_Ce_type 10 = .ok (.invokestatic 123, 3) := by decide +kernel
theorem d_Ce_type_13 : decode b_Ce_type 13 = .ok (.iadd, 1) := by decide +kernel
theorem d_Ce_type_14 : decode b_Ce_type 14 = .ok (.iload 4, 2) := by decide +kernel
theorem d_Ce_type_16 : decode b_Ce_type 16 = .ok (.invokestatic 123, 3) := by decide +kernel
theorem d_Ce_type_19 : decode b_Ce_type 19 = .ok (.iadd, 1) := by decide +kernel
theorem d_Ce_type_20 : decode b_Ce_type 20 = .ok (.iload 5, 2) := by decide +kernel
theorem d_Ce_type_22 : decode b_Ce_type 22 = .ok (.invokestatic 123, 3) := by decide +kernel
theorem d_Ce_type_25 : decode b_Ce_type 25 = .ok (.iadd, 1) := by decide +kernel
theorem d_Ce_type_26 : decode b_Ce_type 26 = .ok (.istore 6, 2) := by decide +kernel
theorem d_Ce_type_28 : decode b_Ce_type 28 = .ok (.aload_n 0, 1) := by decide +kernel
theorem d_Ce_type_29 : decode b_Ce_type 29 = .ok (.getfield 19, 3) := by decide +kernel
theorem d_Ce_type_32 : decode b_Ce_type 32 = .ok (.getfield 126, 3) := by decide +kernel
theorem d_Ce_type_35 : decode b_Ce_type 35 = .ok (.iload 6, 2) := by decide +kernel
theorem d_Ce_type_37 : decode b_Ce_type 37 = .ok (.iadd, 1) := by decide +kernel
theorem d_Ce_type_38 : decode b_Ce_type 38 = .ok (.sipush 200, 3) := by decide +kernel
theorem d_Ce_type_41 : decode b_Ce_type 41 = .ok (.if_icmp .le 11, 3) := by decide +kernel
theorem d_Ce_type_52 : decode b_Ce_type 52 = .ok (.aload_n 0, 1) := by decide +kernel
theorem d_Ce_type_53 : decode b_Ce_type 53 = .ok (.getfield 19, 3) := by decide +kernel
theorem d_Ce_type_56 : decode b_Ce_type 56 = .ok (.iload_n 1, 1) := by decide +kernel
theorem d_Ce_type_57 : decode b_Ce_type 57 = .ok (.invokevirtual 133, 3) := by decide +kernel
theorem d_Ce_type_60 : decode b_Ce_type 60 = .ok (.aload_n 0, 1) := by decide +kernel
theorem d_Ce_type_61 : decode b_Ce_type 61 = .ok (.getfield 19, 3) := by decide +kernel
theorem d_Ce_type_64 : decode b_Ce_type 64 = .ok (.iload_n 2, 1) := by decide +kernel
theorem d_Ce_type_65 : decode b_Ce_type 65 = .ok (.invokevirtual 133, 3) := by decide +kernel
theorem d_Ce_type_68 : decode b_Ce_type 68 = .ok (.aload_n 0, 1) := by decide +kernel
theorem d_Ce_type_69 : decode b_Ce_type 69 = .ok (.getfield 19, 3) := by decide +kernel
theorem d_Ce_type_72 : decode b_Ce_type 72 = .ok (.iload_n 3, 1) := by decide +kernel
theorem d_Ce_type_73 : decode b_Ce_type 73 = .ok (.invokevirtual 133, 3) := by decide +kernel
theorem d_Ce_type_76 : decode b_Ce_type 76 = .ok (.aload_n 0, 1) := by decide +kernel
theorem d_Ce_type_77 : decode b_Ce_type 77 = .ok (.getfield 19, 3) := by decide +kernel
theorem d_Ce_type_80 : decode b_Ce_type 80 = .ok (.iload 4, 2) := by decide +kernel
theorem d_Ce_type_82 : decode b_Ce_type 82 = .ok (.invokevirtual 133, 3) := by decide +kernel
theorem d_Ce_type_85 : decode b_Ce_type 85 = .ok (.aload_n 0, 1) := by decide +kernel
theorem d_Ce_type_86 : decode b_Ce_type 86 = .ok (.getfield 19, 3) := by decide +kernel
theorem d_Ce_type_89 : decode b_Ce_type 89 = .ok (.iload 5, 2) := by decide +kernel
theorem d_Ce_type_91 : decode b_Ce_type 91 = .ok (.invokevirtual 133, 3) := by decide +kernel
theorem d_Ce_type_94 : decode b_Ce_type 94 = .ok (.aload_n 0, 1) := by decide +kernel
theorem d_Ce_type_95 : decode b_Ce_type 95 = .ok (.getfield 19, 3) := by decide +kernel
theorem d_Ce_type_98 : decode b_Ce_type 98 = .ok (.getfield 126, 3) := by decide +kernel
theorem d_Ce_type_101 : decode b_Ce_type 101 = .ok (.ireturn, 1) := by decide +kernel
/-! Ce_erase: ('CellHeap', 'erase', '()I') -/
abbrev b_Ce_erase : ByteArray := prog_1_method_12_code
abbrev y_Ce_erase : MethodName := ⟨R_Ce, "erase", "()I"⟩
abbrev K_Ce_erase := CanI y_Ce_erase b_Ce_erase 2 ((some .int)) 0 0 0
theorem I_Ce_erase {h : HP}  {Φ : Int32 → HP → Prop} (body : ∀ X : CX, Cok X b_Ce_erase 2 R_Ce ((some .int)) → xR X = rml 0 0 0 → Qok X 0 0 (fun r h2 => ∃ v, r = some (.int v) ∧ Φ v h2) → Wg X 0 0 h [(0, .ref 14)] [] 0) : K_Ce_erase [.ref 14] h Φ := Can.intro (by decide) (fun _ => Nat.le_of_ble_eq_true rfl) body
theorem M_Ce_erase : Mv y_Ce_erase b_Ce_erase 2 ((some .int)) 0 7 := ⟨wx_in 301 (by decide +kernel) rfl, wx_in 299 (by decide +kernel) rfl, wx_in 300 (by decide +kernel) rfl, wx_in 65 (by decide +kernel) rfl, by decide +kernel, by decide, by decide, _, _, rfl⟩
theorem d_Ce_erase_0 : decode b_Ce_erase 0 = .ok (.aload_n 0, 1) := by decide +kernel
theorem d_Ce_erase_1 : decode b_Ce_erase 1 = .ok (.getfield 19, 3) := by decide +kernel
theorem d_Ce_erase_4 : decode b_Ce_erase 4 = .ok (.getfield 126, 3) := by decide +kernel
theorem d_Ce_erase_7 : decode b_Ce_erase 7 = .ok (.istore_n 1, 1) := by decide +kernel
theorem d_Ce_erase_8 : decode b_Ce_erase 8 = .ok (.aload_n 0, 1) := by decide +kernel
theorem d_Ce_erase_9 : decode b_Ce_erase 9 = .ok (.getfield 19, 3) := by decide +kernel
theorem d_Ce_erase_12 : decode b_Ce_erase 12 = .ok (.iconst 0, 1) := by decide +kernel
theorem d_Ce_erase_13 : decode b_Ce_erase 13 = .ok (.putfield 126, 3) := by decide +kernel
theorem d_Ce_erase_16 : decode b_Ce_erase 16 = .ok (.iload_n 1, 1) := by decide +kernel
theorem d_Ce_erase_17 : decode b_Ce_erase 17 = .ok (.ireturn, 1) := by decide +kernel
/-! Ce_read: ('CellHeap', 'read', '(I)I') -/
abbrev b_Ce_read : ByteArray := prog_1_method_13_code
abbrev y_Ce_read : MethodName := ⟨R_Ce, "read", "(I)I"⟩
abbrev K_Ce_read := CanI y_Ce_read b_Ce_read 3 ((some .int)) 11 0 0
theorem I_Ce_read {h : HP} {v1 : Int32} {Φ : Int32 → HP → Prop} (body : ∀ X : CX, Cok X b_Ce_read 3 R_Ce ((some .int)) → xR X = rml 11 0 0 → Qok X 0 0 (fun r h2 => ∃ v, r = some (.int v) ∧ Φ v h2) → Wg X 0 0 h [(0, .ref 14), (1, .int v1)] [] 0) : K_Ce_read [.ref 14, .int v1] h Φ := Can.intro (by decide) (fun _ => Nat.le_of_ble_eq_true rfl) body
theorem M_Ce_read : Mv y_Ce_read b_Ce_read 3 ((some .int)) 1 7 := ⟨wx_in 990 (by decide +kernel) rfl, wx_in 988 (by decide +kernel) rfl, wx_in 989 (by decide +kernel) rfl, wx_in 65 (by decide +kernel) rfl, by decide +kernel, by decide, by decide, _, _, rfl⟩
theorem d_Ce_read_0 : decode b_Ce_read 0 = .ok (.iload_n 1, 1) := by decide +kernel
theorem d_Ce_read_1 : decode b_Ce_read 1 = .ok (.invokestatic 37, 3) := by decide +kernel
theorem d_Ce_read_4 : decode b_Ce_read 4 = .ok (.aload_n 0, 1) := by decide +kernel
theorem d_Ce_read_5 : decode b_Ce_read 5 = .ok (.getfield 26, 3) := by decide +kernel
theorem d_Ce_read_8 : decode b_Ce_read 8 = .ok (.getfield 45, 3) := by decide +kernel
theorem d_Ce_read_11 : decode b_Ce_read 11 = .ok (.astore_n 2, 1) := by decide +kernel
theorem d_Ce_read_12 : decode b_Ce_read 12 = .ok (.aload_n 0, 1) := by decide +kernel
theorem d_Ce_read_13 : decode b_Ce_read 13 = .ok (.getfield 19, 3) := by decide +kernel
theorem d_Ce_read_16 : decode b_Ce_read 16 = .ok (.aload_n 2, 1) := by decide +kernel
theorem d_Ce_read_17 : decode b_Ce_read 17 = .ok (.invokevirtual 136, 3) := by decide +kernel
theorem d_Ce_read_20 : decode b_Ce_read 20 = .ok (.ifCond .ne 6, 3) := by decide +kernel
theorem d_Ce_read_23 : decode b_Ce_read 23 = .ok (.bipush (-7), 2) := by decide +kernel
theorem d_Ce_read_25 : decode b_Ce_read 25 = .ok (.ireturn, 1) := by decide +kernel
theorem d_Ce_read_26 : decode b_Ce_read 26 = .ok (.aload_n 2, 1) := by decide +kernel
theorem d_Ce_read_27 : decode b_Ce_read 27 = .ok (.getfield 140, 3) := by decide +kernel
theorem d_Ce_read_30 : decode b_Ce_read 30 = .ok (.invokevirtual 104, 3) := by decide +kernel
theorem d_Ce_read_33 : decode b_Ce_read 33 = .ok (.ifCond .eq 6, 3) := by decide +kernel
theorem d_Ce_read_36 : decode b_Ce_read 36 = .ok (.bipush (-5), 2) := by decide +kernel
theorem d_Ce_read_38 : decode b_Ce_read 38 = .ok (.ireturn, 1) := by decide +kernel
theorem d_Ce_read_39 : decode b_Ce_read 39 = .ok (.aload_n 2, 1) := by decide +kernel
theorem d_Ce_read_40 : decode b_Ce_read 40 = .ok (.invokevirtual 143, 3) := by decide +kernel
theorem d_Ce_read_43 : decode b_Ce_read 43 = .ok (.ifCond .eq 6, 3) := by decide +kernel
theorem d_Ce_read_46 : decode b_Ce_read 46 = .ok (.bipush (-3), 2) := by decide +kernel
theorem d_Ce_read_48 : decode b_Ce_read 48 = .ok (.ireturn, 1) := by decide +kernel
theorem d_Ce_read_49 : decode b_Ce_read 49 = .ok (.aload_n 0, 1) := by decide +kernel
theorem d_Ce_read_50 : decode b_Ce_read 50 = .ok (.getfield 26, 3) := by decide +kernel
theorem d_Ce_read_53 : decode b_Ce_read 53 = .ok (.invokevirtual 116, 3) := by decide +kernel
theorem d_Ce_read_56 : decode b_Ce_read 56 = .ok (.aload_n 0, 1) := by decide +kernel
theorem d_Ce_read_57 : decode b_Ce_read 57 = .ok (.iload_n 1, 1) := by decide +kernel
theorem d_Ce_read_58 : decode b_Ce_read 58 = .ok (.invokevirtual 55, 3) := by decide +kernel
theorem d_Ce_read_61 : decode b_Ce_read 61 = .ok (.ireturn, 1) := by decide +kernel
/-! Ce_write: ('CellHeap', 'write', '(I)I') -/
abbrev b_Ce_write : ByteArray := prog_1_method_14_code
abbrev y_Ce_write : MethodName := ⟨R_Ce, "write", "(I)I"⟩
abbrev K_Ce_write := CanI y_Ce_write b_Ce_write 2 ((some .int)) 11 0 0
theorem I_Ce_write {h : HP} {v1 : Int32} {Φ : Int32 → HP → Prop} (body : ∀ X : CX, Cok X b_Ce_write 2 R_Ce ((some .int)) → xR X = rml 11 0 0 → Qok X 0 0 (fun r h2 => ∃ v, r = some (.int v) ∧ Φ v h2) → Wg X 0 0 h [(0, .ref 14), (1, .int v1)] [] 0) : K_Ce_write [.ref 14, .int v1] h Φ := Can.intro (by decide) (fun _ => Nat.le_of_ble_eq_true rfl) body
theorem M_Ce_write : Mv y_Ce_write b_Ce_write 2 ((some .int)) 1 7 := ⟨wx_in 1020 (by decide +kernel) rfl, wx_in 1018 (by decide +kernel) rfl, wx_in 1019 (by decide +kernel) rfl, wx_in 65 (by decide +kernel) rfl, by decide +kernel, by decide, by decide, _, _, rfl⟩
theorem d_Ce_write_0 : decode b_Ce_write 0 = .ok (.iload_n 1, 1) := by decide +kernel
theorem d_Ce_write_1 : decode b_Ce_write 1 = .ok (.invokestatic 37, 3) := by decide +kernel
theorem d_Ce_write_4 : decode b_Ce_write 4 = .ok (.aload_n 0, 1) := by decide +kernel
theorem d_Ce_write_5 : decode b_Ce_write 5 = .ok (.getfield 33, 3) := by decide +kernel
theorem d_Ce_write_8 : decode b_Ce_write 8 = .ok (.aload_n 0, 1) := by decide +kernel
theorem d_Ce_write_9 : decode b_Ce_write 9 = .ok (.getfield 10, 3) := by decide +kernel
theorem d_Ce_write_12 : decode b_Ce_write 12 = .ok (.aload_n 0, 1) := by decide +kernel
theorem d_Ce_write_13 : decode b_Ce_write 13 = .ok (.getfield 10, 3) := by decide +kernel
theorem d_Ce_write_16 : decode b_Ce_write 16 = .ok (.getfield 41, 3) := by decide +kernel
theorem d_Ce_write_19 : decode b_Ce_write 19 = .ok (.iload_n 1, 1) := by decide +kernel
theorem d_Ce_write_20 : decode b_Ce_write 20 = .ok (.iaload, 1) := by decide +kernel
theorem d_Ce_write_21 : decode b_Ce_write 21 = .ok (.invokevirtual 146, 3) := by decide +kernel
theorem d_Ce_write_24 : decode b_Ce_write 24 = .ok (.ifCond .eq 13, 3) := by decide +kernel
theorem d_Ce_write_27 : decode b_Ce_write 27 = .ok (.aload_n 0, 1) := by decide +kernel
theorem d_Ce_write_28 : decode b_Ce_write 28 = .ok (.getfield 33, 3) := by decide +kernel
theorem d_Ce_write_31 : decode b_Ce_write 31 = .ok (.getfield 150, 3) := by decide +kernel
theorem d_Ce_write_34 : decode b_Ce_write 34 = .ok (.goto 5, 3) := by decide +kernel
theorem d_Ce_write_37 : decode b_Ce_write 37 = .ok (.bipush (-6), 2) := by decide +kernel
theorem d_Ce_write_39 : decode b_Ce_write 39 = .ok (.ireturn, 1) := by decide +kernel
/-! Ce_output: ('CellHeap', 'output', '(I)C') -/
abbrev b_Ce_output : ByteArray := prog_1_method_15_code
abbrev y_Ce_output : MethodName := ⟨R_Ce, "output", "(I)C"⟩
abbrev K_Ce_output := CanI y_Ce_output b_Ce_output 2 ((some .char)) 0 0 0
theorem I_Ce_output {h : HP} {v1 : Int32} {Φ : Int32 → HP → Prop} (body : ∀ X : CX, Cok X b_Ce_output 2 R_Ce ((some .char)) → xR X = rml 0 0 0 → Qok X 0 0 (fun r h2 => ∃ v, r = some (.int v) ∧ Φ v h2) → Wg X 0 0 h [(0, .ref 14), (1, .int v1)] [] 0) : K_Ce_output [.ref 14, .int v1] h Φ := Can.intro (by decide) (fun _ => Nat.le_of_ble_eq_true rfl) body
theorem M_Ce_output : Mv y_Ce_output b_Ce_output 2 ((some .char)) 1 7 := ⟨wx_in 305 (by decide +kernel) rfl, wx_in 303 (by decide +kernel) rfl, wx_in 304 (by decide +kernel) rfl, wx_in 65 (by decide +kernel) rfl, by decide +kernel, by decide, by decide, _, _, rfl⟩
theorem d_Ce_output_0 : decode b_Ce_output 0 = .ok (.iload_n 1, 1) := by decide +kernel
theorem d_Ce_output_1 : decode b_Ce_output 1 = .ok (.ifCond .lt 26, 3) := by decide +kernel
theorem d_Ce_output_4 : decode b_Ce_output 4 = .ok (.iload_n 1, 1) := by decide +kernel
theorem d_Ce_output_5 : decode b_Ce_output 5 = .ok (.aload_n 0, 1) := by decide +kernel
theorem d_Ce_output_6 : decode b_Ce_output 6 = .ok (.getfield 33, 3) := by decide +kernel
theorem d_Ce_output_9 : decode b_Ce_output 9 = .ok (.getfield 150, 3) := by decide +kernel
theorem d_Ce_output_12 : decode b_Ce_output 12 = .ok (.if_icmp .ge 15, 3) := by decide +kernel
theorem d_Ce_output_15 : decode b_Ce_output 15 = .ok (.aload_n 0, 1) := by decide +kernel
theorem d_Ce_output_16 : decode b_Ce_output 16 = .ok (.getfield 33, 3) := by decide +kernel
theorem d_Ce_output_19 : decode b_Ce_output 19 = .ok (.getfield 151, 3) := by decide +kernel
theorem d_Ce_output_22 : decode b_Ce_output 22 = .ok (.iload_n 1, 1) := by decide +kernel
theorem d_Ce_output_23 : decode b_Ce_output 23 = .ok (.caload, 1) := by decide +kernel
theorem d_Ce_output_24 : decode b_Ce_output 24 = .ok (.goto 5, 3) := by decide +kernel
theorem d_Ce_output_27 : decode b_Ce_output 27 = .ok (.bipush 32, 2) := by decide +kernel
theorem d_Ce_output_29 : decode b_Ce_output 29 = .ok (.ireturn, 1) := by decide +kernel
/-! Ce_collect: ('CellHeap', 'collect', '()I') -/
abbrev b_Ce_collect : ByteArray := prog_1_method_16_code
abbrev y_Ce_collect : MethodName := ⟨R_Ce, "collect", "()I"⟩
abbrev K_Ce_collect := CanI y_Ce_collect b_Ce_collect 2 ((some .int)) 4 0 0
theorem I_Ce_collect {h : HP}  {Φ : Int32 → HP → Prop} (body : ∀ X : CX, Cok X b_Ce_collect 2 R_Ce ((some .int)) → xR X = rml 4 0 0 → Qok X 0 0 (fun r h2 => ∃ v, r = some (.int v) ∧ Φ v h2) → Wg X 0 0 h [(0, .ref 14)] [] 0) : K_Ce_collect [.ref 14] h Φ := Can.intro (by decide) (fun _ => Nat.le_of_ble_eq_true rfl) body
theorem M_Ce_collect : Mv y_Ce_collect b_Ce_collect 2 ((some .int)) 0 7 := ⟨wx_in 309 (by decide +kernel) rfl, wx_in 307 (by decide +kernel) rfl, wx_in 308 (by decide +kernel) rfl, wx_in 65 (by decide +kernel) rfl, by decide +kernel, by decide, by decide, _, _, rfl⟩
theorem d_Ce_collect_0 : decode b_Ce_collect 0 = .ok (.aload_n 0, 1) := by decide +kernel
theorem d_Ce_collect_1 : decode b_Ce_collect 1 = .ok (.getfield 10, 3) := by decide +kernel
theorem d_Ce_collect_4 : decode b_Ce_collect 4 = .ok (.getfield 155, 3) := by decide +kernel
theorem d_Ce_collect_7 : decode b_Ce_collect 7 = .ok (.istore_n 1, 1) := by decide +kernel
theorem d_Ce_collect_8 : decode b_Ce_collect 8 = .ok (.aload_n 0, 1) := by decide +kernel
theorem d_Ce_collect_9 : decode b_Ce_collect 9 = .ok (.getfield 10, 3) := by decide +kernel
theorem d_Ce_collect_12 : decode b_Ce_collect 12 = .ok (.invokevirtual 158, 3) := by decide +kernel
theorem d_Ce_collect_15 : decode b_Ce_collect 15 = .ok (.iload_n 1, 1) := by decide +kernel
theorem d_Ce_collect_16 : decode b_Ce_collect 16 = .ok (.aload_n 0, 1) := by decide +kernel
theorem d_Ce_collect_17 : decode b_Ce_collect 17 = .ok (.getfield 10, 3) := by decide +kernel
theorem d_Ce_collect_20 : decode b_Ce_collect 20 = .ok (.getfield 155, 3) := by decide +kernel
theorem d_Ce_collect_23 : decode b_Ce_collect 23 = .ok (.isub, 1) := by decide +kernel
theorem d_Ce_collect_24 : decode b_Ce_collect 24 = .ok (.ireturn, 1) := by decide +kernel
/-! Ce_value: ('CellHeap', 'value', '(II)I') -/
abbrev b_Ce_value : ByteArray := prog_1_method_17_code
abbrev y_Ce_value : MethodName := ⟨R_Ce, "value", "(II)I"⟩
abbrev K_Ce_value := CanI y_Ce_value b_Ce_value 6 ((some .int)) 11 0 0
theorem I_Ce_value {h : HP} {v1 : Int32} {v2 : Int32} {Φ : Int32 → HP → Prop} (body : ∀ X : CX, Cok X b_Ce_value 6 R_Ce ((some .int)) → xR X = rml 11 0 0 → Qok X 0 0 (fun r h2 => ∃ v, r = some (.int v) ∧ Φ v h2) → Wg X 0 0 h [(0, .ref 14), (1, .int v1), (2, .int v2)] [] 0) : K_Ce_value [.ref 14, .int v1, .int v2] h Φ := Can.intro (by decide) (fun _ => Nat.le_of_ble_eq_true rfl) body
theorem M_Ce_value : Mv y_Ce_value b_Ce_value 6 ((some .int)) 2 7 := ⟨wx_in 1062 (by decide +kernel) rfl, wx_in 1060 (by decide +kernel) rfl, wx_in 1061 (by decide +kernel) rfl, wx_in 65 (by decide +kernel) rfl, by decide +kernel, by decide, by decide, _, _, rfl⟩
theorem d_Ce_value_0 : decode b_Ce_value 0 = .ok (.iload_n 1, 1) := by decide +kernel
theorem d_Ce_value_1 : decode b_Ce_value 1 = .ok (.invokestatic 37, 3) := by decide +kernel
theorem d_Ce_value_4 : decode b_Ce_value 4 = .ok (.iload_n 2, 1) := by decide +kernel
theorem d_Ce_value_5 : decode b_Ce_value 5 = .ok (.iconst 3, 1) := by decide +kernel
theorem d_Ce_value_6 : decode b_Ce_value 6 = .ok (.invokestatic 82, 3) := by decide +kernel
theorem d_Ce_value_9 : decode b_Ce_value 9 = .ok (.aload_n 0, 1) := by decide +kernel
theorem d_Ce_value_10 : decode b_Ce_value 10 = .ok (.getfield 10, 3) := by decide +kernel
theorem d_Ce_value_13 : decode b_Ce_value 13 = .ok (.getfield 41, 3) := by decide +kernel
theorem d_Ce_value_16 : decode b_Ce_value 16 = .ok (.iload_n 1, 1) := by decide +kernel
theorem d_Ce_value_17 : decode b_Ce_value 17 = .ok (.iaload, 1) := by decide +kernel
theorem d_Ce_value_18 : decode b_Ce_value 18 = .ok (.istore_n 3, 1) := by decide +kernel
theorem d_Ce_value_19 : decode b_Ce_value 19 = .ok (.aload_n 0, 1) := by decide +kernel
theorem d_Ce_value_20 : decode b_Ce_value 20 = .ok (.getfield 10, 3) := by decide +kernel
theorem d_Ce_value_23 : decode b_Ce_value 23 = .ok (.iload_n 3, 1) := by decide +kernel
theorem d_Ce_value_24 : decode b_Ce_value 24 = .ok (.invokevirtual 70, 3) := by decide +kernel
theorem d_Ce_value_27 : decode b_Ce_value 27 = .ok (.istore 4, 2) := by decide +kernel
theorem d_Ce_value_29 : decode b_Ce_value 29 = .ok (.iload_n 2, 1) := by decide +kernel
theorem d_Ce_value_30 : decode b_Ce_value 30 = .ok (.ifCond .ne 6, 3) := by decide +kernel
theorem d_Ce_value_33 : decode b_Ce_value 33 = .ok (.iload 4, 2) := by decide +kernel
theorem d_Ce_value_35 : decode b_Ce_value 35 = .ok (.ireturn, 1) := by decide +kernel
theorem d_Ce_value_36 : decode b_Ce_value 36 = .ok (.iload_n 2, 1) := by decide +kernel
theorem d_Ce_value_37 : decode b_Ce_value 37 = .ok (.iconst 3, 1) := by decide +kernel
theorem d_Ce_value_38 : decode b_Ce_value 38 = .ok (.if_icmp .ne 18, 3) := by decide +kernel
theorem d_Ce_value_41 : decode b_Ce_value 41 = .ok (.iload 4, 2) := by decide +kernel
theorem d_Ce_value_43 : decode b_Ce_value 43 = .ok (.iconst 1, 1) := by decide +kernel
theorem d_Ce_value_44 : decode b_Ce_value 44 = .ok (.if_icmp .ne 10, 3) := by decide +kernel
theorem d_Ce_value_47 : decode b_Ce_value 47 = .ok (.iload_n 3, 1) := by decide +kernel
theorem d_Ce_value_48 : decode b_Ce_value 48 = .ok (.invokestatic 161, 3) := by decide +kernel
theorem d_Ce_value_51 : decode b_Ce_value 51 = .ok (.goto 4, 3) := by decide +kernel
theorem d_Ce_value_54 : decode b_Ce_value 54 = .ok (.iconst 0, 1) := by decide +kernel
theorem d_Ce_value_55 : decode b_Ce_value 55 = .ok (.ireturn, 1) := by decide +kernel
theorem d_Ce_value_56 : decode b_Ce_value 56 = .ok (.iload 4, 2) := by decide +kernel
theorem d_Ce_value_58 : decode b_Ce_value 58 = .ok (.iconst 2, 1) := by decide +kernel
theorem d_Ce_value_59 : decode b_Ce_value 59 = .ok (.if_icmp .lt 7, 3) := by decide +kernel
theorem d_Ce_value_62 : decode b_Ce_value 62 = .ok (.iconst 1, 1) := by decide +kernel
theorem d_Ce_value_63 : decode b_Ce_value 63 = .ok (.goto 4, 3) := by decide +kernel
theorem d_Ce_value_66 : decode b_Ce_value 66 = .ok (.iconst 0, 1) := by decide +kernel
theorem d_Ce_value_67 : decode b_Ce_value 67 = .ok (.istore 5, 2) := by decide +kernel
theorem d_Ce_value_69 : decode b_Ce_value 69 = .ok (.iload_n 2, 1) := by decide +kernel
theorem d_Ce_value_70 : decode b_Ce_value 70 = .ok (.iconst 1, 1) := by decide +kernel
theorem d_Ce_value_71 : decode b_Ce_value 71 = .ok (.if_icmp .ne 17, 3) := by decide +kernel
theorem d_Ce_value_74 : decode b_Ce_value 74 = .ok (.iload 5, 2) := by decide +kernel
theorem d_Ce_value_76 : decode b_Ce_value 76 = .ok (.ifCond .eq 10, 3) := by decide +kernel
theorem d_Ce_value_79 : decode b_Ce_value 79 = .ok (.iload_n 3, 1) := by decide +kernel
theorem d_Ce_value_80 : decode b_Ce_value 80 = .ok (.invokestatic 67, 3) := by decide +kernel
theorem d_Ce_value_83 : decode b_Ce_value 83 = .ok (.goto 4, 3) := by decide +kernel
theorem d_Ce_value_86 : decode b_Ce_value 86 = .ok (.iconst (-1), 1) := by decide +kernel
theorem d_Ce_value_87 : decode b_Ce_value 87 = .ok (.ireturn, 1) := by decide +kernel
theorem d_Ce_value_88 : decode b_Ce_value 88 = .ok (.iload 5, 2) := by decide +kernel
theorem d_Ce_value_90 : decode b_Ce_value 90 = .ok (.ifCond .eq 17, 3) := by decide +kernel
theorem d_Ce_value_93 : decode b_Ce_value 93 = .ok (.aload_n 0, 1) := by decide +kernel
theorem d_Ce_value_94 : decode b_Ce_value 94 = .ok (.getfield 10, 3) := by decide +kernel
theorem d_Ce_value_97 : decode b_Ce_value 97 = .ok (.iload_n 3, 1) := by decide +kernel
theorem d_Ce_value_98 : decode b_Ce_value 98 = .ok (.invokestatic 67, 3) := by decide +kernel
theorem d_Ce_value_101 : decode b_Ce_value 101 = .ok (.invokevirtual 164, 3) := by decide +kernel
theorem d_Ce_value_104 : decode b_Ce_value 104 = .ok (.goto 4, 3) := by decide +kernel
theorem d_Ce_value_107 : decode b_Ce_value 107 = .ok (.iconst 0, 1) := by decide +kernel
theorem d_Ce_value_108 : decode b_Ce_value 108 = .ok (.ireturn, 1) := by decide +kernel
/-! Ce_count: ('CellHeap', 'count', '(I)I') -/
abbrev b_Ce_count : ByteArray := prog_1_method_18_code
abbrev y_Ce_count : MethodName := ⟨R_Ce, "count", "(I)I"⟩
abbrev K_Ce_count := CanI y_Ce_count b_Ce_count 2 ((some .int)) 10 0 0
theorem I_Ce_count {h : HP} {v1 : Int32} {Φ : Int32 → HP → Prop} (body : ∀ X : CX, Cok X b_Ce_count 2 R_Ce ((some .int)) → xR X = rml 10 0 0 → Qok X 0 0 (fun r h2 => ∃ v, r = some (.int v) ∧ Φ v h2) → Wg X 0 0 h [(0, .ref 14), (1, .int v1)] [] 0) : K_Ce_count [.ref 14, .int v1] h Φ := Can.intro (by decide) (fun _ => Nat.le_of_ble_eq_true rfl) body
theorem M_Ce_count : Mv y_Ce_count b_Ce_count 2 ((some .int)) 1 7 := ⟨wx_in 1071 (by decide +kernel) rfl, wx_in 1069 (by decide +kernel) rfl, wx_in 1070 (by decide +kernel) rfl, wx_in 65 (by decide +kernel) rfl, by decide +kernel, by decide, by decide, _, _, rfl⟩
theorem d_Ce_count_0 : decode b_Ce_count 0 = .ok (.iload_n 1, 1) := by decide +kernel
theorem d_Ce_count_1 : decode b_Ce_count 1 = .ok (.iconst 3, 1) := by decide +kernel
theorem d_Ce_count_2 : decode b_Ce_count 2 = .ok (.invokestatic 82, 3) := by decide +kernel
theorem d_Ce_count_5 : decode b_Ce_count 5 = .ok (.iload_n 1, 1) := by decide +kernel
theorem d_Ce_count_6 : decode b_Ce_count 6 = .ok (.ifCond .ne 11, 3) := by decide +kernel
theorem d_Ce_count_9 : decode b_Ce_count 9 = .ok (.aload_n 0, 1) := by decide +kernel
theorem d_Ce_count_10 : decode b_Ce_count 10 = .ok (.getfield 10, 3) := by decide +kernel
theorem d_Ce_count_13 : decode b_Ce_count 13 = .ok (.getfield 155, 3) := by decide +kernel
theorem d_Ce_count_16 : decode b_Ce_count 16 = .ok (.ireturn, 1) := by decide +kernel
theorem d_Ce_count_17 : decode b_Ce_count 17 = .ok (.iload_n 1, 1) := by decide +kernel
theorem d_Ce_count_18 : decode b_Ce_count 18 = .ok (.iconst 1, 1) := by decide +kernel
theorem d_Ce_count_19 : decode b_Ce_count 19 = .ok (.if_icmp .ne 11, 3) := by decide +kernel
theorem d_Ce_count_22 : decode b_Ce_count 22 = .ok (.aload_n 0, 1) := by decide +kernel
theorem d_Ce_count_23 : decode b_Ce_count 23 = .ok (.getfield 10, 3) := by decide +kernel
theorem d_Ce_count_26 : decode b_Ce_count 26 = .ok (.getfield 167, 3) := by decide +kernel
theorem d_Ce_count_29 : decode b_Ce_count 29 = .ok (.ireturn, 1) := by decide +kernel
theorem d_Ce_count_30 : decode b_Ce_count 30 = .ok (.iload_n 1, 1) := by decide +kernel
theorem d_Ce_count_31 : decode b_Ce_count 31 = .ok (.iconst 2, 1) := by decide +kernel
theorem d_Ce_count_32 : decode b_Ce_count 32 = .ok (.if_icmp .ne 13, 3) := by decide +kernel
theorem d_Ce_count_35 : decode b_Ce_count 35 = .ok (.aload_n 0, 1) := by decide +kernel
theorem d_Ce_count_36 : decode b_Ce_count 36 = .ok (.getfield 10, 3) := by decide +kernel
theorem d_Ce_count_39 : decode b_Ce_count 39 = .ok (.invokevirtual 170, 3) := by decide +kernel
theorem d_Ce_count_42 : decode b_Ce_count 42 = .ok (.goto 10, 3) := by decide +kernel
theorem d_Ce_count_45 : decode b_Ce_count 45 = .ok (.aload_n 0, 1) := by decide +kernel
theorem d_Ce_count_46 : decode b_Ce_count 46 = .ok (.getfield 10, 3) := by decide +kernel
theorem d_Ce_count_49 : decode b_Ce_count 49 = .ok (.invokevirtual 173, 3) := by decide +kernel
theorem d_Ce_count_52 : decode b_Ce_count 52 = .ok (.ireturn, 1) := by decide +kernel
set_option maxRecDepth 20000 in
theorem g_Ce_checkRange_0 {X : CX} {h : HP} {v0 : Int32} {v1 : Int32} {Φ : HP → Prop} (C : Cok X b_Ce_checkRange 2 R_Ce none) (Rm : xR X = rml 9 0 0) (Q : Qok X 0 0 (fun r h2 => r = none ∧ Φ h2)) 
    (K : (v0 < 0 → False) ∧ (¬ v0 < 0 → (v0 ≤ v1 → Φ h) ∧ (¬ v0 ≤ v1 → False))) :
    Wg X 0 0 h [(0, .int v0), (1, .int v1)] [] 0 := by
  refine r_iload_n C 0 rfl d_Ce_checkRange_0 ?_
  refine r_if_lt C 9 d_Ce_checkRange_1 (by decide) ⟨fun c0 => ?_, fun c0 => ?_⟩
  · have K := K.1 c0
    exact K.elim
  · have K := K.2 c0
    refine r_iload_n C 0 rfl d_Ce_checkRange_4 ?_
    refine r_iload_n C 1 rfl d_Ce_checkRange_5 ?_
    refine r_icmp_le C 17 d_Ce_checkRange_6 (by decide) ⟨fun c0 => ?_, fun c0 => ?_⟩
    · have K := K.1 c0
      exact q_vret C Q d_Ce_checkRange_17 ⟨rfl, K⟩
    · have K := K.2 c0
      exact K.elim
set_option maxRecDepth 20000 in
theorem g_Ce_checkRegister_0 {X : CX} {h : HP} {v0 : Int32} {Φ : HP → Prop} (C : Cok X b_Ce_checkRegister 1 R_Ce none) (Rm : xR X = rml 10 0 0) (Q : Qok X 0 0 (fun r h2 => r = none ∧ Φ h2)) 
    (K : K_Ce_checkRange [.int v0, .int 7] h (fun h1 => Φ h1)) :
    Wg X 0 0 h [(0, .int v0)] [] 0 := by
  refine r_iload_n C 0 rfl d_Ce_checkRegister_0 ?_
  refine r_bipush (v := 7) C (by decide) d_Ce_checkRegister_1 ?_
  refine r_callS (As := [.int v0, .int 7]) (st := []) (lvc := 9) (mcc := 0) (msc := 0) C Rm M_Ce_checkRange rfl k_301 (by decide) (Nat.le_of_ble_eq_true rfl) ⟨by decide, by decide⟩ d_Ce_checkRegister_3 ?_
  refine Can.mono K (fun _ h1 z => ?_)
  obtain ⟨rfl, K⟩ := z
  show Wg X 0 0 h1 [(0, .int v0)] [] 6
  exact q_vret C Q d_Ce_checkRegister_6 ⟨rfl, K⟩
set_option maxRecDepth 20000 in
theorem g_Ce_isOperand_0 {X : CX} {h : HP} {v1 : Int32} {v2 : Int32} {Φ : Int32 → HP → Prop} (C : Cok X b_Ce_isOperand 4 R_Ce ((some .boolean))) (Rm : xR X = rml 2 0 0) (Q : Qok X 0 0 (fun r h2 => ∃ v, r = some (.int v) ∧ Φ v h2)) 
    (K : vp_in v1 8 ∧ (K_He_sortOf [.ref 15, .int (h 17 v1.toNatClampNeg)] h (fun r1 h1 => (r1 = (1 : Int32) → Φ 1 h1) ∧ (¬ r1 = (1 : Int32) → (r1 = (2 : Int32) → Φ 1 h1) ∧ (¬ r1 = (2 : Int32) → (¬ r1 = (3 : Int32) → Φ 0 h1) ∧ (r1 = (3 : Int32) → (¬ v2 = 0 → Φ 0 h1) ∧ (v2 = 0 → Φ 1 h1))))))) :
    Wg X 0 0 h [(0, .ref 14), (1, .int v1), (2, .int v2)] [] 0 := by
  refine r_aload_n C 0 rfl d_Ce_isOperand_0 ?_
  refine gf_Ce_heap (k2 := 15) C rfl rfl k_221 d_Ce_isOperand_1 ?_
  refine r_aload_n C 0 rfl d_Ce_isOperand_4 ?_
  refine gf_Ce_heap (k2 := 15) C rfl rfl k_221 d_Ce_isOperand_5 ?_
  refine gf_He_registers (k2 := 17) C rfl rfl k_44 d_Ce_isOperand_8 ?_
  refine r_iload_n C 1 rfl d_Ce_isOperand_11 ?_
  obtain ⟨s0, K⟩ := K
  refine r_iald C rfl s0 d_Ce_isOperand_12 ?_
  refine r_callV (As := [.int (h 17 v1.toNatClampNeg)]) (st := []) (lvc := 1) (mcc := 0) (msc := 0) C Rm M_He_sortOf rfl k_458 rfl (by decide) (Nat.le_of_ble_eq_true rfl) ⟨by decide, by decide⟩ d_Ce_isOperand_13 ?_
  refine Can.mono K (fun _ h1 z => ?_)
  obtain ⟨r1, rfl, K⟩ := z
  show Wg X 0 0 h1 [(0, .ref 14), (1, .int v1), (2, .int v2)] [.int r1] 16
  refine r_istore_n (ls2 := [(0, .ref 14), (1, .int v1), (2, .int v2), (3, .int r1)]) C rfl (by decide) rfl d_Ce_isOperand_16 ?_
  refine r_iload_n C 3 rfl d_Ce_isOperand_17 ?_
  refine r_iconst (v := 1) C (by decide) d_Ce_isOperand_18 ?_
  refine r_icmp_eq C 36 d_Ce_isOperand_19 (by decide) ⟨fun c0 => ?_, fun c0 => ?_⟩
  · have K := K.1 c0
    refine r_iconst (v := 1) C (by decide) d_Ce_isOperand_36 ?_
    refine r_goto C 41 d_Ce_isOperand_37 (by decide) ?_
    exact q_zret C Q (by decide) d_Ce_isOperand_41 ⟨_, rfl, K⟩
  · have K := K.2 c0
    refine r_iload_n C 3 rfl d_Ce_isOperand_22 ?_
    refine r_iconst (v := 2) C (by decide) d_Ce_isOperand_23 ?_
    refine r_icmp_eq C 36 d_Ce_isOperand_24 (by decide) ⟨fun c0 => ?_, fun c0 => ?_⟩
    · have K := K.1 c0
      refine r_iconst (v := 1) C (by decide) d_Ce_isOperand_36 ?_
      refine r_goto C 41 d_Ce_isOperand_37 (by decide) ?_
      exact q_zret C Q (by decide) d_Ce_isOperand_41 ⟨_, rfl, K⟩
    · have K := K.2 c0
      refine r_iload_n C 3 rfl d_Ce_isOperand_27 ?_
      refine r_iconst (v := 3) C (by decide) d_Ce_isOperand_28 ?_
      refine r_icmp_ne C 40 d_Ce_isOperand_29 (by decide) ⟨fun c0 => ?_, fun c0 => ?_⟩
      · have K := K.1 c0
        refine r_iconst (v := 0) C (by decide) d_Ce_isOperand_40 ?_
        exact q_zret C Q (by decide) d_Ce_isOperand_41 ⟨_, rfl, K⟩
      · have K := K.2 c0
        refine r_iload_n C 2 rfl d_Ce_isOperand_32 ?_
        refine r_if_ne C 40 d_Ce_isOperand_33 (by decide) ⟨fun c0 => ?_, fun c0 => ?_⟩
        · have K := K.1 c0
          refine r_iconst (v := 0) C (by decide) d_Ce_isOperand_40 ?_
          exact q_zret C Q (by decide) d_Ce_isOperand_41 ⟨_, rfl, K⟩
        · have K := K.2 c0
          refine r_iconst (v := 1) C (by decide) d_Ce_isOperand_36 ?_
          refine r_goto C 41 d_Ce_isOperand_37 (by decide) ?_
          exact q_zret C Q (by decide) d_Ce_isOperand_41 ⟨_, rfl, K⟩
set_option maxRecDepth 20000 in
theorem g_Ce_keepResult_0 {X : CX} {h : HP} {v1 : Int32} {Φ : Int32 → HP → Prop} (C : Cok X b_Ce_keepResult 3 R_Ce ((some .int))) (Rm : xR X = rml 5 0 0) (Q : Qok X 0 0 (fun r h2 => ∃ v, r = some (.int v) ∧ Φ v h2)) 
    (K : K_Ra_isLarge [.ref 34] h (fun r1 h1 => (r1 = 0 → K_He_cellsFor_ [.ref 34] h1 (fun r2 h2 => K_He_makeRoom [.ref 15, .int r2] h2 (fun r3 h3 => (¬ r3 = 0 → K_He_addNumber [.ref 15, .ref 34] h3 (fun r4 h4 => vp_in v1 8 ∧ (Φ 0 (up h4 17 v1.toNatClampNeg r4)))) ∧ (r3 = 0 → Φ ((-2)) h3)))) ∧ (¬ r1 = 0 → Φ ((-3)) h1))) :
    Wg X 0 0 h [(0, .ref 14), (1, .int v1)] [] 0 := by
  refine r_aload_n C 0 rfl d_Ce_keepResult_0 ?_
  refine gf_Ce_reckoner (k2 := 23) C rfl rfl k_223 d_Ce_keepResult_1 ?_
  refine gf_Re_result (k2 := 34) C rfl rfl k_169 d_Ce_keepResult_4 ?_
  refine r_astore_n (ls2 := [(0, .ref 14), (1, .int v1), (2, .ref 34)]) C rfl (by decide) rfl d_Ce_keepResult_7 ?_
  refine r_aload_n C 2 rfl d_Ce_keepResult_8 ?_
  refine r_callV (As := []) (st := []) (lvc := 0) (mcc := 0) (msc := 0) C Rm M_Ra_isLarge rfl k_390 rfl (by decide) (Nat.le_of_ble_eq_true rfl) ⟨by decide, by decide⟩ d_Ce_keepResult_9 ?_
  refine Can.mono K (fun _ h1 z => ?_)
  obtain ⟨r1, rfl, K⟩ := z
  show Wg X 0 0 h1 [(0, .ref 14), (1, .int v1), (2, .ref 34)] [.int r1] 12
  refine r_if_eq C 18 d_Ce_keepResult_12 (by decide) ⟨fun c0 => ?_, fun c0 => ?_⟩
  · have K := K.1 c0
    refine r_aload_n C 0 rfl d_Ce_keepResult_18 ?_
    refine gf_Ce_heap (k2 := 15) C rfl rfl k_221 d_Ce_keepResult_19 ?_
    refine r_aload_n C 2 rfl d_Ce_keepResult_22 ?_
    refine r_callS (As := [.ref 34]) (st := [.ref 15]) (lvc := 2) (mcc := 0) (msc := 0) C Rm M_He_cellsFor_ rfl k_394 (by decide) (Nat.le_of_ble_eq_true rfl) ⟨by decide, by decide⟩ d_Ce_keepResult_23 ?_
    refine Can.mono K (fun _ h2 z => ?_)
    obtain ⟨r2, rfl, K⟩ := z
    show Wg X 0 0 h2 [(0, .ref 14), (1, .int v1), (2, .ref 34)] [.int r2, .ref 15] 26
    refine r_callV (As := [.int r2]) (st := []) (lvc := 4) (mcc := 0) (msc := 0) C Rm M_He_makeRoom rfl k_414 rfl (by decide) (Nat.le_of_ble_eq_true rfl) ⟨by decide, by decide⟩ d_Ce_keepResult_26 ?_
    refine Can.mono K (fun _ h3 z => ?_)
    obtain ⟨r3, rfl, K⟩ := z
    show Wg X 0 0 h3 [(0, .ref 14), (1, .int v1), (2, .ref 34)] [.int r3] 29
    refine r_if_ne C 35 d_Ce_keepResult_29 (by decide) ⟨fun c0 => ?_, fun c0 => ?_⟩
    · have K := K.1 c0
      refine r_aload_n C 0 rfl d_Ce_keepResult_35 ?_
      refine gf_Ce_heap (k2 := 15) C rfl rfl k_221 d_Ce_keepResult_36 ?_
      refine gf_He_registers (k2 := 17) C rfl rfl k_44 d_Ce_keepResult_39 ?_
      refine r_iload_n C 1 rfl d_Ce_keepResult_42 ?_
      refine r_aload_n C 0 rfl d_Ce_keepResult_43 ?_
      refine gf_Ce_heap (k2 := 15) C rfl rfl k_221 d_Ce_keepResult_44 ?_
      refine r_aload_n C 2 rfl d_Ce_keepResult_47 ?_
      refine r_callV (As := [.ref 34]) (st := [.int v1, .ref 17]) (lvc := 3) (mcc := 0) (msc := 0) C Rm M_He_addNumber rfl k_419 rfl (by decide) (Nat.le_of_ble_eq_true rfl) ⟨by decide, by decide⟩ d_Ce_keepResult_48 ?_
      refine Can.mono K (fun _ h4 z => ?_)
      obtain ⟨r4, rfl, K⟩ := z
      show Wg X 0 0 h4 [(0, .ref 14), (1, .int v1), (2, .ref 34)] [.int r4, .int v1, .ref 17] 51
      obtain ⟨s0, K⟩ := K
      refine r_iast C rfl s0 d_Ce_keepResult_51 ?_
      refine r_iconst (v := 0) C (by decide) d_Ce_keepResult_52 ?_
      exact q_iret C Q d_Ce_keepResult_53 ⟨_, rfl, K⟩
    · have K := K.2 c0
      refine r_bipush (v := (-2)) C (by decide) d_Ce_keepResult_32 ?_
      exact q_iret C Q d_Ce_keepResult_34 ⟨_, rfl, K⟩
  · have K := K.2 c0
    refine r_bipush (v := (-3)) C (by decide) d_Ce_keepResult_15 ?_
    exact q_iret C Q d_Ce_keepResult_17 ⟨_, rfl, K⟩
set_option maxRecDepth 20000 in
theorem g_Ce_nil_0 {X : CX} {h : HP} {v1 : Int32} {Φ : HP → Prop} (C : Cok X b_Ce_nil 2 R_Ce none) (Rm : xR X = rml 11 0 0) (Q : Qok X 0 0 (fun r h2 => r = none ∧ Φ h2)) 
    (K : K_Ce_checkRegister [.int v1] h (fun h1 => vp_in v1 8 ∧ (Φ (up h1 17 v1.toNatClampNeg 0)))) :
    Wg X 0 0 h [(0, .ref 14), (1, .int v1)] [] 0 := by
  refine r_iload_n C 1 rfl d_Ce_nil_0 ?_
  refine r_callS (As := [.int v1]) (st := []) (lvc := 10) (mcc := 0) (msc := 0) C Rm M_Ce_checkRegister rfl k_298 (by decide) (Nat.le_of_ble_eq_true rfl) ⟨by decide, by decide⟩ d_Ce_nil_1 ?_
  refine Can.mono K (fun _ h1 z => ?_)
  obtain ⟨rfl, K⟩ := z
  show Wg X 0 0 h1 [(0, .ref 14), (1, .int v1)] [] 4
  refine r_aload_n C 0 rfl d_Ce_nil_4 ?_
  refine gf_Ce_heap (k2 := 15) C rfl rfl k_221 d_Ce_nil_5 ?_
  refine gf_He_registers (k2 := 17) C rfl rfl k_44 d_Ce_nil_8 ?_
  refine r_iload_n C 1 rfl d_Ce_nil_11 ?_
  refine r_iconst (v := 0) C (by decide) d_Ce_nil_12 ?_
  obtain ⟨s0, K⟩ := K
  refine r_iast C rfl s0 d_Ce_nil_13 ?_
  exact q_vret C Q d_Ce_nil_14 ⟨rfl, K⟩
set_option maxRecDepth 20000 in
theorem g_Ce_load_0 {X : CX} {h : HP} {v1 : Int32} {v2 : Int64} {Φ : Int32 → HP → Prop} (C : Cok X b_Ce_load 4 R_Ce ((some .int))) (Rm : xR X = rml 11 0 0) (Q : Qok X 0 0 (fun r h2 => ∃ v, r = some (.int v) ∧ Φ v h2)) 
    (K : K_Ce_checkRegister [.int v1] h (fun h1 => K_Ra_setLong [.ref 34, .long v2] h1 (fun h2 => K_Ce_keepResult [.ref 14, .int v1] h2 (fun r3 h3 => Φ r3 h3)))) :
    Wg X 0 0 h [(0, .ref 14), (1, .int v1), (2, .long v2)] [] 0 := by
  refine r_iload_n C 1 rfl d_Ce_load_0 ?_
  refine r_callS (As := [.int v1]) (st := []) (lvc := 10) (mcc := 0) (msc := 0) C Rm M_Ce_checkRegister rfl k_298 (by decide) (Nat.le_of_ble_eq_true rfl) ⟨by decide, by decide⟩ d_Ce_load_1 ?_
  refine Can.mono K (fun _ h1 z => ?_)
  obtain ⟨rfl, K⟩ := z
  show Wg X 0 0 h1 [(0, .ref 14), (1, .int v1), (2, .long v2)] [] 4
  refine r_aload_n C 0 rfl d_Ce_load_4 ?_
  refine gf_Ce_reckoner (k2 := 23) C rfl rfl k_223 d_Ce_load_5 ?_
  refine gf_Re_result (k2 := 34) C rfl rfl k_169 d_Ce_load_8 ?_
  refine r_lload_n C 2 rfl d_Ce_load_11 ?_
  refine r_callV (As := [.long v2]) (st := []) (lvc := 2) (mcc := 0) (msc := 0) C Rm M_Ra_setLong rfl k_374 rfl (by decide) (Nat.le_of_ble_eq_true rfl) ⟨by decide, by decide⟩ d_Ce_load_12 ?_
  refine Can.mono K (fun _ h2 z => ?_)
  obtain ⟨rfl, K⟩ := z
  show Wg X 0 0 h2 [(0, .ref 14), (1, .int v1), (2, .long v2)] [] 15
  refine r_aload_n C 0 rfl d_Ce_load_15 ?_
  refine r_iload_n C 1 rfl d_Ce_load_16 ?_
  refine r_callV (As := [.int v1]) (st := []) (lvc := 5) (mcc := 0) (msc := 0) C Rm M_Ce_keepResult rfl k_386 rfl (by decide) (Nat.le_of_ble_eq_true rfl) ⟨by decide, by decide⟩ d_Ce_load_17 ?_
  refine Can.mono K (fun _ h3 z => ?_)
  obtain ⟨r3, rfl, K⟩ := z
  show Wg X 0 0 h3 [(0, .ref 14), (1, .int v1), (2, .long v2)] [.int r3] 20
  exact q_iret C Q d_Ce_load_20 ⟨_, rfl, K⟩
set_option maxRecDepth 20000 in
theorem g_Ce_copy_0 {X : CX} {h : HP} {v1 : Int32} {v2 : Int32} {Φ : HP → Prop} (C : Cok X b_Ce_copy 3 R_Ce none) (Rm : xR X = rml 11 0 0) (Q : Qok X 0 0 (fun r h2 => r = none ∧ Φ h2)) 
    (K : K_Ce_checkRegister [.int v1] h (fun h1 => K_Ce_checkRegister [.int v2] h1 (fun h2 => vp_in v2 8 ∧ (vp_in v1 8 ∧ (Φ (up h2 17 v1.toNatClampNeg (h2 17 v2.toNatClampNeg))))))) :
    Wg X 0 0 h [(0, .ref 14), (1, .int v1), (2, .int v2)] [] 0 := by
  refine r_iload_n C 1 rfl d_Ce_copy_0 ?_
  refine r_callS (As := [.int v1]) (st := []) (lvc := 10) (mcc := 0) (msc := 0) C Rm M_Ce_checkRegister rfl k_298 (by decide) (Nat.le_of_ble_eq_true rfl) ⟨by decide, by decide⟩ d_Ce_copy_1 ?_
  refine Can.mono K (fun _ h1 z => ?_)
  obtain ⟨rfl, K⟩ := z
  show Wg X 0 0 h1 [(0, .ref 14), (1, .int v1), (2, .int v2)] [] 4
  refine r_iload_n C 2 rfl d_Ce_copy_4 ?_
  refine r_callS (As := [.int v2]) (st := []) (lvc := 10) (mcc := 0) (msc := 0) C Rm M_Ce_checkRegister rfl k_298 (by decide) (Nat.le_of_ble_eq_true rfl) ⟨by decide, by decide⟩ d_Ce_copy_5 ?_
  refine Can.mono K (fun _ h2 z => ?_)
  obtain ⟨rfl, K⟩ := z
  show Wg X 0 0 h2 [(0, .ref 14), (1, .int v1), (2, .int v2)] [] 8
  refine r_aload_n C 0 rfl d_Ce_copy_8 ?_
  refine gf_Ce_heap (k2 := 15) C rfl rfl k_221 d_Ce_copy_9 ?_
  refine gf_He_registers (k2 := 17) C rfl rfl k_44 d_Ce_copy_12 ?_
  refine r_iload_n C 1 rfl d_Ce_copy_15 ?_
  refine r_aload_n C 0 rfl d_Ce_copy_16 ?_
  refine gf_Ce_heap (k2 := 15) C rfl rfl k_221 d_Ce_copy_17 ?_
  refine gf_He_registers (k2 := 17) C rfl rfl k_44 d_Ce_copy_20 ?_
  refine r_iload_n C 2 rfl d_Ce_copy_23 ?_
  obtain ⟨s0, K⟩ := K
  refine r_iald C rfl s0 d_Ce_copy_24 ?_
  obtain ⟨s0, K⟩ := K
  refine r_iast C rfl s0 d_Ce_copy_25 ?_
  exact q_vret C Q d_Ce_copy_26 ⟨rfl, K⟩
set_option maxRecDepth 20000 in
theorem g_Ce_cons_0 {X : CX} {h : HP} {v1 : Int32} {v2 : Int32} {v3 : Int32} {Φ : Int32 → HP → Prop} (C : Cok X b_Ce_cons 5 R_Ce ((some .int))) (Rm : xR X = rml 11 0 0) (Q : Qok X 0 0 (fun r h2 => ∃ v, r = some (.int v) ∧ Φ v h2)) 
    (K : K_Ce_checkRegister [.int v1] h (fun h1 => K_Ce_checkRegister [.int v2] h1 (fun h2 => K_Ce_checkRegister [.int v3] h2 (fun h3 => K_He_makeRoom [.ref 15, .int 3] h3 (fun r4 h4 => (¬ r4 = 0 → vp_in v2 8 ∧ (vp_in v3 8 ∧ (K_He_addTriple [.ref 15, .int 4, .int (h4 17 v2.toNatClampNeg), .int (h4 17 v3.toNatClampNeg)] h4 (fun r5 h5 => vp_in v1 8 ∧ (K_He_cellOf [.int r5] (up h5 17 v1.toNatClampNeg r5) (fun r6 h6 => Φ r6 h6)))))) ∧ (r4 = 0 → Φ ((-2)) h4)))))) :
    Wg X 0 0 h [(0, .ref 14), (1, .int v1), (2, .int v2), (3, .int v3)] [] 0 := by
  refine r_iload_n C 1 rfl d_Ce_cons_0 ?_
  refine r_callS (As := [.int v1]) (st := []) (lvc := 10) (mcc := 0) (msc := 0) C Rm M_Ce_checkRegister rfl k_298 (by decide) (Nat.le_of_ble_eq_true rfl) ⟨by decide, by decide⟩ d_Ce_cons_1 ?_
  refine Can.mono K (fun _ h1 z => ?_)
  obtain ⟨rfl, K⟩ := z
  show Wg X 0 0 h1 [(0, .ref 14), (1, .int v1), (2, .int v2), (3, .int v3)] [] 4
  refine r_iload_n C 2 rfl d_Ce_cons_4 ?_
  refine r_callS (As := [.int v2]) (st := []) (lvc := 10) (mcc := 0) (msc := 0) C Rm M_Ce_checkRegister rfl k_298 (by decide) (Nat.le_of_ble_eq_true rfl) ⟨by decide, by decide⟩ d_Ce_cons_5 ?_
  refine Can.mono K (fun _ h2 z => ?_)
  obtain ⟨rfl, K⟩ := z
  show Wg X 0 0 h2 [(0, .ref 14), (1, .int v1), (2, .int v2), (3, .int v3)] [] 8
  refine r_iload_n C 3 rfl d_Ce_cons_8 ?_
  refine r_callS (As := [.int v3]) (st := []) (lvc := 10) (mcc := 0) (msc := 0) C Rm M_Ce_checkRegister rfl k_298 (by decide) (Nat.le_of_ble_eq_true rfl) ⟨by decide, by decide⟩ d_Ce_cons_9 ?_
  refine Can.mono K (fun _ h3 z => ?_)
  obtain ⟨rfl, K⟩ := z
  show Wg X 0 0 h3 [(0, .ref 14), (1, .int v1), (2, .int v2), (3, .int v3)] [] 12
  refine r_aload_n C 0 rfl d_Ce_cons_12 ?_
  refine gf_Ce_heap (k2 := 15) C rfl rfl k_221 d_Ce_cons_13 ?_
  refine r_iconst (v := 3) C (by decide) d_Ce_cons_16 ?_
  refine r_callV (As := [.int 3]) (st := []) (lvc := 4) (mcc := 0) (msc := 0) C Rm M_He_makeRoom rfl k_414 rfl (by decide) (Nat.le_of_ble_eq_true rfl) ⟨by decide, by decide⟩ d_Ce_cons_17 ?_
  refine Can.mono K (fun _ h4 z => ?_)
  obtain ⟨r4, rfl, K⟩ := z
  show Wg X 0 0 h4 [(0, .ref 14), (1, .int v1), (2, .int v2), (3, .int v3)] [.int r4] 20
  refine r_if_ne C 26 d_Ce_cons_20 (by decide) ⟨fun c0 => ?_, fun c0 => ?_⟩
  · have K := K.1 c0
    refine r_aload_n C 0 rfl d_Ce_cons_26 ?_
    refine gf_Ce_heap (k2 := 15) C rfl rfl k_221 d_Ce_cons_27 ?_
    refine r_iconst (v := 4) C (by decide) d_Ce_cons_30 ?_
    refine r_aload_n C 0 rfl d_Ce_cons_31 ?_
    refine gf_Ce_heap (k2 := 15) C rfl rfl k_221 d_Ce_cons_32 ?_
    refine gf_He_registers (k2 := 17) C rfl rfl k_44 d_Ce_cons_35 ?_
    refine r_iload_n C 2 rfl d_Ce_cons_38 ?_
    obtain ⟨s0, K⟩ := K
    refine r_iald C rfl s0 d_Ce_cons_39 ?_
    refine r_aload_n C 0 rfl d_Ce_cons_40 ?_
    refine gf_Ce_heap (k2 := 15) C rfl rfl k_221 d_Ce_cons_41 ?_
    refine gf_He_registers (k2 := 17) C rfl rfl k_44 d_Ce_cons_44 ?_
    refine r_iload_n C 3 rfl d_Ce_cons_47 ?_
    obtain ⟨s0, K⟩ := K
    refine r_iald C rfl s0 d_Ce_cons_48 ?_
    refine r_callV (As := [.int 4, .int (h4 17 v2.toNatClampNeg), .int (h4 17 v3.toNatClampNeg)]) (st := []) (lvc := 1) (mcc := 0) (msc := 0) C Rm M_He_addTriple rfl k_449 rfl (by decide) (Nat.le_of_ble_eq_true rfl) ⟨by decide, by decide⟩ d_Ce_cons_49 ?_
    refine Can.mono K (fun _ h5 z => ?_)
    obtain ⟨r5, rfl, K⟩ := z
    show Wg X 0 0 h5 [(0, .ref 14), (1, .int v1), (2, .int v2), (3, .int v3)] [.int r5] 52
    refine r_istore (ls2 := [(0, .ref 14), (1, .int v1), (2, .int v2), (3, .int v3), (4, .int r5)]) C (by decide) rfl d_Ce_cons_52 ?_
    refine r_aload_n C 0 rfl d_Ce_cons_54 ?_
    refine gf_Ce_heap (k2 := 15) C rfl rfl k_221 d_Ce_cons_55 ?_
    refine gf_He_registers (k2 := 17) C rfl rfl k_44 d_Ce_cons_58 ?_
    refine r_iload_n C 1 rfl d_Ce_cons_61 ?_
    refine r_iload C 4 rfl d_Ce_cons_62 ?_
    obtain ⟨s0, K⟩ := K
    refine r_iast C rfl s0 d_Ce_cons_64 ?_
    refine r_iload C 4 rfl d_Ce_cons_65 ?_
    refine r_callS (As := [.int r5]) (st := []) (lvc := 0) (mcc := 0) (msc := 0) C Rm M_He_cellOf rfl k_450 (by decide) (Nat.le_of_ble_eq_true rfl) ⟨by decide, by decide⟩ d_Ce_cons_67 ?_
    refine Can.mono K (fun _ h6 z => ?_)
    obtain ⟨r6, rfl, K⟩ := z
    show Wg X 0 0 h6 [(0, .ref 14), (1, .int v1), (2, .int v2), (3, .int v3), (4, .int r5)] [.int r6] 70
    exact q_iret C Q d_Ce_cons_70 ⟨_, rfl, K⟩
  · have K := K.2 c0
    refine r_bipush (v := (-2)) C (by decide) d_Ce_cons_23 ?_
    exact q_iret C Q d_Ce_cons_25 ⟨_, rfl, K⟩
set_option maxRecDepth 20000 in
theorem g_Ce_part_0 {X : CX} {h : HP} {v1 : Int32} {v2 : Int32} {v3 : Int32} {Φ : Int32 → HP → Prop} (C : Cok X b_Ce_part 5 R_Ce ((some .int))) (Rm : xR X = rml 11 0 0) (Q : Qok X 0 0 (fun r h2 => ∃ v, r = some (.int v) ∧ Φ v h2)) 
    (K : K_Ce_checkRegister [.int v1] h (fun h1 => K_Ce_checkRegister [.int v2] h1 (fun h2 => vp_in v2 8 ∧ (K_He_sortOf [.ref 15, .int (h2 17 v2.toNatClampNeg)] h2 (fun r3 h3 => (r3 = (4 : Int32) → (v3 = 0 → K_He_secondOf [.ref 15, .int (h2 17 v2.toNatClampNeg)] h3 (fun r4 h4 => vp_in v1 8 ∧ (Φ 0 (up h4 17 v1.toNatClampNeg r4)))) ∧ (¬ v3 = 0 → K_He_firstOf [.ref 15, .int (h2 17 v2.toNatClampNeg)] h3 (fun r5 h5 => vp_in v1 8 ∧ (Φ 0 (up h5 17 v1.toNatClampNeg r5))))) ∧ (¬ r3 = (4 : Int32) → Φ ((-4)) h3)))))) :
    Wg X 0 0 h [(0, .ref 14), (1, .int v1), (2, .int v2), (3, .int v3)] [] 0 := by
  refine r_iload_n C 1 rfl d_Ce_part_0 ?_
  refine r_callS (As := [.int v1]) (st := []) (lvc := 10) (mcc := 0) (msc := 0) C Rm M_Ce_checkRegister rfl k_298 (by decide) (Nat.le_of_ble_eq_true rfl) ⟨by decide, by decide⟩ d_Ce_part_1 ?_
  refine Can.mono K (fun _ h1 z => ?_)
  obtain ⟨rfl, K⟩ := z
  show Wg X 0 0 h1 [(0, .ref 14), (1, .int v1), (2, .int v2), (3, .int v3)] [] 4
  refine r_iload_n C 2 rfl d_Ce_part_4 ?_
  refine r_callS (As := [.int v2]) (st := []) (lvc := 10) (mcc := 0) (msc := 0) C Rm M_Ce_checkRegister rfl k_298 (by decide) (Nat.le_of_ble_eq_true rfl) ⟨by decide, by decide⟩ d_Ce_part_5 ?_
  refine Can.mono K (fun _ h2 z => ?_)
  obtain ⟨rfl, K⟩ := z
  show Wg X 0 0 h2 [(0, .ref 14), (1, .int v1), (2, .int v2), (3, .int v3)] [] 8
  refine r_aload_n C 0 rfl d_Ce_part_8 ?_
  refine gf_Ce_heap (k2 := 15) C rfl rfl k_221 d_Ce_part_9 ?_
  refine gf_He_registers (k2 := 17) C rfl rfl k_44 d_Ce_part_12 ?_
  refine r_iload_n C 2 rfl d_Ce_part_15 ?_
  obtain ⟨s0, K⟩ := K
  refine r_iald C rfl s0 d_Ce_part_16 ?_
  refine r_istore (ls2 := [(0, .ref 14), (1, .int v1), (2, .int v2), (3, .int v3), (4, .int (h2 17 v2.toNatClampNeg))]) C (by decide) rfl d_Ce_part_17 ?_
  refine r_aload_n C 0 rfl d_Ce_part_19 ?_
  refine gf_Ce_heap (k2 := 15) C rfl rfl k_221 d_Ce_part_20 ?_
  refine r_iload C 4 rfl d_Ce_part_23 ?_
  refine r_callV (As := [.int (h2 17 v2.toNatClampNeg)]) (st := []) (lvc := 1) (mcc := 0) (msc := 0) C Rm M_He_sortOf rfl k_458 rfl (by decide) (Nat.le_of_ble_eq_true rfl) ⟨by decide, by decide⟩ d_Ce_part_25 ?_
  refine Can.mono K (fun _ h3 z => ?_)
  obtain ⟨r3, rfl, K⟩ := z
  show Wg X 0 0 h3 [(0, .ref 14), (1, .int v1), (2, .int v2), (3, .int v3), (4, .int (h2 17 v2.toNatClampNeg))] [.int r3] 28
  refine r_iconst (v := 4) C (by decide) d_Ce_part_28 ?_
  refine r_icmp_eq C 35 d_Ce_part_29 (by decide) ⟨fun c0 => ?_, fun c0 => ?_⟩
  · have K := K.1 c0
    refine r_aload_n C 0 rfl d_Ce_part_35 ?_
    refine gf_Ce_heap (k2 := 15) C rfl rfl k_221 d_Ce_part_36 ?_
    refine gf_He_registers (k2 := 17) C rfl rfl k_44 d_Ce_part_39 ?_
    refine r_iload_n C 1 rfl d_Ce_part_42 ?_
    refine r_iload_n C 3 rfl d_Ce_part_43 ?_
    refine r_if_eq C 59 d_Ce_part_44 (by decide) ⟨fun c0 => ?_, fun c0 => ?_⟩
    · have K := K.1 c0
      refine r_aload_n C 0 rfl d_Ce_part_59 ?_
      refine gf_Ce_heap (k2 := 15) C rfl rfl k_221 d_Ce_part_60 ?_
      refine r_iload C 4 rfl d_Ce_part_63 ?_
      refine r_callV (As := [.int (h2 17 v2.toNatClampNeg)]) (st := [.int v1, .ref 17]) (lvc := 1) (mcc := 0) (msc := 0) C Rm M_He_secondOf rfl k_466 rfl (by decide) (Nat.le_of_ble_eq_true rfl) ⟨by decide, by decide⟩ d_Ce_part_65 ?_
      refine Can.mono K (fun _ h4 z => ?_)
      obtain ⟨r4, rfl, K⟩ := z
      show Wg X 0 0 h4 [(0, .ref 14), (1, .int v1), (2, .int v2), (3, .int v3), (4, .int (h2 17 v2.toNatClampNeg))] [.int r4, .int v1, .ref 17] 68
      obtain ⟨s0, K⟩ := K
      refine r_iast C rfl s0 d_Ce_part_68 ?_
      refine r_iconst (v := 0) C (by decide) d_Ce_part_69 ?_
      exact q_iret C Q d_Ce_part_70 ⟨_, rfl, K⟩
    · have K := K.2 c0
      refine r_aload_n C 0 rfl d_Ce_part_47 ?_
      refine gf_Ce_heap (k2 := 15) C rfl rfl k_221 d_Ce_part_48 ?_
      refine r_iload C 4 rfl d_Ce_part_51 ?_
      refine r_callV (As := [.int (h2 17 v2.toNatClampNeg)]) (st := [.int v1, .ref 17]) (lvc := 1) (mcc := 0) (msc := 0) C Rm M_He_firstOf rfl k_462 rfl (by decide) (Nat.le_of_ble_eq_true rfl) ⟨by decide, by decide⟩ d_Ce_part_53 ?_
      refine Can.mono K (fun _ h5 z => ?_)
      obtain ⟨r5, rfl, K⟩ := z
      show Wg X 0 0 h5 [(0, .ref 14), (1, .int v1), (2, .int v2), (3, .int v3), (4, .int (h2 17 v2.toNatClampNeg))] [.int r5, .int v1, .ref 17] 56
      refine r_goto C 68 d_Ce_part_56 (by decide) ?_
      obtain ⟨s0, K⟩ := K
      refine r_iast C rfl s0 d_Ce_part_68 ?_
      refine r_iconst (v := 0) C (by decide) d_Ce_part_69 ?_
      exact q_iret C Q d_Ce_part_70 ⟨_, rfl, K⟩
  · have K := K.2 c0
    refine r_bipush (v := (-4)) C (by decide) d_Ce_part_32 ?_
    exact q_iret C Q d_Ce_part_34 ⟨_, rfl, K⟩
set_option maxRecDepth 20000 in
theorem g_Ce_change_0 {X : CX} {h : HP} {v1 : Int32} {v2 : Int32} {v3 : Int32} {Φ : Int32 → HP → Prop} (C : Cok X b_Ce_change 5 R_Ce ((some .int))) (Rm : xR X = rml 11 0 0) (Q : Qok X 0 0 (fun r h2 => ∃ v, r = some (.int v) ∧ Φ v h2)) 
    (K : K_Ce_checkRegister [.int v1] h (fun h1 => K_Ce_checkRegister [.int v3] h1 (fun h2 => vp_in v1 8 ∧ (K_He_sortOf [.ref 15, .int (h2 17 v1.toNatClampNeg)] h2 (fun r3 h3 => (r3 = (4 : Int32) → K_He_cellOf [.int (h2 17 v1.toNatClampNeg)] h3 (fun r4 h4 => (v2 = 0 → vp_in v3 8 ∧ (vp_in (r4 + 2) 400 ∧ (Φ 0 (up h4 16 (r4 + 2).toNatClampNeg (h4 17 v3.toNatClampNeg))))) ∧ (¬ v2 = 0 → vp_in v3 8 ∧ (vp_in (r4 + 1) 400 ∧ (Φ 0 (up h4 16 (r4 + 1).toNatClampNeg (h4 17 v3.toNatClampNeg))))))) ∧ (¬ r3 = (4 : Int32) → Φ ((-4)) h3)))))) :
    Wg X 0 0 h [(0, .ref 14), (1, .int v1), (2, .int v2), (3, .int v3)] [] 0 := by
  refine r_iload_n C 1 rfl d_Ce_change_0 ?_
  refine r_callS (As := [.int v1]) (st := []) (lvc := 10) (mcc := 0) (msc := 0) C Rm M_Ce_checkRegister rfl k_298 (by decide) (Nat.le_of_ble_eq_true rfl) ⟨by decide, by decide⟩ d_Ce_change_1 ?_
  refine Can.mono K (fun _ h1 z => ?_)
  obtain ⟨rfl, K⟩ := z
  show Wg X 0 0 h1 [(0, .ref 14), (1, .int v1), (2, .int v2), (3, .int v3)] [] 4
  refine r_iload_n C 3 rfl d_Ce_change_4 ?_
  refine r_callS (As := [.int v3]) (st := []) (lvc := 10) (mcc := 0) (msc := 0) C Rm M_Ce_checkRegister rfl k_298 (by decide) (Nat.le_of_ble_eq_true rfl) ⟨by decide, by decide⟩ d_Ce_change_5 ?_
  refine Can.mono K (fun _ h2 z => ?_)
  obtain ⟨rfl, K⟩ := z
  show Wg X 0 0 h2 [(0, .ref 14), (1, .int v1), (2, .int v2), (3, .int v3)] [] 8
  refine r_aload_n C 0 rfl d_Ce_change_8 ?_
  refine gf_Ce_heap (k2 := 15) C rfl rfl k_221 d_Ce_change_9 ?_
  refine gf_He_registers (k2 := 17) C rfl rfl k_44 d_Ce_change_12 ?_
  refine r_iload_n C 1 rfl d_Ce_change_15 ?_
  obtain ⟨s0, K⟩ := K
  refine r_iald C rfl s0 d_Ce_change_16 ?_
  refine r_istore (ls2 := [(0, .ref 14), (1, .int v1), (2, .int v2), (3, .int v3), (4, .int (h2 17 v1.toNatClampNeg))]) C (by decide) rfl d_Ce_change_17 ?_
  refine r_aload_n C 0 rfl d_Ce_change_19 ?_
  refine gf_Ce_heap (k2 := 15) C rfl rfl k_221 d_Ce_change_20 ?_
  refine r_iload C 4 rfl d_Ce_change_23 ?_
  refine r_callV (As := [.int (h2 17 v1.toNatClampNeg)]) (st := []) (lvc := 1) (mcc := 0) (msc := 0) C Rm M_He_sortOf rfl k_458 rfl (by decide) (Nat.le_of_ble_eq_true rfl) ⟨by decide, by decide⟩ d_Ce_change_25 ?_
  refine Can.mono K (fun _ h3 z => ?_)
  obtain ⟨r3, rfl, K⟩ := z
  show Wg X 0 0 h3 [(0, .ref 14), (1, .int v1), (2, .int v2), (3, .int v3), (4, .int (h2 17 v1.toNatClampNeg))] [.int r3] 28
  refine r_iconst (v := 4) C (by decide) d_Ce_change_28 ?_
  refine r_icmp_eq C 35 d_Ce_change_29 (by decide) ⟨fun c0 => ?_, fun c0 => ?_⟩
  · have K := K.1 c0
    refine r_aload_n C 0 rfl d_Ce_change_35 ?_
    refine gf_Ce_heap (k2 := 15) C rfl rfl k_221 d_Ce_change_36 ?_
    refine gf_He_cells (k2 := 16) C rfl rfl k_42 d_Ce_change_39 ?_
    refine r_iload C 4 rfl d_Ce_change_42 ?_
    refine r_callS (As := [.int (h2 17 v1.toNatClampNeg)]) (st := [.ref 16]) (lvc := 0) (mcc := 0) (msc := 0) C Rm M_He_cellOf rfl k_450 (by decide) (Nat.le_of_ble_eq_true rfl) ⟨by decide, by decide⟩ d_Ce_change_44 ?_
    refine Can.mono K (fun _ h4 z => ?_)
    obtain ⟨r4, rfl, K⟩ := z
    show Wg X 0 0 h4 [(0, .ref 14), (1, .int v1), (2, .int v2), (3, .int v3), (4, .int (h2 17 v1.toNatClampNeg))] [.int r4, .ref 16] 47
    refine r_iload_n C 2 rfl d_Ce_change_47 ?_
    refine r_if_eq C 55 d_Ce_change_48 (by decide) ⟨fun c0 => ?_, fun c0 => ?_⟩
    · have K := K.1 c0
      refine r_iconst (v := 2) C (by decide) d_Ce_change_55 ?_
      refine r_iadd C d_Ce_change_56 ?_
      refine r_aload_n C 0 rfl d_Ce_change_57 ?_
      refine gf_Ce_heap (k2 := 15) C rfl rfl k_221 d_Ce_change_58 ?_
      refine gf_He_registers (k2 := 17) C rfl rfl k_44 d_Ce_change_61 ?_
      refine r_iload_n C 3 rfl d_Ce_change_64 ?_
      obtain ⟨s0, K⟩ := K
      refine r_iald C rfl s0 d_Ce_change_65 ?_
      obtain ⟨s0, K⟩ := K
      refine r_iast C rfl s0 d_Ce_change_66 ?_
      refine r_iconst (v := 0) C (by decide) d_Ce_change_67 ?_
      exact q_iret C Q d_Ce_change_68 ⟨_, rfl, K⟩
    · have K := K.2 c0
      refine r_iconst (v := 1) C (by decide) d_Ce_change_51 ?_
      refine r_goto C 56 d_Ce_change_52 (by decide) ?_
      refine r_iadd C d_Ce_change_56 ?_
      refine r_aload_n C 0 rfl d_Ce_change_57 ?_
      refine gf_Ce_heap (k2 := 15) C rfl rfl k_221 d_Ce_change_58 ?_
      refine gf_He_registers (k2 := 17) C rfl rfl k_44 d_Ce_change_61 ?_
      refine r_iload_n C 3 rfl d_Ce_change_64 ?_
      obtain ⟨s0, K⟩ := K
      refine r_iald C rfl s0 d_Ce_change_65 ?_
      obtain ⟨s0, K⟩ := K
      refine r_iast C rfl s0 d_Ce_change_66 ?_
      refine r_iconst (v := 0) C (by decide) d_Ce_change_67 ?_
      exact q_iret C Q d_Ce_change_68 ⟨_, rfl, K⟩
  · have K := K.2 c0
    refine r_bipush (v := (-4)) C (by decide) d_Ce_change_32 ?_
    exact q_iret C Q d_Ce_change_34 ⟨_, rfl, K⟩
set_option maxRecDepth 20000 in
theorem g_Ce_work_0 {X : CX} {h : HP} {v1 : Int32} {v2 : Int32} {v3 : Int32} {v4 : Int32} {Φ : Int32 → HP → Prop} (C : Cok X b_Ce_work 7 R_Ce ((some .int))) (Rm : xR X = rml 13 0 0) (Q : Qok X 0 0 (fun r h2 => ∃ v, r = some (.int v) ∧ Φ v h2)) 
    (K : K_Ce_checkRegister [.int v1] h (fun h1 => K_Ce_checkRegister [.int v2] h1 (fun h2 => K_Ce_checkRegister [.int v3] h2 (fun h3 => K_Ce_checkRange [.int v4, .int 6] h3 (fun h4 => (v4 < (4 : Int32) → Wg X 0 0 h4 [(0, .ref 14), (1, .int v1), (2, .int v2), (3, .int v3), (4, .int v4)] [.int 0] 30) ∧ (¬ v4 < (4 : Int32) → Wg X 0 0 h4 [(0, .ref 14), (1, .int v1), (2, .int v2), (3, .int v3), (4, .int v4)] [.int 1] 30)))))) :
    Wg X 0 0 h [(0, .ref 14), (1, .int v1), (2, .int v2), (3, .int v3), (4, .int v4)] [] 0 := by
  refine r_iload_n C 1 rfl d_Ce_work_0 ?_
  refine r_callS (As := [.int v1]) (st := []) (lvc := 10) (mcc := 0) (msc := 0) C Rm M_Ce_checkRegister rfl k_298 (by decide) (Nat.le_of_ble_eq_true rfl) ⟨by decide, by decide⟩ d_Ce_work_1 ?_
  refine Can.mono K (fun _ h1 z => ?_)
  obtain ⟨rfl, K⟩ := z
  show Wg X 0 0 h1 [(0, .ref 14), (1, .int v1), (2, .int v2), (3, .int v3), (4, .int v4)] [] 4
  refine r_iload_n C 2 rfl d_Ce_work_4 ?_
  refine r_callS (As := [.int v2]) (st := []) (lvc := 10) (mcc := 0) (msc := 0) C Rm M_Ce_checkRegister rfl k_298 (by decide) (Nat.le_of_ble_eq_true rfl) ⟨by decide, by decide⟩ d_Ce_work_5 ?_
  refine Can.mono K (fun _ h2 z => ?_)
  obtain ⟨rfl, K⟩ := z
  show Wg X 0 0 h2 [(0, .ref 14), (1, .int v1), (2, .int v2), (3, .int v3), (4, .int v4)] [] 8
  refine r_iload_n C 3 rfl d_Ce_work_8 ?_
  refine r_callS (As := [.int v3]) (st := []) (lvc := 10) (mcc := 0) (msc := 0) C Rm M_Ce_checkRegister rfl k_298 (by decide) (Nat.le_of_ble_eq_true rfl) ⟨by decide, by decide⟩ d_Ce_work_9 ?_
  refine Can.mono K (fun _ h3 z => ?_)
  obtain ⟨rfl, K⟩ := z
  show Wg X 0 0 h3 [(0, .ref 14), (1, .int v1), (2, .int v2), (3, .int v3), (4, .int v4)] [] 12
  refine r_iload C 4 rfl d_Ce_work_12 ?_
  refine r_bipush (v := 6) C (by decide) d_Ce_work_14 ?_
  refine r_callS (As := [.int v4, .int 6]) (st := []) (lvc := 9) (mcc := 0) (msc := 0) C Rm M_Ce_checkRange rfl k_301 (by decide) (Nat.le_of_ble_eq_true rfl) ⟨by decide, by decide⟩ d_Ce_work_16 ?_
  refine Can.mono K (fun _ h4 z => ?_)
  obtain ⟨rfl, K⟩ := z
  show Wg X 0 0 h4 [(0, .ref 14), (1, .int v1), (2, .int v2), (3, .int v3), (4, .int v4)] [] 19
  refine r_iload C 4 rfl d_Ce_work_19 ?_
  refine r_iconst (v := 4) C (by decide) d_Ce_work_21 ?_
  refine r_icmp_lt C 29 d_Ce_work_22 (by decide) ⟨fun c0 => ?_, fun c0 => ?_⟩
  · have K := K.1 c0
    refine r_iconst (v := 0) C (by decide) d_Ce_work_29 ?_
    exact K
  · have K := K.2 c0
    refine r_iconst (v := 1) C (by decide) d_Ce_work_25 ?_
    refine r_goto C 30 d_Ce_work_26 (by decide) ?_
    exact K
set_option maxRecDepth 20000 in
theorem g_Ce_work_30 {X : CX} {h : HP} {v1 : Int32} {v2 : Int32} {v3 : Int32} {v4 : Int32} {t0 : Int32} {Φ : Int32 → HP → Prop} (C : Cok X b_Ce_work 7 R_Ce ((some .int))) (Rm : xR X = rml 13 0 0) (Q : Qok X 0 0 (fun r h2 => ∃ v, r = some (.int v) ∧ Φ v h2)) 
    (K : K_Ce_isOperand [.ref 14, .int v2, .int t0] h (fun r1 h1 => (r1 = 0 → Φ ((-4)) h1) ∧ (¬ r1 = 0 → K_Ce_isOperand [.ref 14, .int v3, .int t0] h1 (fun r2 h2 => (¬ r2 = 0 → vp_in v2 8 ∧ (K_He_fetchNumber [.ref 15, .int (h2 17 v2.toNatClampNeg), .ref 24] h2 (fun h3 => vp_in v3 8 ∧ (K_He_fetchNumber [.ref 15, .int (h3 17 v3.toNatClampNeg), .ref 29] h3 (fun h4 => (v4 = (3 : Int32) → K_Wh_isZero [.ref 30] h4 (fun r5 h5 => (r5 = 0 → Wg X 0 0 h5 [(0, .ref 14), (1, .int v1), (2, .int v2), (3, .int v3), (4, .int v4), (5, .int t0), (6, .int 1)] [] 150) ∧ (¬ r5 = 0 → Φ ((-5)) h5))) ∧ (¬ v4 = (3 : Int32) → (v4 = (4 : Int32) → K_Wh_isZero [.ref 30] h4 (fun r6 h6 => (r6 = 0 → Wg X 0 0 h6 [(0, .ref 14), (1, .int v1), (2, .int v2), (3, .int v3), (4, .int v4), (5, .int t0), (6, .int 1)] [] 150) ∧ (¬ r6 = 0 → Φ ((-5)) h6))) ∧ (¬ v4 = (4 : Int32) → (¬ v4 = (5 : Int32) → Wg X 0 0 h4 [(0, .ref 14), (1, .int v1), (2, .int v2), (3, .int v3), (4, .int v4), (5, .int t0), (6, .int 0)] [] 150) ∧ (v4 = (5 : Int32) → K_Wh_isZero [.ref 30] h4 (fun r7 h7 => (r7 = 0 → Wg X 0 0 h7 [(0, .ref 14), (1, .int v1), (2, .int v2), (3, .int v3), (4, .int v4), (5, .int t0), (6, .int 1)] [] 150) ∧ (¬ r7 = 0 → Φ ((-5)) h7)))))))))) ∧ (r2 = 0 → Φ ((-4)) h2))))) :
    Wg X 0 0 h [(0, .ref 14), (1, .int v1), (2, .int v2), (3, .int v3), (4, .int v4)] [.int t0] 30 := by
  refine r_istore (ls2 := [(0, .ref 14), (1, .int v1), (2, .int v2), (3, .int v3), (4, .int v4), (5, .int t0)]) C (by decide) rfl d_Ce_work_30 ?_
  refine r_aload_n C 0 rfl d_Ce_work_32 ?_
  refine r_iload_n C 2 rfl d_Ce_work_33 ?_
  refine r_iload C 5 rfl d_Ce_work_34 ?_
  refine r_callV (As := [.int v2, .int t0]) (st := []) (lvc := 2) (mcc := 0) (msc := 0) C Rm M_Ce_isOperand rfl k_484 rfl (by decide) (Nat.le_of_ble_eq_true rfl) ⟨by decide, by decide⟩ d_Ce_work_36 ?_
  refine Can.mono K (fun _ h1 z => ?_)
  obtain ⟨r1, rfl, K⟩ := z
  show Wg X 0 0 h1 [(0, .ref 14), (1, .int v1), (2, .int v2), (3, .int v3), (4, .int v4), (5, .int t0)] [.int r1] 39
  refine r_if_eq C 52 d_Ce_work_39 (by decide) ⟨fun c0 => ?_, fun c0 => ?_⟩
  · have K := K.1 c0
    refine r_bipush (v := (-4)) C (by decide) d_Ce_work_52 ?_
    exact q_iret C Q d_Ce_work_54 ⟨_, rfl, K⟩
  · have K := K.2 c0
    refine r_aload_n C 0 rfl d_Ce_work_42 ?_
    refine r_iload_n C 3 rfl d_Ce_work_43 ?_
    refine r_iload C 5 rfl d_Ce_work_44 ?_
    refine r_callV (As := [.int v3, .int t0]) (st := []) (lvc := 2) (mcc := 0) (msc := 0) C Rm M_Ce_isOperand rfl k_484 rfl (by decide) (Nat.le_of_ble_eq_true rfl) ⟨by decide, by decide⟩ d_Ce_work_46 ?_
    refine Can.mono K (fun _ h2 z => ?_)
    obtain ⟨r2, rfl, K⟩ := z
    show Wg X 0 0 h2 [(0, .ref 14), (1, .int v1), (2, .int v2), (3, .int v3), (4, .int v4), (5, .int t0)] [.int r2] 49
    refine r_if_ne C 55 d_Ce_work_49 (by decide) ⟨fun c0 => ?_, fun c0 => ?_⟩
    · have K := K.1 c0
      refine r_aload_n C 0 rfl d_Ce_work_55 ?_
      refine gf_Ce_heap (k2 := 15) C rfl rfl k_221 d_Ce_work_56 ?_
      refine r_aload_n C 0 rfl d_Ce_work_59 ?_
      refine gf_Ce_heap (k2 := 15) C rfl rfl k_221 d_Ce_work_60 ?_
      refine gf_He_registers (k2 := 17) C rfl rfl k_44 d_Ce_work_63 ?_
      refine r_iload_n C 2 rfl d_Ce_work_66 ?_
      obtain ⟨s0, K⟩ := K
      refine r_iald C rfl s0 d_Ce_work_67 ?_
      refine r_aload_n C 0 rfl d_Ce_work_68 ?_
      refine gf_Ce_reckoner (k2 := 23) C rfl rfl k_223 d_Ce_work_69 ?_
      refine gf_Re_left (k2 := 24) C rfl rfl k_165 d_Ce_work_72 ?_
      refine r_callV (As := [.int (h2 17 v2.toNatClampNeg), .ref 24]) (st := []) (lvc := 4) (mcc := 0) (msc := 0) C Rm M_He_fetchNumber rfl k_488 rfl (by decide) (Nat.le_of_ble_eq_true rfl) ⟨by decide, by decide⟩ d_Ce_work_75 ?_
      refine Can.mono K (fun _ h3 z => ?_)
      obtain ⟨rfl, K⟩ := z
      show Wg X 0 0 h3 [(0, .ref 14), (1, .int v1), (2, .int v2), (3, .int v3), (4, .int v4), (5, .int t0)] [] 78
      refine r_aload_n C 0 rfl d_Ce_work_78 ?_
      refine gf_Ce_heap (k2 := 15) C rfl rfl k_221 d_Ce_work_79 ?_
      refine r_aload_n C 0 rfl d_Ce_work_82 ?_
      refine gf_Ce_heap (k2 := 15) C rfl rfl k_221 d_Ce_work_83 ?_
      refine gf_He_registers (k2 := 17) C rfl rfl k_44 d_Ce_work_86 ?_
      refine r_iload_n C 3 rfl d_Ce_work_89 ?_
      obtain ⟨s0, K⟩ := K
      refine r_iald C rfl s0 d_Ce_work_90 ?_
      refine r_aload_n C 0 rfl d_Ce_work_91 ?_
      refine gf_Ce_reckoner (k2 := 23) C rfl rfl k_223 d_Ce_work_92 ?_
      refine gf_Re_right (k2 := 29) C rfl rfl k_167 d_Ce_work_95 ?_
      refine r_callV (As := [.int (h3 17 v3.toNatClampNeg), .ref 29]) (st := []) (lvc := 4) (mcc := 0) (msc := 0) C Rm M_He_fetchNumber rfl k_488 rfl (by decide) (Nat.le_of_ble_eq_true rfl) ⟨by decide, by decide⟩ d_Ce_work_98 ?_
      refine Can.mono K (fun _ h4 z => ?_)
      obtain ⟨rfl, K⟩ := z
      show Wg X 0 0 h4 [(0, .ref 14), (1, .int v1), (2, .int v2), (3, .int v3), (4, .int v4), (5, .int t0)] [] 101
      refine r_iload C 4 rfl d_Ce_work_101 ?_
      refine r_iconst (v := 3) C (by decide) d_Ce_work_103 ?_
      refine r_icmp_eq C 119 d_Ce_work_104 (by decide) ⟨fun c0 => ?_, fun c0 => ?_⟩
      · have K := K.1 c0
        refine r_iconst (v := 1) C (by decide) d_Ce_work_119 ?_
        refine r_goto C 124 d_Ce_work_120 (by decide) ?_
        refine r_istore (ls2 := [(0, .ref 14), (1, .int v1), (2, .int v2), (3, .int v3), (4, .int v4), (5, .int t0), (6, .int 1)]) C (by decide) rfl d_Ce_work_124 ?_
        refine r_iload C 6 rfl d_Ce_work_126 ?_
        refine r_if_eq C 150 d_Ce_work_128 (by decide) ⟨fun c0 => absurd c0 (by decide), fun _ => ?_⟩
        refine r_aload_n C 0 rfl d_Ce_work_131 ?_
        refine gf_Ce_reckoner (k2 := 23) C rfl rfl k_223 d_Ce_work_132 ?_
        refine gf_Re_right (k2 := 29) C rfl rfl k_167 d_Ce_work_135 ?_
        refine gf_Ra_upper (k2 := 30) C rfl rfl k_128 d_Ce_work_138 ?_
        refine r_callV (As := []) (st := []) (lvc := 0) (mcc := 0) (msc := 0) C Rm M_Wh_isZero rfl k_508 rfl (by decide) (Nat.le_of_ble_eq_true rfl) ⟨by decide, by decide⟩ d_Ce_work_141 ?_
        refine Can.mono K (fun _ h5 z => ?_)
        obtain ⟨r5, rfl, K⟩ := z
        show Wg X 0 0 h5 [(0, .ref 14), (1, .int v1), (2, .int v2), (3, .int v3), (4, .int v4), (5, .int t0), (6, .int 1)] [.int r5] 144
        refine r_if_eq C 150 d_Ce_work_144 (by decide) ⟨fun c0 => ?_, fun c0 => ?_⟩
        · have K := K.1 c0
          exact K
        · have K := K.2 c0
          refine r_bipush (v := (-5)) C (by decide) d_Ce_work_147 ?_
          exact q_iret C Q d_Ce_work_149 ⟨_, rfl, K⟩
      · have K := K.2 c0
        refine r_iload C 4 rfl d_Ce_work_107 ?_
        refine r_iconst (v := 4) C (by decide) d_Ce_work_109 ?_
        refine r_icmp_eq C 119 d_Ce_work_110 (by decide) ⟨fun c0 => ?_, fun c0 => ?_⟩
        · have K := K.1 c0
          refine r_iconst (v := 1) C (by decide) d_Ce_work_119 ?_
          refine r_goto C 124 d_Ce_work_120 (by decide) ?_
          refine r_istore (ls2 := [(0, .ref 14), (1, .int v1), (2, .int v2), (3, .int v3), (4, .int v4), (5, .int t0), (6, .int 1)]) C (by decide) rfl d_Ce_work_124 ?_
          refine r_iload C 6 rfl d_Ce_work_126 ?_
          refine r_if_eq C 150 d_Ce_work_128 (by decide) ⟨fun c0 => absurd c0 (by decide), fun _ => ?_⟩
          refine r_aload_n C 0 rfl d_Ce_work_131 ?_
          refine gf_Ce_reckoner (k2 := 23) C rfl rfl k_223 d_Ce_work_132 ?_
          refine gf_Re_right (k2 := 29) C rfl rfl k_167 d_Ce_work_135 ?_
          refine gf_Ra_upper (k2 := 30) C rfl rfl k_128 d_Ce_work_138 ?_
          refine r_callV (As := []) (st := []) (lvc := 0) (mcc := 0) (msc := 0) C Rm M_Wh_isZero rfl k_508 rfl (by decide) (Nat.le_of_ble_eq_true rfl) ⟨by decide, by decide⟩ d_Ce_work_141 ?_
          refine Can.mono K (fun _ h6 z => ?_)
          obtain ⟨r6, rfl, K⟩ := z
          show Wg X 0 0 h6 [(0, .ref 14), (1, .int v1), (2, .int v2), (3, .int v3), (4, .int v4), (5, .int t0), (6, .int 1)] [.int r6] 144
          refine r_if_eq C 150 d_Ce_work_144 (by decide) ⟨fun c0 => ?_, fun c0 => ?_⟩
          · have K := K.1 c0
            exact K
          · have K := K.2 c0
            refine r_bipush (v := (-5)) C (by decide) d_Ce_work_147 ?_
            exact q_iret C Q d_Ce_work_149 ⟨_, rfl, K⟩
        · have K := K.2 c0
          refine r_iload C 4 rfl d_Ce_work_113 ?_
          refine r_iconst (v := 5) C (by decide) d_Ce_work_115 ?_
          refine r_icmp_ne C 123 d_Ce_work_116 (by decide) ⟨fun c0 => ?_, fun c0 => ?_⟩
          · have K := K.1 c0
            refine r_iconst (v := 0) C (by decide) d_Ce_work_123 ?_
            refine r_istore (ls2 := [(0, .ref 14), (1, .int v1), (2, .int v2), (3, .int v3), (4, .int v4), (5, .int t0), (6, .int 0)]) C (by decide) rfl d_Ce_work_124 ?_
            refine r_iload C 6 rfl d_Ce_work_126 ?_
            refine r_if_eq C 150 d_Ce_work_128 (by decide) ⟨fun _ => ?_, fun c0 => absurd c0 (by decide)⟩
            exact K
          · have K := K.2 c0
            refine r_iconst (v := 1) C (by decide) d_Ce_work_119 ?_
            refine r_goto C 124 d_Ce_work_120 (by decide) ?_
            refine r_istore (ls2 := [(0, .ref 14), (1, .int v1), (2, .int v2), (3, .int v3), (4, .int v4), (5, .int t0), (6, .int 1)]) C (by decide) rfl d_Ce_work_124 ?_
            refine r_iload C 6 rfl d_Ce_work_126 ?_
            refine r_if_eq C 150 d_Ce_work_128 (by decide) ⟨fun c0 => absurd c0 (by decide), fun _ => ?_⟩
            refine r_aload_n C 0 rfl d_Ce_work_131 ?_
            refine gf_Ce_reckoner (k2 := 23) C rfl rfl k_223 d_Ce_work_132 ?_
            refine gf_Re_right (k2 := 29) C rfl rfl k_167 d_Ce_work_135 ?_
            refine gf_Ra_upper (k2 := 30) C rfl rfl k_128 d_Ce_work_138 ?_
            refine r_callV (As := []) (st := []) (lvc := 0) (mcc := 0) (msc := 0) C Rm M_Wh_isZero rfl k_508 rfl (by decide) (Nat.le_of_ble_eq_true rfl) ⟨by decide, by decide⟩ d_Ce_work_141 ?_
            refine Can.mono K (fun _ h7 z => ?_)
            obtain ⟨r7, rfl, K⟩ := z
            show Wg X 0 0 h7 [(0, .ref 14), (1, .int v1), (2, .int v2), (3, .int v3), (4, .int v4), (5, .int t0), (6, .int 1)] [.int r7] 144
            refine r_if_eq C 150 d_Ce_work_144 (by decide) ⟨fun c0 => ?_, fun c0 => ?_⟩
            · have K := K.1 c0
              exact K
            · have K := K.2 c0
              refine r_bipush (v := (-5)) C (by decide) d_Ce_work_147 ?_
              exact q_iret C Q d_Ce_work_149 ⟨_, rfl, K⟩
    · have K := K.2 c0
      refine r_bipush (v := (-4)) C (by decide) d_Ce_work_52 ?_
      exact q_iret C Q d_Ce_work_54 ⟨_, rfl, K⟩
set_option maxRecDepth 20000 in
theorem g_Ce_work_150 {X : CX} {h : HP} {v1 : Int32} {v2 : Int32} {v3 : Int32} {v4 : Int32} {v5 : Int32} {v6 : Int32} {Φ : Int32 → HP → Prop} (C : Cok X b_Ce_work 7 R_Ce ((some .int))) (Rm : xR X = rml 13 0 0) (Q : Qok X 0 0 (fun r h2 => ∃ v, r = some (.int v) ∧ Φ v h2)) 
    (K : (v5 = 0 → K_Re_workOnRatios [.ref 23, .int v4] h (fun h1 => K_Re_bringToLowestTerms [.ref 23] h1 (fun h2 => K_Ce_keepResult [.ref 14, .int v1] h2 (fun r3 h3 => Φ r3 h3)))) ∧ (¬ v5 = 0 → K_Re_workOnWholes [.ref 23, .int v4] h (fun h4 => K_Ce_keepResult [.ref 14, .int v1] h4 (fun r5 h5 => Φ r5 h5)))) :
    Wg X 0 0 h [(0, .ref 14), (1, .int v1), (2, .int v2), (3, .int v3), (4, .int v4), (5, .int v5), (6, .int v6)] [] 150 := by
  refine r_iload C 5 rfl d_Ce_work_150 ?_
  refine r_if_eq C 167 d_Ce_work_152 (by decide) ⟨fun c0 => ?_, fun c0 => ?_⟩
  · have K := K.1 c0
    refine r_aload_n C 0 rfl d_Ce_work_167 ?_
    refine gf_Ce_reckoner (k2 := 23) C rfl rfl k_223 d_Ce_work_168 ?_
    refine r_iload C 4 rfl d_Ce_work_171 ?_
    refine r_callV (As := [.int v4]) (st := []) (lvc := 12) (mcc := 0) (msc := 0) C Rm M_Re_workOnRatios rfl k_579 rfl (by decide) (Nat.le_of_ble_eq_true rfl) ⟨by decide, by decide⟩ d_Ce_work_173 ?_
    refine Can.mono K (fun _ h1 z => ?_)
    obtain ⟨rfl, K⟩ := z
    show Wg X 0 0 h1 [(0, .ref 14), (1, .int v1), (2, .int v2), (3, .int v3), (4, .int v4), (5, .int v5), (6, .int v6)] [] 176
    refine r_aload_n C 0 rfl d_Ce_work_176 ?_
    refine gf_Ce_reckoner (k2 := 23) C rfl rfl k_223 d_Ce_work_177 ?_
    refine r_callV (As := []) (st := []) (lvc := 6) (mcc := 0) (msc := 0) C Rm M_Re_bringToLowestTerms rfl k_863 rfl (by decide) (Nat.le_of_ble_eq_true rfl) ⟨by decide, by decide⟩ d_Ce_work_180 ?_
    refine Can.mono K (fun _ h2 z => ?_)
    obtain ⟨rfl, K⟩ := z
    show Wg X 0 0 h2 [(0, .ref 14), (1, .int v1), (2, .int v2), (3, .int v3), (4, .int v4), (5, .int v5), (6, .int v6)] [] 183
    refine r_aload_n C 0 rfl d_Ce_work_183 ?_
    refine r_iload_n C 1 rfl d_Ce_work_184 ?_
    refine r_callV (As := [.int v1]) (st := []) (lvc := 5) (mcc := 0) (msc := 0) C Rm M_Ce_keepResult rfl k_386 rfl (by decide) (Nat.le_of_ble_eq_true rfl) ⟨by decide, by decide⟩ d_Ce_work_185 ?_
    refine Can.mono K (fun _ h3 z => ?_)
    obtain ⟨r3, rfl, K⟩ := z
    show Wg X 0 0 h3 [(0, .ref 14), (1, .int v1), (2, .int v2), (3, .int v3), (4, .int v4), (5, .int v5), (6, .int v6)] [.int r3] 188
    exact q_iret C Q d_Ce_work_188 ⟨_, rfl, K⟩
  · have K := K.2 c0
    refine r_aload_n C 0 rfl d_Ce_work_155 ?_
    refine gf_Ce_reckoner (k2 := 23) C rfl rfl k_223 d_Ce_work_156 ?_
    refine r_iload C 4 rfl d_Ce_work_159 ?_
    refine r_callV (As := [.int v4]) (st := []) (lvc := 6) (mcc := 0) (msc := 0) C Rm M_Re_workOnWholes rfl k_512 rfl (by decide) (Nat.le_of_ble_eq_true rfl) ⟨by decide, by decide⟩ d_Ce_work_161 ?_
    refine Can.mono K (fun _ h4 z => ?_)
    obtain ⟨rfl, K⟩ := z
    show Wg X 0 0 h4 [(0, .ref 14), (1, .int v1), (2, .int v2), (3, .int v3), (4, .int v4), (5, .int v5), (6, .int v6)] [] 164
    refine r_goto C 183 d_Ce_work_164 (by decide) ?_
    refine r_aload_n C 0 rfl d_Ce_work_183 ?_
    refine r_iload_n C 1 rfl d_Ce_work_184 ?_
    refine r_callV (As := [.int v1]) (st := []) (lvc := 5) (mcc := 0) (msc := 0) C Rm M_Ce_keepResult rfl k_386 rfl (by decide) (Nat.le_of_ble_eq_true rfl) ⟨by decide, by decide⟩ d_Ce_work_185 ?_
    refine Can.mono K (fun _ h5 z => ?_)
    obtain ⟨r5, rfl, K⟩ := z
    show Wg X 0 0 h5 [(0, .ref 14), (1, .int v1), (2, .int v2), (3, .int v3), (4, .int v4), (5, .int v5), (6, .int v6)] [.int r5] 188
    exact q_iret C Q d_Ce_work_188 ⟨_, rfl, K⟩
set_option maxRecDepth 20000 in
theorem g_Ce_compare_0 {X : CX} {h : HP} {v1 : Int32} {v2 : Int32} {Φ : Int32 → HP → Prop} (C : Cok X b_Ce_compare 3 R_Ce ((some .int))) (Rm : xR X = rml 13 0 0) (Q : Qok X 0 0 (fun r h2 => ∃ v, r = some (.int v) ∧ Φ v h2)) 
    (K : K_Ce_checkRegister [.int v1] h (fun h1 => K_Ce_checkRegister [.int v2] h1 (fun h2 => K_Ce_isOperand [.ref 14, .int v1, .int 0] h2 (fun r3 h3 => (r3 = 0 → Φ ((-4)) h3) ∧ (¬ r3 = 0 → K_Ce_isOperand [.ref 14, .int v2, .int 0] h3 (fun r4 h4 => (¬ r4 = 0 → vp_in v1 8 ∧ (K_He_fetchNumber [.ref 15, .int (h4 17 v1.toNatClampNeg), .ref 24] h4 (fun h5 => vp_in v2 8 ∧ (K_He_fetchNumber [.ref 15, .int (h5 17 v2.toNatClampNeg), .ref 29] h5 (fun h6 => K_Re_orderOfOperands [.ref 23] h6 (fun r7 h7 => Φ r7 h7)))))) ∧ (r4 = 0 → Φ ((-4)) h4))))))) :
    Wg X 0 0 h [(0, .ref 14), (1, .int v1), (2, .int v2)] [] 0 := by
  refine r_iload_n C 1 rfl d_Ce_compare_0 ?_
  refine r_callS (As := [.int v1]) (st := []) (lvc := 10) (mcc := 0) (msc := 0) C Rm M_Ce_checkRegister rfl k_298 (by decide) (Nat.le_of_ble_eq_true rfl) ⟨by decide, by decide⟩ d_Ce_compare_1 ?_
  refine Can.mono K (fun _ h1 z => ?_)
  obtain ⟨rfl, K⟩ := z
  show Wg X 0 0 h1 [(0, .ref 14), (1, .int v1), (2, .int v2)] [] 4
  refine r_iload_n C 2 rfl d_Ce_compare_4 ?_
  refine r_callS (As := [.int v2]) (st := []) (lvc := 10) (mcc := 0) (msc := 0) C Rm M_Ce_checkRegister rfl k_298 (by decide) (Nat.le_of_ble_eq_true rfl) ⟨by decide, by decide⟩ d_Ce_compare_5 ?_
  refine Can.mono K (fun _ h2 z => ?_)
  obtain ⟨rfl, K⟩ := z
  show Wg X 0 0 h2 [(0, .ref 14), (1, .int v1), (2, .int v2)] [] 8
  refine r_aload_n C 0 rfl d_Ce_compare_8 ?_
  refine r_iload_n C 1 rfl d_Ce_compare_9 ?_
  refine r_iconst (v := 0) C (by decide) d_Ce_compare_10 ?_
  refine r_callV (As := [.int v1, .int 0]) (st := []) (lvc := 2) (mcc := 0) (msc := 0) C Rm M_Ce_isOperand rfl k_484 rfl (by decide) (Nat.le_of_ble_eq_true rfl) ⟨by decide, by decide⟩ d_Ce_compare_11 ?_
  refine Can.mono K (fun _ h3 z => ?_)
  obtain ⟨r3, rfl, K⟩ := z
  show Wg X 0 0 h3 [(0, .ref 14), (1, .int v1), (2, .int v2)] [.int r3] 14
  refine r_if_eq C 26 d_Ce_compare_14 (by decide) ⟨fun c0 => ?_, fun c0 => ?_⟩
  · have K := K.1 c0
    refine r_bipush (v := (-4)) C (by decide) d_Ce_compare_26 ?_
    exact q_iret C Q d_Ce_compare_28 ⟨_, rfl, K⟩
  · have K := K.2 c0
    refine r_aload_n C 0 rfl d_Ce_compare_17 ?_
    refine r_iload_n C 2 rfl d_Ce_compare_18 ?_
    refine r_iconst (v := 0) C (by decide) d_Ce_compare_19 ?_
    refine r_callV (As := [.int v2, .int 0]) (st := []) (lvc := 2) (mcc := 0) (msc := 0) C Rm M_Ce_isOperand rfl k_484 rfl (by decide) (Nat.le_of_ble_eq_true rfl) ⟨by decide, by decide⟩ d_Ce_compare_20 ?_
    refine Can.mono K (fun _ h4 z => ?_)
    obtain ⟨r4, rfl, K⟩ := z
    show Wg X 0 0 h4 [(0, .ref 14), (1, .int v1), (2, .int v2)] [.int r4] 23
    refine r_if_ne C 29 d_Ce_compare_23 (by decide) ⟨fun c0 => ?_, fun c0 => ?_⟩
    · have K := K.1 c0
      refine r_aload_n C 0 rfl d_Ce_compare_29 ?_
      refine gf_Ce_heap (k2 := 15) C rfl rfl k_221 d_Ce_compare_30 ?_
      refine r_aload_n C 0 rfl d_Ce_compare_33 ?_
      refine gf_Ce_heap (k2 := 15) C rfl rfl k_221 d_Ce_compare_34 ?_
      refine gf_He_registers (k2 := 17) C rfl rfl k_44 d_Ce_compare_37 ?_
      refine r_iload_n C 1 rfl d_Ce_compare_40 ?_
      obtain ⟨s0, K⟩ := K
      refine r_iald C rfl s0 d_Ce_compare_41 ?_
      refine r_aload_n C 0 rfl d_Ce_compare_42 ?_
      refine gf_Ce_reckoner (k2 := 23) C rfl rfl k_223 d_Ce_compare_43 ?_
      refine gf_Re_left (k2 := 24) C rfl rfl k_165 d_Ce_compare_46 ?_
      refine r_callV (As := [.int (h4 17 v1.toNatClampNeg), .ref 24]) (st := []) (lvc := 4) (mcc := 0) (msc := 0) C Rm M_He_fetchNumber rfl k_488 rfl (by decide) (Nat.le_of_ble_eq_true rfl) ⟨by decide, by decide⟩ d_Ce_compare_49 ?_
      refine Can.mono K (fun _ h5 z => ?_)
      obtain ⟨rfl, K⟩ := z
      show Wg X 0 0 h5 [(0, .ref 14), (1, .int v1), (2, .int v2)] [] 52
      refine r_aload_n C 0 rfl d_Ce_compare_52 ?_
      refine gf_Ce_heap (k2 := 15) C rfl rfl k_221 d_Ce_compare_53 ?_
      refine r_aload_n C 0 rfl d_Ce_compare_56 ?_
      refine gf_Ce_heap (k2 := 15) C rfl rfl k_221 d_Ce_compare_57 ?_
      refine gf_He_registers (k2 := 17) C rfl rfl k_44 d_Ce_compare_60 ?_
      refine r_iload_n C 2 rfl d_Ce_compare_63 ?_
      obtain ⟨s0, K⟩ := K
      refine r_iald C rfl s0 d_Ce_compare_64 ?_
      refine r_aload_n C 0 rfl d_Ce_compare_65 ?_
      refine gf_Ce_reckoner (k2 := 23) C rfl rfl k_223 d_Ce_compare_66 ?_
      refine gf_Re_right (k2 := 29) C rfl rfl k_167 d_Ce_compare_69 ?_
      refine r_callV (As := [.int (h5 17 v2.toNatClampNeg), .ref 29]) (st := []) (lvc := 4) (mcc := 0) (msc := 0) C Rm M_He_fetchNumber rfl k_488 rfl (by decide) (Nat.le_of_ble_eq_true rfl) ⟨by decide, by decide⟩ d_Ce_compare_72 ?_
      refine Can.mono K (fun _ h6 z => ?_)
      obtain ⟨rfl, K⟩ := z
      show Wg X 0 0 h6 [(0, .ref 14), (1, .int v1), (2, .int v2)] [] 75
      refine r_aload_n C 0 rfl d_Ce_compare_75 ?_
      refine gf_Ce_reckoner (k2 := 23) C rfl rfl k_223 d_Ce_compare_76 ?_
      refine r_callV (As := []) (st := []) (lvc := 12) (mcc := 0) (msc := 0) C Rm M_Re_orderOfOperands rfl k_875 rfl (by decide) (Nat.le_of_ble_eq_true rfl) ⟨by decide, by decide⟩ d_Ce_compare_79 ?_
      refine Can.mono K (fun _ h7 z => ?_)
      obtain ⟨r7, rfl, K⟩ := z
      show Wg X 0 0 h7 [(0, .ref 14), (1, .int v1), (2, .int v2)] [.int r7] 82
      exact q_iret C Q d_Ce_compare_82 ⟨_, rfl, K⟩
    · have K := K.2 c0
      refine r_bipush (v := (-4)) C (by decide) d_Ce_compare_26 ?_
      exact q_iret C Q d_Ce_compare_28 ⟨_, rfl, K⟩
set_option maxRecDepth 20000 in
theorem g_Ce_same_0 {X : CX} {h : HP} {v1 : Int32} {v2 : Int32} {Φ : Int32 → HP → Prop} (C : Cok X b_Ce_same 3 R_Ce ((some .boolean))) (Rm : xR X = rml 11 0 0) (Q : Qok X 0 0 (fun r h2 => ∃ v, r = some (.int v) ∧ Φ v h2)) 
    (K : K_Ce_checkRegister [.int v1] h (fun h1 => K_Ce_checkRegister [.int v2] h1 (fun h2 => vp_in v1 8 ∧ (vp_in v2 8 ∧ ((¬ ((h2 17 v1.toNatClampNeg)) = ((h2 17 v2.toNatClampNeg)) → Φ 0 h2) ∧ (((h2 17 v1.toNatClampNeg)) = ((h2 17 v2.toNatClampNeg)) → Φ 1 h2)))))) :
    Wg X 0 0 h [(0, .ref 14), (1, .int v1), (2, .int v2)] [] 0 := by
  refine r_iload_n C 1 rfl d_Ce_same_0 ?_
  refine r_callS (As := [.int v1]) (st := []) (lvc := 10) (mcc := 0) (msc := 0) C Rm M_Ce_checkRegister rfl k_298 (by decide) (Nat.le_of_ble_eq_true rfl) ⟨by decide, by decide⟩ d_Ce_same_1 ?_
  refine Can.mono K (fun _ h1 z => ?_)
  obtain ⟨rfl, K⟩ := z
  show Wg X 0 0 h1 [(0, .ref 14), (1, .int v1), (2, .int v2)] [] 4
  refine r_iload_n C 2 rfl d_Ce_same_4 ?_
  refine r_callS (As := [.int v2]) (st := []) (lvc := 10) (mcc := 0) (msc := 0) C Rm M_Ce_checkRegister rfl k_298 (by decide) (Nat.le_of_ble_eq_true rfl) ⟨by decide, by decide⟩ d_Ce_same_5 ?_
  refine Can.mono K (fun _ h2 z => ?_)
  obtain ⟨rfl, K⟩ := z
  show Wg X 0 0 h2 [(0, .ref 14), (1, .int v1), (2, .int v2)] [] 8
  refine r_aload_n C 0 rfl d_Ce_same_8 ?_
  refine gf_Ce_heap (k2 := 15) C rfl rfl k_221 d_Ce_same_9 ?_
  refine gf_He_registers (k2 := 17) C rfl rfl k_44 d_Ce_same_12 ?_
  refine r_iload_n C 1 rfl d_Ce_same_15 ?_
  obtain ⟨s0, K⟩ := K
  refine r_iald C rfl s0 d_Ce_same_16 ?_
  refine r_aload_n C 0 rfl d_Ce_same_17 ?_
  refine gf_Ce_heap (k2 := 15) C rfl rfl k_221 d_Ce_same_18 ?_
  refine gf_He_registers (k2 := 17) C rfl rfl k_44 d_Ce_same_21 ?_
  refine r_iload_n C 2 rfl d_Ce_same_24 ?_
  obtain ⟨s0, K⟩ := K
  refine r_iald C rfl s0 d_Ce_same_25 ?_
  refine r_icmp_ne C 33 d_Ce_same_26 (by decide) ⟨fun c0 => ?_, fun c0 => ?_⟩
  · have K := K.1 c0
    refine r_iconst (v := 0) C (by decide) d_Ce_same_33 ?_
    exact q_zret C Q (by decide) d_Ce_same_34 ⟨_, rfl, K⟩
  · have K := K.2 c0
    refine r_iconst (v := 1) C (by decide) d_Ce_same_29 ?_
    refine r_goto C 34 d_Ce_same_30 (by decide) ?_
    exact q_zret C Q (by decide) d_Ce_same_34 ⟨_, rfl, K⟩
set_option maxRecDepth 20000 in
theorem g_Ce_type_0 {X : CX} {h : HP} {v1 : Int32} {v2 : Int32} {v3 : Int32} {v4 : Int32} {v5 : Int32} {Φ : Int32 → HP → Prop} (C : Cok X b_Ce_type 7 R_Ce ((some .int))) (Rm : xR X = rml 9 0 0) (Q : Qok X 0 0 (fun r h2 => ∃ v, r = some (.int v) ∧ Φ v h2)) 
    (K : K_Li_charactersIn [.int v1] h (fun r1 h1 => K_Li_charactersIn [.int v2] h1 (fun r2 h2 => K_Li_charactersIn [.int v3] h2 (fun r3 h3 => K_Li_charactersIn [.int v4] h3 (fun r4 h4 => K_Li_charactersIn [.int v5] h4 (fun r5 h5 => ((((h5 21 1) + ((((r1 + r2) + r3) + r4) + r5))) ≤ (200 : Int32) → K_Li_addFour [.ref 21, .int v1] h5 (fun h6 => K_Li_addFour [.ref 21, .int v2] h6 (fun h7 => K_Li_addFour [.ref 21, .int v3] h7 (fun h8 => K_Li_addFour [.ref 21, .int v4] h8 (fun h9 => K_Li_addFour [.ref 21, .int v5] h9 (fun h10 => Φ (h10 21 1) h10)))))) ∧ (¬ (((h5 21 1) + ((((r1 + r2) + r3) + r4) + r5))) ≤ (200 : Int32) → False))))))) :
    Wg X 0 0 h [(0, .ref 14), (1, .int v1), (2, .int v2), (3, .int v3), (4, .int v4), (5, .int v5)] [] 0 := by
  refine r_iload_n C 1 rfl d_Ce_type_0 ?_
  refine r_callS (As := [.int v1]) (st := []) (lvc := 0) (mcc := 0) (msc := 0) C Rm M_Li_charactersIn rfl k_898 (by decide) (Nat.le_of_ble_eq_true rfl) ⟨by decide, by decide⟩ d_Ce_type_1 ?_
  refine Can.mono K (fun _ h1 z => ?_)
  obtain ⟨r1, rfl, K⟩ := z
  show Wg X 0 0 h1 [(0, .ref 14), (1, .int v1), (2, .int v2), (3, .int v3), (4, .int v4), (5, .int v5)] [.int r1] 4
  refine r_iload_n C 2 rfl d_Ce_type_4 ?_
  refine r_callS (As := [.int v2]) (st := [.int r1]) (lvc := 0) (mcc := 0) (msc := 0) C Rm M_Li_charactersIn rfl k_898 (by decide) (Nat.le_of_ble_eq_true rfl) ⟨by decide, by decide⟩ d_Ce_type_5 ?_
  refine Can.mono K (fun _ h2 z => ?_)
  obtain ⟨r2, rfl, K⟩ := z
  show Wg X 0 0 h2 [(0, .ref 14), (1, .int v1), (2, .int v2), (3, .int v3), (4, .int v4), (5, .int v5)] [.int r2, .int r1] 8
  refine r_iadd C d_Ce_type_8 ?_
  refine r_iload_n C 3 rfl d_Ce_type_9 ?_
  refine r_callS (As := [.int v3]) (st := [.int (r1 + r2)]) (lvc := 0) (mcc := 0) (msc := 0) C Rm M_Li_charactersIn rfl k_898 (by decide) (Nat.le_of_ble_eq_true rfl) ⟨by decide, by decide⟩ d_Ce_type_10 ?_
  refine Can.mono K (fun _ h3 z => ?_)
  obtain ⟨r3, rfl, K⟩ := z
  show Wg X 0 0 h3 [(0, .ref 14), (1, .int v1), (2, .int v2), (3, .int v3), (4, .int v4), (5, .int v5)] [.int r3, .int (r1 + r2)] 13
  refine r_iadd C d_Ce_type_13 ?_
  refine r_iload C 4 rfl d_Ce_type_14 ?_
  refine r_callS (As := [.int v4]) (st := [.int ((r1 + r2) + r3)]) (lvc := 0) (mcc := 0) (msc := 0) C Rm M_Li_charactersIn rfl k_898 (by decide) (Nat.le_of_ble_eq_true rfl) ⟨by decide, by decide⟩ d_Ce_type_16 ?_
  refine Can.mono K (fun _ h4 z => ?_)
  obtain ⟨r4, rfl, K⟩ := z
  show Wg X 0 0 h4 [(0, .ref 14), (1, .int v1), (2, .int v2), (3, .int v3), (4, .int v4), (5, .int v5)] [.int r4, .int ((r1 + r2) + r3)] 19
  refine r_iadd C d_Ce_type_19 ?_
  refine r_iload C 5 rfl d_Ce_type_20 ?_
  refine r_callS (As := [.int v5]) (st := [.int (((r1 + r2) + r3) + r4)]) (lvc := 0) (mcc := 0) (msc := 0) C Rm M_Li_charactersIn rfl k_898 (by decide) (Nat.le_of_ble_eq_true rfl) ⟨by decide, by decide⟩ d_Ce_type_22 ?_
  refine Can.mono K (fun _ h5 z => ?_)
  obtain ⟨r5, rfl, K⟩ := z
  show Wg X 0 0 h5 [(0, .ref 14), (1, .int v1), (2, .int v2), (3, .int v3), (4, .int v4), (5, .int v5)] [.int r5, .int (((r1 + r2) + r3) + r4)] 25
  refine r_iadd C d_Ce_type_25 ?_
  refine r_istore (ls2 := [(0, .ref 14), (1, .int v1), (2, .int v2), (3, .int v3), (4, .int v4), (5, .int v5), (6, .int ((((r1 + r2) + r3) + r4) + r5))]) C (by decide) rfl d_Ce_type_26 ?_
  refine r_aload_n C 0 rfl d_Ce_type_28 ?_
  refine gf_Ce_line (k2 := 21) C rfl rfl k_222 d_Ce_type_29 ?_
  refine gf_Li_length C rfl k_80 d_Ce_type_32 ?_
  refine r_iload C 6 rfl d_Ce_type_35 ?_
  refine r_iadd C d_Ce_type_37 ?_
  refine r_sipush (v := 200) C (by decide) d_Ce_type_38 ?_
  refine r_icmp_le C 52 d_Ce_type_41 (by decide) ⟨fun c0 => ?_, fun c0 => ?_⟩
  · have K := K.1 c0
    refine r_aload_n C 0 rfl d_Ce_type_52 ?_
    refine gf_Ce_line (k2 := 21) C rfl rfl k_222 d_Ce_type_53 ?_
    refine r_iload_n C 1 rfl d_Ce_type_56 ?_
    refine r_callV (As := [.int v1]) (st := []) (lvc := 0) (mcc := 0) (msc := 0) C Rm M_Li_addFour rfl k_916 rfl (by decide) (Nat.le_of_ble_eq_true rfl) ⟨by decide, by decide⟩ d_Ce_type_57 ?_
    refine Can.mono K (fun _ h6 z => ?_)
    obtain ⟨rfl, K⟩ := z
    show Wg X 0 0 h6 [(0, .ref 14), (1, .int v1), (2, .int v2), (3, .int v3), (4, .int v4), (5, .int v5), (6, .int ((((r1 + r2) + r3) + r4) + r5))] [] 60
    refine r_aload_n C 0 rfl d_Ce_type_60 ?_
    refine gf_Ce_line (k2 := 21) C rfl rfl k_222 d_Ce_type_61 ?_
    refine r_iload_n C 2 rfl d_Ce_type_64 ?_
    refine r_callV (As := [.int v2]) (st := []) (lvc := 0) (mcc := 0) (msc := 0) C Rm M_Li_addFour rfl k_916 rfl (by decide) (Nat.le_of_ble_eq_true rfl) ⟨by decide, by decide⟩ d_Ce_type_65 ?_
    refine Can.mono K (fun _ h7 z => ?_)
    obtain ⟨rfl, K⟩ := z
    show Wg X 0 0 h7 [(0, .ref 14), (1, .int v1), (2, .int v2), (3, .int v3), (4, .int v4), (5, .int v5), (6, .int ((((r1 + r2) + r3) + r4) + r5))] [] 68
    refine r_aload_n C 0 rfl d_Ce_type_68 ?_
    refine gf_Ce_line (k2 := 21) C rfl rfl k_222 d_Ce_type_69 ?_
    refine r_iload_n C 3 rfl d_Ce_type_72 ?_
    refine r_callV (As := [.int v3]) (st := []) (lvc := 0) (mcc := 0) (msc := 0) C Rm M_Li_addFour rfl k_916 rfl (by decide) (Nat.le_of_ble_eq_true rfl) ⟨by decide, by decide⟩ d_Ce_type_73 ?_
    refine Can.mono K (fun _ h8 z => ?_)
    obtain ⟨rfl, K⟩ := z
    show Wg X 0 0 h8 [(0, .ref 14), (1, .int v1), (2, .int v2), (3, .int v3), (4, .int v4), (5, .int v5), (6, .int ((((r1 + r2) + r3) + r4) + r5))] [] 76
    refine r_aload_n C 0 rfl d_Ce_type_76 ?_
    refine gf_Ce_line (k2 := 21) C rfl rfl k_222 d_Ce_type_77 ?_
    refine r_iload C 4 rfl d_Ce_type_80 ?_
    refine r_callV (As := [.int v4]) (st := []) (lvc := 0) (mcc := 0) (msc := 0) C Rm M_Li_addFour rfl k_916 rfl (by decide) (Nat.le_of_ble_eq_true rfl) ⟨by decide, by decide⟩ d_Ce_type_82 ?_
    refine Can.mono K (fun _ h9 z => ?_)
    obtain ⟨rfl, K⟩ := z
    show Wg X 0 0 h9 [(0, .ref 14), (1, .int v1), (2, .int v2), (3, .int v3), (4, .int v4), (5, .int v5), (6, .int ((((r1 + r2) + r3) + r4) + r5))] [] 85
    refine r_aload_n C 0 rfl d_Ce_type_85 ?_
    refine gf_Ce_line (k2 := 21) C rfl rfl k_222 d_Ce_type_86 ?_
    refine r_iload C 5 rfl d_Ce_type_89 ?_
    refine r_callV (As := [.int v5]) (st := []) (lvc := 0) (mcc := 0) (msc := 0) C Rm M_Li_addFour rfl k_916 rfl (by decide) (Nat.le_of_ble_eq_true rfl) ⟨by decide, by decide⟩ d_Ce_type_91 ?_
    refine Can.mono K (fun _ h10 z => ?_)
    obtain ⟨rfl, K⟩ := z
    show Wg X 0 0 h10 [(0, .ref 14), (1, .int v1), (2, .int v2), (3, .int v3), (4, .int v4), (5, .int v5), (6, .int ((((r1 + r2) + r3) + r4) + r5))] [] 94
    refine r_aload_n C 0 rfl d_Ce_type_94 ?_
    refine gf_Ce_line (k2 := 21) C rfl rfl k_222 d_Ce_type_95 ?_
    refine gf_Li_length C rfl k_80 d_Ce_type_98 ?_
    exact q_iret C Q d_Ce_type_101 ⟨_, rfl, K⟩
  · have K := K.2 c0
    exact K.elim
set_option maxRecDepth 20000 in
theorem g_Ce_erase_0 {X : CX} {h : HP}  {Φ : Int32 → HP → Prop} (C : Cok X b_Ce_erase 2 R_Ce ((some .int))) (Rm : xR X = rml 0 0 0) (Q : Qok X 0 0 (fun r h2 => ∃ v, r = some (.int v) ∧ Φ v h2)) 
    (K : Φ (h 21 1) (up h 21 1 0)) :
    Wg X 0 0 h [(0, .ref 14)] [] 0 := by
  refine r_aload_n C 0 rfl d_Ce_erase_0 ?_
  refine gf_Ce_line (k2 := 21) C rfl rfl k_222 d_Ce_erase_1 ?_
  refine gf_Li_length C rfl k_80 d_Ce_erase_4 ?_
  refine r_istore_n (ls2 := [(0, .ref 14), (1, .int (h 21 1))]) C rfl (by decide) rfl d_Ce_erase_7 ?_
  refine r_aload_n C 0 rfl d_Ce_erase_8 ?_
  refine gf_Ce_line (k2 := 21) C rfl rfl k_222 d_Ce_erase_9 ?_
  refine r_iconst (v := 0) C (by decide) d_Ce_erase_12 ?_
  refine pf_Li_length C rfl k_80 d_Ce_erase_13 ?_
  refine r_iload_n C 1 rfl d_Ce_erase_16 ?_
  exact q_iret C Q d_Ce_erase_17 ⟨_, rfl, K⟩
set_option maxRecDepth 20000 in
theorem g_Ce_read_0 {X : CX} {h : HP} {v1 : Int32} {Φ : Int32 → HP → Prop} (C : Cok X b_Ce_read 3 R_Ce ((some .int))) (Rm : xR X = rml 11 0 0) (Q : Qok X 0 0 (fun r h2 => ∃ v, r = some (.int v) ∧ Φ v h2)) 
    (K : K_Ce_checkRegister [.int v1] h (fun h1 => K_Li_tellsNumber [.ref 21, .ref 34] h1 (fun r2 h2 => (¬ r2 = 0 → K_Wh_isZero [.ref 37] h2 (fun r3 h3 => (r3 = 0 → K_Ra_isLarge [.ref 34] h3 (fun r4 h4 => (r4 = 0 → K_Re_bringToLowestTerms [.ref 23] h4 (fun h5 => K_Ce_keepResult [.ref 14, .int v1] h5 (fun r6 h6 => Φ r6 h6))) ∧ (¬ r4 = 0 → Φ ((-3)) h4))) ∧ (¬ r3 = 0 → Φ ((-5)) h3))) ∧ (r2 = 0 → Φ ((-7)) h2)))) :
    Wg X 0 0 h [(0, .ref 14), (1, .int v1)] [] 0 := by
  refine r_iload_n C 1 rfl d_Ce_read_0 ?_
  refine r_callS (As := [.int v1]) (st := []) (lvc := 10) (mcc := 0) (msc := 0) C Rm M_Ce_checkRegister rfl k_298 (by decide) (Nat.le_of_ble_eq_true rfl) ⟨by decide, by decide⟩ d_Ce_read_1 ?_
  refine Can.mono K (fun _ h1 z => ?_)
  obtain ⟨rfl, K⟩ := z
  show Wg X 0 0 h1 [(0, .ref 14), (1, .int v1)] [] 4
  refine r_aload_n C 0 rfl d_Ce_read_4 ?_
  refine gf_Ce_reckoner (k2 := 23) C rfl rfl k_223 d_Ce_read_5 ?_
  refine gf_Re_result (k2 := 34) C rfl rfl k_169 d_Ce_read_8 ?_
  refine r_astore_n (ls2 := [(0, .ref 14), (1, .int v1), (2, .ref 34)]) C rfl (by decide) rfl d_Ce_read_11 ?_
  refine r_aload_n C 0 rfl d_Ce_read_12 ?_
  refine gf_Ce_line (k2 := 21) C rfl rfl k_222 d_Ce_read_13 ?_
  refine r_aload_n C 2 rfl d_Ce_read_16 ?_
  refine r_callV (As := [.ref 34]) (st := []) (lvc := 3) (mcc := 0) (msc := 0) C Rm M_Li_tellsNumber rfl k_927 rfl (by decide) (Nat.le_of_ble_eq_true rfl) ⟨by decide, by decide⟩ d_Ce_read_17 ?_
  refine Can.mono K (fun _ h2 z => ?_)
  obtain ⟨r2, rfl, K⟩ := z
  show Wg X 0 0 h2 [(0, .ref 14), (1, .int v1), (2, .ref 34)] [.int r2] 20
  refine r_if_ne C 26 d_Ce_read_20 (by decide) ⟨fun c0 => ?_, fun c0 => ?_⟩
  · have K := K.1 c0
    refine r_aload_n C 2 rfl d_Ce_read_26 ?_
    refine gf_Ra_lower (k2 := 37) C rfl rfl k_133 d_Ce_read_27 ?_
    refine r_callV (As := []) (st := []) (lvc := 0) (mcc := 0) (msc := 0) C Rm M_Wh_isZero rfl k_508 rfl (by decide) (Nat.le_of_ble_eq_true rfl) ⟨by decide, by decide⟩ d_Ce_read_30 ?_
    refine Can.mono K (fun _ h3 z => ?_)
    obtain ⟨r3, rfl, K⟩ := z
    show Wg X 0 0 h3 [(0, .ref 14), (1, .int v1), (2, .ref 34)] [.int r3] 33
    refine r_if_eq C 39 d_Ce_read_33 (by decide) ⟨fun c0 => ?_, fun c0 => ?_⟩
    · have K := K.1 c0
      refine r_aload_n C 2 rfl d_Ce_read_39 ?_
      refine r_callV (As := []) (st := []) (lvc := 0) (mcc := 0) (msc := 0) C Rm M_Ra_isLarge rfl k_390 rfl (by decide) (Nat.le_of_ble_eq_true rfl) ⟨by decide, by decide⟩ d_Ce_read_40 ?_
      refine Can.mono K (fun _ h4 z => ?_)
      obtain ⟨r4, rfl, K⟩ := z
      show Wg X 0 0 h4 [(0, .ref 14), (1, .int v1), (2, .ref 34)] [.int r4] 43
      refine r_if_eq C 49 d_Ce_read_43 (by decide) ⟨fun c0 => ?_, fun c0 => ?_⟩
      · have K := K.1 c0
        refine r_aload_n C 0 rfl d_Ce_read_49 ?_
        refine gf_Ce_reckoner (k2 := 23) C rfl rfl k_223 d_Ce_read_50 ?_
        refine r_callV (As := []) (st := []) (lvc := 6) (mcc := 0) (msc := 0) C Rm M_Re_bringToLowestTerms rfl k_863 rfl (by decide) (Nat.le_of_ble_eq_true rfl) ⟨by decide, by decide⟩ d_Ce_read_53 ?_
        refine Can.mono K (fun _ h5 z => ?_)
        obtain ⟨rfl, K⟩ := z
        show Wg X 0 0 h5 [(0, .ref 14), (1, .int v1), (2, .ref 34)] [] 56
        refine r_aload_n C 0 rfl d_Ce_read_56 ?_
        refine r_iload_n C 1 rfl d_Ce_read_57 ?_
        refine r_callV (As := [.int v1]) (st := []) (lvc := 5) (mcc := 0) (msc := 0) C Rm M_Ce_keepResult rfl k_386 rfl (by decide) (Nat.le_of_ble_eq_true rfl) ⟨by decide, by decide⟩ d_Ce_read_58 ?_
        refine Can.mono K (fun _ h6 z => ?_)
        obtain ⟨r6, rfl, K⟩ := z
        show Wg X 0 0 h6 [(0, .ref 14), (1, .int v1), (2, .ref 34)] [.int r6] 61
        exact q_iret C Q d_Ce_read_61 ⟨_, rfl, K⟩
      · have K := K.2 c0
        refine r_bipush (v := (-3)) C (by decide) d_Ce_read_46 ?_
        exact q_iret C Q d_Ce_read_48 ⟨_, rfl, K⟩
    · have K := K.2 c0
      refine r_bipush (v := (-5)) C (by decide) d_Ce_read_36 ?_
      exact q_iret C Q d_Ce_read_38 ⟨_, rfl, K⟩
  · have K := K.2 c0
    refine r_bipush (v := (-7)) C (by decide) d_Ce_read_23 ?_
    exact q_iret C Q d_Ce_read_25 ⟨_, rfl, K⟩
set_option maxRecDepth 20000 in
theorem g_Ce_write_0 {X : CX} {h : HP} {v1 : Int32} {Φ : Int32 → HP → Prop} (C : Cok X b_Ce_write 2 R_Ce ((some .int))) (Rm : xR X = rml 11 0 0) (Q : Qok X 0 0 (fun r h2 => ∃ v, r = some (.int v) ∧ Φ v h2)) 
    (K : K_Ce_checkRegister [.int v1] h (fun h1 => vp_in v1 8 ∧ (K_Pr_print [.ref 52, .ref 15, .int (h1 17 v1.toNatClampNeg)] h1 (fun r2 h2 => (r2 = 0 → Φ ((-6)) h2) ∧ (¬ r2 = 0 → Φ (h2 52 1) h2))))) :
    Wg X 0 0 h [(0, .ref 14), (1, .int v1)] [] 0 := by
  refine r_iload_n C 1 rfl d_Ce_write_0 ?_
  refine r_callS (As := [.int v1]) (st := []) (lvc := 10) (mcc := 0) (msc := 0) C Rm M_Ce_checkRegister rfl k_298 (by decide) (Nat.le_of_ble_eq_true rfl) ⟨by decide, by decide⟩ d_Ce_write_1 ?_
  refine Can.mono K (fun _ h1 z => ?_)
  obtain ⟨rfl, K⟩ := z
  show Wg X 0 0 h1 [(0, .ref 14), (1, .int v1)] [] 4
  refine r_aload_n C 0 rfl d_Ce_write_4 ?_
  refine gf_Ce_printer (k2 := 52) C rfl rfl k_224 d_Ce_write_5 ?_
  refine r_aload_n C 0 rfl d_Ce_write_8 ?_
  refine gf_Ce_heap (k2 := 15) C rfl rfl k_221 d_Ce_write_9 ?_
  refine r_aload_n C 0 rfl d_Ce_write_12 ?_
  refine gf_Ce_heap (k2 := 15) C rfl rfl k_221 d_Ce_write_13 ?_
  refine gf_He_registers (k2 := 17) C rfl rfl k_44 d_Ce_write_16 ?_
  refine r_iload_n C 1 rfl d_Ce_write_19 ?_
  obtain ⟨s0, K⟩ := K
  refine r_iald C rfl s0 d_Ce_write_20 ?_
  refine r_callV (As := [.ref 15, .int (h1 17 v1.toNatClampNeg)]) (st := []) (lvc := 7) (mcc := 0) (msc := 0) C Rm M_Pr_print rfl k_957 rfl (by decide) (Nat.le_of_ble_eq_true rfl) ⟨by decide, by decide⟩ d_Ce_write_21 ?_
  refine Can.mono K (fun _ h2 z => ?_)
  obtain ⟨r2, rfl, K⟩ := z
  show Wg X 0 0 h2 [(0, .ref 14), (1, .int v1)] [.int r2] 24
  refine r_if_eq C 37 d_Ce_write_24 (by decide) ⟨fun c0 => ?_, fun c0 => ?_⟩
  · have K := K.1 c0
    refine r_bipush (v := (-6)) C (by decide) d_Ce_write_37 ?_
    exact q_iret C Q d_Ce_write_39 ⟨_, rfl, K⟩
  · have K := K.2 c0
    refine r_aload_n C 0 rfl d_Ce_write_27 ?_
    refine gf_Ce_printer (k2 := 52) C rfl rfl k_224 d_Ce_write_28 ?_
    refine gf_Pr_length C rfl k_200 d_Ce_write_31 ?_
    refine r_goto C 39 d_Ce_write_34 (by decide) ?_
    exact q_iret C Q d_Ce_write_39 ⟨_, rfl, K⟩
set_option maxRecDepth 20000 in
theorem g_Ce_output_0 {X : CX} {h : HP} {v1 : Int32} {Φ : Int32 → HP → Prop} (C : Cok X b_Ce_output 2 R_Ce ((some .char))) (Rm : xR X = rml 0 0 0) (Q : Qok X 0 0 (fun r h2 => ∃ v, r = some (.int v) ∧ Φ v h2)) 
    (K : (v1 < 0 → (vp_nar .char 32 = 32 ∧ Φ 32 h)) ∧ (¬ v1 < 0 → (((h 52 1)) ≤ v1 → (vp_nar .char 32 = 32 ∧ Φ 32 h)) ∧ (¬ ((h 52 1)) ≤ v1 → vp_in v1 400 ∧ ((vp_nar .char (h 53 v1.toNatClampNeg) = (h 53 v1.toNatClampNeg) ∧ Φ (h 53 v1.toNatClampNeg) h))))) :
    Wg X 0 0 h [(0, .ref 14), (1, .int v1)] [] 0 := by
  refine r_iload_n C 1 rfl d_Ce_output_0 ?_
  refine r_if_lt C 27 d_Ce_output_1 (by decide) ⟨fun c0 => ?_, fun c0 => ?_⟩
  · have K := K.1 c0
    refine r_bipush (v := 32) C (by decide) d_Ce_output_27 ?_
    exact q_cret C Q K.1 d_Ce_output_29 ⟨_, rfl, K.2⟩
  · have K := K.2 c0
    refine r_iload_n C 1 rfl d_Ce_output_4 ?_
    refine r_aload_n C 0 rfl d_Ce_output_5 ?_
    refine gf_Ce_printer (k2 := 52) C rfl rfl k_224 d_Ce_output_6 ?_
    refine gf_Pr_length C rfl k_200 d_Ce_output_9 ?_
    refine r_icmp_ge C 27 d_Ce_output_12 (by decide) ⟨fun c0 => ?_, fun c0 => ?_⟩
    · have K := K.1 c0
      refine r_bipush (v := 32) C (by decide) d_Ce_output_27 ?_
      exact q_cret C Q K.1 d_Ce_output_29 ⟨_, rfl, K.2⟩
    · have K := K.2 c0
      refine r_aload_n C 0 rfl d_Ce_output_15 ?_
      refine gf_Ce_printer (k2 := 52) C rfl rfl k_224 d_Ce_output_16 ?_
      refine gf_Pr_text (k2 := 53) C rfl rfl k_198 d_Ce_output_19 ?_
      refine r_iload_n C 1 rfl d_Ce_output_22 ?_
      obtain ⟨s0, K⟩ := K
      refine r_cald C rfl s0 d_Ce_output_23 ?_
      refine r_goto C 29 d_Ce_output_24 (by decide) ?_
      exact q_cret C Q K.1 d_Ce_output_29 ⟨_, rfl, K.2⟩
set_option maxRecDepth 20000 in
theorem g_Ce_collect_0 {X : CX} {h : HP}  {Φ : Int32 → HP → Prop} (C : Cok X b_Ce_collect 2 R_Ce ((some .int))) (Rm : xR X = rml 4 0 0) (Q : Qok X 0 0 (fun r h2 => ∃ v, r = some (.int v) ∧ Φ v h2)) 
    (K : K_He_slideLiving [.ref 15] h (fun h1 => Φ ((h 15 2) - (h1 15 2)) h1)) :
    Wg X 0 0 h [(0, .ref 14)] [] 0 := by
  refine r_aload_n C 0 rfl d_Ce_collect_0 ?_
  refine gf_Ce_heap (k2 := 15) C rfl rfl k_221 d_Ce_collect_1 ?_
  refine gf_He_top C rfl k_46 d_Ce_collect_4 ?_
  refine r_istore_n (ls2 := [(0, .ref 14), (1, .int (h 15 2))]) C rfl (by decide) rfl d_Ce_collect_7 ?_
  refine r_aload_n C 0 rfl d_Ce_collect_8 ?_
  refine gf_Ce_heap (k2 := 15) C rfl rfl k_221 d_Ce_collect_9 ?_
  refine r_callV (As := []) (st := []) (lvc := 3) (mcc := 0) (msc := 0) C Rm M_He_slideLiving rfl k_246 rfl (by decide) (Nat.le_of_ble_eq_true rfl) ⟨by decide, by decide⟩ d_Ce_collect_12 ?_
  refine Can.mono K (fun _ h1 z => ?_)
  obtain ⟨rfl, K⟩ := z
  show Wg X 0 0 h1 [(0, .ref 14), (1, .int (h 15 2))] [] 15
  refine r_iload_n C 1 rfl d_Ce_collect_15 ?_
  refine r_aload_n C 0 rfl d_Ce_collect_16 ?_
  refine gf_Ce_heap (k2 := 15) C rfl rfl k_221 d_Ce_collect_17 ?_
  refine gf_He_top C rfl k_46 d_Ce_collect_20 ?_
  refine r_isub C d_Ce_collect_23 ?_
  exact q_iret C Q d_Ce_collect_24 ⟨_, rfl, K⟩
set_option maxRecDepth 20000 in
theorem g_Ce_value_0 {X : CX} {h : HP} {v1 : Int32} {v2 : Int32} {Φ : Int32 → HP → Prop} (C : Cok X b_Ce_value 6 R_Ce ((some .int))) (Rm : xR X = rml 11 0 0) (Q : Qok X 0 0 (fun r h2 => ∃ v, r = some (.int v) ∧ Φ v h2)) 
    (K : K_Ce_checkRegister [.int v1] h (fun h1 => K_Ce_checkRange [.int v2, .int 3] h1 (fun h2 => vp_in v1 8 ∧ (K_He_sortOf [.ref 15, .int (h2 17 v1.toNatClampNeg)] h2 (fun r3 h3 => (¬ v2 = 0 → (¬ v2 = (3 : Int32) → (r3 < (2 : Int32) → Wg X 0 0 h3 [(0, .ref 14), (1, .int v1), (2, .int v2), (3, .int (h2 17 v1.toNatClampNeg)), (4, .int r3)] [.int 0] 67) ∧ (¬ r3 < (2 : Int32) → Wg X 0 0 h3 [(0, .ref 14), (1, .int v1), (2, .int v2), (3, .int (h2 17 v1.toNatClampNeg)), (4, .int r3)] [.int 1] 67)) ∧ (v2 = (3 : Int32) → (¬ r3 = (1 : Int32) → Φ 0 h3) ∧ (r3 = (1 : Int32) → K_He_fixedOf [.int (h2 17 v1.toNatClampNeg)] h3 (fun r4 h4 => Φ r4 h4)))) ∧ (v2 = 0 → Φ r3 h3)))))) :
    Wg X 0 0 h [(0, .ref 14), (1, .int v1), (2, .int v2)] [] 0 := by
  refine r_iload_n C 1 rfl d_Ce_value_0 ?_
  refine r_callS (As := [.int v1]) (st := []) (lvc := 10) (mcc := 0) (msc := 0) C Rm M_Ce_checkRegister rfl k_298 (by decide) (Nat.le_of_ble_eq_true rfl) ⟨by decide, by decide⟩ d_Ce_value_1 ?_
  refine Can.mono K (fun _ h1 z => ?_)
  obtain ⟨rfl, K⟩ := z
  show Wg X 0 0 h1 [(0, .ref 14), (1, .int v1), (2, .int v2)] [] 4
  refine r_iload_n C 2 rfl d_Ce_value_4 ?_
  refine r_iconst (v := 3) C (by decide) d_Ce_value_5 ?_
  refine r_callS (As := [.int v2, .int 3]) (st := []) (lvc := 9) (mcc := 0) (msc := 0) C Rm M_Ce_checkRange rfl k_301 (by decide) (Nat.le_of_ble_eq_true rfl) ⟨by decide, by decide⟩ d_Ce_value_6 ?_
  refine Can.mono K (fun _ h2 z => ?_)
  obtain ⟨rfl, K⟩ := z
  show Wg X 0 0 h2 [(0, .ref 14), (1, .int v1), (2, .int v2)] [] 9
  refine r_aload_n C 0 rfl d_Ce_value_9 ?_
  refine gf_Ce_heap (k2 := 15) C rfl rfl k_221 d_Ce_value_10 ?_
  refine gf_He_registers (k2 := 17) C rfl rfl k_44 d_Ce_value_13 ?_
  refine r_iload_n C 1 rfl d_Ce_value_16 ?_
  obtain ⟨s0, K⟩ := K
  refine r_iald C rfl s0 d_Ce_value_17 ?_
  refine r_istore_n (ls2 := [(0, .ref 14), (1, .int v1), (2, .int v2), (3, .int (h2 17 v1.toNatClampNeg))]) C rfl (by decide) rfl d_Ce_value_18 ?_
  refine r_aload_n C 0 rfl d_Ce_value_19 ?_
  refine gf_Ce_heap (k2 := 15) C rfl rfl k_221 d_Ce_value_20 ?_
  refine r_iload_n C 3 rfl d_Ce_value_23 ?_
  refine r_callV (As := [.int (h2 17 v1.toNatClampNeg)]) (st := []) (lvc := 1) (mcc := 0) (msc := 0) C Rm M_He_sortOf rfl k_458 rfl (by decide) (Nat.le_of_ble_eq_true rfl) ⟨by decide, by decide⟩ d_Ce_value_24 ?_
  refine Can.mono K (fun _ h3 z => ?_)
  obtain ⟨r3, rfl, K⟩ := z
  show Wg X 0 0 h3 [(0, .ref 14), (1, .int v1), (2, .int v2), (3, .int (h2 17 v1.toNatClampNeg))] [.int r3] 27
  refine r_istore (ls2 := [(0, .ref 14), (1, .int v1), (2, .int v2), (3, .int (h2 17 v1.toNatClampNeg)), (4, .int r3)]) C (by decide) rfl d_Ce_value_27 ?_
  refine r_iload_n C 2 rfl d_Ce_value_29 ?_
  refine r_if_ne C 36 d_Ce_value_30 (by decide) ⟨fun c0 => ?_, fun c0 => ?_⟩
  · have K := K.1 c0
    refine r_iload_n C 2 rfl d_Ce_value_36 ?_
    refine r_iconst (v := 3) C (by decide) d_Ce_value_37 ?_
    refine r_icmp_ne C 56 d_Ce_value_38 (by decide) ⟨fun c0 => ?_, fun c0 => ?_⟩
    · have K := K.1 c0
      refine r_iload C 4 rfl d_Ce_value_56 ?_
      refine r_iconst (v := 2) C (by decide) d_Ce_value_58 ?_
      refine r_icmp_lt C 66 d_Ce_value_59 (by decide) ⟨fun c0 => ?_, fun c0 => ?_⟩
      · have K := K.1 c0
        refine r_iconst (v := 0) C (by decide) d_Ce_value_66 ?_
        exact K
      · have K := K.2 c0
        refine r_iconst (v := 1) C (by decide) d_Ce_value_62 ?_
        refine r_goto C 67 d_Ce_value_63 (by decide) ?_
        exact K
    · have K := K.2 c0
      refine r_iload C 4 rfl d_Ce_value_41 ?_
      refine r_iconst (v := 1) C (by decide) d_Ce_value_43 ?_
      refine r_icmp_ne C 54 d_Ce_value_44 (by decide) ⟨fun c0 => ?_, fun c0 => ?_⟩
      · have K := K.1 c0
        refine r_iconst (v := 0) C (by decide) d_Ce_value_54 ?_
        exact q_iret C Q d_Ce_value_55 ⟨_, rfl, K⟩
      · have K := K.2 c0
        refine r_iload_n C 3 rfl d_Ce_value_47 ?_
        refine r_callS (As := [.int (h2 17 v1.toNatClampNeg)]) (st := []) (lvc := 0) (mcc := 0) (msc := 0) C Rm M_He_fixedOf rfl k_999 (by decide) (Nat.le_of_ble_eq_true rfl) ⟨by decide, by decide⟩ d_Ce_value_48 ?_
        refine Can.mono K (fun _ h4 z => ?_)
        obtain ⟨r4, rfl, K⟩ := z
        show Wg X 0 0 h4 [(0, .ref 14), (1, .int v1), (2, .int v2), (3, .int (h2 17 v1.toNatClampNeg)), (4, .int r3)] [.int r4] 51
        refine r_goto C 55 d_Ce_value_51 (by decide) ?_
        exact q_iret C Q d_Ce_value_55 ⟨_, rfl, K⟩
  · have K := K.2 c0
    refine r_iload C 4 rfl d_Ce_value_33 ?_
    exact q_iret C Q d_Ce_value_35 ⟨_, rfl, K⟩
set_option maxRecDepth 20000 in
theorem g_Ce_value_67 {X : CX} {h : HP} {v1 : Int32} {v2 : Int32} {v3 : Int32} {v4 : Int32} {t0 : Int32} {Φ : Int32 → HP → Prop} (C : Cok X b_Ce_value 6 R_Ce ((some .int))) (Rm : xR X = rml 11 0 0) (Q : Qok X 0 0 (fun r h2 => ∃ v, r = some (.int v) ∧ Φ v h2)) 
    (K : (¬ v2 = (1 : Int32) → (t0 = 0 → Φ 0 h) ∧ (¬ t0 = 0 → K_He_cellOf [.int v3] h (fun r1 h1 => K_He_sizeAt [.ref 15, .int r1] h1 (fun r2 h2 => Φ r2 h2)))) ∧ (v2 = (1 : Int32) → (t0 = 0 → Φ ((-1)) h) ∧ (¬ t0 = 0 → K_He_cellOf [.int v3] h (fun r3 h3 => Φ r3 h3)))) :
    Wg X 0 0 h [(0, .ref 14), (1, .int v1), (2, .int v2), (3, .int v3), (4, .int v4)] [.int t0] 67 := by
  refine r_istore (ls2 := [(0, .ref 14), (1, .int v1), (2, .int v2), (3, .int v3), (4, .int v4), (5, .int t0)]) C (by decide) rfl d_Ce_value_67 ?_
  refine r_iload_n C 2 rfl d_Ce_value_69 ?_
  refine r_iconst (v := 1) C (by decide) d_Ce_value_70 ?_
  refine r_icmp_ne C 88 d_Ce_value_71 (by decide) ⟨fun c0 => ?_, fun c0 => ?_⟩
  · have K := K.1 c0
    refine r_iload C 5 rfl d_Ce_value_88 ?_
    refine r_if_eq C 107 d_Ce_value_90 (by decide) ⟨fun c0 => ?_, fun c0 => ?_⟩
    · have K := K.1 c0
      refine r_iconst (v := 0) C (by decide) d_Ce_value_107 ?_
      exact q_iret C Q d_Ce_value_108 ⟨_, rfl, K⟩
    · have K := K.2 c0
      refine r_aload_n C 0 rfl d_Ce_value_93 ?_
      refine gf_Ce_heap (k2 := 15) C rfl rfl k_221 d_Ce_value_94 ?_
      refine r_iload_n C 3 rfl d_Ce_value_97 ?_
      refine r_callS (As := [.int v3]) (st := [.ref 15]) (lvc := 0) (mcc := 0) (msc := 0) C Rm M_He_cellOf rfl k_450 (by decide) (Nat.le_of_ble_eq_true rfl) ⟨by decide, by decide⟩ d_Ce_value_98 ?_
      refine Can.mono K (fun _ h1 z => ?_)
      obtain ⟨r1, rfl, K⟩ := z
      show Wg X 0 0 h1 [(0, .ref 14), (1, .int v1), (2, .int v2), (3, .int v3), (4, .int v4), (5, .int t0)] [.int r1, .ref 15] 101
      refine r_callV (As := [.int r1]) (st := []) (lvc := 0) (mcc := 0) (msc := 0) C Rm M_He_sizeAt rfl k_1000 rfl (by decide) (Nat.le_of_ble_eq_true rfl) ⟨by decide, by decide⟩ d_Ce_value_101 ?_
      refine Can.mono K (fun _ h2 z => ?_)
      obtain ⟨r2, rfl, K⟩ := z
      show Wg X 0 0 h2 [(0, .ref 14), (1, .int v1), (2, .int v2), (3, .int v3), (4, .int v4), (5, .int t0)] [.int r2] 104
      refine r_goto C 108 d_Ce_value_104 (by decide) ?_
      exact q_iret C Q d_Ce_value_108 ⟨_, rfl, K⟩
  · have K := K.2 c0
    refine r_iload C 5 rfl d_Ce_value_74 ?_
    refine r_if_eq C 86 d_Ce_value_76 (by decide) ⟨fun c0 => ?_, fun c0 => ?_⟩
    · have K := K.1 c0
      refine r_iconst (v := (-1)) C (by decide) d_Ce_value_86 ?_
      exact q_iret C Q d_Ce_value_87 ⟨_, rfl, K⟩
    · have K := K.2 c0
      refine r_iload_n C 3 rfl d_Ce_value_79 ?_
      refine r_callS (As := [.int v3]) (st := []) (lvc := 0) (mcc := 0) (msc := 0) C Rm M_He_cellOf rfl k_450 (by decide) (Nat.le_of_ble_eq_true rfl) ⟨by decide, by decide⟩ d_Ce_value_80 ?_
      refine Can.mono K (fun _ h3 z => ?_)
      obtain ⟨r3, rfl, K⟩ := z
      show Wg X 0 0 h3 [(0, .ref 14), (1, .int v1), (2, .int v2), (3, .int v3), (4, .int v4), (5, .int t0)] [.int r3] 83
      refine r_goto C 87 d_Ce_value_83 (by decide) ?_
      exact q_iret C Q d_Ce_value_87 ⟨_, rfl, K⟩
set_option maxRecDepth 20000 in
theorem g_Ce_count_0 {X : CX} {h : HP} {v1 : Int32} {Φ : Int32 → HP → Prop} (C : Cok X b_Ce_count 2 R_Ce ((some .int))) (Rm : xR X = rml 10 0 0) (Q : Qok X 0 0 (fun r h2 => ∃ v, r = some (.int v) ∧ Φ v h2)) 
    (K : K_Ce_checkRange [.int v1, .int 3] h (fun h1 => (¬ v1 = 0 → (¬ v1 = (1 : Int32) → (¬ v1 = (2 : Int32) → K_He_markLiving [.ref 15] h1 (fun r2 h2 => Φ r2 h2)) ∧ (v1 = (2 : Int32) → K_He_objectsBelowTop [.ref 15] h1 (fun r3 h3 => Φ r3 h3))) ∧ (v1 = (1 : Int32) → Φ (h1 15 3) h1)) ∧ (v1 = 0 → Φ (h1 15 2) h1))) :
    Wg X 0 0 h [(0, .ref 14), (1, .int v1)] [] 0 := by
  refine r_iload_n C 1 rfl d_Ce_count_0 ?_
  refine r_iconst (v := 3) C (by decide) d_Ce_count_1 ?_
  refine r_callS (As := [.int v1, .int 3]) (st := []) (lvc := 9) (mcc := 0) (msc := 0) C Rm M_Ce_checkRange rfl k_301 (by decide) (Nat.le_of_ble_eq_true rfl) ⟨by decide, by decide⟩ d_Ce_count_2 ?_
  refine Can.mono K (fun _ h1 z => ?_)
  obtain ⟨rfl, K⟩ := z
  show Wg X 0 0 h1 [(0, .ref 14), (1, .int v1)] [] 5
  refine r_iload_n C 1 rfl d_Ce_count_5 ?_
  refine r_if_ne C 17 d_Ce_count_6 (by decide) ⟨fun c0 => ?_, fun c0 => ?_⟩
  · have K := K.1 c0
    refine r_iload_n C 1 rfl d_Ce_count_17 ?_
    refine r_iconst (v := 1) C (by decide) d_Ce_count_18 ?_
    refine r_icmp_ne C 30 d_Ce_count_19 (by decide) ⟨fun c0 => ?_, fun c0 => ?_⟩
    · have K := K.1 c0
      refine r_iload_n C 1 rfl d_Ce_count_30 ?_
      refine r_iconst (v := 2) C (by decide) d_Ce_count_31 ?_
      refine r_icmp_ne C 45 d_Ce_count_32 (by decide) ⟨fun c0 => ?_, fun c0 => ?_⟩
      · have K := K.1 c0
        refine r_aload_n C 0 rfl d_Ce_count_45 ?_
        refine gf_Ce_heap (k2 := 15) C rfl rfl k_221 d_Ce_count_46 ?_
        refine r_callV (As := []) (st := []) (lvc := 2) (mcc := 0) (msc := 0) C Rm M_He_markLiving rfl k_1012 rfl (by decide) (Nat.le_of_ble_eq_true rfl) ⟨by decide, by decide⟩ d_Ce_count_49 ?_
        refine Can.mono K (fun _ h2 z => ?_)
        obtain ⟨r2, rfl, K⟩ := z
        show Wg X 0 0 h2 [(0, .ref 14), (1, .int v1)] [.int r2] 52
        exact q_iret C Q d_Ce_count_52 ⟨_, rfl, K⟩
      · have K := K.2 c0
        refine r_aload_n C 0 rfl d_Ce_count_35 ?_
        refine gf_Ce_heap (k2 := 15) C rfl rfl k_221 d_Ce_count_36 ?_
        refine r_callV (As := []) (st := []) (lvc := 1) (mcc := 0) (msc := 0) C Rm M_He_objectsBelowTop rfl k_1008 rfl (by decide) (Nat.le_of_ble_eq_true rfl) ⟨by decide, by decide⟩ d_Ce_count_39 ?_
        refine Can.mono K (fun _ h3 z => ?_)
        obtain ⟨r3, rfl, K⟩ := z
        show Wg X 0 0 h3 [(0, .ref 14), (1, .int v1)] [.int r3] 42
        refine r_goto C 52 d_Ce_count_42 (by decide) ?_
        exact q_iret C Q d_Ce_count_52 ⟨_, rfl, K⟩
    · have K := K.2 c0
      refine r_aload_n C 0 rfl d_Ce_count_22 ?_
      refine gf_Ce_heap (k2 := 15) C rfl rfl k_221 d_Ce_count_23 ?_
      refine gf_He_collections C rfl k_47 d_Ce_count_26 ?_
      exact q_iret C Q d_Ce_count_29 ⟨_, rfl, K⟩
  · have K := K.2 c0
    refine r_aload_n C 0 rfl d_Ce_count_9 ?_
    refine gf_Ce_heap (k2 := 15) C rfl rfl k_221 d_Ce_count_10 ?_
    refine gf_He_top C rfl k_46 d_Ce_count_13 ?_
    exact q_iret C Q d_Ce_count_16 ⟨_, rfl, K⟩
