
theorem k_106 : (Jvm.Cond.fieldLink "CellHeap$Division" (64 : Nat) "CellHeap$Whole" "words" "[I") ∈ wx_tbl := wx_in 170 (by decide +kernel) rfl
theorem k_108 : (Jvm.Cond.fieldLink "CellHeap$Division" (28 : Nat) "CellHeap$Whole" "length" "I") ∈ wx_tbl := wx_in 172 (by decide +kernel) rfl
theorem k_110 : (Jvm.Cond.fieldLink "CellHeap$Ratio" (29 : Nat) "CellHeap$Whole" "length" "I") ∈ wx_tbl := wx_in 174 (by decide +kernel) rfl
theorem k_113 : (Jvm.Cond.fieldLink "CellHeap$Division" (56 : Nat) "CellHeap$Whole" "below" "Z") ∈ wx_tbl := wx_in 177 (by decide +kernel) rfl
theorem k_114 : (Jvm.Cond.fieldLink "CellHeap$Reckoner" (84 : Nat) "CellHeap$Whole" "below" "Z") ∈ wx_tbl := wx_in 178 (by decide +kernel) rfl
theorem k_124 : (Jvm.Cond.fieldLink "CellHeap$Ratio" (12 : Nat) "CellHeap$Ratio" "upper" "LCellHeap$Whole;") ∈ wx_tbl := wx_in 188 (by decide +kernel) rfl
theorem k_125 : (Jvm.Cond.fieldLink "CellHeap$Reckoner" (44 : Nat) "CellHeap$Ratio" "upper" "LCellHeap$Whole;") ∈ wx_tbl := wx_in 189 (by decide +kernel) rfl
theorem k_129 : (Jvm.Cond.fieldLink "CellHeap$Ratio" (18 : Nat) "CellHeap$Ratio" "lower" "LCellHeap$Whole;") ∈ wx_tbl := wx_in 193 (by decide +kernel) rfl
theorem k_130 : (Jvm.Cond.fieldLink "CellHeap$Reckoner" (51 : Nat) "CellHeap$Ratio" "lower" "LCellHeap$Whole;") ∈ wx_tbl := wx_in 194 (by decide +kernel) rfl
theorem k_149 : (Jvm.Cond.fieldLink "CellHeap$Division" (12 : Nat) "CellHeap$Division" "quotient" "LCellHeap$Whole;") ∈ wx_tbl := wx_in 213 (by decide +kernel) rfl
theorem k_150 : (Jvm.Cond.fieldLink "CellHeap$Reckoner" (74 : Nat) "CellHeap$Division" "quotient" "LCellHeap$Whole;") ∈ wx_tbl := wx_in 214 (by decide +kernel) rfl
theorem k_151 : (Jvm.Cond.fieldLink "CellHeap$Division" (18 : Nat) "CellHeap$Division" "remainder" "LCellHeap$Whole;") ∈ wx_tbl := wx_in 215 (by decide +kernel) rfl
theorem k_152 : (Jvm.Cond.fieldLink "CellHeap$Reckoner" (77 : Nat) "CellHeap$Division" "remainder" "LCellHeap$Whole;") ∈ wx_tbl := wx_in 216 (by decide +kernel) rfl
theorem k_153 : (Jvm.Cond.fieldLink "CellHeap$Division" (21 : Nat) "CellHeap$Division" "rest" "[I") ∈ wx_tbl := wx_in 217 (by decide +kernel) rfl
theorem k_154 : (Jvm.Cond.fieldLink "CellHeap$Division" (25 : Nat) "CellHeap$Division" "by" "[I") ∈ wx_tbl := wx_in 218 (by decide +kernel) rfl
theorem k_164 : (Jvm.Cond.fieldLink "CellHeap$Reckoner" (12 : Nat) "CellHeap$Reckoner" "left" "LCellHeap$Ratio;") ∈ wx_tbl := wx_in 228 (by decide +kernel) rfl
theorem k_166 : (Jvm.Cond.fieldLink "CellHeap$Reckoner" (18 : Nat) "CellHeap$Reckoner" "right" "LCellHeap$Ratio;") ∈ wx_tbl := wx_in 230 (by decide +kernel) rfl
theorem k_168 : (Jvm.Cond.fieldLink "CellHeap$Reckoner" (21 : Nat) "CellHeap$Reckoner" "result" "LCellHeap$Ratio;") ∈ wx_tbl := wx_in 232 (by decide +kernel) rfl
theorem k_170 : (Jvm.Cond.fieldLink "CellHeap$Reckoner" (27 : Nat) "CellHeap$Reckoner" "other" "LCellHeap$Whole;") ∈ wx_tbl := wx_in 234 (by decide +kernel) rfl
theorem k_171 : (Jvm.Cond.fieldLink "CellHeap$Reckoner" (31 : Nat) "CellHeap$Reckoner" "divisor" "LCellHeap$Whole;") ∈ wx_tbl := wx_in 235 (by decide +kernel) rfl
theorem k_172 : (Jvm.Cond.fieldLink "CellHeap$Reckoner" (34 : Nat) "CellHeap$Reckoner" "next" "LCellHeap$Whole;") ∈ wx_tbl := wx_in 236 (by decide +kernel) rfl
theorem k_173 : (Jvm.Cond.fieldLink "CellHeap$Reckoner" (40 : Nat) "CellHeap$Reckoner" "division" "LCellHeap$Division;") ∈ wx_tbl := wx_in 237 (by decide +kernel) rfl
theorem k_378 : (Jvm.Cond.methodLink "CellHeap$Ratio" (21 : Nat) ({ cls := "CellHeap$Whole", name := "setLong", desc := "(J)V" } : Jvm.MethodName)) ∈ wx_tbl := wx_in 442 (by decide +kernel) rfl
theorem k_410 : (Jvm.Cond.methodLink "CellHeap$Ratio" (25 : Nat) ({ cls := "CellHeap$Whole", name := "isOne", desc := "()Z" } : Jvm.MethodName)) ∈ wx_tbl := wx_in 474 (by decide +kernel) rfl
theorem k_516 : (Jvm.Cond.methodLink "CellHeap$Reckoner" (60 : Nat) ({ cls := "CellHeap$Whole", name := "setLong", desc := "(J)V" } : Jvm.MethodName)) ∈ wx_tbl := wx_in 580 (by decide +kernel) rfl
theorem k_517 : (Jvm.Cond.methodLink "CellHeap$Reckoner" (64 : Nat) ({ cls := "CellHeap$Reckoner", name := "findDivisor", desc := "(LCellHeap$Whole;LCellHeap$Whole;)V" } : Jvm.MethodName)) ∈ wx_tbl := wx_in 581 (by decide +kernel) rfl
theorem k_521 : (Jvm.Cond.methodLink "CellHeap$Reckoner" (67 : Nat) ({ cls := "CellHeap$Whole", name := "setTo", desc := "(LCellHeap$Whole;)V" } : Jvm.MethodName)) ∈ wx_tbl := wx_in 585 (by decide +kernel) rfl
theorem k_526 : (Jvm.Cond.methodLink "CellHeap$Reckoner" (92 : Nat) ({ cls := "CellHeap$Whole", name := "isZero", desc := "()Z" } : Jvm.MethodName)) ∈ wx_tbl := wx_in 590 (by decide +kernel) rfl
theorem k_527 : (Jvm.Cond.methodLink "CellHeap$Reckoner" (71 : Nat) ({ cls := "CellHeap$Division", name := "divide", desc := "(LCellHeap$Whole;LCellHeap$Whole;)V" } : Jvm.MethodName)) ∈ wx_tbl := wx_in 591 (by decide +kernel) rfl
theorem k_531 : (Jvm.Cond.methodLink "CellHeap$Division" (32 : Nat) ({ cls := "CellHeap$Whole", name := "setTo", desc := "(LCellHeap$Whole;)V" } : Jvm.MethodName)) ∈ wx_tbl := wx_in 595 (by decide +kernel) rfl
theorem k_532 : (Jvm.Cond.methodLink "CellHeap$Division" (36 : Nat) ({ cls := "CellHeap$Whole", name := "wordAt", desc := "(I)J" } : Jvm.MethodName)) ∈ wx_tbl := wx_in 596 (by decide +kernel) rfl
theorem k_537 : (Jvm.Cond.methodLink "CellHeap$Division" (40 : Nat) ({ cls := "CellHeap$Whole", name := "divideByWord", desc := "(J)J" } : Jvm.MethodName)) ∈ wx_tbl := wx_in 601 (by decide +kernel) rfl
theorem k_545 : (Jvm.Cond.methodLink "CellHeap$Division" (44 : Nat) ({ cls := "CellHeap$Whole", name := "setLong", desc := "(J)V" } : Jvm.MethodName)) ∈ wx_tbl := wx_in 609 (by decide +kernel) rfl
theorem k_546 : (Jvm.Cond.methodLink "CellHeap$Division" (48 : Nat) ({ cls := "CellHeap$Whole", name := "orderOfSizes", desc := "(LCellHeap$Whole;)I" } : Jvm.MethodName)) ∈ wx_tbl := wx_in 610 (by decide +kernel) rfl
theorem k_550 : (Jvm.Cond.methodLink "CellHeap$Division" (52 : Nat) ({ cls := "CellHeap$Division", name := "divideByWords", desc := "(LCellHeap$Whole;LCellHeap$Whole;)V" } : Jvm.MethodName)) ∈ wx_tbl := wx_in 614 (by decide +kernel) rfl
theorem k_554 : (Jvm.Cond.methodLink "CellHeap$Division" (67 : Nat) ({ cls := "java/lang/Integer", name := "numberOfLeadingZeros", desc := "(I)I" } : Jvm.MethodName)) ∈ wx_tbl := wx_in 618 (by decide +kernel) rfl
theorem k_558 : (Jvm.Cond.methodLink "CellHeap$Division" (73 : Nat) ({ cls := "CellHeap$Division", name := "shiftUp", desc := "(LCellHeap$Whole;I[I)V" } : Jvm.MethodName)) ∈ wx_tbl := wx_in 622 (by decide +kernel) rfl
theorem k_561 : (Jvm.Cond.methodLink "CellHeap$Division" (77 : Nat) ({ cls := "CellHeap$Division", name := "guessQuotientWord", desc := "(II)J" } : Jvm.MethodName)) ∈ wx_tbl := wx_in 625 (by decide +kernel) rfl
theorem k_565 : (Jvm.Cond.constantLong "CellHeap$Division" (93 : Nat) (4294967295 : Int64)) ∈ wx_tbl := wx_in 629 (by decide +kernel) rfl
theorem k_566 : (Jvm.Cond.methodLink "CellHeap$Division" (95 : Nat) ({ cls := "CellHeap$Whole", name := "quotientWithoutSign", desc := "(JJ)J" } : Jvm.MethodName)) ∈ wx_tbl := wx_in 630 (by decide +kernel) rfl
theorem k_567 : (Jvm.Cond.constantLong "CellHeap$Division" (99 : Nat) (4294967296 : Int64)) ∈ wx_tbl := wx_in 631 (by decide +kernel) rfl
theorem k_568 : (Jvm.Cond.constantLong "CellHeap$Division" (101 : Nat) (-9223372036854775808 : Int64)) ∈ wx_tbl := wx_in 632 (by decide +kernel) rfl
theorem k_569 : (Jvm.Cond.methodLink "CellHeap$Division" (81 : Nat) ({ cls := "CellHeap$Division", name := "subtractTimes", desc := "(JII)Z" } : Jvm.MethodName)) ∈ wx_tbl := wx_in 633 (by decide +kernel) rfl
theorem k_573 : (Jvm.Cond.methodLink "CellHeap$Division" (85 : Nat) ({ cls := "CellHeap$Division", name := "addBack", desc := "(II)V" } : Jvm.MethodName)) ∈ wx_tbl := wx_in 637 (by decide +kernel) rfl
theorem k_577 : (Jvm.Cond.methodLink "CellHeap$Division" (89 : Nat) ({ cls := "CellHeap$Whole", name := "trim", desc := "(I)V" } : Jvm.MethodName)) ∈ wx_tbl := wx_in 641 (by decide +kernel) rfl
theorem k_578 : (Jvm.Cond.methodLink "CellHeap$Division" (60 : Nat) ({ cls := "CellHeap$Whole", name := "isZero", desc := "()Z" } : Jvm.MethodName)) ∈ wx_tbl := wx_in 642 (by decide +kernel) rfl
theorem k_583 : (Jvm.Cond.methodLink "CellHeap$Reckoner" (47 : Nat) ({ cls := "CellHeap$Whole", name := "setProduct", desc := "(LCellHeap$Whole;LCellHeap$Whole;)V" } : Jvm.MethodName)) ∈ wx_tbl := wx_in 647 (by decide +kernel) rfl
theorem k_845 : (Jvm.Cond.methodLink "CellHeap$Reckoner" (54 : Nat) ({ cls := "CellHeap$Whole", name := "flipSign", desc := "()V" } : Jvm.MethodName)) ∈ wx_tbl := wx_in 909 (by decide +kernel) rfl
theorem k_849 : (Jvm.Cond.methodLink "CellHeap$Reckoner" (57 : Nat) ({ cls := "CellHeap$Whole", name := "setSum", desc := "(LCellHeap$Whole;LCellHeap$Whole;)V" } : Jvm.MethodName)) ∈ wx_tbl := wx_in 913 (by decide +kernel) rfl
theorem k_867 : (Jvm.Cond.methodLink "CellHeap$Reckoner" (88 : Nat) ({ cls := "CellHeap$Whole", name := "isOne", desc := "()Z" } : Jvm.MethodName)) ∈ wx_tbl := wx_in 931 (by decide +kernel) rfl
theorem k_879 : (Jvm.Cond.methodLink "CellHeap$Reckoner" (80 : Nat) ({ cls := "CellHeap$Whole", name := "orderTo", desc := "(LCellHeap$Whole;)I" } : Jvm.MethodName)) ∈ wx_tbl := wx_in 943 (by decide +kernel) rfl
/-! Ra_setLong: ('CellHeap$Ratio', 'setLong', '(J)V') -/
abbrev b_Ra_setLong : ByteArray := prog_6_method_2_code
abbrev y_Ra_setLong : MethodName := ⟨R_Ra, "setLong", "(J)V"⟩
abbrev K_Ra_setLong := CanV y_Ra_setLong b_Ra_setLong 3 none 2 0 0
theorem I_Ra_setLong {h : HP} {p0 : Nat} {v1 : Int64} {Φ : HP → Prop} (body : ∀ X : CX, Cok X b_Ra_setLong 3 R_Ra none → xR X = rml 2 0 0 → Qok X 0 0 (fun r h2 => r = none ∧ Φ h2) → Wg X 0 0 h [(0, .ref p0), (1, .long v1)] [] 0) : K_Ra_setLong [.ref p0, .long v1] h Φ := Can.intro (by decide) (fun _ => Nat.le_of_ble_eq_true rfl) body
theorem M_Ra_setLong : Mv y_Ra_setLong b_Ra_setLong 3 none 1 1 := ⟨wx_in 441 (by decide +kernel) rfl, wx_in 439 (by decide +kernel) rfl, wx_in 440 (by decide +kernel) rfl, wx_in 69 (by decide +kernel) rfl, by decide +kernel, by decide, by decide, _, _, rfl⟩
theorem d_Ra_setLong_0 : decode b_Ra_setLong 0 = .ok (.aload_n 0, 1) := by decide +kernel
theorem d_Ra_setLong_1 : decode b_Ra_setLong 1 = .ok (.getfield 12, 3) := by decide +kernel
theorem d_Ra_setLong_4 : decode b_Ra_setLong 4 = .ok (.lload_n 1, 1) := by decide +kernel
theorem d_Ra_setLong_5 : decode b_Ra_setLong 5 = .ok (.invokevirtual 21, 3) := by decide +kernel
theorem d_Ra_setLong_8 : decode b_Ra_setLong 8 = .ok (.aload_n 0, 1) := by decide +kernel
theorem d_Ra_setLong_9 : decode b_Ra_setLong 9 = .ok (.getfield 18, 3) := by decide +kernel
theorem d_Ra_setLong_12 : decode b_Ra_setLong 12 = .ok (.lconst 1, 1) := by decide +kernel
theorem d_Ra_setLong_13 : decode b_Ra_setLong 13 = .ok (.invokevirtual 21, 3) := by decide +kernel
theorem d_Ra_setLong_16 : decode b_Ra_setLong 16 = .ok (.return_, 1) := by decide +kernel
/-! Ra_isWhole: ('CellHeap$Ratio', 'isWhole', '()Z') -/
abbrev b_Ra_isWhole : ByteArray := prog_6_method_3_code
abbrev y_Ra_isWhole : MethodName := ⟨R_Ra, "isWhole", "()Z"⟩
abbrev K_Ra_isWhole := CanI y_Ra_isWhole b_Ra_isWhole 1 ((some .boolean)) 1 0 0
theorem I_Ra_isWhole {h : HP} {p0 : Nat} {Φ : Int32 → HP → Prop} (body : ∀ X : CX, Cok X b_Ra_isWhole 1 R_Ra ((some .boolean)) → xR X = rml 1 0 0 → Qok X 0 0 (fun r h2 => ∃ v, r = some (.int v) ∧ Φ v h2) → Wg X 0 0 h [(0, .ref p0)] [] 0) : K_Ra_isWhole [.ref p0] h Φ := Can.intro (by decide) (fun _ => Nat.le_of_ble_eq_true rfl) body
theorem M_Ra_isWhole : Mv y_Ra_isWhole b_Ra_isWhole 1 ((some .boolean)) 0 1 := ⟨wx_in 473 (by decide +kernel) rfl, wx_in 471 (by decide +kernel) rfl, wx_in 472 (by decide +kernel) rfl, wx_in 69 (by decide +kernel) rfl, by decide +kernel, by decide, by decide, _, _, rfl⟩
theorem d_Ra_isWhole_0 : decode b_Ra_isWhole 0 = .ok (.aload_n 0, 1) := by decide +kernel
theorem d_Ra_isWhole_1 : decode b_Ra_isWhole 1 = .ok (.getfield 18, 3) := by decide +kernel
theorem d_Ra_isWhole_4 : decode b_Ra_isWhole 4 = .ok (.invokevirtual 25, 3) := by decide +kernel
theorem d_Ra_isWhole_7 : decode b_Ra_isWhole 7 = .ok (.ireturn, 1) := by decide +kernel
/-! Ra_isLarge: ('CellHeap$Ratio', 'isLarge', '()Z') -/
abbrev b_Ra_isLarge : ByteArray := prog_6_method_4_code
abbrev y_Ra_isLarge : MethodName := ⟨R_Ra, "isLarge", "()Z"⟩
abbrev K_Ra_isLarge := CanI y_Ra_isLarge b_Ra_isLarge 1 ((some .boolean)) 0 0 0
theorem I_Ra_isLarge {h : HP} {p0 : Nat} {Φ : Int32 → HP → Prop} (body : ∀ X : CX, Cok X b_Ra_isLarge 1 R_Ra ((some .boolean)) → xR X = rml 0 0 0 → Qok X 0 0 (fun r h2 => ∃ v, r = some (.int v) ∧ Φ v h2) → Wg X 0 0 h [(0, .ref p0)] [] 0) : K_Ra_isLarge [.ref p0] h Φ := Can.intro (by decide) (fun _ => Nat.le_of_ble_eq_true rfl) body
theorem M_Ra_isLarge : Mv y_Ra_isLarge b_Ra_isLarge 1 ((some .boolean)) 0 1 := ⟨wx_in 457 (by decide +kernel) rfl, wx_in 455 (by decide +kernel) rfl, wx_in 456 (by decide +kernel) rfl, wx_in 69 (by decide +kernel) rfl, by decide +kernel, by decide, by decide, _, _, rfl⟩
theorem d_Ra_isLarge_0 : decode b_Ra_isLarge 0 = .ok (.aload_n 0, 1) := by decide +kernel
theorem d_Ra_isLarge_1 : decode b_Ra_isLarge 1 = .ok (.getfield 12, 3) := by decide +kernel
theorem d_Ra_isLarge_4 : decode b_Ra_isLarge 4 = .ok (.getfield 29, 3) := by decide +kernel
theorem d_Ra_isLarge_7 : decode b_Ra_isLarge 7 = .ok (.bipush 20, 2) := by decide +kernel
theorem d_Ra_isLarge_9 : decode b_Ra_isLarge 9 = .ok (.if_icmp .gt 15, 3) := by decide +kernel
theorem d_Ra_isLarge_12 : decode b_Ra_isLarge 12 = .ok (.aload_n 0, 1) := by decide +kernel
theorem d_Ra_isLarge_13 : decode b_Ra_isLarge 13 = .ok (.getfield 18, 3) := by decide +kernel
theorem d_Ra_isLarge_16 : decode b_Ra_isLarge 16 = .ok (.getfield 29, 3) := by decide +kernel
theorem d_Ra_isLarge_19 : decode b_Ra_isLarge 19 = .ok (.bipush 20, 2) := by decide +kernel
theorem d_Ra_isLarge_21 : decode b_Ra_isLarge 21 = .ok (.if_icmp .le 7, 3) := by decide +kernel
theorem d_Ra_isLarge_24 : decode b_Ra_isLarge 24 = .ok (.iconst 1, 1) := by decide +kernel
theorem d_Ra_isLarge_25 : decode b_Ra_isLarge 25 = .ok (.goto 4, 3) := by decide +kernel
theorem d_Ra_isLarge_28 : decode b_Ra_isLarge 28 = .ok (.iconst 0, 1) := by decide +kernel
theorem d_Ra_isLarge_29 : decode b_Ra_isLarge 29 = .ok (.ireturn, 1) := by decide +kernel
/-! Di_shiftUp: ('CellHeap$Division', 'shiftUp', '(LCellHeap$Whole;I[I)V') -/
abbrev b_Di_shiftUp : ByteArray := prog_2_method_4_code
abbrev y_Di_shiftUp : MethodName := ⟨R_Di, "shiftUp", "(LCellHeap$Whole;I[I)V"⟩
abbrev K_Di_shiftUp := CanV y_Di_shiftUp b_Di_shiftUp 6 none 1 0 0
theorem I_Di_shiftUp {h : HP} {p0 : Nat} {v1 : Int32} {p2 : Nat} {n2 : Nat} {Φ : HP → Prop} (body : ∀ X : CX, Cok X b_Di_shiftUp 6 R_Di none → xR X = rml 1 0 0 → Qok X 0 0 (fun r h2 => r = none ∧ Φ h2) → Wg X 0 0 h [(0, .ref p0), (1, .int v1), (2, .ref p2)] [] 0) : K_Di_shiftUp [.ref p0, .int v1, .ref p2] h Φ := Can.intro (by decide) (fun _ => Nat.le_of_ble_eq_true rfl) body
theorem M_Di_shiftUp : Ms y_Di_shiftUp b_Di_shiftUp 6 none 3 := ⟨wx_in 624 (by decide +kernel) rfl, wx_in 623 (by decide +kernel) rfl, wx_in 71 (by decide +kernel) rfl, by decide +kernel, by decide⟩
theorem d_Di_shiftUp_0 : decode b_Di_shiftUp 0 = .ok (.lconst 0, 1) := by decide +kernel
theorem d_Di_shiftUp_1 : decode b_Di_shiftUp 1 = .ok (.lstore_n 3, 1) := by decide +kernel
theorem d_Di_shiftUp_2 : decode b_Di_shiftUp 2 = .ok (.iconst 0, 1) := by decide +kernel
theorem d_Di_shiftUp_3 : decode b_Di_shiftUp 3 = .ok (.istore 5, 2) := by decide +kernel
theorem d_Di_shiftUp_5 : decode b_Di_shiftUp 5 = .ok (.iload 5, 2) := by decide +kernel
theorem d_Di_shiftUp_7 : decode b_Di_shiftUp 7 = .ok (.aload_n 0, 1) := by decide +kernel
theorem d_Di_shiftUp_8 : decode b_Di_shiftUp 8 = .ok (.getfield 28, 3) := by decide +kernel
theorem d_Di_shiftUp_11 : decode b_Di_shiftUp 11 = .ok (.if_icmp .ge 31, 3) := by decide +kernel
theorem d_Di_shiftUp_14 : decode b_Di_shiftUp 14 = .ok (.lload_n 3, 1) := by decide +kernel
theorem d_Di_shiftUp_15 : decode b_Di_shiftUp 15 = .ok (.aload_n 0, 1) := by decide +kernel
theorem d_Di_shiftUp_16 : decode b_Di_shiftUp 16 = .ok (.iload 5, 2) := by decide +kernel
theorem d_Di_shiftUp_18 : decode b_Di_shiftUp 18 = .ok (.invokevirtual 36, 3) := by decide +kernel
theorem d_Di_shiftUp_21 : decode b_Di_shiftUp 21 = .ok (.iload_n 1, 1) := by decide +kernel
theorem d_Di_shiftUp_22 : decode b_Di_shiftUp 22 = .ok (.lshl, 1) := by decide +kernel
theorem d_Di_shiftUp_23 : decode b_Di_shiftUp 23 = .ok (.lor, 1) := by decide +kernel
theorem d_Di_shiftUp_24 : decode b_Di_shiftUp 24 = .ok (.lstore_n 3, 1) := by decide +kernel
theorem d_Di_shiftUp_25 : decode b_Di_shiftUp 25 = .ok (.aload_n 2, 1) := by decide +kernel
theorem d_Di_shiftUp_26 : decode b_Di_shiftUp 26 = .ok (.iload 5, 2) := by decide +kernel
theorem d_Di_shiftUp_28 : decode b_Di_shiftUp 28 = .ok (.lload_n 3, 1) := by decide +kernel
theorem d_Di_shiftUp_29 : decode b_Di_shiftUp 29 = .ok (.l2i, 1) := by decide +kernel
theorem d_Di_shiftUp_30 : decode b_Di_shiftUp 30 = .ok (.iastore, 1) := by decide +kernel
theorem d_Di_shiftUp_31 : decode b_Di_shiftUp 31 = .ok (.lload_n 3, 1) := by decide +kernel
theorem d_Di_shiftUp_32 : decode b_Di_shiftUp 32 = .ok (.bipush 32, 2) := by decide +kernel
theorem d_Di_shiftUp_34 : decode b_Di_shiftUp 34 = .ok (.lushr, 1) := by decide +kernel
theorem d_Di_shiftUp_35 : decode b_Di_shiftUp 35 = .ok (.lstore_n 3, 1) := by decide +kernel
theorem d_Di_shiftUp_36 : decode b_Di_shiftUp 36 = .ok (.iinc 5 1, 3) := by decide +kernel
theorem d_Di_shiftUp_39 : decode b_Di_shiftUp 39 = .ok (.goto (-34), 3) := by decide +kernel
theorem d_Di_shiftUp_42 : decode b_Di_shiftUp 42 = .ok (.aload_n 2, 1) := by decide +kernel
theorem d_Di_shiftUp_43 : decode b_Di_shiftUp 43 = .ok (.aload_n 0, 1) := by decide +kernel
theorem d_Di_shiftUp_44 : decode b_Di_shiftUp 44 = .ok (.getfield 28, 3) := by decide +kernel
theorem d_Di_shiftUp_47 : decode b_Di_shiftUp 47 = .ok (.lload_n 3, 1) := by decide +kernel
theorem d_Di_shiftUp_48 : decode b_Di_shiftUp 48 = .ok (.l2i, 1) := by decide +kernel
theorem d_Di_shiftUp_49 : decode b_Di_shiftUp 49 = .ok (.iastore, 1) := by decide +kernel
theorem d_Di_shiftUp_50 : decode b_Di_shiftUp 50 = .ok (.return_, 1) := by decide +kernel
/-! Di_guessQuotientWord: ('CellHeap$Division', 'guessQuotientWord', '(II)J') -/
abbrev b_Di_guessQuotientWord : ByteArray := prog_2_method_5_code
abbrev y_Di_guessQuotientWord : MethodName := ⟨R_Di, "guessQuotientWord", "(II)J"⟩
abbrev K_Di_guessQuotientWord := CanL y_Di_guessQuotientWord b_Di_guessQuotientWord 16 ((some .long)) 1 0 0
theorem I_Di_guessQuotientWord {h : HP} {v1 : Int32} {v2 : Int32} {Φ : Int64 → HP → Prop} (body : ∀ X : CX, Cok X b_Di_guessQuotientWord 16 R_Di ((some .long)) → xR X = rml 1 0 0 → Qok X 0 0 (fun r h2 => ∃ v, r = some (.long v) ∧ Φ v h2) → Wg X 0 0 h [(0, .ref 45), (1, .int v1), (2, .int v2)] [] 0) : K_Di_guessQuotientWord [.ref 45, .int v1, .int v2] h Φ := Can.intro (by decide) (fun _ => Nat.le_of_ble_eq_true rfl) body
theorem M_Di_guessQuotientWord : Mv y_Di_guessQuotientWord b_Di_guessQuotientWord 16 ((some .long)) 2 2 := ⟨wx_in 628 (by decide +kernel) rfl, wx_in 627 (by decide +kernel) rfl, wx_in 11 (by decide +kernel) rfl, wx_in 71 (by decide +kernel) rfl, by decide +kernel, by decide, by decide, _, _, rfl⟩
theorem d_Di_guessQuotientWord_0 : decode b_Di_guessQuotientWord 0 = .ok (.aload_n 0, 1) := by decide +kernel
theorem d_Di_guessQuotientWord_1 : decode b_Di_guessQuotientWord 1 = .ok (.getfield 21, 3) := by decide +kernel
theorem d_Di_guessQuotientWord_4 : decode b_Di_guessQuotientWord 4 = .ok (.iload_n 1, 1) := by decide +kernel
theorem d_Di_guessQuotientWord_5 : decode b_Di_guessQuotientWord 5 = .ok (.iaload, 1) := by decide +kernel
theorem d_Di_guessQuotientWord_6 : decode b_Di_guessQuotientWord 6 = .ok (.i2l, 1) := by decide +kernel
theorem d_Di_guessQuotientWord_7 : decode b_Di_guessQuotientWord 7 = .ok (.ldc2_w 93, 3) := by decide +kernel
theorem d_Di_guessQuotientWord_10 : decode b_Di_guessQuotientWord 10 = .ok (.land, 1) := by decide +kernel
theorem d_Di_guessQuotientWord_11 : decode b_Di_guessQuotientWord 11 = .ok (.bipush 32, 2) := by decide +kernel
theorem d_Di_guessQuotientWord_13 : decode b_Di_guessQuotientWord 13 = .ok (.lshl, 1) := by decide +kernel
theorem d_Di_guessQuotientWord_14 : decode b_Di_guessQuotientWord 14 = .ok (.aload_n 0, 1) := by decide +kernel
theorem d_Di_guessQuotientWord_15 : decode b_Di_guessQuotientWord 15 = .ok (.getfield 21, 3) := by decide +kernel
theorem d_Di_guessQuotientWord_18 : decode b_Di_guessQuotientWord 18 = .ok (.iload_n 1, 1) := by decide +kernel
theorem d_Di_guessQuotientWord_19 : decode b_Di_guessQuotientWord 19 = .ok (.iconst 1, 1) := by decide +kernel
theorem d_Di_guessQuotientWord_20 : decode b_Di_guessQuotientWord 20 = .ok (.isub, 1) := by decide +kernel
theorem d_Di_guessQuotientWord_21 : decode b_Di_guessQuotientWord 21 = .ok (.iaload, 1) := by decide +kernel
theorem d_Di_guessQuotientWord_22 : decode b_Di_guessQuotientWord 22 = .ok (.i2l, 1) := by decide +kernel
theorem d_Di_guessQuotientWord_23 : decode b_Di_guessQuotientWord 23 = .ok (.ldc2_w 93, 3) := by decide +kernel
theorem d_Di_guessQuotientWord_26 : decode b_Di_guessQuotientWord 26 = .ok (.land, 1) := by decide +kernel
theorem d_Di_guessQuotientWord_27 : decode b_Di_guessQuotientWord 27 = .ok (.lor, 1) := by decide +kernel
theorem d_Di_guessQuotientWord_28 : decode b_Di_guessQuotientWord 28 = .ok (.lstore_n 3, 1) := by decide +kernel
theorem d_Di_guessQuotientWord_29 : decode b_Di_guessQuotientWord 29 = .ok (.aload_n 0, 1) := by decide +kernel
theorem d_Di_guessQuotientWord_30 : decode b_Di_guessQuotientWord 30 = .ok (.getfield 25, 3) := by decide +kernel
theorem d_Di_guessQuotientWord_33 : decode b_Di_guessQuotientWord 33 = .ok (.iload_n 2, 1) := by decide +kernel
theorem d_Di_guessQuotientWord_34 : decode b_Di_guessQuotientWord 34 = .ok (.iconst 1, 1) := by decide +kernel
theorem d_Di_guessQuotientWord_35 : decode b_Di_guessQuotientWord 35 = .ok (.isub, 1) := by decide +kernel
theorem d_Di_guessQuotientWord_36 : decode b_Di_guessQuotientWord 36 = .ok (.iaload, 1) := by decide +kernel
theorem d_Di_guessQuotientWord_37 : decode b_Di_guessQuotientWord 37 = .ok (.i2l, 1) := by decide +kernel
theorem d_Di_guessQuotientWord_38 : decode b_Di_guessQuotientWord 38 = .ok (.ldc2_w 93, 3) := by decide +kernel
theorem d_Di_guessQuotientWord_41 : decode b_Di_guessQuotientWord 41 = .ok (.land, 1) := by decide +kernel
theorem d_Di_guessQuotientWord_42 : decode b_Di_guessQuotientWord 42 = .ok (.lstore 5, 2) := by decide +kernel
theorem d_Di_guessQuotientWord_44 : decode b_Di_guessQuotientWord 44 = .ok (.aload_n 0, 1) := by decide +kernel
theorem d_Di_guessQuotientWord_45 : decode b_Di_guessQuotientWord 45 = .ok (.getfield 25, 3) := by decide +kernel
theorem d_Di_guessQuotientWord_48 : decode b_Di_guessQuotientWord 48 = .ok (.iload_n 2, 1) := by decide +kernel
theorem d_Di_guessQuotientWord_49 : decode b_Di_guessQuotientWord 49 = .ok (.iconst 2, 1) := by decide +kernel
theorem d_Di_guessQuotientWord_50 : decode b_Di_guessQuotientWord 50 = .ok (.isub, 1) := by decide +kernel
theorem d_Di_guessQuotientWord_51 : decode b_Di_guessQuotientWord 51 = .ok (.iaload, 1) := by decide +kernel
theorem d_Di_guessQuotientWord_52 : decode b_Di_guessQuotientWord 52 = .ok (.i2l, 1) := by decide +kernel
theorem d_Di_guessQuotientWord_53 : decode b_Di_guessQuotientWord 53 = .ok (.ldc2_w 93, 3) := by decide +kernel
theorem d_Di_guessQuotientWord_56 : decode b_Di_guessQuotientWord 56 = .ok (.land, 1) := by decide +kernel
theorem d_Di_guessQuotientWord_57 : decode b_Di_guessQuotientWord 57 = .ok (.lstore 7, 2) := by decide +kernel
theorem d_Di_guessQuotientWord_59 : decode b_Di_guessQuotientWord 59 = .ok (.lload_n 3, 1) := by decide +kernel
theorem d_Di_guessQuotientWord_60 : decode b_Di_guessQuotientWord 60 = .ok (.lload 5, 2) := by decide +kernel
theorem d_Di_guessQuotientWord_62 : decode b_Di_guessQuotientWord 62 = .ok (.invokestatic 95, 3) := by decide +kernel
theorem d_Di_guessQuotientWord_65 : decode b_Di_guessQuotientWord 65 = .ok (.lstore 9, 2) := by decide +kernel
theorem d_Di_guessQuotientWord_67 : decode b_Di_guessQuotientWord 67 = .ok (.lload_n 3, 1) := by decide +kernel
theorem d_Di_guessQuotientWord_68 : decode b_Di_guessQuotientWord 68 = .ok (.lload 9, 2) := by decide +kernel
theorem d_Di_guessQuotientWord_70 : decode b_Di_guessQuotientWord 70 = .ok (.lload 5, 2) := by decide +kernel
theorem d_Di_guessQuotientWord_72 : decode b_Di_guessQuotientWord 72 = .ok (.lmul, 1) := by decide +kernel
theorem d_Di_guessQuotientWord_73 : decode b_Di_guessQuotientWord 73 = .ok (.lsub, 1) := by decide +kernel
theorem d_Di_guessQuotientWord_74 : decode b_Di_guessQuotientWord 74 = .ok (.lstore 11, 2) := by decide +kernel
theorem d_Di_guessQuotientWord_76 : decode b_Di_guessQuotientWord 76 = .ok (.iconst 0, 1) := by decide +kernel
theorem d_Di_guessQuotientWord_77 : decode b_Di_guessQuotientWord 77 = .ok (.istore 13, 2) := by decide +kernel
theorem d_Di_guessQuotientWord_79 : decode b_Di_guessQuotientWord 79 = .ok (.iload 13, 2) := by decide +kernel
theorem d_Di_guessQuotientWord_81 : decode b_Di_guessQuotientWord 81 = .ok (.iconst 2, 1) := by decide +kernel
theorem d_Di_guessQuotientWord_82 : decode b_Di_guessQuotientWord 82 = .ok (.if_icmp .ge 83, 3) := by decide +kernel
theorem d_Di_guessQuotientWord_85 : decode b_Di_guessQuotientWord 85 = .ok (.lload 11, 2) := by decide +kernel
theorem d_Di_guessQuotientWord_87 : decode b_Di_guessQuotientWord 87 = .ok (.ldc2_w 99, 3) := by decide +kernel
theorem d_Di_guessQuotientWord_90 : decode b_Di_guessQuotientWord 90 = .ok (.lcmp, 1) := by decide +kernel
theorem d_Di_guessQuotientWord_91 : decode b_Di_guessQuotientWord 91 = .ok (.ifCond .ge 74, 3) := by decide +kernel
theorem d_Di_guessQuotientWord_94 : decode b_Di_guessQuotientWord 94 = .ok (.lload 11, 2) := by decide +kernel
theorem d_Di_guessQuotientWord_96 : decode b_Di_guessQuotientWord 96 = .ok (.bipush 32, 2) := by decide +kernel
theorem d_Di_guessQuotientWord_98 : decode b_Di_guessQuotientWord 98 = .ok (.lshl, 1) := by decide +kernel
theorem d_Di_guessQuotientWord_99 : decode b_Di_guessQuotientWord 99 = .ok (.aload_n 0, 1) := by decide +kernel
theorem d_Di_guessQuotientWord_100 : decode b_Di_guessQuotientWord 100 = .ok (.getfield 21, 3) := by decide +kernel
theorem d_Di_guessQuotientWord_103 : decode b_Di_guessQuotientWord 103 = .ok (.iload_n 1, 1) := by decide +kernel
theorem d_Di_guessQuotientWord_104 : decode b_Di_guessQuotientWord 104 = .ok (.iconst 2, 1) := by decide +kernel
theorem d_Di_guessQuotientWord_105 : decode b_Di_guessQuotientWord 105 = .ok (.isub, 1) := by decide +kernel
theorem d_Di_guessQuotientWord_106 : decode b_Di_guessQuotientWord 106 = .ok (.iaload, 1) := by decide +kernel
theorem d_Di_guessQuotientWord_107 : decode b_Di_guessQuotientWord 107 = .ok (.i2l, 1) := by decide +kernel
theorem d_Di_guessQuotientWord_108 : decode b_Di_guessQuotientWord 108 = .ok (.ldc2_w 93, 3) := by decide +kernel
theorem d_Di_guessQuotientWord_111 : decode b_Di_guessQuotientWord 111 = .ok (.land, 1) := by decide +kernel
theorem d_Di_guessQuotientWord_112 : decode b_Di_guessQuotientWord 112 = .ok (.lor, 1) := by decide +kernel
theorem d_Di_guessQuotientWord_113 : decode b_Di_guessQuotientWord 113 = .ok (.lstore 14, 2) := by decide +kernel
theorem d_Di_guessQuotientWord_115 : decode b_Di_guessQuotientWord 115 = .ok (.lload 9, 2) := by decide +kernel
theorem d_Di_guessQuotientWord_117 : decode b_Di_guessQuotientWord 117 = .ok (.ldc2_w 99, 3) := by decide +kernel
theorem d_Di_guessQuotientWord_120 : decode b_Di_guessQuotientWord 120 = .ok (.lcmp, 1) := by decide +kernel
theorem d_Di_guessQuotientWord_121 : decode b_Di_guessQuotientWord 121 = .ok (.ifCond .ge 25, 3) := by decide +kernel
theorem d_Di_guessQuotientWord_124 : decode b_Di_guessQuotientWord 124 = .ok (.lload 9, 2) := by decide +kernel
theorem d_Di_guessQuotientWord_126 : decode b_Di_guessQuotientWord 126 = .ok (.lload 7, 2) := by decide +kernel
theorem d_Di_guessQuotientWord_128 : decode b_Di_guessQuotientWord 128 = .ok (.lmul, 1) := by decide +kernel
theorem d_Di_guessQuotientWord_129 : decode b_Di_guessQuotientWord 129 = .ok (.ldc2_w 101, 3) := by decide +kernel
theorem d_Di_guessQuotientWord_132 : decode b_Di_guessQuotientWord 132 = .ok (.ladd, 1) := by decide +kernel
theorem d_Di_guessQuotientWord_133 : decode b_Di_guessQuotientWord 133 = .ok (.lload 14, 2) := by decide +kernel
theorem d_Di_guessQuotientWord_135 : decode b_Di_guessQuotientWord 135 = .ok (.ldc2_w 101, 3) := by decide +kernel
theorem d_Di_guessQuotientWord_138 : decode b_Di_guessQuotientWord 138 = .ok (.ladd, 1) := by decide +kernel
theorem d_Di_guessQuotientWord_139 : decode b_Di_guessQuotientWord 139 = .ok (.lcmp, 1) := by decide +kernel
theorem d_Di_guessQuotientWord_140 : decode b_Di_guessQuotientWord 140 = .ok (.ifCond .gt 6, 3) := by decide +kernel
theorem d_Di_guessQuotientWord_143 : decode b_Di_guessQuotientWord 143 = .ok (.goto 22, 3) := by decide +kernel
theorem d_Di_guessQuotientWord_146 : decode b_Di_guessQuotientWord 146 = .ok (.lload 9, 2) := by decide +kernel
theorem d_Di_guessQuotientWord_148 : decode b_Di_guessQuotientWord 148 = .ok (.lconst 1, 1) := by decide +kernel
theorem d_Di_guessQuotientWord_149 : decode b_Di_guessQuotientWord 149 = .ok (.lsub, 1) := by decide +kernel
theorem d_Di_guessQuotientWord_150 : decode b_Di_guessQuotientWord 150 = .ok (.lstore 9, 2) := by decide +kernel
theorem d_Di_guessQuotientWord_152 : decode b_Di_guessQuotientWord 152 = .ok (.lload 11, 2) := by decide +kernel
theorem d_Di_guessQuotientWord_154 : decode b_Di_guessQuotientWord 154 = .ok (.lload 5, 2) := by decide +kernel
theorem d_Di_guessQuotientWord_156 : decode b_Di_guessQuotientWord 156 = .ok (.ladd, 1) := by decide +kernel
theorem d_Di_guessQuotientWord_157 : decode b_Di_guessQuotientWord 157 = .ok (.lstore 11, 2) := by decide +kernel
theorem d_Di_guessQuotientWord_159 : decode b_Di_guessQuotientWord 159 = .ok (.iinc 13 1, 3) := by decide +kernel
theorem d_Di_guessQuotientWord_162 : decode b_Di_guessQuotientWord 162 = .ok (.goto (-83), 3) := by decide +kernel
theorem d_Di_guessQuotientWord_165 : decode b_Di_guessQuotientWord 165 = .ok (.lload 9, 2) := by decide +kernel
theorem d_Di_guessQuotientWord_167 : decode b_Di_guessQuotientWord 167 = .ok (.lreturn, 1) := by decide +kernel
/-! Di_subtractTimes: ('CellHeap$Division', 'subtractTimes', '(JII)Z') -/
abbrev b_Di_subtractTimes : ByteArray := prog_2_method_6_code
abbrev y_Di_subtractTimes : MethodName := ⟨R_Di, "subtractTimes", "(JII)Z"⟩
abbrev K_Di_subtractTimes := CanI y_Di_subtractTimes b_Di_subtractTimes 12 ((some .boolean)) 0 0 0
theorem I_Di_subtractTimes {h : HP} {v1 : Int64} {v3 : Int32} {v4 : Int32} {Φ : Int32 → HP → Prop} (body : ∀ X : CX, Cok X b_Di_subtractTimes 12 R_Di ((some .boolean)) → xR X = rml 0 0 0 → Qok X 0 0 (fun r h2 => ∃ v, r = some (.int v) ∧ Φ v h2) → Wg X 0 0 h [(0, .ref 45), (1, .long v1), (3, .int v3), (4, .int v4)] [] 0) : K_Di_subtractTimes [.ref 45, .long v1, .int v3, .int v4] h Φ := Can.intro (by decide) (fun _ => Nat.le_of_ble_eq_true rfl) body
theorem M_Di_subtractTimes : Mv y_Di_subtractTimes b_Di_subtractTimes 12 ((some .boolean)) 3 2 := ⟨wx_in 636 (by decide +kernel) rfl, wx_in 635 (by decide +kernel) rfl, wx_in 12 (by decide +kernel) rfl, wx_in 71 (by decide +kernel) rfl, by decide +kernel, by decide, by decide, _, _, rfl⟩
theorem d_Di_subtractTimes_0 : decode b_Di_subtractTimes 0 = .ok (.lconst 0, 1) := by decide +kernel
theorem d_Di_subtractTimes_1 : decode b_Di_subtractTimes 1 = .ok (.lstore 5, 2) := by decide +kernel
theorem d_Di_subtractTimes_3 : decode b_Di_subtractTimes 3 = .ok (.lconst 0, 1) := by decide +kernel
theorem d_Di_subtractTimes_4 : decode b_Di_subtractTimes 4 = .ok (.lstore 7, 2) := by decide +kernel
theorem d_Di_subtractTimes_6 : decode b_Di_subtractTimes 6 = .ok (.iconst 0, 1) := by decide +kernel
theorem d_Di_subtractTimes_7 : decode b_Di_subtractTimes 7 = .ok (.istore 9, 2) := by decide +kernel
theorem d_Di_subtractTimes_9 : decode b_Di_subtractTimes 9 = .ok (.iload 9, 2) := by decide +kernel
theorem d_Di_subtractTimes_11 : decode b_Di_subtractTimes 11 = .ok (.iload 4, 2) := by decide +kernel
theorem d_Di_subtractTimes_13 : decode b_Di_subtractTimes 13 = .ok (.if_icmp .ge 87, 3) := by decide +kernel
theorem d_Di_subtractTimes_16 : decode b_Di_subtractTimes 16 = .ok (.lload 5, 2) := by decide +kernel
theorem d_Di_subtractTimes_18 : decode b_Di_subtractTimes 18 = .ok (.lload_n 1, 1) := by decide +kernel
theorem d_Di_subtractTimes_19 : decode b_Di_subtractTimes 19 = .ok (.aload_n 0, 1) := by decide +kernel
theorem d_Di_subtractTimes_20 : decode b_Di_subtractTimes 20 = .ok (.getfield 25, 3) := by decide +kernel
theorem d_Di_subtractTimes_23 : decode b_Di_subtractTimes 23 = .ok (.iload 9, 2) := by decide +kernel
theorem d_Di_subtractTimes_25 : decode b_Di_subtractTimes 25 = .ok (.iaload, 1) := by decide +kernel
theorem d_Di_subtractTimes_26 : decode b_Di_subtractTimes 26 = .ok (.i2l, 1) := by decide +kernel
theorem d_Di_subtractTimes_27 : decode b_Di_subtractTimes 27 = .ok (.ldc2_w 93, 3) := by decide +kernel
theorem d_Di_subtractTimes_30 : decode b_Di_subtractTimes 30 = .ok (.land, 1) := by decide +kernel
theorem d_Di_subtractTimes_31 : decode b_Di_subtractTimes 31 = .ok (.lmul, 1) := by decide +kernel
theorem d_Di_subtractTimes_32 : decode b_Di_subtractTimes 32 = .ok (.ladd, 1) := by decide +kernel
theorem d_Di_subtractTimes_33 : decode b_Di_subtractTimes 33 = .ok (.lstore 5, 2) := by decide +kernel
theorem d_Di_subtractTimes_35 : decode b_Di_subtractTimes 35 = .ok (.aload_n 0, 1) := by decide +kernel
theorem d_Di_subtractTimes_36 : decode b_Di_subtractTimes 36 = .ok (.getfield 21, 3) := by decide +kernel
theorem d_Di_subtractTimes_39 : decode b_Di_subtractTimes 39 = .ok (.iload_n 3, 1) := by decide +kernel
theorem d_Di_subtractTimes_40 : decode b_Di_subtractTimes 40 = .ok (.iload 9, 2) := by decide +kernel
theorem d_Di_subtractTimes_42 : decode b_Di_subtractTimes 42 = .ok (.iadd, 1) := by decide +kernel
theorem d_Di_subtractTimes_43 : decode b_Di_subtractTimes 43 = .ok (.iaload, 1) := by decide +kernel
theorem d_Di_subtractTimes_44 : decode b_Di_subtractTimes 44 = .ok (.i2l, 1) := by decide +kernel
theorem d_Di_subtractTimes_45 : decode b_Di_subtractTimes 45 = .ok (.ldc2_w 93, 3) := by decide +kernel
theorem d_Di_subtractTimes_48 : decode b_Di_subtractTimes 48 = .ok (.land, 1) := by decide +kernel
theorem d_Di_subtractTimes_49 : decode b_Di_subtractTimes 49 = .ok (.lload 5, 2) := by decide +kernel
theorem d_Di_subtractTimes_51 : decode b_Di_subtractTimes 51 = .ok (.ldc2_w 93, 3) := by decide +kernel
theorem d_Di_subtractTimes_54 : decode b_Di_subtractTimes 54 = .ok (.land, 1) := by decide +kernel
theorem d_Di_subtractTimes_55 : decode b_Di_subtractTimes 55 = .ok (.lsub, 1) := by decide +kernel
theorem d_Di_subtractTimes_56 : decode b_Di_subtractTimes 56 = .ok (.lload 7, 2) := by decide +kernel
theorem d_Di_subtractTimes_58 : decode b_Di_subtractTimes 58 = .ok (.lsub, 1) := by decide +kernel
theorem d_Di_subtractTimes_59 : decode b_Di_subtractTimes 59 = .ok (.lstore 10, 2) := by decide +kernel
theorem d_Di_subtractTimes_61 : decode b_Di_subtractTimes 61 = .ok (.aload_n 0, 1) := by decide +kernel
theorem d_Di_subtractTimes_62 : decode b_Di_subtractTimes 62 = .ok (.getfield 21, 3) := by decide +kernel
theorem d_Di_subtractTimes_65 : decode b_Di_subtractTimes 65 = .ok (.iload_n 3, 1) := by decide +kernel
theorem d_Di_subtractTimes_66 : decode b_Di_subtractTimes 66 = .ok (.iload 9, 2) := by decide +kernel
theorem d_Di_subtractTimes_68 : decode b_Di_subtractTimes 68 = .ok (.iadd, 1) := by decide +kernel
theorem d_Di_subtractTimes_69 : decode b_Di_subtractTimes 69 = .ok (.lload 10, 2) := by decide +kernel
theorem d_Di_subtractTimes_71 : decode b_Di_subtractTimes 71 = .ok (.l2i, 1) := by decide +kernel
theorem d_Di_subtractTimes_72 : decode b_Di_subtractTimes 72 = .ok (.iastore, 1) := by decide +kernel
theorem d_Di_subtractTimes_73 : decode b_Di_subtractTimes 73 = .ok (.lload 10, 2) := by decide +kernel
theorem d_Di_subtractTimes_75 : decode b_Di_subtractTimes 75 = .ok (.lconst 0, 1) := by decide +kernel
theorem d_Di_subtractTimes_76 : decode b_Di_subtractTimes 76 = .ok (.lcmp, 1) := by decide +kernel
theorem d_Di_subtractTimes_77 : decode b_Di_subtractTimes 77 = .ok (.ifCond .ge 7, 3) := by decide +kernel
theorem d_Di_subtractTimes_80 : decode b_Di_subtractTimes 80 = .ok (.lconst 1, 1) := by decide +kernel
theorem d_Di_subtractTimes_81 : decode b_Di_subtractTimes 81 = .ok (.goto 4, 3) := by decide +kernel
theorem d_Di_subtractTimes_84 : decode b_Di_subtractTimes 84 = .ok (.lconst 0, 1) := by decide +kernel
theorem d_Di_subtractTimes_85 : decode b_Di_subtractTimes 85 = .ok (.lstore 7, 2) := by decide +kernel
theorem d_Di_subtractTimes_87 : decode b_Di_subtractTimes 87 = .ok (.lload 5, 2) := by decide +kernel
theorem d_Di_subtractTimes_89 : decode b_Di_subtractTimes 89 = .ok (.bipush 32, 2) := by decide +kernel
theorem d_Di_subtractTimes_91 : decode b_Di_subtractTimes 91 = .ok (.lushr, 1) := by decide +kernel
theorem d_Di_subtractTimes_92 : decode b_Di_subtractTimes 92 = .ok (.lstore 5, 2) := by decide +kernel
theorem d_Di_subtractTimes_94 : decode b_Di_subtractTimes 94 = .ok (.iinc 9 1, 3) := by decide +kernel
theorem d_Di_subtractTimes_97 : decode b_Di_subtractTimes 97 = .ok (.goto (-88), 3) := by decide +kernel
theorem d_Di_subtractTimes_100 : decode b_Di_subtractTimes 100 = .ok (.aload_n 0, 1) := by decide +kernel
theorem d_Di_subtractTimes_101 : decode b_Di_subtractTimes 101 = .ok (.getfield 21, 3) := by decide +kernel
theorem d_Di_subtractTimes_104 : decode b_Di_subtractTimes 104 = .ok (.iload_n 3, 1) := by decide +kernel
theorem d_Di_subtractTimes_105 : decode b_Di_subtractTimes 105 = .ok (.iload 4, 2) := by decide +kernel
theorem d_Di_subtractTimes_107 : decode b_Di_subtractTimes 107 = .ok (.iadd, 1) := by decide +kernel
theorem d_Di_subtractTimes_108 : decode b_Di_subtractTimes 108 = .ok (.iaload, 1) := by decide +kernel
theorem d_Di_subtractTimes_109 : decode b_Di_subtractTimes 109 = .ok (.i2l, 1) := by decide +kernel
theorem d_Di_subtractTimes_110 : decode b_Di_subtractTimes 110 = .ok (.ldc2_w 93, 3) := by decide +kernel
theorem d_Di_subtractTimes_113 : decode b_Di_subtractTimes 113 = .ok (.land, 1) := by decide +kernel
theorem d_Di_subtractTimes_114 : decode b_Di_subtractTimes 114 = .ok (.lload 5, 2) := by decide +kernel
theorem d_Di_subtractTimes_116 : decode b_Di_subtractTimes 116 = .ok (.lsub, 1) := by decide +kernel
theorem d_Di_subtractTimes_117 : decode b_Di_subtractTimes 117 = .ok (.lload 7, 2) := by decide +kernel
theorem d_Di_subtractTimes_119 : decode b_Di_subtractTimes 119 = .ok (.lsub, 1) := by decide +kernel
theorem d_Di_subtractTimes_120 : decode b_Di_subtractTimes 120 = .ok (.lstore 9, 2) := by decide +kernel
theorem d_Di_subtractTimes_122 : decode b_Di_subtractTimes 122 = .ok (.aload_n 0, 1) := by decide +kernel
theorem d_Di_subtractTimes_123 : decode b_Di_subtractTimes 123 = .ok (.getfield 21, 3) := by decide +kernel
theorem d_Di_subtractTimes_126 : decode b_Di_subtractTimes 126 = .ok (.iload_n 3, 1) := by decide +kernel
theorem d_Di_subtractTimes_127 : decode b_Di_subtractTimes 127 = .ok (.iload 4, 2) := by decide +kernel
theorem d_Di_subtractTimes_129 : decode b_Di_subtractTimes 129 = .ok (.iadd, 1) := by decide +kernel
theorem d_Di_subtractTimes_130 : decode b_Di_subtractTimes 130 = .ok (.lload 9, 2) := by decide +kernel
theorem d_Di_subtractTimes_132 : decode b_Di_subtractTimes 132 = .ok (.l2i, 1) := by decide +kernel
theorem d_Di_subtractTimes_133 : decode b_Di_subtractTimes 133 = .ok (.iastore, 1) := by decide +kernel
theorem d_Di_subtractTimes_134 : decode b_Di_subtractTimes 134 = .ok (.lload 9, 2) := by decide +kernel
theorem d_Di_subtractTimes_136 : decode b_Di_subtractTimes 136 = .ok (.lconst 0, 1) := by decide +kernel
theorem d_Di_subtractTimes_137 : decode b_Di_subtractTimes 137 = .ok (.lcmp, 1) := by decide +kernel
theorem d_Di_subtractTimes_138 : decode b_Di_subtractTimes 138 = .ok (.ifCond .lt 7, 3) := by decide +kernel
theorem d_Di_subtractTimes_141 : decode b_Di_subtractTimes 141 = .ok (.iconst 1, 1) := by decide +kernel
theorem d_Di_subtractTimes_142 : decode b_Di_subtractTimes 142 = .ok (.goto 4, 3) := by decide +kernel
theorem d_Di_subtractTimes_145 : decode b_Di_subtractTimes 145 = .ok (.iconst 0, 1) := by decide +kernel
theorem d_Di_subtractTimes_146 : decode b_Di_subtractTimes 146 = .ok (.ireturn, 1) := by decide +kernel
/-! Di_addBack: ('CellHeap$Division', 'addBack', '(II)V') -/
abbrev b_Di_addBack : ByteArray := prog_2_method_7_code
abbrev y_Di_addBack : MethodName := ⟨R_Di, "addBack", "(II)V"⟩
abbrev K_Di_addBack := CanV y_Di_addBack b_Di_addBack 6 none 0 0 0
theorem I_Di_addBack {h : HP} {v1 : Int32} {v2 : Int32} {Φ : HP → Prop} (body : ∀ X : CX, Cok X b_Di_addBack 6 R_Di none → xR X = rml 0 0 0 → Qok X 0 0 (fun r h2 => r = none ∧ Φ h2) → Wg X 0 0 h [(0, .ref 45), (1, .int v1), (2, .int v2)] [] 0) : K_Di_addBack [.ref 45, .int v1, .int v2] h Φ := Can.intro (by decide) (fun _ => Nat.le_of_ble_eq_true rfl) body
theorem M_Di_addBack : Mv y_Di_addBack b_Di_addBack 6 none 2 2 := ⟨wx_in 640 (by decide +kernel) rfl, wx_in 639 (by decide +kernel) rfl, wx_in 13 (by decide +kernel) rfl, wx_in 71 (by decide +kernel) rfl, by decide +kernel, by decide, by decide, _, _, rfl⟩
theorem d_Di_addBack_0 : decode b_Di_addBack 0 = .ok (.lconst 0, 1) := by decide +kernel
theorem d_Di_addBack_1 : decode b_Di_addBack 1 = .ok (.lstore_n 3, 1) := by decide +kernel
theorem d_Di_addBack_2 : decode b_Di_addBack 2 = .ok (.iconst 0, 1) := by decide +kernel
theorem d_Di_addBack_3 : decode b_Di_addBack 3 = .ok (.istore 5, 2) := by decide +kernel
theorem d_Di_addBack_5 : decode b_Di_addBack 5 = .ok (.iload 5, 2) := by decide +kernel
theorem d_Di_addBack_7 : decode b_Di_addBack 7 = .ok (.iload_n 2, 1) := by decide +kernel
theorem d_Di_addBack_8 : decode b_Di_addBack 8 = .ok (.if_icmp .ge 55, 3) := by decide +kernel
theorem d_Di_addBack_11 : decode b_Di_addBack 11 = .ok (.lload_n 3, 1) := by decide +kernel
theorem d_Di_addBack_12 : decode b_Di_addBack 12 = .ok (.aload_n 0, 1) := by decide +kernel
theorem d_Di_addBack_13 : decode b_Di_addBack 13 = .ok (.getfield 21, 3) := by decide +kernel
theorem d_Di_addBack_16 : decode b_Di_addBack 16 = .ok (.iload_n 1, 1) := by decide +kernel
theorem d_Di_addBack_17 : decode b_Di_addBack 17 = .ok (.iload 5, 2) := by decide +kernel
theorem d_Di_addBack_19 : decode b_Di_addBack 19 = .ok (.iadd, 1) := by decide +kernel
theorem d_Di_addBack_20 : decode b_Di_addBack 20 = .ok (.iaload, 1) := by decide +kernel
theorem d_Di_addBack_21 : decode b_Di_addBack 21 = .ok (.i2l, 1) := by decide +kernel
theorem d_Di_addBack_22 : decode b_Di_addBack 22 = .ok (.ldc2_w 93, 3) := by decide +kernel
theorem d_Di_addBack_25 : decode b_Di_addBack 25 = .ok (.land, 1) := by decide +kernel
theorem d_Di_addBack_26 : decode b_Di_addBack 26 = .ok (.aload_n 0, 1) := by decide +kernel
theorem d_Di_addBack_27 : decode b_Di_addBack 27 = .ok (.getfield 25, 3) := by decide +kernel
theorem d_Di_addBack_30 : decode b_Di_addBack 30 = .ok (.iload 5, 2) := by decide +kernel
theorem d_Di_addBack_32 : decode b_Di_addBack 32 = .ok (.iaload, 1) := by decide +kernel
theorem d_Di_addBack_33 : decode b_Di_addBack 33 = .ok (.i2l, 1) := by decide +kernel
theorem d_Di_addBack_34 : decode b_Di_addBack 34 = .ok (.ldc2_w 93, 3) := by decide +kernel
theorem d_Di_addBack_37 : decode b_Di_addBack 37 = .ok (.land, 1) := by decide +kernel
theorem d_Di_addBack_38 : decode b_Di_addBack 38 = .ok (.ladd, 1) := by decide +kernel
theorem d_Di_addBack_39 : decode b_Di_addBack 39 = .ok (.ladd, 1) := by decide +kernel
theorem d_Di_addBack_40 : decode b_Di_addBack 40 = .ok (.lstore_n 3, 1) := by decide +kernel
theorem d_Di_addBack_41 : decode b_Di_addBack 41 = .ok (.aload_n 0, 1) := by decide +kernel
theorem d_Di_addBack_42 : decode b_Di_addBack 42 = .ok (.getfield 21, 3) := by decide +kernel
theorem d_Di_addBack_45 : decode b_Di_addBack 45 = .ok (.iload_n 1, 1) := by decide +kernel
theorem d_Di_addBack_46 : decode b_Di_addBack 46 = .ok (.iload 5, 2) := by decide +kernel
theorem d_Di_addBack_48 : decode b_Di_addBack 48 = .ok (.iadd, 1) := by decide +kernel
theorem d_Di_addBack_49 : decode b_Di_addBack 49 = .ok (.lload_n 3, 1) := by decide +kernel
theorem d_Di_addBack_50 : decode b_Di_addBack 50 = .ok (.l2i, 1) := by decide +kernel
theorem d_Di_addBack_51 : decode b_Di_addBack 51 = .ok (.iastore, 1) := by decide +kernel
theorem d_Di_addBack_52 : decode b_Di_addBack 52 = .ok (.lload_n 3, 1) := by decide +kernel
theorem d_Di_addBack_53 : decode b_Di_addBack 53 = .ok (.bipush 32, 2) := by decide +kernel
theorem d_Di_addBack_55 : decode b_Di_addBack 55 = .ok (.lushr, 1) := by decide +kernel
theorem d_Di_addBack_56 : decode b_Di_addBack 56 = .ok (.lstore_n 3, 1) := by decide +kernel
theorem d_Di_addBack_57 : decode b_Di_addBack 57 = .ok (.iinc 5 1, 3) := by decide +kernel
theorem d_Di_addBack_60 : decode b_Di_addBack 60 = .ok (.goto (-55), 3) := by decide +kernel
theorem d_Di_addBack_63 : decode b_Di_addBack 63 = .ok (.aload_n 0, 1) := by decide +kernel
theorem d_Di_addBack_64 : decode b_Di_addBack 64 = .ok (.getfield 21, 3) := by decide +kernel
theorem d_Di_addBack_67 : decode b_Di_addBack 67 = .ok (.iload_n 1, 1) := by decide +kernel
theorem d_Di_addBack_68 : decode b_Di_addBack 68 = .ok (.iload_n 2, 1) := by decide +kernel
theorem d_Di_addBack_69 : decode b_Di_addBack 69 = .ok (.iadd, 1) := by decide +kernel
theorem d_Di_addBack_70 : decode b_Di_addBack 70 = .ok (.dup2, 1) := by decide +kernel
theorem d_Di_addBack_71 : decode b_Di_addBack 71 = .ok (.iaload, 1) := by decide +kernel
theorem d_Di_addBack_72 : decode b_Di_addBack 72 = .ok (.lload_n 3, 1) := by decide +kernel
theorem d_Di_addBack_73 : decode b_Di_addBack 73 = .ok (.l2i, 1) := by decide +kernel
theorem d_Di_addBack_74 : decode b_Di_addBack 74 = .ok (.iadd, 1) := by decide +kernel
theorem d_Di_addBack_75 : decode b_Di_addBack 75 = .ok (.iastore, 1) := by decide +kernel
theorem d_Di_addBack_76 : decode b_Di_addBack 76 = .ok (.return_, 1) := by decide +kernel
/-! Di_divideByWords: ('CellHeap$Division', 'divideByWords', '(LCellHeap$Whole;LCellHeap$Whole;)V') -/
abbrev b_Di_divideByWords : ByteArray := prog_2_method_3_code
abbrev y_Di_divideByWords : MethodName := ⟨R_Di, "divideByWords", "(LCellHeap$Whole;LCellHeap$Whole;)V"⟩
abbrev K_Di_divideByWords := CanV y_Di_divideByWords b_Di_divideByWords 7 none 2 0 0
theorem I_Di_divideByWords {h : HP} {p1 : Nat} {p2 : Nat} {Φ : HP → Prop} (body : ∀ X : CX, Cok X b_Di_divideByWords 7 R_Di none → xR X = rml 2 0 0 → Qok X 0 0 (fun r h2 => r = none ∧ Φ h2) → Wg X 0 0 h [(0, .ref 45), (1, .ref p1), (2, .ref p2)] [] 0) : K_Di_divideByWords [.ref 45, .ref p1, .ref p2] h Φ := Can.intro (by decide) (fun _ => Nat.le_of_ble_eq_true rfl) body
theorem M_Di_divideByWords : Mv y_Di_divideByWords b_Di_divideByWords 7 none 2 2 := ⟨wx_in 617 (by decide +kernel) rfl, wx_in 616 (by decide +kernel) rfl, wx_in 10 (by decide +kernel) rfl, wx_in 71 (by decide +kernel) rfl, by decide +kernel, by decide, by decide, _, _, rfl⟩
theorem d_Di_divideByWords_0 : decode b_Di_divideByWords 0 = .ok (.aload_n 2, 1) := by decide +kernel
theorem d_Di_divideByWords_1 : decode b_Di_divideByWords 1 = .ok (.getfield 64, 3) := by decide +kernel
theorem d_Di_divideByWords_4 : decode b_Di_divideByWords 4 = .ok (.aload_n 2, 1) := by decide +kernel
theorem d_Di_divideByWords_5 : decode b_Di_divideByWords 5 = .ok (.getfield 28, 3) := by decide +kernel
theorem d_Di_divideByWords_8 : decode b_Di_divideByWords 8 = .ok (.iconst 1, 1) := by decide +kernel
theorem d_Di_divideByWords_9 : decode b_Di_divideByWords 9 = .ok (.isub, 1) := by decide +kernel
theorem d_Di_divideByWords_10 : decode b_Di_divideByWords 10 = .ok (.iaload, 1) := by decide +kernel
theorem d_Di_divideByWords_11 : decode b_Di_divideByWords 11 = .ok (.invokestatic 67, 3) := by decide +kernel
theorem d_Di_divideByWords_14 : decode b_Di_divideByWords 14 = .ok (.istore_n 3, 1) := by decide +kernel
theorem d_Di_divideByWords_15 : decode b_Di_divideByWords 15 = .ok (.aload_n 1, 1) := by decide +kernel
theorem d_Di_divideByWords_16 : decode b_Di_divideByWords 16 = .ok (.iload_n 3, 1) := by decide +kernel
theorem d_Di_divideByWords_17 : decode b_Di_divideByWords 17 = .ok (.aload_n 0, 1) := by decide +kernel
theorem d_Di_divideByWords_18 : decode b_Di_divideByWords 18 = .ok (.getfield 21, 3) := by decide +kernel
theorem d_Di_divideByWords_21 : decode b_Di_divideByWords 21 = .ok (.invokestatic 73, 3) := by decide +kernel
theorem d_Di_divideByWords_24 : decode b_Di_divideByWords 24 = .ok (.aload_n 2, 1) := by decide +kernel
theorem d_Di_divideByWords_25 : decode b_Di_divideByWords 25 = .ok (.iload_n 3, 1) := by decide +kernel
theorem d_Di_divideByWords_26 : decode b_Di_divideByWords 26 = .ok (.aload_n 0, 1) := by decide +kernel
theorem d_Di_divideByWords_27 : decode b_Di_divideByWords 27 = .ok (.getfield 25, 3) := by decide +kernel
theorem d_Di_divideByWords_30 : decode b_Di_divideByWords 30 = .ok (.invokestatic 73, 3) := by decide +kernel
theorem d_Di_divideByWords_33 : decode b_Di_divideByWords 33 = .ok (.aload_n 1, 1) := by decide +kernel
theorem d_Di_divideByWords_34 : decode b_Di_divideByWords 34 = .ok (.getfield 28, 3) := by decide +kernel
theorem d_Di_divideByWords_37 : decode b_Di_divideByWords 37 = .ok (.aload_n 2, 1) := by decide +kernel
theorem d_Di_divideByWords_38 : decode b_Di_divideByWords 38 = .ok (.getfield 28, 3) := by decide +kernel
theorem d_Di_divideByWords_41 : decode b_Di_divideByWords 41 = .ok (.isub, 1) := by decide +kernel
theorem d_Di_divideByWords_42 : decode b_Di_divideByWords 42 = .ok (.istore 4, 2) := by decide +kernel
theorem d_Di_divideByWords_44 : decode b_Di_divideByWords 44 = .ok (.iload 4, 2) := by decide +kernel
theorem d_Di_divideByWords_46 : decode b_Di_divideByWords 46 = .ok (.ifCond .lt 70, 3) := by decide +kernel
theorem d_Di_divideByWords_49 : decode b_Di_divideByWords 49 = .ok (.aload_n 0, 1) := by decide +kernel
theorem d_Di_divideByWords_50 : decode b_Di_divideByWords 50 = .ok (.iload 4, 2) := by decide +kernel
theorem d_Di_divideByWords_52 : decode b_Di_divideByWords 52 = .ok (.aload_n 2, 1) := by decide +kernel
theorem d_Di_divideByWords_53 : decode b_Di_divideByWords 53 = .ok (.getfield 28, 3) := by decide +kernel
theorem d_Di_divideByWords_56 : decode b_Di_divideByWords 56 = .ok (.iadd, 1) := by decide +kernel
theorem d_Di_divideByWords_57 : decode b_Di_divideByWords 57 = .ok (.aload_n 2, 1) := by decide +kernel
theorem d_Di_divideByWords_58 : decode b_Di_divideByWords 58 = .ok (.getfield 28, 3) := by decide +kernel
theorem d_Di_divideByWords_61 : decode b_Di_divideByWords 61 = .ok (.invokevirtual 77, 3) := by decide +kernel
theorem d_Di_divideByWords_64 : decode b_Di_divideByWords 64 = .ok (.lstore 5, 2) := by decide +kernel
theorem d_Di_divideByWords_66 : decode b_Di_divideByWords 66 = .ok (.aload_n 0, 1) := by decide +kernel
theorem d_Di_divideByWords_67 : decode b_Di_divideByWords 67 = .ok (.lload 5, 2) := by decide +kernel
theorem d_Di_divideByWords_69 : decode b_Di_divideByWords 69 = .ok (.iload 4, 2) := by decide +kernel
theorem d_Di_divideByWords_71 : decode b_Di_divideByWords 71 = .ok (.aload_n 2, 1) := by decide +kernel
theorem d_Di_divideByWords_72 : decode b_Di_divideByWords 72 = .ok (.getfield 28, 3) := by decide +kernel
theorem d_Di_divideByWords_75 : decode b_Di_divideByWords 75 = .ok (.invokevirtual 81, 3) := by decide +kernel
theorem d_Di_divideByWords_78 : decode b_Di_divideByWords 78 = .ok (.ifCond .ne 19, 3) := by decide +kernel
theorem d_Di_divideByWords_81 : decode b_Di_divideByWords 81 = .ok (.lload 5, 2) := by decide +kernel
theorem d_Di_divideByWords_83 : decode b_Di_divideByWords 83 = .ok (.lconst 1, 1) := by decide +kernel
theorem d_Di_divideByWords_84 : decode b_Di_divideByWords 84 = .ok (.lsub, 1) := by decide +kernel
theorem d_Di_divideByWords_85 : decode b_Di_divideByWords 85 = .ok (.lstore 5, 2) := by decide +kernel
theorem d_Di_divideByWords_87 : decode b_Di_divideByWords 87 = .ok (.aload_n 0, 1) := by decide +kernel
theorem d_Di_divideByWords_88 : decode b_Di_divideByWords 88 = .ok (.iload 4, 2) := by decide +kernel
theorem d_Di_divideByWords_90 : decode b_Di_divideByWords 90 = .ok (.aload_n 2, 1) := by decide +kernel
theorem d_Di_divideByWords_91 : decode b_Di_divideByWords 91 = .ok (.getfield 28, 3) := by decide +kernel
theorem d_Di_divideByWords_94 : decode b_Di_divideByWords 94 = .ok (.invokevirtual 85, 3) := by decide +kernel
theorem d_Di_divideByWords_97 : decode b_Di_divideByWords 97 = .ok (.aload_n 0, 1) := by decide +kernel
theorem d_Di_divideByWords_98 : decode b_Di_divideByWords 98 = .ok (.getfield 12, 3) := by decide +kernel
theorem d_Di_divideByWords_101 : decode b_Di_divideByWords 101 = .ok (.getfield 64, 3) := by decide +kernel
theorem d_Di_divideByWords_104 : decode b_Di_divideByWords 104 = .ok (.iload 4, 2) := by decide +kernel
theorem d_Di_divideByWords_106 : decode b_Di_divideByWords 106 = .ok (.lload 5, 2) := by decide +kernel
theorem d_Di_divideByWords_108 : decode b_Di_divideByWords 108 = .ok (.l2i, 1) := by decide +kernel
theorem d_Di_divideByWords_109 : decode b_Di_divideByWords 109 = .ok (.iastore, 1) := by decide +kernel
theorem d_Di_divideByWords_110 : decode b_Di_divideByWords 110 = .ok (.iinc 4 (-1), 3) := by decide +kernel
theorem d_Di_divideByWords_113 : decode b_Di_divideByWords 113 = .ok (.goto (-69), 3) := by decide +kernel
theorem d_Di_divideByWords_116 : decode b_Di_divideByWords 116 = .ok (.aload_n 0, 1) := by decide +kernel
theorem d_Di_divideByWords_117 : decode b_Di_divideByWords 117 = .ok (.getfield 12, 3) := by decide +kernel
theorem d_Di_divideByWords_120 : decode b_Di_divideByWords 120 = .ok (.aload_n 1, 1) := by decide +kernel
theorem d_Di_divideByWords_121 : decode b_Di_divideByWords 121 = .ok (.getfield 28, 3) := by decide +kernel
theorem d_Di_divideByWords_124 : decode b_Di_divideByWords 124 = .ok (.aload_n 2, 1) := by decide +kernel
theorem d_Di_divideByWords_125 : decode b_Di_divideByWords 125 = .ok (.getfield 28, 3) := by decide +kernel
theorem d_Di_divideByWords_128 : decode b_Di_divideByWords 128 = .ok (.isub, 1) := by decide +kernel
theorem d_Di_divideByWords_129 : decode b_Di_divideByWords 129 = .ok (.iconst 1, 1) := by decide +kernel
theorem d_Di_divideByWords_130 : decode b_Di_divideByWords 130 = .ok (.iadd, 1) := by decide +kernel
theorem d_Di_divideByWords_131 : decode b_Di_divideByWords 131 = .ok (.invokevirtual 89, 3) := by decide +kernel
theorem d_Di_divideByWords_134 : decode b_Di_divideByWords 134 = .ok (.iconst 0, 1) := by decide +kernel
theorem d_Di_divideByWords_135 : decode b_Di_divideByWords 135 = .ok (.istore 4, 2) := by decide +kernel
theorem d_Di_divideByWords_137 : decode b_Di_divideByWords 137 = .ok (.iload 4, 2) := by decide +kernel
theorem d_Di_divideByWords_139 : decode b_Di_divideByWords 139 = .ok (.aload_n 2, 1) := by decide +kernel
theorem d_Di_divideByWords_140 : decode b_Di_divideByWords 140 = .ok (.getfield 28, 3) := by decide +kernel
theorem d_Di_divideByWords_143 : decode b_Di_divideByWords 143 = .ok (.if_icmp .ge 56, 3) := by decide +kernel
theorem d_Di_divideByWords_146 : decode b_Di_divideByWords 146 = .ok (.aload_n 0, 1) := by decide +kernel
theorem d_Di_divideByWords_147 : decode b_Di_divideByWords 147 = .ok (.getfield 21, 3) := by decide +kernel
theorem d_Di_divideByWords_150 : decode b_Di_divideByWords 150 = .ok (.iload 4, 2) := by decide +kernel
theorem d_Di_divideByWords_152 : decode b_Di_divideByWords 152 = .ok (.iconst 1, 1) := by decide +kernel
theorem d_Di_divideByWords_153 : decode b_Di_divideByWords 153 = .ok (.iadd, 1) := by decide +kernel
theorem d_Di_divideByWords_154 : decode b_Di_divideByWords 154 = .ok (.iaload, 1) := by decide +kernel
theorem d_Di_divideByWords_155 : decode b_Di_divideByWords 155 = .ok (.i2l, 1) := by decide +kernel
theorem d_Di_divideByWords_156 : decode b_Di_divideByWords 156 = .ok (.ldc2_w 93, 3) := by decide +kernel
theorem d_Di_divideByWords_159 : decode b_Di_divideByWords 159 = .ok (.land, 1) := by decide +kernel
theorem d_Di_divideByWords_160 : decode b_Di_divideByWords 160 = .ok (.bipush 32, 2) := by decide +kernel
theorem d_Di_divideByWords_162 : decode b_Di_divideByWords 162 = .ok (.lshl, 1) := by decide +kernel
theorem d_Di_divideByWords_163 : decode b_Di_divideByWords 163 = .ok (.aload_n 0, 1) := by decide +kernel
theorem d_Di_divideByWords_164 : decode b_Di_divideByWords 164 = .ok (.getfield 21, 3) := by decide +kernel
theorem d_Di_divideByWords_167 : decode b_Di_divideByWords 167 = .ok (.iload 4, 2) := by decide +kernel
theorem d_Di_divideByWords_169 : decode b_Di_divideByWords 169 = .ok (.iaload, 1) := by decide +kernel
theorem d_Di_divideByWords_170 : decode b_Di_divideByWords 170 = .ok (.i2l, 1) := by decide +kernel
theorem d_Di_divideByWords_171 : decode b_Di_divideByWords 171 = .ok (.ldc2_w 93, 3) := by decide +kernel
theorem d_Di_divideByWords_174 : decode b_Di_divideByWords 174 = .ok (.land, 1) := by decide +kernel
theorem d_Di_divideByWords_175 : decode b_Di_divideByWords 175 = .ok (.lor, 1) := by decide +kernel
theorem d_Di_divideByWords_176 : decode b_Di_divideByWords 176 = .ok (.lstore 5, 2) := by decide +kernel
theorem d_Di_divideByWords_178 : decode b_Di_divideByWords 178 = .ok (.aload_n 0, 1) := by decide +kernel
theorem d_Di_divideByWords_179 : decode b_Di_divideByWords 179 = .ok (.getfield 18, 3) := by decide +kernel
theorem d_Di_divideByWords_182 : decode b_Di_divideByWords 182 = .ok (.getfield 64, 3) := by decide +kernel
theorem d_Di_divideByWords_185 : decode b_Di_divideByWords 185 = .ok (.iload 4, 2) := by decide +kernel
theorem d_Di_divideByWords_187 : decode b_Di_divideByWords 187 = .ok (.lload 5, 2) := by decide +kernel
theorem d_Di_divideByWords_189 : decode b_Di_divideByWords 189 = .ok (.iload_n 3, 1) := by decide +kernel
theorem d_Di_divideByWords_190 : decode b_Di_divideByWords 190 = .ok (.lushr, 1) := by decide +kernel
theorem d_Di_divideByWords_191 : decode b_Di_divideByWords 191 = .ok (.l2i, 1) := by decide +kernel
theorem d_Di_divideByWords_192 : decode b_Di_divideByWords 192 = .ok (.iastore, 1) := by decide +kernel
theorem d_Di_divideByWords_193 : decode b_Di_divideByWords 193 = .ok (.iinc 4 1, 3) := by decide +kernel
theorem d_Di_divideByWords_196 : decode b_Di_divideByWords 196 = .ok (.goto (-59), 3) := by decide +kernel
theorem d_Di_divideByWords_199 : decode b_Di_divideByWords 199 = .ok (.aload_n 0, 1) := by decide +kernel
theorem d_Di_divideByWords_200 : decode b_Di_divideByWords 200 = .ok (.getfield 18, 3) := by decide +kernel
theorem d_Di_divideByWords_203 : decode b_Di_divideByWords 203 = .ok (.aload_n 2, 1) := by decide +kernel
theorem d_Di_divideByWords_204 : decode b_Di_divideByWords 204 = .ok (.getfield 28, 3) := by decide +kernel
theorem d_Di_divideByWords_207 : decode b_Di_divideByWords 207 = .ok (.invokevirtual 89, 3) := by decide +kernel
theorem d_Di_divideByWords_210 : decode b_Di_divideByWords 210 = .ok (.return_, 1) := by decide +kernel
/-! Di_divide: ('CellHeap$Division', 'divide', '(LCellHeap$Whole;LCellHeap$Whole;)V') -/
abbrev b_Di_divide : ByteArray := prog_2_method_2_code
abbrev y_Di_divide : MethodName := ⟨R_Di, "divide", "(LCellHeap$Whole;LCellHeap$Whole;)V"⟩
abbrev K_Di_divide := CanV y_Di_divide b_Di_divide 3 none 4 0 0
theorem I_Di_divide {h : HP} {p1 : Nat} {p2 : Nat} {Φ : HP → Prop} (body : ∀ X : CX, Cok X b_Di_divide 3 R_Di none → xR X = rml 4 0 0 → Qok X 0 0 (fun r h2 => r = none ∧ Φ h2) → Wg X 0 0 h [(0, .ref 45), (1, .ref p1), (2, .ref p2)] [] 0) : K_Di_divide [.ref 45, .ref p1, .ref p2] h Φ := Can.intro (by decide) (fun _ => Nat.le_of_ble_eq_true rfl) body
theorem M_Di_divide : Mv y_Di_divide b_Di_divide 3 none 2 2 := ⟨wx_in 594 (by decide +kernel) rfl, wx_in 592 (by decide +kernel) rfl, wx_in 593 (by decide +kernel) rfl, wx_in 71 (by decide +kernel) rfl, by decide +kernel, by decide, by decide, _, _, rfl⟩
theorem d_Di_divide_0 : decode b_Di_divide 0 = .ok (.aload_n 2, 1) := by decide +kernel
theorem d_Di_divide_1 : decode b_Di_divide 1 = .ok (.getfield 28, 3) := by decide +kernel
theorem d_Di_divide_4 : decode b_Di_divide 4 = .ok (.iconst 1, 1) := by decide +kernel
theorem d_Di_divide_5 : decode b_Di_divide 5 = .ok (.if_icmp .ne 33, 3) := by decide +kernel
theorem d_Di_divide_8 : decode b_Di_divide 8 = .ok (.aload_n 0, 1) := by decide +kernel
theorem d_Di_divide_9 : decode b_Di_divide 9 = .ok (.getfield 12, 3) := by decide +kernel
theorem d_Di_divide_12 : decode b_Di_divide 12 = .ok (.aload_n 1, 1) := by decide +kernel
theorem d_Di_divide_13 : decode b_Di_divide 13 = .ok (.invokevirtual 32, 3) := by decide +kernel
theorem d_Di_divide_16 : decode b_Di_divide 16 = .ok (.aload_n 0, 1) := by decide +kernel
theorem d_Di_divide_17 : decode b_Di_divide 17 = .ok (.getfield 18, 3) := by decide +kernel
theorem d_Di_divide_20 : decode b_Di_divide 20 = .ok (.aload_n 0, 1) := by decide +kernel
theorem d_Di_divide_21 : decode b_Di_divide 21 = .ok (.getfield 12, 3) := by decide +kernel
theorem d_Di_divide_24 : decode b_Di_divide 24 = .ok (.aload_n 2, 1) := by decide +kernel
theorem d_Di_divide_25 : decode b_Di_divide 25 = .ok (.iconst 0, 1) := by decide +kernel
theorem d_Di_divide_26 : decode b_Di_divide 26 = .ok (.invokevirtual 36, 3) := by decide +kernel
theorem d_Di_divide_29 : decode b_Di_divide 29 = .ok (.invokevirtual 40, 3) := by decide +kernel
theorem d_Di_divide_32 : decode b_Di_divide 32 = .ok (.invokevirtual 44, 3) := by decide +kernel
theorem d_Di_divide_35 : decode b_Di_divide 35 = .ok (.goto 36, 3) := by decide +kernel
theorem d_Di_divide_38 : decode b_Di_divide 38 = .ok (.aload_n 1, 1) := by decide +kernel
theorem d_Di_divide_39 : decode b_Di_divide 39 = .ok (.aload_n 2, 1) := by decide +kernel
theorem d_Di_divide_40 : decode b_Di_divide 40 = .ok (.invokevirtual 48, 3) := by decide +kernel
theorem d_Di_divide_43 : decode b_Di_divide 43 = .ok (.ifCond .ge 22, 3) := by decide +kernel
theorem d_Di_divide_46 : decode b_Di_divide 46 = .ok (.aload_n 0, 1) := by decide +kernel
theorem d_Di_divide_47 : decode b_Di_divide 47 = .ok (.getfield 12, 3) := by decide +kernel
theorem d_Di_divide_50 : decode b_Di_divide 50 = .ok (.lconst 0, 1) := by decide +kernel
theorem d_Di_divide_51 : decode b_Di_divide 51 = .ok (.invokevirtual 44, 3) := by decide +kernel
theorem d_Di_divide_54 : decode b_Di_divide 54 = .ok (.aload_n 0, 1) := by decide +kernel
theorem d_Di_divide_55 : decode b_Di_divide 55 = .ok (.getfield 18, 3) := by decide +kernel
theorem d_Di_divide_58 : decode b_Di_divide 58 = .ok (.aload_n 1, 1) := by decide +kernel
theorem d_Di_divide_59 : decode b_Di_divide 59 = .ok (.invokevirtual 32, 3) := by decide +kernel
theorem d_Di_divide_62 : decode b_Di_divide 62 = .ok (.goto 9, 3) := by decide +kernel
theorem d_Di_divide_65 : decode b_Di_divide 65 = .ok (.aload_n 0, 1) := by decide +kernel
theorem d_Di_divide_66 : decode b_Di_divide 66 = .ok (.aload_n 1, 1) := by decide +kernel
theorem d_Di_divide_67 : decode b_Di_divide 67 = .ok (.aload_n 2, 1) := by decide +kernel
theorem d_Di_divide_68 : decode b_Di_divide 68 = .ok (.invokevirtual 52, 3) := by decide +kernel
theorem d_Di_divide_71 : decode b_Di_divide 71 = .ok (.aload_n 0, 1) := by decide +kernel
theorem d_Di_divide_72 : decode b_Di_divide 72 = .ok (.getfield 12, 3) := by decide +kernel
theorem d_Di_divide_75 : decode b_Di_divide 75 = .ok (.aload_n 1, 1) := by decide +kernel
theorem d_Di_divide_76 : decode b_Di_divide 76 = .ok (.getfield 56, 3) := by decide +kernel
theorem d_Di_divide_79 : decode b_Di_divide 79 = .ok (.aload_n 2, 1) := by decide +kernel
theorem d_Di_divide_80 : decode b_Di_divide 80 = .ok (.getfield 56, 3) := by decide +kernel
theorem d_Di_divide_83 : decode b_Di_divide 83 = .ok (.if_icmp .eq 17, 3) := by decide +kernel
theorem d_Di_divide_86 : decode b_Di_divide 86 = .ok (.aload_n 0, 1) := by decide +kernel
theorem d_Di_divide_87 : decode b_Di_divide 87 = .ok (.getfield 12, 3) := by decide +kernel
theorem d_Di_divide_90 : decode b_Di_divide 90 = .ok (.invokevirtual 60, 3) := by decide +kernel
theorem d_Di_divide_93 : decode b_Di_divide 93 = .ok (.ifCond .ne 7, 3) := by decide +kernel
theorem d_Di_divide_96 : decode b_Di_divide 96 = .ok (.iconst 1, 1) := by decide +kernel
theorem d_Di_divide_97 : decode b_Di_divide 97 = .ok (.goto 4, 3) := by decide +kernel
theorem d_Di_divide_100 : decode b_Di_divide 100 = .ok (.iconst 0, 1) := by decide +kernel
theorem d_Di_divide_101 : decode b_Di_divide 101 = .ok (.putfield 56, 3) := by decide +kernel
theorem d_Di_divide_104 : decode b_Di_divide 104 = .ok (.aload_n 0, 1) := by decide +kernel
theorem d_Di_divide_105 : decode b_Di_divide 105 = .ok (.getfield 18, 3) := by decide +kernel
theorem d_Di_divide_108 : decode b_Di_divide 108 = .ok (.aload_n 1, 1) := by decide +kernel
theorem d_Di_divide_109 : decode b_Di_divide 109 = .ok (.getfield 56, 3) := by decide +kernel
theorem d_Di_divide_112 : decode b_Di_divide 112 = .ok (.ifCond .eq 17, 3) := by decide +kernel
theorem d_Di_divide_115 : decode b_Di_divide 115 = .ok (.aload_n 0, 1) := by decide +kernel
theorem d_Di_divide_116 : decode b_Di_divide 116 = .ok (.getfield 18, 3) := by decide +kernel
theorem d_Di_divide_119 : decode b_Di_divide 119 = .ok (.invokevirtual 60, 3) := by decide +kernel
theorem d_Di_divide_122 : decode b_Di_divide 122 = .ok (.ifCond .ne 7, 3) := by decide +kernel
theorem d_Di_divide_125 : decode b_Di_divide 125 = .ok (.iconst 1, 1) := by decide +kernel
theorem d_Di_divide_126 : decode b_Di_divide 126 = .ok (.goto 4, 3) := by decide +kernel
theorem d_Di_divide_129 : decode b_Di_divide 129 = .ok (.iconst 0, 1) := by decide +kernel
theorem d_Di_divide_130 : decode b_Di_divide 130 = .ok (.putfield 56, 3) := by decide +kernel
theorem d_Di_divide_133 : decode b_Di_divide 133 = .ok (.return_, 1) := by decide +kernel
/-! Re_findDivisor: ('CellHeap$Reckoner', 'findDivisor', '(LCellHeap$Whole;LCellHeap$Whole;)V') -/
abbrev b_Re_findDivisor : ByteArray := prog_7_method_6_code
abbrev y_Re_findDivisor : MethodName := ⟨R_Re, "findDivisor", "(LCellHeap$Whole;LCellHeap$Whole;)V"⟩
abbrev K_Re_findDivisor := CanV y_Re_findDivisor b_Re_findDivisor 4 none 5 0 0
theorem I_Re_findDivisor {h : HP} {p1 : Nat} {p2 : Nat} {Φ : HP → Prop} (body : ∀ X : CX, Cok X b_Re_findDivisor 4 R_Re none → xR X = rml 5 0 0 → Qok X 0 0 (fun r h2 => r = none ∧ Φ h2) → Wg X 0 0 h [(0, .ref 23), (1, .ref p1), (2, .ref p2)] [] 0) : K_Re_findDivisor [.ref 23, .ref p1, .ref p2] h Φ := Can.intro (by decide) (fun _ => Nat.le_of_ble_eq_true rfl) body
theorem M_Re_findDivisor : Mv y_Re_findDivisor b_Re_findDivisor 4 none 2 3 := ⟨wx_in 584 (by decide +kernel) rfl, wx_in 583 (by decide +kernel) rfl, wx_in 9 (by decide +kernel) rfl, wx_in 68 (by decide +kernel) rfl, by decide +kernel, by decide, by decide, _, _, rfl⟩
theorem d_Re_findDivisor_0 : decode b_Re_findDivisor 0 = .ok (.aload_n 0, 1) := by decide +kernel
theorem d_Re_findDivisor_1 : decode b_Re_findDivisor 1 = .ok (.getfield 31, 3) := by decide +kernel
theorem d_Re_findDivisor_4 : decode b_Re_findDivisor 4 = .ok (.aload_n 1, 1) := by decide +kernel
theorem d_Re_findDivisor_5 : decode b_Re_findDivisor 5 = .ok (.invokevirtual 67, 3) := by decide +kernel
theorem d_Re_findDivisor_8 : decode b_Re_findDivisor 8 = .ok (.aload_n 0, 1) := by decide +kernel
theorem d_Re_findDivisor_9 : decode b_Re_findDivisor 9 = .ok (.getfield 34, 3) := by decide +kernel
theorem d_Re_findDivisor_12 : decode b_Re_findDivisor 12 = .ok (.aload_n 2, 1) := by decide +kernel
theorem d_Re_findDivisor_13 : decode b_Re_findDivisor 13 = .ok (.invokevirtual 67, 3) := by decide +kernel
theorem d_Re_findDivisor_16 : decode b_Re_findDivisor 16 = .ok (.iconst 0, 1) := by decide +kernel
theorem d_Re_findDivisor_17 : decode b_Re_findDivisor 17 = .ok (.istore_n 3, 1) := by decide +kernel
theorem d_Re_findDivisor_18 : decode b_Re_findDivisor 18 = .ok (.iload_n 3, 1) := by decide +kernel
theorem d_Re_findDivisor_19 : decode b_Re_findDivisor 19 = .ok (.sipush 3000, 3) := by decide +kernel
theorem d_Re_findDivisor_22 : decode b_Re_findDivisor 22 = .ok (.if_icmp .ge 59, 3) := by decide +kernel
theorem d_Re_findDivisor_25 : decode b_Re_findDivisor 25 = .ok (.aload_n 0, 1) := by decide +kernel
theorem d_Re_findDivisor_26 : decode b_Re_findDivisor 26 = .ok (.getfield 34, 3) := by decide +kernel
theorem d_Re_findDivisor_29 : decode b_Re_findDivisor 29 = .ok (.invokevirtual 92, 3) := by decide +kernel
theorem d_Re_findDivisor_32 : decode b_Re_findDivisor 32 = .ok (.ifCond .ne 49, 3) := by decide +kernel
theorem d_Re_findDivisor_35 : decode b_Re_findDivisor 35 = .ok (.aload_n 0, 1) := by decide +kernel
theorem d_Re_findDivisor_36 : decode b_Re_findDivisor 36 = .ok (.getfield 40, 3) := by decide +kernel
theorem d_Re_findDivisor_39 : decode b_Re_findDivisor 39 = .ok (.aload_n 0, 1) := by decide +kernel
theorem d_Re_findDivisor_40 : decode b_Re_findDivisor 40 = .ok (.getfield 31, 3) := by decide +kernel
theorem d_Re_findDivisor_43 : decode b_Re_findDivisor 43 = .ok (.aload_n 0, 1) := by decide +kernel
theorem d_Re_findDivisor_44 : decode b_Re_findDivisor 44 = .ok (.getfield 34, 3) := by decide +kernel
theorem d_Re_findDivisor_47 : decode b_Re_findDivisor 47 = .ok (.invokevirtual 71, 3) := by decide +kernel
theorem d_Re_findDivisor_50 : decode b_Re_findDivisor 50 = .ok (.aload_n 0, 1) := by decide +kernel
theorem d_Re_findDivisor_51 : decode b_Re_findDivisor 51 = .ok (.getfield 31, 3) := by decide +kernel
theorem d_Re_findDivisor_54 : decode b_Re_findDivisor 54 = .ok (.aload_n 0, 1) := by decide +kernel
theorem d_Re_findDivisor_55 : decode b_Re_findDivisor 55 = .ok (.getfield 34, 3) := by decide +kernel
theorem d_Re_findDivisor_58 : decode b_Re_findDivisor 58 = .ok (.invokevirtual 67, 3) := by decide +kernel
theorem d_Re_findDivisor_61 : decode b_Re_findDivisor 61 = .ok (.aload_n 0, 1) := by decide +kernel
theorem d_Re_findDivisor_62 : decode b_Re_findDivisor 62 = .ok (.getfield 34, 3) := by decide +kernel
theorem d_Re_findDivisor_65 : decode b_Re_findDivisor 65 = .ok (.aload_n 0, 1) := by decide +kernel
theorem d_Re_findDivisor_66 : decode b_Re_findDivisor 66 = .ok (.getfield 40, 3) := by decide +kernel
theorem d_Re_findDivisor_69 : decode b_Re_findDivisor 69 = .ok (.getfield 77, 3) := by decide +kernel
theorem d_Re_findDivisor_72 : decode b_Re_findDivisor 72 = .ok (.invokevirtual 67, 3) := by decide +kernel
theorem d_Re_findDivisor_75 : decode b_Re_findDivisor 75 = .ok (.iinc 3 1, 3) := by decide +kernel
theorem d_Re_findDivisor_78 : decode b_Re_findDivisor 78 = .ok (.goto (-60), 3) := by decide +kernel
theorem d_Re_findDivisor_81 : decode b_Re_findDivisor 81 = .ok (.aload_n 0, 1) := by decide +kernel
theorem d_Re_findDivisor_82 : decode b_Re_findDivisor 82 = .ok (.getfield 31, 3) := by decide +kernel
theorem d_Re_findDivisor_85 : decode b_Re_findDivisor 85 = .ok (.iconst 0, 1) := by decide +kernel
theorem d_Re_findDivisor_86 : decode b_Re_findDivisor 86 = .ok (.putfield 84, 3) := by decide +kernel
theorem d_Re_findDivisor_89 : decode b_Re_findDivisor 89 = .ok (.return_, 1) := by decide +kernel
/-! Re_bringToLowestTerms: ('CellHeap$Reckoner', 'bringToLowestTerms', '()V') -/
abbrev b_Re_bringToLowestTerms : ByteArray := prog_7_method_5_code
abbrev y_Re_bringToLowestTerms : MethodName := ⟨R_Re, "bringToLowestTerms", "()V"⟩
abbrev K_Re_bringToLowestTerms := CanV y_Re_bringToLowestTerms b_Re_bringToLowestTerms 1 none 6 0 0
theorem I_Re_bringToLowestTerms {h : HP}  {Φ : HP → Prop} (body : ∀ X : CX, Cok X b_Re_bringToLowestTerms 1 R_Re none → xR X = rml 6 0 0 → Qok X 0 0 (fun r h2 => r = none ∧ Φ h2) → Wg X 0 0 h [(0, .ref 23)] [] 0) : K_Re_bringToLowestTerms [.ref 23] h Φ := Can.intro (by decide) (fun _ => Nat.le_of_ble_eq_true rfl) body
theorem M_Re_bringToLowestTerms : Mv y_Re_bringToLowestTerms b_Re_bringToLowestTerms 1 none 0 3 := ⟨wx_in 930 (by decide +kernel) rfl, wx_in 928 (by decide +kernel) rfl, wx_in 929 (by decide +kernel) rfl, wx_in 68 (by decide +kernel) rfl, by decide +kernel, by decide, by decide, _, _, rfl⟩
theorem d_Re_bringToLowestTerms_0 : decode b_Re_bringToLowestTerms 0 = .ok (.aload_n 0, 1) := by decide +kernel
theorem d_Re_bringToLowestTerms_1 : decode b_Re_bringToLowestTerms 1 = .ok (.getfield 21, 3) := by decide +kernel
theorem d_Re_bringToLowestTerms_4 : decode b_Re_bringToLowestTerms 4 = .ok (.getfield 51, 3) := by decide +kernel
theorem d_Re_bringToLowestTerms_7 : decode b_Re_bringToLowestTerms 7 = .ok (.getfield 84, 3) := by decide +kernel
theorem d_Re_bringToLowestTerms_10 : decode b_Re_bringToLowestTerms 10 = .ok (.ifCond .eq 23, 3) := by decide +kernel
theorem d_Re_bringToLowestTerms_13 : decode b_Re_bringToLowestTerms 13 = .ok (.aload_n 0, 1) := by decide +kernel
theorem d_Re_bringToLowestTerms_14 : decode b_Re_bringToLowestTerms 14 = .ok (.getfield 21, 3) := by decide +kernel
theorem d_Re_bringToLowestTerms_17 : decode b_Re_bringToLowestTerms 17 = .ok (.getfield 44, 3) := by decide +kernel
theorem d_Re_bringToLowestTerms_20 : decode b_Re_bringToLowestTerms 20 = .ok (.invokevirtual 54, 3) := by decide +kernel
theorem d_Re_bringToLowestTerms_23 : decode b_Re_bringToLowestTerms 23 = .ok (.aload_n 0, 1) := by decide +kernel
theorem d_Re_bringToLowestTerms_24 : decode b_Re_bringToLowestTerms 24 = .ok (.getfield 21, 3) := by decide +kernel
theorem d_Re_bringToLowestTerms_27 : decode b_Re_bringToLowestTerms 27 = .ok (.getfield 51, 3) := by decide +kernel
theorem d_Re_bringToLowestTerms_30 : decode b_Re_bringToLowestTerms 30 = .ok (.invokevirtual 54, 3) := by decide +kernel
theorem d_Re_bringToLowestTerms_33 : decode b_Re_bringToLowestTerms 33 = .ok (.aload_n 0, 1) := by decide +kernel
theorem d_Re_bringToLowestTerms_34 : decode b_Re_bringToLowestTerms 34 = .ok (.getfield 21, 3) := by decide +kernel
theorem d_Re_bringToLowestTerms_37 : decode b_Re_bringToLowestTerms 37 = .ok (.getfield 51, 3) := by decide +kernel
theorem d_Re_bringToLowestTerms_40 : decode b_Re_bringToLowestTerms 40 = .ok (.invokevirtual 88, 3) := by decide +kernel
theorem d_Re_bringToLowestTerms_43 : decode b_Re_bringToLowestTerms 43 = .ok (.ifCond .eq 4, 3) := by decide +kernel
theorem d_Re_bringToLowestTerms_46 : decode b_Re_bringToLowestTerms 46 = .ok (.return_, 1) := by decide +kernel
theorem d_Re_bringToLowestTerms_47 : decode b_Re_bringToLowestTerms 47 = .ok (.aload_n 0, 1) := by decide +kernel
theorem d_Re_bringToLowestTerms_48 : decode b_Re_bringToLowestTerms 48 = .ok (.aload_n 0, 1) := by decide +kernel
theorem d_Re_bringToLowestTerms_49 : decode b_Re_bringToLowestTerms 49 = .ok (.getfield 21, 3) := by decide +kernel
theorem d_Re_bringToLowestTerms_52 : decode b_Re_bringToLowestTerms 52 = .ok (.getfield 44, 3) := by decide +kernel
theorem d_Re_bringToLowestTerms_55 : decode b_Re_bringToLowestTerms 55 = .ok (.aload_n 0, 1) := by decide +kernel
theorem d_Re_bringToLowestTerms_56 : decode b_Re_bringToLowestTerms 56 = .ok (.getfield 21, 3) := by decide +kernel
theorem d_Re_bringToLowestTerms_59 : decode b_Re_bringToLowestTerms 59 = .ok (.getfield 51, 3) := by decide +kernel
theorem d_Re_bringToLowestTerms_62 : decode b_Re_bringToLowestTerms 62 = .ok (.invokevirtual 64, 3) := by decide +kernel
theorem d_Re_bringToLowestTerms_65 : decode b_Re_bringToLowestTerms 65 = .ok (.aload_n 0, 1) := by decide +kernel
theorem d_Re_bringToLowestTerms_66 : decode b_Re_bringToLowestTerms 66 = .ok (.getfield 31, 3) := by decide +kernel
theorem d_Re_bringToLowestTerms_69 : decode b_Re_bringToLowestTerms 69 = .ok (.invokevirtual 88, 3) := by decide +kernel
theorem d_Re_bringToLowestTerms_72 : decode b_Re_bringToLowestTerms 72 = .ok (.ifCond .ne 73, 3) := by decide +kernel
theorem d_Re_bringToLowestTerms_75 : decode b_Re_bringToLowestTerms 75 = .ok (.aload_n 0, 1) := by decide +kernel
theorem d_Re_bringToLowestTerms_76 : decode b_Re_bringToLowestTerms 76 = .ok (.getfield 40, 3) := by decide +kernel
theorem d_Re_bringToLowestTerms_79 : decode b_Re_bringToLowestTerms 79 = .ok (.aload_n 0, 1) := by decide +kernel
theorem d_Re_bringToLowestTerms_80 : decode b_Re_bringToLowestTerms 80 = .ok (.getfield 21, 3) := by decide +kernel
theorem d_Re_bringToLowestTerms_83 : decode b_Re_bringToLowestTerms 83 = .ok (.getfield 44, 3) := by decide +kernel
theorem d_Re_bringToLowestTerms_86 : decode b_Re_bringToLowestTerms 86 = .ok (.aload_n 0, 1) := by decide +kernel
theorem d_Re_bringToLowestTerms_87 : decode b_Re_bringToLowestTerms 87 = .ok (.getfield 31, 3) := by decide +kernel
theorem d_Re_bringToLowestTerms_90 : decode b_Re_bringToLowestTerms 90 = .ok (.invokevirtual 71, 3) := by decide +kernel
theorem d_Re_bringToLowestTerms_93 : decode b_Re_bringToLowestTerms 93 = .ok (.aload_n 0, 1) := by decide +kernel
theorem d_Re_bringToLowestTerms_94 : decode b_Re_bringToLowestTerms 94 = .ok (.getfield 21, 3) := by decide +kernel
theorem d_Re_bringToLowestTerms_97 : decode b_Re_bringToLowestTerms 97 = .ok (.getfield 44, 3) := by decide +kernel
theorem d_Re_bringToLowestTerms_100 : decode b_Re_bringToLowestTerms 100 = .ok (.aload_n 0, 1) := by decide +kernel
theorem d_Re_bringToLowestTerms_101 : decode b_Re_bringToLowestTerms 101 = .ok (.getfield 40, 3) := by decide +kernel
theorem d_Re_bringToLowestTerms_104 : decode b_Re_bringToLowestTerms 104 = .ok (.getfield 74, 3) := by decide +kernel
theorem d_Re_bringToLowestTerms_107 : decode b_Re_bringToLowestTerms 107 = .ok (.invokevirtual 67, 3) := by decide +kernel
theorem d_Re_bringToLowestTerms_110 : decode b_Re_bringToLowestTerms 110 = .ok (.aload_n 0, 1) := by decide +kernel
theorem d_Re_bringToLowestTerms_111 : decode b_Re_bringToLowestTerms 111 = .ok (.getfield 40, 3) := by decide +kernel
theorem d_Re_bringToLowestTerms_114 : decode b_Re_bringToLowestTerms 114 = .ok (.aload_n 0, 1) := by decide +kernel
theorem d_Re_bringToLowestTerms_115 : decode b_Re_bringToLowestTerms 115 = .ok (.getfield 21, 3) := by decide +kernel
theorem d_Re_bringToLowestTerms_118 : decode b_Re_bringToLowestTerms 118 = .ok (.getfield 51, 3) := by decide +kernel
theorem d_Re_bringToLowestTerms_121 : decode b_Re_bringToLowestTerms 121 = .ok (.aload_n 0, 1) := by decide +kernel
theorem d_Re_bringToLowestTerms_122 : decode b_Re_bringToLowestTerms 122 = .ok (.getfield 31, 3) := by decide +kernel
theorem d_Re_bringToLowestTerms_125 : decode b_Re_bringToLowestTerms 125 = .ok (.invokevirtual 71, 3) := by decide +kernel
theorem d_Re_bringToLowestTerms_128 : decode b_Re_bringToLowestTerms 128 = .ok (.aload_n 0, 1) := by decide +kernel
theorem d_Re_bringToLowestTerms_129 : decode b_Re_bringToLowestTerms 129 = .ok (.getfield 21, 3) := by decide +kernel
theorem d_Re_bringToLowestTerms_132 : decode b_Re_bringToLowestTerms 132 = .ok (.getfield 51, 3) := by decide +kernel
theorem d_Re_bringToLowestTerms_135 : decode b_Re_bringToLowestTerms 135 = .ok (.aload_n 0, 1) := by decide +kernel
theorem d_Re_bringToLowestTerms_136 : decode b_Re_bringToLowestTerms 136 = .ok (.getfield 40, 3) := by decide +kernel
theorem d_Re_bringToLowestTerms_139 : decode b_Re_bringToLowestTerms 139 = .ok (.getfield 74, 3) := by decide +kernel
theorem d_Re_bringToLowestTerms_142 : decode b_Re_bringToLowestTerms 142 = .ok (.invokevirtual 67, 3) := by decide +kernel
theorem d_Re_bringToLowestTerms_145 : decode b_Re_bringToLowestTerms 145 = .ok (.return_, 1) := by decide +kernel
/-! Re_orderOfOperands: ('CellHeap$Reckoner', 'orderOfOperands', '()I') -/
abbrev b_Re_orderOfOperands : ByteArray := prog_7_method_4_code
abbrev y_Re_orderOfOperands : MethodName := ⟨R_Re, "orderOfOperands", "()I"⟩
abbrev K_Re_orderOfOperands := CanI y_Re_orderOfOperands b_Re_orderOfOperands 1 ((some .int)) 12 0 0
theorem I_Re_orderOfOperands {h : HP}  {Φ : Int32 → HP → Prop} (body : ∀ X : CX, Cok X b_Re_orderOfOperands 1 R_Re ((some .int)) → xR X = rml 12 0 0 → Qok X 0 0 (fun r h2 => ∃ v, r = some (.int v) ∧ Φ v h2) → Wg X 0 0 h [(0, .ref 23)] [] 0) : K_Re_orderOfOperands [.ref 23] h Φ := Can.intro (by decide) (fun _ => Nat.le_of_ble_eq_true rfl) body
theorem M_Re_orderOfOperands : Mv y_Re_orderOfOperands b_Re_orderOfOperands 1 ((some .int)) 0 3 := ⟨wx_in 942 (by decide +kernel) rfl, wx_in 940 (by decide +kernel) rfl, wx_in 941 (by decide +kernel) rfl, wx_in 68 (by decide +kernel) rfl, by decide +kernel, by decide, by decide, _, _, rfl⟩
theorem d_Re_orderOfOperands_0 : decode b_Re_orderOfOperands 0 = .ok (.aload_n 0, 1) := by decide +kernel
theorem d_Re_orderOfOperands_1 : decode b_Re_orderOfOperands 1 = .ok (.getfield 21, 3) := by decide +kernel
theorem d_Re_orderOfOperands_4 : decode b_Re_orderOfOperands 4 = .ok (.getfield 44, 3) := by decide +kernel
theorem d_Re_orderOfOperands_7 : decode b_Re_orderOfOperands 7 = .ok (.aload_n 0, 1) := by decide +kernel
theorem d_Re_orderOfOperands_8 : decode b_Re_orderOfOperands 8 = .ok (.getfield 12, 3) := by decide +kernel
theorem d_Re_orderOfOperands_11 : decode b_Re_orderOfOperands 11 = .ok (.getfield 44, 3) := by decide +kernel
theorem d_Re_orderOfOperands_14 : decode b_Re_orderOfOperands 14 = .ok (.aload_n 0, 1) := by decide +kernel
theorem d_Re_orderOfOperands_15 : decode b_Re_orderOfOperands 15 = .ok (.getfield 18, 3) := by decide +kernel
theorem d_Re_orderOfOperands_18 : decode b_Re_orderOfOperands 18 = .ok (.getfield 51, 3) := by decide +kernel
theorem d_Re_orderOfOperands_21 : decode b_Re_orderOfOperands 21 = .ok (.invokevirtual 47, 3) := by decide +kernel
theorem d_Re_orderOfOperands_24 : decode b_Re_orderOfOperands 24 = .ok (.aload_n 0, 1) := by decide +kernel
theorem d_Re_orderOfOperands_25 : decode b_Re_orderOfOperands 25 = .ok (.getfield 27, 3) := by decide +kernel
theorem d_Re_orderOfOperands_28 : decode b_Re_orderOfOperands 28 = .ok (.aload_n 0, 1) := by decide +kernel
theorem d_Re_orderOfOperands_29 : decode b_Re_orderOfOperands 29 = .ok (.getfield 18, 3) := by decide +kernel
theorem d_Re_orderOfOperands_32 : decode b_Re_orderOfOperands 32 = .ok (.getfield 44, 3) := by decide +kernel
theorem d_Re_orderOfOperands_35 : decode b_Re_orderOfOperands 35 = .ok (.aload_n 0, 1) := by decide +kernel
theorem d_Re_orderOfOperands_36 : decode b_Re_orderOfOperands 36 = .ok (.getfield 12, 3) := by decide +kernel
theorem d_Re_orderOfOperands_39 : decode b_Re_orderOfOperands 39 = .ok (.getfield 51, 3) := by decide +kernel
theorem d_Re_orderOfOperands_42 : decode b_Re_orderOfOperands 42 = .ok (.invokevirtual 47, 3) := by decide +kernel
theorem d_Re_orderOfOperands_45 : decode b_Re_orderOfOperands 45 = .ok (.aload_n 0, 1) := by decide +kernel
theorem d_Re_orderOfOperands_46 : decode b_Re_orderOfOperands 46 = .ok (.getfield 21, 3) := by decide +kernel
theorem d_Re_orderOfOperands_49 : decode b_Re_orderOfOperands 49 = .ok (.getfield 44, 3) := by decide +kernel
theorem d_Re_orderOfOperands_52 : decode b_Re_orderOfOperands 52 = .ok (.aload_n 0, 1) := by decide +kernel
theorem d_Re_orderOfOperands_53 : decode b_Re_orderOfOperands 53 = .ok (.getfield 27, 3) := by decide +kernel
theorem d_Re_orderOfOperands_56 : decode b_Re_orderOfOperands 56 = .ok (.invokevirtual 80, 3) := by decide +kernel
theorem d_Re_orderOfOperands_59 : decode b_Re_orderOfOperands 59 = .ok (.ireturn, 1) := by decide +kernel
/-! Re_workOnWholes: ('CellHeap$Reckoner', 'workOnWholes', '(I)V') -/
abbrev b_Re_workOnWholes : ByteArray := prog_7_method_3_code
abbrev y_Re_workOnWholes : MethodName := ⟨R_Re, "workOnWholes", "(I)V"⟩
abbrev K_Re_workOnWholes := CanV y_Re_workOnWholes b_Re_workOnWholes 2 none 6 0 0
theorem I_Re_workOnWholes {h : HP} {v1 : Int32} {Φ : HP → Prop} (body : ∀ X : CX, Cok X b_Re_workOnWholes 2 R_Re none → xR X = rml 6 0 0 → Qok X 0 0 (fun r h2 => r = none ∧ Φ h2) → Wg X 0 0 h [(0, .ref 23), (1, .int v1)] [] 0) : K_Re_workOnWholes [.ref 23, .int v1] h Φ := Can.intro (by decide) (fun _ => Nat.le_of_ble_eq_true rfl) body
theorem M_Re_workOnWholes : Mv y_Re_workOnWholes b_Re_workOnWholes 2 none 1 3 := ⟨wx_in 579 (by decide +kernel) rfl, wx_in 577 (by decide +kernel) rfl, wx_in 578 (by decide +kernel) rfl, wx_in 68 (by decide +kernel) rfl, by decide +kernel, by decide, by decide, _, _, rfl⟩
theorem d_Re_workOnWholes_0 : decode b_Re_workOnWholes 0 = .ok (.aload_n 0, 1) := by decide +kernel
theorem d_Re_workOnWholes_1 : decode b_Re_workOnWholes 1 = .ok (.getfield 21, 3) := by decide +kernel
theorem d_Re_workOnWholes_4 : decode b_Re_workOnWholes 4 = .ok (.getfield 51, 3) := by decide +kernel
theorem d_Re_workOnWholes_7 : decode b_Re_workOnWholes 7 = .ok (.lconst 1, 1) := by decide +kernel
theorem d_Re_workOnWholes_8 : decode b_Re_workOnWholes 8 = .ok (.invokevirtual 60, 3) := by decide +kernel
theorem d_Re_workOnWholes_11 : decode b_Re_workOnWholes 11 = .ok (.iload_n 1, 1) := by decide +kernel
theorem d_Re_workOnWholes_12 : decode b_Re_workOnWholes 12 = .ok (.bipush 6, 2) := by decide +kernel
theorem d_Re_workOnWholes_14 : decode b_Re_workOnWholes 14 = .ok (.if_icmp .ne 36, 3) := by decide +kernel
theorem d_Re_workOnWholes_17 : decode b_Re_workOnWholes 17 = .ok (.aload_n 0, 1) := by decide +kernel
theorem d_Re_workOnWholes_18 : decode b_Re_workOnWholes 18 = .ok (.aload_n 0, 1) := by decide +kernel
theorem d_Re_workOnWholes_19 : decode b_Re_workOnWholes 19 = .ok (.getfield 12, 3) := by decide +kernel
theorem d_Re_workOnWholes_22 : decode b_Re_workOnWholes 22 = .ok (.getfield 44, 3) := by decide +kernel
theorem d_Re_workOnWholes_25 : decode b_Re_workOnWholes 25 = .ok (.aload_n 0, 1) := by decide +kernel
theorem d_Re_workOnWholes_26 : decode b_Re_workOnWholes 26 = .ok (.getfield 18, 3) := by decide +kernel
theorem d_Re_workOnWholes_29 : decode b_Re_workOnWholes 29 = .ok (.getfield 44, 3) := by decide +kernel
theorem d_Re_workOnWholes_32 : decode b_Re_workOnWholes 32 = .ok (.invokevirtual 64, 3) := by decide +kernel
theorem d_Re_workOnWholes_35 : decode b_Re_workOnWholes 35 = .ok (.aload_n 0, 1) := by decide +kernel
theorem d_Re_workOnWholes_36 : decode b_Re_workOnWholes 36 = .ok (.getfield 21, 3) := by decide +kernel
theorem d_Re_workOnWholes_39 : decode b_Re_workOnWholes 39 = .ok (.getfield 44, 3) := by decide +kernel
theorem d_Re_workOnWholes_42 : decode b_Re_workOnWholes 42 = .ok (.aload_n 0, 1) := by decide +kernel
theorem d_Re_workOnWholes_43 : decode b_Re_workOnWholes 43 = .ok (.getfield 31, 3) := by decide +kernel
theorem d_Re_workOnWholes_46 : decode b_Re_workOnWholes 46 = .ok (.invokevirtual 67, 3) := by decide +kernel
theorem d_Re_workOnWholes_49 : decode b_Re_workOnWholes 49 = .ok (.return_, 1) := by decide +kernel
theorem d_Re_workOnWholes_50 : decode b_Re_workOnWholes 50 = .ok (.aload_n 0, 1) := by decide +kernel
theorem d_Re_workOnWholes_51 : decode b_Re_workOnWholes 51 = .ok (.getfield 40, 3) := by decide +kernel
theorem d_Re_workOnWholes_54 : decode b_Re_workOnWholes 54 = .ok (.aload_n 0, 1) := by decide +kernel
theorem d_Re_workOnWholes_55 : decode b_Re_workOnWholes 55 = .ok (.getfield 12, 3) := by decide +kernel
theorem d_Re_workOnWholes_58 : decode b_Re_workOnWholes 58 = .ok (.getfield 44, 3) := by decide +kernel
theorem d_Re_workOnWholes_61 : decode b_Re_workOnWholes 61 = .ok (.aload_n 0, 1) := by decide +kernel
theorem d_Re_workOnWholes_62 : decode b_Re_workOnWholes 62 = .ok (.getfield 18, 3) := by decide +kernel
theorem d_Re_workOnWholes_65 : decode b_Re_workOnWholes 65 = .ok (.getfield 44, 3) := by decide +kernel
theorem d_Re_workOnWholes_68 : decode b_Re_workOnWholes 68 = .ok (.invokevirtual 71, 3) := by decide +kernel
theorem d_Re_workOnWholes_71 : decode b_Re_workOnWholes 71 = .ok (.aload_n 0, 1) := by decide +kernel
theorem d_Re_workOnWholes_72 : decode b_Re_workOnWholes 72 = .ok (.getfield 21, 3) := by decide +kernel
theorem d_Re_workOnWholes_75 : decode b_Re_workOnWholes 75 = .ok (.getfield 44, 3) := by decide +kernel
theorem d_Re_workOnWholes_78 : decode b_Re_workOnWholes 78 = .ok (.iload_n 1, 1) := by decide +kernel
theorem d_Re_workOnWholes_79 : decode b_Re_workOnWholes 79 = .ok (.iconst 4, 1) := by decide +kernel
theorem d_Re_workOnWholes_80 : decode b_Re_workOnWholes 80 = .ok (.if_icmp .ne 13, 3) := by decide +kernel
theorem d_Re_workOnWholes_83 : decode b_Re_workOnWholes 83 = .ok (.aload_n 0, 1) := by decide +kernel
theorem d_Re_workOnWholes_84 : decode b_Re_workOnWholes 84 = .ok (.getfield 40, 3) := by decide +kernel
theorem d_Re_workOnWholes_87 : decode b_Re_workOnWholes 87 = .ok (.getfield 74, 3) := by decide +kernel
theorem d_Re_workOnWholes_90 : decode b_Re_workOnWholes 90 = .ok (.goto 10, 3) := by decide +kernel
theorem d_Re_workOnWholes_93 : decode b_Re_workOnWholes 93 = .ok (.aload_n 0, 1) := by decide +kernel
theorem d_Re_workOnWholes_94 : decode b_Re_workOnWholes 94 = .ok (.getfield 40, 3) := by decide +kernel
theorem d_Re_workOnWholes_97 : decode b_Re_workOnWholes 97 = .ok (.getfield 77, 3) := by decide +kernel
theorem d_Re_workOnWholes_100 : decode b_Re_workOnWholes 100 = .ok (.invokevirtual 67, 3) := by decide +kernel
theorem d_Re_workOnWholes_103 : decode b_Re_workOnWholes 103 = .ok (.return_, 1) := by decide +kernel
/-! Re_workOnRatios: ('CellHeap$Reckoner', 'workOnRatios', '(I)V') -/
abbrev b_Re_workOnRatios : ByteArray := prog_7_method_2_code
abbrev y_Re_workOnRatios : MethodName := ⟨R_Re, "workOnRatios", "(I)V"⟩
abbrev K_Re_workOnRatios := CanV y_Re_workOnRatios b_Re_workOnRatios 2 none 12 0 0
theorem I_Re_workOnRatios {h : HP} {v1 : Int32} {Φ : HP → Prop} (body : ∀ X : CX, Cok X b_Re_workOnRatios 2 R_Re none → xR X = rml 12 0 0 → Qok X 0 0 (fun r h2 => r = none ∧ Φ h2) → Wg X 0 0 h [(0, .ref 23), (1, .int v1)] [] 0) : K_Re_workOnRatios [.ref 23, .int v1] h Φ := Can.intro (by decide) (fun _ => Nat.le_of_ble_eq_true rfl) body
theorem M_Re_workOnRatios : Mv y_Re_workOnRatios b_Re_workOnRatios 2 none 1 3 := ⟨wx_in 646 (by decide +kernel) rfl, wx_in 644 (by decide +kernel) rfl, wx_in 645 (by decide +kernel) rfl, wx_in 68 (by decide +kernel) rfl, by decide +kernel, by decide, by decide, _, _, rfl⟩
theorem d_Re_workOnRatios_0 : decode b_Re_workOnRatios 0 = .ok (.iload_n 1, 1) := by decide +kernel
theorem d_Re_workOnRatios_1 : decode b_Re_workOnRatios 1 = .ok (.iconst 2, 1) := by decide +kernel
theorem d_Re_workOnRatios_2 : decode b_Re_workOnRatios 2 = .ok (.if_icmp .ne 52, 3) := by decide +kernel
theorem d_Re_workOnRatios_5 : decode b_Re_workOnRatios 5 = .ok (.aload_n 0, 1) := by decide +kernel
theorem d_Re_workOnRatios_6 : decode b_Re_workOnRatios 6 = .ok (.getfield 21, 3) := by decide +kernel
theorem d_Re_workOnRatios_9 : decode b_Re_workOnRatios 9 = .ok (.getfield 44, 3) := by decide +kernel
theorem d_Re_workOnRatios_12 : decode b_Re_workOnRatios 12 = .ok (.aload_n 0, 1) := by decide +kernel
theorem d_Re_workOnRatios_13 : decode b_Re_workOnRatios 13 = .ok (.getfield 12, 3) := by decide +kernel
theorem d_Re_workOnRatios_16 : decode b_Re_workOnRatios 16 = .ok (.getfield 44, 3) := by decide +kernel
theorem d_Re_workOnRatios_19 : decode b_Re_workOnRatios 19 = .ok (.aload_n 0, 1) := by decide +kernel
theorem d_Re_workOnRatios_20 : decode b_Re_workOnRatios 20 = .ok (.getfield 18, 3) := by decide +kernel
theorem d_Re_workOnRatios_23 : decode b_Re_workOnRatios 23 = .ok (.getfield 44, 3) := by decide +kernel
theorem d_Re_workOnRatios_26 : decode b_Re_workOnRatios 26 = .ok (.invokevirtual 47, 3) := by decide +kernel
theorem d_Re_workOnRatios_29 : decode b_Re_workOnRatios 29 = .ok (.aload_n 0, 1) := by decide +kernel
theorem d_Re_workOnRatios_30 : decode b_Re_workOnRatios 30 = .ok (.getfield 21, 3) := by decide +kernel
theorem d_Re_workOnRatios_33 : decode b_Re_workOnRatios 33 = .ok (.getfield 51, 3) := by decide +kernel
theorem d_Re_workOnRatios_36 : decode b_Re_workOnRatios 36 = .ok (.aload_n 0, 1) := by decide +kernel
theorem d_Re_workOnRatios_37 : decode b_Re_workOnRatios 37 = .ok (.getfield 12, 3) := by decide +kernel
theorem d_Re_workOnRatios_40 : decode b_Re_workOnRatios 40 = .ok (.getfield 51, 3) := by decide +kernel
theorem d_Re_workOnRatios_43 : decode b_Re_workOnRatios 43 = .ok (.aload_n 0, 1) := by decide +kernel
theorem d_Re_workOnRatios_44 : decode b_Re_workOnRatios 44 = .ok (.getfield 18, 3) := by decide +kernel
theorem d_Re_workOnRatios_47 : decode b_Re_workOnRatios 47 = .ok (.getfield 51, 3) := by decide +kernel
theorem d_Re_workOnRatios_50 : decode b_Re_workOnRatios 50 = .ok (.invokevirtual 47, 3) := by decide +kernel
theorem d_Re_workOnRatios_53 : decode b_Re_workOnRatios 53 = .ok (.return_, 1) := by decide +kernel
theorem d_Re_workOnRatios_54 : decode b_Re_workOnRatios 54 = .ok (.iload_n 1, 1) := by decide +kernel
theorem d_Re_workOnRatios_55 : decode b_Re_workOnRatios 55 = .ok (.iconst 3, 1) := by decide +kernel
theorem d_Re_workOnRatios_56 : decode b_Re_workOnRatios 56 = .ok (.if_icmp .ne 52, 3) := by decide +kernel
theorem d_Re_workOnRatios_59 : decode b_Re_workOnRatios 59 = .ok (.aload_n 0, 1) := by decide +kernel
theorem d_Re_workOnRatios_60 : decode b_Re_workOnRatios 60 = .ok (.getfield 21, 3) := by decide +kernel
theorem d_Re_workOnRatios_63 : decode b_Re_workOnRatios 63 = .ok (.getfield 44, 3) := by decide +kernel
theorem d_Re_workOnRatios_66 : decode b_Re_workOnRatios 66 = .ok (.aload_n 0, 1) := by decide +kernel
theorem d_Re_workOnRatios_67 : decode b_Re_workOnRatios 67 = .ok (.getfield 12, 3) := by decide +kernel
theorem d_Re_workOnRatios_70 : decode b_Re_workOnRatios 70 = .ok (.getfield 44, 3) := by decide +kernel
theorem d_Re_workOnRatios_73 : decode b_Re_workOnRatios 73 = .ok (.aload_n 0, 1) := by decide +kernel
theorem d_Re_workOnRatios_74 : decode b_Re_workOnRatios 74 = .ok (.getfield 18, 3) := by decide +kernel
theorem d_Re_workOnRatios_77 : decode b_Re_workOnRatios 77 = .ok (.getfield 51, 3) := by decide +kernel
theorem d_Re_workOnRatios_80 : decode b_Re_workOnRatios 80 = .ok (.invokevirtual 47, 3) := by decide +kernel
theorem d_Re_workOnRatios_83 : decode b_Re_workOnRatios 83 = .ok (.aload_n 0, 1) := by decide +kernel
theorem d_Re_workOnRatios_84 : decode b_Re_workOnRatios 84 = .ok (.getfield 21, 3) := by decide +kernel
theorem d_Re_workOnRatios_87 : decode b_Re_workOnRatios 87 = .ok (.getfield 51, 3) := by decide +kernel
theorem d_Re_workOnRatios_90 : decode b_Re_workOnRatios 90 = .ok (.aload_n 0, 1) := by decide +kernel
theorem d_Re_workOnRatios_91 : decode b_Re_workOnRatios 91 = .ok (.getfield 12, 3) := by decide +kernel
theorem d_Re_workOnRatios_94 : decode b_Re_workOnRatios 94 = .ok (.getfield 51, 3) := by decide +kernel
theorem d_Re_workOnRatios_97 : decode b_Re_workOnRatios 97 = .ok (.aload_n 0, 1) := by decide +kernel
theorem d_Re_workOnRatios_98 : decode b_Re_workOnRatios 98 = .ok (.getfield 18, 3) := by decide +kernel
theorem d_Re_workOnRatios_101 : decode b_Re_workOnRatios 101 = .ok (.getfield 44, 3) := by decide +kernel
theorem d_Re_workOnRatios_104 : decode b_Re_workOnRatios 104 = .ok (.invokevirtual 47, 3) := by decide +kernel
theorem d_Re_workOnRatios_107 : decode b_Re_workOnRatios 107 = .ok (.return_, 1) := by decide +kernel
theorem d_Re_workOnRatios_108 : decode b_Re_workOnRatios 108 = .ok (.aload_n 0, 1) := by decide +kernel
theorem d_Re_workOnRatios_109 : decode b_Re_workOnRatios 109 = .ok (.getfield 21, 3) := by decide +kernel
theorem d_Re_workOnRatios_112 : decode b_Re_workOnRatios 112 = .ok (.getfield 44, 3) := by decide +kernel
theorem d_Re_workOnRatios_115 : decode b_Re_workOnRatios 115 = .ok (.aload_n 0, 1) := by decide +kernel
theorem d_Re_workOnRatios_116 : decode b_Re_workOnRatios 116 = .ok (.getfield 12, 3) := by decide +kernel
theorem d_Re_workOnRatios_119 : decode b_Re_workOnRatios 119 = .ok (.getfield 44, 3) := by decide +kernel
theorem d_Re_workOnRatios_122 : decode b_Re_workOnRatios 122 = .ok (.aload_n 0, 1) := by decide +kernel
theorem d_Re_workOnRatios_123 : decode b_Re_workOnRatios 123 = .ok (.getfield 18, 3) := by decide +kernel
theorem d_Re_workOnRatios_126 : decode b_Re_workOnRatios 126 = .ok (.getfield 51, 3) := by decide +kernel
theorem d_Re_workOnRatios_129 : decode b_Re_workOnRatios 129 = .ok (.invokevirtual 47, 3) := by decide +kernel
theorem d_Re_workOnRatios_132 : decode b_Re_workOnRatios 132 = .ok (.aload_n 0, 1) := by decide +kernel
theorem d_Re_workOnRatios_133 : decode b_Re_workOnRatios 133 = .ok (.getfield 27, 3) := by decide +kernel
theorem d_Re_workOnRatios_136 : decode b_Re_workOnRatios 136 = .ok (.aload_n 0, 1) := by decide +kernel
theorem d_Re_workOnRatios_137 : decode b_Re_workOnRatios 137 = .ok (.getfield 18, 3) := by decide +kernel
theorem d_Re_workOnRatios_140 : decode b_Re_workOnRatios 140 = .ok (.getfield 44, 3) := by decide +kernel
theorem d_Re_workOnRatios_143 : decode b_Re_workOnRatios 143 = .ok (.aload_n 0, 1) := by decide +kernel
theorem d_Re_workOnRatios_144 : decode b_Re_workOnRatios 144 = .ok (.getfield 12, 3) := by decide +kernel
theorem d_Re_workOnRatios_147 : decode b_Re_workOnRatios 147 = .ok (.getfield 51, 3) := by decide +kernel
theorem d_Re_workOnRatios_150 : decode b_Re_workOnRatios 150 = .ok (.invokevirtual 47, 3) := by decide +kernel
theorem d_Re_workOnRatios_153 : decode b_Re_workOnRatios 153 = .ok (.iload_n 1, 1) := by decide +kernel
theorem d_Re_workOnRatios_154 : decode b_Re_workOnRatios 154 = .ok (.iconst 1, 1) := by decide +kernel
theorem d_Re_workOnRatios_155 : decode b_Re_workOnRatios 155 = .ok (.if_icmp .ne 10, 3) := by decide +kernel
theorem d_Re_workOnRatios_158 : decode b_Re_workOnRatios 158 = .ok (.aload_n 0, 1) := by decide +kernel
theorem d_Re_workOnRatios_159 : decode b_Re_workOnRatios 159 = .ok (.getfield 27, 3) := by decide +kernel
theorem d_Re_workOnRatios_162 : decode b_Re_workOnRatios 162 = .ok (.invokevirtual 54, 3) := by decide +kernel
theorem d_Re_workOnRatios_165 : decode b_Re_workOnRatios 165 = .ok (.aload_n 0, 1) := by decide +kernel
theorem d_Re_workOnRatios_166 : decode b_Re_workOnRatios 166 = .ok (.getfield 21, 3) := by decide +kernel
theorem d_Re_workOnRatios_169 : decode b_Re_workOnRatios 169 = .ok (.getfield 44, 3) := by decide +kernel
theorem d_Re_workOnRatios_172 : decode b_Re_workOnRatios 172 = .ok (.aload_n 0, 1) := by decide +kernel
theorem d_Re_workOnRatios_173 : decode b_Re_workOnRatios 173 = .ok (.getfield 21, 3) := by decide +kernel
theorem d_Re_workOnRatios_176 : decode b_Re_workOnRatios 176 = .ok (.getfield 44, 3) := by decide +kernel
theorem d_Re_workOnRatios_179 : decode b_Re_workOnRatios 179 = .ok (.aload_n 0, 1) := by decide +kernel
theorem d_Re_workOnRatios_180 : decode b_Re_workOnRatios 180 = .ok (.getfield 27, 3) := by decide +kernel
theorem d_Re_workOnRatios_183 : decode b_Re_workOnRatios 183 = .ok (.invokevirtual 57, 3) := by decide +kernel
theorem d_Re_workOnRatios_186 : decode b_Re_workOnRatios 186 = .ok (.aload_n 0, 1) := by decide +kernel
theorem d_Re_workOnRatios_187 : decode b_Re_workOnRatios 187 = .ok (.getfield 21, 3) := by decide +kernel
theorem d_Re_workOnRatios_190 : decode b_Re_workOnRatios 190 = .ok (.getfield 51, 3) := by decide +kernel
theorem d_Re_workOnRatios_193 : decode b_Re_workOnRatios 193 = .ok (.aload_n 0, 1) := by decide +kernel
theorem d_Re_workOnRatios_194 : decode b_Re_workOnRatios 194 = .ok (.getfield 12, 3) := by decide +kernel
theorem d_Re_workOnRatios_197 : decode b_Re_workOnRatios 197 = .ok (.getfield 51, 3) := by decide +kernel
theorem d_Re_workOnRatios_200 : decode b_Re_workOnRatios 200 = .ok (.aload_n 0, 1) := by decide +kernel
theorem d_Re_workOnRatios_201 : decode b_Re_workOnRatios 201 = .ok (.getfield 18, 3) := by decide +kernel
theorem d_Re_workOnRatios_204 : decode b_Re_workOnRatios 204 = .ok (.getfield 51, 3) := by decide +kernel
theorem d_Re_workOnRatios_207 : decode b_Re_workOnRatios 207 = .ok (.invokevirtual 47, 3) := by decide +kernel
theorem d_Re_workOnRatios_210 : decode b_Re_workOnRatios 210 = .ok (.return_, 1) := by decide +kernel
set_option maxRecDepth 20000 in
theorem g_Ra_setLong_0 {X : CX} {h : HP} {p0 : Nat} {v1 : Int64} {Φ : HP → Prop} (C : Cok X b_Ra_setLong 3 R_Ra none) (Rm : xR X = rml 2 0 0) (Q : Qok X 0 0 (fun r h2 => r = none ∧ Φ h2)) (hp0 : kd p0 = (1, 0))
    (K : K_Wh_setLong [.ref (p0 + 1), .long v1] h (fun h1 => K_Wh_setLong [.ref (p0 + 3), .long 1] h1 (fun h2 => Φ h2))) :
    Wg X 0 0 h [(0, .ref p0), (1, .long v1)] [] 0 := by
  refine r_aload_n C 0 rfl d_Ra_setLong_0 ?_
  refine gf_Ra_upper (k2 := p0 + 1) C rfl hp0 k_124 d_Ra_setLong_1 ?_
  refine r_lload_n C 1 rfl d_Ra_setLong_4 ?_
  refine r_callV (As := [.long v1]) (st := []) (lvc := 1) (mcc := 0) (msc := 0) C Rm M_Wh_setLong rfl k_378 (kRa1 hp0) (by decide) (Nat.le_of_ble_eq_true rfl) ⟨by decide, by decide⟩ d_Ra_setLong_5 ?_
  refine Can.mono K (fun _ h1 z => ?_)
  obtain ⟨rfl, K⟩ := z
  show Wg X 0 0 h1 [(0, .ref p0), (1, .long v1)] [] 8
  refine r_aload_n C 0 rfl d_Ra_setLong_8 ?_
  refine gf_Ra_lower (k2 := p0 + 3) C rfl hp0 k_129 d_Ra_setLong_9 ?_
  refine r_lconst (v := 1) C (by decide) d_Ra_setLong_12 ?_
  refine r_callV (As := [.long 1]) (st := []) (lvc := 1) (mcc := 0) (msc := 0) C Rm M_Wh_setLong rfl k_378 (kRa3 hp0) (by decide) (Nat.le_of_ble_eq_true rfl) ⟨by decide, by decide⟩ d_Ra_setLong_13 ?_
  refine Can.mono K (fun _ h2 z => ?_)
  obtain ⟨rfl, K⟩ := z
  show Wg X 0 0 h2 [(0, .ref p0), (1, .long v1)] [] 16
  exact q_vret C Q d_Ra_setLong_16 ⟨rfl, K⟩
set_option maxRecDepth 20000 in
theorem g_Ra_isWhole_0 {X : CX} {h : HP} {p0 : Nat} {Φ : Int32 → HP → Prop} (C : Cok X b_Ra_isWhole 1 R_Ra ((some .boolean))) (Rm : xR X = rml 1 0 0) (Q : Qok X 0 0 (fun r h2 => ∃ v, r = some (.int v) ∧ Φ v h2)) (hp0 : kd p0 = (1, 0))
    (K : K_Wh_isOne [.ref (p0 + 3)] h (fun r1 h1 => ((r1 = 0 ∨ r1 = 1) ∧ Φ r1 h1))) :
    Wg X 0 0 h [(0, .ref p0)] [] 0 := by
  refine r_aload_n C 0 rfl d_Ra_isWhole_0 ?_
  refine gf_Ra_lower (k2 := p0 + 3) C rfl hp0 k_129 d_Ra_isWhole_1 ?_
  refine r_callV (As := []) (st := []) (lvc := 0) (mcc := 0) (msc := 0) C Rm M_Wh_isOne rfl k_410 (kRa3 hp0) (by decide) (Nat.le_of_ble_eq_true rfl) ⟨by decide, by decide⟩ d_Ra_isWhole_4 ?_
  refine Can.mono K (fun _ h1 z => ?_)
  obtain ⟨r1, rfl, K⟩ := z
  show Wg X 0 0 h1 [(0, .ref p0)] [.int r1] 7
  exact q_zret C Q K.1 d_Ra_isWhole_7 ⟨_, rfl, K.2⟩
set_option maxRecDepth 20000 in
theorem g_Ra_isLarge_0 {X : CX} {h : HP} {p0 : Nat} {Φ : Int32 → HP → Prop} (C : Cok X b_Ra_isLarge 1 R_Ra ((some .boolean))) (Rm : xR X = rml 0 0 0) (Q : Qok X 0 0 (fun r h2 => ∃ v, r = some (.int v) ∧ Φ v h2)) (hp0 : kd p0 = (1, 0))
    (K : ((20 : Int32) < ((h (p0 + 1) 1)) → Φ 1 h) ∧ (¬ (20 : Int32) < ((h (p0 + 1) 1)) → (((h (p0 + 3) 1)) ≤ (20 : Int32) → Φ 0 h) ∧ (¬ ((h (p0 + 3) 1)) ≤ (20 : Int32) → Φ 1 h))) :
    Wg X 0 0 h [(0, .ref p0)] [] 0 := by
  refine r_aload_n C 0 rfl d_Ra_isLarge_0 ?_
  refine gf_Ra_upper (k2 := p0 + 1) C rfl hp0 k_124 d_Ra_isLarge_1 ?_
  refine gf_Wh_length C (kRa1 hp0) k_110 d_Ra_isLarge_4 ?_
  refine r_bipush (v := 20) C (by decide) d_Ra_isLarge_7 ?_
  refine r_icmp_gt C 24 d_Ra_isLarge_9 (by decide) ⟨fun c0 => ?_, fun c0 => ?_⟩
  · have K := K.1 c0
    refine r_iconst (v := 1) C (by decide) d_Ra_isLarge_24 ?_
    refine r_goto C 29 d_Ra_isLarge_25 (by decide) ?_
    exact q_zret C Q (by decide) d_Ra_isLarge_29 ⟨_, rfl, K⟩
  · have K := K.2 c0
    refine r_aload_n C 0 rfl d_Ra_isLarge_12 ?_
    refine gf_Ra_lower (k2 := p0 + 3) C rfl hp0 k_129 d_Ra_isLarge_13 ?_
    refine gf_Wh_length C (kRa3 hp0) k_110 d_Ra_isLarge_16 ?_
    refine r_bipush (v := 20) C (by decide) d_Ra_isLarge_19 ?_
    refine r_icmp_le C 28 d_Ra_isLarge_21 (by decide) ⟨fun c0 => ?_, fun c0 => ?_⟩
    · have K := K.1 c0
      refine r_iconst (v := 0) C (by decide) d_Ra_isLarge_28 ?_
      exact q_zret C Q (by decide) d_Ra_isLarge_29 ⟨_, rfl, K⟩
    · have K := K.2 c0
      refine r_iconst (v := 1) C (by decide) d_Ra_isLarge_24 ?_
      refine r_goto C 29 d_Ra_isLarge_25 (by decide) ?_
      exact q_zret C Q (by decide) d_Ra_isLarge_29 ⟨_, rfl, K⟩
set_option maxRecDepth 20000 in
theorem g_Di_shiftUp_0 {X : CX} {h : HP} {p0 : Nat} {p2 : Nat} {n2 : Nat} {v1 : Int32} {Φ : HP → Prop} (C : Cok X b_Di_shiftUp 6 R_Di none) (Rm : xR X = rml 1 0 0) (Q : Qok X 0 0 (fun r h2 => r = none ∧ Φ h2)) (hp0 : kd p0 = (0, 0)) (hp2 : kd p2 = (10, n2))
    (K : Wg X 0 0 h [(0, .ref p0), (1, .int v1), (2, .ref p2), (3, .long 0), (5, .int 0)] [] 5) :
    Wg X 0 0 h [(0, .ref p0), (1, .int v1), (2, .ref p2)] [] 0 := by
  refine r_lconst (v := 0) C (by decide) d_Di_shiftUp_0 ?_
  refine r_lstore_n (ls2 := [(0, .ref p0), (1, .int v1), (2, .ref p2), (3, .long 0)]) C rfl (by decide) rfl d_Di_shiftUp_1 ?_
  refine r_iconst (v := 0) C (by decide) d_Di_shiftUp_2 ?_
  refine r_istore (ls2 := [(0, .ref p0), (1, .int v1), (2, .ref p2), (3, .long 0), (5, .int 0)]) C (by decide) rfl d_Di_shiftUp_3 ?_
  exact K
set_option maxRecDepth 20000 in
theorem g_Di_shiftUp_5 {X : CX} {h : HP} {p0 : Nat} {p2 : Nat} {n2 : Nat} {v1 : Int32} {v3 : Int64} {v5 : Int32} {Φ : HP → Prop} (C : Cok X b_Di_shiftUp 6 R_Di none) (Rm : xR X = rml 1 0 0) (Q : Qok X 0 0 (fun r h2 => r = none ∧ Φ h2)) (hp0 : kd p0 = (0, 0)) (hp2 : kd p2 = (10, n2))
    (K : (((h p0 1)) ≤ v5 → vp_in (h p0 1) n2 ∧ (Φ (up h p2 (h p0 1).toNatClampNeg (Int64.toInt32 v3)))) ∧ (¬ ((h p0 1)) ≤ v5 → K_Wh_wordAt [.ref p0, .int v5] h (fun r1 h1 => vp_in v5 n2 ∧ (Wg X 0 0 (up h1 p2 v5.toNatClampNeg (Int64.toInt32 (v3 ||| (lshl r1 v1)))) [(0, .ref p0), (1, .int v1), (2, .ref p2), (3, .long (lushr (v3 ||| (lshl r1 v1)) 32)), (5, .int (v5 + 1))] [] 5)))) :
    Wg X 0 0 h [(0, .ref p0), (1, .int v1), (2, .ref p2), (3, .long v3), (5, .int v5)] [] 5 := by
  refine r_iload C 4 rfl d_Di_shiftUp_5 ?_
  refine r_aload_n C 0 rfl d_Di_shiftUp_7 ?_
  refine gf_Wh_length C hp0 k_108 d_Di_shiftUp_8 ?_
  refine r_icmp_ge C 42 d_Di_shiftUp_11 (by decide) ⟨fun c0 => ?_, fun c0 => ?_⟩
  · have K := K.1 c0
    refine r_aload_n C 2 rfl d_Di_shiftUp_42 ?_
    refine r_aload_n C 0 rfl d_Di_shiftUp_43 ?_
    refine gf_Wh_length C hp0 k_108 d_Di_shiftUp_44 ?_
    refine r_lload_n C 3 rfl d_Di_shiftUp_47 ?_
    refine r_l2i C d_Di_shiftUp_48 ?_
    obtain ⟨s0, K⟩ := K
    refine r_iast C hp2 s0 d_Di_shiftUp_49 ?_
    exact q_vret C Q d_Di_shiftUp_50 ⟨rfl, K⟩
  · have K := K.2 c0
    refine r_lload_n C 3 rfl d_Di_shiftUp_14 ?_
    refine r_aload_n C 0 rfl d_Di_shiftUp_15 ?_
    refine r_iload C 4 rfl d_Di_shiftUp_16 ?_
    refine r_callV (As := [.int v5]) (st := [.long v3]) (lvc := 0) (mcc := 0) (msc := 0) C Rm M_Wh_wordAt rfl k_532 hp0 (by decide) (Nat.le_of_ble_eq_true rfl) ⟨by decide, by decide⟩ d_Di_shiftUp_18 ?_
    refine Can.mono K (fun _ h1 z => ?_)
    obtain ⟨r1, rfl, K⟩ := z
    show Wg X 0 0 h1 [(0, .ref p0), (1, .int v1), (2, .ref p2), (3, .long v3), (5, .int v5)] [.long r1, .long v3] 21
    refine r_iload_n C 1 rfl d_Di_shiftUp_21 ?_
    refine r_lshl C d_Di_shiftUp_22 ?_
    refine r_lor C d_Di_shiftUp_23 ?_
    refine r_lstore_n (ls2 := [(0, .ref p0), (1, .int v1), (2, .ref p2), (3, .long (v3 ||| (lshl r1 v1))), (5, .int v5)]) C rfl (by decide) rfl d_Di_shiftUp_24 ?_
    refine r_aload_n C 2 rfl d_Di_shiftUp_25 ?_
    refine r_iload C 4 rfl d_Di_shiftUp_26 ?_
    refine r_lload_n C 3 rfl d_Di_shiftUp_28 ?_
    refine r_l2i C d_Di_shiftUp_29 ?_
    obtain ⟨s0, K⟩ := K
    refine r_iast C hp2 s0 d_Di_shiftUp_30 ?_
    refine r_lload_n C 3 rfl d_Di_shiftUp_31 ?_
    refine r_bipush (v := 32) C (by decide) d_Di_shiftUp_32 ?_
    refine r_lushr C d_Di_shiftUp_34 ?_
    refine r_lstore_n (ls2 := [(0, .ref p0), (1, .int v1), (2, .ref p2), (3, .long (lushr (v3 ||| (lshl r1 v1)) 32)), (5, .int v5)]) C rfl (by decide) rfl d_Di_shiftUp_35 ?_
    refine r_iinc (ls2 := [(0, .ref p0), (1, .int v1), (2, .ref p2), (3, .long (lushr (v3 ||| (lshl r1 v1)) 32)), (5, .int (v5 + 1))]) C 4 (m := 1) rfl (by decide) (by decide) rfl d_Di_shiftUp_36 ?_
    refine r_goto C 5 d_Di_shiftUp_39 (by decide) ?_
    exact K
set_option maxRecDepth 20000 in
theorem g_Di_guessQuotientWord_0 {X : CX} {h : HP} {v1 : Int32} {v2 : Int32} {Φ : Int64 → HP → Prop} (C : Cok X b_Di_guessQuotientWord 16 R_Di ((some .long))) (Rm : xR X = rml 1 0 0) (Q : Qok X 0 0 (fun r h2 => ∃ v, r = some (.long v) ∧ Φ v h2)) 
    (K : vp_in v1 44 ∧ (vp_in (v1 - 1) 44 ∧ (vp_in (v2 - 1) 44 ∧ (vp_in (v2 - 2) 44 ∧ (K_Wh_quotientWithoutSign [.long ((lshl ((Int32.toInt64 (h 50 v1.toNatClampNeg)) &&& 4294967295) 32) ||| ((Int32.toInt64 (h 50 (v1 - 1).toNatClampNeg)) &&& 4294967295)), .long ((Int32.toInt64 (h 51 (v2 - 1).toNatClampNeg)) &&& 4294967295)] h (fun r1 h1 => Wg X 0 0 h1 [(0, .ref 45), (1, .int v1), (2, .int v2), (3, .long ((lshl ((Int32.toInt64 (h 50 v1.toNatClampNeg)) &&& 4294967295) 32) ||| ((Int32.toInt64 (h 50 (v1 - 1).toNatClampNeg)) &&& 4294967295))), (5, .long ((Int32.toInt64 (h 51 (v2 - 1).toNatClampNeg)) &&& 4294967295)), (7, .long ((Int32.toInt64 (h 51 (v2 - 2).toNatClampNeg)) &&& 4294967295)), (9, .long r1), (11, .long (((lshl ((Int32.toInt64 (h 50 v1.toNatClampNeg)) &&& 4294967295) 32) ||| ((Int32.toInt64 (h 50 (v1 - 1).toNatClampNeg)) &&& 4294967295)) - (r1 * ((Int32.toInt64 (h 51 (v2 - 1).toNatClampNeg)) &&& 4294967295)))), (13, .int 0)] [] 79)))))) :
    Wg X 0 0 h [(0, .ref 45), (1, .int v1), (2, .int v2)] [] 0 := by
  refine r_aload_n C 0 rfl d_Di_guessQuotientWord_0 ?_
  refine gf_Di_rest (k2 := 50) C rfl rfl k_153 d_Di_guessQuotientWord_1 ?_
  refine r_iload_n C 1 rfl d_Di_guessQuotientWord_4 ?_
  obtain ⟨s0, K⟩ := K
  refine r_iald C rfl s0 d_Di_guessQuotientWord_5 ?_
  refine r_i2l C d_Di_guessQuotientWord_6 ?_
  refine r_ldc2 (v := 4294967295) C k_565 d_Di_guessQuotientWord_7 ?_
  refine r_land C d_Di_guessQuotientWord_10 ?_
  refine r_bipush (v := 32) C (by decide) d_Di_guessQuotientWord_11 ?_
  refine r_lshl C d_Di_guessQuotientWord_13 ?_
  refine r_aload_n C 0 rfl d_Di_guessQuotientWord_14 ?_
  refine gf_Di_rest (k2 := 50) C rfl rfl k_153 d_Di_guessQuotientWord_15 ?_
  refine r_iload_n C 1 rfl d_Di_guessQuotientWord_18 ?_
  refine r_iconst (v := 1) C (by decide) d_Di_guessQuotientWord_19 ?_
  refine r_isub C d_Di_guessQuotientWord_20 ?_
  obtain ⟨s0, K⟩ := K
  refine r_iald C rfl s0 d_Di_guessQuotientWord_21 ?_
  refine r_i2l C d_Di_guessQuotientWord_22 ?_
  refine r_ldc2 (v := 4294967295) C k_565 d_Di_guessQuotientWord_23 ?_
  refine r_land C d_Di_guessQuotientWord_26 ?_
  refine r_lor C d_Di_guessQuotientWord_27 ?_
  refine r_lstore_n (ls2 := [(0, .ref 45), (1, .int v1), (2, .int v2), (3, .long ((lshl ((Int32.toInt64 (h 50 v1.toNatClampNeg)) &&& 4294967295) 32) ||| ((Int32.toInt64 (h 50 (v1 - 1).toNatClampNeg)) &&& 4294967295)))]) C rfl (by decide) rfl d_Di_guessQuotientWord_28 ?_
  refine r_aload_n C 0 rfl d_Di_guessQuotientWord_29 ?_
  refine gf_Di_by (k2 := 51) C rfl rfl k_154 d_Di_guessQuotientWord_30 ?_
  refine r_iload_n C 2 rfl d_Di_guessQuotientWord_33 ?_
  refine r_iconst (v := 1) C (by decide) d_Di_guessQuotientWord_34 ?_
  refine r_isub C d_Di_guessQuotientWord_35 ?_
  obtain ⟨s0, K⟩ := K
  refine r_iald C rfl s0 d_Di_guessQuotientWord_36 ?_
  refine r_i2l C d_Di_guessQuotientWord_37 ?_
  refine r_ldc2 (v := 4294967295) C k_565 d_Di_guessQuotientWord_38 ?_
  refine r_land C d_Di_guessQuotientWord_41 ?_
  refine r_lstore (ls2 := [(0, .ref 45), (1, .int v1), (2, .int v2), (3, .long ((lshl ((Int32.toInt64 (h 50 v1.toNatClampNeg)) &&& 4294967295) 32) ||| ((Int32.toInt64 (h 50 (v1 - 1).toNatClampNeg)) &&& 4294967295))), (5, .long ((Int32.toInt64 (h 51 (v2 - 1).toNatClampNeg)) &&& 4294967295))]) C (by decide) rfl d_Di_guessQuotientWord_42 ?_
  refine r_aload_n C 0 rfl d_Di_guessQuotientWord_44 ?_
  refine gf_Di_by (k2 := 51) C rfl rfl k_154 d_Di_guessQuotientWord_45 ?_
  refine r_iload_n C 2 rfl d_Di_guessQuotientWord_48 ?_
  refine r_iconst (v := 2) C (by decide) d_Di_guessQuotientWord_49 ?_
  refine r_isub C d_Di_guessQuotientWord_50 ?_
  obtain ⟨s0, K⟩ := K
  refine r_iald C rfl s0 d_Di_guessQuotientWord_51 ?_
  refine r_i2l C d_Di_guessQuotientWord_52 ?_
  refine r_ldc2 (v := 4294967295) C k_565 d_Di_guessQuotientWord_53 ?_
  refine r_land C d_Di_guessQuotientWord_56 ?_
  refine r_lstore (ls2 := [(0, .ref 45), (1, .int v1), (2, .int v2), (3, .long ((lshl ((Int32.toInt64 (h 50 v1.toNatClampNeg)) &&& 4294967295) 32) ||| ((Int32.toInt64 (h 50 (v1 - 1).toNatClampNeg)) &&& 4294967295))), (5, .long ((Int32.toInt64 (h 51 (v2 - 1).toNatClampNeg)) &&& 4294967295)), (7, .long ((Int32.toInt64 (h 51 (v2 - 2).toNatClampNeg)) &&& 4294967295))]) C (by decide) rfl d_Di_guessQuotientWord_57 ?_
  refine r_lload_n C 3 rfl d_Di_guessQuotientWord_59 ?_
  refine r_lload C 4 rfl d_Di_guessQuotientWord_60 ?_
  refine r_callS (As := [.long ((lshl ((Int32.toInt64 (h 50 v1.toNatClampNeg)) &&& 4294967295) 32) ||| ((Int32.toInt64 (h 50 (v1 - 1).toNatClampNeg)) &&& 4294967295)), .long ((Int32.toInt64 (h 51 (v2 - 1).toNatClampNeg)) &&& 4294967295)]) (st := []) (lvc := 0) (mcc := 0) (msc := 0) C Rm M_Wh_quotientWithoutSign rfl k_566 (by decide) (Nat.le_of_ble_eq_true rfl) ⟨by decide, by decide⟩ d_Di_guessQuotientWord_62 ?_
  refine Can.mono K (fun _ h1 z => ?_)
  obtain ⟨r1, rfl, K⟩ := z
  show Wg X 0 0 h1 [(0, .ref 45), (1, .int v1), (2, .int v2), (3, .long ((lshl ((Int32.toInt64 (h 50 v1.toNatClampNeg)) &&& 4294967295) 32) ||| ((Int32.toInt64 (h 50 (v1 - 1).toNatClampNeg)) &&& 4294967295))), (5, .long ((Int32.toInt64 (h 51 (v2 - 1).toNatClampNeg)) &&& 4294967295)), (7, .long ((Int32.toInt64 (h 51 (v2 - 2).toNatClampNeg)) &&& 4294967295))] [.long r1] 65
  refine r_lstore (ls2 := [(0, .ref 45), (1, .int v1), (2, .int v2), (3, .long ((lshl ((Int32.toInt64 (h 50 v1.toNatClampNeg)) &&& 4294967295) 32) ||| ((Int32.toInt64 (h 50 (v1 - 1).toNatClampNeg)) &&& 4294967295))), (5, .long ((Int32.toInt64 (h 51 (v2 - 1).toNatClampNeg)) &&& 4294967295)), (7, .long ((Int32.toInt64 (h 51 (v2 - 2).toNatClampNeg)) &&& 4294967295)), (9, .long r1)]) C (by decide) rfl d_Di_guessQuotientWord_65 ?_
  refine r_lload_n C 3 rfl d_Di_guessQuotientWord_67 ?_
  refine r_lload C 6 rfl d_Di_guessQuotientWord_68 ?_
  refine r_lload C 4 rfl d_Di_guessQuotientWord_70 ?_
  refine r_lmul C d_Di_guessQuotientWord_72 ?_
  refine r_lsub C d_Di_guessQuotientWord_73 ?_
  refine r_lstore (ls2 := [(0, .ref 45), (1, .int v1), (2, .int v2), (3, .long ((lshl ((Int32.toInt64 (h 50 v1.toNatClampNeg)) &&& 4294967295) 32) ||| ((Int32.toInt64 (h 50 (v1 - 1).toNatClampNeg)) &&& 4294967295))), (5, .long ((Int32.toInt64 (h 51 (v2 - 1).toNatClampNeg)) &&& 4294967295)), (7, .long ((Int32.toInt64 (h 51 (v2 - 2).toNatClampNeg)) &&& 4294967295)), (9, .long r1), (11, .long (((lshl ((Int32.toInt64 (h 50 v1.toNatClampNeg)) &&& 4294967295) 32) ||| ((Int32.toInt64 (h 50 (v1 - 1).toNatClampNeg)) &&& 4294967295)) - (r1 * ((Int32.toInt64 (h 51 (v2 - 1).toNatClampNeg)) &&& 4294967295))))]) C (by decide) rfl d_Di_guessQuotientWord_74 ?_
  refine r_iconst (v := 0) C (by decide) d_Di_guessQuotientWord_76 ?_
  refine r_istore (ls2 := [(0, .ref 45), (1, .int v1), (2, .int v2), (3, .long ((lshl ((Int32.toInt64 (h 50 v1.toNatClampNeg)) &&& 4294967295) 32) ||| ((Int32.toInt64 (h 50 (v1 - 1).toNatClampNeg)) &&& 4294967295))), (5, .long ((Int32.toInt64 (h 51 (v2 - 1).toNatClampNeg)) &&& 4294967295)), (7, .long ((Int32.toInt64 (h 51 (v2 - 2).toNatClampNeg)) &&& 4294967295)), (9, .long r1), (11, .long (((lshl ((Int32.toInt64 (h 50 v1.toNatClampNeg)) &&& 4294967295) 32) ||| ((Int32.toInt64 (h 50 (v1 - 1).toNatClampNeg)) &&& 4294967295)) - (r1 * ((Int32.toInt64 (h 51 (v2 - 1).toNatClampNeg)) &&& 4294967295)))), (13, .int 0)]) C (by decide) rfl d_Di_guessQuotientWord_77 ?_
  exact K
set_option maxRecDepth 20000 in
theorem g_Di_guessQuotientWord_79 {X : CX} {h : HP} {v1 : Int32} {v2 : Int32} {v3 : Int64} {v5 : Int64} {v7 : Int64} {v9 : Int64} {v11 : Int64} {v13 : Int32} {Φ : Int64 → HP → Prop} (C : Cok X b_Di_guessQuotientWord 16 R_Di ((some .long))) (Rm : xR X = rml 1 0 0) (Q : Qok X 0 0 (fun r h2 => ∃ v, r = some (.long v) ∧ Φ v h2)) 
    (K : ((2 : Int32) ≤ v13 → Φ v9 h) ∧ (¬ (2 : Int32) ≤ v13 → (0 ≤ (lg_cmp v11 4294967296) → Φ v9 h) ∧ (¬ 0 ≤ (lg_cmp v11 4294967296) → vp_in (v1 - 2) 44 ∧ ((0 ≤ (lg_cmp v9 4294967296) → Wg X 0 0 h [(0, .ref 45), (1, .int v1), (2, .int v2), (3, .long v3), (5, .long v5), (7, .long v7), (9, .long (v9 - 1)), (11, .long (v11 + v5)), (13, .int (v13 + 1))] [] 79) ∧ (¬ 0 ≤ (lg_cmp v9 4294967296) → (0 < (lg_cmp ((v9 * v7) + ((-9223372036854775808))) (((lshl v11 32) ||| ((Int32.toInt64 (h 50 (v1 - 2).toNatClampNeg)) &&& 4294967295)) + ((-9223372036854775808)))) → Wg X 0 0 h [(0, .ref 45), (1, .int v1), (2, .int v2), (3, .long v3), (5, .long v5), (7, .long v7), (9, .long (v9 - 1)), (11, .long (v11 + v5)), (13, .int (v13 + 1))] [] 79) ∧ (¬ 0 < (lg_cmp ((v9 * v7) + ((-9223372036854775808))) (((lshl v11 32) ||| ((Int32.toInt64 (h 50 (v1 - 2).toNatClampNeg)) &&& 4294967295)) + ((-9223372036854775808)))) → Φ v9 h)))))) :
    Wg X 0 0 h [(0, .ref 45), (1, .int v1), (2, .int v2), (3, .long v3), (5, .long v5), (7, .long v7), (9, .long v9), (11, .long v11), (13, .int v13)] [] 79 := by
  refine r_iload C 8 rfl d_Di_guessQuotientWord_79 ?_
  refine r_iconst (v := 2) C (by decide) d_Di_guessQuotientWord_81 ?_
  refine r_icmp_ge C 165 d_Di_guessQuotientWord_82 (by decide) ⟨fun c0 => ?_, fun c0 => ?_⟩
  · have K := K.1 c0
    refine r_lload C 6 rfl d_Di_guessQuotientWord_165 ?_
    exact q_lret C Q d_Di_guessQuotientWord_167 ⟨_, rfl, K⟩
  · have K := K.2 c0
    refine r_lload C 7 rfl d_Di_guessQuotientWord_85 ?_
    refine r_ldc2 (v := 4294967296) C k_567 d_Di_guessQuotientWord_87 ?_
    refine r_lcmp C d_Di_guessQuotientWord_90 ?_
    refine r_if_ge C 165 d_Di_guessQuotientWord_91 (by decide) ⟨fun c0 => ?_, fun c0 => ?_⟩
    · have K := K.1 c0
      refine r_lload C 6 rfl d_Di_guessQuotientWord_165 ?_
      exact q_lret C Q d_Di_guessQuotientWord_167 ⟨_, rfl, K⟩
    · have K := K.2 c0
      refine r_lload C 7 rfl d_Di_guessQuotientWord_94 ?_
      refine r_bipush (v := 32) C (by decide) d_Di_guessQuotientWord_96 ?_
      refine r_lshl C d_Di_guessQuotientWord_98 ?_
      refine r_aload_n C 0 rfl d_Di_guessQuotientWord_99 ?_
      refine gf_Di_rest (k2 := 50) C rfl rfl k_153 d_Di_guessQuotientWord_100 ?_
      refine r_iload_n C 1 rfl d_Di_guessQuotientWord_103 ?_
      refine r_iconst (v := 2) C (by decide) d_Di_guessQuotientWord_104 ?_
      refine r_isub C d_Di_guessQuotientWord_105 ?_
      obtain ⟨s0, K⟩ := K
      refine r_iald C rfl s0 d_Di_guessQuotientWord_106 ?_
      refine r_i2l C d_Di_guessQuotientWord_107 ?_
      refine r_ldc2 (v := 4294967295) C k_565 d_Di_guessQuotientWord_108 ?_
      refine r_land C d_Di_guessQuotientWord_111 ?_
      refine r_lor C d_Di_guessQuotientWord_112 ?_
      refine r_lstore (ls2 := [(0, .ref 45), (1, .int v1), (2, .int v2), (3, .long v3), (5, .long v5), (7, .long v7), (9, .long v9), (11, .long v11), (13, .int v13), (14, .long ((lshl v11 32) ||| ((Int32.toInt64 (h 50 (v1 - 2).toNatClampNeg)) &&& 4294967295)))]) C (by decide) rfl d_Di_guessQuotientWord_113 ?_
      refine r_lload C 6 rfl d_Di_guessQuotientWord_115 ?_
      refine r_ldc2 (v := 4294967296) C k_567 d_Di_guessQuotientWord_117 ?_
      refine r_lcmp C d_Di_guessQuotientWord_120 ?_
      refine r_if_ge C 146 d_Di_guessQuotientWord_121 (by decide) ⟨fun c0 => ?_, fun c0 => ?_⟩
      · have K := K.1 c0
        refine r_lload C 6 rfl d_Di_guessQuotientWord_146 ?_
        refine r_lconst (v := 1) C (by decide) d_Di_guessQuotientWord_148 ?_
        refine r_lsub C d_Di_guessQuotientWord_149 ?_
        refine r_lstore (ls2 := [(0, .ref 45), (1, .int v1), (2, .int v2), (3, .long v3), (5, .long v5), (7, .long v7), (9, .long (v9 - 1)), (11, .long v11), (13, .int v13), (14, .long ((lshl v11 32) ||| ((Int32.toInt64 (h 50 (v1 - 2).toNatClampNeg)) &&& 4294967295)))]) C (by decide) rfl d_Di_guessQuotientWord_150 ?_
        refine r_lload C 7 rfl d_Di_guessQuotientWord_152 ?_
        refine r_lload C 4 rfl d_Di_guessQuotientWord_154 ?_
        refine r_ladd C d_Di_guessQuotientWord_156 ?_
        refine r_lstore (ls2 := [(0, .ref 45), (1, .int v1), (2, .int v2), (3, .long v3), (5, .long v5), (7, .long v7), (9, .long (v9 - 1)), (11, .long (v11 + v5)), (13, .int v13), (14, .long ((lshl v11 32) ||| ((Int32.toInt64 (h 50 (v1 - 2).toNatClampNeg)) &&& 4294967295)))]) C (by decide) rfl d_Di_guessQuotientWord_157 ?_
        refine r_iinc (ls2 := [(0, .ref 45), (1, .int v1), (2, .int v2), (3, .long v3), (5, .long v5), (7, .long v7), (9, .long (v9 - 1)), (11, .long (v11 + v5)), (13, .int (v13 + 1)), (14, .long ((lshl v11 32) ||| ((Int32.toInt64 (h 50 (v1 - 2).toNatClampNeg)) &&& 4294967295)))]) C 8 (m := 1) rfl (by decide) (by decide) rfl d_Di_guessQuotientWord_159 ?_
        refine r_goto C 79 d_Di_guessQuotientWord_162 (by decide) ?_
        exact Wg.drop (by simp) K
      · have K := K.2 c0
        refine r_lload C 6 rfl d_Di_guessQuotientWord_124 ?_
        refine r_lload C 5 rfl d_Di_guessQuotientWord_126 ?_
        refine r_lmul C d_Di_guessQuotientWord_128 ?_
        refine r_ldc2 (v := (-9223372036854775808)) C k_568 d_Di_guessQuotientWord_129 ?_
        refine r_ladd C d_Di_guessQuotientWord_132 ?_
        refine r_lload C 9 rfl d_Di_guessQuotientWord_133 ?_
        refine r_ldc2 (v := (-9223372036854775808)) C k_568 d_Di_guessQuotientWord_135 ?_
        refine r_ladd C d_Di_guessQuotientWord_138 ?_
        refine r_lcmp C d_Di_guessQuotientWord_139 ?_
        refine r_if_gt C 146 d_Di_guessQuotientWord_140 (by decide) ⟨fun c0 => ?_, fun c0 => ?_⟩
        · have K := K.1 c0
          refine r_lload C 6 rfl d_Di_guessQuotientWord_146 ?_
          refine r_lconst (v := 1) C (by decide) d_Di_guessQuotientWord_148 ?_
          refine r_lsub C d_Di_guessQuotientWord_149 ?_
          refine r_lstore (ls2 := [(0, .ref 45), (1, .int v1), (2, .int v2), (3, .long v3), (5, .long v5), (7, .long v7), (9, .long (v9 - 1)), (11, .long v11), (13, .int v13), (14, .long ((lshl v11 32) ||| ((Int32.toInt64 (h 50 (v1 - 2).toNatClampNeg)) &&& 4294967295)))]) C (by decide) rfl d_Di_guessQuotientWord_150 ?_
          refine r_lload C 7 rfl d_Di_guessQuotientWord_152 ?_
          refine r_lload C 4 rfl d_Di_guessQuotientWord_154 ?_
          refine r_ladd C d_Di_guessQuotientWord_156 ?_
          refine r_lstore (ls2 := [(0, .ref 45), (1, .int v1), (2, .int v2), (3, .long v3), (5, .long v5), (7, .long v7), (9, .long (v9 - 1)), (11, .long (v11 + v5)), (13, .int v13), (14, .long ((lshl v11 32) ||| ((Int32.toInt64 (h 50 (v1 - 2).toNatClampNeg)) &&& 4294967295)))]) C (by decide) rfl d_Di_guessQuotientWord_157 ?_
          refine r_iinc (ls2 := [(0, .ref 45), (1, .int v1), (2, .int v2), (3, .long v3), (5, .long v5), (7, .long v7), (9, .long (v9 - 1)), (11, .long (v11 + v5)), (13, .int (v13 + 1)), (14, .long ((lshl v11 32) ||| ((Int32.toInt64 (h 50 (v1 - 2).toNatClampNeg)) &&& 4294967295)))]) C 8 (m := 1) rfl (by decide) (by decide) rfl d_Di_guessQuotientWord_159 ?_
          refine r_goto C 79 d_Di_guessQuotientWord_162 (by decide) ?_
          exact Wg.drop (by simp) K
        · have K := K.2 c0
          refine r_goto C 165 d_Di_guessQuotientWord_143 (by decide) ?_
          refine r_lload C 6 rfl d_Di_guessQuotientWord_165 ?_
          exact q_lret C Q d_Di_guessQuotientWord_167 ⟨_, rfl, K⟩
set_option maxRecDepth 20000 in
theorem g_Di_subtractTimes_0 {X : CX} {h : HP} {v1 : Int64} {v3 : Int32} {v4 : Int32} {Φ : Int32 → HP → Prop} (C : Cok X b_Di_subtractTimes 12 R_Di ((some .boolean))) (Rm : xR X = rml 0 0 0) (Q : Qok X 0 0 (fun r h2 => ∃ v, r = some (.int v) ∧ Φ v h2)) 
    (K : Wg X 0 0 h [(0, .ref 45), (1, .long v1), (3, .int v3), (4, .int v4), (5, .long 0), (7, .long 0), (9, .int 0)] [] 9) :
    Wg X 0 0 h [(0, .ref 45), (1, .long v1), (3, .int v3), (4, .int v4)] [] 0 := by
  refine r_lconst (v := 0) C (by decide) d_Di_subtractTimes_0 ?_
  refine r_lstore (ls2 := [(0, .ref 45), (1, .long v1), (3, .int v3), (4, .int v4), (5, .long 0)]) C (by decide) rfl d_Di_subtractTimes_1 ?_
  refine r_lconst (v := 0) C (by decide) d_Di_subtractTimes_3 ?_
  refine r_lstore (ls2 := [(0, .ref 45), (1, .long v1), (3, .int v3), (4, .int v4), (5, .long 0), (7, .long 0)]) C (by decide) rfl d_Di_subtractTimes_4 ?_
  refine r_iconst (v := 0) C (by decide) d_Di_subtractTimes_6 ?_
  refine r_istore (ls2 := [(0, .ref 45), (1, .long v1), (3, .int v3), (4, .int v4), (5, .long 0), (7, .long 0), (9, .int 0)]) C (by decide) rfl d_Di_subtractTimes_7 ?_
  exact K
set_option maxRecDepth 20000 in
theorem g_Di_subtractTimes_9 {X : CX} {h : HP} {v1 : Int64} {v3 : Int32} {v4 : Int32} {v5 : Int64} {v7 : Int64} {v9 : Int32} {Φ : Int32 → HP → Prop} (C : Cok X b_Di_subtractTimes 12 R_Di ((some .boolean))) (Rm : xR X = rml 0 0 0) (Q : Qok X 0 0 (fun r h2 => ∃ v, r = some (.int v) ∧ Φ v h2)) 
    (K : (v4 ≤ v9 → vp_in (v3 + v4) 44 ∧ (vp_in (v3 + v4) 44 ∧ (((lg_cmp ((((Int32.toInt64 (h 50 (v3 + v4).toNatClampNeg)) &&& 4294967295) - v5) - v7) 0) < 0 → Φ 0 (up h 50 (v3 + v4).toNatClampNeg (Int64.toInt32 ((((Int32.toInt64 (h 50 (v3 + v4).toNatClampNeg)) &&& 4294967295) - v5) - v7)))) ∧ (¬ (lg_cmp ((((Int32.toInt64 (h 50 (v3 + v4).toNatClampNeg)) &&& 4294967295) - v5) - v7) 0) < 0 → Φ 1 (up h 50 (v3 + v4).toNatClampNeg (Int64.toInt32 ((((Int32.toInt64 (h 50 (v3 + v4).toNatClampNeg)) &&& 4294967295) - v5) - v7))))))) ∧ (¬ v4 ≤ v9 → vp_in v9 44 ∧ (vp_in (v3 + v9) 44 ∧ (vp_in (v3 + v9) 44 ∧ ((0 ≤ (lg_cmp ((((Int32.toInt64 (h 50 (v3 + v9).toNatClampNeg)) &&& 4294967295) - ((v5 + (v1 * ((Int32.toInt64 (h 51 v9.toNatClampNeg)) &&& 4294967295))) &&& 4294967295)) - v7) 0) → Wg X 0 0 (up h 50 (v3 + v9).toNatClampNeg (Int64.toInt32 ((((Int32.toInt64 (h 50 (v3 + v9).toNatClampNeg)) &&& 4294967295) - ((v5 + (v1 * ((Int32.toInt64 (h 51 v9.toNatClampNeg)) &&& 4294967295))) &&& 4294967295)) - v7))) [(0, .ref 45), (1, .long v1), (3, .int v3), (4, .int v4), (5, .long (lushr (v5 + (v1 * ((Int32.toInt64 (h 51 v9.toNatClampNeg)) &&& 4294967295))) 32)), (7, .long 0), (9, .int (v9 + 1))] [] 9) ∧ (¬ 0 ≤ (lg_cmp ((((Int32.toInt64 (h 50 (v3 + v9).toNatClampNeg)) &&& 4294967295) - ((v5 + (v1 * ((Int32.toInt64 (h 51 v9.toNatClampNeg)) &&& 4294967295))) &&& 4294967295)) - v7) 0) → Wg X 0 0 (up h 50 (v3 + v9).toNatClampNeg (Int64.toInt32 ((((Int32.toInt64 (h 50 (v3 + v9).toNatClampNeg)) &&& 4294967295) - ((v5 + (v1 * ((Int32.toInt64 (h 51 v9.toNatClampNeg)) &&& 4294967295))) &&& 4294967295)) - v7))) [(0, .ref 45), (1, .long v1), (3, .int v3), (4, .int v4), (5, .long (lushr (v5 + (v1 * ((Int32.toInt64 (h 51 v9.toNatClampNeg)) &&& 4294967295))) 32)), (7, .long 1), (9, .int (v9 + 1))] [] 9)))))) :
    Wg X 0 0 h [(0, .ref 45), (1, .long v1), (3, .int v3), (4, .int v4), (5, .long v5), (7, .long v7), (9, .int v9)] [] 9 := by
  refine r_iload C 6 rfl d_Di_subtractTimes_9 ?_
  refine r_iload C 3 rfl d_Di_subtractTimes_11 ?_
  refine r_icmp_ge C 100 d_Di_subtractTimes_13 (by decide) ⟨fun c0 => ?_, fun c0 => ?_⟩
  · have K := K.1 c0
    refine r_aload_n C 0 rfl d_Di_subtractTimes_100 ?_
    refine gf_Di_rest (k2 := 50) C rfl rfl k_153 d_Di_subtractTimes_101 ?_
    refine r_iload_n C 2 rfl d_Di_subtractTimes_104 ?_
    refine r_iload C 3 rfl d_Di_subtractTimes_105 ?_
    refine r_iadd C d_Di_subtractTimes_107 ?_
    obtain ⟨s0, K⟩ := K
    refine r_iald C rfl s0 d_Di_subtractTimes_108 ?_
    refine r_i2l C d_Di_subtractTimes_109 ?_
    refine r_ldc2 (v := 4294967295) C k_565 d_Di_subtractTimes_110 ?_
    refine r_land C d_Di_subtractTimes_113 ?_
    refine r_lload C 4 rfl d_Di_subtractTimes_114 ?_
    refine r_lsub C d_Di_subtractTimes_116 ?_
    refine r_lload C 5 rfl d_Di_subtractTimes_117 ?_
    refine r_lsub C d_Di_subtractTimes_119 ?_
    refine r_lstore (ls2 := [(0, .ref 45), (1, .long v1), (3, .int v3), (4, .int v4), (5, .long v5), (7, .long v7), (9, .long ((((Int32.toInt64 (h 50 (v3 + v4).toNatClampNeg)) &&& 4294967295) - v5) - v7))]) C (by decide) rfl d_Di_subtractTimes_120 ?_
    refine r_aload_n C 0 rfl d_Di_subtractTimes_122 ?_
    refine gf_Di_rest (k2 := 50) C rfl rfl k_153 d_Di_subtractTimes_123 ?_
    refine r_iload_n C 2 rfl d_Di_subtractTimes_126 ?_
    refine r_iload C 3 rfl d_Di_subtractTimes_127 ?_
    refine r_iadd C d_Di_subtractTimes_129 ?_
    refine r_lload C 6 rfl d_Di_subtractTimes_130 ?_
    refine r_l2i C d_Di_subtractTimes_132 ?_
    obtain ⟨s0, K⟩ := K
    refine r_iast C rfl s0 d_Di_subtractTimes_133 ?_
    refine r_lload C 6 rfl d_Di_subtractTimes_134 ?_
    refine r_lconst (v := 0) C (by decide) d_Di_subtractTimes_136 ?_
    refine r_lcmp C d_Di_subtractTimes_137 ?_
    refine r_if_lt C 145 d_Di_subtractTimes_138 (by decide) ⟨fun c0 => ?_, fun c0 => ?_⟩
    · have K := K.1 c0
      refine r_iconst (v := 0) C (by decide) d_Di_subtractTimes_145 ?_
      exact q_zret C Q (by decide) d_Di_subtractTimes_146 ⟨_, rfl, K⟩
    · have K := K.2 c0
      refine r_iconst (v := 1) C (by decide) d_Di_subtractTimes_141 ?_
      refine r_goto C 146 d_Di_subtractTimes_142 (by decide) ?_
      exact q_zret C Q (by decide) d_Di_subtractTimes_146 ⟨_, rfl, K⟩
  · have K := K.2 c0
    refine r_lload C 4 rfl d_Di_subtractTimes_16 ?_
    refine r_lload_n C 1 rfl d_Di_subtractTimes_18 ?_
    refine r_aload_n C 0 rfl d_Di_subtractTimes_19 ?_
    refine gf_Di_by (k2 := 51) C rfl rfl k_154 d_Di_subtractTimes_20 ?_
    refine r_iload C 6 rfl d_Di_subtractTimes_23 ?_
    obtain ⟨s0, K⟩ := K
    refine r_iald C rfl s0 d_Di_subtractTimes_25 ?_
    refine r_i2l C d_Di_subtractTimes_26 ?_
    refine r_ldc2 (v := 4294967295) C k_565 d_Di_subtractTimes_27 ?_
    refine r_land C d_Di_subtractTimes_30 ?_
    refine r_lmul C d_Di_subtractTimes_31 ?_
    refine r_ladd C d_Di_subtractTimes_32 ?_
    refine r_lstore (ls2 := [(0, .ref 45), (1, .long v1), (3, .int v3), (4, .int v4), (5, .long (v5 + (v1 * ((Int32.toInt64 (h 51 v9.toNatClampNeg)) &&& 4294967295)))), (7, .long v7), (9, .int v9)]) C (by decide) rfl d_Di_subtractTimes_33 ?_
    refine r_aload_n C 0 rfl d_Di_subtractTimes_35 ?_
    refine gf_Di_rest (k2 := 50) C rfl rfl k_153 d_Di_subtractTimes_36 ?_
    refine r_iload_n C 2 rfl d_Di_subtractTimes_39 ?_
    refine r_iload C 6 rfl d_Di_subtractTimes_40 ?_
    refine r_iadd C d_Di_subtractTimes_42 ?_
    obtain ⟨s0, K⟩ := K
    refine r_iald C rfl s0 d_Di_subtractTimes_43 ?_
    refine r_i2l C d_Di_subtractTimes_44 ?_
    refine r_ldc2 (v := 4294967295) C k_565 d_Di_subtractTimes_45 ?_
    refine r_land C d_Di_subtractTimes_48 ?_
    refine r_lload C 4 rfl d_Di_subtractTimes_49 ?_
    refine r_ldc2 (v := 4294967295) C k_565 d_Di_subtractTimes_51 ?_
    refine r_land C d_Di_subtractTimes_54 ?_
    refine r_lsub C d_Di_subtractTimes_55 ?_
    refine r_lload C 5 rfl d_Di_subtractTimes_56 ?_
    refine r_lsub C d_Di_subtractTimes_58 ?_
    refine r_lstore (ls2 := [(0, .ref 45), (1, .long v1), (3, .int v3), (4, .int v4), (5, .long (v5 + (v1 * ((Int32.toInt64 (h 51 v9.toNatClampNeg)) &&& 4294967295)))), (7, .long v7), (9, .int v9), (10, .long ((((Int32.toInt64 (h 50 (v3 + v9).toNatClampNeg)) &&& 4294967295) - ((v5 + (v1 * ((Int32.toInt64 (h 51 v9.toNatClampNeg)) &&& 4294967295))) &&& 4294967295)) - v7))]) C (by decide) rfl d_Di_subtractTimes_59 ?_
    refine r_aload_n C 0 rfl d_Di_subtractTimes_61 ?_
    refine gf_Di_rest (k2 := 50) C rfl rfl k_153 d_Di_subtractTimes_62 ?_
    refine r_iload_n C 2 rfl d_Di_subtractTimes_65 ?_
    refine r_iload C 6 rfl d_Di_subtractTimes_66 ?_
    refine r_iadd C d_Di_subtractTimes_68 ?_
    refine r_lload C 7 rfl d_Di_subtractTimes_69 ?_
    refine r_l2i C d_Di_subtractTimes_71 ?_
    obtain ⟨s0, K⟩ := K
    refine r_iast C rfl s0 d_Di_subtractTimes_72 ?_
    refine r_lload C 7 rfl d_Di_subtractTimes_73 ?_
    refine r_lconst (v := 0) C (by decide) d_Di_subtractTimes_75 ?_
    refine r_lcmp C d_Di_subtractTimes_76 ?_
    refine r_if_ge C 84 d_Di_subtractTimes_77 (by decide) ⟨fun c0 => ?_, fun c0 => ?_⟩
    · have K := K.1 c0
      refine r_lconst (v := 0) C (by decide) d_Di_subtractTimes_84 ?_
      refine r_lstore (ls2 := [(0, .ref 45), (1, .long v1), (3, .int v3), (4, .int v4), (5, .long (v5 + (v1 * ((Int32.toInt64 (h 51 v9.toNatClampNeg)) &&& 4294967295)))), (7, .long 0), (9, .int v9), (10, .long ((((Int32.toInt64 (h 50 (v3 + v9).toNatClampNeg)) &&& 4294967295) - ((v5 + (v1 * ((Int32.toInt64 (h 51 v9.toNatClampNeg)) &&& 4294967295))) &&& 4294967295)) - v7))]) C (by decide) rfl d_Di_subtractTimes_85 ?_
      refine r_lload C 4 rfl d_Di_subtractTimes_87 ?_
      refine r_bipush (v := 32) C (by decide) d_Di_subtractTimes_89 ?_
      refine r_lushr C d_Di_subtractTimes_91 ?_
      refine r_lstore (ls2 := [(0, .ref 45), (1, .long v1), (3, .int v3), (4, .int v4), (5, .long (lushr (v5 + (v1 * ((Int32.toInt64 (h 51 v9.toNatClampNeg)) &&& 4294967295))) 32)), (7, .long 0), (9, .int v9), (10, .long ((((Int32.toInt64 (h 50 (v3 + v9).toNatClampNeg)) &&& 4294967295) - ((v5 + (v1 * ((Int32.toInt64 (h 51 v9.toNatClampNeg)) &&& 4294967295))) &&& 4294967295)) - v7))]) C (by decide) rfl d_Di_subtractTimes_92 ?_
      refine r_iinc (ls2 := [(0, .ref 45), (1, .long v1), (3, .int v3), (4, .int v4), (5, .long (lushr (v5 + (v1 * ((Int32.toInt64 (h 51 v9.toNatClampNeg)) &&& 4294967295))) 32)), (7, .long 0), (9, .int (v9 + 1)), (10, .long ((((Int32.toInt64 (h 50 (v3 + v9).toNatClampNeg)) &&& 4294967295) - ((v5 + (v1 * ((Int32.toInt64 (h 51 v9.toNatClampNeg)) &&& 4294967295))) &&& 4294967295)) - v7))]) C 6 (m := 1) rfl (by decide) (by decide) rfl d_Di_subtractTimes_94 ?_
      refine r_goto C 9 d_Di_subtractTimes_97 (by decide) ?_
      exact Wg.drop (by simp) K
    · have K := K.2 c0
      refine r_lconst (v := 1) C (by decide) d_Di_subtractTimes_80 ?_
      refine r_goto C 85 d_Di_subtractTimes_81 (by decide) ?_
      refine r_lstore (ls2 := [(0, .ref 45), (1, .long v1), (3, .int v3), (4, .int v4), (5, .long (v5 + (v1 * ((Int32.toInt64 (h 51 v9.toNatClampNeg)) &&& 4294967295)))), (7, .long 1), (9, .int v9), (10, .long ((((Int32.toInt64 (h 50 (v3 + v9).toNatClampNeg)) &&& 4294967295) - ((v5 + (v1 * ((Int32.toInt64 (h 51 v9.toNatClampNeg)) &&& 4294967295))) &&& 4294967295)) - v7))]) C (by decide) rfl d_Di_subtractTimes_85 ?_
      refine r_lload C 4 rfl d_Di_subtractTimes_87 ?_
      refine r_bipush (v := 32) C (by decide) d_Di_subtractTimes_89 ?_
      refine r_lushr C d_Di_subtractTimes_91 ?_
      refine r_lstore (ls2 := [(0, .ref 45), (1, .long v1), (3, .int v3), (4, .int v4), (5, .long (lushr (v5 + (v1 * ((Int32.toInt64 (h 51 v9.toNatClampNeg)) &&& 4294967295))) 32)), (7, .long 1), (9, .int v9), (10, .long ((((Int32.toInt64 (h 50 (v3 + v9).toNatClampNeg)) &&& 4294967295) - ((v5 + (v1 * ((Int32.toInt64 (h 51 v9.toNatClampNeg)) &&& 4294967295))) &&& 4294967295)) - v7))]) C (by decide) rfl d_Di_subtractTimes_92 ?_
      refine r_iinc (ls2 := [(0, .ref 45), (1, .long v1), (3, .int v3), (4, .int v4), (5, .long (lushr (v5 + (v1 * ((Int32.toInt64 (h 51 v9.toNatClampNeg)) &&& 4294967295))) 32)), (7, .long 1), (9, .int (v9 + 1)), (10, .long ((((Int32.toInt64 (h 50 (v3 + v9).toNatClampNeg)) &&& 4294967295) - ((v5 + (v1 * ((Int32.toInt64 (h 51 v9.toNatClampNeg)) &&& 4294967295))) &&& 4294967295)) - v7))]) C 6 (m := 1) rfl (by decide) (by decide) rfl d_Di_subtractTimes_94 ?_
      refine r_goto C 9 d_Di_subtractTimes_97 (by decide) ?_
      exact Wg.drop (by simp) K
set_option maxRecDepth 20000 in
theorem g_Di_addBack_0 {X : CX} {h : HP} {v1 : Int32} {v2 : Int32} {Φ : HP → Prop} (C : Cok X b_Di_addBack 6 R_Di none) (Rm : xR X = rml 0 0 0) (Q : Qok X 0 0 (fun r h2 => r = none ∧ Φ h2)) 
    (K : Wg X 0 0 h [(0, .ref 45), (1, .int v1), (2, .int v2), (3, .long 0), (5, .int 0)] [] 5) :
    Wg X 0 0 h [(0, .ref 45), (1, .int v1), (2, .int v2)] [] 0 := by
  refine r_lconst (v := 0) C (by decide) d_Di_addBack_0 ?_
  refine r_lstore_n (ls2 := [(0, .ref 45), (1, .int v1), (2, .int v2), (3, .long 0)]) C rfl (by decide) rfl d_Di_addBack_1 ?_
  refine r_iconst (v := 0) C (by decide) d_Di_addBack_2 ?_
  refine r_istore (ls2 := [(0, .ref 45), (1, .int v1), (2, .int v2), (3, .long 0), (5, .int 0)]) C (by decide) rfl d_Di_addBack_3 ?_
  exact K
set_option maxRecDepth 20000 in
theorem g_Di_addBack_5 {X : CX} {h : HP} {v1 : Int32} {v2 : Int32} {v3 : Int64} {v5 : Int32} {Φ : HP → Prop} (C : Cok X b_Di_addBack 6 R_Di none) (Rm : xR X = rml 0 0 0) (Q : Qok X 0 0 (fun r h2 => r = none ∧ Φ h2)) 
    (K : (v2 ≤ v5 → vp_in (v1 + v2) 44 ∧ (vp_in (v1 + v2) 44 ∧ (Φ (up h 50 (v1 + v2).toNatClampNeg ((h 50 (v1 + v2).toNatClampNeg) + (Int64.toInt32 v3)))))) ∧ (¬ v2 ≤ v5 → vp_in (v1 + v5) 44 ∧ (vp_in v5 44 ∧ (vp_in (v1 + v5) 44 ∧ (Wg X 0 0 (up h 50 (v1 + v5).toNatClampNeg (Int64.toInt32 (v3 + (((Int32.toInt64 (h 50 (v1 + v5).toNatClampNeg)) &&& 4294967295) + ((Int32.toInt64 (h 51 v5.toNatClampNeg)) &&& 4294967295))))) [(0, .ref 45), (1, .int v1), (2, .int v2), (3, .long (lushr (v3 + (((Int32.toInt64 (h 50 (v1 + v5).toNatClampNeg)) &&& 4294967295) + ((Int32.toInt64 (h 51 v5.toNatClampNeg)) &&& 4294967295))) 32)), (5, .int (v5 + 1))] [] 5))))) :
    Wg X 0 0 h [(0, .ref 45), (1, .int v1), (2, .int v2), (3, .long v3), (5, .int v5)] [] 5 := by
  refine r_iload C 4 rfl d_Di_addBack_5 ?_
  refine r_iload_n C 2 rfl d_Di_addBack_7 ?_
  refine r_icmp_ge C 63 d_Di_addBack_8 (by decide) ⟨fun c0 => ?_, fun c0 => ?_⟩
  · have K := K.1 c0
    refine r_aload_n C 0 rfl d_Di_addBack_63 ?_
    refine gf_Di_rest (k2 := 50) C rfl rfl k_153 d_Di_addBack_64 ?_
    refine r_iload_n C 1 rfl d_Di_addBack_67 ?_
    refine r_iload_n C 2 rfl d_Di_addBack_68 ?_
    refine r_iadd C d_Di_addBack_69 ?_
    refine r_dup2 C rfl rfl d_Di_addBack_70 ?_
    obtain ⟨s0, K⟩ := K
    refine r_iald C rfl s0 d_Di_addBack_71 ?_
    refine r_lload_n C 3 rfl d_Di_addBack_72 ?_
    refine r_l2i C d_Di_addBack_73 ?_
    refine r_iadd C d_Di_addBack_74 ?_
    obtain ⟨s0, K⟩ := K
    refine r_iast C rfl s0 d_Di_addBack_75 ?_
    exact q_vret C Q d_Di_addBack_76 ⟨rfl, K⟩
  · have K := K.2 c0
    refine r_lload_n C 3 rfl d_Di_addBack_11 ?_
    refine r_aload_n C 0 rfl d_Di_addBack_12 ?_
    refine gf_Di_rest (k2 := 50) C rfl rfl k_153 d_Di_addBack_13 ?_
    refine r_iload_n C 1 rfl d_Di_addBack_16 ?_
    refine r_iload C 4 rfl d_Di_addBack_17 ?_
    refine r_iadd C d_Di_addBack_19 ?_
    obtain ⟨s0, K⟩ := K
    refine r_iald C rfl s0 d_Di_addBack_20 ?_
    refine r_i2l C d_Di_addBack_21 ?_
    refine r_ldc2 (v := 4294967295) C k_565 d_Di_addBack_22 ?_
    refine r_land C d_Di_addBack_25 ?_
    refine r_aload_n C 0 rfl d_Di_addBack_26 ?_
    refine gf_Di_by (k2 := 51) C rfl rfl k_154 d_Di_addBack_27 ?_
    refine r_iload C 4 rfl d_Di_addBack_30 ?_
    obtain ⟨s0, K⟩ := K
    refine r_iald C rfl s0 d_Di_addBack_32 ?_
    refine r_i2l C d_Di_addBack_33 ?_
    refine r_ldc2 (v := 4294967295) C k_565 d_Di_addBack_34 ?_
    refine r_land C d_Di_addBack_37 ?_
    refine r_ladd C d_Di_addBack_38 ?_
    refine r_ladd C d_Di_addBack_39 ?_
    refine r_lstore_n (ls2 := [(0, .ref 45), (1, .int v1), (2, .int v2), (3, .long (v3 + (((Int32.toInt64 (h 50 (v1 + v5).toNatClampNeg)) &&& 4294967295) + ((Int32.toInt64 (h 51 v5.toNatClampNeg)) &&& 4294967295)))), (5, .int v5)]) C rfl (by decide) rfl d_Di_addBack_40 ?_
    refine r_aload_n C 0 rfl d_Di_addBack_41 ?_
    refine gf_Di_rest (k2 := 50) C rfl rfl k_153 d_Di_addBack_42 ?_
    refine r_iload_n C 1 rfl d_Di_addBack_45 ?_
    refine r_iload C 4 rfl d_Di_addBack_46 ?_
    refine r_iadd C d_Di_addBack_48 ?_
    refine r_lload_n C 3 rfl d_Di_addBack_49 ?_
    refine r_l2i C d_Di_addBack_50 ?_
    obtain ⟨s0, K⟩ := K
    refine r_iast C rfl s0 d_Di_addBack_51 ?_
    refine r_lload_n C 3 rfl d_Di_addBack_52 ?_
    refine r_bipush (v := 32) C (by decide) d_Di_addBack_53 ?_
    refine r_lushr C d_Di_addBack_55 ?_
    refine r_lstore_n (ls2 := [(0, .ref 45), (1, .int v1), (2, .int v2), (3, .long (lushr (v3 + (((Int32.toInt64 (h 50 (v1 + v5).toNatClampNeg)) &&& 4294967295) + ((Int32.toInt64 (h 51 v5.toNatClampNeg)) &&& 4294967295))) 32)), (5, .int v5)]) C rfl (by decide) rfl d_Di_addBack_56 ?_
    refine r_iinc (ls2 := [(0, .ref 45), (1, .int v1), (2, .int v2), (3, .long (lushr (v3 + (((Int32.toInt64 (h 50 (v1 + v5).toNatClampNeg)) &&& 4294967295) + ((Int32.toInt64 (h 51 v5.toNatClampNeg)) &&& 4294967295))) 32)), (5, .int (v5 + 1))]) C 4 (m := 1) rfl (by decide) (by decide) rfl d_Di_addBack_57 ?_
    refine r_goto C 5 d_Di_addBack_60 (by decide) ?_
    exact K
set_option maxRecDepth 20000 in
theorem g_Di_divideByWords_0 {X : CX} {h : HP} {p1 : Nat} {p2 : Nat} {Φ : HP → Prop} (C : Cok X b_Di_divideByWords 7 R_Di none) (Rm : xR X = rml 2 0 0) (Q : Qok X 0 0 (fun r h2 => r = none ∧ Φ h2)) (hp1 : kd p1 = (0, 0)) (hp2 : kd p2 = (0, 0))
    (K : vp_in ((h p2 1) - 1) 44 ∧ (K_In_nlz [.int (h (p2 + 1) ((h p2 1) - 1).toNatClampNeg)] h (fun r1 h1 => K_Di_shiftUp [.ref p1, .int r1, .ref 50] h1 (fun h2 => K_Di_shiftUp [.ref p2, .int r1, .ref 51] h2 (fun h3 => Wg X 0 0 h3 [(0, .ref 45), (1, .ref p1), (2, .ref p2), (3, .int r1), (4, .int ((h3 p1 1) - (h3 p2 1)))] [] 44))))) :
    Wg X 0 0 h [(0, .ref 45), (1, .ref p1), (2, .ref p2)] [] 0 := by
  refine r_aload_n C 2 rfl d_Di_divideByWords_0 ?_
  refine gf_Wh_words (k2 := p2 + 1) C rfl hp2 k_106 d_Di_divideByWords_1 ?_
  refine r_aload_n C 2 rfl d_Di_divideByWords_4 ?_
  refine gf_Wh_length C hp2 k_108 d_Di_divideByWords_5 ?_
  refine r_iconst (v := 1) C (by decide) d_Di_divideByWords_8 ?_
  refine r_isub C d_Di_divideByWords_9 ?_
  obtain ⟨s0, K⟩ := K
  refine r_iald C (kWh1 hp2) s0 d_Di_divideByWords_10 ?_
  refine r_callS (As := [.int (h (p2 + 1) ((h p2 1) - 1).toNatClampNeg)]) (st := []) (lvc := 0) (mcc := 0) (msc := 0) C Rm M_In_nlz rfl k_554 (by decide) (Nat.le_of_ble_eq_true rfl) ⟨by decide, by decide⟩ d_Di_divideByWords_11 ?_
  refine Can.mono K (fun _ h1 z => ?_)
  obtain ⟨r1, rfl, K⟩ := z
  show Wg X 0 0 h1 [(0, .ref 45), (1, .ref p1), (2, .ref p2)] [.int r1] 14
  refine r_istore_n (ls2 := [(0, .ref 45), (1, .ref p1), (2, .ref p2), (3, .int r1)]) C rfl (by decide) rfl d_Di_divideByWords_14 ?_
  refine r_aload_n C 1 rfl d_Di_divideByWords_15 ?_
  refine r_iload_n C 3 rfl d_Di_divideByWords_16 ?_
  refine r_aload_n C 0 rfl d_Di_divideByWords_17 ?_
  refine gf_Di_rest (k2 := 50) C rfl rfl k_153 d_Di_divideByWords_18 ?_
  refine r_callS (As := [.ref p1, .int r1, .ref 50]) (st := []) (lvc := 1) (mcc := 0) (msc := 0) C Rm M_Di_shiftUp rfl k_558 (by decide) (Nat.le_of_ble_eq_true rfl) ⟨by decide, by decide⟩ d_Di_divideByWords_21 ?_
  refine Can.mono K (fun _ h2 z => ?_)
  obtain ⟨rfl, K⟩ := z
  show Wg X 0 0 h2 [(0, .ref 45), (1, .ref p1), (2, .ref p2), (3, .int r1)] [] 24
  refine r_aload_n C 2 rfl d_Di_divideByWords_24 ?_
  refine r_iload_n C 3 rfl d_Di_divideByWords_25 ?_
  refine r_aload_n C 0 rfl d_Di_divideByWords_26 ?_
  refine gf_Di_by (k2 := 51) C rfl rfl k_154 d_Di_divideByWords_27 ?_
  refine r_callS (As := [.ref p2, .int r1, .ref 51]) (st := []) (lvc := 1) (mcc := 0) (msc := 0) C Rm M_Di_shiftUp rfl k_558 (by decide) (Nat.le_of_ble_eq_true rfl) ⟨by decide, by decide⟩ d_Di_divideByWords_30 ?_
  refine Can.mono K (fun _ h3 z => ?_)
  obtain ⟨rfl, K⟩ := z
  show Wg X 0 0 h3 [(0, .ref 45), (1, .ref p1), (2, .ref p2), (3, .int r1)] [] 33
  refine r_aload_n C 1 rfl d_Di_divideByWords_33 ?_
  refine gf_Wh_length C hp1 k_108 d_Di_divideByWords_34 ?_
  refine r_aload_n C 2 rfl d_Di_divideByWords_37 ?_
  refine gf_Wh_length C hp2 k_108 d_Di_divideByWords_38 ?_
  refine r_isub C d_Di_divideByWords_41 ?_
  refine r_istore (ls2 := [(0, .ref 45), (1, .ref p1), (2, .ref p2), (3, .int r1), (4, .int ((h3 p1 1) - (h3 p2 1)))]) C (by decide) rfl d_Di_divideByWords_42 ?_
  exact K
set_option maxRecDepth 20000 in
theorem g_Di_divideByWords_44 {X : CX} {h : HP} {p1 : Nat} {p2 : Nat} {v3 : Int32} {v4 : Int32} {Φ : HP → Prop} (C : Cok X b_Di_divideByWords 7 R_Di none) (Rm : xR X = rml 2 0 0) (Q : Qok X 0 0 (fun r h2 => r = none ∧ Φ h2)) (hp1 : kd p1 = (0, 0)) (hp2 : kd p2 = (0, 0))
    (K : (v4 < 0 → K_Wh_trim [.ref 46, .int (((h p1 1) - (h p2 1)) + 1)] h (fun h1 => Wg X 0 0 h1 [(0, .ref 45), (1, .ref p1), (2, .ref p2), (3, .int v3), (4, .int 0)] [] 137)) ∧ (¬ v4 < 0 → K_Di_guessQuotientWord [.ref 45, .int (v4 + (h p2 1)), .int (h p2 1)] h (fun r2 h2 => K_Di_subtractTimes [.ref 45, .long r2, .int v4, .int (h2 p2 1)] h2 (fun r3 h3 => (¬ r3 = 0 → vp_in v4 44 ∧ (Wg X 0 0 (up h3 47 v4.toNatClampNeg (Int64.toInt32 r2)) [(0, .ref 45), (1, .ref p1), (2, .ref p2), (3, .int v3), (4, .int (v4 + (-1)))] [] 44)) ∧ (r3 = 0 → K_Di_addBack [.ref 45, .int v4, .int (h3 p2 1)] h3 (fun h4 => vp_in v4 44 ∧ (Wg X 0 0 (up h4 47 v4.toNatClampNeg (Int64.toInt32 (r2 - 1))) [(0, .ref 45), (1, .ref p1), (2, .ref p2), (3, .int v3), (4, .int (v4 + (-1)))] [] 44))))))) :
    Wg X 0 0 h [(0, .ref 45), (1, .ref p1), (2, .ref p2), (3, .int v3), (4, .int v4)] [] 44 := by
  refine r_iload C 4 rfl d_Di_divideByWords_44 ?_
  refine r_if_lt C 116 d_Di_divideByWords_46 (by decide) ⟨fun c0 => ?_, fun c0 => ?_⟩
  · have K := K.1 c0
    refine r_aload_n C 0 rfl d_Di_divideByWords_116 ?_
    refine gf_Di_quotient (k2 := 46) C rfl rfl k_149 d_Di_divideByWords_117 ?_
    refine r_aload_n C 1 rfl d_Di_divideByWords_120 ?_
    refine gf_Wh_length C hp1 k_108 d_Di_divideByWords_121 ?_
    refine r_aload_n C 2 rfl d_Di_divideByWords_124 ?_
    refine gf_Wh_length C hp2 k_108 d_Di_divideByWords_125 ?_
    refine r_isub C d_Di_divideByWords_128 ?_
    refine r_iconst (v := 1) C (by decide) d_Di_divideByWords_129 ?_
    refine r_iadd C d_Di_divideByWords_130 ?_
    refine r_callV (As := [.int (((h p1 1) - (h p2 1)) + 1)]) (st := []) (lvc := 0) (mcc := 0) (msc := 0) C Rm M_Wh_trim rfl k_577 rfl (by decide) (Nat.le_of_ble_eq_true rfl) ⟨by decide, by decide⟩ d_Di_divideByWords_131 ?_
    refine Can.mono K (fun _ h1 z => ?_)
    obtain ⟨rfl, K⟩ := z
    show Wg X 0 0 h1 [(0, .ref 45), (1, .ref p1), (2, .ref p2), (3, .int v3), (4, .int v4)] [] 134
    refine r_iconst (v := 0) C (by decide) d_Di_divideByWords_134 ?_
    refine r_istore (ls2 := [(0, .ref 45), (1, .ref p1), (2, .ref p2), (3, .int v3), (4, .int 0)]) C (by decide) rfl d_Di_divideByWords_135 ?_
    exact K
  · have K := K.2 c0
    refine r_aload_n C 0 rfl d_Di_divideByWords_49 ?_
    refine r_iload C 4 rfl d_Di_divideByWords_50 ?_
    refine r_aload_n C 2 rfl d_Di_divideByWords_52 ?_
    refine gf_Wh_length C hp2 k_108 d_Di_divideByWords_53 ?_
    refine r_iadd C d_Di_divideByWords_56 ?_
    refine r_aload_n C 2 rfl d_Di_divideByWords_57 ?_
    refine gf_Wh_length C hp2 k_108 d_Di_divideByWords_58 ?_
    refine r_callV (As := [.int (v4 + (h p2 1)), .int (h p2 1)]) (st := []) (lvc := 1) (mcc := 0) (msc := 0) C Rm M_Di_guessQuotientWord rfl k_561 rfl (by decide) (Nat.le_of_ble_eq_true rfl) ⟨by decide, by decide⟩ d_Di_divideByWords_61 ?_
    refine Can.mono K (fun _ h2 z => ?_)
    obtain ⟨r2, rfl, K⟩ := z
    show Wg X 0 0 h2 [(0, .ref 45), (1, .ref p1), (2, .ref p2), (3, .int v3), (4, .int v4)] [.long r2] 64
    refine r_lstore (ls2 := [(0, .ref 45), (1, .ref p1), (2, .ref p2), (3, .int v3), (4, .int v4), (5, .long r2)]) C (by decide) rfl d_Di_divideByWords_64 ?_
    refine r_aload_n C 0 rfl d_Di_divideByWords_66 ?_
    refine r_lload C 5 rfl d_Di_divideByWords_67 ?_
    refine r_iload C 4 rfl d_Di_divideByWords_69 ?_
    refine r_aload_n C 2 rfl d_Di_divideByWords_71 ?_
    refine gf_Wh_length C hp2 k_108 d_Di_divideByWords_72 ?_
    refine r_callV (As := [.long r2, .int v4, .int (h2 p2 1)]) (st := []) (lvc := 0) (mcc := 0) (msc := 0) C Rm M_Di_subtractTimes rfl k_569 rfl (by decide) (Nat.le_of_ble_eq_true rfl) ⟨by decide, by decide⟩ d_Di_divideByWords_75 ?_
    refine Can.mono K (fun _ h3 z => ?_)
    obtain ⟨r3, rfl, K⟩ := z
    show Wg X 0 0 h3 [(0, .ref 45), (1, .ref p1), (2, .ref p2), (3, .int v3), (4, .int v4), (5, .long r2)] [.int r3] 78
    refine r_if_ne C 97 d_Di_divideByWords_78 (by decide) ⟨fun c0 => ?_, fun c0 => ?_⟩
    · have K := K.1 c0
      refine r_aload_n C 0 rfl d_Di_divideByWords_97 ?_
      refine gf_Di_quotient (k2 := 46) C rfl rfl k_149 d_Di_divideByWords_98 ?_
      refine gf_Wh_words (k2 := 47) C rfl rfl k_106 d_Di_divideByWords_101 ?_
      refine r_iload C 4 rfl d_Di_divideByWords_104 ?_
      refine r_lload C 5 rfl d_Di_divideByWords_106 ?_
      refine r_l2i C d_Di_divideByWords_108 ?_
      obtain ⟨s0, K⟩ := K
      refine r_iast C rfl s0 d_Di_divideByWords_109 ?_
      refine r_iinc (ls2 := [(0, .ref 45), (1, .ref p1), (2, .ref p2), (3, .int v3), (4, .int (v4 + (-1))), (5, .long r2)]) C 4 (m := -1) rfl (by decide) (by decide) rfl d_Di_divideByWords_110 ?_
      refine r_goto C 44 d_Di_divideByWords_113 (by decide) ?_
      exact Wg.drop (by simp) K
    · have K := K.2 c0
      refine r_lload C 5 rfl d_Di_divideByWords_81 ?_
      refine r_lconst (v := 1) C (by decide) d_Di_divideByWords_83 ?_
      refine r_lsub C d_Di_divideByWords_84 ?_
      refine r_lstore (ls2 := [(0, .ref 45), (1, .ref p1), (2, .ref p2), (3, .int v3), (4, .int v4), (5, .long (r2 - 1))]) C (by decide) rfl d_Di_divideByWords_85 ?_
      refine r_aload_n C 0 rfl d_Di_divideByWords_87 ?_
      refine r_iload C 4 rfl d_Di_divideByWords_88 ?_
      refine r_aload_n C 2 rfl d_Di_divideByWords_90 ?_
      refine gf_Wh_length C hp2 k_108 d_Di_divideByWords_91 ?_
      refine r_callV (As := [.int v4, .int (h3 p2 1)]) (st := []) (lvc := 0) (mcc := 0) (msc := 0) C Rm M_Di_addBack rfl k_573 rfl (by decide) (Nat.le_of_ble_eq_true rfl) ⟨by decide, by decide⟩ d_Di_divideByWords_94 ?_
      refine Can.mono K (fun _ h4 z => ?_)
      obtain ⟨rfl, K⟩ := z
      show Wg X 0 0 h4 [(0, .ref 45), (1, .ref p1), (2, .ref p2), (3, .int v3), (4, .int v4), (5, .long (r2 - 1))] [] 97
      refine r_aload_n C 0 rfl d_Di_divideByWords_97 ?_
      refine gf_Di_quotient (k2 := 46) C rfl rfl k_149 d_Di_divideByWords_98 ?_
      refine gf_Wh_words (k2 := 47) C rfl rfl k_106 d_Di_divideByWords_101 ?_
      refine r_iload C 4 rfl d_Di_divideByWords_104 ?_
      refine r_lload C 5 rfl d_Di_divideByWords_106 ?_
      refine r_l2i C d_Di_divideByWords_108 ?_
      obtain ⟨s0, K⟩ := K
      refine r_iast C rfl s0 d_Di_divideByWords_109 ?_
      refine r_iinc (ls2 := [(0, .ref 45), (1, .ref p1), (2, .ref p2), (3, .int v3), (4, .int (v4 + (-1))), (5, .long (r2 - 1))]) C 4 (m := -1) rfl (by decide) (by decide) rfl d_Di_divideByWords_110 ?_
      refine r_goto C 44 d_Di_divideByWords_113 (by decide) ?_
      exact Wg.drop (by simp) K
set_option maxRecDepth 20000 in
theorem g_Di_divideByWords_137 {X : CX} {h : HP} {p1 : Nat} {p2 : Nat} {v3 : Int32} {v4 : Int32} {Φ : HP → Prop} (C : Cok X b_Di_divideByWords 7 R_Di none) (Rm : xR X = rml 2 0 0) (Q : Qok X 0 0 (fun r h2 => r = none ∧ Φ h2)) (hp1 : kd p1 = (0, 0)) (hp2 : kd p2 = (0, 0))
    (K : (((h p2 1)) ≤ v4 → K_Wh_trim [.ref 48, .int (h p2 1)] h (fun h1 => Φ h1)) ∧ (¬ ((h p2 1)) ≤ v4 → vp_in (v4 + 1) 44 ∧ (vp_in v4 44 ∧ (vp_in v4 44 ∧ (Wg X 0 0 (up h 49 v4.toNatClampNeg (Int64.toInt32 (lushr ((lshl ((Int32.toInt64 (h 50 (v4 + 1).toNatClampNeg)) &&& 4294967295) 32) ||| ((Int32.toInt64 (h 50 v4.toNatClampNeg)) &&& 4294967295)) v3))) [(0, .ref 45), (1, .ref p1), (2, .ref p2), (3, .int v3), (4, .int (v4 + 1))] [] 137))))) :
    Wg X 0 0 h [(0, .ref 45), (1, .ref p1), (2, .ref p2), (3, .int v3), (4, .int v4)] [] 137 := by
  refine r_iload C 4 rfl d_Di_divideByWords_137 ?_
  refine r_aload_n C 2 rfl d_Di_divideByWords_139 ?_
  refine gf_Wh_length C hp2 k_108 d_Di_divideByWords_140 ?_
  refine r_icmp_ge C 199 d_Di_divideByWords_143 (by decide) ⟨fun c0 => ?_, fun c0 => ?_⟩
  · have K := K.1 c0
    refine r_aload_n C 0 rfl d_Di_divideByWords_199 ?_
    refine gf_Di_remainder (k2 := 48) C rfl rfl k_151 d_Di_divideByWords_200 ?_
    refine r_aload_n C 2 rfl d_Di_divideByWords_203 ?_
    refine gf_Wh_length C hp2 k_108 d_Di_divideByWords_204 ?_
    refine r_callV (As := [.int (h p2 1)]) (st := []) (lvc := 0) (mcc := 0) (msc := 0) C Rm M_Wh_trim rfl k_577 rfl (by decide) (Nat.le_of_ble_eq_true rfl) ⟨by decide, by decide⟩ d_Di_divideByWords_207 ?_
    refine Can.mono K (fun _ h1 z => ?_)
    obtain ⟨rfl, K⟩ := z
    show Wg X 0 0 h1 [(0, .ref 45), (1, .ref p1), (2, .ref p2), (3, .int v3), (4, .int v4)] [] 210
    exact q_vret C Q d_Di_divideByWords_210 ⟨rfl, K⟩
  · have K := K.2 c0
    refine r_aload_n C 0 rfl d_Di_divideByWords_146 ?_
    refine gf_Di_rest (k2 := 50) C rfl rfl k_153 d_Di_divideByWords_147 ?_
    refine r_iload C 4 rfl d_Di_divideByWords_150 ?_
    refine r_iconst (v := 1) C (by decide) d_Di_divideByWords_152 ?_
    refine r_iadd C d_Di_divideByWords_153 ?_
    obtain ⟨s0, K⟩ := K
    refine r_iald C rfl s0 d_Di_divideByWords_154 ?_
    refine r_i2l C d_Di_divideByWords_155 ?_
    refine r_ldc2 (v := 4294967295) C k_565 d_Di_divideByWords_156 ?_
    refine r_land C d_Di_divideByWords_159 ?_
    refine r_bipush (v := 32) C (by decide) d_Di_divideByWords_160 ?_
    refine r_lshl C d_Di_divideByWords_162 ?_
    refine r_aload_n C 0 rfl d_Di_divideByWords_163 ?_
    refine gf_Di_rest (k2 := 50) C rfl rfl k_153 d_Di_divideByWords_164 ?_
    refine r_iload C 4 rfl d_Di_divideByWords_167 ?_
    obtain ⟨s0, K⟩ := K
    refine r_iald C rfl s0 d_Di_divideByWords_169 ?_
    refine r_i2l C d_Di_divideByWords_170 ?_
    refine r_ldc2 (v := 4294967295) C k_565 d_Di_divideByWords_171 ?_
    refine r_land C d_Di_divideByWords_174 ?_
    refine r_lor C d_Di_divideByWords_175 ?_
    refine r_lstore (ls2 := [(0, .ref 45), (1, .ref p1), (2, .ref p2), (3, .int v3), (4, .int v4), (5, .long ((lshl ((Int32.toInt64 (h 50 (v4 + 1).toNatClampNeg)) &&& 4294967295) 32) ||| ((Int32.toInt64 (h 50 v4.toNatClampNeg)) &&& 4294967295)))]) C (by decide) rfl d_Di_divideByWords_176 ?_
    refine r_aload_n C 0 rfl d_Di_divideByWords_178 ?_
    refine gf_Di_remainder (k2 := 48) C rfl rfl k_151 d_Di_divideByWords_179 ?_
    refine gf_Wh_words (k2 := 49) C rfl rfl k_106 d_Di_divideByWords_182 ?_
    refine r_iload C 4 rfl d_Di_divideByWords_185 ?_
    refine r_lload C 5 rfl d_Di_divideByWords_187 ?_
    refine r_iload_n C 3 rfl d_Di_divideByWords_189 ?_
    refine r_lushr C d_Di_divideByWords_190 ?_
    refine r_l2i C d_Di_divideByWords_191 ?_
    obtain ⟨s0, K⟩ := K
    refine r_iast C rfl s0 d_Di_divideByWords_192 ?_
    refine r_iinc (ls2 := [(0, .ref 45), (1, .ref p1), (2, .ref p2), (3, .int v3), (4, .int (v4 + 1)), (5, .long ((lshl ((Int32.toInt64 (h 50 (v4 + 1).toNatClampNeg)) &&& 4294967295) 32) ||| ((Int32.toInt64 (h 50 v4.toNatClampNeg)) &&& 4294967295)))]) C 4 (m := 1) rfl (by decide) (by decide) rfl d_Di_divideByWords_193 ?_
    refine r_goto C 137 d_Di_divideByWords_196 (by decide) ?_
    exact Wg.drop (by simp) K
set_option maxRecDepth 20000 in
theorem g_Di_divide_0 {X : CX} {h : HP} {p1 : Nat} {p2 : Nat} {Φ : HP → Prop} (C : Cok X b_Di_divide 3 R_Di none) (Rm : xR X = rml 4 0 0) (Q : Qok X 0 0 (fun r h2 => r = none ∧ Φ h2)) (hp1 : kd p1 = (0, 0)) (hp2 : kd p2 = (0, 0))
    (K : (¬ ((h p2 1)) = (1 : Int32) → K_Wh_orderOfSizes [.ref p1, .ref p2] h (fun r1 h1 => (0 ≤ r1 → K_Di_divideByWords [.ref 45, .ref p1, .ref p2] h1 (fun h2 => Wg X 0 0 h2 [(0, .ref 45), (1, .ref p1), (2, .ref p2)] [] 71)) ∧ (¬ 0 ≤ r1 → K_Wh_setLong [.ref 46, .long 0] h1 (fun h3 => K_Wh_setTo [.ref 48, .ref p1] h3 (fun h4 => Wg X 0 0 h4 [(0, .ref 45), (1, .ref p1), (2, .ref p2)] [] 71))))) ∧ (((h p2 1)) = (1 : Int32) → K_Wh_setTo [.ref 46, .ref p1] h (fun h5 => K_Wh_wordAt [.ref p2, .int 0] h5 (fun r6 h6 => K_Wh_divideByWord [.ref 46, .long r6] h6 (fun r7 h7 => K_Wh_setLong [.ref 48, .long r7] h7 (fun h8 => Wg X 0 0 h8 [(0, .ref 45), (1, .ref p1), (2, .ref p2)] [] 71)))))) :
    Wg X 0 0 h [(0, .ref 45), (1, .ref p1), (2, .ref p2)] [] 0 := by
  refine r_aload_n C 2 rfl d_Di_divide_0 ?_
  refine gf_Wh_length C hp2 k_108 d_Di_divide_1 ?_
  refine r_iconst (v := 1) C (by decide) d_Di_divide_4 ?_
  refine r_icmp_ne C 38 d_Di_divide_5 (by decide) ⟨fun c0 => ?_, fun c0 => ?_⟩
  · have K := K.1 c0
    refine r_aload_n C 1 rfl d_Di_divide_38 ?_
    refine r_aload_n C 2 rfl d_Di_divide_39 ?_
    refine r_callV (As := [.ref p2]) (st := []) (lvc := 1) (mcc := 0) (msc := 0) C Rm M_Wh_orderOfSizes rfl k_546 hp1 (by decide) (Nat.le_of_ble_eq_true rfl) ⟨by decide, by decide⟩ d_Di_divide_40 ?_
    refine Can.mono K (fun _ h1 z => ?_)
    obtain ⟨r1, rfl, K⟩ := z
    show Wg X 0 0 h1 [(0, .ref 45), (1, .ref p1), (2, .ref p2)] [.int r1] 43
    refine r_if_ge C 65 d_Di_divide_43 (by decide) ⟨fun c0 => ?_, fun c0 => ?_⟩
    · have K := K.1 c0
      refine r_aload_n C 0 rfl d_Di_divide_65 ?_
      refine r_aload_n C 1 rfl d_Di_divide_66 ?_
      refine r_aload_n C 2 rfl d_Di_divide_67 ?_
      refine r_callV (As := [.ref p1, .ref p2]) (st := []) (lvc := 2) (mcc := 0) (msc := 0) C Rm M_Di_divideByWords rfl k_550 rfl (by decide) (Nat.le_of_ble_eq_true rfl) ⟨by decide, by decide⟩ d_Di_divide_68 ?_
      refine Can.mono K (fun _ h2 z => ?_)
      obtain ⟨rfl, K⟩ := z
      show Wg X 0 0 h2 [(0, .ref 45), (1, .ref p1), (2, .ref p2)] [] 71
      exact K
    · have K := K.2 c0
      refine r_aload_n C 0 rfl d_Di_divide_46 ?_
      refine gf_Di_quotient (k2 := 46) C rfl rfl k_149 d_Di_divide_47 ?_
      refine r_lconst (v := 0) C (by decide) d_Di_divide_50 ?_
      refine r_callV (As := [.long 0]) (st := []) (lvc := 1) (mcc := 0) (msc := 0) C Rm M_Wh_setLong rfl k_545 rfl (by decide) (Nat.le_of_ble_eq_true rfl) ⟨by decide, by decide⟩ d_Di_divide_51 ?_
      refine Can.mono K (fun _ h3 z => ?_)
      obtain ⟨rfl, K⟩ := z
      show Wg X 0 0 h3 [(0, .ref 45), (1, .ref p1), (2, .ref p2)] [] 54
      refine r_aload_n C 0 rfl d_Di_divide_54 ?_
      refine gf_Di_remainder (k2 := 48) C rfl rfl k_151 d_Di_divide_55 ?_
      refine r_aload_n C 1 rfl d_Di_divide_58 ?_
      refine r_callV (As := [.ref p1]) (st := []) (lvc := 3) (mcc := 0) (msc := 0) C Rm M_Wh_setTo rfl k_531 rfl (by decide) (Nat.le_of_ble_eq_true rfl) ⟨by decide, by decide⟩ d_Di_divide_59 ?_
      refine Can.mono K (fun _ h4 z => ?_)
      obtain ⟨rfl, K⟩ := z
      show Wg X 0 0 h4 [(0, .ref 45), (1, .ref p1), (2, .ref p2)] [] 62
      refine r_goto C 71 d_Di_divide_62 (by decide) ?_
      exact K
  · have K := K.2 c0
    refine r_aload_n C 0 rfl d_Di_divide_8 ?_
    refine gf_Di_quotient (k2 := 46) C rfl rfl k_149 d_Di_divide_9 ?_
    refine r_aload_n C 1 rfl d_Di_divide_12 ?_
    refine r_callV (As := [.ref p1]) (st := []) (lvc := 3) (mcc := 0) (msc := 0) C Rm M_Wh_setTo rfl k_531 rfl (by decide) (Nat.le_of_ble_eq_true rfl) ⟨by decide, by decide⟩ d_Di_divide_13 ?_
    refine Can.mono K (fun _ h5 z => ?_)
    obtain ⟨rfl, K⟩ := z
    show Wg X 0 0 h5 [(0, .ref 45), (1, .ref p1), (2, .ref p2)] [] 16
    refine r_aload_n C 0 rfl d_Di_divide_16 ?_
    refine gf_Di_remainder (k2 := 48) C rfl rfl k_151 d_Di_divide_17 ?_
    refine r_aload_n C 0 rfl d_Di_divide_20 ?_
    refine gf_Di_quotient (k2 := 46) C rfl rfl k_149 d_Di_divide_21 ?_
    refine r_aload_n C 2 rfl d_Di_divide_24 ?_
    refine r_iconst (v := 0) C (by decide) d_Di_divide_25 ?_
    refine r_callV (As := [.int 0]) (st := [.ref 46, .ref 48]) (lvc := 0) (mcc := 0) (msc := 0) C Rm M_Wh_wordAt rfl k_532 hp2 (by decide) (Nat.le_of_ble_eq_true rfl) ⟨by decide, by decide⟩ d_Di_divide_26 ?_
    refine Can.mono K (fun _ h6 z => ?_)
    obtain ⟨r6, rfl, K⟩ := z
    show Wg X 0 0 h6 [(0, .ref 45), (1, .ref p1), (2, .ref p2)] [.long r6, .ref 46, .ref 48] 29
    refine r_callV (As := [.long r6]) (st := [.ref 48]) (lvc := 1) (mcc := 0) (msc := 0) C Rm M_Wh_divideByWord rfl k_537 rfl (by decide) (Nat.le_of_ble_eq_true rfl) ⟨by decide, by decide⟩ d_Di_divide_29 ?_
    refine Can.mono K (fun _ h7 z => ?_)
    obtain ⟨r7, rfl, K⟩ := z
    show Wg X 0 0 h7 [(0, .ref 45), (1, .ref p1), (2, .ref p2)] [.long r7, .ref 48] 32
    refine r_callV (As := [.long r7]) (st := []) (lvc := 1) (mcc := 0) (msc := 0) C Rm M_Wh_setLong rfl k_545 rfl (by decide) (Nat.le_of_ble_eq_true rfl) ⟨by decide, by decide⟩ d_Di_divide_32 ?_
    refine Can.mono K (fun _ h8 z => ?_)
    obtain ⟨rfl, K⟩ := z
    show Wg X 0 0 h8 [(0, .ref 45), (1, .ref p1), (2, .ref p2)] [] 35
    refine r_goto C 71 d_Di_divide_35 (by decide) ?_
    exact K
set_option maxRecDepth 20000 in
theorem g_Di_divide_71 {X : CX} {h : HP} {p1 : Nat} {p2 : Nat} {Φ : HP → Prop} (C : Cok X b_Di_divide 3 R_Di none) (Rm : xR X = rml 4 0 0) (Q : Qok X 0 0 (fun r h2 => r = none ∧ Φ h2)) (hp1 : kd p1 = (0, 0)) (hp2 : kd p2 = (0, 0))
    (K : (((h p1 2)) = ((h p2 2)) → Wg X 0 0 h [(0, .ref 45), (1, .ref p1), (2, .ref p2)] [.int 0, .ref 46] 101) ∧ (¬ ((h p1 2)) = ((h p2 2)) → K_Wh_isZero [.ref 46] h (fun r1 h1 => (¬ r1 = 0 → Wg X 0 0 h1 [(0, .ref 45), (1, .ref p1), (2, .ref p2)] [.int 0, .ref 46] 101) ∧ (r1 = 0 → Wg X 0 0 h1 [(0, .ref 45), (1, .ref p1), (2, .ref p2)] [.int 1, .ref 46] 101)))) :
    Wg X 0 0 h [(0, .ref 45), (1, .ref p1), (2, .ref p2)] [] 71 := by
  refine r_aload_n C 0 rfl d_Di_divide_71 ?_
  refine gf_Di_quotient (k2 := 46) C rfl rfl k_149 d_Di_divide_72 ?_
  refine r_aload_n C 1 rfl d_Di_divide_75 ?_
  refine gf_Wh_below C hp1 k_113 d_Di_divide_76 ?_
  refine r_aload_n C 2 rfl d_Di_divide_79 ?_
  refine gf_Wh_below C hp2 k_113 d_Di_divide_80 ?_
  refine r_icmp_eq C 100 d_Di_divide_83 (by decide) ⟨fun c0 => ?_, fun c0 => ?_⟩
  · have K := K.1 c0
    refine r_iconst (v := 0) C (by decide) d_Di_divide_100 ?_
    exact K
  · have K := K.2 c0
    refine r_aload_n C 0 rfl d_Di_divide_86 ?_
    refine gf_Di_quotient (k2 := 46) C rfl rfl k_149 d_Di_divide_87 ?_
    refine r_callV (As := []) (st := [.ref 46]) (lvc := 0) (mcc := 0) (msc := 0) C Rm M_Wh_isZero rfl k_578 rfl (by decide) (Nat.le_of_ble_eq_true rfl) ⟨by decide, by decide⟩ d_Di_divide_90 ?_
    refine Can.mono K (fun _ h1 z => ?_)
    obtain ⟨r1, rfl, K⟩ := z
    show Wg X 0 0 h1 [(0, .ref 45), (1, .ref p1), (2, .ref p2)] [.int r1, .ref 46] 93
    refine r_if_ne C 100 d_Di_divide_93 (by decide) ⟨fun c0 => ?_, fun c0 => ?_⟩
    · have K := K.1 c0
      refine r_iconst (v := 0) C (by decide) d_Di_divide_100 ?_
      exact K
    · have K := K.2 c0
      refine r_iconst (v := 1) C (by decide) d_Di_divide_96 ?_
      refine r_goto C 101 d_Di_divide_97 (by decide) ?_
      exact K
set_option maxRecDepth 20000 in
theorem g_Di_divide_101 {X : CX} {h : HP} {p1 : Nat} {p2 : Nat} {t1 : Int32} {Φ : HP → Prop} (C : Cok X b_Di_divide 3 R_Di none) (Rm : xR X = rml 4 0 0) (Q : Qok X 0 0 (fun r h2 => r = none ∧ Φ h2)) (hp1 : kd p1 = (0, 0)) (hp2 : kd p2 = (0, 0))
    (K : (t1 = 0 ∨ t1 = 1) ∧ ((((up h 46 2 t1) p1 2) = 0 → Φ (up (up h 46 2 t1) 48 2 0)) ∧ (¬ ((up h 46 2 t1) p1 2) = 0 → K_Wh_isZero [.ref 48] (up h 46 2 t1) (fun r1 h1 => (¬ r1 = 0 → Φ (up h1 48 2 0)) ∧ (r1 = 0 → Φ (up h1 48 2 1)))))) :
    Wg X 0 0 h [(0, .ref 45), (1, .ref p1), (2, .ref p2)] [.int t1, .ref 46] 101 := by
  obtain ⟨s0, K⟩ := K
  refine pf_Wh_below C rfl s0 k_113 d_Di_divide_101 ?_
  refine r_aload_n C 0 rfl d_Di_divide_104 ?_
  refine gf_Di_remainder (k2 := 48) C rfl rfl k_151 d_Di_divide_105 ?_
  refine r_aload_n C 1 rfl d_Di_divide_108 ?_
  refine gf_Wh_below C hp1 k_113 d_Di_divide_109 ?_
  refine r_if_eq C 129 d_Di_divide_112 (by decide) ⟨fun c0 => ?_, fun c0 => ?_⟩
  · have K := K.1 c0
    refine r_iconst (v := 0) C (by decide) d_Di_divide_129 ?_
    refine pf_Wh_below C rfl (by decide) k_113 d_Di_divide_130 ?_
    exact q_vret C Q d_Di_divide_133 ⟨rfl, K⟩
  · have K := K.2 c0
    refine r_aload_n C 0 rfl d_Di_divide_115 ?_
    refine gf_Di_remainder (k2 := 48) C rfl rfl k_151 d_Di_divide_116 ?_
    refine r_callV (As := []) (st := [.ref 48]) (lvc := 0) (mcc := 0) (msc := 0) C Rm M_Wh_isZero rfl k_578 rfl (by decide) (Nat.le_of_ble_eq_true rfl) ⟨by decide, by decide⟩ d_Di_divide_119 ?_
    refine Can.mono K (fun _ h1 z => ?_)
    obtain ⟨r1, rfl, K⟩ := z
    show Wg X 0 0 h1 [(0, .ref 45), (1, .ref p1), (2, .ref p2)] [.int r1, .ref 48] 122
    refine r_if_ne C 129 d_Di_divide_122 (by decide) ⟨fun c0 => ?_, fun c0 => ?_⟩
    · have K := K.1 c0
      refine r_iconst (v := 0) C (by decide) d_Di_divide_129 ?_
      refine pf_Wh_below C rfl (by decide) k_113 d_Di_divide_130 ?_
      exact q_vret C Q d_Di_divide_133 ⟨rfl, K⟩
    · have K := K.2 c0
      refine r_iconst (v := 1) C (by decide) d_Di_divide_125 ?_
      refine r_goto C 130 d_Di_divide_126 (by decide) ?_
      refine pf_Wh_below C rfl (by decide) k_113 d_Di_divide_130 ?_
      exact q_vret C Q d_Di_divide_133 ⟨rfl, K⟩
set_option maxRecDepth 20000 in
theorem g_Re_findDivisor_0 {X : CX} {h : HP} {p1 : Nat} {p2 : Nat} {Φ : HP → Prop} (C : Cok X b_Re_findDivisor 4 R_Re none) (Rm : xR X = rml 5 0 0) (Q : Qok X 0 0 (fun r h2 => r = none ∧ Φ h2)) (hp1 : kd p1 = (0, 0)) (hp2 : kd p2 = (0, 0))
    (K : K_Wh_setTo [.ref 41, .ref p1] h (fun h1 => K_Wh_setTo [.ref 43, .ref p2] h1 (fun h2 => Wg X 0 0 h2 [(0, .ref 23), (1, .ref p1), (2, .ref p2), (3, .int 0)] [] 18))) :
    Wg X 0 0 h [(0, .ref 23), (1, .ref p1), (2, .ref p2)] [] 0 := by
  refine r_aload_n C 0 rfl d_Re_findDivisor_0 ?_
  refine gf_Re_divisor (k2 := 41) C rfl rfl k_171 d_Re_findDivisor_1 ?_
  refine r_aload_n C 1 rfl d_Re_findDivisor_4 ?_
  refine r_callV (As := [.ref p1]) (st := []) (lvc := 3) (mcc := 0) (msc := 0) C Rm M_Wh_setTo rfl k_521 rfl (by decide) (Nat.le_of_ble_eq_true rfl) ⟨by decide, by decide⟩ d_Re_findDivisor_5 ?_
  refine Can.mono K (fun _ h1 z => ?_)
  obtain ⟨rfl, K⟩ := z
  show Wg X 0 0 h1 [(0, .ref 23), (1, .ref p1), (2, .ref p2)] [] 8
  refine r_aload_n C 0 rfl d_Re_findDivisor_8 ?_
  refine gf_Re_next (k2 := 43) C rfl rfl k_172 d_Re_findDivisor_9 ?_
  refine r_aload_n C 2 rfl d_Re_findDivisor_12 ?_
  refine r_callV (As := [.ref p2]) (st := []) (lvc := 3) (mcc := 0) (msc := 0) C Rm M_Wh_setTo rfl k_521 rfl (by decide) (Nat.le_of_ble_eq_true rfl) ⟨by decide, by decide⟩ d_Re_findDivisor_13 ?_
  refine Can.mono K (fun _ h2 z => ?_)
  obtain ⟨rfl, K⟩ := z
  show Wg X 0 0 h2 [(0, .ref 23), (1, .ref p1), (2, .ref p2)] [] 16
  refine r_iconst (v := 0) C (by decide) d_Re_findDivisor_16 ?_
  refine r_istore_n (ls2 := [(0, .ref 23), (1, .ref p1), (2, .ref p2), (3, .int 0)]) C rfl (by decide) rfl d_Re_findDivisor_17 ?_
  exact K
set_option maxRecDepth 20000 in
theorem g_Re_findDivisor_18 {X : CX} {h : HP} {p1 : Nat} {p2 : Nat} {v3 : Int32} {Φ : HP → Prop} (C : Cok X b_Re_findDivisor 4 R_Re none) (Rm : xR X = rml 5 0 0) (Q : Qok X 0 0 (fun r h2 => r = none ∧ Φ h2)) (hp1 : kd p1 = (0, 0)) (hp2 : kd p2 = (0, 0))
    (K : ((3000 : Int32) ≤ v3 → Φ (up h 41 2 0)) ∧ (¬ (3000 : Int32) ≤ v3 → K_Wh_isZero [.ref 43] h (fun r1 h1 => (¬ r1 = 0 → Φ (up h1 41 2 0)) ∧ (r1 = 0 → K_Di_divide [.ref 45, .ref 41, .ref 43] h1 (fun h2 => K_Wh_setTo [.ref 41, .ref 43] h2 (fun h3 => K_Wh_setTo [.ref 43, .ref 48] h3 (fun h4 => Wg X 0 0 h4 [(0, .ref 23), (1, .ref p1), (2, .ref p2), (3, .int (v3 + 1))] [] 18))))))) :
    Wg X 0 0 h [(0, .ref 23), (1, .ref p1), (2, .ref p2), (3, .int v3)] [] 18 := by
  refine r_iload_n C 3 rfl d_Re_findDivisor_18 ?_
  refine r_sipush (v := 3000) C (by decide) d_Re_findDivisor_19 ?_
  refine r_icmp_ge C 81 d_Re_findDivisor_22 (by decide) ⟨fun c0 => ?_, fun c0 => ?_⟩
  · have K := K.1 c0
    refine r_aload_n C 0 rfl d_Re_findDivisor_81 ?_
    refine gf_Re_divisor (k2 := 41) C rfl rfl k_171 d_Re_findDivisor_82 ?_
    refine r_iconst (v := 0) C (by decide) d_Re_findDivisor_85 ?_
    refine pf_Wh_below C rfl (by decide) k_114 d_Re_findDivisor_86 ?_
    exact q_vret C Q d_Re_findDivisor_89 ⟨rfl, K⟩
  · have K := K.2 c0
    refine r_aload_n C 0 rfl d_Re_findDivisor_25 ?_
    refine gf_Re_next (k2 := 43) C rfl rfl k_172 d_Re_findDivisor_26 ?_
    refine r_callV (As := []) (st := []) (lvc := 0) (mcc := 0) (msc := 0) C Rm M_Wh_isZero rfl k_526 rfl (by decide) (Nat.le_of_ble_eq_true rfl) ⟨by decide, by decide⟩ d_Re_findDivisor_29 ?_
    refine Can.mono K (fun _ h1 z => ?_)
    obtain ⟨r1, rfl, K⟩ := z
    show Wg X 0 0 h1 [(0, .ref 23), (1, .ref p1), (2, .ref p2), (3, .int v3)] [.int r1] 32
    refine r_if_ne C 81 d_Re_findDivisor_32 (by decide) ⟨fun c0 => ?_, fun c0 => ?_⟩
    · have K := K.1 c0
      refine r_aload_n C 0 rfl d_Re_findDivisor_81 ?_
      refine gf_Re_divisor (k2 := 41) C rfl rfl k_171 d_Re_findDivisor_82 ?_
      refine r_iconst (v := 0) C (by decide) d_Re_findDivisor_85 ?_
      refine pf_Wh_below C rfl (by decide) k_114 d_Re_findDivisor_86 ?_
      exact q_vret C Q d_Re_findDivisor_89 ⟨rfl, K⟩
    · have K := K.2 c0
      refine r_aload_n C 0 rfl d_Re_findDivisor_35 ?_
      refine gf_Re_division (k2 := 45) C rfl rfl k_173 d_Re_findDivisor_36 ?_
      refine r_aload_n C 0 rfl d_Re_findDivisor_39 ?_
      refine gf_Re_divisor (k2 := 41) C rfl rfl k_171 d_Re_findDivisor_40 ?_
      refine r_aload_n C 0 rfl d_Re_findDivisor_43 ?_
      refine gf_Re_next (k2 := 43) C rfl rfl k_172 d_Re_findDivisor_44 ?_
      refine r_callV (As := [.ref 41, .ref 43]) (st := []) (lvc := 4) (mcc := 0) (msc := 0) C Rm M_Di_divide rfl k_527 rfl (by decide) (Nat.le_of_ble_eq_true rfl) ⟨by decide, by decide⟩ d_Re_findDivisor_47 ?_
      refine Can.mono K (fun _ h2 z => ?_)
      obtain ⟨rfl, K⟩ := z
      show Wg X 0 0 h2 [(0, .ref 23), (1, .ref p1), (2, .ref p2), (3, .int v3)] [] 50
      refine r_aload_n C 0 rfl d_Re_findDivisor_50 ?_
      refine gf_Re_divisor (k2 := 41) C rfl rfl k_171 d_Re_findDivisor_51 ?_
      refine r_aload_n C 0 rfl d_Re_findDivisor_54 ?_
      refine gf_Re_next (k2 := 43) C rfl rfl k_172 d_Re_findDivisor_55 ?_
      refine r_callV (As := [.ref 43]) (st := []) (lvc := 3) (mcc := 0) (msc := 0) C Rm M_Wh_setTo rfl k_521 rfl (by decide) (Nat.le_of_ble_eq_true rfl) ⟨by decide, by decide⟩ d_Re_findDivisor_58 ?_
      refine Can.mono K (fun _ h3 z => ?_)
      obtain ⟨rfl, K⟩ := z
      show Wg X 0 0 h3 [(0, .ref 23), (1, .ref p1), (2, .ref p2), (3, .int v3)] [] 61
      refine r_aload_n C 0 rfl d_Re_findDivisor_61 ?_
      refine gf_Re_next (k2 := 43) C rfl rfl k_172 d_Re_findDivisor_62 ?_
      refine r_aload_n C 0 rfl d_Re_findDivisor_65 ?_
      refine gf_Re_division (k2 := 45) C rfl rfl k_173 d_Re_findDivisor_66 ?_
      refine gf_Di_remainder (k2 := 48) C rfl rfl k_152 d_Re_findDivisor_69 ?_
      refine r_callV (As := [.ref 48]) (st := []) (lvc := 3) (mcc := 0) (msc := 0) C Rm M_Wh_setTo rfl k_521 rfl (by decide) (Nat.le_of_ble_eq_true rfl) ⟨by decide, by decide⟩ d_Re_findDivisor_72 ?_
      refine Can.mono K (fun _ h4 z => ?_)
      obtain ⟨rfl, K⟩ := z
      show Wg X 0 0 h4 [(0, .ref 23), (1, .ref p1), (2, .ref p2), (3, .int v3)] [] 75
      refine r_iinc (ls2 := [(0, .ref 23), (1, .ref p1), (2, .ref p2), (3, .int (v3 + 1))]) C 3 (m := 1) rfl (by decide) (by decide) rfl d_Re_findDivisor_75 ?_
      refine r_goto C 18 d_Re_findDivisor_78 (by decide) ?_
      exact K
set_option maxRecDepth 20000 in
theorem g_Re_bringToLowestTerms_0 {X : CX} {h : HP}  {Φ : HP → Prop} (C : Cok X b_Re_bringToLowestTerms 1 R_Re none) (Rm : xR X = rml 6 0 0) (Q : Qok X 0 0 (fun r h2 => r = none ∧ Φ h2)) 
    (K : ((h 37 2) = 0 → Wg X 0 0 h [(0, .ref 23)] [] 33) ∧ (¬ (h 37 2) = 0 → K_Wh_flipSign [.ref 35] h (fun h1 => K_Wh_flipSign [.ref 37] h1 (fun h2 => Wg X 0 0 h2 [(0, .ref 23)] [] 33)))) :
    Wg X 0 0 h [(0, .ref 23)] [] 0 := by
  refine r_aload_n C 0 rfl d_Re_bringToLowestTerms_0 ?_
  refine gf_Re_result (k2 := 34) C rfl rfl k_168 d_Re_bringToLowestTerms_1 ?_
  refine gf_Ra_lower (k2 := 37) C rfl rfl k_130 d_Re_bringToLowestTerms_4 ?_
  refine gf_Wh_below C rfl k_114 d_Re_bringToLowestTerms_7 ?_
  refine r_if_eq C 33 d_Re_bringToLowestTerms_10 (by decide) ⟨fun c0 => ?_, fun c0 => ?_⟩
  · have K := K.1 c0
    exact K
  · have K := K.2 c0
    refine r_aload_n C 0 rfl d_Re_bringToLowestTerms_13 ?_
    refine gf_Re_result (k2 := 34) C rfl rfl k_168 d_Re_bringToLowestTerms_14 ?_
    refine gf_Ra_upper (k2 := 35) C rfl rfl k_125 d_Re_bringToLowestTerms_17 ?_
    refine r_callV (As := []) (st := []) (lvc := 0) (mcc := 0) (msc := 0) C Rm M_Wh_flipSign rfl k_845 rfl (by decide) (Nat.le_of_ble_eq_true rfl) ⟨by decide, by decide⟩ d_Re_bringToLowestTerms_20 ?_
    refine Can.mono K (fun _ h1 z => ?_)
    obtain ⟨rfl, K⟩ := z
    show Wg X 0 0 h1 [(0, .ref 23)] [] 23
    refine r_aload_n C 0 rfl d_Re_bringToLowestTerms_23 ?_
    refine gf_Re_result (k2 := 34) C rfl rfl k_168 d_Re_bringToLowestTerms_24 ?_
    refine gf_Ra_lower (k2 := 37) C rfl rfl k_130 d_Re_bringToLowestTerms_27 ?_
    refine r_callV (As := []) (st := []) (lvc := 0) (mcc := 0) (msc := 0) C Rm M_Wh_flipSign rfl k_845 rfl (by decide) (Nat.le_of_ble_eq_true rfl) ⟨by decide, by decide⟩ d_Re_bringToLowestTerms_30 ?_
    refine Can.mono K (fun _ h2 z => ?_)
    obtain ⟨rfl, K⟩ := z
    show Wg X 0 0 h2 [(0, .ref 23)] [] 33
    exact K
set_option maxRecDepth 20000 in
theorem g_Re_bringToLowestTerms_33 {X : CX} {h : HP}  {Φ : HP → Prop} (C : Cok X b_Re_bringToLowestTerms 1 R_Re none) (Rm : xR X = rml 6 0 0) (Q : Qok X 0 0 (fun r h2 => r = none ∧ Φ h2)) 
    (K : K_Wh_isOne [.ref 37] h (fun r1 h1 => (r1 = 0 → K_Re_findDivisor [.ref 23, .ref 35, .ref 37] h1 (fun h2 => K_Wh_isOne [.ref 41] h2 (fun r3 h3 => (¬ r3 = 0 → Φ h3) ∧ (r3 = 0 → K_Di_divide [.ref 45, .ref 35, .ref 41] h3 (fun h4 => K_Wh_setTo [.ref 35, .ref 46] h4 (fun h5 => K_Di_divide [.ref 45, .ref 37, .ref 41] h5 (fun h6 => K_Wh_setTo [.ref 37, .ref 46] h6 (fun h7 => Φ h7)))))))) ∧ (¬ r1 = 0 → Φ h1))) :
    Wg X 0 0 h [(0, .ref 23)] [] 33 := by
  refine r_aload_n C 0 rfl d_Re_bringToLowestTerms_33 ?_
  refine gf_Re_result (k2 := 34) C rfl rfl k_168 d_Re_bringToLowestTerms_34 ?_
  refine gf_Ra_lower (k2 := 37) C rfl rfl k_130 d_Re_bringToLowestTerms_37 ?_
  refine r_callV (As := []) (st := []) (lvc := 0) (mcc := 0) (msc := 0) C Rm M_Wh_isOne rfl k_867 rfl (by decide) (Nat.le_of_ble_eq_true rfl) ⟨by decide, by decide⟩ d_Re_bringToLowestTerms_40 ?_
  refine Can.mono K (fun _ h1 z => ?_)
  obtain ⟨r1, rfl, K⟩ := z
  show Wg X 0 0 h1 [(0, .ref 23)] [.int r1] 43
  refine r_if_eq C 47 d_Re_bringToLowestTerms_43 (by decide) ⟨fun c0 => ?_, fun c0 => ?_⟩
  · have K := K.1 c0
    refine r_aload_n C 0 rfl d_Re_bringToLowestTerms_47 ?_
    refine r_aload_n C 0 rfl d_Re_bringToLowestTerms_48 ?_
    refine gf_Re_result (k2 := 34) C rfl rfl k_168 d_Re_bringToLowestTerms_49 ?_
    refine gf_Ra_upper (k2 := 35) C rfl rfl k_125 d_Re_bringToLowestTerms_52 ?_
    refine r_aload_n C 0 rfl d_Re_bringToLowestTerms_55 ?_
    refine gf_Re_result (k2 := 34) C rfl rfl k_168 d_Re_bringToLowestTerms_56 ?_
    refine gf_Ra_lower (k2 := 37) C rfl rfl k_130 d_Re_bringToLowestTerms_59 ?_
    refine r_callV (As := [.ref 35, .ref 37]) (st := []) (lvc := 5) (mcc := 0) (msc := 0) C Rm M_Re_findDivisor rfl k_517 rfl (by decide) (Nat.le_of_ble_eq_true rfl) ⟨by decide, by decide⟩ d_Re_bringToLowestTerms_62 ?_
    refine Can.mono K (fun _ h2 z => ?_)
    obtain ⟨rfl, K⟩ := z
    show Wg X 0 0 h2 [(0, .ref 23)] [] 65
    refine r_aload_n C 0 rfl d_Re_bringToLowestTerms_65 ?_
    refine gf_Re_divisor (k2 := 41) C rfl rfl k_171 d_Re_bringToLowestTerms_66 ?_
    refine r_callV (As := []) (st := []) (lvc := 0) (mcc := 0) (msc := 0) C Rm M_Wh_isOne rfl k_867 rfl (by decide) (Nat.le_of_ble_eq_true rfl) ⟨by decide, by decide⟩ d_Re_bringToLowestTerms_69 ?_
    refine Can.mono K (fun _ h3 z => ?_)
    obtain ⟨r3, rfl, K⟩ := z
    show Wg X 0 0 h3 [(0, .ref 23)] [.int r3] 72
    refine r_if_ne C 145 d_Re_bringToLowestTerms_72 (by decide) ⟨fun c0 => ?_, fun c0 => ?_⟩
    · have K := K.1 c0
      exact q_vret C Q d_Re_bringToLowestTerms_145 ⟨rfl, K⟩
    · have K := K.2 c0
      refine r_aload_n C 0 rfl d_Re_bringToLowestTerms_75 ?_
      refine gf_Re_division (k2 := 45) C rfl rfl k_173 d_Re_bringToLowestTerms_76 ?_
      refine r_aload_n C 0 rfl d_Re_bringToLowestTerms_79 ?_
      refine gf_Re_result (k2 := 34) C rfl rfl k_168 d_Re_bringToLowestTerms_80 ?_
      refine gf_Ra_upper (k2 := 35) C rfl rfl k_125 d_Re_bringToLowestTerms_83 ?_
      refine r_aload_n C 0 rfl d_Re_bringToLowestTerms_86 ?_
      refine gf_Re_divisor (k2 := 41) C rfl rfl k_171 d_Re_bringToLowestTerms_87 ?_
      refine r_callV (As := [.ref 35, .ref 41]) (st := []) (lvc := 4) (mcc := 0) (msc := 0) C Rm M_Di_divide rfl k_527 rfl (by decide) (Nat.le_of_ble_eq_true rfl) ⟨by decide, by decide⟩ d_Re_bringToLowestTerms_90 ?_
      refine Can.mono K (fun _ h4 z => ?_)
      obtain ⟨rfl, K⟩ := z
      show Wg X 0 0 h4 [(0, .ref 23)] [] 93
      refine r_aload_n C 0 rfl d_Re_bringToLowestTerms_93 ?_
      refine gf_Re_result (k2 := 34) C rfl rfl k_168 d_Re_bringToLowestTerms_94 ?_
      refine gf_Ra_upper (k2 := 35) C rfl rfl k_125 d_Re_bringToLowestTerms_97 ?_
      refine r_aload_n C 0 rfl d_Re_bringToLowestTerms_100 ?_
      refine gf_Re_division (k2 := 45) C rfl rfl k_173 d_Re_bringToLowestTerms_101 ?_
      refine gf_Di_quotient (k2 := 46) C rfl rfl k_150 d_Re_bringToLowestTerms_104 ?_
      refine r_callV (As := [.ref 46]) (st := []) (lvc := 3) (mcc := 0) (msc := 0) C Rm M_Wh_setTo rfl k_521 rfl (by decide) (Nat.le_of_ble_eq_true rfl) ⟨by decide, by decide⟩ d_Re_bringToLowestTerms_107 ?_
      refine Can.mono K (fun _ h5 z => ?_)
      obtain ⟨rfl, K⟩ := z
      show Wg X 0 0 h5 [(0, .ref 23)] [] 110
      refine r_aload_n C 0 rfl d_Re_bringToLowestTerms_110 ?_
      refine gf_Re_division (k2 := 45) C rfl rfl k_173 d_Re_bringToLowestTerms_111 ?_
      refine r_aload_n C 0 rfl d_Re_bringToLowestTerms_114 ?_
      refine gf_Re_result (k2 := 34) C rfl rfl k_168 d_Re_bringToLowestTerms_115 ?_
      refine gf_Ra_lower (k2 := 37) C rfl rfl k_130 d_Re_bringToLowestTerms_118 ?_
      refine r_aload_n C 0 rfl d_Re_bringToLowestTerms_121 ?_
      refine gf_Re_divisor (k2 := 41) C rfl rfl k_171 d_Re_bringToLowestTerms_122 ?_
      refine r_callV (As := [.ref 37, .ref 41]) (st := []) (lvc := 4) (mcc := 0) (msc := 0) C Rm M_Di_divide rfl k_527 rfl (by decide) (Nat.le_of_ble_eq_true rfl) ⟨by decide, by decide⟩ d_Re_bringToLowestTerms_125 ?_
      refine Can.mono K (fun _ h6 z => ?_)
      obtain ⟨rfl, K⟩ := z
      show Wg X 0 0 h6 [(0, .ref 23)] [] 128
      refine r_aload_n C 0 rfl d_Re_bringToLowestTerms_128 ?_
      refine gf_Re_result (k2 := 34) C rfl rfl k_168 d_Re_bringToLowestTerms_129 ?_
      refine gf_Ra_lower (k2 := 37) C rfl rfl k_130 d_Re_bringToLowestTerms_132 ?_
      refine r_aload_n C 0 rfl d_Re_bringToLowestTerms_135 ?_
      refine gf_Re_division (k2 := 45) C rfl rfl k_173 d_Re_bringToLowestTerms_136 ?_
      refine gf_Di_quotient (k2 := 46) C rfl rfl k_150 d_Re_bringToLowestTerms_139 ?_
      refine r_callV (As := [.ref 46]) (st := []) (lvc := 3) (mcc := 0) (msc := 0) C Rm M_Wh_setTo rfl k_521 rfl (by decide) (Nat.le_of_ble_eq_true rfl) ⟨by decide, by decide⟩ d_Re_bringToLowestTerms_142 ?_
      refine Can.mono K (fun _ h7 z => ?_)
      obtain ⟨rfl, K⟩ := z
      show Wg X 0 0 h7 [(0, .ref 23)] [] 145
      exact q_vret C Q d_Re_bringToLowestTerms_145 ⟨rfl, K⟩
  · have K := K.2 c0
    exact q_vret C Q d_Re_bringToLowestTerms_46 ⟨rfl, K⟩
set_option maxRecDepth 20000 in
theorem g_Re_orderOfOperands_0 {X : CX} {h : HP}  {Φ : Int32 → HP → Prop} (C : Cok X b_Re_orderOfOperands 1 R_Re ((some .int))) (Rm : xR X = rml 12 0 0) (Q : Qok X 0 0 (fun r h2 => ∃ v, r = some (.int v) ∧ Φ v h2)) 
    (K : K_Wh_setProduct [.ref 35, .ref 25, .ref 32] h (fun h1 => K_Wh_setProduct [.ref 39, .ref 30, .ref 27] h1 (fun h2 => K_Wh_orderTo [.ref 35, .ref 39] h2 (fun r3 h3 => Φ r3 h3)))) :
    Wg X 0 0 h [(0, .ref 23)] [] 0 := by
  refine r_aload_n C 0 rfl d_Re_orderOfOperands_0 ?_
  refine gf_Re_result (k2 := 34) C rfl rfl k_168 d_Re_orderOfOperands_1 ?_
  refine gf_Ra_upper (k2 := 35) C rfl rfl k_125 d_Re_orderOfOperands_4 ?_
  refine r_aload_n C 0 rfl d_Re_orderOfOperands_7 ?_
  refine gf_Re_left (k2 := 24) C rfl rfl k_164 d_Re_orderOfOperands_8 ?_
  refine gf_Ra_upper (k2 := 25) C rfl rfl k_125 d_Re_orderOfOperands_11 ?_
  refine r_aload_n C 0 rfl d_Re_orderOfOperands_14 ?_
  refine gf_Re_right (k2 := 29) C rfl rfl k_166 d_Re_orderOfOperands_15 ?_
  refine gf_Ra_lower (k2 := 32) C rfl rfl k_130 d_Re_orderOfOperands_18 ?_
  refine r_callV (As := [.ref 25, .ref 32]) (st := []) (lvc := 11) (mcc := 0) (msc := 0) C Rm M_Wh_setProduct rfl k_583 rfl (by decide) (Nat.le_of_ble_eq_true rfl) ⟨by decide, by decide⟩ d_Re_orderOfOperands_21 ?_
  refine Can.mono K (fun _ h1 z => ?_)
  obtain ⟨rfl, K⟩ := z
  show Wg X 0 0 h1 [(0, .ref 23)] [] 24
  refine r_aload_n C 0 rfl d_Re_orderOfOperands_24 ?_
  refine gf_Re_other (k2 := 39) C rfl rfl k_170 d_Re_orderOfOperands_25 ?_
  refine r_aload_n C 0 rfl d_Re_orderOfOperands_28 ?_
  refine gf_Re_right (k2 := 29) C rfl rfl k_166 d_Re_orderOfOperands_29 ?_
  refine gf_Ra_upper (k2 := 30) C rfl rfl k_125 d_Re_orderOfOperands_32 ?_
  refine r_aload_n C 0 rfl d_Re_orderOfOperands_35 ?_
  refine gf_Re_left (k2 := 24) C rfl rfl k_164 d_Re_orderOfOperands_36 ?_
  refine gf_Ra_lower (k2 := 27) C rfl rfl k_130 d_Re_orderOfOperands_39 ?_
  refine r_callV (As := [.ref 30, .ref 27]) (st := []) (lvc := 11) (mcc := 0) (msc := 0) C Rm M_Wh_setProduct rfl k_583 rfl (by decide) (Nat.le_of_ble_eq_true rfl) ⟨by decide, by decide⟩ d_Re_orderOfOperands_42 ?_
  refine Can.mono K (fun _ h2 z => ?_)
  obtain ⟨rfl, K⟩ := z
  show Wg X 0 0 h2 [(0, .ref 23)] [] 45
  refine r_aload_n C 0 rfl d_Re_orderOfOperands_45 ?_
  refine gf_Re_result (k2 := 34) C rfl rfl k_168 d_Re_orderOfOperands_46 ?_
  refine gf_Ra_upper (k2 := 35) C rfl rfl k_125 d_Re_orderOfOperands_49 ?_
  refine r_aload_n C 0 rfl d_Re_orderOfOperands_52 ?_
  refine gf_Re_other (k2 := 39) C rfl rfl k_170 d_Re_orderOfOperands_53 ?_
  refine r_callV (As := [.ref 39]) (st := []) (lvc := 2) (mcc := 0) (msc := 0) C Rm M_Wh_orderTo rfl k_879 rfl (by decide) (Nat.le_of_ble_eq_true rfl) ⟨by decide, by decide⟩ d_Re_orderOfOperands_56 ?_
  refine Can.mono K (fun _ h3 z => ?_)
  obtain ⟨r3, rfl, K⟩ := z
  show Wg X 0 0 h3 [(0, .ref 23)] [.int r3] 59
  exact q_iret C Q d_Re_orderOfOperands_59 ⟨_, rfl, K⟩
set_option maxRecDepth 20000 in
theorem g_Re_workOnWholes_0 {X : CX} {h : HP} {v1 : Int32} {Φ : HP → Prop} (C : Cok X b_Re_workOnWholes 2 R_Re none) (Rm : xR X = rml 6 0 0) (Q : Qok X 0 0 (fun r h2 => r = none ∧ Φ h2)) 
    (K : K_Wh_setLong [.ref 37, .long 1] h (fun h1 => (¬ v1 = (6 : Int32) → K_Di_divide [.ref 45, .ref 25, .ref 30] h1 (fun h2 => (¬ v1 = (4 : Int32) → K_Wh_setTo [.ref 35, .ref 48] h2 (fun h3 => Φ h3)) ∧ (v1 = (4 : Int32) → K_Wh_setTo [.ref 35, .ref 46] h2 (fun h4 => Φ h4)))) ∧ (v1 = (6 : Int32) → K_Re_findDivisor [.ref 23, .ref 25, .ref 30] h1 (fun h5 => K_Wh_setTo [.ref 35, .ref 41] h5 (fun h6 => Φ h6))))) :
    Wg X 0 0 h [(0, .ref 23), (1, .int v1)] [] 0 := by
  refine r_aload_n C 0 rfl d_Re_workOnWholes_0 ?_
  refine gf_Re_result (k2 := 34) C rfl rfl k_168 d_Re_workOnWholes_1 ?_
  refine gf_Ra_lower (k2 := 37) C rfl rfl k_130 d_Re_workOnWholes_4 ?_
  refine r_lconst (v := 1) C (by decide) d_Re_workOnWholes_7 ?_
  refine r_callV (As := [.long 1]) (st := []) (lvc := 1) (mcc := 0) (msc := 0) C Rm M_Wh_setLong rfl k_516 rfl (by decide) (Nat.le_of_ble_eq_true rfl) ⟨by decide, by decide⟩ d_Re_workOnWholes_8 ?_
  refine Can.mono K (fun _ h1 z => ?_)
  obtain ⟨rfl, K⟩ := z
  show Wg X 0 0 h1 [(0, .ref 23), (1, .int v1)] [] 11
  refine r_iload_n C 1 rfl d_Re_workOnWholes_11 ?_
  refine r_bipush (v := 6) C (by decide) d_Re_workOnWholes_12 ?_
  refine r_icmp_ne C 50 d_Re_workOnWholes_14 (by decide) ⟨fun c0 => ?_, fun c0 => ?_⟩
  · have K := K.1 c0
    refine r_aload_n C 0 rfl d_Re_workOnWholes_50 ?_
    refine gf_Re_division (k2 := 45) C rfl rfl k_173 d_Re_workOnWholes_51 ?_
    refine r_aload_n C 0 rfl d_Re_workOnWholes_54 ?_
    refine gf_Re_left (k2 := 24) C rfl rfl k_164 d_Re_workOnWholes_55 ?_
    refine gf_Ra_upper (k2 := 25) C rfl rfl k_125 d_Re_workOnWholes_58 ?_
    refine r_aload_n C 0 rfl d_Re_workOnWholes_61 ?_
    refine gf_Re_right (k2 := 29) C rfl rfl k_166 d_Re_workOnWholes_62 ?_
    refine gf_Ra_upper (k2 := 30) C rfl rfl k_125 d_Re_workOnWholes_65 ?_
    refine r_callV (As := [.ref 25, .ref 30]) (st := []) (lvc := 4) (mcc := 0) (msc := 0) C Rm M_Di_divide rfl k_527 rfl (by decide) (Nat.le_of_ble_eq_true rfl) ⟨by decide, by decide⟩ d_Re_workOnWholes_68 ?_
    refine Can.mono K (fun _ h2 z => ?_)
    obtain ⟨rfl, K⟩ := z
    show Wg X 0 0 h2 [(0, .ref 23), (1, .int v1)] [] 71
    refine r_aload_n C 0 rfl d_Re_workOnWholes_71 ?_
    refine gf_Re_result (k2 := 34) C rfl rfl k_168 d_Re_workOnWholes_72 ?_
    refine gf_Ra_upper (k2 := 35) C rfl rfl k_125 d_Re_workOnWholes_75 ?_
    refine r_iload_n C 1 rfl d_Re_workOnWholes_78 ?_
    refine r_iconst (v := 4) C (by decide) d_Re_workOnWholes_79 ?_
    refine r_icmp_ne C 93 d_Re_workOnWholes_80 (by decide) ⟨fun c0 => ?_, fun c0 => ?_⟩
    · have K := K.1 c0
      refine r_aload_n C 0 rfl d_Re_workOnWholes_93 ?_
      refine gf_Re_division (k2 := 45) C rfl rfl k_173 d_Re_workOnWholes_94 ?_
      refine gf_Di_remainder (k2 := 48) C rfl rfl k_152 d_Re_workOnWholes_97 ?_
      refine r_callV (As := [.ref 48]) (st := []) (lvc := 3) (mcc := 0) (msc := 0) C Rm M_Wh_setTo rfl k_521 rfl (by decide) (Nat.le_of_ble_eq_true rfl) ⟨by decide, by decide⟩ d_Re_workOnWholes_100 ?_
      refine Can.mono K (fun _ h3 z => ?_)
      obtain ⟨rfl, K⟩ := z
      show Wg X 0 0 h3 [(0, .ref 23), (1, .int v1)] [] 103
      exact q_vret C Q d_Re_workOnWholes_103 ⟨rfl, K⟩
    · have K := K.2 c0
      refine r_aload_n C 0 rfl d_Re_workOnWholes_83 ?_
      refine gf_Re_division (k2 := 45) C rfl rfl k_173 d_Re_workOnWholes_84 ?_
      refine gf_Di_quotient (k2 := 46) C rfl rfl k_150 d_Re_workOnWholes_87 ?_
      refine r_goto C 100 d_Re_workOnWholes_90 (by decide) ?_
      refine r_callV (As := [.ref 46]) (st := []) (lvc := 3) (mcc := 0) (msc := 0) C Rm M_Wh_setTo rfl k_521 rfl (by decide) (Nat.le_of_ble_eq_true rfl) ⟨by decide, by decide⟩ d_Re_workOnWholes_100 ?_
      refine Can.mono K (fun _ h4 z => ?_)
      obtain ⟨rfl, K⟩ := z
      show Wg X 0 0 h4 [(0, .ref 23), (1, .int v1)] [] 103
      exact q_vret C Q d_Re_workOnWholes_103 ⟨rfl, K⟩
  · have K := K.2 c0
    refine r_aload_n C 0 rfl d_Re_workOnWholes_17 ?_
    refine r_aload_n C 0 rfl d_Re_workOnWholes_18 ?_
    refine gf_Re_left (k2 := 24) C rfl rfl k_164 d_Re_workOnWholes_19 ?_
    refine gf_Ra_upper (k2 := 25) C rfl rfl k_125 d_Re_workOnWholes_22 ?_
    refine r_aload_n C 0 rfl d_Re_workOnWholes_25 ?_
    refine gf_Re_right (k2 := 29) C rfl rfl k_166 d_Re_workOnWholes_26 ?_
    refine gf_Ra_upper (k2 := 30) C rfl rfl k_125 d_Re_workOnWholes_29 ?_
    refine r_callV (As := [.ref 25, .ref 30]) (st := []) (lvc := 5) (mcc := 0) (msc := 0) C Rm M_Re_findDivisor rfl k_517 rfl (by decide) (Nat.le_of_ble_eq_true rfl) ⟨by decide, by decide⟩ d_Re_workOnWholes_32 ?_
    refine Can.mono K (fun _ h5 z => ?_)
    obtain ⟨rfl, K⟩ := z
    show Wg X 0 0 h5 [(0, .ref 23), (1, .int v1)] [] 35
    refine r_aload_n C 0 rfl d_Re_workOnWholes_35 ?_
    refine gf_Re_result (k2 := 34) C rfl rfl k_168 d_Re_workOnWholes_36 ?_
    refine gf_Ra_upper (k2 := 35) C rfl rfl k_125 d_Re_workOnWholes_39 ?_
    refine r_aload_n C 0 rfl d_Re_workOnWholes_42 ?_
    refine gf_Re_divisor (k2 := 41) C rfl rfl k_171 d_Re_workOnWholes_43 ?_
    refine r_callV (As := [.ref 41]) (st := []) (lvc := 3) (mcc := 0) (msc := 0) C Rm M_Wh_setTo rfl k_521 rfl (by decide) (Nat.le_of_ble_eq_true rfl) ⟨by decide, by decide⟩ d_Re_workOnWholes_46 ?_
    refine Can.mono K (fun _ h6 z => ?_)
    obtain ⟨rfl, K⟩ := z
    show Wg X 0 0 h6 [(0, .ref 23), (1, .int v1)] [] 49
    exact q_vret C Q d_Re_workOnWholes_49 ⟨rfl, K⟩
set_option maxRecDepth 20000 in
theorem g_Re_workOnRatios_0 {X : CX} {h : HP} {v1 : Int32} {Φ : HP → Prop} (C : Cok X b_Re_workOnRatios 2 R_Re none) (Rm : xR X = rml 12 0 0) (Q : Qok X 0 0 (fun r h2 => r = none ∧ Φ h2)) 
    (K : (¬ v1 = (2 : Int32) → (¬ v1 = (3 : Int32) → K_Wh_setProduct [.ref 35, .ref 25, .ref 32] h (fun h1 => K_Wh_setProduct [.ref 39, .ref 30, .ref 27] h1 (fun h2 => (¬ v1 = (1 : Int32) → Wg X 0 0 h2 [(0, .ref 23), (1, .int v1)] [] 165) ∧ (v1 = (1 : Int32) → K_Wh_flipSign [.ref 39] h2 (fun h3 => Wg X 0 0 h3 [(0, .ref 23), (1, .int v1)] [] 165))))) ∧ (v1 = (3 : Int32) → K_Wh_setProduct [.ref 35, .ref 25, .ref 32] h (fun h4 => K_Wh_setProduct [.ref 37, .ref 27, .ref 30] h4 (fun h5 => Φ h5)))) ∧ (v1 = (2 : Int32) → K_Wh_setProduct [.ref 35, .ref 25, .ref 30] h (fun h6 => K_Wh_setProduct [.ref 37, .ref 27, .ref 32] h6 (fun h7 => Φ h7)))) :
    Wg X 0 0 h [(0, .ref 23), (1, .int v1)] [] 0 := by
  refine r_iload_n C 1 rfl d_Re_workOnRatios_0 ?_
  refine r_iconst (v := 2) C (by decide) d_Re_workOnRatios_1 ?_
  refine r_icmp_ne C 54 d_Re_workOnRatios_2 (by decide) ⟨fun c0 => ?_, fun c0 => ?_⟩
  · have K := K.1 c0
    refine r_iload_n C 1 rfl d_Re_workOnRatios_54 ?_
    refine r_iconst (v := 3) C (by decide) d_Re_workOnRatios_55 ?_
    refine r_icmp_ne C 108 d_Re_workOnRatios_56 (by decide) ⟨fun c0 => ?_, fun c0 => ?_⟩
    · have K := K.1 c0
      refine r_aload_n C 0 rfl d_Re_workOnRatios_108 ?_
      refine gf_Re_result (k2 := 34) C rfl rfl k_168 d_Re_workOnRatios_109 ?_
      refine gf_Ra_upper (k2 := 35) C rfl rfl k_125 d_Re_workOnRatios_112 ?_
      refine r_aload_n C 0 rfl d_Re_workOnRatios_115 ?_
      refine gf_Re_left (k2 := 24) C rfl rfl k_164 d_Re_workOnRatios_116 ?_
      refine gf_Ra_upper (k2 := 25) C rfl rfl k_125 d_Re_workOnRatios_119 ?_
      refine r_aload_n C 0 rfl d_Re_workOnRatios_122 ?_
      refine gf_Re_right (k2 := 29) C rfl rfl k_166 d_Re_workOnRatios_123 ?_
      refine gf_Ra_lower (k2 := 32) C rfl rfl k_130 d_Re_workOnRatios_126 ?_
      refine r_callV (As := [.ref 25, .ref 32]) (st := []) (lvc := 11) (mcc := 0) (msc := 0) C Rm M_Wh_setProduct rfl k_583 rfl (by decide) (Nat.le_of_ble_eq_true rfl) ⟨by decide, by decide⟩ d_Re_workOnRatios_129 ?_
      refine Can.mono K (fun _ h1 z => ?_)
      obtain ⟨rfl, K⟩ := z
      show Wg X 0 0 h1 [(0, .ref 23), (1, .int v1)] [] 132
      refine r_aload_n C 0 rfl d_Re_workOnRatios_132 ?_
      refine gf_Re_other (k2 := 39) C rfl rfl k_170 d_Re_workOnRatios_133 ?_
      refine r_aload_n C 0 rfl d_Re_workOnRatios_136 ?_
      refine gf_Re_right (k2 := 29) C rfl rfl k_166 d_Re_workOnRatios_137 ?_
      refine gf_Ra_upper (k2 := 30) C rfl rfl k_125 d_Re_workOnRatios_140 ?_
      refine r_aload_n C 0 rfl d_Re_workOnRatios_143 ?_
      refine gf_Re_left (k2 := 24) C rfl rfl k_164 d_Re_workOnRatios_144 ?_
      refine gf_Ra_lower (k2 := 27) C rfl rfl k_130 d_Re_workOnRatios_147 ?_
      refine r_callV (As := [.ref 30, .ref 27]) (st := []) (lvc := 11) (mcc := 0) (msc := 0) C Rm M_Wh_setProduct rfl k_583 rfl (by decide) (Nat.le_of_ble_eq_true rfl) ⟨by decide, by decide⟩ d_Re_workOnRatios_150 ?_
      refine Can.mono K (fun _ h2 z => ?_)
      obtain ⟨rfl, K⟩ := z
      show Wg X 0 0 h2 [(0, .ref 23), (1, .int v1)] [] 153
      refine r_iload_n C 1 rfl d_Re_workOnRatios_153 ?_
      refine r_iconst (v := 1) C (by decide) d_Re_workOnRatios_154 ?_
      refine r_icmp_ne C 165 d_Re_workOnRatios_155 (by decide) ⟨fun c0 => ?_, fun c0 => ?_⟩
      · have K := K.1 c0
        exact K
      · have K := K.2 c0
        refine r_aload_n C 0 rfl d_Re_workOnRatios_158 ?_
        refine gf_Re_other (k2 := 39) C rfl rfl k_170 d_Re_workOnRatios_159 ?_
        refine r_callV (As := []) (st := []) (lvc := 0) (mcc := 0) (msc := 0) C Rm M_Wh_flipSign rfl k_845 rfl (by decide) (Nat.le_of_ble_eq_true rfl) ⟨by decide, by decide⟩ d_Re_workOnRatios_162 ?_
        refine Can.mono K (fun _ h3 z => ?_)
        obtain ⟨rfl, K⟩ := z
        show Wg X 0 0 h3 [(0, .ref 23), (1, .int v1)] [] 165
        exact K
    · have K := K.2 c0
      refine r_aload_n C 0 rfl d_Re_workOnRatios_59 ?_
      refine gf_Re_result (k2 := 34) C rfl rfl k_168 d_Re_workOnRatios_60 ?_
      refine gf_Ra_upper (k2 := 35) C rfl rfl k_125 d_Re_workOnRatios_63 ?_
      refine r_aload_n C 0 rfl d_Re_workOnRatios_66 ?_
      refine gf_Re_left (k2 := 24) C rfl rfl k_164 d_Re_workOnRatios_67 ?_
      refine gf_Ra_upper (k2 := 25) C rfl rfl k_125 d_Re_workOnRatios_70 ?_
      refine r_aload_n C 0 rfl d_Re_workOnRatios_73 ?_
      refine gf_Re_right (k2 := 29) C rfl rfl k_166 d_Re_workOnRatios_74 ?_
      refine gf_Ra_lower (k2 := 32) C rfl rfl k_130 d_Re_workOnRatios_77 ?_
      refine r_callV (As := [.ref 25, .ref 32]) (st := []) (lvc := 11) (mcc := 0) (msc := 0) C Rm M_Wh_setProduct rfl k_583 rfl (by decide) (Nat.le_of_ble_eq_true rfl) ⟨by decide, by decide⟩ d_Re_workOnRatios_80 ?_
      refine Can.mono K (fun _ h4 z => ?_)
      obtain ⟨rfl, K⟩ := z
      show Wg X 0 0 h4 [(0, .ref 23), (1, .int v1)] [] 83
      refine r_aload_n C 0 rfl d_Re_workOnRatios_83 ?_
      refine gf_Re_result (k2 := 34) C rfl rfl k_168 d_Re_workOnRatios_84 ?_
      refine gf_Ra_lower (k2 := 37) C rfl rfl k_130 d_Re_workOnRatios_87 ?_
      refine r_aload_n C 0 rfl d_Re_workOnRatios_90 ?_
      refine gf_Re_left (k2 := 24) C rfl rfl k_164 d_Re_workOnRatios_91 ?_
      refine gf_Ra_lower (k2 := 27) C rfl rfl k_130 d_Re_workOnRatios_94 ?_
      refine r_aload_n C 0 rfl d_Re_workOnRatios_97 ?_
      refine gf_Re_right (k2 := 29) C rfl rfl k_166 d_Re_workOnRatios_98 ?_
      refine gf_Ra_upper (k2 := 30) C rfl rfl k_125 d_Re_workOnRatios_101 ?_
      refine r_callV (As := [.ref 27, .ref 30]) (st := []) (lvc := 11) (mcc := 0) (msc := 0) C Rm M_Wh_setProduct rfl k_583 rfl (by decide) (Nat.le_of_ble_eq_true rfl) ⟨by decide, by decide⟩ d_Re_workOnRatios_104 ?_
      refine Can.mono K (fun _ h5 z => ?_)
      obtain ⟨rfl, K⟩ := z
      show Wg X 0 0 h5 [(0, .ref 23), (1, .int v1)] [] 107
      exact q_vret C Q d_Re_workOnRatios_107 ⟨rfl, K⟩
  · have K := K.2 c0
    refine r_aload_n C 0 rfl d_Re_workOnRatios_5 ?_
    refine gf_Re_result (k2 := 34) C rfl rfl k_168 d_Re_workOnRatios_6 ?_
    refine gf_Ra_upper (k2 := 35) C rfl rfl k_125 d_Re_workOnRatios_9 ?_
    refine r_aload_n C 0 rfl d_Re_workOnRatios_12 ?_
    refine gf_Re_left (k2 := 24) C rfl rfl k_164 d_Re_workOnRatios_13 ?_
    refine gf_Ra_upper (k2 := 25) C rfl rfl k_125 d_Re_workOnRatios_16 ?_
    refine r_aload_n C 0 rfl d_Re_workOnRatios_19 ?_
    refine gf_Re_right (k2 := 29) C rfl rfl k_166 d_Re_workOnRatios_20 ?_
    refine gf_Ra_upper (k2 := 30) C rfl rfl k_125 d_Re_workOnRatios_23 ?_
    refine r_callV (As := [.ref 25, .ref 30]) (st := []) (lvc := 11) (mcc := 0) (msc := 0) C Rm M_Wh_setProduct rfl k_583 rfl (by decide) (Nat.le_of_ble_eq_true rfl) ⟨by decide, by decide⟩ d_Re_workOnRatios_26 ?_
    refine Can.mono K (fun _ h6 z => ?_)
    obtain ⟨rfl, K⟩ := z
    show Wg X 0 0 h6 [(0, .ref 23), (1, .int v1)] [] 29
    refine r_aload_n C 0 rfl d_Re_workOnRatios_29 ?_
    refine gf_Re_result (k2 := 34) C rfl rfl k_168 d_Re_workOnRatios_30 ?_
    refine gf_Ra_lower (k2 := 37) C rfl rfl k_130 d_Re_workOnRatios_33 ?_
    refine r_aload_n C 0 rfl d_Re_workOnRatios_36 ?_
    refine gf_Re_left (k2 := 24) C rfl rfl k_164 d_Re_workOnRatios_37 ?_
    refine gf_Ra_lower (k2 := 27) C rfl rfl k_130 d_Re_workOnRatios_40 ?_
    refine r_aload_n C 0 rfl d_Re_workOnRatios_43 ?_
    refine gf_Re_right (k2 := 29) C rfl rfl k_166 d_Re_workOnRatios_44 ?_
    refine gf_Ra_lower (k2 := 32) C rfl rfl k_130 d_Re_workOnRatios_47 ?_
    refine r_callV (As := [.ref 27, .ref 32]) (st := []) (lvc := 11) (mcc := 0) (msc := 0) C Rm M_Wh_setProduct rfl k_583 rfl (by decide) (Nat.le_of_ble_eq_true rfl) ⟨by decide, by decide⟩ d_Re_workOnRatios_50 ?_
    refine Can.mono K (fun _ h7 z => ?_)
    obtain ⟨rfl, K⟩ := z
    show Wg X 0 0 h7 [(0, .ref 23), (1, .int v1)] [] 53
    exact q_vret C Q d_Re_workOnRatios_53 ⟨rfl, K⟩
set_option maxRecDepth 20000 in
theorem g_Re_workOnRatios_165 {X : CX} {h : HP} {v1 : Int32} {Φ : HP → Prop} (C : Cok X b_Re_workOnRatios 2 R_Re none) (Rm : xR X = rml 12 0 0) (Q : Qok X 0 0 (fun r h2 => r = none ∧ Φ h2)) 
    (K : K_Wh_setSum [.ref 35, .ref 35, .ref 39] h (fun h1 => K_Wh_setProduct [.ref 37, .ref 27, .ref 32] h1 (fun h2 => Φ h2))) :
    Wg X 0 0 h [(0, .ref 23), (1, .int v1)] [] 165 := by
  refine r_aload_n C 0 rfl d_Re_workOnRatios_165 ?_
  refine gf_Re_result (k2 := 34) C rfl rfl k_168 d_Re_workOnRatios_166 ?_
  refine gf_Ra_upper (k2 := 35) C rfl rfl k_125 d_Re_workOnRatios_169 ?_
  refine r_aload_n C 0 rfl d_Re_workOnRatios_172 ?_
  refine gf_Re_result (k2 := 34) C rfl rfl k_168 d_Re_workOnRatios_173 ?_
  refine gf_Ra_upper (k2 := 35) C rfl rfl k_125 d_Re_workOnRatios_176 ?_
  refine r_aload_n C 0 rfl d_Re_workOnRatios_179 ?_
  refine gf_Re_other (k2 := 39) C rfl rfl k_170 d_Re_workOnRatios_180 ?_
  refine r_callV (As := [.ref 35, .ref 39]) (st := []) (lvc := 3) (mcc := 0) (msc := 0) C Rm M_Wh_setSum rfl k_849 rfl (by decide) (Nat.le_of_ble_eq_true rfl) ⟨by decide, by decide⟩ d_Re_workOnRatios_183 ?_
  refine Can.mono K (fun _ h1 z => ?_)
  obtain ⟨rfl, K⟩ := z
  show Wg X 0 0 h1 [(0, .ref 23), (1, .int v1)] [] 186
  refine r_aload_n C 0 rfl d_Re_workOnRatios_186 ?_
  refine gf_Re_result (k2 := 34) C rfl rfl k_168 d_Re_workOnRatios_187 ?_
  refine gf_Ra_lower (k2 := 37) C rfl rfl k_130 d_Re_workOnRatios_190 ?_
  refine r_aload_n C 0 rfl d_Re_workOnRatios_193 ?_
  refine gf_Re_left (k2 := 24) C rfl rfl k_164 d_Re_workOnRatios_194 ?_
  refine gf_Ra_lower (k2 := 27) C rfl rfl k_130 d_Re_workOnRatios_197 ?_
  refine r_aload_n C 0 rfl d_Re_workOnRatios_200 ?_
  refine gf_Re_right (k2 := 29) C rfl rfl k_166 d_Re_workOnRatios_201 ?_
  refine gf_Ra_lower (k2 := 32) C rfl rfl k_130 d_Re_workOnRatios_204 ?_
  refine r_callV (As := [.ref 27, .ref 32]) (st := []) (lvc := 11) (mcc := 0) (msc := 0) C Rm M_Wh_setProduct rfl k_583 rfl (by decide) (Nat.le_of_ble_eq_true rfl) ⟨by decide, by decide⟩ d_Re_workOnRatios_207 ?_
  refine Can.mono K (fun _ h2 z => ?_)
  obtain ⟨rfl, K⟩ := z
  show Wg X 0 0 h2 [(0, .ref 23), (1, .int v1)] [] 210
  exact q_vret C Q d_Re_workOnRatios_210 ⟨rfl, K⟩
