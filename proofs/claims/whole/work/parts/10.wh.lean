
theorem k_105 : (Jvm.Cond.fieldLink "CellHeap$Whole" (9 : Nat) "CellHeap$Whole" "words" "[I") ∈ wx_tbl := wx_in 169 (by decide +kernel) rfl
theorem k_109 : (Jvm.Cond.fieldLink "CellHeap$Whole" (29 : Nat) "CellHeap$Whole" "length" "I") ∈ wx_tbl := wx_in 173 (by decide +kernel) rfl
theorem k_112 : (Jvm.Cond.fieldLink "CellHeap$Whole" (15 : Nat) "CellHeap$Whole" "below" "Z") ∈ wx_tbl := wx_in 176 (by decide +kernel) rfl
theorem k_382 : (Jvm.Cond.methodLink "CellHeap$Whole" (19 : Nat) ({ cls := "CellHeap$Whole", name := "trim", desc := "(I)V" } : Jvm.MethodName)) ∈ wx_tbl := wx_in 446 (by decide +kernel) rfl
theorem k_404 : (Jvm.Cond.constant "CellHeap$Whole" (37 : Nat) (1073741824 : Int32)) ∈ wx_tbl := wx_in 468 (by decide +kernel) rfl
theorem k_405 : (Jvm.Cond.constant "CellHeap$Whole" (38 : Nat) (1073741823 : Int32)) ∈ wx_tbl := wx_in 469 (by decide +kernel) rfl
theorem k_506 : (Jvm.Cond.methodLink "CellHeap$Whole" (23 : Nat) ({ cls := "java/lang/System", name := "arraycopy", desc := "(Ljava/lang/Object;ILjava/lang/Object;II)V" } : Jvm.MethodName)) ∈ wx_tbl := wx_in 570 (by decide +kernel) rfl
theorem k_525 : (Jvm.Cond.methodLink "CellHeap$Whole" (33 : Nat) ({ cls := "CellHeap$Whole", name := "setWords", desc := "([III)V" } : Jvm.MethodName)) ∈ wx_tbl := wx_in 589 (by decide +kernel) rfl
theorem k_536 : (Jvm.Cond.constantLong "CellHeap$Whole" (39 : Nat) (4294967295 : Int64)) ∈ wx_tbl := wx_in 600 (by decide +kernel) rfl
theorem k_541 : (Jvm.Cond.methodLink "CellHeap$Whole" (41 : Nat) ({ cls := "CellHeap$Whole", name := "wordAt", desc := "(I)J" } : Jvm.MethodName)) ∈ wx_tbl := wx_in 605 (by decide +kernel) rfl
theorem k_542 : (Jvm.Cond.methodLink "CellHeap$Whole" (70 : Nat) ({ cls := "CellHeap$Whole", name := "quotientWithoutSign", desc := "(JJ)J" } : Jvm.MethodName)) ∈ wx_tbl := wx_in 606 (by decide +kernel) rfl
theorem k_557 : (Jvm.Cond.constant "java/lang/Integer" (264 : Nat) (65536 : Int32)) ∈ wx_tbl := wx_in 621 (by decide +kernel) rfl
theorem k_587 : (Jvm.Cond.methodLink "CellHeap$Whole" (62 : Nat) ({ cls := "java/util/Arrays", name := "fill", desc := "([IIII)V" } : Jvm.MethodName)) ∈ wx_tbl := wx_in 651 (by decide +kernel) rfl
theorem k_590 : (Jvm.Cond.methodLink "java/util/Arrays" (13 : Nat) ({ cls := "java/util/Arrays", name := "rangeCheck", desc := "(III)V" } : Jvm.MethodName)) ∈ wx_tbl := wx_in 654 (by decide +kernel) rfl
theorem k_853 : (Jvm.Cond.methodLink "CellHeap$Whole" (49 : Nat) ({ cls := "CellHeap$Whole", name := "setSumOfSizes", desc := "(LCellHeap$Whole;LCellHeap$Whole;)V" } : Jvm.MethodName)) ∈ wx_tbl := wx_in 917 (by decide +kernel) rfl
theorem k_857 : (Jvm.Cond.methodLink "CellHeap$Whole" (56 : Nat) ({ cls := "java/lang/Math", name := "max", desc := "(II)I" } : Jvm.MethodName)) ∈ wx_tbl := wx_in 921 (by decide +kernel) rfl
theorem k_858 : (Jvm.Cond.methodLink "CellHeap$Whole" (45 : Nat) ({ cls := "CellHeap$Whole", name := "orderOfSizes", desc := "(LCellHeap$Whole;)I" } : Jvm.MethodName)) ∈ wx_tbl := wx_in 922 (by decide +kernel) rfl
theorem k_859 : (Jvm.Cond.methodLink "CellHeap$Whole" (53 : Nat) ({ cls := "CellHeap$Whole", name := "setDifferenceOfSizes", desc := "(LCellHeap$Whole;LCellHeap$Whole;)V" } : Jvm.MethodName)) ∈ wx_tbl := wx_in 923 (by decide +kernel) rfl
theorem k_948 : (Jvm.Cond.constantLong "CellHeap$Whole" (68 : Nat) (10 : Int64)) ∈ wx_tbl := wx_in 1012 (by decide +kernel) rfl
/-! Ar_rangeCheck: ('java/util/Arrays', 'rangeCheck', '(III)V') -/
abbrev b_Ar_rangeCheck : ByteArray := prog_26_method_30_code
abbrev y_Ar_rangeCheck : MethodName := ⟨R_Arrays, "rangeCheck", "(III)V"⟩
abbrev K_Ar_rangeCheck := CanV y_Ar_rangeCheck b_Ar_rangeCheck 3 none 9 0 0
theorem I_Ar_rangeCheck {h : HP} {v0 : Int32} {v1 : Int32} {v2 : Int32} {Φ : HP → Prop} (body : ∀ X : CX, Cok X b_Ar_rangeCheck 3 R_Arrays none → xR X = rml 9 0 0 → Qok X 0 0 (fun r h2 => r = none ∧ Φ h2) → Wg X 0 0 h [(0, .int v0), (1, .int v1), (2, .int v2)] [] 0) : K_Ar_rangeCheck [.int v0, .int v1, .int v2] h Φ := Can.intro (by decide) (fun _ => Nat.le_of_ble_eq_true rfl) body
theorem M_Ar_rangeCheck : Ms y_Ar_rangeCheck b_Ar_rangeCheck 3 none 3 := ⟨wx_in 656 (by decide +kernel) rfl, wx_in 655 (by decide +kernel) rfl, wx_in 81 (by decide +kernel) rfl, by decide +kernel, by decide⟩
theorem d_Ar_rangeCheck_0 : decode b_Ar_rangeCheck 0 = .ok (.iload_n 1, 1) := by decide +kernel
theorem d_Ar_rangeCheck_1 : decode b_Ar_rangeCheck 1 = .ok (.iload_n 2, 1) := by decide +kernel
theorem d_Ar_rangeCheck_2 : decode b_Ar_rangeCheck 2 = .ok (.if_icmp .le 44, 3) := by decide +kernel
theorem d_Ar_rangeCheck_46 : decode b_Ar_rangeCheck 46 = .ok (.iload_n 1, 1) := by decide +kernel
theorem d_Ar_rangeCheck_47 : decode b_Ar_rangeCheck 47 = .ok (.ifCond .ge 12, 3) := by decide +kernel
theorem d_Ar_rangeCheck_59 : decode b_Ar_rangeCheck 59 = .ok (.iload_n 2, 1) := by decide +kernel
theorem d_Ar_rangeCheck_60 : decode b_Ar_rangeCheck 60 = .ok (.iload_n 0, 1) := by decide +kernel
theorem d_Ar_rangeCheck_61 : decode b_Ar_rangeCheck 61 = .ok (.if_icmp .le 12, 3) := by decide +kernel
theorem d_Ar_rangeCheck_73 : decode b_Ar_rangeCheck 73 = .ok (.return_, 1) := by decide +kernel
/-! Ar_fill: ('java/util/Arrays', 'fill', '([IIII)V') -/
abbrev b_Ar_fill : ByteArray := prog_26_method_104_code
abbrev y_Ar_fill : MethodName := ⟨R_Arrays, "fill", "([IIII)V"⟩
abbrev K_Ar_fill := CanV y_Ar_fill b_Ar_fill 5 none 10 0 0
theorem I_Ar_fill {h : HP} {p0 : Nat} {n0 : Nat} {v1 : Int32} {v2 : Int32} {v3 : Int32} {Φ : HP → Prop} (body : ∀ X : CX, Cok X b_Ar_fill 5 R_Arrays none → xR X = rml 10 0 0 → Qok X 0 0 (fun r h2 => r = none ∧ Φ h2) → Wg X 0 0 h [(0, .ref p0), (1, .int v1), (2, .int v2), (3, .int v3)] [] 0) : K_Ar_fill [.ref p0, .int v1, .int v2, .int v3] h Φ := Can.intro (by decide) (fun _ => Nat.le_of_ble_eq_true rfl) body
theorem M_Ar_fill : Ms y_Ar_fill b_Ar_fill 5 none 4 := ⟨wx_in 653 (by decide +kernel) rfl, wx_in 652 (by decide +kernel) rfl, wx_in 81 (by decide +kernel) rfl, by decide +kernel, by decide⟩
theorem d_Ar_fill_0 : decode b_Ar_fill 0 = .ok (.aload_n 0, 1) := by decide +kernel
theorem d_Ar_fill_1 : decode b_Ar_fill 1 = .ok (.arraylength, 1) := by decide +kernel
theorem d_Ar_fill_2 : decode b_Ar_fill 2 = .ok (.iload_n 1, 1) := by decide +kernel
theorem d_Ar_fill_3 : decode b_Ar_fill 3 = .ok (.iload_n 2, 1) := by decide +kernel
theorem d_Ar_fill_4 : decode b_Ar_fill 4 = .ok (.invokestatic 13, 3) := by decide +kernel
theorem d_Ar_fill_7 : decode b_Ar_fill 7 = .ok (.iload_n 1, 1) := by decide +kernel
theorem d_Ar_fill_8 : decode b_Ar_fill 8 = .ok (.istore 4, 2) := by decide +kernel
theorem d_Ar_fill_10 : decode b_Ar_fill 10 = .ok (.iload 4, 2) := by decide +kernel
theorem d_Ar_fill_12 : decode b_Ar_fill 12 = .ok (.iload_n 2, 1) := by decide +kernel
theorem d_Ar_fill_13 : decode b_Ar_fill 13 = .ok (.if_icmp .ge 14, 3) := by decide +kernel
theorem d_Ar_fill_16 : decode b_Ar_fill 16 = .ok (.aload_n 0, 1) := by decide +kernel
theorem d_Ar_fill_17 : decode b_Ar_fill 17 = .ok (.iload 4, 2) := by decide +kernel
theorem d_Ar_fill_19 : decode b_Ar_fill 19 = .ok (.iload_n 3, 1) := by decide +kernel
theorem d_Ar_fill_20 : decode b_Ar_fill 20 = .ok (.iastore, 1) := by decide +kernel
theorem d_Ar_fill_21 : decode b_Ar_fill 21 = .ok (.iinc 4 1, 3) := by decide +kernel
theorem d_Ar_fill_24 : decode b_Ar_fill 24 = .ok (.goto (-14), 3) := by decide +kernel
theorem d_Ar_fill_27 : decode b_Ar_fill 27 = .ok (.return_, 1) := by decide +kernel
/-! In_nlz: ('java/lang/Integer', 'numberOfLeadingZeros', '(I)I') -/
abbrev b_In_nlz : ByteArray := prog_16_method_47_code
abbrev y_In_nlz : MethodName := ⟨R_Integer, "numberOfLeadingZeros", "(I)I"⟩
abbrev K_In_nlz := CanI y_In_nlz b_In_nlz 2 ((some .int)) 0 0 0
theorem I_In_nlz {h : HP} {v0 : Int32} {Φ : Int32 → HP → Prop} (body : ∀ X : CX, Cok X b_In_nlz 2 R_Integer ((some .int)) → xR X = rml 0 0 0 → Qok X 0 0 (fun r h2 => ∃ v, r = some (.int v) ∧ Φ v h2) → Wg X 0 0 h [(0, .int v0)] [] 0) : K_In_nlz [.int v0] h Φ := Can.intro (by decide) (fun _ => Nat.le_of_ble_eq_true rfl) body
theorem M_In_nlz : Ms y_In_nlz b_In_nlz 2 ((some .int)) 1 := ⟨wx_in 620 (by decide +kernel) rfl, wx_in 619 (by decide +kernel) rfl, wx_in 80 (by decide +kernel) rfl, by decide +kernel, by decide⟩
theorem d_In_nlz_0 : decode b_In_nlz 0 = .ok (.iload_n 0, 1) := by decide +kernel
theorem d_In_nlz_1 : decode b_In_nlz 1 = .ok (.ifCond .gt 14, 3) := by decide +kernel
theorem d_In_nlz_4 : decode b_In_nlz 4 = .ok (.iload_n 0, 1) := by decide +kernel
theorem d_In_nlz_5 : decode b_In_nlz 5 = .ok (.ifCond .ne 8, 3) := by decide +kernel
theorem d_In_nlz_8 : decode b_In_nlz 8 = .ok (.bipush 32, 2) := by decide +kernel
theorem d_In_nlz_10 : decode b_In_nlz 10 = .ok (.goto 4, 3) := by decide +kernel
theorem d_In_nlz_13 : decode b_In_nlz 13 = .ok (.iconst 0, 1) := by decide +kernel
theorem d_In_nlz_14 : decode b_In_nlz 14 = .ok (.ireturn, 1) := by decide +kernel
theorem d_In_nlz_15 : decode b_In_nlz 15 = .ok (.bipush 31, 2) := by decide +kernel
theorem d_In_nlz_17 : decode b_In_nlz 17 = .ok (.istore_n 1, 1) := by decide +kernel
theorem d_In_nlz_18 : decode b_In_nlz 18 = .ok (.iload_n 0, 1) := by decide +kernel
theorem d_In_nlz_19 : decode b_In_nlz 19 = .ok (.ldc_w 264, 3) := by decide +kernel
theorem d_In_nlz_22 : decode b_In_nlz 22 = .ok (.if_icmp .lt 11, 3) := by decide +kernel
theorem d_In_nlz_25 : decode b_In_nlz 25 = .ok (.iinc 1 (-16), 3) := by decide +kernel
theorem d_In_nlz_28 : decode b_In_nlz 28 = .ok (.iload_n 0, 1) := by decide +kernel
theorem d_In_nlz_29 : decode b_In_nlz 29 = .ok (.bipush 16, 2) := by decide +kernel
theorem d_In_nlz_31 : decode b_In_nlz 31 = .ok (.iushr, 1) := by decide +kernel
theorem d_In_nlz_32 : decode b_In_nlz 32 = .ok (.istore_n 0, 1) := by decide +kernel
theorem d_In_nlz_33 : decode b_In_nlz 33 = .ok (.iload_n 0, 1) := by decide +kernel
theorem d_In_nlz_34 : decode b_In_nlz 34 = .ok (.sipush 256, 3) := by decide +kernel
theorem d_In_nlz_37 : decode b_In_nlz 37 = .ok (.if_icmp .lt 11, 3) := by decide +kernel
theorem d_In_nlz_40 : decode b_In_nlz 40 = .ok (.iinc 1 (-8), 3) := by decide +kernel
theorem d_In_nlz_43 : decode b_In_nlz 43 = .ok (.iload_n 0, 1) := by decide +kernel
theorem d_In_nlz_44 : decode b_In_nlz 44 = .ok (.bipush 8, 2) := by decide +kernel
theorem d_In_nlz_46 : decode b_In_nlz 46 = .ok (.iushr, 1) := by decide +kernel
theorem d_In_nlz_47 : decode b_In_nlz 47 = .ok (.istore_n 0, 1) := by decide +kernel
theorem d_In_nlz_48 : decode b_In_nlz 48 = .ok (.iload_n 0, 1) := by decide +kernel
theorem d_In_nlz_49 : decode b_In_nlz 49 = .ok (.bipush 16, 2) := by decide +kernel
theorem d_In_nlz_51 : decode b_In_nlz 51 = .ok (.if_icmp .lt 10, 3) := by decide +kernel
theorem d_In_nlz_54 : decode b_In_nlz 54 = .ok (.iinc 1 (-4), 3) := by decide +kernel
theorem d_In_nlz_57 : decode b_In_nlz 57 = .ok (.iload_n 0, 1) := by decide +kernel
theorem d_In_nlz_58 : decode b_In_nlz 58 = .ok (.iconst 4, 1) := by decide +kernel
theorem d_In_nlz_59 : decode b_In_nlz 59 = .ok (.iushr, 1) := by decide +kernel
theorem d_In_nlz_60 : decode b_In_nlz 60 = .ok (.istore_n 0, 1) := by decide +kernel
theorem d_In_nlz_61 : decode b_In_nlz 61 = .ok (.iload_n 0, 1) := by decide +kernel
theorem d_In_nlz_62 : decode b_In_nlz 62 = .ok (.iconst 4, 1) := by decide +kernel
theorem d_In_nlz_63 : decode b_In_nlz 63 = .ok (.if_icmp .lt 10, 3) := by decide +kernel
theorem d_In_nlz_66 : decode b_In_nlz 66 = .ok (.iinc 1 (-2), 3) := by decide +kernel
theorem d_In_nlz_69 : decode b_In_nlz 69 = .ok (.iload_n 0, 1) := by decide +kernel
theorem d_In_nlz_70 : decode b_In_nlz 70 = .ok (.iconst 2, 1) := by decide +kernel
theorem d_In_nlz_71 : decode b_In_nlz 71 = .ok (.iushr, 1) := by decide +kernel
theorem d_In_nlz_72 : decode b_In_nlz 72 = .ok (.istore_n 0, 1) := by decide +kernel
theorem d_In_nlz_73 : decode b_In_nlz 73 = .ok (.iload_n 1, 1) := by decide +kernel
theorem d_In_nlz_74 : decode b_In_nlz 74 = .ok (.iload_n 0, 1) := by decide +kernel
theorem d_In_nlz_75 : decode b_In_nlz 75 = .ok (.iconst 1, 1) := by decide +kernel
theorem d_In_nlz_76 : decode b_In_nlz 76 = .ok (.iushr, 1) := by decide +kernel
theorem d_In_nlz_77 : decode b_In_nlz 77 = .ok (.isub, 1) := by decide +kernel
theorem d_In_nlz_78 : decode b_In_nlz 78 = .ok (.ireturn, 1) := by decide +kernel
/-! Wh_trim: ('CellHeap$Whole', 'trim', '(I)V') -/
abbrev b_Wh_trim : ByteArray := prog_8_method_5_code
abbrev y_Wh_trim : MethodName := ⟨R_Wh, "trim", "(I)V"⟩
abbrev K_Wh_trim := CanV y_Wh_trim b_Wh_trim 2 none 0 0 0
theorem I_Wh_trim {h : HP} {p0 : Nat} {v1 : Int32} {Φ : HP → Prop} (body : ∀ X : CX, Cok X b_Wh_trim 2 R_Wh none → xR X = rml 0 0 0 → Qok X 0 0 (fun r h2 => r = none ∧ Φ h2) → Wg X 0 0 h [(0, .ref p0), (1, .int v1)] [] 0) : K_Wh_trim [.ref p0, .int v1] h Φ := Can.intro (by decide) (fun _ => Nat.le_of_ble_eq_true rfl) body
theorem M_Wh_trim : Mv y_Wh_trim b_Wh_trim 2 none 1 0 := ⟨wx_in 449 (by decide +kernel) rfl, wx_in 447 (by decide +kernel) rfl, wx_in 448 (by decide +kernel) rfl, wx_in 70 (by decide +kernel) rfl, by decide +kernel, by decide, by decide, _, _, rfl⟩
theorem d_Wh_trim_0 : decode b_Wh_trim 0 = .ok (.aload_n 0, 1) := by decide +kernel
theorem d_Wh_trim_1 : decode b_Wh_trim 1 = .ok (.iload_n 1, 1) := by decide +kernel
theorem d_Wh_trim_2 : decode b_Wh_trim 2 = .ok (.putfield 29, 3) := by decide +kernel
theorem d_Wh_trim_5 : decode b_Wh_trim 5 = .ok (.aload_n 0, 1) := by decide +kernel
theorem d_Wh_trim_6 : decode b_Wh_trim 6 = .ok (.getfield 29, 3) := by decide +kernel
theorem d_Wh_trim_9 : decode b_Wh_trim 9 = .ok (.ifCond .le 30, 3) := by decide +kernel
theorem d_Wh_trim_12 : decode b_Wh_trim 12 = .ok (.aload_n 0, 1) := by decide +kernel
theorem d_Wh_trim_13 : decode b_Wh_trim 13 = .ok (.getfield 9, 3) := by decide +kernel
theorem d_Wh_trim_16 : decode b_Wh_trim 16 = .ok (.aload_n 0, 1) := by decide +kernel
theorem d_Wh_trim_17 : decode b_Wh_trim 17 = .ok (.getfield 29, 3) := by decide +kernel
theorem d_Wh_trim_20 : decode b_Wh_trim 20 = .ok (.iconst 1, 1) := by decide +kernel
theorem d_Wh_trim_21 : decode b_Wh_trim 21 = .ok (.isub, 1) := by decide +kernel
theorem d_Wh_trim_22 : decode b_Wh_trim 22 = .ok (.iaload, 1) := by decide +kernel
theorem d_Wh_trim_23 : decode b_Wh_trim 23 = .ok (.ifCond .ne 16, 3) := by decide +kernel
theorem d_Wh_trim_26 : decode b_Wh_trim 26 = .ok (.aload_n 0, 1) := by decide +kernel
theorem d_Wh_trim_27 : decode b_Wh_trim 27 = .ok (.dup, 1) := by decide +kernel
theorem d_Wh_trim_28 : decode b_Wh_trim 28 = .ok (.getfield 29, 3) := by decide +kernel
theorem d_Wh_trim_31 : decode b_Wh_trim 31 = .ok (.iconst 1, 1) := by decide +kernel
theorem d_Wh_trim_32 : decode b_Wh_trim 32 = .ok (.isub, 1) := by decide +kernel
theorem d_Wh_trim_33 : decode b_Wh_trim 33 = .ok (.putfield 29, 3) := by decide +kernel
theorem d_Wh_trim_36 : decode b_Wh_trim 36 = .ok (.goto (-31), 3) := by decide +kernel
theorem d_Wh_trim_39 : decode b_Wh_trim 39 = .ok (.aload_n 0, 1) := by decide +kernel
theorem d_Wh_trim_40 : decode b_Wh_trim 40 = .ok (.aload_n 0, 1) := by decide +kernel
theorem d_Wh_trim_41 : decode b_Wh_trim 41 = .ok (.getfield 15, 3) := by decide +kernel
theorem d_Wh_trim_44 : decode b_Wh_trim 44 = .ok (.ifCond .eq 14, 3) := by decide +kernel
theorem d_Wh_trim_47 : decode b_Wh_trim 47 = .ok (.aload_n 0, 1) := by decide +kernel
theorem d_Wh_trim_48 : decode b_Wh_trim 48 = .ok (.getfield 29, 3) := by decide +kernel
theorem d_Wh_trim_51 : decode b_Wh_trim 51 = .ok (.ifCond .le 7, 3) := by decide +kernel
theorem d_Wh_trim_54 : decode b_Wh_trim 54 = .ok (.iconst 1, 1) := by decide +kernel
theorem d_Wh_trim_55 : decode b_Wh_trim 55 = .ok (.goto 4, 3) := by decide +kernel
theorem d_Wh_trim_58 : decode b_Wh_trim 58 = .ok (.iconst 0, 1) := by decide +kernel
theorem d_Wh_trim_59 : decode b_Wh_trim 59 = .ok (.putfield 15, 3) := by decide +kernel
theorem d_Wh_trim_62 : decode b_Wh_trim 62 = .ok (.return_, 1) := by decide +kernel
/-! Wh_setLong: ('CellHeap$Whole', 'setLong', '(J)V') -/
abbrev b_Wh_setLong : ByteArray := prog_8_method_2_code
abbrev y_Wh_setLong : MethodName := ⟨R_Wh, "setLong", "(J)V"⟩
abbrev K_Wh_setLong := CanV y_Wh_setLong b_Wh_setLong 5 none 1 0 0
theorem I_Wh_setLong {h : HP} {p0 : Nat} {v1 : Int64} {Φ : HP → Prop} (body : ∀ X : CX, Cok X b_Wh_setLong 5 R_Wh none → xR X = rml 1 0 0 → Qok X 0 0 (fun r h2 => r = none ∧ Φ h2) → Wg X 0 0 h [(0, .ref p0), (1, .long v1)] [] 0) : K_Wh_setLong [.ref p0, .long v1] h Φ := Can.intro (by decide) (fun _ => Nat.le_of_ble_eq_true rfl) body
theorem M_Wh_setLong : Mv y_Wh_setLong b_Wh_setLong 5 none 1 0 := ⟨wx_in 445 (by decide +kernel) rfl, wx_in 443 (by decide +kernel) rfl, wx_in 444 (by decide +kernel) rfl, wx_in 70 (by decide +kernel) rfl, by decide +kernel, by decide, by decide, _, _, rfl⟩
theorem d_Wh_setLong_0 : decode b_Wh_setLong 0 = .ok (.aload_n 0, 1) := by decide +kernel
theorem d_Wh_setLong_1 : decode b_Wh_setLong 1 = .ok (.lload_n 1, 1) := by decide +kernel
theorem d_Wh_setLong_2 : decode b_Wh_setLong 2 = .ok (.lconst 0, 1) := by decide +kernel
theorem d_Wh_setLong_3 : decode b_Wh_setLong 3 = .ok (.lcmp, 1) := by decide +kernel
theorem d_Wh_setLong_4 : decode b_Wh_setLong 4 = .ok (.ifCond .ge 7, 3) := by decide +kernel
theorem d_Wh_setLong_7 : decode b_Wh_setLong 7 = .ok (.iconst 1, 1) := by decide +kernel
theorem d_Wh_setLong_8 : decode b_Wh_setLong 8 = .ok (.goto 4, 3) := by decide +kernel
theorem d_Wh_setLong_11 : decode b_Wh_setLong 11 = .ok (.iconst 0, 1) := by decide +kernel
theorem d_Wh_setLong_12 : decode b_Wh_setLong 12 = .ok (.putfield 15, 3) := by decide +kernel
theorem d_Wh_setLong_15 : decode b_Wh_setLong 15 = .ok (.aload_n 0, 1) := by decide +kernel
theorem d_Wh_setLong_16 : decode b_Wh_setLong 16 = .ok (.getfield 15, 3) := by decide +kernel
theorem d_Wh_setLong_19 : decode b_Wh_setLong 19 = .ok (.ifCond .eq 8, 3) := by decide +kernel
theorem d_Wh_setLong_22 : decode b_Wh_setLong 22 = .ok (.lload_n 1, 1) := by decide +kernel
theorem d_Wh_setLong_23 : decode b_Wh_setLong 23 = .ok (.lneg, 1) := by decide +kernel
theorem d_Wh_setLong_24 : decode b_Wh_setLong 24 = .ok (.goto 4, 3) := by decide +kernel
theorem d_Wh_setLong_27 : decode b_Wh_setLong 27 = .ok (.lload_n 1, 1) := by decide +kernel
theorem d_Wh_setLong_28 : decode b_Wh_setLong 28 = .ok (.lstore_n 3, 1) := by decide +kernel
theorem d_Wh_setLong_29 : decode b_Wh_setLong 29 = .ok (.aload_n 0, 1) := by decide +kernel
theorem d_Wh_setLong_30 : decode b_Wh_setLong 30 = .ok (.getfield 9, 3) := by decide +kernel
theorem d_Wh_setLong_33 : decode b_Wh_setLong 33 = .ok (.iconst 0, 1) := by decide +kernel
theorem d_Wh_setLong_34 : decode b_Wh_setLong 34 = .ok (.lload_n 3, 1) := by decide +kernel
theorem d_Wh_setLong_35 : decode b_Wh_setLong 35 = .ok (.l2i, 1) := by decide +kernel
theorem d_Wh_setLong_36 : decode b_Wh_setLong 36 = .ok (.iastore, 1) := by decide +kernel
theorem d_Wh_setLong_37 : decode b_Wh_setLong 37 = .ok (.aload_n 0, 1) := by decide +kernel
theorem d_Wh_setLong_38 : decode b_Wh_setLong 38 = .ok (.getfield 9, 3) := by decide +kernel
theorem d_Wh_setLong_41 : decode b_Wh_setLong 41 = .ok (.iconst 1, 1) := by decide +kernel
theorem d_Wh_setLong_42 : decode b_Wh_setLong 42 = .ok (.lload_n 3, 1) := by decide +kernel
theorem d_Wh_setLong_43 : decode b_Wh_setLong 43 = .ok (.bipush 32, 2) := by decide +kernel
theorem d_Wh_setLong_45 : decode b_Wh_setLong 45 = .ok (.lushr, 1) := by decide +kernel
theorem d_Wh_setLong_46 : decode b_Wh_setLong 46 = .ok (.l2i, 1) := by decide +kernel
theorem d_Wh_setLong_47 : decode b_Wh_setLong 47 = .ok (.iastore, 1) := by decide +kernel
theorem d_Wh_setLong_48 : decode b_Wh_setLong 48 = .ok (.aload_n 0, 1) := by decide +kernel
theorem d_Wh_setLong_49 : decode b_Wh_setLong 49 = .ok (.iconst 2, 1) := by decide +kernel
theorem d_Wh_setLong_50 : decode b_Wh_setLong 50 = .ok (.invokevirtual 19, 3) := by decide +kernel
theorem d_Wh_setLong_53 : decode b_Wh_setLong 53 = .ok (.return_, 1) := by decide +kernel
/-! Wh_setWords: ('CellHeap$Whole', 'setWords', '([III)V') -/
abbrev b_Wh_setWords : ByteArray := prog_8_method_3_code
abbrev y_Wh_setWords : MethodName := ⟨R_Wh, "setWords", "([III)V"⟩
abbrev K_Wh_setWords := CanV y_Wh_setWords b_Wh_setWords 4 none 2 0 0
theorem I_Wh_setWords {h : HP} {p0 : Nat} {p1 : Nat} {n1 : Nat} {v2 : Int32} {v3 : Int32} {Φ : HP → Prop} (body : ∀ X : CX, Cok X b_Wh_setWords 4 R_Wh none → xR X = rml 2 0 0 → Qok X 0 0 (fun r h2 => r = none ∧ Φ h2) → Wg X 0 0 h [(0, .ref p0), (1, .ref p1), (2, .int v2), (3, .int v3)] [] 0) : K_Wh_setWords [.ref p0, .ref p1, .int v2, .int v3] h Φ := Can.intro (by decide) (fun _ => Nat.le_of_ble_eq_true rfl) body
theorem M_Wh_setWords : Mv y_Wh_setWords b_Wh_setWords 4 none 3 0 := ⟨wx_in 569 (by decide +kernel) rfl, wx_in 567 (by decide +kernel) rfl, wx_in 568 (by decide +kernel) rfl, wx_in 70 (by decide +kernel) rfl, by decide +kernel, by decide, by decide, _, _, rfl⟩
theorem d_Wh_setWords_0 : decode b_Wh_setWords 0 = .ok (.aload_n 1, 1) := by decide +kernel
theorem d_Wh_setWords_1 : decode b_Wh_setWords 1 = .ok (.iload_n 2, 1) := by decide +kernel
theorem d_Wh_setWords_2 : decode b_Wh_setWords 2 = .ok (.aload_n 0, 1) := by decide +kernel
theorem d_Wh_setWords_3 : decode b_Wh_setWords 3 = .ok (.getfield 9, 3) := by decide +kernel
theorem d_Wh_setWords_6 : decode b_Wh_setWords 6 = .ok (.iconst 0, 1) := by decide +kernel
theorem d_Wh_setWords_7 : decode b_Wh_setWords 7 = .ok (.iload_n 3, 1) := by decide +kernel
theorem d_Wh_setWords_8 : decode b_Wh_setWords 8 = .ok (.invokestatic 23, 3) := by decide +kernel
theorem d_Wh_setWords_11 : decode b_Wh_setWords 11 = .ok (.aload_n 0, 1) := by decide +kernel
theorem d_Wh_setWords_12 : decode b_Wh_setWords 12 = .ok (.iload_n 3, 1) := by decide +kernel
theorem d_Wh_setWords_13 : decode b_Wh_setWords 13 = .ok (.putfield 29, 3) := by decide +kernel
theorem d_Wh_setWords_16 : decode b_Wh_setWords 16 = .ok (.aload_n 0, 1) := by decide +kernel
theorem d_Wh_setWords_17 : decode b_Wh_setWords 17 = .ok (.iconst 0, 1) := by decide +kernel
theorem d_Wh_setWords_18 : decode b_Wh_setWords 18 = .ok (.putfield 15, 3) := by decide +kernel
theorem d_Wh_setWords_21 : decode b_Wh_setWords 21 = .ok (.return_, 1) := by decide +kernel
/-! Wh_setTo: ('CellHeap$Whole', 'setTo', '(LCellHeap$Whole;)V') -/
abbrev b_Wh_setTo : ByteArray := prog_8_method_4_code
abbrev y_Wh_setTo : MethodName := ⟨R_Wh, "setTo", "(LCellHeap$Whole;)V"⟩
abbrev K_Wh_setTo := CanV y_Wh_setTo b_Wh_setTo 2 none 3 0 0
theorem I_Wh_setTo {h : HP} {p0 : Nat} {p1 : Nat} {Φ : HP → Prop} (body : ∀ X : CX, Cok X b_Wh_setTo 2 R_Wh none → xR X = rml 3 0 0 → Qok X 0 0 (fun r h2 => r = none ∧ Φ h2) → Wg X 0 0 h [(0, .ref p0), (1, .ref p1)] [] 0) : K_Wh_setTo [.ref p0, .ref p1] h Φ := Can.intro (by decide) (fun _ => Nat.le_of_ble_eq_true rfl) body
theorem M_Wh_setTo : Mv y_Wh_setTo b_Wh_setTo 2 none 1 0 := ⟨wx_in 588 (by decide +kernel) rfl, wx_in 586 (by decide +kernel) rfl, wx_in 587 (by decide +kernel) rfl, wx_in 70 (by decide +kernel) rfl, by decide +kernel, by decide, by decide, _, _, rfl⟩
theorem d_Wh_setTo_0 : decode b_Wh_setTo 0 = .ok (.aload_n 0, 1) := by decide +kernel
theorem d_Wh_setTo_1 : decode b_Wh_setTo 1 = .ok (.aload_n 1, 1) := by decide +kernel
theorem d_Wh_setTo_2 : decode b_Wh_setTo 2 = .ok (.getfield 9, 3) := by decide +kernel
theorem d_Wh_setTo_5 : decode b_Wh_setTo 5 = .ok (.iconst 0, 1) := by decide +kernel
theorem d_Wh_setTo_6 : decode b_Wh_setTo 6 = .ok (.aload_n 1, 1) := by decide +kernel
theorem d_Wh_setTo_7 : decode b_Wh_setTo 7 = .ok (.getfield 29, 3) := by decide +kernel
theorem d_Wh_setTo_10 : decode b_Wh_setTo 10 = .ok (.invokevirtual 33, 3) := by decide +kernel
theorem d_Wh_setTo_13 : decode b_Wh_setTo 13 = .ok (.aload_n 0, 1) := by decide +kernel
theorem d_Wh_setTo_14 : decode b_Wh_setTo 14 = .ok (.aload_n 1, 1) := by decide +kernel
theorem d_Wh_setTo_15 : decode b_Wh_setTo 15 = .ok (.getfield 15, 3) := by decide +kernel
theorem d_Wh_setTo_18 : decode b_Wh_setTo 18 = .ok (.putfield 15, 3) := by decide +kernel
theorem d_Wh_setTo_21 : decode b_Wh_setTo 21 = .ok (.return_, 1) := by decide +kernel
/-! Wh_isZero: ('CellHeap$Whole', 'isZero', '()Z') -/
abbrev b_Wh_isZero : ByteArray := prog_8_method_6_code
abbrev y_Wh_isZero : MethodName := ⟨R_Wh, "isZero", "()Z"⟩
abbrev K_Wh_isZero := CanI y_Wh_isZero b_Wh_isZero 1 ((some .boolean)) 0 0 0
theorem I_Wh_isZero {h : HP} {p0 : Nat} {Φ : Int32 → HP → Prop} (body : ∀ X : CX, Cok X b_Wh_isZero 1 R_Wh ((some .boolean)) → xR X = rml 0 0 0 → Qok X 0 0 (fun r h2 => ∃ v, r = some (.int v) ∧ Φ v h2) → Wg X 0 0 h [(0, .ref p0)] [] 0) : K_Wh_isZero [.ref p0] h Φ := Can.intro (by decide) (fun _ => Nat.le_of_ble_eq_true rfl) body
theorem M_Wh_isZero : Mv y_Wh_isZero b_Wh_isZero 1 ((some .boolean)) 0 0 := ⟨wx_in 575 (by decide +kernel) rfl, wx_in 573 (by decide +kernel) rfl, wx_in 574 (by decide +kernel) rfl, wx_in 70 (by decide +kernel) rfl, by decide +kernel, by decide, by decide, _, _, rfl⟩
theorem d_Wh_isZero_0 : decode b_Wh_isZero 0 = .ok (.aload_n 0, 1) := by decide +kernel
theorem d_Wh_isZero_1 : decode b_Wh_isZero 1 = .ok (.getfield 29, 3) := by decide +kernel
theorem d_Wh_isZero_4 : decode b_Wh_isZero 4 = .ok (.ifCond .ne 7, 3) := by decide +kernel
theorem d_Wh_isZero_7 : decode b_Wh_isZero 7 = .ok (.iconst 1, 1) := by decide +kernel
theorem d_Wh_isZero_8 : decode b_Wh_isZero 8 = .ok (.goto 4, 3) := by decide +kernel
theorem d_Wh_isZero_11 : decode b_Wh_isZero 11 = .ok (.iconst 0, 1) := by decide +kernel
theorem d_Wh_isZero_12 : decode b_Wh_isZero 12 = .ok (.ireturn, 1) := by decide +kernel
/-! Wh_isOne: ('CellHeap$Whole', 'isOne', '()Z') -/
abbrev b_Wh_isOne : ByteArray := prog_8_method_7_code
abbrev y_Wh_isOne : MethodName := ⟨R_Wh, "isOne", "()Z"⟩
abbrev K_Wh_isOne := CanI y_Wh_isOne b_Wh_isOne 1 ((some .boolean)) 0 0 0
theorem I_Wh_isOne {h : HP} {p0 : Nat} {Φ : Int32 → HP → Prop} (body : ∀ X : CX, Cok X b_Wh_isOne 1 R_Wh ((some .boolean)) → xR X = rml 0 0 0 → Qok X 0 0 (fun r h2 => ∃ v, r = some (.int v) ∧ Φ v h2) → Wg X 0 0 h [(0, .ref p0)] [] 0) : K_Wh_isOne [.ref p0] h Φ := Can.intro (by decide) (fun _ => Nat.le_of_ble_eq_true rfl) body
theorem M_Wh_isOne : Mv y_Wh_isOne b_Wh_isOne 1 ((some .boolean)) 0 0 := ⟨wx_in 477 (by decide +kernel) rfl, wx_in 475 (by decide +kernel) rfl, wx_in 476 (by decide +kernel) rfl, wx_in 70 (by decide +kernel) rfl, by decide +kernel, by decide, by decide, _, _, rfl⟩
theorem d_Wh_isOne_0 : decode b_Wh_isOne 0 = .ok (.aload_n 0, 1) := by decide +kernel
theorem d_Wh_isOne_1 : decode b_Wh_isOne 1 = .ok (.getfield 29, 3) := by decide +kernel
theorem d_Wh_isOne_4 : decode b_Wh_isOne 4 = .ok (.iconst 1, 1) := by decide +kernel
theorem d_Wh_isOne_5 : decode b_Wh_isOne 5 = .ok (.if_icmp .ne 24, 3) := by decide +kernel
theorem d_Wh_isOne_8 : decode b_Wh_isOne 8 = .ok (.aload_n 0, 1) := by decide +kernel
theorem d_Wh_isOne_9 : decode b_Wh_isOne 9 = .ok (.getfield 9, 3) := by decide +kernel
theorem d_Wh_isOne_12 : decode b_Wh_isOne 12 = .ok (.iconst 0, 1) := by decide +kernel
theorem d_Wh_isOne_13 : decode b_Wh_isOne 13 = .ok (.iaload, 1) := by decide +kernel
theorem d_Wh_isOne_14 : decode b_Wh_isOne 14 = .ok (.iconst 1, 1) := by decide +kernel
theorem d_Wh_isOne_15 : decode b_Wh_isOne 15 = .ok (.if_icmp .ne 14, 3) := by decide +kernel
theorem d_Wh_isOne_18 : decode b_Wh_isOne 18 = .ok (.aload_n 0, 1) := by decide +kernel
theorem d_Wh_isOne_19 : decode b_Wh_isOne 19 = .ok (.getfield 15, 3) := by decide +kernel
theorem d_Wh_isOne_22 : decode b_Wh_isOne 22 = .ok (.ifCond .ne 7, 3) := by decide +kernel
theorem d_Wh_isOne_25 : decode b_Wh_isOne 25 = .ok (.iconst 1, 1) := by decide +kernel
theorem d_Wh_isOne_26 : decode b_Wh_isOne 26 = .ok (.goto 4, 3) := by decide +kernel
theorem d_Wh_isOne_29 : decode b_Wh_isOne 29 = .ok (.iconst 0, 1) := by decide +kernel
theorem d_Wh_isOne_30 : decode b_Wh_isOne 30 = .ok (.ireturn, 1) := by decide +kernel
/-! Wh_isFixed: ('CellHeap$Whole', 'isFixed', '()Z') -/
abbrev b_Wh_isFixed : ByteArray := prog_8_method_8_code
abbrev y_Wh_isFixed : MethodName := ⟨R_Wh, "isFixed", "()Z"⟩
abbrev K_Wh_isFixed := CanI y_Wh_isFixed b_Wh_isFixed 2 ((some .boolean)) 0 0 0
theorem I_Wh_isFixed {h : HP} {p0 : Nat} {Φ : Int32 → HP → Prop} (body : ∀ X : CX, Cok X b_Wh_isFixed 2 R_Wh ((some .boolean)) → xR X = rml 0 0 0 → Qok X 0 0 (fun r h2 => ∃ v, r = some (.int v) ∧ Φ v h2) → Wg X 0 0 h [(0, .ref p0)] [] 0) : K_Wh_isFixed [.ref p0] h Φ := Can.intro (by decide) (fun _ => Nat.le_of_ble_eq_true rfl) body
theorem M_Wh_isFixed : Mv y_Wh_isFixed b_Wh_isFixed 2 ((some .boolean)) 0 0 := ⟨wx_in 467 (by decide +kernel) rfl, wx_in 465 (by decide +kernel) rfl, wx_in 466 (by decide +kernel) rfl, wx_in 70 (by decide +kernel) rfl, by decide +kernel, by decide, by decide, _, _, rfl⟩
theorem d_Wh_isFixed_0 : decode b_Wh_isFixed 0 = .ok (.aload_n 0, 1) := by decide +kernel
theorem d_Wh_isFixed_1 : decode b_Wh_isFixed 1 = .ok (.getfield 29, 3) := by decide +kernel
theorem d_Wh_isFixed_4 : decode b_Wh_isFixed 4 = .ok (.ifCond .ne 5, 3) := by decide +kernel
theorem d_Wh_isFixed_7 : decode b_Wh_isFixed 7 = .ok (.iconst 1, 1) := by decide +kernel
theorem d_Wh_isFixed_8 : decode b_Wh_isFixed 8 = .ok (.ireturn, 1) := by decide +kernel
theorem d_Wh_isFixed_9 : decode b_Wh_isFixed 9 = .ok (.aload_n 0, 1) := by decide +kernel
theorem d_Wh_isFixed_10 : decode b_Wh_isFixed 10 = .ok (.getfield 15, 3) := by decide +kernel
theorem d_Wh_isFixed_13 : decode b_Wh_isFixed 13 = .ok (.ifCond .eq 8, 3) := by decide +kernel
theorem d_Wh_isFixed_16 : decode b_Wh_isFixed 16 = .ok (.ldc 37, 2) := by decide +kernel
theorem d_Wh_isFixed_18 : decode b_Wh_isFixed 18 = .ok (.goto 5, 3) := by decide +kernel
theorem d_Wh_isFixed_21 : decode b_Wh_isFixed 21 = .ok (.ldc 38, 2) := by decide +kernel
theorem d_Wh_isFixed_23 : decode b_Wh_isFixed 23 = .ok (.istore_n 1, 1) := by decide +kernel
theorem d_Wh_isFixed_24 : decode b_Wh_isFixed 24 = .ok (.aload_n 0, 1) := by decide +kernel
theorem d_Wh_isFixed_25 : decode b_Wh_isFixed 25 = .ok (.getfield 29, 3) := by decide +kernel
theorem d_Wh_isFixed_28 : decode b_Wh_isFixed 28 = .ok (.iconst 1, 1) := by decide +kernel
theorem d_Wh_isFixed_29 : decode b_Wh_isFixed 29 = .ok (.if_icmp .ne 26, 3) := by decide +kernel
theorem d_Wh_isFixed_32 : decode b_Wh_isFixed 32 = .ok (.aload_n 0, 1) := by decide +kernel
theorem d_Wh_isFixed_33 : decode b_Wh_isFixed 33 = .ok (.getfield 9, 3) := by decide +kernel
theorem d_Wh_isFixed_36 : decode b_Wh_isFixed 36 = .ok (.iconst 0, 1) := by decide +kernel
theorem d_Wh_isFixed_37 : decode b_Wh_isFixed 37 = .ok (.iaload, 1) := by decide +kernel
theorem d_Wh_isFixed_38 : decode b_Wh_isFixed 38 = .ok (.ifCond .le 17, 3) := by decide +kernel
theorem d_Wh_isFixed_41 : decode b_Wh_isFixed 41 = .ok (.aload_n 0, 1) := by decide +kernel
theorem d_Wh_isFixed_42 : decode b_Wh_isFixed 42 = .ok (.getfield 9, 3) := by decide +kernel
theorem d_Wh_isFixed_45 : decode b_Wh_isFixed 45 = .ok (.iconst 0, 1) := by decide +kernel
theorem d_Wh_isFixed_46 : decode b_Wh_isFixed 46 = .ok (.iaload, 1) := by decide +kernel
theorem d_Wh_isFixed_47 : decode b_Wh_isFixed 47 = .ok (.iload_n 1, 1) := by decide +kernel
theorem d_Wh_isFixed_48 : decode b_Wh_isFixed 48 = .ok (.if_icmp .gt 7, 3) := by decide +kernel
theorem d_Wh_isFixed_51 : decode b_Wh_isFixed 51 = .ok (.iconst 1, 1) := by decide +kernel
theorem d_Wh_isFixed_52 : decode b_Wh_isFixed 52 = .ok (.goto 4, 3) := by decide +kernel
theorem d_Wh_isFixed_55 : decode b_Wh_isFixed 55 = .ok (.iconst 0, 1) := by decide +kernel
theorem d_Wh_isFixed_56 : decode b_Wh_isFixed 56 = .ok (.ireturn, 1) := by decide +kernel
/-! Wh_asFixed: ('CellHeap$Whole', 'asFixed', '()I') -/
abbrev b_Wh_asFixed : ByteArray := prog_8_method_9_code
abbrev y_Wh_asFixed : MethodName := ⟨R_Wh, "asFixed", "()I"⟩
abbrev K_Wh_asFixed := CanI y_Wh_asFixed b_Wh_asFixed 1 ((some .int)) 0 0 0
theorem I_Wh_asFixed {h : HP} {p0 : Nat} {Φ : Int32 → HP → Prop} (body : ∀ X : CX, Cok X b_Wh_asFixed 1 R_Wh ((some .int)) → xR X = rml 0 0 0 → Qok X 0 0 (fun r h2 => ∃ v, r = some (.int v) ∧ Φ v h2) → Wg X 0 0 h [(0, .ref p0)] [] 0) : K_Wh_asFixed [.ref p0] h Φ := Can.intro (by decide) (fun _ => Nat.le_of_ble_eq_true rfl) body
theorem M_Wh_asFixed : Mv y_Wh_asFixed b_Wh_asFixed 1 ((some .int)) 0 0 := ⟨wx_in 494 (by decide +kernel) rfl, wx_in 492 (by decide +kernel) rfl, wx_in 493 (by decide +kernel) rfl, wx_in 70 (by decide +kernel) rfl, by decide +kernel, by decide, by decide, _, _, rfl⟩
theorem d_Wh_asFixed_0 : decode b_Wh_asFixed 0 = .ok (.aload_n 0, 1) := by decide +kernel
theorem d_Wh_asFixed_1 : decode b_Wh_asFixed 1 = .ok (.getfield 29, 3) := by decide +kernel
theorem d_Wh_asFixed_4 : decode b_Wh_asFixed 4 = .ok (.ifCond .ne 5, 3) := by decide +kernel
theorem d_Wh_asFixed_7 : decode b_Wh_asFixed 7 = .ok (.iconst 0, 1) := by decide +kernel
theorem d_Wh_asFixed_8 : decode b_Wh_asFixed 8 = .ok (.ireturn, 1) := by decide +kernel
theorem d_Wh_asFixed_9 : decode b_Wh_asFixed 9 = .ok (.aload_n 0, 1) := by decide +kernel
theorem d_Wh_asFixed_10 : decode b_Wh_asFixed 10 = .ok (.getfield 15, 3) := by decide +kernel
theorem d_Wh_asFixed_13 : decode b_Wh_asFixed 13 = .ok (.ifCond .eq 13, 3) := by decide +kernel
theorem d_Wh_asFixed_16 : decode b_Wh_asFixed 16 = .ok (.aload_n 0, 1) := by decide +kernel
theorem d_Wh_asFixed_17 : decode b_Wh_asFixed 17 = .ok (.getfield 9, 3) := by decide +kernel
theorem d_Wh_asFixed_20 : decode b_Wh_asFixed 20 = .ok (.iconst 0, 1) := by decide +kernel
theorem d_Wh_asFixed_21 : decode b_Wh_asFixed 21 = .ok (.iaload, 1) := by decide +kernel
theorem d_Wh_asFixed_22 : decode b_Wh_asFixed 22 = .ok (.ineg, 1) := by decide +kernel
theorem d_Wh_asFixed_23 : decode b_Wh_asFixed 23 = .ok (.goto 9, 3) := by decide +kernel
theorem d_Wh_asFixed_26 : decode b_Wh_asFixed 26 = .ok (.aload_n 0, 1) := by decide +kernel
theorem d_Wh_asFixed_27 : decode b_Wh_asFixed 27 = .ok (.getfield 9, 3) := by decide +kernel
theorem d_Wh_asFixed_30 : decode b_Wh_asFixed 30 = .ok (.iconst 0, 1) := by decide +kernel
theorem d_Wh_asFixed_31 : decode b_Wh_asFixed 31 = .ok (.iaload, 1) := by decide +kernel
theorem d_Wh_asFixed_32 : decode b_Wh_asFixed 32 = .ok (.ireturn, 1) := by decide +kernel
/-! Wh_wordAt: ('CellHeap$Whole', 'wordAt', '(I)J') -/
abbrev b_Wh_wordAt : ByteArray := prog_8_method_10_code
abbrev y_Wh_wordAt : MethodName := ⟨R_Wh, "wordAt", "(I)J"⟩
abbrev K_Wh_wordAt := CanL y_Wh_wordAt b_Wh_wordAt 2 ((some .long)) 0 0 0
theorem I_Wh_wordAt {h : HP} {p0 : Nat} {v1 : Int32} {Φ : Int64 → HP → Prop} (body : ∀ X : CX, Cok X b_Wh_wordAt 2 R_Wh ((some .long)) → xR X = rml 0 0 0 → Qok X 0 0 (fun r h2 => ∃ v, r = some (.long v) ∧ Φ v h2) → Wg X 0 0 h [(0, .ref p0), (1, .int v1)] [] 0) : K_Wh_wordAt [.ref p0, .int v1] h Φ := Can.intro (by decide) (fun _ => Nat.le_of_ble_eq_true rfl) body
theorem M_Wh_wordAt : Mv y_Wh_wordAt b_Wh_wordAt 2 ((some .long)) 1 0 := ⟨wx_in 599 (by decide +kernel) rfl, wx_in 597 (by decide +kernel) rfl, wx_in 598 (by decide +kernel) rfl, wx_in 70 (by decide +kernel) rfl, by decide +kernel, by decide, by decide, _, _, rfl⟩
theorem d_Wh_wordAt_0 : decode b_Wh_wordAt 0 = .ok (.iload_n 1, 1) := by decide +kernel
theorem d_Wh_wordAt_1 : decode b_Wh_wordAt 1 = .ok (.aload_n 0, 1) := by decide +kernel
theorem d_Wh_wordAt_2 : decode b_Wh_wordAt 2 = .ok (.getfield 29, 3) := by decide +kernel
theorem d_Wh_wordAt_5 : decode b_Wh_wordAt 5 = .ok (.if_icmp .ge 17, 3) := by decide +kernel
theorem d_Wh_wordAt_8 : decode b_Wh_wordAt 8 = .ok (.aload_n 0, 1) := by decide +kernel
theorem d_Wh_wordAt_9 : decode b_Wh_wordAt 9 = .ok (.getfield 9, 3) := by decide +kernel
theorem d_Wh_wordAt_12 : decode b_Wh_wordAt 12 = .ok (.iload_n 1, 1) := by decide +kernel
theorem d_Wh_wordAt_13 : decode b_Wh_wordAt 13 = .ok (.iaload, 1) := by decide +kernel
theorem d_Wh_wordAt_14 : decode b_Wh_wordAt 14 = .ok (.i2l, 1) := by decide +kernel
theorem d_Wh_wordAt_15 : decode b_Wh_wordAt 15 = .ok (.ldc2_w 39, 3) := by decide +kernel
theorem d_Wh_wordAt_18 : decode b_Wh_wordAt 18 = .ok (.land, 1) := by decide +kernel
theorem d_Wh_wordAt_19 : decode b_Wh_wordAt 19 = .ok (.goto 4, 3) := by decide +kernel
theorem d_Wh_wordAt_22 : decode b_Wh_wordAt 22 = .ok (.lconst 0, 1) := by decide +kernel
theorem d_Wh_wordAt_23 : decode b_Wh_wordAt 23 = .ok (.lreturn, 1) := by decide +kernel
/-! Wh_flipSign: ('CellHeap$Whole', 'flipSign', '()V') -/
abbrev b_Wh_flipSign : ByteArray := prog_8_method_11_code
abbrev y_Wh_flipSign : MethodName := ⟨R_Wh, "flipSign", "()V"⟩
abbrev K_Wh_flipSign := CanV y_Wh_flipSign b_Wh_flipSign 1 none 0 0 0
theorem I_Wh_flipSign {h : HP} {p0 : Nat} {Φ : HP → Prop} (body : ∀ X : CX, Cok X b_Wh_flipSign 1 R_Wh none → xR X = rml 0 0 0 → Qok X 0 0 (fun r h2 => r = none ∧ Φ h2) → Wg X 0 0 h [(0, .ref p0)] [] 0) : K_Wh_flipSign [.ref p0] h Φ := Can.intro (by decide) (fun _ => Nat.le_of_ble_eq_true rfl) body
theorem M_Wh_flipSign : Mv y_Wh_flipSign b_Wh_flipSign 1 none 0 0 := ⟨wx_in 912 (by decide +kernel) rfl, wx_in 910 (by decide +kernel) rfl, wx_in 911 (by decide +kernel) rfl, wx_in 70 (by decide +kernel) rfl, by decide +kernel, by decide, by decide, _, _, rfl⟩
theorem d_Wh_flipSign_0 : decode b_Wh_flipSign 0 = .ok (.aload_n 0, 1) := by decide +kernel
theorem d_Wh_flipSign_1 : decode b_Wh_flipSign 1 = .ok (.aload_n 0, 1) := by decide +kernel
theorem d_Wh_flipSign_2 : decode b_Wh_flipSign 2 = .ok (.getfield 15, 3) := by decide +kernel
theorem d_Wh_flipSign_5 : decode b_Wh_flipSign 5 = .ok (.ifCond .ne 14, 3) := by decide +kernel
theorem d_Wh_flipSign_8 : decode b_Wh_flipSign 8 = .ok (.aload_n 0, 1) := by decide +kernel
theorem d_Wh_flipSign_9 : decode b_Wh_flipSign 9 = .ok (.getfield 29, 3) := by decide +kernel
theorem d_Wh_flipSign_12 : decode b_Wh_flipSign 12 = .ok (.ifCond .le 7, 3) := by decide +kernel
theorem d_Wh_flipSign_15 : decode b_Wh_flipSign 15 = .ok (.iconst 1, 1) := by decide +kernel
theorem d_Wh_flipSign_16 : decode b_Wh_flipSign 16 = .ok (.goto 4, 3) := by decide +kernel
theorem d_Wh_flipSign_19 : decode b_Wh_flipSign 19 = .ok (.iconst 0, 1) := by decide +kernel
theorem d_Wh_flipSign_20 : decode b_Wh_flipSign 20 = .ok (.putfield 15, 3) := by decide +kernel
theorem d_Wh_flipSign_23 : decode b_Wh_flipSign 23 = .ok (.return_, 1) := by decide +kernel
/-! Wh_orderOfSizes: ('CellHeap$Whole', 'orderOfSizes', '(LCellHeap$Whole;)I') -/
abbrev b_Wh_orderOfSizes : ByteArray := prog_8_method_12_code
abbrev y_Wh_orderOfSizes : MethodName := ⟨R_Wh, "orderOfSizes", "(LCellHeap$Whole;)I"⟩
abbrev K_Wh_orderOfSizes := CanI y_Wh_orderOfSizes b_Wh_orderOfSizes 3 ((some .int)) 1 0 0
theorem I_Wh_orderOfSizes {h : HP} {p0 : Nat} {p1 : Nat} {Φ : Int32 → HP → Prop} (body : ∀ X : CX, Cok X b_Wh_orderOfSizes 3 R_Wh ((some .int)) → xR X = rml 1 0 0 → Qok X 0 0 (fun r h2 => ∃ v, r = some (.int v) ∧ Φ v h2) → Wg X 0 0 h [(0, .ref p0), (1, .ref p1)] [] 0) : K_Wh_orderOfSizes [.ref p0, .ref p1] h Φ := Can.intro (by decide) (fun _ => Nat.le_of_ble_eq_true rfl) body
theorem M_Wh_orderOfSizes : Mv y_Wh_orderOfSizes b_Wh_orderOfSizes 3 ((some .int)) 1 0 := ⟨wx_in 613 (by decide +kernel) rfl, wx_in 611 (by decide +kernel) rfl, wx_in 612 (by decide +kernel) rfl, wx_in 70 (by decide +kernel) rfl, by decide +kernel, by decide, by decide, _, _, rfl⟩
theorem d_Wh_orderOfSizes_0 : decode b_Wh_orderOfSizes 0 = .ok (.aload_n 0, 1) := by decide +kernel
theorem d_Wh_orderOfSizes_1 : decode b_Wh_orderOfSizes 1 = .ok (.getfield 29, 3) := by decide +kernel
theorem d_Wh_orderOfSizes_4 : decode b_Wh_orderOfSizes 4 = .ok (.aload_n 1, 1) := by decide +kernel
theorem d_Wh_orderOfSizes_5 : decode b_Wh_orderOfSizes 5 = .ok (.getfield 29, 3) := by decide +kernel
theorem d_Wh_orderOfSizes_8 : decode b_Wh_orderOfSizes 8 = .ok (.if_icmp .eq 20, 3) := by decide +kernel
theorem d_Wh_orderOfSizes_11 : decode b_Wh_orderOfSizes 11 = .ok (.aload_n 0, 1) := by decide +kernel
theorem d_Wh_orderOfSizes_12 : decode b_Wh_orderOfSizes 12 = .ok (.getfield 29, 3) := by decide +kernel
theorem d_Wh_orderOfSizes_15 : decode b_Wh_orderOfSizes 15 = .ok (.aload_n 1, 1) := by decide +kernel
theorem d_Wh_orderOfSizes_16 : decode b_Wh_orderOfSizes 16 = .ok (.getfield 29, 3) := by decide +kernel
theorem d_Wh_orderOfSizes_19 : decode b_Wh_orderOfSizes 19 = .ok (.if_icmp .ge 7, 3) := by decide +kernel
theorem d_Wh_orderOfSizes_22 : decode b_Wh_orderOfSizes 22 = .ok (.iconst (-1), 1) := by decide +kernel
theorem d_Wh_orderOfSizes_23 : decode b_Wh_orderOfSizes 23 = .ok (.goto 4, 3) := by decide +kernel
theorem d_Wh_orderOfSizes_26 : decode b_Wh_orderOfSizes 26 = .ok (.iconst 1, 1) := by decide +kernel
theorem d_Wh_orderOfSizes_27 : decode b_Wh_orderOfSizes 27 = .ok (.ireturn, 1) := by decide +kernel
theorem d_Wh_orderOfSizes_28 : decode b_Wh_orderOfSizes 28 = .ok (.aload_n 0, 1) := by decide +kernel
theorem d_Wh_orderOfSizes_29 : decode b_Wh_orderOfSizes 29 = .ok (.getfield 29, 3) := by decide +kernel
theorem d_Wh_orderOfSizes_32 : decode b_Wh_orderOfSizes 32 = .ok (.iconst 1, 1) := by decide +kernel
theorem d_Wh_orderOfSizes_33 : decode b_Wh_orderOfSizes 33 = .ok (.isub, 1) := by decide +kernel
theorem d_Wh_orderOfSizes_34 : decode b_Wh_orderOfSizes 34 = .ok (.istore_n 2, 1) := by decide +kernel
theorem d_Wh_orderOfSizes_35 : decode b_Wh_orderOfSizes 35 = .ok (.iload_n 2, 1) := by decide +kernel
theorem d_Wh_orderOfSizes_36 : decode b_Wh_orderOfSizes 36 = .ok (.ifCond .lt 44, 3) := by decide +kernel
theorem d_Wh_orderOfSizes_39 : decode b_Wh_orderOfSizes 39 = .ok (.aload_n 0, 1) := by decide +kernel
theorem d_Wh_orderOfSizes_40 : decode b_Wh_orderOfSizes 40 = .ok (.getfield 9, 3) := by decide +kernel
theorem d_Wh_orderOfSizes_43 : decode b_Wh_orderOfSizes 43 = .ok (.iload_n 2, 1) := by decide +kernel
theorem d_Wh_orderOfSizes_44 : decode b_Wh_orderOfSizes 44 = .ok (.iaload, 1) := by decide +kernel
theorem d_Wh_orderOfSizes_45 : decode b_Wh_orderOfSizes 45 = .ok (.aload_n 1, 1) := by decide +kernel
theorem d_Wh_orderOfSizes_46 : decode b_Wh_orderOfSizes 46 = .ok (.getfield 9, 3) := by decide +kernel
theorem d_Wh_orderOfSizes_49 : decode b_Wh_orderOfSizes 49 = .ok (.iload_n 2, 1) := by decide +kernel
theorem d_Wh_orderOfSizes_50 : decode b_Wh_orderOfSizes 50 = .ok (.iaload, 1) := by decide +kernel
theorem d_Wh_orderOfSizes_51 : decode b_Wh_orderOfSizes 51 = .ok (.if_icmp .eq 23, 3) := by decide +kernel
theorem d_Wh_orderOfSizes_54 : decode b_Wh_orderOfSizes 54 = .ok (.aload_n 0, 1) := by decide +kernel
theorem d_Wh_orderOfSizes_55 : decode b_Wh_orderOfSizes 55 = .ok (.iload_n 2, 1) := by decide +kernel
theorem d_Wh_orderOfSizes_56 : decode b_Wh_orderOfSizes 56 = .ok (.invokevirtual 41, 3) := by decide +kernel
theorem d_Wh_orderOfSizes_59 : decode b_Wh_orderOfSizes 59 = .ok (.aload_n 1, 1) := by decide +kernel
theorem d_Wh_orderOfSizes_60 : decode b_Wh_orderOfSizes 60 = .ok (.iload_n 2, 1) := by decide +kernel
theorem d_Wh_orderOfSizes_61 : decode b_Wh_orderOfSizes 61 = .ok (.invokevirtual 41, 3) := by decide +kernel
theorem d_Wh_orderOfSizes_64 : decode b_Wh_orderOfSizes 64 = .ok (.lcmp, 1) := by decide +kernel
theorem d_Wh_orderOfSizes_65 : decode b_Wh_orderOfSizes 65 = .ok (.ifCond .ge 7, 3) := by decide +kernel
theorem d_Wh_orderOfSizes_68 : decode b_Wh_orderOfSizes 68 = .ok (.iconst (-1), 1) := by decide +kernel
theorem d_Wh_orderOfSizes_69 : decode b_Wh_orderOfSizes 69 = .ok (.goto 4, 3) := by decide +kernel
theorem d_Wh_orderOfSizes_72 : decode b_Wh_orderOfSizes 72 = .ok (.iconst 1, 1) := by decide +kernel
theorem d_Wh_orderOfSizes_73 : decode b_Wh_orderOfSizes 73 = .ok (.ireturn, 1) := by decide +kernel
theorem d_Wh_orderOfSizes_74 : decode b_Wh_orderOfSizes 74 = .ok (.iinc 2 (-1), 3) := by decide +kernel
theorem d_Wh_orderOfSizes_77 : decode b_Wh_orderOfSizes 77 = .ok (.goto (-42), 3) := by decide +kernel
theorem d_Wh_orderOfSizes_80 : decode b_Wh_orderOfSizes 80 = .ok (.iconst 0, 1) := by decide +kernel
theorem d_Wh_orderOfSizes_81 : decode b_Wh_orderOfSizes 81 = .ok (.ireturn, 1) := by decide +kernel
/-! Wh_orderTo: ('CellHeap$Whole', 'orderTo', '(LCellHeap$Whole;)I') -/
abbrev b_Wh_orderTo : ByteArray := prog_8_method_13_code
abbrev y_Wh_orderTo : MethodName := ⟨R_Wh, "orderTo", "(LCellHeap$Whole;)I"⟩
abbrev K_Wh_orderTo := CanI y_Wh_orderTo b_Wh_orderTo 2 ((some .int)) 2 0 0
theorem I_Wh_orderTo {h : HP} {p0 : Nat} {p1 : Nat} {Φ : Int32 → HP → Prop} (body : ∀ X : CX, Cok X b_Wh_orderTo 2 R_Wh ((some .int)) → xR X = rml 2 0 0 → Qok X 0 0 (fun r h2 => ∃ v, r = some (.int v) ∧ Φ v h2) → Wg X 0 0 h [(0, .ref p0), (1, .ref p1)] [] 0) : K_Wh_orderTo [.ref p0, .ref p1] h Φ := Can.intro (by decide) (fun _ => Nat.le_of_ble_eq_true rfl) body
theorem M_Wh_orderTo : Mv y_Wh_orderTo b_Wh_orderTo 2 ((some .int)) 1 0 := ⟨wx_in 946 (by decide +kernel) rfl, wx_in 944 (by decide +kernel) rfl, wx_in 945 (by decide +kernel) rfl, wx_in 70 (by decide +kernel) rfl, by decide +kernel, by decide, by decide, _, _, rfl⟩
theorem d_Wh_orderTo_0 : decode b_Wh_orderTo 0 = .ok (.aload_n 0, 1) := by decide +kernel
theorem d_Wh_orderTo_1 : decode b_Wh_orderTo 1 = .ok (.getfield 15, 3) := by decide +kernel
theorem d_Wh_orderTo_4 : decode b_Wh_orderTo 4 = .ok (.aload_n 1, 1) := by decide +kernel
theorem d_Wh_orderTo_5 : decode b_Wh_orderTo 5 = .ok (.getfield 15, 3) := by decide +kernel
theorem d_Wh_orderTo_8 : decode b_Wh_orderTo 8 = .ok (.if_icmp .eq 16, 3) := by decide +kernel
theorem d_Wh_orderTo_11 : decode b_Wh_orderTo 11 = .ok (.aload_n 0, 1) := by decide +kernel
theorem d_Wh_orderTo_12 : decode b_Wh_orderTo 12 = .ok (.getfield 15, 3) := by decide +kernel
theorem d_Wh_orderTo_15 : decode b_Wh_orderTo 15 = .ok (.ifCond .eq 7, 3) := by decide +kernel
theorem d_Wh_orderTo_18 : decode b_Wh_orderTo 18 = .ok (.iconst (-1), 1) := by decide +kernel
theorem d_Wh_orderTo_19 : decode b_Wh_orderTo 19 = .ok (.goto 4, 3) := by decide +kernel
theorem d_Wh_orderTo_22 : decode b_Wh_orderTo 22 = .ok (.iconst 1, 1) := by decide +kernel
theorem d_Wh_orderTo_23 : decode b_Wh_orderTo 23 = .ok (.ireturn, 1) := by decide +kernel
theorem d_Wh_orderTo_24 : decode b_Wh_orderTo 24 = .ok (.aload_n 0, 1) := by decide +kernel
theorem d_Wh_orderTo_25 : decode b_Wh_orderTo 25 = .ok (.getfield 15, 3) := by decide +kernel
theorem d_Wh_orderTo_28 : decode b_Wh_orderTo 28 = .ok (.ifCond .eq 11, 3) := by decide +kernel
theorem d_Wh_orderTo_31 : decode b_Wh_orderTo 31 = .ok (.aload_n 1, 1) := by decide +kernel
theorem d_Wh_orderTo_32 : decode b_Wh_orderTo 32 = .ok (.aload_n 0, 1) := by decide +kernel
theorem d_Wh_orderTo_33 : decode b_Wh_orderTo 33 = .ok (.invokevirtual 45, 3) := by decide +kernel
theorem d_Wh_orderTo_36 : decode b_Wh_orderTo 36 = .ok (.goto 8, 3) := by decide +kernel
theorem d_Wh_orderTo_39 : decode b_Wh_orderTo 39 = .ok (.aload_n 0, 1) := by decide +kernel
theorem d_Wh_orderTo_40 : decode b_Wh_orderTo 40 = .ok (.aload_n 1, 1) := by decide +kernel
theorem d_Wh_orderTo_41 : decode b_Wh_orderTo 41 = .ok (.invokevirtual 45, 3) := by decide +kernel
theorem d_Wh_orderTo_44 : decode b_Wh_orderTo 44 = .ok (.ireturn, 1) := by decide +kernel
/-! Wh_setSumOfSizes: ('CellHeap$Whole', 'setSumOfSizes', '(LCellHeap$Whole;LCellHeap$Whole;)V') -/
abbrev b_Wh_setSumOfSizes : ByteArray := prog_8_method_15_code
abbrev y_Wh_setSumOfSizes : MethodName := ⟨R_Wh, "setSumOfSizes", "(LCellHeap$Whole;LCellHeap$Whole;)V"⟩
abbrev K_Wh_setSumOfSizes := CanV y_Wh_setSumOfSizes b_Wh_setSumOfSizes 7 none 2 0 0
theorem I_Wh_setSumOfSizes {h : HP} {p0 : Nat} {p1 : Nat} {p2 : Nat} {Φ : HP → Prop} (body : ∀ X : CX, Cok X b_Wh_setSumOfSizes 7 R_Wh none → xR X = rml 2 0 0 → Qok X 0 0 (fun r h2 => r = none ∧ Φ h2) → Wg X 0 0 h [(0, .ref p0), (1, .ref p1), (2, .ref p2)] [] 0) : K_Wh_setSumOfSizes [.ref p0, .ref p1, .ref p2] h Φ := Can.intro (by decide) (fun _ => Nat.le_of_ble_eq_true rfl) body
theorem M_Wh_setSumOfSizes : Mv y_Wh_setSumOfSizes b_Wh_setSumOfSizes 7 none 2 0 := ⟨wx_in 920 (by decide +kernel) rfl, wx_in 919 (by decide +kernel) rfl, wx_in 14 (by decide +kernel) rfl, wx_in 70 (by decide +kernel) rfl, by decide +kernel, by decide, by decide, _, _, rfl⟩
theorem d_Wh_setSumOfSizes_0 : decode b_Wh_setSumOfSizes 0 = .ok (.aload_n 1, 1) := by decide +kernel
theorem d_Wh_setSumOfSizes_1 : decode b_Wh_setSumOfSizes 1 = .ok (.getfield 29, 3) := by decide +kernel
theorem d_Wh_setSumOfSizes_4 : decode b_Wh_setSumOfSizes 4 = .ok (.aload_n 2, 1) := by decide +kernel
theorem d_Wh_setSumOfSizes_5 : decode b_Wh_setSumOfSizes 5 = .ok (.getfield 29, 3) := by decide +kernel
theorem d_Wh_setSumOfSizes_8 : decode b_Wh_setSumOfSizes 8 = .ok (.invokestatic 56, 3) := by decide +kernel
theorem d_Wh_setSumOfSizes_11 : decode b_Wh_setSumOfSizes 11 = .ok (.istore_n 3, 1) := by decide +kernel
theorem d_Wh_setSumOfSizes_12 : decode b_Wh_setSumOfSizes 12 = .ok (.lconst 0, 1) := by decide +kernel
theorem d_Wh_setSumOfSizes_13 : decode b_Wh_setSumOfSizes 13 = .ok (.lstore 4, 2) := by decide +kernel
theorem d_Wh_setSumOfSizes_15 : decode b_Wh_setSumOfSizes 15 = .ok (.iconst 0, 1) := by decide +kernel
theorem d_Wh_setSumOfSizes_16 : decode b_Wh_setSumOfSizes 16 = .ok (.istore 6, 2) := by decide +kernel
theorem d_Wh_setSumOfSizes_18 : decode b_Wh_setSumOfSizes 18 = .ok (.iload 6, 2) := by decide +kernel
theorem d_Wh_setSumOfSizes_20 : decode b_Wh_setSumOfSizes 20 = .ok (.iload_n 3, 1) := by decide +kernel
theorem d_Wh_setSumOfSizes_21 : decode b_Wh_setSumOfSizes 21 = .ok (.if_icmp .ge 44, 3) := by decide +kernel
theorem d_Wh_setSumOfSizes_24 : decode b_Wh_setSumOfSizes 24 = .ok (.lload 4, 2) := by decide +kernel
theorem d_Wh_setSumOfSizes_26 : decode b_Wh_setSumOfSizes 26 = .ok (.aload_n 1, 1) := by decide +kernel
theorem d_Wh_setSumOfSizes_27 : decode b_Wh_setSumOfSizes 27 = .ok (.iload 6, 2) := by decide +kernel
theorem d_Wh_setSumOfSizes_29 : decode b_Wh_setSumOfSizes 29 = .ok (.invokevirtual 41, 3) := by decide +kernel
theorem d_Wh_setSumOfSizes_32 : decode b_Wh_setSumOfSizes 32 = .ok (.aload_n 2, 1) := by decide +kernel
theorem d_Wh_setSumOfSizes_33 : decode b_Wh_setSumOfSizes 33 = .ok (.iload 6, 2) := by decide +kernel
theorem d_Wh_setSumOfSizes_35 : decode b_Wh_setSumOfSizes 35 = .ok (.invokevirtual 41, 3) := by decide +kernel
theorem d_Wh_setSumOfSizes_38 : decode b_Wh_setSumOfSizes 38 = .ok (.ladd, 1) := by decide +kernel
theorem d_Wh_setSumOfSizes_39 : decode b_Wh_setSumOfSizes 39 = .ok (.ladd, 1) := by decide +kernel
theorem d_Wh_setSumOfSizes_40 : decode b_Wh_setSumOfSizes 40 = .ok (.lstore 4, 2) := by decide +kernel
theorem d_Wh_setSumOfSizes_42 : decode b_Wh_setSumOfSizes 42 = .ok (.aload_n 0, 1) := by decide +kernel
theorem d_Wh_setSumOfSizes_43 : decode b_Wh_setSumOfSizes 43 = .ok (.getfield 9, 3) := by decide +kernel
theorem d_Wh_setSumOfSizes_46 : decode b_Wh_setSumOfSizes 46 = .ok (.iload 6, 2) := by decide +kernel
theorem d_Wh_setSumOfSizes_48 : decode b_Wh_setSumOfSizes 48 = .ok (.lload 4, 2) := by decide +kernel
theorem d_Wh_setSumOfSizes_50 : decode b_Wh_setSumOfSizes 50 = .ok (.l2i, 1) := by decide +kernel
theorem d_Wh_setSumOfSizes_51 : decode b_Wh_setSumOfSizes 51 = .ok (.iastore, 1) := by decide +kernel
theorem d_Wh_setSumOfSizes_52 : decode b_Wh_setSumOfSizes 52 = .ok (.lload 4, 2) := by decide +kernel
theorem d_Wh_setSumOfSizes_54 : decode b_Wh_setSumOfSizes 54 = .ok (.bipush 32, 2) := by decide +kernel
theorem d_Wh_setSumOfSizes_56 : decode b_Wh_setSumOfSizes 56 = .ok (.lushr, 1) := by decide +kernel
theorem d_Wh_setSumOfSizes_57 : decode b_Wh_setSumOfSizes 57 = .ok (.lstore 4, 2) := by decide +kernel
theorem d_Wh_setSumOfSizes_59 : decode b_Wh_setSumOfSizes 59 = .ok (.iinc 6 1, 3) := by decide +kernel
theorem d_Wh_setSumOfSizes_62 : decode b_Wh_setSumOfSizes 62 = .ok (.goto (-44), 3) := by decide +kernel
theorem d_Wh_setSumOfSizes_65 : decode b_Wh_setSumOfSizes 65 = .ok (.aload_n 0, 1) := by decide +kernel
theorem d_Wh_setSumOfSizes_66 : decode b_Wh_setSumOfSizes 66 = .ok (.getfield 9, 3) := by decide +kernel
theorem d_Wh_setSumOfSizes_69 : decode b_Wh_setSumOfSizes 69 = .ok (.iload_n 3, 1) := by decide +kernel
theorem d_Wh_setSumOfSizes_70 : decode b_Wh_setSumOfSizes 70 = .ok (.lload 4, 2) := by decide +kernel
theorem d_Wh_setSumOfSizes_72 : decode b_Wh_setSumOfSizes 72 = .ok (.l2i, 1) := by decide +kernel
theorem d_Wh_setSumOfSizes_73 : decode b_Wh_setSumOfSizes 73 = .ok (.iastore, 1) := by decide +kernel
theorem d_Wh_setSumOfSizes_74 : decode b_Wh_setSumOfSizes 74 = .ok (.aload_n 0, 1) := by decide +kernel
theorem d_Wh_setSumOfSizes_75 : decode b_Wh_setSumOfSizes 75 = .ok (.iload_n 3, 1) := by decide +kernel
theorem d_Wh_setSumOfSizes_76 : decode b_Wh_setSumOfSizes 76 = .ok (.iconst 1, 1) := by decide +kernel
theorem d_Wh_setSumOfSizes_77 : decode b_Wh_setSumOfSizes 77 = .ok (.iadd, 1) := by decide +kernel
theorem d_Wh_setSumOfSizes_78 : decode b_Wh_setSumOfSizes 78 = .ok (.invokevirtual 19, 3) := by decide +kernel
theorem d_Wh_setSumOfSizes_81 : decode b_Wh_setSumOfSizes 81 = .ok (.return_, 1) := by decide +kernel
/-! Wh_setDifferenceOfSizes: ('CellHeap$Whole', 'setDifferenceOfSizes', '(LCellHeap$Whole;LCellHeap$Whole;)V') -/
abbrev b_Wh_setDifferenceOfSizes : ByteArray := prog_8_method_16_code
abbrev y_Wh_setDifferenceOfSizes : MethodName := ⟨R_Wh, "setDifferenceOfSizes", "(LCellHeap$Whole;LCellHeap$Whole;)V"⟩
abbrev K_Wh_setDifferenceOfSizes := CanV y_Wh_setDifferenceOfSizes b_Wh_setDifferenceOfSizes 9 none 1 0 0
theorem I_Wh_setDifferenceOfSizes {h : HP} {p0 : Nat} {p1 : Nat} {p2 : Nat} {Φ : HP → Prop} (body : ∀ X : CX, Cok X b_Wh_setDifferenceOfSizes 9 R_Wh none → xR X = rml 1 0 0 → Qok X 0 0 (fun r h2 => r = none ∧ Φ h2) → Wg X 0 0 h [(0, .ref p0), (1, .ref p1), (2, .ref p2)] [] 0) : K_Wh_setDifferenceOfSizes [.ref p0, .ref p1, .ref p2] h Φ := Can.intro (by decide) (fun _ => Nat.le_of_ble_eq_true rfl) body
theorem M_Wh_setDifferenceOfSizes : Mv y_Wh_setDifferenceOfSizes b_Wh_setDifferenceOfSizes 9 none 2 0 := ⟨wx_in 926 (by decide +kernel) rfl, wx_in 925 (by decide +kernel) rfl, wx_in 15 (by decide +kernel) rfl, wx_in 70 (by decide +kernel) rfl, by decide +kernel, by decide, by decide, _, _, rfl⟩
theorem d_Wh_setDifferenceOfSizes_0 : decode b_Wh_setDifferenceOfSizes 0 = .ok (.aload_n 1, 1) := by decide +kernel
theorem d_Wh_setDifferenceOfSizes_1 : decode b_Wh_setDifferenceOfSizes 1 = .ok (.getfield 29, 3) := by decide +kernel
theorem d_Wh_setDifferenceOfSizes_4 : decode b_Wh_setDifferenceOfSizes 4 = .ok (.istore_n 3, 1) := by decide +kernel
theorem d_Wh_setDifferenceOfSizes_5 : decode b_Wh_setDifferenceOfSizes 5 = .ok (.lconst 0, 1) := by decide +kernel
theorem d_Wh_setDifferenceOfSizes_6 : decode b_Wh_setDifferenceOfSizes 6 = .ok (.lstore 4, 2) := by decide +kernel
theorem d_Wh_setDifferenceOfSizes_8 : decode b_Wh_setDifferenceOfSizes 8 = .ok (.iconst 0, 1) := by decide +kernel
theorem d_Wh_setDifferenceOfSizes_9 : decode b_Wh_setDifferenceOfSizes 9 = .ok (.istore 6, 2) := by decide +kernel
theorem d_Wh_setDifferenceOfSizes_11 : decode b_Wh_setDifferenceOfSizes 11 = .ok (.iload 6, 2) := by decide +kernel
theorem d_Wh_setDifferenceOfSizes_13 : decode b_Wh_setDifferenceOfSizes 13 = .ok (.iload_n 3, 1) := by decide +kernel
theorem d_Wh_setDifferenceOfSizes_14 : decode b_Wh_setDifferenceOfSizes 14 = .ok (.if_icmp .ge 51, 3) := by decide +kernel
theorem d_Wh_setDifferenceOfSizes_17 : decode b_Wh_setDifferenceOfSizes 17 = .ok (.aload_n 1, 1) := by decide +kernel
theorem d_Wh_setDifferenceOfSizes_18 : decode b_Wh_setDifferenceOfSizes 18 = .ok (.iload 6, 2) := by decide +kernel
theorem d_Wh_setDifferenceOfSizes_20 : decode b_Wh_setDifferenceOfSizes 20 = .ok (.invokevirtual 41, 3) := by decide +kernel
theorem d_Wh_setDifferenceOfSizes_23 : decode b_Wh_setDifferenceOfSizes 23 = .ok (.aload_n 2, 1) := by decide +kernel
theorem d_Wh_setDifferenceOfSizes_24 : decode b_Wh_setDifferenceOfSizes 24 = .ok (.iload 6, 2) := by decide +kernel
theorem d_Wh_setDifferenceOfSizes_26 : decode b_Wh_setDifferenceOfSizes 26 = .ok (.invokevirtual 41, 3) := by decide +kernel
theorem d_Wh_setDifferenceOfSizes_29 : decode b_Wh_setDifferenceOfSizes 29 = .ok (.lsub, 1) := by decide +kernel
theorem d_Wh_setDifferenceOfSizes_30 : decode b_Wh_setDifferenceOfSizes 30 = .ok (.lload 4, 2) := by decide +kernel
theorem d_Wh_setDifferenceOfSizes_32 : decode b_Wh_setDifferenceOfSizes 32 = .ok (.lsub, 1) := by decide +kernel
theorem d_Wh_setDifferenceOfSizes_33 : decode b_Wh_setDifferenceOfSizes 33 = .ok (.lstore 7, 2) := by decide +kernel
theorem d_Wh_setDifferenceOfSizes_35 : decode b_Wh_setDifferenceOfSizes 35 = .ok (.aload_n 0, 1) := by decide +kernel
theorem d_Wh_setDifferenceOfSizes_36 : decode b_Wh_setDifferenceOfSizes 36 = .ok (.getfield 9, 3) := by decide +kernel
theorem d_Wh_setDifferenceOfSizes_39 : decode b_Wh_setDifferenceOfSizes 39 = .ok (.iload 6, 2) := by decide +kernel
theorem d_Wh_setDifferenceOfSizes_41 : decode b_Wh_setDifferenceOfSizes 41 = .ok (.lload 7, 2) := by decide +kernel
theorem d_Wh_setDifferenceOfSizes_43 : decode b_Wh_setDifferenceOfSizes 43 = .ok (.l2i, 1) := by decide +kernel
theorem d_Wh_setDifferenceOfSizes_44 : decode b_Wh_setDifferenceOfSizes 44 = .ok (.iastore, 1) := by decide +kernel
theorem d_Wh_setDifferenceOfSizes_45 : decode b_Wh_setDifferenceOfSizes 45 = .ok (.lload 7, 2) := by decide +kernel
theorem d_Wh_setDifferenceOfSizes_47 : decode b_Wh_setDifferenceOfSizes 47 = .ok (.lconst 0, 1) := by decide +kernel
theorem d_Wh_setDifferenceOfSizes_48 : decode b_Wh_setDifferenceOfSizes 48 = .ok (.lcmp, 1) := by decide +kernel
theorem d_Wh_setDifferenceOfSizes_49 : decode b_Wh_setDifferenceOfSizes 49 = .ok (.ifCond .ge 7, 3) := by decide +kernel
theorem d_Wh_setDifferenceOfSizes_52 : decode b_Wh_setDifferenceOfSizes 52 = .ok (.lconst 1, 1) := by decide +kernel
theorem d_Wh_setDifferenceOfSizes_53 : decode b_Wh_setDifferenceOfSizes 53 = .ok (.goto 4, 3) := by decide +kernel
theorem d_Wh_setDifferenceOfSizes_56 : decode b_Wh_setDifferenceOfSizes 56 = .ok (.lconst 0, 1) := by decide +kernel
theorem d_Wh_setDifferenceOfSizes_57 : decode b_Wh_setDifferenceOfSizes 57 = .ok (.lstore 4, 2) := by decide +kernel
theorem d_Wh_setDifferenceOfSizes_59 : decode b_Wh_setDifferenceOfSizes 59 = .ok (.iinc 6 1, 3) := by decide +kernel
theorem d_Wh_setDifferenceOfSizes_62 : decode b_Wh_setDifferenceOfSizes 62 = .ok (.goto (-51), 3) := by decide +kernel
theorem d_Wh_setDifferenceOfSizes_65 : decode b_Wh_setDifferenceOfSizes 65 = .ok (.aload_n 0, 1) := by decide +kernel
theorem d_Wh_setDifferenceOfSizes_66 : decode b_Wh_setDifferenceOfSizes 66 = .ok (.iload_n 3, 1) := by decide +kernel
theorem d_Wh_setDifferenceOfSizes_67 : decode b_Wh_setDifferenceOfSizes 67 = .ok (.invokevirtual 19, 3) := by decide +kernel
theorem d_Wh_setDifferenceOfSizes_70 : decode b_Wh_setDifferenceOfSizes 70 = .ok (.return_, 1) := by decide +kernel
/-! Wh_setSum: ('CellHeap$Whole', 'setSum', '(LCellHeap$Whole;LCellHeap$Whole;)V') -/
abbrev b_Wh_setSum : ByteArray := prog_8_method_14_code
abbrev y_Wh_setSum : MethodName := ⟨R_Wh, "setSum", "(LCellHeap$Whole;LCellHeap$Whole;)V"⟩
abbrev K_Wh_setSum := CanV y_Wh_setSum b_Wh_setSum 5 none 3 0 0
theorem I_Wh_setSum {h : HP} {p0 : Nat} {p1 : Nat} {p2 : Nat} {Φ : HP → Prop} (body : ∀ X : CX, Cok X b_Wh_setSum 5 R_Wh none → xR X = rml 3 0 0 → Qok X 0 0 (fun r h2 => r = none ∧ Φ h2) → Wg X 0 0 h [(0, .ref p0), (1, .ref p1), (2, .ref p2)] [] 0) : K_Wh_setSum [.ref p0, .ref p1, .ref p2] h Φ := Can.intro (by decide) (fun _ => Nat.le_of_ble_eq_true rfl) body
theorem M_Wh_setSum : Mv y_Wh_setSum b_Wh_setSum 5 none 2 0 := ⟨wx_in 916 (by decide +kernel) rfl, wx_in 914 (by decide +kernel) rfl, wx_in 915 (by decide +kernel) rfl, wx_in 70 (by decide +kernel) rfl, by decide +kernel, by decide, by decide, _, _, rfl⟩
theorem d_Wh_setSum_0 : decode b_Wh_setSum 0 = .ok (.aload_n 1, 1) := by decide +kernel
theorem d_Wh_setSum_1 : decode b_Wh_setSum 1 = .ok (.getfield 15, 3) := by decide +kernel
theorem d_Wh_setSum_4 : decode b_Wh_setSum 4 = .ok (.istore_n 3, 1) := by decide +kernel
theorem d_Wh_setSum_5 : decode b_Wh_setSum 5 = .ok (.aload_n 2, 1) := by decide +kernel
theorem d_Wh_setSum_6 : decode b_Wh_setSum 6 = .ok (.getfield 15, 3) := by decide +kernel
theorem d_Wh_setSum_9 : decode b_Wh_setSum 9 = .ok (.istore 4, 2) := by decide +kernel
theorem d_Wh_setSum_11 : decode b_Wh_setSum 11 = .ok (.iload_n 3, 1) := by decide +kernel
theorem d_Wh_setSum_12 : decode b_Wh_setSum 12 = .ok (.iload 4, 2) := by decide +kernel
theorem d_Wh_setSum_14 : decode b_Wh_setSum 14 = .ok (.if_icmp .ne 17, 3) := by decide +kernel
theorem d_Wh_setSum_17 : decode b_Wh_setSum 17 = .ok (.aload_n 0, 1) := by decide +kernel
theorem d_Wh_setSum_18 : decode b_Wh_setSum 18 = .ok (.iload_n 3, 1) := by decide +kernel
theorem d_Wh_setSum_19 : decode b_Wh_setSum 19 = .ok (.putfield 15, 3) := by decide +kernel
theorem d_Wh_setSum_22 : decode b_Wh_setSum 22 = .ok (.aload_n 0, 1) := by decide +kernel
theorem d_Wh_setSum_23 : decode b_Wh_setSum 23 = .ok (.aload_n 1, 1) := by decide +kernel
theorem d_Wh_setSum_24 : decode b_Wh_setSum 24 = .ok (.aload_n 2, 1) := by decide +kernel
theorem d_Wh_setSum_25 : decode b_Wh_setSum 25 = .ok (.invokevirtual 49, 3) := by decide +kernel
theorem d_Wh_setSum_28 : decode b_Wh_setSum 28 = .ok (.goto 37, 3) := by decide +kernel
theorem d_Wh_setSum_31 : decode b_Wh_setSum 31 = .ok (.aload_n 1, 1) := by decide +kernel
theorem d_Wh_setSum_32 : decode b_Wh_setSum 32 = .ok (.aload_n 2, 1) := by decide +kernel
theorem d_Wh_setSum_33 : decode b_Wh_setSum 33 = .ok (.invokevirtual 45, 3) := by decide +kernel
theorem d_Wh_setSum_36 : decode b_Wh_setSum 36 = .ok (.ifCond .lt 17, 3) := by decide +kernel
theorem d_Wh_setSum_39 : decode b_Wh_setSum 39 = .ok (.aload_n 0, 1) := by decide +kernel
theorem d_Wh_setSum_40 : decode b_Wh_setSum 40 = .ok (.iload_n 3, 1) := by decide +kernel
theorem d_Wh_setSum_41 : decode b_Wh_setSum 41 = .ok (.putfield 15, 3) := by decide +kernel
theorem d_Wh_setSum_44 : decode b_Wh_setSum 44 = .ok (.aload_n 0, 1) := by decide +kernel
theorem d_Wh_setSum_45 : decode b_Wh_setSum 45 = .ok (.aload_n 1, 1) := by decide +kernel
theorem d_Wh_setSum_46 : decode b_Wh_setSum 46 = .ok (.aload_n 2, 1) := by decide +kernel
theorem d_Wh_setSum_47 : decode b_Wh_setSum 47 = .ok (.invokevirtual 53, 3) := by decide +kernel
theorem d_Wh_setSum_50 : decode b_Wh_setSum 50 = .ok (.goto 15, 3) := by decide +kernel
theorem d_Wh_setSum_53 : decode b_Wh_setSum 53 = .ok (.aload_n 0, 1) := by decide +kernel
theorem d_Wh_setSum_54 : decode b_Wh_setSum 54 = .ok (.iload 4, 2) := by decide +kernel
theorem d_Wh_setSum_56 : decode b_Wh_setSum 56 = .ok (.putfield 15, 3) := by decide +kernel
theorem d_Wh_setSum_59 : decode b_Wh_setSum 59 = .ok (.aload_n 0, 1) := by decide +kernel
theorem d_Wh_setSum_60 : decode b_Wh_setSum 60 = .ok (.aload_n 2, 1) := by decide +kernel
theorem d_Wh_setSum_61 : decode b_Wh_setSum 61 = .ok (.aload_n 1, 1) := by decide +kernel
theorem d_Wh_setSum_62 : decode b_Wh_setSum 62 = .ok (.invokevirtual 53, 3) := by decide +kernel
theorem d_Wh_setSum_65 : decode b_Wh_setSum 65 = .ok (.return_, 1) := by decide +kernel
/-! Wh_setProduct: ('CellHeap$Whole', 'setProduct', '(LCellHeap$Whole;LCellHeap$Whole;)V') -/
abbrev b_Wh_setProduct : ByteArray := prog_8_method_17_code
abbrev y_Wh_setProduct : MethodName := ⟨R_Wh, "setProduct", "(LCellHeap$Whole;LCellHeap$Whole;)V"⟩
abbrev K_Wh_setProduct := CanV y_Wh_setProduct b_Wh_setProduct 8 none 11 0 0
theorem I_Wh_setProduct {h : HP} {p0 : Nat} {p1 : Nat} {p2 : Nat} {Φ : HP → Prop} (body : ∀ X : CX, Cok X b_Wh_setProduct 8 R_Wh none → xR X = rml 11 0 0 → Qok X 0 0 (fun r h2 => r = none ∧ Φ h2) → Wg X 0 0 h [(0, .ref p0), (1, .ref p1), (2, .ref p2)] [] 0) : K_Wh_setProduct [.ref p0, .ref p1, .ref p2] h Φ := Can.intro (by decide) (fun _ => Nat.le_of_ble_eq_true rfl) body
theorem M_Wh_setProduct : Mv y_Wh_setProduct b_Wh_setProduct 8 none 2 0 := ⟨wx_in 650 (by decide +kernel) rfl, wx_in 648 (by decide +kernel) rfl, wx_in 649 (by decide +kernel) rfl, wx_in 70 (by decide +kernel) rfl, by decide +kernel, by decide, by decide, _, _, rfl⟩
theorem d_Wh_setProduct_0 : decode b_Wh_setProduct 0 = .ok (.aload_n 1, 1) := by decide +kernel
theorem d_Wh_setProduct_1 : decode b_Wh_setProduct 1 = .ok (.getfield 29, 3) := by decide +kernel
theorem d_Wh_setProduct_4 : decode b_Wh_setProduct 4 = .ok (.aload_n 2, 1) := by decide +kernel
theorem d_Wh_setProduct_5 : decode b_Wh_setProduct 5 = .ok (.getfield 29, 3) := by decide +kernel
theorem d_Wh_setProduct_8 : decode b_Wh_setProduct 8 = .ok (.iadd, 1) := by decide +kernel
theorem d_Wh_setProduct_9 : decode b_Wh_setProduct 9 = .ok (.istore_n 3, 1) := by decide +kernel
theorem d_Wh_setProduct_10 : decode b_Wh_setProduct 10 = .ok (.aload_n 0, 1) := by decide +kernel
theorem d_Wh_setProduct_11 : decode b_Wh_setProduct 11 = .ok (.getfield 9, 3) := by decide +kernel
theorem d_Wh_setProduct_14 : decode b_Wh_setProduct 14 = .ok (.iconst 0, 1) := by decide +kernel
theorem d_Wh_setProduct_15 : decode b_Wh_setProduct 15 = .ok (.iload_n 3, 1) := by decide +kernel
theorem d_Wh_setProduct_16 : decode b_Wh_setProduct 16 = .ok (.iconst 0, 1) := by decide +kernel
theorem d_Wh_setProduct_17 : decode b_Wh_setProduct 17 = .ok (.invokestatic 62, 3) := by decide +kernel
theorem d_Wh_setProduct_20 : decode b_Wh_setProduct 20 = .ok (.iconst 0, 1) := by decide +kernel
theorem d_Wh_setProduct_21 : decode b_Wh_setProduct 21 = .ok (.istore 4, 2) := by decide +kernel
theorem d_Wh_setProduct_23 : decode b_Wh_setProduct 23 = .ok (.iload 4, 2) := by decide +kernel
theorem d_Wh_setProduct_25 : decode b_Wh_setProduct 25 = .ok (.aload_n 1, 1) := by decide +kernel
theorem d_Wh_setProduct_26 : decode b_Wh_setProduct 26 = .ok (.getfield 29, 3) := by decide +kernel
theorem d_Wh_setProduct_29 : decode b_Wh_setProduct 29 = .ok (.if_icmp .ge 99, 3) := by decide +kernel
theorem d_Wh_setProduct_32 : decode b_Wh_setProduct 32 = .ok (.lconst 0, 1) := by decide +kernel
theorem d_Wh_setProduct_33 : decode b_Wh_setProduct 33 = .ok (.lstore 5, 2) := by decide +kernel
theorem d_Wh_setProduct_35 : decode b_Wh_setProduct 35 = .ok (.iconst 0, 1) := by decide +kernel
theorem d_Wh_setProduct_36 : decode b_Wh_setProduct 36 = .ok (.istore 7, 2) := by decide +kernel
theorem d_Wh_setProduct_38 : decode b_Wh_setProduct 38 = .ok (.iload 7, 2) := by decide +kernel
theorem d_Wh_setProduct_40 : decode b_Wh_setProduct 40 = .ok (.aload_n 2, 1) := by decide +kernel
theorem d_Wh_setProduct_41 : decode b_Wh_setProduct 41 = .ok (.getfield 29, 3) := by decide +kernel
theorem d_Wh_setProduct_44 : decode b_Wh_setProduct 44 = .ok (.if_icmp .ge 63, 3) := by decide +kernel
theorem d_Wh_setProduct_47 : decode b_Wh_setProduct 47 = .ok (.lload 5, 2) := by decide +kernel
theorem d_Wh_setProduct_49 : decode b_Wh_setProduct 49 = .ok (.aload_n 1, 1) := by decide +kernel
theorem d_Wh_setProduct_50 : decode b_Wh_setProduct 50 = .ok (.iload 4, 2) := by decide +kernel
theorem d_Wh_setProduct_52 : decode b_Wh_setProduct 52 = .ok (.invokevirtual 41, 3) := by decide +kernel
theorem d_Wh_setProduct_55 : decode b_Wh_setProduct 55 = .ok (.aload_n 2, 1) := by decide +kernel
theorem d_Wh_setProduct_56 : decode b_Wh_setProduct 56 = .ok (.iload 7, 2) := by decide +kernel
theorem d_Wh_setProduct_58 : decode b_Wh_setProduct 58 = .ok (.invokevirtual 41, 3) := by decide +kernel
theorem d_Wh_setProduct_61 : decode b_Wh_setProduct 61 = .ok (.lmul, 1) := by decide +kernel
theorem d_Wh_setProduct_62 : decode b_Wh_setProduct 62 = .ok (.aload_n 0, 1) := by decide +kernel
theorem d_Wh_setProduct_63 : decode b_Wh_setProduct 63 = .ok (.getfield 9, 3) := by decide +kernel
theorem d_Wh_setProduct_66 : decode b_Wh_setProduct 66 = .ok (.iload 4, 2) := by decide +kernel
theorem d_Wh_setProduct_68 : decode b_Wh_setProduct 68 = .ok (.iload 7, 2) := by decide +kernel
theorem d_Wh_setProduct_70 : decode b_Wh_setProduct 70 = .ok (.iadd, 1) := by decide +kernel
theorem d_Wh_setProduct_71 : decode b_Wh_setProduct 71 = .ok (.iaload, 1) := by decide +kernel
theorem d_Wh_setProduct_72 : decode b_Wh_setProduct 72 = .ok (.i2l, 1) := by decide +kernel
theorem d_Wh_setProduct_73 : decode b_Wh_setProduct 73 = .ok (.ldc2_w 39, 3) := by decide +kernel
theorem d_Wh_setProduct_76 : decode b_Wh_setProduct 76 = .ok (.land, 1) := by decide +kernel
theorem d_Wh_setProduct_77 : decode b_Wh_setProduct 77 = .ok (.ladd, 1) := by decide +kernel
theorem d_Wh_setProduct_78 : decode b_Wh_setProduct 78 = .ok (.ladd, 1) := by decide +kernel
theorem d_Wh_setProduct_79 : decode b_Wh_setProduct 79 = .ok (.lstore 5, 2) := by decide +kernel
theorem d_Wh_setProduct_81 : decode b_Wh_setProduct 81 = .ok (.aload_n 0, 1) := by decide +kernel
theorem d_Wh_setProduct_82 : decode b_Wh_setProduct 82 = .ok (.getfield 9, 3) := by decide +kernel
theorem d_Wh_setProduct_85 : decode b_Wh_setProduct 85 = .ok (.iload 4, 2) := by decide +kernel
theorem d_Wh_setProduct_87 : decode b_Wh_setProduct 87 = .ok (.iload 7, 2) := by decide +kernel
theorem d_Wh_setProduct_89 : decode b_Wh_setProduct 89 = .ok (.iadd, 1) := by decide +kernel
theorem d_Wh_setProduct_90 : decode b_Wh_setProduct 90 = .ok (.lload 5, 2) := by decide +kernel
theorem d_Wh_setProduct_92 : decode b_Wh_setProduct 92 = .ok (.l2i, 1) := by decide +kernel
theorem d_Wh_setProduct_93 : decode b_Wh_setProduct 93 = .ok (.iastore, 1) := by decide +kernel
theorem d_Wh_setProduct_94 : decode b_Wh_setProduct 94 = .ok (.lload 5, 2) := by decide +kernel
theorem d_Wh_setProduct_96 : decode b_Wh_setProduct 96 = .ok (.bipush 32, 2) := by decide +kernel
theorem d_Wh_setProduct_98 : decode b_Wh_setProduct 98 = .ok (.lushr, 1) := by decide +kernel
theorem d_Wh_setProduct_99 : decode b_Wh_setProduct 99 = .ok (.lstore 5, 2) := by decide +kernel
theorem d_Wh_setProduct_101 : decode b_Wh_setProduct 101 = .ok (.iinc 7 1, 3) := by decide +kernel
theorem d_Wh_setProduct_104 : decode b_Wh_setProduct 104 = .ok (.goto (-66), 3) := by decide +kernel
theorem d_Wh_setProduct_107 : decode b_Wh_setProduct 107 = .ok (.aload_n 0, 1) := by decide +kernel
theorem d_Wh_setProduct_108 : decode b_Wh_setProduct 108 = .ok (.getfield 9, 3) := by decide +kernel
theorem d_Wh_setProduct_111 : decode b_Wh_setProduct 111 = .ok (.iload 4, 2) := by decide +kernel
theorem d_Wh_setProduct_113 : decode b_Wh_setProduct 113 = .ok (.aload_n 2, 1) := by decide +kernel
theorem d_Wh_setProduct_114 : decode b_Wh_setProduct 114 = .ok (.getfield 29, 3) := by decide +kernel
theorem d_Wh_setProduct_117 : decode b_Wh_setProduct 117 = .ok (.iadd, 1) := by decide +kernel
theorem d_Wh_setProduct_118 : decode b_Wh_setProduct 118 = .ok (.lload 5, 2) := by decide +kernel
theorem d_Wh_setProduct_120 : decode b_Wh_setProduct 120 = .ok (.l2i, 1) := by decide +kernel
theorem d_Wh_setProduct_121 : decode b_Wh_setProduct 121 = .ok (.iastore, 1) := by decide +kernel
theorem d_Wh_setProduct_122 : decode b_Wh_setProduct 122 = .ok (.iinc 4 1, 3) := by decide +kernel
theorem d_Wh_setProduct_125 : decode b_Wh_setProduct 125 = .ok (.goto (-102), 3) := by decide +kernel
theorem d_Wh_setProduct_128 : decode b_Wh_setProduct 128 = .ok (.aload_n 0, 1) := by decide +kernel
theorem d_Wh_setProduct_129 : decode b_Wh_setProduct 129 = .ok (.aload_n 1, 1) := by decide +kernel
theorem d_Wh_setProduct_130 : decode b_Wh_setProduct 130 = .ok (.getfield 15, 3) := by decide +kernel
theorem d_Wh_setProduct_133 : decode b_Wh_setProduct 133 = .ok (.aload_n 2, 1) := by decide +kernel
theorem d_Wh_setProduct_134 : decode b_Wh_setProduct 134 = .ok (.getfield 15, 3) := by decide +kernel
theorem d_Wh_setProduct_137 : decode b_Wh_setProduct 137 = .ok (.if_icmp .eq 7, 3) := by decide +kernel
theorem d_Wh_setProduct_140 : decode b_Wh_setProduct 140 = .ok (.iconst 1, 1) := by decide +kernel
theorem d_Wh_setProduct_141 : decode b_Wh_setProduct 141 = .ok (.goto 4, 3) := by decide +kernel
theorem d_Wh_setProduct_144 : decode b_Wh_setProduct 144 = .ok (.iconst 0, 1) := by decide +kernel
theorem d_Wh_setProduct_145 : decode b_Wh_setProduct 145 = .ok (.putfield 15, 3) := by decide +kernel
theorem d_Wh_setProduct_148 : decode b_Wh_setProduct 148 = .ok (.aload_n 0, 1) := by decide +kernel
theorem d_Wh_setProduct_149 : decode b_Wh_setProduct 149 = .ok (.iload_n 3, 1) := by decide +kernel
theorem d_Wh_setProduct_150 : decode b_Wh_setProduct 150 = .ok (.invokevirtual 19, 3) := by decide +kernel
theorem d_Wh_setProduct_153 : decode b_Wh_setProduct 153 = .ok (.return_, 1) := by decide +kernel
/-! Wh_multiplyBy10AndAdd: ('CellHeap$Whole', 'multiplyBy10AndAdd', '(I)V') -/
abbrev b_Wh_multiplyBy10AndAdd : ByteArray := prog_8_method_18_code
abbrev y_Wh_multiplyBy10AndAdd : MethodName := ⟨R_Wh, "multiplyBy10AndAdd", "(I)V"⟩
abbrev K_Wh_multiplyBy10AndAdd := CanV y_Wh_multiplyBy10AndAdd b_Wh_multiplyBy10AndAdd 5 none 1 0 0
theorem I_Wh_multiplyBy10AndAdd {h : HP} {p0 : Nat} {v1 : Int32} {Φ : HP → Prop} (body : ∀ X : CX, Cok X b_Wh_multiplyBy10AndAdd 5 R_Wh none → xR X = rml 1 0 0 → Qok X 0 0 (fun r h2 => r = none ∧ Φ h2) → Wg X 0 0 h [(0, .ref p0), (1, .int v1)] [] 0) : K_Wh_multiplyBy10AndAdd [.ref p0, .int v1] h Φ := Can.intro (by decide) (fun _ => Nat.le_of_ble_eq_true rfl) body
theorem M_Wh_multiplyBy10AndAdd : Mv y_Wh_multiplyBy10AndAdd b_Wh_multiplyBy10AndAdd 5 none 1 0 := ⟨wx_in 1011 (by decide +kernel) rfl, wx_in 1009 (by decide +kernel) rfl, wx_in 1010 (by decide +kernel) rfl, wx_in 70 (by decide +kernel) rfl, by decide +kernel, by decide, by decide, _, _, rfl⟩
theorem d_Wh_multiplyBy10AndAdd_0 : decode b_Wh_multiplyBy10AndAdd 0 = .ok (.iload_n 1, 1) := by decide +kernel
theorem d_Wh_multiplyBy10AndAdd_1 : decode b_Wh_multiplyBy10AndAdd 1 = .ok (.i2l, 1) := by decide +kernel
theorem d_Wh_multiplyBy10AndAdd_2 : decode b_Wh_multiplyBy10AndAdd 2 = .ok (.lstore_n 2, 1) := by decide +kernel
theorem d_Wh_multiplyBy10AndAdd_3 : decode b_Wh_multiplyBy10AndAdd 3 = .ok (.iconst 0, 1) := by decide +kernel
theorem d_Wh_multiplyBy10AndAdd_4 : decode b_Wh_multiplyBy10AndAdd 4 = .ok (.istore 4, 2) := by decide +kernel
theorem d_Wh_multiplyBy10AndAdd_6 : decode b_Wh_multiplyBy10AndAdd 6 = .ok (.iload 4, 2) := by decide +kernel
theorem d_Wh_multiplyBy10AndAdd_8 : decode b_Wh_multiplyBy10AndAdd 8 = .ok (.aload_n 0, 1) := by decide +kernel
theorem d_Wh_multiplyBy10AndAdd_9 : decode b_Wh_multiplyBy10AndAdd 9 = .ok (.getfield 29, 3) := by decide +kernel
theorem d_Wh_multiplyBy10AndAdd_12 : decode b_Wh_multiplyBy10AndAdd 12 = .ok (.if_icmp .ge 36, 3) := by decide +kernel
theorem d_Wh_multiplyBy10AndAdd_15 : decode b_Wh_multiplyBy10AndAdd 15 = .ok (.lload_n 2, 1) := by decide +kernel
theorem d_Wh_multiplyBy10AndAdd_16 : decode b_Wh_multiplyBy10AndAdd 16 = .ok (.aload_n 0, 1) := by decide +kernel
theorem d_Wh_multiplyBy10AndAdd_17 : decode b_Wh_multiplyBy10AndAdd 17 = .ok (.iload 4, 2) := by decide +kernel
theorem d_Wh_multiplyBy10AndAdd_19 : decode b_Wh_multiplyBy10AndAdd 19 = .ok (.invokevirtual 41, 3) := by decide +kernel
theorem d_Wh_multiplyBy10AndAdd_22 : decode b_Wh_multiplyBy10AndAdd 22 = .ok (.ldc2_w 68, 3) := by decide +kernel
theorem d_Wh_multiplyBy10AndAdd_25 : decode b_Wh_multiplyBy10AndAdd 25 = .ok (.lmul, 1) := by decide +kernel
theorem d_Wh_multiplyBy10AndAdd_26 : decode b_Wh_multiplyBy10AndAdd 26 = .ok (.ladd, 1) := by decide +kernel
theorem d_Wh_multiplyBy10AndAdd_27 : decode b_Wh_multiplyBy10AndAdd 27 = .ok (.lstore_n 2, 1) := by decide +kernel
theorem d_Wh_multiplyBy10AndAdd_28 : decode b_Wh_multiplyBy10AndAdd 28 = .ok (.aload_n 0, 1) := by decide +kernel
theorem d_Wh_multiplyBy10AndAdd_29 : decode b_Wh_multiplyBy10AndAdd 29 = .ok (.getfield 9, 3) := by decide +kernel
theorem d_Wh_multiplyBy10AndAdd_32 : decode b_Wh_multiplyBy10AndAdd 32 = .ok (.iload 4, 2) := by decide +kernel
theorem d_Wh_multiplyBy10AndAdd_34 : decode b_Wh_multiplyBy10AndAdd 34 = .ok (.lload_n 2, 1) := by decide +kernel
theorem d_Wh_multiplyBy10AndAdd_35 : decode b_Wh_multiplyBy10AndAdd 35 = .ok (.l2i, 1) := by decide +kernel
theorem d_Wh_multiplyBy10AndAdd_36 : decode b_Wh_multiplyBy10AndAdd 36 = .ok (.iastore, 1) := by decide +kernel
theorem d_Wh_multiplyBy10AndAdd_37 : decode b_Wh_multiplyBy10AndAdd 37 = .ok (.lload_n 2, 1) := by decide +kernel
theorem d_Wh_multiplyBy10AndAdd_38 : decode b_Wh_multiplyBy10AndAdd 38 = .ok (.bipush 32, 2) := by decide +kernel
theorem d_Wh_multiplyBy10AndAdd_40 : decode b_Wh_multiplyBy10AndAdd 40 = .ok (.lushr, 1) := by decide +kernel
theorem d_Wh_multiplyBy10AndAdd_41 : decode b_Wh_multiplyBy10AndAdd 41 = .ok (.lstore_n 2, 1) := by decide +kernel
theorem d_Wh_multiplyBy10AndAdd_42 : decode b_Wh_multiplyBy10AndAdd 42 = .ok (.iinc 4 1, 3) := by decide +kernel
theorem d_Wh_multiplyBy10AndAdd_45 : decode b_Wh_multiplyBy10AndAdd 45 = .ok (.goto (-39), 3) := by decide +kernel
theorem d_Wh_multiplyBy10AndAdd_48 : decode b_Wh_multiplyBy10AndAdd 48 = .ok (.aload_n 0, 1) := by decide +kernel
theorem d_Wh_multiplyBy10AndAdd_49 : decode b_Wh_multiplyBy10AndAdd 49 = .ok (.getfield 9, 3) := by decide +kernel
theorem d_Wh_multiplyBy10AndAdd_52 : decode b_Wh_multiplyBy10AndAdd 52 = .ok (.aload_n 0, 1) := by decide +kernel
theorem d_Wh_multiplyBy10AndAdd_53 : decode b_Wh_multiplyBy10AndAdd 53 = .ok (.getfield 29, 3) := by decide +kernel
theorem d_Wh_multiplyBy10AndAdd_56 : decode b_Wh_multiplyBy10AndAdd 56 = .ok (.lload_n 2, 1) := by decide +kernel
theorem d_Wh_multiplyBy10AndAdd_57 : decode b_Wh_multiplyBy10AndAdd 57 = .ok (.l2i, 1) := by decide +kernel
theorem d_Wh_multiplyBy10AndAdd_58 : decode b_Wh_multiplyBy10AndAdd 58 = .ok (.iastore, 1) := by decide +kernel
theorem d_Wh_multiplyBy10AndAdd_59 : decode b_Wh_multiplyBy10AndAdd 59 = .ok (.aload_n 0, 1) := by decide +kernel
theorem d_Wh_multiplyBy10AndAdd_60 : decode b_Wh_multiplyBy10AndAdd 60 = .ok (.aload_n 0, 1) := by decide +kernel
theorem d_Wh_multiplyBy10AndAdd_61 : decode b_Wh_multiplyBy10AndAdd 61 = .ok (.getfield 29, 3) := by decide +kernel
theorem d_Wh_multiplyBy10AndAdd_64 : decode b_Wh_multiplyBy10AndAdd 64 = .ok (.iconst 1, 1) := by decide +kernel
theorem d_Wh_multiplyBy10AndAdd_65 : decode b_Wh_multiplyBy10AndAdd 65 = .ok (.iadd, 1) := by decide +kernel
theorem d_Wh_multiplyBy10AndAdd_66 : decode b_Wh_multiplyBy10AndAdd 66 = .ok (.invokevirtual 19, 3) := by decide +kernel
theorem d_Wh_multiplyBy10AndAdd_69 : decode b_Wh_multiplyBy10AndAdd 69 = .ok (.return_, 1) := by decide +kernel
/-! Wh_quotientWithoutSign: ('CellHeap$Whole', 'quotientWithoutSign', '(JJ)J') -/
abbrev b_Wh_quotientWithoutSign : ByteArray := prog_8_method_20_code
abbrev y_Wh_quotientWithoutSign : MethodName := ⟨R_Wh, "quotientWithoutSign", "(JJ)J"⟩
abbrev K_Wh_quotientWithoutSign := CanL y_Wh_quotientWithoutSign b_Wh_quotientWithoutSign 6 ((some .long)) 0 0 0
theorem I_Wh_quotientWithoutSign {h : HP} {v0 : Int64} {v2 : Int64} {Φ : Int64 → HP → Prop} (body : ∀ X : CX, Cok X b_Wh_quotientWithoutSign 6 R_Wh ((some .long)) → xR X = rml 0 0 0 → Qok X 0 0 (fun r h2 => ∃ v, r = some (.long v) ∧ Φ v h2) → Wg X 0 0 h [(0, .long v0), (2, .long v2)] [] 0) : K_Wh_quotientWithoutSign [.long v0, .long v2] h Φ := Can.intro (by decide) (fun _ => Nat.le_of_ble_eq_true rfl) body
theorem M_Wh_quotientWithoutSign : Ms y_Wh_quotientWithoutSign b_Wh_quotientWithoutSign 6 ((some .long)) 2 := ⟨wx_in 608 (by decide +kernel) rfl, wx_in 607 (by decide +kernel) rfl, wx_in 70 (by decide +kernel) rfl, by decide +kernel, by decide⟩
theorem d_Wh_quotientWithoutSign_0 : decode b_Wh_quotientWithoutSign 0 = .ok (.lload_n 0, 1) := by decide +kernel
theorem d_Wh_quotientWithoutSign_1 : decode b_Wh_quotientWithoutSign 1 = .ok (.iconst 1, 1) := by decide +kernel
theorem d_Wh_quotientWithoutSign_2 : decode b_Wh_quotientWithoutSign 2 = .ok (.lushr, 1) := by decide +kernel
theorem d_Wh_quotientWithoutSign_3 : decode b_Wh_quotientWithoutSign 3 = .ok (.lload_n 2, 1) := by decide +kernel
theorem d_Wh_quotientWithoutSign_4 : decode b_Wh_quotientWithoutSign 4 = .ok (.ldiv, 1) := by decide +kernel
theorem d_Wh_quotientWithoutSign_5 : decode b_Wh_quotientWithoutSign 5 = .ok (.iconst 1, 1) := by decide +kernel
theorem d_Wh_quotientWithoutSign_6 : decode b_Wh_quotientWithoutSign 6 = .ok (.lshl, 1) := by decide +kernel
theorem d_Wh_quotientWithoutSign_7 : decode b_Wh_quotientWithoutSign 7 = .ok (.lstore 4, 2) := by decide +kernel
theorem d_Wh_quotientWithoutSign_9 : decode b_Wh_quotientWithoutSign 9 = .ok (.lload_n 0, 1) := by decide +kernel
theorem d_Wh_quotientWithoutSign_10 : decode b_Wh_quotientWithoutSign 10 = .ok (.lload 4, 2) := by decide +kernel
theorem d_Wh_quotientWithoutSign_12 : decode b_Wh_quotientWithoutSign 12 = .ok (.lload_n 2, 1) := by decide +kernel
theorem d_Wh_quotientWithoutSign_13 : decode b_Wh_quotientWithoutSign 13 = .ok (.lmul, 1) := by decide +kernel
theorem d_Wh_quotientWithoutSign_14 : decode b_Wh_quotientWithoutSign 14 = .ok (.lsub, 1) := by decide +kernel
theorem d_Wh_quotientWithoutSign_15 : decode b_Wh_quotientWithoutSign 15 = .ok (.lload_n 2, 1) := by decide +kernel
theorem d_Wh_quotientWithoutSign_16 : decode b_Wh_quotientWithoutSign 16 = .ok (.lcmp, 1) := by decide +kernel
theorem d_Wh_quotientWithoutSign_17 : decode b_Wh_quotientWithoutSign 17 = .ok (.ifCond .lt 10, 3) := by decide +kernel
theorem d_Wh_quotientWithoutSign_20 : decode b_Wh_quotientWithoutSign 20 = .ok (.lload 4, 2) := by decide +kernel
theorem d_Wh_quotientWithoutSign_22 : decode b_Wh_quotientWithoutSign 22 = .ok (.lconst 1, 1) := by decide +kernel
theorem d_Wh_quotientWithoutSign_23 : decode b_Wh_quotientWithoutSign 23 = .ok (.ladd, 1) := by decide +kernel
theorem d_Wh_quotientWithoutSign_24 : decode b_Wh_quotientWithoutSign 24 = .ok (.goto 5, 3) := by decide +kernel
theorem d_Wh_quotientWithoutSign_27 : decode b_Wh_quotientWithoutSign 27 = .ok (.lload 4, 2) := by decide +kernel
theorem d_Wh_quotientWithoutSign_29 : decode b_Wh_quotientWithoutSign 29 = .ok (.lreturn, 1) := by decide +kernel
/-! Wh_divideByWord: ('CellHeap$Whole', 'divideByWord', '(J)J') -/
abbrev b_Wh_divideByWord : ByteArray := prog_8_method_19_code
abbrev y_Wh_divideByWord : MethodName := ⟨R_Wh, "divideByWord", "(J)J"⟩
abbrev K_Wh_divideByWord := CanL y_Wh_divideByWord b_Wh_divideByWord 10 ((some .long)) 1 0 0
theorem I_Wh_divideByWord {h : HP} {p0 : Nat} {v1 : Int64} {Φ : Int64 → HP → Prop} (body : ∀ X : CX, Cok X b_Wh_divideByWord 10 R_Wh ((some .long)) → xR X = rml 1 0 0 → Qok X 0 0 (fun r h2 => ∃ v, r = some (.long v) ∧ Φ v h2) → Wg X 0 0 h [(0, .ref p0), (1, .long v1)] [] 0) : K_Wh_divideByWord [.ref p0, .long v1] h Φ := Can.intro (by decide) (fun _ => Nat.le_of_ble_eq_true rfl) body
theorem M_Wh_divideByWord : Mv y_Wh_divideByWord b_Wh_divideByWord 10 ((some .long)) 1 0 := ⟨wx_in 604 (by decide +kernel) rfl, wx_in 602 (by decide +kernel) rfl, wx_in 603 (by decide +kernel) rfl, wx_in 70 (by decide +kernel) rfl, by decide +kernel, by decide, by decide, _, _, rfl⟩
theorem d_Wh_divideByWord_0 : decode b_Wh_divideByWord 0 = .ok (.lconst 0, 1) := by decide +kernel
theorem d_Wh_divideByWord_1 : decode b_Wh_divideByWord 1 = .ok (.lstore_n 3, 1) := by decide +kernel
theorem d_Wh_divideByWord_2 : decode b_Wh_divideByWord 2 = .ok (.aload_n 0, 1) := by decide +kernel
theorem d_Wh_divideByWord_3 : decode b_Wh_divideByWord 3 = .ok (.getfield 29, 3) := by decide +kernel
theorem d_Wh_divideByWord_6 : decode b_Wh_divideByWord 6 = .ok (.iconst 1, 1) := by decide +kernel
theorem d_Wh_divideByWord_7 : decode b_Wh_divideByWord 7 = .ok (.isub, 1) := by decide +kernel
theorem d_Wh_divideByWord_8 : decode b_Wh_divideByWord 8 = .ok (.istore 5, 2) := by decide +kernel
theorem d_Wh_divideByWord_10 : decode b_Wh_divideByWord 10 = .ok (.iload 5, 2) := by decide +kernel
theorem d_Wh_divideByWord_12 : decode b_Wh_divideByWord 12 = .ok (.ifCond .lt 48, 3) := by decide +kernel
theorem d_Wh_divideByWord_15 : decode b_Wh_divideByWord 15 = .ok (.lload_n 3, 1) := by decide +kernel
theorem d_Wh_divideByWord_16 : decode b_Wh_divideByWord 16 = .ok (.bipush 32, 2) := by decide +kernel
theorem d_Wh_divideByWord_18 : decode b_Wh_divideByWord 18 = .ok (.lshl, 1) := by decide +kernel
theorem d_Wh_divideByWord_19 : decode b_Wh_divideByWord 19 = .ok (.aload_n 0, 1) := by decide +kernel
theorem d_Wh_divideByWord_20 : decode b_Wh_divideByWord 20 = .ok (.iload 5, 2) := by decide +kernel
theorem d_Wh_divideByWord_22 : decode b_Wh_divideByWord 22 = .ok (.invokevirtual 41, 3) := by decide +kernel
theorem d_Wh_divideByWord_25 : decode b_Wh_divideByWord 25 = .ok (.lor, 1) := by decide +kernel
theorem d_Wh_divideByWord_26 : decode b_Wh_divideByWord 26 = .ok (.lstore 6, 2) := by decide +kernel
theorem d_Wh_divideByWord_28 : decode b_Wh_divideByWord 28 = .ok (.lload 6, 2) := by decide +kernel
theorem d_Wh_divideByWord_30 : decode b_Wh_divideByWord 30 = .ok (.lload_n 1, 1) := by decide +kernel
theorem d_Wh_divideByWord_31 : decode b_Wh_divideByWord 31 = .ok (.invokestatic 70, 3) := by decide +kernel
theorem d_Wh_divideByWord_34 : decode b_Wh_divideByWord 34 = .ok (.lstore 8, 2) := by decide +kernel
theorem d_Wh_divideByWord_36 : decode b_Wh_divideByWord 36 = .ok (.aload_n 0, 1) := by decide +kernel
theorem d_Wh_divideByWord_37 : decode b_Wh_divideByWord 37 = .ok (.getfield 9, 3) := by decide +kernel
theorem d_Wh_divideByWord_40 : decode b_Wh_divideByWord 40 = .ok (.iload 5, 2) := by decide +kernel
theorem d_Wh_divideByWord_42 : decode b_Wh_divideByWord 42 = .ok (.lload 8, 2) := by decide +kernel
theorem d_Wh_divideByWord_44 : decode b_Wh_divideByWord 44 = .ok (.l2i, 1) := by decide +kernel
theorem d_Wh_divideByWord_45 : decode b_Wh_divideByWord 45 = .ok (.iastore, 1) := by decide +kernel
theorem d_Wh_divideByWord_46 : decode b_Wh_divideByWord 46 = .ok (.lload 6, 2) := by decide +kernel
theorem d_Wh_divideByWord_48 : decode b_Wh_divideByWord 48 = .ok (.lload 8, 2) := by decide +kernel
theorem d_Wh_divideByWord_50 : decode b_Wh_divideByWord 50 = .ok (.lload_n 1, 1) := by decide +kernel
theorem d_Wh_divideByWord_51 : decode b_Wh_divideByWord 51 = .ok (.lmul, 1) := by decide +kernel
theorem d_Wh_divideByWord_52 : decode b_Wh_divideByWord 52 = .ok (.lsub, 1) := by decide +kernel
theorem d_Wh_divideByWord_53 : decode b_Wh_divideByWord 53 = .ok (.lstore_n 3, 1) := by decide +kernel
theorem d_Wh_divideByWord_54 : decode b_Wh_divideByWord 54 = .ok (.iinc 5 (-1), 3) := by decide +kernel
theorem d_Wh_divideByWord_57 : decode b_Wh_divideByWord 57 = .ok (.goto (-47), 3) := by decide +kernel
theorem d_Wh_divideByWord_60 : decode b_Wh_divideByWord 60 = .ok (.aload_n 0, 1) := by decide +kernel
theorem d_Wh_divideByWord_61 : decode b_Wh_divideByWord 61 = .ok (.aload_n 0, 1) := by decide +kernel
theorem d_Wh_divideByWord_62 : decode b_Wh_divideByWord 62 = .ok (.getfield 29, 3) := by decide +kernel
theorem d_Wh_divideByWord_65 : decode b_Wh_divideByWord 65 = .ok (.invokevirtual 19, 3) := by decide +kernel
theorem d_Wh_divideByWord_68 : decode b_Wh_divideByWord 68 = .ok (.lload_n 3, 1) := by decide +kernel
theorem d_Wh_divideByWord_69 : decode b_Wh_divideByWord 69 = .ok (.lreturn, 1) := by decide +kernel
set_option maxRecDepth 20000 in
theorem g_Ar_rangeCheck_0 {X : CX} {h : HP} {v0 : Int32} {v1 : Int32} {v2 : Int32} {Φ : HP → Prop} (C : Cok X b_Ar_rangeCheck 3 R_Arrays none) (Rm : xR X = rml 9 0 0) (Q : Qok X 0 0 (fun r h2 => r = none ∧ Φ h2)) 
    (K : (v1 ≤ v2 → (0 ≤ v1 → (v2 ≤ v0 → Φ h) ∧ (¬ v2 ≤ v0 → False)) ∧ (¬ 0 ≤ v1 → False)) ∧ (¬ v1 ≤ v2 → False)) :
    Wg X 0 0 h [(0, .int v0), (1, .int v1), (2, .int v2)] [] 0 := by
  refine r_iload_n C 1 rfl d_Ar_rangeCheck_0 ?_
  refine r_iload_n C 2 rfl d_Ar_rangeCheck_1 ?_
  refine r_icmp_le C 46 d_Ar_rangeCheck_2 (by decide) ⟨fun c0 => ?_, fun c0 => ?_⟩
  · have K := K.1 c0
    refine r_iload_n C 1 rfl d_Ar_rangeCheck_46 ?_
    refine r_if_ge C 59 d_Ar_rangeCheck_47 (by decide) ⟨fun c0 => ?_, fun c0 => ?_⟩
    · have K := K.1 c0
      refine r_iload_n C 2 rfl d_Ar_rangeCheck_59 ?_
      refine r_iload_n C 0 rfl d_Ar_rangeCheck_60 ?_
      refine r_icmp_le C 73 d_Ar_rangeCheck_61 (by decide) ⟨fun c0 => ?_, fun c0 => ?_⟩
      · have K := K.1 c0
        exact q_vret C Q d_Ar_rangeCheck_73 ⟨rfl, K⟩
      · have K := K.2 c0
        exact K.elim
    · have K := K.2 c0
      exact K.elim
  · have K := K.2 c0
    exact K.elim
set_option maxRecDepth 20000 in
theorem g_Ar_fill_0 {X : CX} {h : HP} {p0 : Nat} {n0 : Nat} {v1 : Int32} {v2 : Int32} {v3 : Int32} {Φ : HP → Prop} (C : Cok X b_Ar_fill 5 R_Arrays none) (Rm : xR X = rml 10 0 0) (Q : Qok X 0 0 (fun r h2 => r = none ∧ Φ h2)) (hp0 : kd p0 = (10, n0))
    (K : K_Ar_rangeCheck [.int (Int32.ofNat n0), .int v1, .int v2] h (fun h1 => Wg X 0 0 h1 [(0, .ref p0), (1, .int v1), (2, .int v2), (3, .int v3), (4, .int v1)] [] 10)) :
    Wg X 0 0 h [(0, .ref p0), (1, .int v1), (2, .int v2), (3, .int v3)] [] 0 := by
  refine r_aload_n C 0 rfl d_Ar_fill_0 ?_
  refine r_alen_10 C hp0 d_Ar_fill_1 ?_
  refine r_iload_n C 1 rfl d_Ar_fill_2 ?_
  refine r_iload_n C 2 rfl d_Ar_fill_3 ?_
  refine r_callS (As := [.int (Int32.ofNat n0), .int v1, .int v2]) (st := []) (lvc := 9) (mcc := 0) (msc := 0) C Rm M_Ar_rangeCheck rfl k_590 (by decide) (Nat.le_of_ble_eq_true rfl) ⟨by decide, by decide⟩ d_Ar_fill_4 ?_
  refine Can.mono K (fun _ h1 z => ?_)
  obtain ⟨rfl, K⟩ := z
  show Wg X 0 0 h1 [(0, .ref p0), (1, .int v1), (2, .int v2), (3, .int v3)] [] 7
  refine r_iload_n C 1 rfl d_Ar_fill_7 ?_
  refine r_istore (ls2 := [(0, .ref p0), (1, .int v1), (2, .int v2), (3, .int v3), (4, .int v1)]) C (by decide) rfl d_Ar_fill_8 ?_
  exact K
set_option maxRecDepth 20000 in
theorem g_Ar_fill_10 {X : CX} {h : HP} {p0 : Nat} {n0 : Nat} {v1 : Int32} {v2 : Int32} {v3 : Int32} {v4 : Int32} {Φ : HP → Prop} (C : Cok X b_Ar_fill 5 R_Arrays none) (Rm : xR X = rml 10 0 0) (Q : Qok X 0 0 (fun r h2 => r = none ∧ Φ h2)) (hp0 : kd p0 = (10, n0))
    (K : (v2 ≤ v4 → Φ h) ∧ (¬ v2 ≤ v4 → vp_in v4 n0 ∧ (Wg X 0 0 (up h p0 v4.toNatClampNeg v3) [(0, .ref p0), (1, .int v1), (2, .int v2), (3, .int v3), (4, .int (v4 + 1))] [] 10))) :
    Wg X 0 0 h [(0, .ref p0), (1, .int v1), (2, .int v2), (3, .int v3), (4, .int v4)] [] 10 := by
  refine r_iload C 4 rfl d_Ar_fill_10 ?_
  refine r_iload_n C 2 rfl d_Ar_fill_12 ?_
  refine r_icmp_ge C 27 d_Ar_fill_13 (by decide) ⟨fun c0 => ?_, fun c0 => ?_⟩
  · have K := K.1 c0
    exact q_vret C Q d_Ar_fill_27 ⟨rfl, K⟩
  · have K := K.2 c0
    refine r_aload_n C 0 rfl d_Ar_fill_16 ?_
    refine r_iload C 4 rfl d_Ar_fill_17 ?_
    refine r_iload_n C 3 rfl d_Ar_fill_19 ?_
    obtain ⟨s0, K⟩ := K
    refine r_iast C hp0 s0 d_Ar_fill_20 ?_
    refine r_iinc (ls2 := [(0, .ref p0), (1, .int v1), (2, .int v2), (3, .int v3), (4, .int (v4 + 1))]) C 4 (m := 1) rfl (by decide) (by decide) rfl d_Ar_fill_21 ?_
    refine r_goto C 10 d_Ar_fill_24 (by decide) ?_
    exact K
set_option maxRecDepth 20000 in
theorem g_In_nlz_0 {X : CX} {h : HP} {v0 : Int32} {Φ : Int32 → HP → Prop} (C : Cok X b_In_nlz 2 R_Integer ((some .int))) (Rm : xR X = rml 0 0 0) (Q : Qok X 0 0 (fun r h2 => ∃ v, r = some (.int v) ∧ Φ v h2)) 
    (K : (0 < v0 → (v0 < (65536 : Int32) → Wg X 0 0 h [(0, .int v0), (1, .int 31)] [] 33) ∧ (¬ v0 < (65536 : Int32) → Wg X 0 0 h [(0, .int (iushr v0 16)), (1, .int (31 + (-16)))] [] 33)) ∧ (¬ 0 < v0 → (¬ v0 = 0 → Φ 0 h) ∧ (v0 = 0 → Φ 32 h))) :
    Wg X 0 0 h [(0, .int v0)] [] 0 := by
  refine r_iload_n C 0 rfl d_In_nlz_0 ?_
  refine r_if_gt C 15 d_In_nlz_1 (by decide) ⟨fun c0 => ?_, fun c0 => ?_⟩
  · have K := K.1 c0
    refine r_bipush (v := 31) C (by decide) d_In_nlz_15 ?_
    refine r_istore_n (ls2 := [(0, .int v0), (1, .int 31)]) C rfl (by decide) rfl d_In_nlz_17 ?_
    refine r_iload_n C 0 rfl d_In_nlz_18 ?_
    refine r_ldc_w (v := 65536) C k_557 d_In_nlz_19 ?_
    refine r_icmp_lt C 33 d_In_nlz_22 (by decide) ⟨fun c0 => ?_, fun c0 => ?_⟩
    · have K := K.1 c0
      exact K
    · have K := K.2 c0
      refine r_iinc (ls2 := [(0, .int v0), (1, .int (31 + (-16)))]) C 1 (m := -16) rfl (by decide) (by decide) rfl d_In_nlz_25 ?_
      refine r_iload_n C 0 rfl d_In_nlz_28 ?_
      refine r_bipush (v := 16) C (by decide) d_In_nlz_29 ?_
      refine r_iushr C d_In_nlz_31 ?_
      refine r_istore_n (ls2 := [(0, .int (iushr v0 16)), (1, .int (31 + (-16)))]) C rfl (by decide) rfl d_In_nlz_32 ?_
      exact K
  · have K := K.2 c0
    refine r_iload_n C 0 rfl d_In_nlz_4 ?_
    refine r_if_ne C 13 d_In_nlz_5 (by decide) ⟨fun c0 => ?_, fun c0 => ?_⟩
    · have K := K.1 c0
      refine r_iconst (v := 0) C (by decide) d_In_nlz_13 ?_
      exact q_iret C Q d_In_nlz_14 ⟨_, rfl, K⟩
    · have K := K.2 c0
      refine r_bipush (v := 32) C (by decide) d_In_nlz_8 ?_
      refine r_goto C 14 d_In_nlz_10 (by decide) ?_
      exact q_iret C Q d_In_nlz_14 ⟨_, rfl, K⟩
set_option maxRecDepth 20000 in
theorem g_In_nlz_33 {X : CX} {h : HP} {v0 : Int32} {v1 : Int32} {Φ : Int32 → HP → Prop} (C : Cok X b_In_nlz 2 R_Integer ((some .int))) (Rm : xR X = rml 0 0 0) (Q : Qok X 0 0 (fun r h2 => ∃ v, r = some (.int v) ∧ Φ v h2)) 
    (K : (v0 < (256 : Int32) → (v0 < (16 : Int32) → Wg X 0 0 h [(0, .int v0), (1, .int v1)] [] 61) ∧ (¬ v0 < (16 : Int32) → Wg X 0 0 h [(0, .int (iushr v0 4)), (1, .int (v1 + (-4)))] [] 61)) ∧ (¬ v0 < (256 : Int32) → (((iushr v0 8)) < (16 : Int32) → Wg X 0 0 h [(0, .int (iushr v0 8)), (1, .int (v1 + (-8)))] [] 61) ∧ (¬ ((iushr v0 8)) < (16 : Int32) → Wg X 0 0 h [(0, .int (iushr (iushr v0 8) 4)), (1, .int ((v1 + (-8)) + (-4)))] [] 61))) :
    Wg X 0 0 h [(0, .int v0), (1, .int v1)] [] 33 := by
  refine r_iload_n C 0 rfl d_In_nlz_33 ?_
  refine r_sipush (v := 256) C (by decide) d_In_nlz_34 ?_
  refine r_icmp_lt C 48 d_In_nlz_37 (by decide) ⟨fun c0 => ?_, fun c0 => ?_⟩
  · have K := K.1 c0
    refine r_iload_n C 0 rfl d_In_nlz_48 ?_
    refine r_bipush (v := 16) C (by decide) d_In_nlz_49 ?_
    refine r_icmp_lt C 61 d_In_nlz_51 (by decide) ⟨fun c0 => ?_, fun c0 => ?_⟩
    · have K := K.1 c0
      exact K
    · have K := K.2 c0
      refine r_iinc (ls2 := [(0, .int v0), (1, .int (v1 + (-4)))]) C 1 (m := -4) rfl (by decide) (by decide) rfl d_In_nlz_54 ?_
      refine r_iload_n C 0 rfl d_In_nlz_57 ?_
      refine r_iconst (v := 4) C (by decide) d_In_nlz_58 ?_
      refine r_iushr C d_In_nlz_59 ?_
      refine r_istore_n (ls2 := [(0, .int (iushr v0 4)), (1, .int (v1 + (-4)))]) C rfl (by decide) rfl d_In_nlz_60 ?_
      exact K
  · have K := K.2 c0
    refine r_iinc (ls2 := [(0, .int v0), (1, .int (v1 + (-8)))]) C 1 (m := -8) rfl (by decide) (by decide) rfl d_In_nlz_40 ?_
    refine r_iload_n C 0 rfl d_In_nlz_43 ?_
    refine r_bipush (v := 8) C (by decide) d_In_nlz_44 ?_
    refine r_iushr C d_In_nlz_46 ?_
    refine r_istore_n (ls2 := [(0, .int (iushr v0 8)), (1, .int (v1 + (-8)))]) C rfl (by decide) rfl d_In_nlz_47 ?_
    refine r_iload_n C 0 rfl d_In_nlz_48 ?_
    refine r_bipush (v := 16) C (by decide) d_In_nlz_49 ?_
    refine r_icmp_lt C 61 d_In_nlz_51 (by decide) ⟨fun c0 => ?_, fun c0 => ?_⟩
    · have K := K.1 c0
      exact K
    · have K := K.2 c0
      refine r_iinc (ls2 := [(0, .int (iushr v0 8)), (1, .int ((v1 + (-8)) + (-4)))]) C 1 (m := -4) rfl (by decide) (by decide) rfl d_In_nlz_54 ?_
      refine r_iload_n C 0 rfl d_In_nlz_57 ?_
      refine r_iconst (v := 4) C (by decide) d_In_nlz_58 ?_
      refine r_iushr C d_In_nlz_59 ?_
      refine r_istore_n (ls2 := [(0, .int (iushr (iushr v0 8) 4)), (1, .int ((v1 + (-8)) + (-4)))]) C rfl (by decide) rfl d_In_nlz_60 ?_
      exact K
set_option maxRecDepth 20000 in
theorem g_In_nlz_61 {X : CX} {h : HP} {v0 : Int32} {v1 : Int32} {Φ : Int32 → HP → Prop} (C : Cok X b_In_nlz 2 R_Integer ((some .int))) (Rm : xR X = rml 0 0 0) (Q : Qok X 0 0 (fun r h2 => ∃ v, r = some (.int v) ∧ Φ v h2)) 
    (K : (v0 < (4 : Int32) → Φ (v1 - (iushr v0 1)) h) ∧ (¬ v0 < (4 : Int32) → Φ ((v1 + (-2)) - (iushr (iushr v0 2) 1)) h)) :
    Wg X 0 0 h [(0, .int v0), (1, .int v1)] [] 61 := by
  refine r_iload_n C 0 rfl d_In_nlz_61 ?_
  refine r_iconst (v := 4) C (by decide) d_In_nlz_62 ?_
  refine r_icmp_lt C 73 d_In_nlz_63 (by decide) ⟨fun c0 => ?_, fun c0 => ?_⟩
  · have K := K.1 c0
    refine r_iload_n C 1 rfl d_In_nlz_73 ?_
    refine r_iload_n C 0 rfl d_In_nlz_74 ?_
    refine r_iconst (v := 1) C (by decide) d_In_nlz_75 ?_
    refine r_iushr C d_In_nlz_76 ?_
    refine r_isub C d_In_nlz_77 ?_
    exact q_iret C Q d_In_nlz_78 ⟨_, rfl, K⟩
  · have K := K.2 c0
    refine r_iinc (ls2 := [(0, .int v0), (1, .int (v1 + (-2)))]) C 1 (m := -2) rfl (by decide) (by decide) rfl d_In_nlz_66 ?_
    refine r_iload_n C 0 rfl d_In_nlz_69 ?_
    refine r_iconst (v := 2) C (by decide) d_In_nlz_70 ?_
    refine r_iushr C d_In_nlz_71 ?_
    refine r_istore_n (ls2 := [(0, .int (iushr v0 2)), (1, .int (v1 + (-2)))]) C rfl (by decide) rfl d_In_nlz_72 ?_
    refine r_iload_n C 1 rfl d_In_nlz_73 ?_
    refine r_iload_n C 0 rfl d_In_nlz_74 ?_
    refine r_iconst (v := 1) C (by decide) d_In_nlz_75 ?_
    refine r_iushr C d_In_nlz_76 ?_
    refine r_isub C d_In_nlz_77 ?_
    exact q_iret C Q d_In_nlz_78 ⟨_, rfl, K⟩
set_option maxRecDepth 20000 in
theorem g_Wh_trim_0 {X : CX} {h : HP} {p0 : Nat} {v1 : Int32} {Φ : HP → Prop} (C : Cok X b_Wh_trim 2 R_Wh none) (Rm : xR X = rml 0 0 0) (Q : Qok X 0 0 (fun r h2 => r = none ∧ Φ h2)) (hp0 : kd p0 = (0, 0))
    (K : Wg X 0 0 (up h p0 1 v1) [(0, .ref p0), (1, .int v1)] [] 5) :
    Wg X 0 0 h [(0, .ref p0), (1, .int v1)] [] 0 := by
  refine r_aload_n C 0 rfl d_Wh_trim_0 ?_
  refine r_iload_n C 1 rfl d_Wh_trim_1 ?_
  refine pf_Wh_length C hp0 k_109 d_Wh_trim_2 ?_
  exact K
set_option maxRecDepth 20000 in
theorem g_Wh_trim_5 {X : CX} {h : HP} {p0 : Nat} {v1 : Int32} {Φ : HP → Prop} (C : Cok X b_Wh_trim 2 R_Wh none) (Rm : xR X = rml 0 0 0) (Q : Qok X 0 0 (fun r h2 => r = none ∧ Φ h2)) (hp0 : kd p0 = (0, 0))
    (K : ((h p0 1) ≤ 0 → Wg X 0 0 h [(0, .ref p0), (1, .int v1)] [] 39) ∧ (¬ (h p0 1) ≤ 0 → vp_in ((h p0 1) - 1) 44 ∧ ((¬ (h (p0 + 1) ((h p0 1) - 1).toNatClampNeg) = 0 → Wg X 0 0 h [(0, .ref p0), (1, .int v1)] [] 39) ∧ ((h (p0 + 1) ((h p0 1) - 1).toNatClampNeg) = 0 → Wg X 0 0 (up h p0 1 ((h p0 1) - 1)) [(0, .ref p0), (1, .int v1)] [] 5)))) :
    Wg X 0 0 h [(0, .ref p0), (1, .int v1)] [] 5 := by
  refine r_aload_n C 0 rfl d_Wh_trim_5 ?_
  refine gf_Wh_length C hp0 k_109 d_Wh_trim_6 ?_
  refine r_if_le C 39 d_Wh_trim_9 (by decide) ⟨fun c0 => ?_, fun c0 => ?_⟩
  · have K := K.1 c0
    exact K
  · have K := K.2 c0
    refine r_aload_n C 0 rfl d_Wh_trim_12 ?_
    refine gf_Wh_words (k2 := p0 + 1) C rfl hp0 k_105 d_Wh_trim_13 ?_
    refine r_aload_n C 0 rfl d_Wh_trim_16 ?_
    refine gf_Wh_length C hp0 k_109 d_Wh_trim_17 ?_
    refine r_iconst (v := 1) C (by decide) d_Wh_trim_20 ?_
    refine r_isub C d_Wh_trim_21 ?_
    obtain ⟨s0, K⟩ := K
    refine r_iald C (kWh1 hp0) s0 d_Wh_trim_22 ?_
    refine r_if_ne C 39 d_Wh_trim_23 (by decide) ⟨fun c0 => ?_, fun c0 => ?_⟩
    · have K := K.1 c0
      exact K
    · have K := K.2 c0
      refine r_aload_n C 0 rfl d_Wh_trim_26 ?_
      refine r_dup C rfl d_Wh_trim_27 ?_
      refine gf_Wh_length C hp0 k_109 d_Wh_trim_28 ?_
      refine r_iconst (v := 1) C (by decide) d_Wh_trim_31 ?_
      refine r_isub C d_Wh_trim_32 ?_
      refine pf_Wh_length C hp0 k_109 d_Wh_trim_33 ?_
      refine r_goto C 5 d_Wh_trim_36 (by decide) ?_
      exact K
set_option maxRecDepth 20000 in
theorem g_Wh_trim_39 {X : CX} {h : HP} {p0 : Nat} {v1 : Int32} {Φ : HP → Prop} (C : Cok X b_Wh_trim 2 R_Wh none) (Rm : xR X = rml 0 0 0) (Q : Qok X 0 0 (fun r h2 => r = none ∧ Φ h2)) (hp0 : kd p0 = (0, 0))
    (K : ((h p0 2) = 0 → Φ (up h p0 2 0)) ∧ (¬ (h p0 2) = 0 → ((h p0 1) ≤ 0 → Φ (up h p0 2 0)) ∧ (¬ (h p0 1) ≤ 0 → Φ (up h p0 2 1)))) :
    Wg X 0 0 h [(0, .ref p0), (1, .int v1)] [] 39 := by
  refine r_aload_n C 0 rfl d_Wh_trim_39 ?_
  refine r_aload_n C 0 rfl d_Wh_trim_40 ?_
  refine gf_Wh_below C hp0 k_112 d_Wh_trim_41 ?_
  refine r_if_eq C 58 d_Wh_trim_44 (by decide) ⟨fun c0 => ?_, fun c0 => ?_⟩
  · have K := K.1 c0
    refine r_iconst (v := 0) C (by decide) d_Wh_trim_58 ?_
    refine pf_Wh_below C hp0 (by decide) k_112 d_Wh_trim_59 ?_
    exact q_vret C Q d_Wh_trim_62 ⟨rfl, K⟩
  · have K := K.2 c0
    refine r_aload_n C 0 rfl d_Wh_trim_47 ?_
    refine gf_Wh_length C hp0 k_109 d_Wh_trim_48 ?_
    refine r_if_le C 58 d_Wh_trim_51 (by decide) ⟨fun c0 => ?_, fun c0 => ?_⟩
    · have K := K.1 c0
      refine r_iconst (v := 0) C (by decide) d_Wh_trim_58 ?_
      refine pf_Wh_below C hp0 (by decide) k_112 d_Wh_trim_59 ?_
      exact q_vret C Q d_Wh_trim_62 ⟨rfl, K⟩
    · have K := K.2 c0
      refine r_iconst (v := 1) C (by decide) d_Wh_trim_54 ?_
      refine r_goto C 59 d_Wh_trim_55 (by decide) ?_
      refine pf_Wh_below C hp0 (by decide) k_112 d_Wh_trim_59 ?_
      exact q_vret C Q d_Wh_trim_62 ⟨rfl, K⟩
set_option maxRecDepth 20000 in
theorem g_Wh_setLong_0 {X : CX} {h : HP} {p0 : Nat} {v1 : Int64} {Φ : HP → Prop} (C : Cok X b_Wh_setLong 5 R_Wh none) (Rm : xR X = rml 1 0 0) (Q : Qok X 0 0 (fun r h2 => r = none ∧ Φ h2)) (hp0 : kd p0 = (0, 0))
    (K : (0 ≤ (lg_cmp v1 0) → (((up h p0 2 0) p0 2) = 0 → Wg X 0 0 (up h p0 2 0) [(0, .ref p0), (1, .long v1)] [.long v1] 28) ∧ (¬ ((up h p0 2 0) p0 2) = 0 → Wg X 0 0 (up h p0 2 0) [(0, .ref p0), (1, .long v1)] [.long (-v1)] 28)) ∧ (¬ 0 ≤ (lg_cmp v1 0) → (((up h p0 2 1) p0 2) = 0 → Wg X 0 0 (up h p0 2 1) [(0, .ref p0), (1, .long v1)] [.long v1] 28) ∧ (¬ ((up h p0 2 1) p0 2) = 0 → Wg X 0 0 (up h p0 2 1) [(0, .ref p0), (1, .long v1)] [.long (-v1)] 28))) :
    Wg X 0 0 h [(0, .ref p0), (1, .long v1)] [] 0 := by
  refine r_aload_n C 0 rfl d_Wh_setLong_0 ?_
  refine r_lload_n C 1 rfl d_Wh_setLong_1 ?_
  refine r_lconst (v := 0) C (by decide) d_Wh_setLong_2 ?_
  refine r_lcmp C d_Wh_setLong_3 ?_
  refine r_if_ge C 11 d_Wh_setLong_4 (by decide) ⟨fun c0 => ?_, fun c0 => ?_⟩
  · have K := K.1 c0
    refine r_iconst (v := 0) C (by decide) d_Wh_setLong_11 ?_
    refine pf_Wh_below C hp0 (by decide) k_112 d_Wh_setLong_12 ?_
    refine r_aload_n C 0 rfl d_Wh_setLong_15 ?_
    refine gf_Wh_below C hp0 k_112 d_Wh_setLong_16 ?_
    refine r_if_eq C 27 d_Wh_setLong_19 (by decide) ⟨fun c0 => ?_, fun c0 => ?_⟩
    · have K := K.1 c0
      refine r_lload_n C 1 rfl d_Wh_setLong_27 ?_
      exact K
    · have K := K.2 c0
      refine r_lload_n C 1 rfl d_Wh_setLong_22 ?_
      refine r_lneg C d_Wh_setLong_23 ?_
      refine r_goto C 28 d_Wh_setLong_24 (by decide) ?_
      exact K
  · have K := K.2 c0
    refine r_iconst (v := 1) C (by decide) d_Wh_setLong_7 ?_
    refine r_goto C 12 d_Wh_setLong_8 (by decide) ?_
    refine pf_Wh_below C hp0 (by decide) k_112 d_Wh_setLong_12 ?_
    refine r_aload_n C 0 rfl d_Wh_setLong_15 ?_
    refine gf_Wh_below C hp0 k_112 d_Wh_setLong_16 ?_
    refine r_if_eq C 27 d_Wh_setLong_19 (by decide) ⟨fun c0 => ?_, fun c0 => ?_⟩
    · have K := K.1 c0
      refine r_lload_n C 1 rfl d_Wh_setLong_27 ?_
      exact K
    · have K := K.2 c0
      refine r_lload_n C 1 rfl d_Wh_setLong_22 ?_
      refine r_lneg C d_Wh_setLong_23 ?_
      refine r_goto C 28 d_Wh_setLong_24 (by decide) ?_
      exact K
set_option maxRecDepth 20000 in
theorem g_Wh_setLong_28 {X : CX} {h : HP} {p0 : Nat} {v1 : Int64} {t0 : Int64} {Φ : HP → Prop} (C : Cok X b_Wh_setLong 5 R_Wh none) (Rm : xR X = rml 1 0 0) (Q : Qok X 0 0 (fun r h2 => r = none ∧ Φ h2)) (hp0 : kd p0 = (0, 0))
    (K : vp_in 0 44 ∧ (vp_in 1 44 ∧ (K_Wh_trim [.ref p0, .int 2] (up (up h (p0 + 1) (0 : Int32).toNatClampNeg (Int64.toInt32 t0)) (p0 + 1) (1 : Int32).toNatClampNeg (Int64.toInt32 (lushr t0 32))) (fun h1 => Φ h1)))) :
    Wg X 0 0 h [(0, .ref p0), (1, .long v1)] [.long t0] 28 := by
  refine r_lstore_n (ls2 := [(0, .ref p0), (1, .long v1), (3, .long t0)]) C rfl (by decide) rfl d_Wh_setLong_28 ?_
  refine r_aload_n C 0 rfl d_Wh_setLong_29 ?_
  refine gf_Wh_words (k2 := p0 + 1) C rfl hp0 k_105 d_Wh_setLong_30 ?_
  refine r_iconst (v := 0) C (by decide) d_Wh_setLong_33 ?_
  refine r_lload_n C 2 rfl d_Wh_setLong_34 ?_
  refine r_l2i C d_Wh_setLong_35 ?_
  obtain ⟨s0, K⟩ := K
  refine r_iast C (kWh1 hp0) s0 d_Wh_setLong_36 ?_
  refine r_aload_n C 0 rfl d_Wh_setLong_37 ?_
  refine gf_Wh_words (k2 := p0 + 1) C rfl hp0 k_105 d_Wh_setLong_38 ?_
  refine r_iconst (v := 1) C (by decide) d_Wh_setLong_41 ?_
  refine r_lload_n C 2 rfl d_Wh_setLong_42 ?_
  refine r_bipush (v := 32) C (by decide) d_Wh_setLong_43 ?_
  refine r_lushr C d_Wh_setLong_45 ?_
  refine r_l2i C d_Wh_setLong_46 ?_
  obtain ⟨s0, K⟩ := K
  refine r_iast C (kWh1 hp0) s0 d_Wh_setLong_47 ?_
  refine r_aload_n C 0 rfl d_Wh_setLong_48 ?_
  refine r_iconst (v := 2) C (by decide) d_Wh_setLong_49 ?_
  refine r_callV (As := [.int 2]) (st := []) (lvc := 0) (mcc := 0) (msc := 0) C Rm M_Wh_trim rfl k_382 hp0 (by decide) (Nat.le_of_ble_eq_true rfl) ⟨by decide, by decide⟩ d_Wh_setLong_50 ?_
  refine Can.mono K (fun _ h1 z => ?_)
  obtain ⟨rfl, K⟩ := z
  show Wg X 0 0 h1 [(0, .ref p0), (1, .long v1), (3, .long t0)] [] 53
  exact q_vret C Q d_Wh_setLong_53 ⟨rfl, K⟩
set_option maxRecDepth 20000 in
theorem g_Wh_setWords_0 {X : CX} {h : HP} {p0 : Nat} {p1 : Nat} {n1 : Nat} {v2 : Int32} {v3 : Int32} {Φ : HP → Prop} (C : Cok X b_Wh_setWords 4 R_Wh none) (Rm : xR X = rml 2 0 0) (Q : Qok X 0 0 (fun r h2 => r = none ∧ Φ h2)) (hp0 : kd p0 = (0, 0)) (hp1 : kd p1 = (10, n1))
    (K : cp_in v2 v3 n1 ∧ cp_in 0 v3 44 ∧ (Φ (up (up (hs h (p0 + 1) (va_cpy (h p1) (h (p0 + 1)) v2.toNatClampNeg (0 : Int32).toNatClampNeg v3.toNatClampNeg)) p0 1 v3) p0 2 0))) :
    Wg X 0 0 h [(0, .ref p0), (1, .ref p1), (2, .int v2), (3, .int v3)] [] 0 := by
  refine r_aload_n C 1 rfl d_Wh_setWords_0 ?_
  refine r_iload_n C 2 rfl d_Wh_setWords_1 ?_
  refine r_aload_n C 0 rfl d_Wh_setWords_2 ?_
  refine gf_Wh_words (k2 := p0 + 1) C rfl hp0 k_105 d_Wh_setWords_3 ?_
  refine r_iconst (v := 0) C (by decide) d_Wh_setWords_6 ?_
  refine r_iload_n C 3 rfl d_Wh_setWords_7 ?_
  obtain ⟨s0, s1, K⟩ := K
  refine r_copy C Rm (by decide) k_506 hp1 (kWh1 hp0) s0 s1 (Nat.le_of_ble_eq_true rfl) d_Wh_setWords_8 ?_
  refine r_aload_n C 0 rfl d_Wh_setWords_11 ?_
  refine r_iload_n C 3 rfl d_Wh_setWords_12 ?_
  refine pf_Wh_length C hp0 k_109 d_Wh_setWords_13 ?_
  refine r_aload_n C 0 rfl d_Wh_setWords_16 ?_
  refine r_iconst (v := 0) C (by decide) d_Wh_setWords_17 ?_
  refine pf_Wh_below C hp0 (by decide) k_112 d_Wh_setWords_18 ?_
  exact q_vret C Q d_Wh_setWords_21 ⟨rfl, K⟩
set_option maxRecDepth 20000 in
theorem g_Wh_setTo_0 {X : CX} {h : HP} {p0 : Nat} {p1 : Nat} {Φ : HP → Prop} (C : Cok X b_Wh_setTo 2 R_Wh none) (Rm : xR X = rml 3 0 0) (Q : Qok X 0 0 (fun r h2 => r = none ∧ Φ h2)) (hp0 : kd p0 = (0, 0)) (hp1 : kd p1 = (0, 0))
    (K : K_Wh_setWords [.ref p0, .ref (p1 + 1), .int 0, .int (h p1 1)] h (fun h1 => ((h1 p1 2) = 0 ∨ (h1 p1 2) = 1) ∧ (Φ (up h1 p0 2 (h1 p1 2))))) :
    Wg X 0 0 h [(0, .ref p0), (1, .ref p1)] [] 0 := by
  refine r_aload_n C 0 rfl d_Wh_setTo_0 ?_
  refine r_aload_n C 1 rfl d_Wh_setTo_1 ?_
  refine gf_Wh_words (k2 := p1 + 1) C rfl hp1 k_105 d_Wh_setTo_2 ?_
  refine r_iconst (v := 0) C (by decide) d_Wh_setTo_5 ?_
  refine r_aload_n C 1 rfl d_Wh_setTo_6 ?_
  refine gf_Wh_length C hp1 k_109 d_Wh_setTo_7 ?_
  refine r_callV (As := [.ref (p1 + 1), .int 0, .int (h p1 1)]) (st := []) (lvc := 2) (mcc := 0) (msc := 0) C Rm M_Wh_setWords rfl k_525 hp0 (by decide) (Nat.le_of_ble_eq_true rfl) ⟨by decide, by decide⟩ d_Wh_setTo_10 ?_
  refine Can.mono K (fun _ h1 z => ?_)
  obtain ⟨rfl, K⟩ := z
  show Wg X 0 0 h1 [(0, .ref p0), (1, .ref p1)] [] 13
  refine r_aload_n C 0 rfl d_Wh_setTo_13 ?_
  refine r_aload_n C 1 rfl d_Wh_setTo_14 ?_
  refine gf_Wh_below C hp1 k_112 d_Wh_setTo_15 ?_
  obtain ⟨s0, K⟩ := K
  refine pf_Wh_below C hp0 s0 k_112 d_Wh_setTo_18 ?_
  exact q_vret C Q d_Wh_setTo_21 ⟨rfl, K⟩
set_option maxRecDepth 20000 in
theorem g_Wh_isZero_0 {X : CX} {h : HP} {p0 : Nat} {Φ : Int32 → HP → Prop} (C : Cok X b_Wh_isZero 1 R_Wh ((some .boolean))) (Rm : xR X = rml 0 0 0) (Q : Qok X 0 0 (fun r h2 => ∃ v, r = some (.int v) ∧ Φ v h2)) (hp0 : kd p0 = (0, 0))
    (K : (¬ (h p0 1) = 0 → Φ 0 h) ∧ ((h p0 1) = 0 → Φ 1 h)) :
    Wg X 0 0 h [(0, .ref p0)] [] 0 := by
  refine r_aload_n C 0 rfl d_Wh_isZero_0 ?_
  refine gf_Wh_length C hp0 k_109 d_Wh_isZero_1 ?_
  refine r_if_ne C 11 d_Wh_isZero_4 (by decide) ⟨fun c0 => ?_, fun c0 => ?_⟩
  · have K := K.1 c0
    refine r_iconst (v := 0) C (by decide) d_Wh_isZero_11 ?_
    exact q_zret C Q (by decide) d_Wh_isZero_12 ⟨_, rfl, K⟩
  · have K := K.2 c0
    refine r_iconst (v := 1) C (by decide) d_Wh_isZero_7 ?_
    refine r_goto C 12 d_Wh_isZero_8 (by decide) ?_
    exact q_zret C Q (by decide) d_Wh_isZero_12 ⟨_, rfl, K⟩
set_option maxRecDepth 20000 in
theorem g_Wh_isOne_0 {X : CX} {h : HP} {p0 : Nat} {Φ : Int32 → HP → Prop} (C : Cok X b_Wh_isOne 1 R_Wh ((some .boolean))) (Rm : xR X = rml 0 0 0) (Q : Qok X 0 0 (fun r h2 => ∃ v, r = some (.int v) ∧ Φ v h2)) (hp0 : kd p0 = (0, 0))
    (K : (¬ ((h p0 1)) = (1 : Int32) → Φ 0 h) ∧ (((h p0 1)) = (1 : Int32) → vp_in 0 44 ∧ ((¬ ((h (p0 + 1) (0 : Int32).toNatClampNeg)) = (1 : Int32) → Φ 0 h) ∧ (((h (p0 + 1) (0 : Int32).toNatClampNeg)) = (1 : Int32) → (¬ (h p0 2) = 0 → Φ 0 h) ∧ ((h p0 2) = 0 → Φ 1 h))))) :
    Wg X 0 0 h [(0, .ref p0)] [] 0 := by
  refine r_aload_n C 0 rfl d_Wh_isOne_0 ?_
  refine gf_Wh_length C hp0 k_109 d_Wh_isOne_1 ?_
  refine r_iconst (v := 1) C (by decide) d_Wh_isOne_4 ?_
  refine r_icmp_ne C 29 d_Wh_isOne_5 (by decide) ⟨fun c0 => ?_, fun c0 => ?_⟩
  · have K := K.1 c0
    refine r_iconst (v := 0) C (by decide) d_Wh_isOne_29 ?_
    exact q_zret C Q (by decide) d_Wh_isOne_30 ⟨_, rfl, K⟩
  · have K := K.2 c0
    refine r_aload_n C 0 rfl d_Wh_isOne_8 ?_
    refine gf_Wh_words (k2 := p0 + 1) C rfl hp0 k_105 d_Wh_isOne_9 ?_
    refine r_iconst (v := 0) C (by decide) d_Wh_isOne_12 ?_
    obtain ⟨s0, K⟩ := K
    refine r_iald C (kWh1 hp0) s0 d_Wh_isOne_13 ?_
    refine r_iconst (v := 1) C (by decide) d_Wh_isOne_14 ?_
    refine r_icmp_ne C 29 d_Wh_isOne_15 (by decide) ⟨fun c0 => ?_, fun c0 => ?_⟩
    · have K := K.1 c0
      refine r_iconst (v := 0) C (by decide) d_Wh_isOne_29 ?_
      exact q_zret C Q (by decide) d_Wh_isOne_30 ⟨_, rfl, K⟩
    · have K := K.2 c0
      refine r_aload_n C 0 rfl d_Wh_isOne_18 ?_
      refine gf_Wh_below C hp0 k_112 d_Wh_isOne_19 ?_
      refine r_if_ne C 29 d_Wh_isOne_22 (by decide) ⟨fun c0 => ?_, fun c0 => ?_⟩
      · have K := K.1 c0
        refine r_iconst (v := 0) C (by decide) d_Wh_isOne_29 ?_
        exact q_zret C Q (by decide) d_Wh_isOne_30 ⟨_, rfl, K⟩
      · have K := K.2 c0
        refine r_iconst (v := 1) C (by decide) d_Wh_isOne_25 ?_
        refine r_goto C 30 d_Wh_isOne_26 (by decide) ?_
        exact q_zret C Q (by decide) d_Wh_isOne_30 ⟨_, rfl, K⟩
set_option maxRecDepth 20000 in
theorem g_Wh_isFixed_0 {X : CX} {h : HP} {p0 : Nat} {Φ : Int32 → HP → Prop} (C : Cok X b_Wh_isFixed 2 R_Wh ((some .boolean))) (Rm : xR X = rml 0 0 0) (Q : Qok X 0 0 (fun r h2 => ∃ v, r = some (.int v) ∧ Φ v h2)) (hp0 : kd p0 = (0, 0))
    (K : (¬ (h p0 1) = 0 → ((h p0 2) = 0 → Wg X 0 0 h [(0, .ref p0)] [.int 1073741823] 23) ∧ (¬ (h p0 2) = 0 → Wg X 0 0 h [(0, .ref p0)] [.int 1073741824] 23)) ∧ ((h p0 1) = 0 → Φ 1 h)) :
    Wg X 0 0 h [(0, .ref p0)] [] 0 := by
  refine r_aload_n C 0 rfl d_Wh_isFixed_0 ?_
  refine gf_Wh_length C hp0 k_109 d_Wh_isFixed_1 ?_
  refine r_if_ne C 9 d_Wh_isFixed_4 (by decide) ⟨fun c0 => ?_, fun c0 => ?_⟩
  · have K := K.1 c0
    refine r_aload_n C 0 rfl d_Wh_isFixed_9 ?_
    refine gf_Wh_below C hp0 k_112 d_Wh_isFixed_10 ?_
    refine r_if_eq C 21 d_Wh_isFixed_13 (by decide) ⟨fun c0 => ?_, fun c0 => ?_⟩
    · have K := K.1 c0
      refine r_ldc (v := 1073741823) C k_405 d_Wh_isFixed_21 ?_
      exact K
    · have K := K.2 c0
      refine r_ldc (v := 1073741824) C k_404 d_Wh_isFixed_16 ?_
      refine r_goto C 23 d_Wh_isFixed_18 (by decide) ?_
      exact K
  · have K := K.2 c0
    refine r_iconst (v := 1) C (by decide) d_Wh_isFixed_7 ?_
    exact q_zret C Q (by decide) d_Wh_isFixed_8 ⟨_, rfl, K⟩
set_option maxRecDepth 20000 in
theorem g_Wh_isFixed_23 {X : CX} {h : HP} {p0 : Nat} {t0 : Int32} {Φ : Int32 → HP → Prop} (C : Cok X b_Wh_isFixed 2 R_Wh ((some .boolean))) (Rm : xR X = rml 0 0 0) (Q : Qok X 0 0 (fun r h2 => ∃ v, r = some (.int v) ∧ Φ v h2)) (hp0 : kd p0 = (0, 0))
    (K : (¬ ((h p0 1)) = (1 : Int32) → Φ 0 h) ∧ (((h p0 1)) = (1 : Int32) → vp_in 0 44 ∧ (((h (p0 + 1) (0 : Int32).toNatClampNeg) ≤ 0 → Φ 0 h) ∧ (¬ (h (p0 + 1) (0 : Int32).toNatClampNeg) ≤ 0 → vp_in 0 44 ∧ ((t0 < ((h (p0 + 1) (0 : Int32).toNatClampNeg)) → Φ 0 h) ∧ (¬ t0 < ((h (p0 + 1) (0 : Int32).toNatClampNeg)) → Φ 1 h)))))) :
    Wg X 0 0 h [(0, .ref p0)] [.int t0] 23 := by
  refine r_istore_n (ls2 := [(0, .ref p0), (1, .int t0)]) C rfl (by decide) rfl d_Wh_isFixed_23 ?_
  refine r_aload_n C 0 rfl d_Wh_isFixed_24 ?_
  refine gf_Wh_length C hp0 k_109 d_Wh_isFixed_25 ?_
  refine r_iconst (v := 1) C (by decide) d_Wh_isFixed_28 ?_
  refine r_icmp_ne C 55 d_Wh_isFixed_29 (by decide) ⟨fun c0 => ?_, fun c0 => ?_⟩
  · have K := K.1 c0
    refine r_iconst (v := 0) C (by decide) d_Wh_isFixed_55 ?_
    exact q_zret C Q (by decide) d_Wh_isFixed_56 ⟨_, rfl, K⟩
  · have K := K.2 c0
    refine r_aload_n C 0 rfl d_Wh_isFixed_32 ?_
    refine gf_Wh_words (k2 := p0 + 1) C rfl hp0 k_105 d_Wh_isFixed_33 ?_
    refine r_iconst (v := 0) C (by decide) d_Wh_isFixed_36 ?_
    obtain ⟨s0, K⟩ := K
    refine r_iald C (kWh1 hp0) s0 d_Wh_isFixed_37 ?_
    refine r_if_le C 55 d_Wh_isFixed_38 (by decide) ⟨fun c0 => ?_, fun c0 => ?_⟩
    · have K := K.1 c0
      refine r_iconst (v := 0) C (by decide) d_Wh_isFixed_55 ?_
      exact q_zret C Q (by decide) d_Wh_isFixed_56 ⟨_, rfl, K⟩
    · have K := K.2 c0
      refine r_aload_n C 0 rfl d_Wh_isFixed_41 ?_
      refine gf_Wh_words (k2 := p0 + 1) C rfl hp0 k_105 d_Wh_isFixed_42 ?_
      refine r_iconst (v := 0) C (by decide) d_Wh_isFixed_45 ?_
      obtain ⟨s0, K⟩ := K
      refine r_iald C (kWh1 hp0) s0 d_Wh_isFixed_46 ?_
      refine r_iload_n C 1 rfl d_Wh_isFixed_47 ?_
      refine r_icmp_gt C 55 d_Wh_isFixed_48 (by decide) ⟨fun c0 => ?_, fun c0 => ?_⟩
      · have K := K.1 c0
        refine r_iconst (v := 0) C (by decide) d_Wh_isFixed_55 ?_
        exact q_zret C Q (by decide) d_Wh_isFixed_56 ⟨_, rfl, K⟩
      · have K := K.2 c0
        refine r_iconst (v := 1) C (by decide) d_Wh_isFixed_51 ?_
        refine r_goto C 56 d_Wh_isFixed_52 (by decide) ?_
        exact q_zret C Q (by decide) d_Wh_isFixed_56 ⟨_, rfl, K⟩
set_option maxRecDepth 20000 in
theorem g_Wh_asFixed_0 {X : CX} {h : HP} {p0 : Nat} {Φ : Int32 → HP → Prop} (C : Cok X b_Wh_asFixed 1 R_Wh ((some .int))) (Rm : xR X = rml 0 0 0) (Q : Qok X 0 0 (fun r h2 => ∃ v, r = some (.int v) ∧ Φ v h2)) (hp0 : kd p0 = (0, 0))
    (K : (¬ (h p0 1) = 0 → ((h p0 2) = 0 → vp_in 0 44 ∧ (Φ (h (p0 + 1) (0 : Int32).toNatClampNeg) h)) ∧ (¬ (h p0 2) = 0 → vp_in 0 44 ∧ (Φ (-(h (p0 + 1) (0 : Int32).toNatClampNeg)) h))) ∧ ((h p0 1) = 0 → Φ 0 h)) :
    Wg X 0 0 h [(0, .ref p0)] [] 0 := by
  refine r_aload_n C 0 rfl d_Wh_asFixed_0 ?_
  refine gf_Wh_length C hp0 k_109 d_Wh_asFixed_1 ?_
  refine r_if_ne C 9 d_Wh_asFixed_4 (by decide) ⟨fun c0 => ?_, fun c0 => ?_⟩
  · have K := K.1 c0
    refine r_aload_n C 0 rfl d_Wh_asFixed_9 ?_
    refine gf_Wh_below C hp0 k_112 d_Wh_asFixed_10 ?_
    refine r_if_eq C 26 d_Wh_asFixed_13 (by decide) ⟨fun c0 => ?_, fun c0 => ?_⟩
    · have K := K.1 c0
      refine r_aload_n C 0 rfl d_Wh_asFixed_26 ?_
      refine gf_Wh_words (k2 := p0 + 1) C rfl hp0 k_105 d_Wh_asFixed_27 ?_
      refine r_iconst (v := 0) C (by decide) d_Wh_asFixed_30 ?_
      obtain ⟨s0, K⟩ := K
      refine r_iald C (kWh1 hp0) s0 d_Wh_asFixed_31 ?_
      exact q_iret C Q d_Wh_asFixed_32 ⟨_, rfl, K⟩
    · have K := K.2 c0
      refine r_aload_n C 0 rfl d_Wh_asFixed_16 ?_
      refine gf_Wh_words (k2 := p0 + 1) C rfl hp0 k_105 d_Wh_asFixed_17 ?_
      refine r_iconst (v := 0) C (by decide) d_Wh_asFixed_20 ?_
      obtain ⟨s0, K⟩ := K
      refine r_iald C (kWh1 hp0) s0 d_Wh_asFixed_21 ?_
      refine r_ineg C d_Wh_asFixed_22 ?_
      refine r_goto C 32 d_Wh_asFixed_23 (by decide) ?_
      exact q_iret C Q d_Wh_asFixed_32 ⟨_, rfl, K⟩
  · have K := K.2 c0
    refine r_iconst (v := 0) C (by decide) d_Wh_asFixed_7 ?_
    exact q_iret C Q d_Wh_asFixed_8 ⟨_, rfl, K⟩
set_option maxRecDepth 20000 in
theorem g_Wh_wordAt_0 {X : CX} {h : HP} {p0 : Nat} {v1 : Int32} {Φ : Int64 → HP → Prop} (C : Cok X b_Wh_wordAt 2 R_Wh ((some .long))) (Rm : xR X = rml 0 0 0) (Q : Qok X 0 0 (fun r h2 => ∃ v, r = some (.long v) ∧ Φ v h2)) (hp0 : kd p0 = (0, 0))
    (K : (((h p0 1)) ≤ v1 → Φ 0 h) ∧ (¬ ((h p0 1)) ≤ v1 → vp_in v1 44 ∧ (Φ ((Int32.toInt64 (h (p0 + 1) v1.toNatClampNeg)) &&& 4294967295) h))) :
    Wg X 0 0 h [(0, .ref p0), (1, .int v1)] [] 0 := by
  refine r_iload_n C 1 rfl d_Wh_wordAt_0 ?_
  refine r_aload_n C 0 rfl d_Wh_wordAt_1 ?_
  refine gf_Wh_length C hp0 k_109 d_Wh_wordAt_2 ?_
  refine r_icmp_ge C 22 d_Wh_wordAt_5 (by decide) ⟨fun c0 => ?_, fun c0 => ?_⟩
  · have K := K.1 c0
    refine r_lconst (v := 0) C (by decide) d_Wh_wordAt_22 ?_
    exact q_lret C Q d_Wh_wordAt_23 ⟨_, rfl, K⟩
  · have K := K.2 c0
    refine r_aload_n C 0 rfl d_Wh_wordAt_8 ?_
    refine gf_Wh_words (k2 := p0 + 1) C rfl hp0 k_105 d_Wh_wordAt_9 ?_
    refine r_iload_n C 1 rfl d_Wh_wordAt_12 ?_
    obtain ⟨s0, K⟩ := K
    refine r_iald C (kWh1 hp0) s0 d_Wh_wordAt_13 ?_
    refine r_i2l C d_Wh_wordAt_14 ?_
    refine r_ldc2 (v := 4294967295) C k_536 d_Wh_wordAt_15 ?_
    refine r_land C d_Wh_wordAt_18 ?_
    refine r_goto C 23 d_Wh_wordAt_19 (by decide) ?_
    exact q_lret C Q d_Wh_wordAt_23 ⟨_, rfl, K⟩
set_option maxRecDepth 20000 in
theorem g_Wh_flipSign_0 {X : CX} {h : HP} {p0 : Nat} {Φ : HP → Prop} (C : Cok X b_Wh_flipSign 1 R_Wh none) (Rm : xR X = rml 0 0 0) (Q : Qok X 0 0 (fun r h2 => r = none ∧ Φ h2)) (hp0 : kd p0 = (0, 0))
    (K : (¬ (h p0 2) = 0 → Φ (up h p0 2 0)) ∧ ((h p0 2) = 0 → ((h p0 1) ≤ 0 → Φ (up h p0 2 0)) ∧ (¬ (h p0 1) ≤ 0 → Φ (up h p0 2 1)))) :
    Wg X 0 0 h [(0, .ref p0)] [] 0 := by
  refine r_aload_n C 0 rfl d_Wh_flipSign_0 ?_
  refine r_aload_n C 0 rfl d_Wh_flipSign_1 ?_
  refine gf_Wh_below C hp0 k_112 d_Wh_flipSign_2 ?_
  refine r_if_ne C 19 d_Wh_flipSign_5 (by decide) ⟨fun c0 => ?_, fun c0 => ?_⟩
  · have K := K.1 c0
    refine r_iconst (v := 0) C (by decide) d_Wh_flipSign_19 ?_
    refine pf_Wh_below C hp0 (by decide) k_112 d_Wh_flipSign_20 ?_
    exact q_vret C Q d_Wh_flipSign_23 ⟨rfl, K⟩
  · have K := K.2 c0
    refine r_aload_n C 0 rfl d_Wh_flipSign_8 ?_
    refine gf_Wh_length C hp0 k_109 d_Wh_flipSign_9 ?_
    refine r_if_le C 19 d_Wh_flipSign_12 (by decide) ⟨fun c0 => ?_, fun c0 => ?_⟩
    · have K := K.1 c0
      refine r_iconst (v := 0) C (by decide) d_Wh_flipSign_19 ?_
      refine pf_Wh_below C hp0 (by decide) k_112 d_Wh_flipSign_20 ?_
      exact q_vret C Q d_Wh_flipSign_23 ⟨rfl, K⟩
    · have K := K.2 c0
      refine r_iconst (v := 1) C (by decide) d_Wh_flipSign_15 ?_
      refine r_goto C 20 d_Wh_flipSign_16 (by decide) ?_
      refine pf_Wh_below C hp0 (by decide) k_112 d_Wh_flipSign_20 ?_
      exact q_vret C Q d_Wh_flipSign_23 ⟨rfl, K⟩
set_option maxRecDepth 20000 in
theorem g_Wh_orderOfSizes_0 {X : CX} {h : HP} {p0 : Nat} {p1 : Nat} {Φ : Int32 → HP → Prop} (C : Cok X b_Wh_orderOfSizes 3 R_Wh ((some .int))) (Rm : xR X = rml 1 0 0) (Q : Qok X 0 0 (fun r h2 => ∃ v, r = some (.int v) ∧ Φ v h2)) (hp0 : kd p0 = (0, 0)) (hp1 : kd p1 = (0, 0))
    (K : (((h p0 1)) = ((h p1 1)) → Wg X 0 0 h [(0, .ref p0), (1, .ref p1), (2, .int ((h p0 1) - 1))] [] 35) ∧ (¬ ((h p0 1)) = ((h p1 1)) → (((h p1 1)) ≤ ((h p0 1)) → Φ 1 h) ∧ (¬ ((h p1 1)) ≤ ((h p0 1)) → Φ ((-1)) h))) :
    Wg X 0 0 h [(0, .ref p0), (1, .ref p1)] [] 0 := by
  refine r_aload_n C 0 rfl d_Wh_orderOfSizes_0 ?_
  refine gf_Wh_length C hp0 k_109 d_Wh_orderOfSizes_1 ?_
  refine r_aload_n C 1 rfl d_Wh_orderOfSizes_4 ?_
  refine gf_Wh_length C hp1 k_109 d_Wh_orderOfSizes_5 ?_
  refine r_icmp_eq C 28 d_Wh_orderOfSizes_8 (by decide) ⟨fun c0 => ?_, fun c0 => ?_⟩
  · have K := K.1 c0
    refine r_aload_n C 0 rfl d_Wh_orderOfSizes_28 ?_
    refine gf_Wh_length C hp0 k_109 d_Wh_orderOfSizes_29 ?_
    refine r_iconst (v := 1) C (by decide) d_Wh_orderOfSizes_32 ?_
    refine r_isub C d_Wh_orderOfSizes_33 ?_
    refine r_istore_n (ls2 := [(0, .ref p0), (1, .ref p1), (2, .int ((h p0 1) - 1))]) C rfl (by decide) rfl d_Wh_orderOfSizes_34 ?_
    exact K
  · have K := K.2 c0
    refine r_aload_n C 0 rfl d_Wh_orderOfSizes_11 ?_
    refine gf_Wh_length C hp0 k_109 d_Wh_orderOfSizes_12 ?_
    refine r_aload_n C 1 rfl d_Wh_orderOfSizes_15 ?_
    refine gf_Wh_length C hp1 k_109 d_Wh_orderOfSizes_16 ?_
    refine r_icmp_ge C 26 d_Wh_orderOfSizes_19 (by decide) ⟨fun c0 => ?_, fun c0 => ?_⟩
    · have K := K.1 c0
      refine r_iconst (v := 1) C (by decide) d_Wh_orderOfSizes_26 ?_
      exact q_iret C Q d_Wh_orderOfSizes_27 ⟨_, rfl, K⟩
    · have K := K.2 c0
      refine r_iconst (v := (-1)) C (by decide) d_Wh_orderOfSizes_22 ?_
      refine r_goto C 27 d_Wh_orderOfSizes_23 (by decide) ?_
      exact q_iret C Q d_Wh_orderOfSizes_27 ⟨_, rfl, K⟩
set_option maxRecDepth 20000 in
theorem g_Wh_orderOfSizes_35 {X : CX} {h : HP} {p0 : Nat} {p1 : Nat} {v2 : Int32} {Φ : Int32 → HP → Prop} (C : Cok X b_Wh_orderOfSizes 3 R_Wh ((some .int))) (Rm : xR X = rml 1 0 0) (Q : Qok X 0 0 (fun r h2 => ∃ v, r = some (.int v) ∧ Φ v h2)) (hp0 : kd p0 = (0, 0)) (hp1 : kd p1 = (0, 0))
    (K : (v2 < 0 → Φ 0 h) ∧ (¬ v2 < 0 → vp_in v2 44 ∧ (vp_in v2 44 ∧ ((((h (p0 + 1) v2.toNatClampNeg)) = ((h (p1 + 1) v2.toNatClampNeg)) → Wg X 0 0 h [(0, .ref p0), (1, .ref p1), (2, .int (v2 + (-1)))] [] 35) ∧ (¬ ((h (p0 + 1) v2.toNatClampNeg)) = ((h (p1 + 1) v2.toNatClampNeg)) → K_Wh_wordAt [.ref p0, .int v2] h (fun r1 h1 => K_Wh_wordAt [.ref p1, .int v2] h1 (fun r2 h2 => (0 ≤ (lg_cmp r1 r2) → Φ 1 h2) ∧ (¬ 0 ≤ (lg_cmp r1 r2) → Φ ((-1)) h2)))))))) :
    Wg X 0 0 h [(0, .ref p0), (1, .ref p1), (2, .int v2)] [] 35 := by
  refine r_iload_n C 2 rfl d_Wh_orderOfSizes_35 ?_
  refine r_if_lt C 80 d_Wh_orderOfSizes_36 (by decide) ⟨fun c0 => ?_, fun c0 => ?_⟩
  · have K := K.1 c0
    refine r_iconst (v := 0) C (by decide) d_Wh_orderOfSizes_80 ?_
    exact q_iret C Q d_Wh_orderOfSizes_81 ⟨_, rfl, K⟩
  · have K := K.2 c0
    refine r_aload_n C 0 rfl d_Wh_orderOfSizes_39 ?_
    refine gf_Wh_words (k2 := p0 + 1) C rfl hp0 k_105 d_Wh_orderOfSizes_40 ?_
    refine r_iload_n C 2 rfl d_Wh_orderOfSizes_43 ?_
    obtain ⟨s0, K⟩ := K
    refine r_iald C (kWh1 hp0) s0 d_Wh_orderOfSizes_44 ?_
    refine r_aload_n C 1 rfl d_Wh_orderOfSizes_45 ?_
    refine gf_Wh_words (k2 := p1 + 1) C rfl hp1 k_105 d_Wh_orderOfSizes_46 ?_
    refine r_iload_n C 2 rfl d_Wh_orderOfSizes_49 ?_
    obtain ⟨s0, K⟩ := K
    refine r_iald C (kWh1 hp1) s0 d_Wh_orderOfSizes_50 ?_
    refine r_icmp_eq C 74 d_Wh_orderOfSizes_51 (by decide) ⟨fun c0 => ?_, fun c0 => ?_⟩
    · have K := K.1 c0
      refine r_iinc (ls2 := [(0, .ref p0), (1, .ref p1), (2, .int (v2 + (-1)))]) C 2 (m := -1) rfl (by decide) (by decide) rfl d_Wh_orderOfSizes_74 ?_
      refine r_goto C 35 d_Wh_orderOfSizes_77 (by decide) ?_
      exact K
    · have K := K.2 c0
      refine r_aload_n C 0 rfl d_Wh_orderOfSizes_54 ?_
      refine r_iload_n C 2 rfl d_Wh_orderOfSizes_55 ?_
      refine r_callV (As := [.int v2]) (st := []) (lvc := 0) (mcc := 0) (msc := 0) C Rm M_Wh_wordAt rfl k_541 hp0 (by decide) (Nat.le_of_ble_eq_true rfl) ⟨by decide, by decide⟩ d_Wh_orderOfSizes_56 ?_
      refine Can.mono K (fun _ h1 z => ?_)
      obtain ⟨r1, rfl, K⟩ := z
      show Wg X 0 0 h1 [(0, .ref p0), (1, .ref p1), (2, .int v2)] [.long r1] 59
      refine r_aload_n C 1 rfl d_Wh_orderOfSizes_59 ?_
      refine r_iload_n C 2 rfl d_Wh_orderOfSizes_60 ?_
      refine r_callV (As := [.int v2]) (st := [.long r1]) (lvc := 0) (mcc := 0) (msc := 0) C Rm M_Wh_wordAt rfl k_541 hp1 (by decide) (Nat.le_of_ble_eq_true rfl) ⟨by decide, by decide⟩ d_Wh_orderOfSizes_61 ?_
      refine Can.mono K (fun _ h2 z => ?_)
      obtain ⟨r2, rfl, K⟩ := z
      show Wg X 0 0 h2 [(0, .ref p0), (1, .ref p1), (2, .int v2)] [.long r2, .long r1] 64
      refine r_lcmp C d_Wh_orderOfSizes_64 ?_
      refine r_if_ge C 72 d_Wh_orderOfSizes_65 (by decide) ⟨fun c0 => ?_, fun c0 => ?_⟩
      · have K := K.1 c0
        refine r_iconst (v := 1) C (by decide) d_Wh_orderOfSizes_72 ?_
        exact q_iret C Q d_Wh_orderOfSizes_73 ⟨_, rfl, K⟩
      · have K := K.2 c0
        refine r_iconst (v := (-1)) C (by decide) d_Wh_orderOfSizes_68 ?_
        refine r_goto C 73 d_Wh_orderOfSizes_69 (by decide) ?_
        exact q_iret C Q d_Wh_orderOfSizes_73 ⟨_, rfl, K⟩
set_option maxRecDepth 20000 in
theorem g_Wh_orderTo_0 {X : CX} {h : HP} {p0 : Nat} {p1 : Nat} {Φ : Int32 → HP → Prop} (C : Cok X b_Wh_orderTo 2 R_Wh ((some .int))) (Rm : xR X = rml 2 0 0) (Q : Qok X 0 0 (fun r h2 => ∃ v, r = some (.int v) ∧ Φ v h2)) (hp0 : kd p0 = (0, 0)) (hp1 : kd p1 = (0, 0))
    (K : (((h p0 2)) = ((h p1 2)) → ((h p0 2) = 0 → K_Wh_orderOfSizes [.ref p0, .ref p1] h (fun r1 h1 => Φ r1 h1)) ∧ (¬ (h p0 2) = 0 → K_Wh_orderOfSizes [.ref p1, .ref p0] h (fun r2 h2 => Φ r2 h2))) ∧ (¬ ((h p0 2)) = ((h p1 2)) → ((h p0 2) = 0 → Φ 1 h) ∧ (¬ (h p0 2) = 0 → Φ ((-1)) h))) :
    Wg X 0 0 h [(0, .ref p0), (1, .ref p1)] [] 0 := by
  refine r_aload_n C 0 rfl d_Wh_orderTo_0 ?_
  refine gf_Wh_below C hp0 k_112 d_Wh_orderTo_1 ?_
  refine r_aload_n C 1 rfl d_Wh_orderTo_4 ?_
  refine gf_Wh_below C hp1 k_112 d_Wh_orderTo_5 ?_
  refine r_icmp_eq C 24 d_Wh_orderTo_8 (by decide) ⟨fun c0 => ?_, fun c0 => ?_⟩
  · have K := K.1 c0
    refine r_aload_n C 0 rfl d_Wh_orderTo_24 ?_
    refine gf_Wh_below C hp0 k_112 d_Wh_orderTo_25 ?_
    refine r_if_eq C 39 d_Wh_orderTo_28 (by decide) ⟨fun c0 => ?_, fun c0 => ?_⟩
    · have K := K.1 c0
      refine r_aload_n C 0 rfl d_Wh_orderTo_39 ?_
      refine r_aload_n C 1 rfl d_Wh_orderTo_40 ?_
      refine r_callV (As := [.ref p1]) (st := []) (lvc := 1) (mcc := 0) (msc := 0) C Rm M_Wh_orderOfSizes rfl k_858 hp0 (by decide) (Nat.le_of_ble_eq_true rfl) ⟨by decide, by decide⟩ d_Wh_orderTo_41 ?_
      refine Can.mono K (fun _ h1 z => ?_)
      obtain ⟨r1, rfl, K⟩ := z
      show Wg X 0 0 h1 [(0, .ref p0), (1, .ref p1)] [.int r1] 44
      exact q_iret C Q d_Wh_orderTo_44 ⟨_, rfl, K⟩
    · have K := K.2 c0
      refine r_aload_n C 1 rfl d_Wh_orderTo_31 ?_
      refine r_aload_n C 0 rfl d_Wh_orderTo_32 ?_
      refine r_callV (As := [.ref p0]) (st := []) (lvc := 1) (mcc := 0) (msc := 0) C Rm M_Wh_orderOfSizes rfl k_858 hp1 (by decide) (Nat.le_of_ble_eq_true rfl) ⟨by decide, by decide⟩ d_Wh_orderTo_33 ?_
      refine Can.mono K (fun _ h2 z => ?_)
      obtain ⟨r2, rfl, K⟩ := z
      show Wg X 0 0 h2 [(0, .ref p0), (1, .ref p1)] [.int r2] 36
      refine r_goto C 44 d_Wh_orderTo_36 (by decide) ?_
      exact q_iret C Q d_Wh_orderTo_44 ⟨_, rfl, K⟩
  · have K := K.2 c0
    refine r_aload_n C 0 rfl d_Wh_orderTo_11 ?_
    refine gf_Wh_below C hp0 k_112 d_Wh_orderTo_12 ?_
    refine r_if_eq C 22 d_Wh_orderTo_15 (by decide) ⟨fun c0 => ?_, fun c0 => ?_⟩
    · have K := K.1 c0
      refine r_iconst (v := 1) C (by decide) d_Wh_orderTo_22 ?_
      exact q_iret C Q d_Wh_orderTo_23 ⟨_, rfl, K⟩
    · have K := K.2 c0
      refine r_iconst (v := (-1)) C (by decide) d_Wh_orderTo_18 ?_
      refine r_goto C 23 d_Wh_orderTo_19 (by decide) ?_
      exact q_iret C Q d_Wh_orderTo_23 ⟨_, rfl, K⟩
set_option maxRecDepth 20000 in
theorem g_Wh_setSumOfSizes_0 {X : CX} {h : HP} {p0 : Nat} {p1 : Nat} {p2 : Nat} {Φ : HP → Prop} (C : Cok X b_Wh_setSumOfSizes 7 R_Wh none) (Rm : xR X = rml 2 0 0) (Q : Qok X 0 0 (fun r h2 => r = none ∧ Φ h2)) (hp0 : kd p0 = (0, 0)) (hp1 : kd p1 = (0, 0)) (hp2 : kd p2 = (0, 0))
    (K : Wg X 0 0 h [(0, .ref p0), (1, .ref p1), (2, .ref p2), (3, .int (if (h p1 1) < (h p2 1) then (h p2 1) else (h p1 1))), (4, .long 0), (6, .int 0)] [] 18) :
    Wg X 0 0 h [(0, .ref p0), (1, .ref p1), (2, .ref p2)] [] 0 := by
  refine r_aload_n C 1 rfl d_Wh_setSumOfSizes_0 ?_
  refine gf_Wh_length C hp1 k_109 d_Wh_setSumOfSizes_1 ?_
  refine r_aload_n C 2 rfl d_Wh_setSumOfSizes_4 ?_
  refine gf_Wh_length C hp2 k_109 d_Wh_setSumOfSizes_5 ?_
  refine r_max C Rm (by decide) k_857 (Nat.le_of_ble_eq_true rfl) d_Wh_setSumOfSizes_8 ?_
  refine r_istore_n (ls2 := [(0, .ref p0), (1, .ref p1), (2, .ref p2), (3, .int (if (h p1 1) < (h p2 1) then (h p2 1) else (h p1 1)))]) C rfl (by decide) rfl d_Wh_setSumOfSizes_11 ?_
  refine r_lconst (v := 0) C (by decide) d_Wh_setSumOfSizes_12 ?_
  refine r_lstore (ls2 := [(0, .ref p0), (1, .ref p1), (2, .ref p2), (3, .int (if (h p1 1) < (h p2 1) then (h p2 1) else (h p1 1))), (4, .long 0)]) C (by decide) rfl d_Wh_setSumOfSizes_13 ?_
  refine r_iconst (v := 0) C (by decide) d_Wh_setSumOfSizes_15 ?_
  refine r_istore (ls2 := [(0, .ref p0), (1, .ref p1), (2, .ref p2), (3, .int (if (h p1 1) < (h p2 1) then (h p2 1) else (h p1 1))), (4, .long 0), (6, .int 0)]) C (by decide) rfl d_Wh_setSumOfSizes_16 ?_
  exact K
set_option maxRecDepth 20000 in
theorem g_Wh_setSumOfSizes_18 {X : CX} {h : HP} {p0 : Nat} {p1 : Nat} {p2 : Nat} {v3 : Int32} {v4 : Int64} {v6 : Int32} {Φ : HP → Prop} (C : Cok X b_Wh_setSumOfSizes 7 R_Wh none) (Rm : xR X = rml 2 0 0) (Q : Qok X 0 0 (fun r h2 => r = none ∧ Φ h2)) (hp0 : kd p0 = (0, 0)) (hp1 : kd p1 = (0, 0)) (hp2 : kd p2 = (0, 0))
    (K : (v3 ≤ v6 → vp_in v3 44 ∧ (K_Wh_trim [.ref p0, .int (v3 + 1)] (up h (p0 + 1) v3.toNatClampNeg (Int64.toInt32 v4)) (fun h1 => Φ h1))) ∧ (¬ v3 ≤ v6 → K_Wh_wordAt [.ref p1, .int v6] h (fun r2 h2 => K_Wh_wordAt [.ref p2, .int v6] h2 (fun r3 h3 => vp_in v6 44 ∧ (Wg X 0 0 (up h3 (p0 + 1) v6.toNatClampNeg (Int64.toInt32 (v4 + (r2 + r3)))) [(0, .ref p0), (1, .ref p1), (2, .ref p2), (3, .int v3), (4, .long (lushr (v4 + (r2 + r3)) 32)), (6, .int (v6 + 1))] [] 18))))) :
    Wg X 0 0 h [(0, .ref p0), (1, .ref p1), (2, .ref p2), (3, .int v3), (4, .long v4), (6, .int v6)] [] 18 := by
  refine r_iload C 5 rfl d_Wh_setSumOfSizes_18 ?_
  refine r_iload_n C 3 rfl d_Wh_setSumOfSizes_20 ?_
  refine r_icmp_ge C 65 d_Wh_setSumOfSizes_21 (by decide) ⟨fun c0 => ?_, fun c0 => ?_⟩
  · have K := K.1 c0
    refine r_aload_n C 0 rfl d_Wh_setSumOfSizes_65 ?_
    refine gf_Wh_words (k2 := p0 + 1) C rfl hp0 k_105 d_Wh_setSumOfSizes_66 ?_
    refine r_iload_n C 3 rfl d_Wh_setSumOfSizes_69 ?_
    refine r_lload C 4 rfl d_Wh_setSumOfSizes_70 ?_
    refine r_l2i C d_Wh_setSumOfSizes_72 ?_
    obtain ⟨s0, K⟩ := K
    refine r_iast C (kWh1 hp0) s0 d_Wh_setSumOfSizes_73 ?_
    refine r_aload_n C 0 rfl d_Wh_setSumOfSizes_74 ?_
    refine r_iload_n C 3 rfl d_Wh_setSumOfSizes_75 ?_
    refine r_iconst (v := 1) C (by decide) d_Wh_setSumOfSizes_76 ?_
    refine r_iadd C d_Wh_setSumOfSizes_77 ?_
    refine r_callV (As := [.int (v3 + 1)]) (st := []) (lvc := 0) (mcc := 0) (msc := 0) C Rm M_Wh_trim rfl k_382 hp0 (by decide) (Nat.le_of_ble_eq_true rfl) ⟨by decide, by decide⟩ d_Wh_setSumOfSizes_78 ?_
    refine Can.mono K (fun _ h1 z => ?_)
    obtain ⟨rfl, K⟩ := z
    show Wg X 0 0 h1 [(0, .ref p0), (1, .ref p1), (2, .ref p2), (3, .int v3), (4, .long v4), (6, .int v6)] [] 81
    exact q_vret C Q d_Wh_setSumOfSizes_81 ⟨rfl, K⟩
  · have K := K.2 c0
    refine r_lload C 4 rfl d_Wh_setSumOfSizes_24 ?_
    refine r_aload_n C 1 rfl d_Wh_setSumOfSizes_26 ?_
    refine r_iload C 5 rfl d_Wh_setSumOfSizes_27 ?_
    refine r_callV (As := [.int v6]) (st := [.long v4]) (lvc := 0) (mcc := 0) (msc := 0) C Rm M_Wh_wordAt rfl k_541 hp1 (by decide) (Nat.le_of_ble_eq_true rfl) ⟨by decide, by decide⟩ d_Wh_setSumOfSizes_29 ?_
    refine Can.mono K (fun _ h2 z => ?_)
    obtain ⟨r2, rfl, K⟩ := z
    show Wg X 0 0 h2 [(0, .ref p0), (1, .ref p1), (2, .ref p2), (3, .int v3), (4, .long v4), (6, .int v6)] [.long r2, .long v4] 32
    refine r_aload_n C 2 rfl d_Wh_setSumOfSizes_32 ?_
    refine r_iload C 5 rfl d_Wh_setSumOfSizes_33 ?_
    refine r_callV (As := [.int v6]) (st := [.long r2, .long v4]) (lvc := 0) (mcc := 0) (msc := 0) C Rm M_Wh_wordAt rfl k_541 hp2 (by decide) (Nat.le_of_ble_eq_true rfl) ⟨by decide, by decide⟩ d_Wh_setSumOfSizes_35 ?_
    refine Can.mono K (fun _ h3 z => ?_)
    obtain ⟨r3, rfl, K⟩ := z
    show Wg X 0 0 h3 [(0, .ref p0), (1, .ref p1), (2, .ref p2), (3, .int v3), (4, .long v4), (6, .int v6)] [.long r3, .long r2, .long v4] 38
    refine r_ladd C d_Wh_setSumOfSizes_38 ?_
    refine r_ladd C d_Wh_setSumOfSizes_39 ?_
    refine r_lstore (ls2 := [(0, .ref p0), (1, .ref p1), (2, .ref p2), (3, .int v3), (4, .long (v4 + (r2 + r3))), (6, .int v6)]) C (by decide) rfl d_Wh_setSumOfSizes_40 ?_
    refine r_aload_n C 0 rfl d_Wh_setSumOfSizes_42 ?_
    refine gf_Wh_words (k2 := p0 + 1) C rfl hp0 k_105 d_Wh_setSumOfSizes_43 ?_
    refine r_iload C 5 rfl d_Wh_setSumOfSizes_46 ?_
    refine r_lload C 4 rfl d_Wh_setSumOfSizes_48 ?_
    refine r_l2i C d_Wh_setSumOfSizes_50 ?_
    obtain ⟨s0, K⟩ := K
    refine r_iast C (kWh1 hp0) s0 d_Wh_setSumOfSizes_51 ?_
    refine r_lload C 4 rfl d_Wh_setSumOfSizes_52 ?_
    refine r_bipush (v := 32) C (by decide) d_Wh_setSumOfSizes_54 ?_
    refine r_lushr C d_Wh_setSumOfSizes_56 ?_
    refine r_lstore (ls2 := [(0, .ref p0), (1, .ref p1), (2, .ref p2), (3, .int v3), (4, .long (lushr (v4 + (r2 + r3)) 32)), (6, .int v6)]) C (by decide) rfl d_Wh_setSumOfSizes_57 ?_
    refine r_iinc (ls2 := [(0, .ref p0), (1, .ref p1), (2, .ref p2), (3, .int v3), (4, .long (lushr (v4 + (r2 + r3)) 32)), (6, .int (v6 + 1))]) C 5 (m := 1) rfl (by decide) (by decide) rfl d_Wh_setSumOfSizes_59 ?_
    refine r_goto C 18 d_Wh_setSumOfSizes_62 (by decide) ?_
    exact K
set_option maxRecDepth 20000 in
theorem g_Wh_setDifferenceOfSizes_0 {X : CX} {h : HP} {p0 : Nat} {p1 : Nat} {p2 : Nat} {Φ : HP → Prop} (C : Cok X b_Wh_setDifferenceOfSizes 9 R_Wh none) (Rm : xR X = rml 1 0 0) (Q : Qok X 0 0 (fun r h2 => r = none ∧ Φ h2)) (hp0 : kd p0 = (0, 0)) (hp1 : kd p1 = (0, 0)) (hp2 : kd p2 = (0, 0))
    (K : Wg X 0 0 h [(0, .ref p0), (1, .ref p1), (2, .ref p2), (3, .int (h p1 1)), (4, .long 0), (6, .int 0)] [] 11) :
    Wg X 0 0 h [(0, .ref p0), (1, .ref p1), (2, .ref p2)] [] 0 := by
  refine r_aload_n C 1 rfl d_Wh_setDifferenceOfSizes_0 ?_
  refine gf_Wh_length C hp1 k_109 d_Wh_setDifferenceOfSizes_1 ?_
  refine r_istore_n (ls2 := [(0, .ref p0), (1, .ref p1), (2, .ref p2), (3, .int (h p1 1))]) C rfl (by decide) rfl d_Wh_setDifferenceOfSizes_4 ?_
  refine r_lconst (v := 0) C (by decide) d_Wh_setDifferenceOfSizes_5 ?_
  refine r_lstore (ls2 := [(0, .ref p0), (1, .ref p1), (2, .ref p2), (3, .int (h p1 1)), (4, .long 0)]) C (by decide) rfl d_Wh_setDifferenceOfSizes_6 ?_
  refine r_iconst (v := 0) C (by decide) d_Wh_setDifferenceOfSizes_8 ?_
  refine r_istore (ls2 := [(0, .ref p0), (1, .ref p1), (2, .ref p2), (3, .int (h p1 1)), (4, .long 0), (6, .int 0)]) C (by decide) rfl d_Wh_setDifferenceOfSizes_9 ?_
  exact K
set_option maxRecDepth 20000 in
theorem g_Wh_setDifferenceOfSizes_11 {X : CX} {h : HP} {p0 : Nat} {p1 : Nat} {p2 : Nat} {v3 : Int32} {v4 : Int64} {v6 : Int32} {Φ : HP → Prop} (C : Cok X b_Wh_setDifferenceOfSizes 9 R_Wh none) (Rm : xR X = rml 1 0 0) (Q : Qok X 0 0 (fun r h2 => r = none ∧ Φ h2)) (hp0 : kd p0 = (0, 0)) (hp1 : kd p1 = (0, 0)) (hp2 : kd p2 = (0, 0))
    (K : (v3 ≤ v6 → K_Wh_trim [.ref p0, .int v3] h (fun h1 => Φ h1)) ∧ (¬ v3 ≤ v6 → K_Wh_wordAt [.ref p1, .int v6] h (fun r2 h2 => K_Wh_wordAt [.ref p2, .int v6] h2 (fun r3 h3 => vp_in v6 44 ∧ ((0 ≤ (lg_cmp ((r2 - r3) - v4) 0) → Wg X 0 0 (up h3 (p0 + 1) v6.toNatClampNeg (Int64.toInt32 ((r2 - r3) - v4))) [(0, .ref p0), (1, .ref p1), (2, .ref p2), (3, .int v3), (4, .long 0), (6, .int (v6 + 1))] [] 11) ∧ (¬ 0 ≤ (lg_cmp ((r2 - r3) - v4) 0) → Wg X 0 0 (up h3 (p0 + 1) v6.toNatClampNeg (Int64.toInt32 ((r2 - r3) - v4))) [(0, .ref p0), (1, .ref p1), (2, .ref p2), (3, .int v3), (4, .long 1), (6, .int (v6 + 1))] [] 11)))))) :
    Wg X 0 0 h [(0, .ref p0), (1, .ref p1), (2, .ref p2), (3, .int v3), (4, .long v4), (6, .int v6)] [] 11 := by
  refine r_iload C 5 rfl d_Wh_setDifferenceOfSizes_11 ?_
  refine r_iload_n C 3 rfl d_Wh_setDifferenceOfSizes_13 ?_
  refine r_icmp_ge C 65 d_Wh_setDifferenceOfSizes_14 (by decide) ⟨fun c0 => ?_, fun c0 => ?_⟩
  · have K := K.1 c0
    refine r_aload_n C 0 rfl d_Wh_setDifferenceOfSizes_65 ?_
    refine r_iload_n C 3 rfl d_Wh_setDifferenceOfSizes_66 ?_
    refine r_callV (As := [.int v3]) (st := []) (lvc := 0) (mcc := 0) (msc := 0) C Rm M_Wh_trim rfl k_382 hp0 (by decide) (Nat.le_of_ble_eq_true rfl) ⟨by decide, by decide⟩ d_Wh_setDifferenceOfSizes_67 ?_
    refine Can.mono K (fun _ h1 z => ?_)
    obtain ⟨rfl, K⟩ := z
    show Wg X 0 0 h1 [(0, .ref p0), (1, .ref p1), (2, .ref p2), (3, .int v3), (4, .long v4), (6, .int v6)] [] 70
    exact q_vret C Q d_Wh_setDifferenceOfSizes_70 ⟨rfl, K⟩
  · have K := K.2 c0
    refine r_aload_n C 1 rfl d_Wh_setDifferenceOfSizes_17 ?_
    refine r_iload C 5 rfl d_Wh_setDifferenceOfSizes_18 ?_
    refine r_callV (As := [.int v6]) (st := []) (lvc := 0) (mcc := 0) (msc := 0) C Rm M_Wh_wordAt rfl k_541 hp1 (by decide) (Nat.le_of_ble_eq_true rfl) ⟨by decide, by decide⟩ d_Wh_setDifferenceOfSizes_20 ?_
    refine Can.mono K (fun _ h2 z => ?_)
    obtain ⟨r2, rfl, K⟩ := z
    show Wg X 0 0 h2 [(0, .ref p0), (1, .ref p1), (2, .ref p2), (3, .int v3), (4, .long v4), (6, .int v6)] [.long r2] 23
    refine r_aload_n C 2 rfl d_Wh_setDifferenceOfSizes_23 ?_
    refine r_iload C 5 rfl d_Wh_setDifferenceOfSizes_24 ?_
    refine r_callV (As := [.int v6]) (st := [.long r2]) (lvc := 0) (mcc := 0) (msc := 0) C Rm M_Wh_wordAt rfl k_541 hp2 (by decide) (Nat.le_of_ble_eq_true rfl) ⟨by decide, by decide⟩ d_Wh_setDifferenceOfSizes_26 ?_
    refine Can.mono K (fun _ h3 z => ?_)
    obtain ⟨r3, rfl, K⟩ := z
    show Wg X 0 0 h3 [(0, .ref p0), (1, .ref p1), (2, .ref p2), (3, .int v3), (4, .long v4), (6, .int v6)] [.long r3, .long r2] 29
    refine r_lsub C d_Wh_setDifferenceOfSizes_29 ?_
    refine r_lload C 4 rfl d_Wh_setDifferenceOfSizes_30 ?_
    refine r_lsub C d_Wh_setDifferenceOfSizes_32 ?_
    refine r_lstore (ls2 := [(0, .ref p0), (1, .ref p1), (2, .ref p2), (3, .int v3), (4, .long v4), (6, .int v6), (7, .long ((r2 - r3) - v4))]) C (by decide) rfl d_Wh_setDifferenceOfSizes_33 ?_
    refine r_aload_n C 0 rfl d_Wh_setDifferenceOfSizes_35 ?_
    refine gf_Wh_words (k2 := p0 + 1) C rfl hp0 k_105 d_Wh_setDifferenceOfSizes_36 ?_
    refine r_iload C 5 rfl d_Wh_setDifferenceOfSizes_39 ?_
    refine r_lload C 6 rfl d_Wh_setDifferenceOfSizes_41 ?_
    refine r_l2i C d_Wh_setDifferenceOfSizes_43 ?_
    obtain ⟨s0, K⟩ := K
    refine r_iast C (kWh1 hp0) s0 d_Wh_setDifferenceOfSizes_44 ?_
    refine r_lload C 6 rfl d_Wh_setDifferenceOfSizes_45 ?_
    refine r_lconst (v := 0) C (by decide) d_Wh_setDifferenceOfSizes_47 ?_
    refine r_lcmp C d_Wh_setDifferenceOfSizes_48 ?_
    refine r_if_ge C 56 d_Wh_setDifferenceOfSizes_49 (by decide) ⟨fun c0 => ?_, fun c0 => ?_⟩
    · have K := K.1 c0
      refine r_lconst (v := 0) C (by decide) d_Wh_setDifferenceOfSizes_56 ?_
      refine r_lstore (ls2 := [(0, .ref p0), (1, .ref p1), (2, .ref p2), (3, .int v3), (4, .long 0), (6, .int v6), (7, .long ((r2 - r3) - v4))]) C (by decide) rfl d_Wh_setDifferenceOfSizes_57 ?_
      refine r_iinc (ls2 := [(0, .ref p0), (1, .ref p1), (2, .ref p2), (3, .int v3), (4, .long 0), (6, .int (v6 + 1)), (7, .long ((r2 - r3) - v4))]) C 5 (m := 1) rfl (by decide) (by decide) rfl d_Wh_setDifferenceOfSizes_59 ?_
      refine r_goto C 11 d_Wh_setDifferenceOfSizes_62 (by decide) ?_
      exact Wg.drop (by simp) K
    · have K := K.2 c0
      refine r_lconst (v := 1) C (by decide) d_Wh_setDifferenceOfSizes_52 ?_
      refine r_goto C 57 d_Wh_setDifferenceOfSizes_53 (by decide) ?_
      refine r_lstore (ls2 := [(0, .ref p0), (1, .ref p1), (2, .ref p2), (3, .int v3), (4, .long 1), (6, .int v6), (7, .long ((r2 - r3) - v4))]) C (by decide) rfl d_Wh_setDifferenceOfSizes_57 ?_
      refine r_iinc (ls2 := [(0, .ref p0), (1, .ref p1), (2, .ref p2), (3, .int v3), (4, .long 1), (6, .int (v6 + 1)), (7, .long ((r2 - r3) - v4))]) C 5 (m := 1) rfl (by decide) (by decide) rfl d_Wh_setDifferenceOfSizes_59 ?_
      refine r_goto C 11 d_Wh_setDifferenceOfSizes_62 (by decide) ?_
      exact Wg.drop (by simp) K
set_option maxRecDepth 20000 in
theorem g_Wh_setSum_0 {X : CX} {h : HP} {p0 : Nat} {p1 : Nat} {p2 : Nat} {Φ : HP → Prop} (C : Cok X b_Wh_setSum 5 R_Wh none) (Rm : xR X = rml 3 0 0) (Q : Qok X 0 0 (fun r h2 => r = none ∧ Φ h2)) (hp0 : kd p0 = (0, 0)) (hp1 : kd p1 = (0, 0)) (hp2 : kd p2 = (0, 0))
    (K : (¬ ((h p1 2)) = ((h p2 2)) → K_Wh_orderOfSizes [.ref p1, .ref p2] h (fun r1 h1 => (r1 < 0 → ((h p2 2) = 0 ∨ (h p2 2) = 1) ∧ (K_Wh_setDifferenceOfSizes [.ref p0, .ref p2, .ref p1] (up h1 p0 2 (h p2 2)) (fun h2 => Φ h2))) ∧ (¬ r1 < 0 → ((h p1 2) = 0 ∨ (h p1 2) = 1) ∧ (K_Wh_setDifferenceOfSizes [.ref p0, .ref p1, .ref p2] (up h1 p0 2 (h p1 2)) (fun h3 => Φ h3))))) ∧ (((h p1 2)) = ((h p2 2)) → ((h p1 2) = 0 ∨ (h p1 2) = 1) ∧ (K_Wh_setSumOfSizes [.ref p0, .ref p1, .ref p2] (up h p0 2 (h p1 2)) (fun h4 => Φ h4)))) :
    Wg X 0 0 h [(0, .ref p0), (1, .ref p1), (2, .ref p2)] [] 0 := by
  refine r_aload_n C 1 rfl d_Wh_setSum_0 ?_
  refine gf_Wh_below C hp1 k_112 d_Wh_setSum_1 ?_
  refine r_istore_n (ls2 := [(0, .ref p0), (1, .ref p1), (2, .ref p2), (3, .int (h p1 2))]) C rfl (by decide) rfl d_Wh_setSum_4 ?_
  refine r_aload_n C 2 rfl d_Wh_setSum_5 ?_
  refine gf_Wh_below C hp2 k_112 d_Wh_setSum_6 ?_
  refine r_istore (ls2 := [(0, .ref p0), (1, .ref p1), (2, .ref p2), (3, .int (h p1 2)), (4, .int (h p2 2))]) C (by decide) rfl d_Wh_setSum_9 ?_
  refine r_iload_n C 3 rfl d_Wh_setSum_11 ?_
  refine r_iload C 4 rfl d_Wh_setSum_12 ?_
  refine r_icmp_ne C 31 d_Wh_setSum_14 (by decide) ⟨fun c0 => ?_, fun c0 => ?_⟩
  · have K := K.1 c0
    refine r_aload_n C 1 rfl d_Wh_setSum_31 ?_
    refine r_aload_n C 2 rfl d_Wh_setSum_32 ?_
    refine r_callV (As := [.ref p2]) (st := []) (lvc := 1) (mcc := 0) (msc := 0) C Rm M_Wh_orderOfSizes rfl k_858 hp1 (by decide) (Nat.le_of_ble_eq_true rfl) ⟨by decide, by decide⟩ d_Wh_setSum_33 ?_
    refine Can.mono K (fun _ h1 z => ?_)
    obtain ⟨r1, rfl, K⟩ := z
    show Wg X 0 0 h1 [(0, .ref p0), (1, .ref p1), (2, .ref p2), (3, .int (h p1 2)), (4, .int (h p2 2))] [.int r1] 36
    refine r_if_lt C 53 d_Wh_setSum_36 (by decide) ⟨fun c0 => ?_, fun c0 => ?_⟩
    · have K := K.1 c0
      refine r_aload_n C 0 rfl d_Wh_setSum_53 ?_
      refine r_iload C 4 rfl d_Wh_setSum_54 ?_
      obtain ⟨s0, K⟩ := K
      refine pf_Wh_below C hp0 s0 k_112 d_Wh_setSum_56 ?_
      refine r_aload_n C 0 rfl d_Wh_setSum_59 ?_
      refine r_aload_n C 2 rfl d_Wh_setSum_60 ?_
      refine r_aload_n C 1 rfl d_Wh_setSum_61 ?_
      refine r_callV (As := [.ref p2, .ref p1]) (st := []) (lvc := 1) (mcc := 0) (msc := 0) C Rm M_Wh_setDifferenceOfSizes rfl k_859 hp0 (by decide) (Nat.le_of_ble_eq_true rfl) ⟨by decide, by decide⟩ d_Wh_setSum_62 ?_
      refine Can.mono K (fun _ h2 z => ?_)
      obtain ⟨rfl, K⟩ := z
      show Wg X 0 0 h2 [(0, .ref p0), (1, .ref p1), (2, .ref p2), (3, .int (h p1 2)), (4, .int (h p2 2))] [] 65
      exact q_vret C Q d_Wh_setSum_65 ⟨rfl, K⟩
    · have K := K.2 c0
      refine r_aload_n C 0 rfl d_Wh_setSum_39 ?_
      refine r_iload_n C 3 rfl d_Wh_setSum_40 ?_
      obtain ⟨s0, K⟩ := K
      refine pf_Wh_below C hp0 s0 k_112 d_Wh_setSum_41 ?_
      refine r_aload_n C 0 rfl d_Wh_setSum_44 ?_
      refine r_aload_n C 1 rfl d_Wh_setSum_45 ?_
      refine r_aload_n C 2 rfl d_Wh_setSum_46 ?_
      refine r_callV (As := [.ref p1, .ref p2]) (st := []) (lvc := 1) (mcc := 0) (msc := 0) C Rm M_Wh_setDifferenceOfSizes rfl k_859 hp0 (by decide) (Nat.le_of_ble_eq_true rfl) ⟨by decide, by decide⟩ d_Wh_setSum_47 ?_
      refine Can.mono K (fun _ h3 z => ?_)
      obtain ⟨rfl, K⟩ := z
      show Wg X 0 0 h3 [(0, .ref p0), (1, .ref p1), (2, .ref p2), (3, .int (h p1 2)), (4, .int (h p2 2))] [] 50
      refine r_goto C 65 d_Wh_setSum_50 (by decide) ?_
      exact q_vret C Q d_Wh_setSum_65 ⟨rfl, K⟩
  · have K := K.2 c0
    refine r_aload_n C 0 rfl d_Wh_setSum_17 ?_
    refine r_iload_n C 3 rfl d_Wh_setSum_18 ?_
    obtain ⟨s0, K⟩ := K
    refine pf_Wh_below C hp0 s0 k_112 d_Wh_setSum_19 ?_
    refine r_aload_n C 0 rfl d_Wh_setSum_22 ?_
    refine r_aload_n C 1 rfl d_Wh_setSum_23 ?_
    refine r_aload_n C 2 rfl d_Wh_setSum_24 ?_
    refine r_callV (As := [.ref p1, .ref p2]) (st := []) (lvc := 2) (mcc := 0) (msc := 0) C Rm M_Wh_setSumOfSizes rfl k_853 hp0 (by decide) (Nat.le_of_ble_eq_true rfl) ⟨by decide, by decide⟩ d_Wh_setSum_25 ?_
    refine Can.mono K (fun _ h4 z => ?_)
    obtain ⟨rfl, K⟩ := z
    show Wg X 0 0 h4 [(0, .ref p0), (1, .ref p1), (2, .ref p2), (3, .int (h p1 2)), (4, .int (h p2 2))] [] 28
    refine r_goto C 65 d_Wh_setSum_28 (by decide) ?_
    exact q_vret C Q d_Wh_setSum_65 ⟨rfl, K⟩
set_option maxRecDepth 20000 in
theorem g_Wh_setProduct_0 {X : CX} {h : HP} {p0 : Nat} {p1 : Nat} {p2 : Nat} {Φ : HP → Prop} (C : Cok X b_Wh_setProduct 8 R_Wh none) (Rm : xR X = rml 11 0 0) (Q : Qok X 0 0 (fun r h2 => r = none ∧ Φ h2)) (hp0 : kd p0 = (0, 0)) (hp1 : kd p1 = (0, 0)) (hp2 : kd p2 = (0, 0))
    (K : K_Ar_fill [.ref (p0 + 1), .int 0, .int ((h p1 1) + (h p2 1)), .int 0] h (fun h1 => Wg X 0 0 h1 [(0, .ref p0), (1, .ref p1), (2, .ref p2), (3, .int ((h p1 1) + (h p2 1))), (4, .int 0)] [] 23)) :
    Wg X 0 0 h [(0, .ref p0), (1, .ref p1), (2, .ref p2)] [] 0 := by
  refine r_aload_n C 1 rfl d_Wh_setProduct_0 ?_
  refine gf_Wh_length C hp1 k_109 d_Wh_setProduct_1 ?_
  refine r_aload_n C 2 rfl d_Wh_setProduct_4 ?_
  refine gf_Wh_length C hp2 k_109 d_Wh_setProduct_5 ?_
  refine r_iadd C d_Wh_setProduct_8 ?_
  refine r_istore_n (ls2 := [(0, .ref p0), (1, .ref p1), (2, .ref p2), (3, .int ((h p1 1) + (h p2 1)))]) C rfl (by decide) rfl d_Wh_setProduct_9 ?_
  refine r_aload_n C 0 rfl d_Wh_setProduct_10 ?_
  refine gf_Wh_words (k2 := p0 + 1) C rfl hp0 k_105 d_Wh_setProduct_11 ?_
  refine r_iconst (v := 0) C (by decide) d_Wh_setProduct_14 ?_
  refine r_iload_n C 3 rfl d_Wh_setProduct_15 ?_
  refine r_iconst (v := 0) C (by decide) d_Wh_setProduct_16 ?_
  refine r_callS (As := [.ref (p0 + 1), .int 0, .int ((h p1 1) + (h p2 1)), .int 0]) (st := []) (lvc := 10) (mcc := 0) (msc := 0) C Rm M_Ar_fill rfl k_587 (by decide) (Nat.le_of_ble_eq_true rfl) ⟨by decide, by decide⟩ d_Wh_setProduct_17 ?_
  refine Can.mono K (fun _ h1 z => ?_)
  obtain ⟨rfl, K⟩ := z
  show Wg X 0 0 h1 [(0, .ref p0), (1, .ref p1), (2, .ref p2), (3, .int ((h p1 1) + (h p2 1)))] [] 20
  refine r_iconst (v := 0) C (by decide) d_Wh_setProduct_20 ?_
  refine r_istore (ls2 := [(0, .ref p0), (1, .ref p1), (2, .ref p2), (3, .int ((h p1 1) + (h p2 1))), (4, .int 0)]) C (by decide) rfl d_Wh_setProduct_21 ?_
  exact K
set_option maxRecDepth 20000 in
theorem g_Wh_setProduct_23 {X : CX} {h : HP} {p0 : Nat} {p1 : Nat} {p2 : Nat} {v3 : Int32} {v4 : Int32} {Φ : HP → Prop} (C : Cok X b_Wh_setProduct 8 R_Wh none) (Rm : xR X = rml 11 0 0) (Q : Qok X 0 0 (fun r h2 => r = none ∧ Φ h2)) (hp0 : kd p0 = (0, 0)) (hp1 : kd p1 = (0, 0)) (hp2 : kd p2 = (0, 0))
    (K : (((h p1 1)) ≤ v4 → (((h p1 2)) = ((h p2 2)) → K_Wh_trim [.ref p0, .int v3] (up h p0 2 0) (fun h1 => Φ h1)) ∧ (¬ ((h p1 2)) = ((h p2 2)) → K_Wh_trim [.ref p0, .int v3] (up h p0 2 1) (fun h2 => Φ h2))) ∧ (¬ ((h p1 1)) ≤ v4 → Wg X 0 0 h [(0, .ref p0), (1, .ref p1), (2, .ref p2), (3, .int v3), (4, .int v4), (5, .long 0), (7, .int 0)] [] 38)) :
    Wg X 0 0 h [(0, .ref p0), (1, .ref p1), (2, .ref p2), (3, .int v3), (4, .int v4)] [] 23 := by
  refine r_iload C 4 rfl d_Wh_setProduct_23 ?_
  refine r_aload_n C 1 rfl d_Wh_setProduct_25 ?_
  refine gf_Wh_length C hp1 k_109 d_Wh_setProduct_26 ?_
  refine r_icmp_ge C 128 d_Wh_setProduct_29 (by decide) ⟨fun c0 => ?_, fun c0 => ?_⟩
  · have K := K.1 c0
    refine r_aload_n C 0 rfl d_Wh_setProduct_128 ?_
    refine r_aload_n C 1 rfl d_Wh_setProduct_129 ?_
    refine gf_Wh_below C hp1 k_112 d_Wh_setProduct_130 ?_
    refine r_aload_n C 2 rfl d_Wh_setProduct_133 ?_
    refine gf_Wh_below C hp2 k_112 d_Wh_setProduct_134 ?_
    refine r_icmp_eq C 144 d_Wh_setProduct_137 (by decide) ⟨fun c0 => ?_, fun c0 => ?_⟩
    · have K := K.1 c0
      refine r_iconst (v := 0) C (by decide) d_Wh_setProduct_144 ?_
      refine pf_Wh_below C hp0 (by decide) k_112 d_Wh_setProduct_145 ?_
      refine r_aload_n C 0 rfl d_Wh_setProduct_148 ?_
      refine r_iload_n C 3 rfl d_Wh_setProduct_149 ?_
      refine r_callV (As := [.int v3]) (st := []) (lvc := 0) (mcc := 0) (msc := 0) C Rm M_Wh_trim rfl k_382 hp0 (by decide) (Nat.le_of_ble_eq_true rfl) ⟨by decide, by decide⟩ d_Wh_setProduct_150 ?_
      refine Can.mono K (fun _ h1 z => ?_)
      obtain ⟨rfl, K⟩ := z
      show Wg X 0 0 h1 [(0, .ref p0), (1, .ref p1), (2, .ref p2), (3, .int v3), (4, .int v4)] [] 153
      exact q_vret C Q d_Wh_setProduct_153 ⟨rfl, K⟩
    · have K := K.2 c0
      refine r_iconst (v := 1) C (by decide) d_Wh_setProduct_140 ?_
      refine r_goto C 145 d_Wh_setProduct_141 (by decide) ?_
      refine pf_Wh_below C hp0 (by decide) k_112 d_Wh_setProduct_145 ?_
      refine r_aload_n C 0 rfl d_Wh_setProduct_148 ?_
      refine r_iload_n C 3 rfl d_Wh_setProduct_149 ?_
      refine r_callV (As := [.int v3]) (st := []) (lvc := 0) (mcc := 0) (msc := 0) C Rm M_Wh_trim rfl k_382 hp0 (by decide) (Nat.le_of_ble_eq_true rfl) ⟨by decide, by decide⟩ d_Wh_setProduct_150 ?_
      refine Can.mono K (fun _ h2 z => ?_)
      obtain ⟨rfl, K⟩ := z
      show Wg X 0 0 h2 [(0, .ref p0), (1, .ref p1), (2, .ref p2), (3, .int v3), (4, .int v4)] [] 153
      exact q_vret C Q d_Wh_setProduct_153 ⟨rfl, K⟩
  · have K := K.2 c0
    refine r_lconst (v := 0) C (by decide) d_Wh_setProduct_32 ?_
    refine r_lstore (ls2 := [(0, .ref p0), (1, .ref p1), (2, .ref p2), (3, .int v3), (4, .int v4), (5, .long 0)]) C (by decide) rfl d_Wh_setProduct_33 ?_
    refine r_iconst (v := 0) C (by decide) d_Wh_setProduct_35 ?_
    refine r_istore (ls2 := [(0, .ref p0), (1, .ref p1), (2, .ref p2), (3, .int v3), (4, .int v4), (5, .long 0), (7, .int 0)]) C (by decide) rfl d_Wh_setProduct_36 ?_
    exact K
set_option maxRecDepth 20000 in
theorem g_Wh_setProduct_38 {X : CX} {h : HP} {p0 : Nat} {p1 : Nat} {p2 : Nat} {v3 : Int32} {v4 : Int32} {v5 : Int64} {v7 : Int32} {Φ : HP → Prop} (C : Cok X b_Wh_setProduct 8 R_Wh none) (Rm : xR X = rml 11 0 0) (Q : Qok X 0 0 (fun r h2 => r = none ∧ Φ h2)) (hp0 : kd p0 = (0, 0)) (hp1 : kd p1 = (0, 0)) (hp2 : kd p2 = (0, 0))
    (K : (((h p2 1)) ≤ v7 → vp_in (v4 + (h p2 1)) 44 ∧ (Wg X 0 0 (up h (p0 + 1) (v4 + (h p2 1)).toNatClampNeg (Int64.toInt32 v5)) [(0, .ref p0), (1, .ref p1), (2, .ref p2), (3, .int v3), (4, .int (v4 + 1))] [] 23)) ∧ (¬ ((h p2 1)) ≤ v7 → K_Wh_wordAt [.ref p1, .int v4] h (fun r1 h1 => K_Wh_wordAt [.ref p2, .int v7] h1 (fun r2 h2 => vp_in (v4 + v7) 44 ∧ (vp_in (v4 + v7) 44 ∧ (Wg X 0 0 (up h2 (p0 + 1) (v4 + v7).toNatClampNeg (Int64.toInt32 (v5 + ((r1 * r2) + ((Int32.toInt64 (h2 (p0 + 1) (v4 + v7).toNatClampNeg)) &&& 4294967295))))) [(0, .ref p0), (1, .ref p1), (2, .ref p2), (3, .int v3), (4, .int v4), (5, .long (lushr (v5 + ((r1 * r2) + ((Int32.toInt64 (h2 (p0 + 1) (v4 + v7).toNatClampNeg)) &&& 4294967295))) 32)), (7, .int (v7 + 1))] [] 38)))))) :
    Wg X 0 0 h [(0, .ref p0), (1, .ref p1), (2, .ref p2), (3, .int v3), (4, .int v4), (5, .long v5), (7, .int v7)] [] 38 := by
  refine r_iload C 6 rfl d_Wh_setProduct_38 ?_
  refine r_aload_n C 2 rfl d_Wh_setProduct_40 ?_
  refine gf_Wh_length C hp2 k_109 d_Wh_setProduct_41 ?_
  refine r_icmp_ge C 107 d_Wh_setProduct_44 (by decide) ⟨fun c0 => ?_, fun c0 => ?_⟩
  · have K := K.1 c0
    refine r_aload_n C 0 rfl d_Wh_setProduct_107 ?_
    refine gf_Wh_words (k2 := p0 + 1) C rfl hp0 k_105 d_Wh_setProduct_108 ?_
    refine r_iload C 4 rfl d_Wh_setProduct_111 ?_
    refine r_aload_n C 2 rfl d_Wh_setProduct_113 ?_
    refine gf_Wh_length C hp2 k_109 d_Wh_setProduct_114 ?_
    refine r_iadd C d_Wh_setProduct_117 ?_
    refine r_lload C 5 rfl d_Wh_setProduct_118 ?_
    refine r_l2i C d_Wh_setProduct_120 ?_
    obtain ⟨s0, K⟩ := K
    refine r_iast C (kWh1 hp0) s0 d_Wh_setProduct_121 ?_
    refine r_iinc (ls2 := [(0, .ref p0), (1, .ref p1), (2, .ref p2), (3, .int v3), (4, .int (v4 + 1)), (5, .long v5), (7, .int v7)]) C 4 (m := 1) rfl (by decide) (by decide) rfl d_Wh_setProduct_122 ?_
    refine r_goto C 23 d_Wh_setProduct_125 (by decide) ?_
    exact Wg.drop (by simp) K
  · have K := K.2 c0
    refine r_lload C 5 rfl d_Wh_setProduct_47 ?_
    refine r_aload_n C 1 rfl d_Wh_setProduct_49 ?_
    refine r_iload C 4 rfl d_Wh_setProduct_50 ?_
    refine r_callV (As := [.int v4]) (st := [.long v5]) (lvc := 0) (mcc := 0) (msc := 0) C Rm M_Wh_wordAt rfl k_541 hp1 (by decide) (Nat.le_of_ble_eq_true rfl) ⟨by decide, by decide⟩ d_Wh_setProduct_52 ?_
    refine Can.mono K (fun _ h1 z => ?_)
    obtain ⟨r1, rfl, K⟩ := z
    show Wg X 0 0 h1 [(0, .ref p0), (1, .ref p1), (2, .ref p2), (3, .int v3), (4, .int v4), (5, .long v5), (7, .int v7)] [.long r1, .long v5] 55
    refine r_aload_n C 2 rfl d_Wh_setProduct_55 ?_
    refine r_iload C 6 rfl d_Wh_setProduct_56 ?_
    refine r_callV (As := [.int v7]) (st := [.long r1, .long v5]) (lvc := 0) (mcc := 0) (msc := 0) C Rm M_Wh_wordAt rfl k_541 hp2 (by decide) (Nat.le_of_ble_eq_true rfl) ⟨by decide, by decide⟩ d_Wh_setProduct_58 ?_
    refine Can.mono K (fun _ h2 z => ?_)
    obtain ⟨r2, rfl, K⟩ := z
    show Wg X 0 0 h2 [(0, .ref p0), (1, .ref p1), (2, .ref p2), (3, .int v3), (4, .int v4), (5, .long v5), (7, .int v7)] [.long r2, .long r1, .long v5] 61
    refine r_lmul C d_Wh_setProduct_61 ?_
    refine r_aload_n C 0 rfl d_Wh_setProduct_62 ?_
    refine gf_Wh_words (k2 := p0 + 1) C rfl hp0 k_105 d_Wh_setProduct_63 ?_
    refine r_iload C 4 rfl d_Wh_setProduct_66 ?_
    refine r_iload C 6 rfl d_Wh_setProduct_68 ?_
    refine r_iadd C d_Wh_setProduct_70 ?_
    obtain ⟨s0, K⟩ := K
    refine r_iald C (kWh1 hp0) s0 d_Wh_setProduct_71 ?_
    refine r_i2l C d_Wh_setProduct_72 ?_
    refine r_ldc2 (v := 4294967295) C k_536 d_Wh_setProduct_73 ?_
    refine r_land C d_Wh_setProduct_76 ?_
    refine r_ladd C d_Wh_setProduct_77 ?_
    refine r_ladd C d_Wh_setProduct_78 ?_
    refine r_lstore (ls2 := [(0, .ref p0), (1, .ref p1), (2, .ref p2), (3, .int v3), (4, .int v4), (5, .long (v5 + ((r1 * r2) + ((Int32.toInt64 (h2 (p0 + 1) (v4 + v7).toNatClampNeg)) &&& 4294967295)))), (7, .int v7)]) C (by decide) rfl d_Wh_setProduct_79 ?_
    refine r_aload_n C 0 rfl d_Wh_setProduct_81 ?_
    refine gf_Wh_words (k2 := p0 + 1) C rfl hp0 k_105 d_Wh_setProduct_82 ?_
    refine r_iload C 4 rfl d_Wh_setProduct_85 ?_
    refine r_iload C 6 rfl d_Wh_setProduct_87 ?_
    refine r_iadd C d_Wh_setProduct_89 ?_
    refine r_lload C 5 rfl d_Wh_setProduct_90 ?_
    refine r_l2i C d_Wh_setProduct_92 ?_
    obtain ⟨s0, K⟩ := K
    refine r_iast C (kWh1 hp0) s0 d_Wh_setProduct_93 ?_
    refine r_lload C 5 rfl d_Wh_setProduct_94 ?_
    refine r_bipush (v := 32) C (by decide) d_Wh_setProduct_96 ?_
    refine r_lushr C d_Wh_setProduct_98 ?_
    refine r_lstore (ls2 := [(0, .ref p0), (1, .ref p1), (2, .ref p2), (3, .int v3), (4, .int v4), (5, .long (lushr (v5 + ((r1 * r2) + ((Int32.toInt64 (h2 (p0 + 1) (v4 + v7).toNatClampNeg)) &&& 4294967295))) 32)), (7, .int v7)]) C (by decide) rfl d_Wh_setProduct_99 ?_
    refine r_iinc (ls2 := [(0, .ref p0), (1, .ref p1), (2, .ref p2), (3, .int v3), (4, .int v4), (5, .long (lushr (v5 + ((r1 * r2) + ((Int32.toInt64 (h2 (p0 + 1) (v4 + v7).toNatClampNeg)) &&& 4294967295))) 32)), (7, .int (v7 + 1))]) C 6 (m := 1) rfl (by decide) (by decide) rfl d_Wh_setProduct_101 ?_
    refine r_goto C 38 d_Wh_setProduct_104 (by decide) ?_
    exact K
set_option maxRecDepth 20000 in
theorem g_Wh_multiplyBy10AndAdd_0 {X : CX} {h : HP} {p0 : Nat} {v1 : Int32} {Φ : HP → Prop} (C : Cok X b_Wh_multiplyBy10AndAdd 5 R_Wh none) (Rm : xR X = rml 1 0 0) (Q : Qok X 0 0 (fun r h2 => r = none ∧ Φ h2)) (hp0 : kd p0 = (0, 0))
    (K : Wg X 0 0 h [(0, .ref p0), (1, .int v1), (2, .long (Int32.toInt64 v1)), (4, .int 0)] [] 6) :
    Wg X 0 0 h [(0, .ref p0), (1, .int v1)] [] 0 := by
  refine r_iload_n C 1 rfl d_Wh_multiplyBy10AndAdd_0 ?_
  refine r_i2l C d_Wh_multiplyBy10AndAdd_1 ?_
  refine r_lstore_n (ls2 := [(0, .ref p0), (1, .int v1), (2, .long (Int32.toInt64 v1))]) C rfl (by decide) rfl d_Wh_multiplyBy10AndAdd_2 ?_
  refine r_iconst (v := 0) C (by decide) d_Wh_multiplyBy10AndAdd_3 ?_
  refine r_istore (ls2 := [(0, .ref p0), (1, .int v1), (2, .long (Int32.toInt64 v1)), (4, .int 0)]) C (by decide) rfl d_Wh_multiplyBy10AndAdd_4 ?_
  exact K
set_option maxRecDepth 20000 in
theorem g_Wh_multiplyBy10AndAdd_6 {X : CX} {h : HP} {p0 : Nat} {v1 : Int32} {v2 : Int64} {v4 : Int32} {Φ : HP → Prop} (C : Cok X b_Wh_multiplyBy10AndAdd 5 R_Wh none) (Rm : xR X = rml 1 0 0) (Q : Qok X 0 0 (fun r h2 => r = none ∧ Φ h2)) (hp0 : kd p0 = (0, 0))
    (K : (((h p0 1)) ≤ v4 → vp_in (h p0 1) 44 ∧ (K_Wh_trim [.ref p0, .int (((up h (p0 + 1) (h p0 1).toNatClampNeg (Int64.toInt32 v2)) p0 1) + 1)] (up h (p0 + 1) (h p0 1).toNatClampNeg (Int64.toInt32 v2)) (fun h1 => Φ h1))) ∧ (¬ ((h p0 1)) ≤ v4 → K_Wh_wordAt [.ref p0, .int v4] h (fun r2 h2 => vp_in v4 44 ∧ (Wg X 0 0 (up h2 (p0 + 1) v4.toNatClampNeg (Int64.toInt32 (v2 + (r2 * 10)))) [(0, .ref p0), (1, .int v1), (2, .long (lushr (v2 + (r2 * 10)) 32)), (4, .int (v4 + 1))] [] 6)))) :
    Wg X 0 0 h [(0, .ref p0), (1, .int v1), (2, .long v2), (4, .int v4)] [] 6 := by
  refine r_iload C 3 rfl d_Wh_multiplyBy10AndAdd_6 ?_
  refine r_aload_n C 0 rfl d_Wh_multiplyBy10AndAdd_8 ?_
  refine gf_Wh_length C hp0 k_109 d_Wh_multiplyBy10AndAdd_9 ?_
  refine r_icmp_ge C 48 d_Wh_multiplyBy10AndAdd_12 (by decide) ⟨fun c0 => ?_, fun c0 => ?_⟩
  · have K := K.1 c0
    refine r_aload_n C 0 rfl d_Wh_multiplyBy10AndAdd_48 ?_
    refine gf_Wh_words (k2 := p0 + 1) C rfl hp0 k_105 d_Wh_multiplyBy10AndAdd_49 ?_
    refine r_aload_n C 0 rfl d_Wh_multiplyBy10AndAdd_52 ?_
    refine gf_Wh_length C hp0 k_109 d_Wh_multiplyBy10AndAdd_53 ?_
    refine r_lload_n C 2 rfl d_Wh_multiplyBy10AndAdd_56 ?_
    refine r_l2i C d_Wh_multiplyBy10AndAdd_57 ?_
    obtain ⟨s0, K⟩ := K
    refine r_iast C (kWh1 hp0) s0 d_Wh_multiplyBy10AndAdd_58 ?_
    refine r_aload_n C 0 rfl d_Wh_multiplyBy10AndAdd_59 ?_
    refine r_aload_n C 0 rfl d_Wh_multiplyBy10AndAdd_60 ?_
    refine gf_Wh_length C hp0 k_109 d_Wh_multiplyBy10AndAdd_61 ?_
    refine r_iconst (v := 1) C (by decide) d_Wh_multiplyBy10AndAdd_64 ?_
    refine r_iadd C d_Wh_multiplyBy10AndAdd_65 ?_
    refine r_callV (As := [.int (((up h (p0 + 1) (h p0 1).toNatClampNeg (Int64.toInt32 v2)) p0 1) + 1)]) (st := []) (lvc := 0) (mcc := 0) (msc := 0) C Rm M_Wh_trim rfl k_382 hp0 (by decide) (Nat.le_of_ble_eq_true rfl) ⟨by decide, by decide⟩ d_Wh_multiplyBy10AndAdd_66 ?_
    refine Can.mono K (fun _ h1 z => ?_)
    obtain ⟨rfl, K⟩ := z
    show Wg X 0 0 h1 [(0, .ref p0), (1, .int v1), (2, .long v2), (4, .int v4)] [] 69
    exact q_vret C Q d_Wh_multiplyBy10AndAdd_69 ⟨rfl, K⟩
  · have K := K.2 c0
    refine r_lload_n C 2 rfl d_Wh_multiplyBy10AndAdd_15 ?_
    refine r_aload_n C 0 rfl d_Wh_multiplyBy10AndAdd_16 ?_
    refine r_iload C 3 rfl d_Wh_multiplyBy10AndAdd_17 ?_
    refine r_callV (As := [.int v4]) (st := [.long v2]) (lvc := 0) (mcc := 0) (msc := 0) C Rm M_Wh_wordAt rfl k_541 hp0 (by decide) (Nat.le_of_ble_eq_true rfl) ⟨by decide, by decide⟩ d_Wh_multiplyBy10AndAdd_19 ?_
    refine Can.mono K (fun _ h2 z => ?_)
    obtain ⟨r2, rfl, K⟩ := z
    show Wg X 0 0 h2 [(0, .ref p0), (1, .int v1), (2, .long v2), (4, .int v4)] [.long r2, .long v2] 22
    refine r_ldc2 (v := 10) C k_948 d_Wh_multiplyBy10AndAdd_22 ?_
    refine r_lmul C d_Wh_multiplyBy10AndAdd_25 ?_
    refine r_ladd C d_Wh_multiplyBy10AndAdd_26 ?_
    refine r_lstore_n (ls2 := [(0, .ref p0), (1, .int v1), (2, .long (v2 + (r2 * 10))), (4, .int v4)]) C rfl (by decide) rfl d_Wh_multiplyBy10AndAdd_27 ?_
    refine r_aload_n C 0 rfl d_Wh_multiplyBy10AndAdd_28 ?_
    refine gf_Wh_words (k2 := p0 + 1) C rfl hp0 k_105 d_Wh_multiplyBy10AndAdd_29 ?_
    refine r_iload C 3 rfl d_Wh_multiplyBy10AndAdd_32 ?_
    refine r_lload_n C 2 rfl d_Wh_multiplyBy10AndAdd_34 ?_
    refine r_l2i C d_Wh_multiplyBy10AndAdd_35 ?_
    obtain ⟨s0, K⟩ := K
    refine r_iast C (kWh1 hp0) s0 d_Wh_multiplyBy10AndAdd_36 ?_
    refine r_lload_n C 2 rfl d_Wh_multiplyBy10AndAdd_37 ?_
    refine r_bipush (v := 32) C (by decide) d_Wh_multiplyBy10AndAdd_38 ?_
    refine r_lushr C d_Wh_multiplyBy10AndAdd_40 ?_
    refine r_lstore_n (ls2 := [(0, .ref p0), (1, .int v1), (2, .long (lushr (v2 + (r2 * 10)) 32)), (4, .int v4)]) C rfl (by decide) rfl d_Wh_multiplyBy10AndAdd_41 ?_
    refine r_iinc (ls2 := [(0, .ref p0), (1, .int v1), (2, .long (lushr (v2 + (r2 * 10)) 32)), (4, .int (v4 + 1))]) C 3 (m := 1) rfl (by decide) (by decide) rfl d_Wh_multiplyBy10AndAdd_42 ?_
    refine r_goto C 6 d_Wh_multiplyBy10AndAdd_45 (by decide) ?_
    exact K
set_option maxRecDepth 20000 in
theorem g_Wh_quotientWithoutSign_0 {X : CX} {h : HP} {v0 : Int64} {v2 : Int64} {Φ : Int64 → HP → Prop} (C : Cok X b_Wh_quotientWithoutSign 6 R_Wh ((some .long))) (Rm : xR X = rml 0 0 0) (Q : Qok X 0 0 (fun r h2 => ∃ v, r = some (.long v) ∧ Φ v h2)) 
    (K : ¬ v2 = 0 ∧ (((lg_cmp (v0 - ((lshl ((lushr v0 1) / v2) 1) * v2)) v2) < 0 → Φ (lshl ((lushr v0 1) / v2) 1) h) ∧ (¬ (lg_cmp (v0 - ((lshl ((lushr v0 1) / v2) 1) * v2)) v2) < 0 → Φ ((lshl ((lushr v0 1) / v2) 1) + 1) h))) :
    Wg X 0 0 h [(0, .long v0), (2, .long v2)] [] 0 := by
  refine r_lload_n C 0 rfl d_Wh_quotientWithoutSign_0 ?_
  refine r_iconst (v := 1) C (by decide) d_Wh_quotientWithoutSign_1 ?_
  refine r_lushr C d_Wh_quotientWithoutSign_2 ?_
  refine r_lload_n C 1 rfl d_Wh_quotientWithoutSign_3 ?_
  obtain ⟨s0, K⟩ := K
  refine r_ldiv C s0 d_Wh_quotientWithoutSign_4 ?_
  refine r_iconst (v := 1) C (by decide) d_Wh_quotientWithoutSign_5 ?_
  refine r_lshl C d_Wh_quotientWithoutSign_6 ?_
  refine r_lstore (ls2 := [(0, .long v0), (2, .long v2), (4, .long (lshl ((lushr v0 1) / v2) 1))]) C (by decide) rfl d_Wh_quotientWithoutSign_7 ?_
  refine r_lload_n C 0 rfl d_Wh_quotientWithoutSign_9 ?_
  refine r_lload C 2 rfl d_Wh_quotientWithoutSign_10 ?_
  refine r_lload_n C 1 rfl d_Wh_quotientWithoutSign_12 ?_
  refine r_lmul C d_Wh_quotientWithoutSign_13 ?_
  refine r_lsub C d_Wh_quotientWithoutSign_14 ?_
  refine r_lload_n C 1 rfl d_Wh_quotientWithoutSign_15 ?_
  refine r_lcmp C d_Wh_quotientWithoutSign_16 ?_
  refine r_if_lt C 27 d_Wh_quotientWithoutSign_17 (by decide) ⟨fun c0 => ?_, fun c0 => ?_⟩
  · have K := K.1 c0
    refine r_lload C 2 rfl d_Wh_quotientWithoutSign_27 ?_
    exact q_lret C Q d_Wh_quotientWithoutSign_29 ⟨_, rfl, K⟩
  · have K := K.2 c0
    refine r_lload C 2 rfl d_Wh_quotientWithoutSign_20 ?_
    refine r_lconst (v := 1) C (by decide) d_Wh_quotientWithoutSign_22 ?_
    refine r_ladd C d_Wh_quotientWithoutSign_23 ?_
    refine r_goto C 29 d_Wh_quotientWithoutSign_24 (by decide) ?_
    exact q_lret C Q d_Wh_quotientWithoutSign_29 ⟨_, rfl, K⟩
set_option maxRecDepth 20000 in
theorem g_Wh_divideByWord_0 {X : CX} {h : HP} {p0 : Nat} {v1 : Int64} {Φ : Int64 → HP → Prop} (C : Cok X b_Wh_divideByWord 10 R_Wh ((some .long))) (Rm : xR X = rml 1 0 0) (Q : Qok X 0 0 (fun r h2 => ∃ v, r = some (.long v) ∧ Φ v h2)) (hp0 : kd p0 = (0, 0))
    (K : Wg X 0 0 h [(0, .ref p0), (1, .long v1), (3, .long 0), (5, .int ((h p0 1) - 1))] [] 10) :
    Wg X 0 0 h [(0, .ref p0), (1, .long v1)] [] 0 := by
  refine r_lconst (v := 0) C (by decide) d_Wh_divideByWord_0 ?_
  refine r_lstore_n (ls2 := [(0, .ref p0), (1, .long v1), (3, .long 0)]) C rfl (by decide) rfl d_Wh_divideByWord_1 ?_
  refine r_aload_n C 0 rfl d_Wh_divideByWord_2 ?_
  refine gf_Wh_length C hp0 k_109 d_Wh_divideByWord_3 ?_
  refine r_iconst (v := 1) C (by decide) d_Wh_divideByWord_6 ?_
  refine r_isub C d_Wh_divideByWord_7 ?_
  refine r_istore (ls2 := [(0, .ref p0), (1, .long v1), (3, .long 0), (5, .int ((h p0 1) - 1))]) C (by decide) rfl d_Wh_divideByWord_8 ?_
  exact K
set_option maxRecDepth 20000 in
theorem g_Wh_divideByWord_10 {X : CX} {h : HP} {p0 : Nat} {v1 : Int64} {v3 : Int64} {v5 : Int32} {Φ : Int64 → HP → Prop} (C : Cok X b_Wh_divideByWord 10 R_Wh ((some .long))) (Rm : xR X = rml 1 0 0) (Q : Qok X 0 0 (fun r h2 => ∃ v, r = some (.long v) ∧ Φ v h2)) (hp0 : kd p0 = (0, 0))
    (K : (v5 < 0 → K_Wh_trim [.ref p0, .int (h p0 1)] h (fun h1 => Φ v3 h1)) ∧ (¬ v5 < 0 → K_Wh_wordAt [.ref p0, .int v5] h (fun r2 h2 => K_Wh_quotientWithoutSign [.long ((lshl v3 32) ||| r2), .long v1] h2 (fun r3 h3 => vp_in v5 44 ∧ (Wg X 0 0 (up h3 (p0 + 1) v5.toNatClampNeg (Int64.toInt32 r3)) [(0, .ref p0), (1, .long v1), (3, .long (((lshl v3 32) ||| r2) - (r3 * v1))), (5, .int (v5 + (-1)))] [] 10))))) :
    Wg X 0 0 h [(0, .ref p0), (1, .long v1), (3, .long v3), (5, .int v5)] [] 10 := by
  refine r_iload C 3 rfl d_Wh_divideByWord_10 ?_
  refine r_if_lt C 60 d_Wh_divideByWord_12 (by decide) ⟨fun c0 => ?_, fun c0 => ?_⟩
  · have K := K.1 c0
    refine r_aload_n C 0 rfl d_Wh_divideByWord_60 ?_
    refine r_aload_n C 0 rfl d_Wh_divideByWord_61 ?_
    refine gf_Wh_length C hp0 k_109 d_Wh_divideByWord_62 ?_
    refine r_callV (As := [.int (h p0 1)]) (st := []) (lvc := 0) (mcc := 0) (msc := 0) C Rm M_Wh_trim rfl k_382 hp0 (by decide) (Nat.le_of_ble_eq_true rfl) ⟨by decide, by decide⟩ d_Wh_divideByWord_65 ?_
    refine Can.mono K (fun _ h1 z => ?_)
    obtain ⟨rfl, K⟩ := z
    show Wg X 0 0 h1 [(0, .ref p0), (1, .long v1), (3, .long v3), (5, .int v5)] [] 68
    refine r_lload_n C 2 rfl d_Wh_divideByWord_68 ?_
    exact q_lret C Q d_Wh_divideByWord_69 ⟨_, rfl, K⟩
  · have K := K.2 c0
    refine r_lload_n C 2 rfl d_Wh_divideByWord_15 ?_
    refine r_bipush (v := 32) C (by decide) d_Wh_divideByWord_16 ?_
    refine r_lshl C d_Wh_divideByWord_18 ?_
    refine r_aload_n C 0 rfl d_Wh_divideByWord_19 ?_
    refine r_iload C 3 rfl d_Wh_divideByWord_20 ?_
    refine r_callV (As := [.int v5]) (st := [.long (lshl v3 32)]) (lvc := 0) (mcc := 0) (msc := 0) C Rm M_Wh_wordAt rfl k_541 hp0 (by decide) (Nat.le_of_ble_eq_true rfl) ⟨by decide, by decide⟩ d_Wh_divideByWord_22 ?_
    refine Can.mono K (fun _ h2 z => ?_)
    obtain ⟨r2, rfl, K⟩ := z
    show Wg X 0 0 h2 [(0, .ref p0), (1, .long v1), (3, .long v3), (5, .int v5)] [.long r2, .long (lshl v3 32)] 25
    refine r_lor C d_Wh_divideByWord_25 ?_
    refine r_lstore (ls2 := [(0, .ref p0), (1, .long v1), (3, .long v3), (5, .int v5), (6, .long ((lshl v3 32) ||| r2))]) C (by decide) rfl d_Wh_divideByWord_26 ?_
    refine r_lload C 4 rfl d_Wh_divideByWord_28 ?_
    refine r_lload_n C 1 rfl d_Wh_divideByWord_30 ?_
    refine r_callS (As := [.long ((lshl v3 32) ||| r2), .long v1]) (st := []) (lvc := 0) (mcc := 0) (msc := 0) C Rm M_Wh_quotientWithoutSign rfl k_542 (by decide) (Nat.le_of_ble_eq_true rfl) ⟨by decide, by decide⟩ d_Wh_divideByWord_31 ?_
    refine Can.mono K (fun _ h3 z => ?_)
    obtain ⟨r3, rfl, K⟩ := z
    show Wg X 0 0 h3 [(0, .ref p0), (1, .long v1), (3, .long v3), (5, .int v5), (6, .long ((lshl v3 32) ||| r2))] [.long r3] 34
    refine r_lstore (ls2 := [(0, .ref p0), (1, .long v1), (3, .long v3), (5, .int v5), (6, .long ((lshl v3 32) ||| r2)), (8, .long r3)]) C (by decide) rfl d_Wh_divideByWord_34 ?_
    refine r_aload_n C 0 rfl d_Wh_divideByWord_36 ?_
    refine gf_Wh_words (k2 := p0 + 1) C rfl hp0 k_105 d_Wh_divideByWord_37 ?_
    refine r_iload C 3 rfl d_Wh_divideByWord_40 ?_
    refine r_lload C 5 rfl d_Wh_divideByWord_42 ?_
    refine r_l2i C d_Wh_divideByWord_44 ?_
    obtain ⟨s0, K⟩ := K
    refine r_iast C (kWh1 hp0) s0 d_Wh_divideByWord_45 ?_
    refine r_lload C 4 rfl d_Wh_divideByWord_46 ?_
    refine r_lload C 5 rfl d_Wh_divideByWord_48 ?_
    refine r_lload_n C 1 rfl d_Wh_divideByWord_50 ?_
    refine r_lmul C d_Wh_divideByWord_51 ?_
    refine r_lsub C d_Wh_divideByWord_52 ?_
    refine r_lstore_n (ls2 := [(0, .ref p0), (1, .long v1), (3, .long (((lshl v3 32) ||| r2) - (r3 * v1))), (5, .int v5), (6, .long ((lshl v3 32) ||| r2)), (8, .long r3)]) C rfl (by decide) rfl d_Wh_divideByWord_53 ?_
    refine r_iinc (ls2 := [(0, .ref p0), (1, .long v1), (3, .long (((lshl v3 32) ||| r2) - (r3 * v1))), (5, .int (v5 + (-1))), (6, .long ((lshl v3 32) ||| r2)), (8, .long r3)]) C 3 (m := -1) rfl (by decide) (by decide) rfl d_Wh_divideByWord_54 ?_
    refine r_goto C 10 d_Wh_divideByWord_57 (by decide) ?_
    exact Wg.drop (by simp) K
