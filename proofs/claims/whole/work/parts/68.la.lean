/-! The law's calls that catch. -/
abbrev R_Lw : String := "CellHeapLaw"
theorem k_293 : (Jvm.Cond.classLink "CellHeapLaw" (13 : Nat) "java/lang/IllegalArgumentException") ∈ wx_tbl := wx_in 357 (by decide +kernel) rfl
theorem k_294 : (Jvm.Cond.methodLink "CellHeapLaw" (7 : Nat) ({ cls := "CellHeap", name := "nil", desc := "(I)V" } : Jvm.MethodName)) ∈ wx_tbl := wx_in 358 (by decide +kernel) rfl
theorem k_370 : (Jvm.Cond.methodLink "CellHeapLaw" (15 : Nat) ({ cls := "CellHeap", name := "load", desc := "(IJ)I" } : Jvm.MethodName)) ∈ wx_tbl := wx_in 434 (by decide +kernel) rfl
theorem k_438 : (Jvm.Cond.methodLink "CellHeapLaw" (19 : Nat) ({ cls := "CellHeap", name := "copy", desc := "(II)V" } : Jvm.MethodName)) ∈ wx_tbl := wx_in 502 (by decide +kernel) rfl
theorem k_445 : (Jvm.Cond.methodLink "CellHeapLaw" (23 : Nat) ({ cls := "CellHeap", name := "cons", desc := "(III)I" } : Jvm.MethodName)) ∈ wx_tbl := wx_in 509 (by decide +kernel) rfl
theorem k_454 : (Jvm.Cond.methodLink "CellHeapLaw" (27 : Nat) ({ cls := "CellHeap", name := "part", desc := "(IIZ)I" } : Jvm.MethodName)) ∈ wx_tbl := wx_in 518 (by decide +kernel) rfl
theorem k_473 : (Jvm.Cond.methodLink "CellHeapLaw" (31 : Nat) ({ cls := "CellHeap", name := "change", desc := "(IZI)I" } : Jvm.MethodName)) ∈ wx_tbl := wx_in 537 (by decide +kernel) rfl
theorem k_480 : (Jvm.Cond.methodLink "CellHeapLaw" (35 : Nat) ({ cls := "CellHeap", name := "work", desc := "(IIII)I" } : Jvm.MethodName)) ∈ wx_tbl := wx_in 544 (by decide +kernel) rfl
theorem k_871 : (Jvm.Cond.methodLink "CellHeapLaw" (39 : Nat) ({ cls := "CellHeap", name := "compare", desc := "(II)I" } : Jvm.MethodName)) ∈ wx_tbl := wx_in 935 (by decide +kernel) rfl
theorem k_886 : (Jvm.Cond.methodLink "CellHeapLaw" (43 : Nat) ({ cls := "CellHeap", name := "same", desc := "(II)Z" } : Jvm.MethodName)) ∈ wx_tbl := wx_in 950 (by decide +kernel) rfl
theorem k_893 : (Jvm.Cond.classLink "CellHeapLaw" (51 : Nat) "java/lang/IllegalStateException") ∈ wx_tbl := wx_in 957 (by decide +kernel) rfl
theorem k_894 : (Jvm.Cond.methodLink "CellHeapLaw" (47 : Nat) ({ cls := "CellHeap", name := "type", desc := "(IIIII)I" } : Jvm.MethodName)) ∈ wx_tbl := wx_in 958 (by decide +kernel) rfl
theorem k_923 : (Jvm.Cond.methodLink "CellHeapLaw" (53 : Nat) ({ cls := "CellHeap", name := "read", desc := "(I)I" } : Jvm.MethodName)) ∈ wx_tbl := wx_in 987 (by decide +kernel) rfl
theorem k_953 : (Jvm.Cond.methodLink "CellHeapLaw" (57 : Nat) ({ cls := "CellHeap", name := "write", desc := "(I)I" } : Jvm.MethodName)) ∈ wx_tbl := wx_in 1017 (by decide +kernel) rfl
theorem k_995 : (Jvm.Cond.methodLink "CellHeapLaw" (60 : Nat) ({ cls := "CellHeap", name := "value", desc := "(II)I" } : Jvm.MethodName)) ∈ wx_tbl := wx_in 1059 (by decide +kernel) rfl
theorem k_1004 : (Jvm.Cond.methodLink "CellHeapLaw" (63 : Nat) ({ cls := "CellHeap", name := "count", desc := "(I)I" } : Jvm.MethodName)) ∈ wx_tbl := wx_in 1068 (by decide +kernel) rfl
/-! La_nil -/
abbrev b_La_nil : ByteArray := method_3_code
abbrev y_La_nil : MethodName := ⟨R_Lw, "nil", "(LCellHeap;I)I"⟩
abbrev H_La_nil (As : List Value) (h : HP) (Φ : Int32 → HP → Prop) : Prop := CanH y_La_nil b_La_nil 3 (some .int) [(0, 5, 8, 13)] 12 1 6 As h (fun r h2 => ∃ v, r = some (.int v) ∧ Φ v h2)
theorem M_La_nil : MsH y_La_nil b_La_nil 3 (some .int) [(0, 5, 8, 13)] 2 := ⟨wx_in 356 (by decide +kernel) rfl, wx_in 355 (by decide +kernel) rfl, wx_in 64 (by decide +kernel) rfl, by decide +kernel, by decide⟩
theorem d_La_nil_0 : decode b_La_nil 0 = .ok (.aload_n 0, 1) := by decide +kernel
theorem d_La_nil_1 : decode b_La_nil 1 = .ok (.iload_n 1, 1) := by decide +kernel
theorem d_La_nil_2 : decode b_La_nil 2 = .ok (.invokevirtual 7, 3) := by decide +kernel
theorem d_La_nil_5 : decode b_La_nil 5 = .ok (.goto 6, 3) := by decide +kernel
theorem d_La_nil_8 : decode b_La_nil 8 = .ok (.astore_n 2, 1) := by decide +kernel
theorem d_La_nil_9 : decode b_La_nil 9 = .ok (.iconst 1, 1) := by decide +kernel
theorem d_La_nil_10 : decode b_La_nil 10 = .ok (.ireturn, 1) := by decide +kernel
theorem d_La_nil_11 : decode b_La_nil 11 = .ok (.iconst 0, 1) := by decide +kernel
theorem d_La_nil_12 : decode b_La_nil 12 = .ok (.ireturn, 1) := by decide +kernel
/-! La_load -/
abbrev b_La_load : ByteArray := method_4_code
abbrev y_La_load : MethodName := ⟨R_Lw, "load", "(LCellHeap;IJ[J)I"⟩
abbrev H_La_load (As : List Value) (h : HP) (Φ : Int32 → HP → Prop) : Prop := CanH y_La_load b_La_load 6 (some .int) [(0, 11, 14, 13)] 12 1 6 As h (fun r h2 => ∃ v, r = some (.int v) ∧ Φ v h2)
theorem M_La_load : MsH y_La_load b_La_load 6 (some .int) [(0, 11, 14, 13)] 4 := ⟨wx_in 433 (by decide +kernel) rfl, wx_in 432 (by decide +kernel) rfl, wx_in 64 (by decide +kernel) rfl, by decide +kernel, by decide⟩
theorem d_La_load_0 : decode b_La_load 0 = .ok (.aload 4, 2) := by decide +kernel
theorem d_La_load_2 : decode b_La_load 2 = .ok (.iconst 0, 1) := by decide +kernel
theorem d_La_load_3 : decode b_La_load 3 = .ok (.aload_n 0, 1) := by decide +kernel
theorem d_La_load_4 : decode b_La_load 4 = .ok (.iload_n 1, 1) := by decide +kernel
theorem d_La_load_5 : decode b_La_load 5 = .ok (.lload_n 2, 1) := by decide +kernel
theorem d_La_load_6 : decode b_La_load 6 = .ok (.invokevirtual 15, 3) := by decide +kernel
theorem d_La_load_9 : decode b_La_load 9 = .ok (.i2l, 1) := by decide +kernel
theorem d_La_load_10 : decode b_La_load 10 = .ok (.lastore, 1) := by decide +kernel
theorem d_La_load_11 : decode b_La_load 11 = .ok (.goto 7, 3) := by decide +kernel
theorem d_La_load_14 : decode b_La_load 14 = .ok (.astore 5, 2) := by decide +kernel
theorem d_La_load_16 : decode b_La_load 16 = .ok (.iconst 1, 1) := by decide +kernel
theorem d_La_load_17 : decode b_La_load 17 = .ok (.ireturn, 1) := by decide +kernel
theorem d_La_load_18 : decode b_La_load 18 = .ok (.iconst 0, 1) := by decide +kernel
theorem d_La_load_19 : decode b_La_load 19 = .ok (.ireturn, 1) := by decide +kernel
/-! La_copy -/
abbrev b_La_copy : ByteArray := method_5_code
abbrev y_La_copy : MethodName := ⟨R_Lw, "copy", "(LCellHeap;II)I"⟩
abbrev H_La_copy (As : List Value) (h : HP) (Φ : Int32 → HP → Prop) : Prop := CanH y_La_copy b_La_copy 4 (some .int) [(0, 6, 9, 13)] 12 1 6 As h (fun r h2 => ∃ v, r = some (.int v) ∧ Φ v h2)
theorem M_La_copy : MsH y_La_copy b_La_copy 4 (some .int) [(0, 6, 9, 13)] 3 := ⟨wx_in 501 (by decide +kernel) rfl, wx_in 500 (by decide +kernel) rfl, wx_in 64 (by decide +kernel) rfl, by decide +kernel, by decide⟩
theorem d_La_copy_0 : decode b_La_copy 0 = .ok (.aload_n 0, 1) := by decide +kernel
theorem d_La_copy_1 : decode b_La_copy 1 = .ok (.iload_n 1, 1) := by decide +kernel
theorem d_La_copy_2 : decode b_La_copy 2 = .ok (.iload_n 2, 1) := by decide +kernel
theorem d_La_copy_3 : decode b_La_copy 3 = .ok (.invokevirtual 19, 3) := by decide +kernel
theorem d_La_copy_6 : decode b_La_copy 6 = .ok (.goto 6, 3) := by decide +kernel
theorem d_La_copy_9 : decode b_La_copy 9 = .ok (.astore_n 3, 1) := by decide +kernel
theorem d_La_copy_10 : decode b_La_copy 10 = .ok (.iconst 1, 1) := by decide +kernel
theorem d_La_copy_11 : decode b_La_copy 11 = .ok (.ireturn, 1) := by decide +kernel
theorem d_La_copy_12 : decode b_La_copy 12 = .ok (.iconst 0, 1) := by decide +kernel
theorem d_La_copy_13 : decode b_La_copy 13 = .ok (.ireturn, 1) := by decide +kernel
/-! La_cons -/
abbrev b_La_cons : ByteArray := method_6_code
abbrev y_La_cons : MethodName := ⟨R_Lw, "cons", "(LCellHeap;III[J)I"⟩
abbrev H_La_cons (As : List Value) (h : HP) (Φ : Int32 → HP → Prop) : Prop := CanH y_La_cons b_La_cons 6 (some .int) [(0, 12, 15, 13)] 12 1 6 As h (fun r h2 => ∃ v, r = some (.int v) ∧ Φ v h2)
theorem M_La_cons : MsH y_La_cons b_La_cons 6 (some .int) [(0, 12, 15, 13)] 5 := ⟨wx_in 508 (by decide +kernel) rfl, wx_in 507 (by decide +kernel) rfl, wx_in 64 (by decide +kernel) rfl, by decide +kernel, by decide⟩
theorem d_La_cons_0 : decode b_La_cons 0 = .ok (.aload 4, 2) := by decide +kernel
theorem d_La_cons_2 : decode b_La_cons 2 = .ok (.iconst 0, 1) := by decide +kernel
theorem d_La_cons_3 : decode b_La_cons 3 = .ok (.aload_n 0, 1) := by decide +kernel
theorem d_La_cons_4 : decode b_La_cons 4 = .ok (.iload_n 1, 1) := by decide +kernel
theorem d_La_cons_5 : decode b_La_cons 5 = .ok (.iload_n 2, 1) := by decide +kernel
theorem d_La_cons_6 : decode b_La_cons 6 = .ok (.iload_n 3, 1) := by decide +kernel
theorem d_La_cons_7 : decode b_La_cons 7 = .ok (.invokevirtual 23, 3) := by decide +kernel
theorem d_La_cons_10 : decode b_La_cons 10 = .ok (.i2l, 1) := by decide +kernel
theorem d_La_cons_11 : decode b_La_cons 11 = .ok (.lastore, 1) := by decide +kernel
theorem d_La_cons_12 : decode b_La_cons 12 = .ok (.goto 7, 3) := by decide +kernel
theorem d_La_cons_15 : decode b_La_cons 15 = .ok (.astore 5, 2) := by decide +kernel
theorem d_La_cons_17 : decode b_La_cons 17 = .ok (.iconst 1, 1) := by decide +kernel
theorem d_La_cons_18 : decode b_La_cons 18 = .ok (.ireturn, 1) := by decide +kernel
theorem d_La_cons_19 : decode b_La_cons 19 = .ok (.iconst 0, 1) := by decide +kernel
theorem d_La_cons_20 : decode b_La_cons 20 = .ok (.ireturn, 1) := by decide +kernel
/-! La_part -/
abbrev b_La_part : ByteArray := method_7_code
abbrev y_La_part : MethodName := ⟨R_Lw, "part", "(LCellHeap;IIZ[J)I"⟩
abbrev H_La_part (As : List Value) (h : HP) (Φ : Int32 → HP → Prop) : Prop := CanH y_La_part b_La_part 6 (some .int) [(0, 12, 15, 13)] 12 1 6 As h (fun r h2 => ∃ v, r = some (.int v) ∧ Φ v h2)
theorem M_La_part : MsH y_La_part b_La_part 6 (some .int) [(0, 12, 15, 13)] 5 := ⟨wx_in 517 (by decide +kernel) rfl, wx_in 516 (by decide +kernel) rfl, wx_in 64 (by decide +kernel) rfl, by decide +kernel, by decide⟩
theorem d_La_part_0 : decode b_La_part 0 = .ok (.aload 4, 2) := by decide +kernel
theorem d_La_part_2 : decode b_La_part 2 = .ok (.iconst 0, 1) := by decide +kernel
theorem d_La_part_3 : decode b_La_part 3 = .ok (.aload_n 0, 1) := by decide +kernel
theorem d_La_part_4 : decode b_La_part 4 = .ok (.iload_n 1, 1) := by decide +kernel
theorem d_La_part_5 : decode b_La_part 5 = .ok (.iload_n 2, 1) := by decide +kernel
theorem d_La_part_6 : decode b_La_part 6 = .ok (.iload_n 3, 1) := by decide +kernel
theorem d_La_part_7 : decode b_La_part 7 = .ok (.invokevirtual 27, 3) := by decide +kernel
theorem d_La_part_10 : decode b_La_part 10 = .ok (.i2l, 1) := by decide +kernel
theorem d_La_part_11 : decode b_La_part 11 = .ok (.lastore, 1) := by decide +kernel
theorem d_La_part_12 : decode b_La_part 12 = .ok (.goto 7, 3) := by decide +kernel
theorem d_La_part_15 : decode b_La_part 15 = .ok (.astore 5, 2) := by decide +kernel
theorem d_La_part_17 : decode b_La_part 17 = .ok (.iconst 1, 1) := by decide +kernel
theorem d_La_part_18 : decode b_La_part 18 = .ok (.ireturn, 1) := by decide +kernel
theorem d_La_part_19 : decode b_La_part 19 = .ok (.iconst 0, 1) := by decide +kernel
theorem d_La_part_20 : decode b_La_part 20 = .ok (.ireturn, 1) := by decide +kernel
/-! La_change -/
abbrev b_La_change : ByteArray := method_8_code
abbrev y_La_change : MethodName := ⟨R_Lw, "change", "(LCellHeap;IZI[J)I"⟩
abbrev H_La_change (As : List Value) (h : HP) (Φ : Int32 → HP → Prop) : Prop := CanH y_La_change b_La_change 6 (some .int) [(0, 12, 15, 13)] 12 1 6 As h (fun r h2 => ∃ v, r = some (.int v) ∧ Φ v h2)
theorem M_La_change : MsH y_La_change b_La_change 6 (some .int) [(0, 12, 15, 13)] 5 := ⟨wx_in 536 (by decide +kernel) rfl, wx_in 535 (by decide +kernel) rfl, wx_in 64 (by decide +kernel) rfl, by decide +kernel, by decide⟩
theorem d_La_change_0 : decode b_La_change 0 = .ok (.aload 4, 2) := by decide +kernel
theorem d_La_change_2 : decode b_La_change 2 = .ok (.iconst 0, 1) := by decide +kernel
theorem d_La_change_3 : decode b_La_change 3 = .ok (.aload_n 0, 1) := by decide +kernel
theorem d_La_change_4 : decode b_La_change 4 = .ok (.iload_n 1, 1) := by decide +kernel
theorem d_La_change_5 : decode b_La_change 5 = .ok (.iload_n 2, 1) := by decide +kernel
theorem d_La_change_6 : decode b_La_change 6 = .ok (.iload_n 3, 1) := by decide +kernel
theorem d_La_change_7 : decode b_La_change 7 = .ok (.invokevirtual 31, 3) := by decide +kernel
theorem d_La_change_10 : decode b_La_change 10 = .ok (.i2l, 1) := by decide +kernel
theorem d_La_change_11 : decode b_La_change 11 = .ok (.lastore, 1) := by decide +kernel
theorem d_La_change_12 : decode b_La_change 12 = .ok (.goto 7, 3) := by decide +kernel
theorem d_La_change_15 : decode b_La_change 15 = .ok (.astore 5, 2) := by decide +kernel
theorem d_La_change_17 : decode b_La_change 17 = .ok (.iconst 1, 1) := by decide +kernel
theorem d_La_change_18 : decode b_La_change 18 = .ok (.ireturn, 1) := by decide +kernel
theorem d_La_change_19 : decode b_La_change 19 = .ok (.iconst 0, 1) := by decide +kernel
theorem d_La_change_20 : decode b_La_change 20 = .ok (.ireturn, 1) := by decide +kernel
/-! La_work -/
abbrev b_La_work : ByteArray := method_9_code
abbrev y_La_work : MethodName := ⟨R_Lw, "work", "(LCellHeap;IIII[J)I"⟩
abbrev H_La_work (As : List Value) (h : HP) (Φ : Int32 → HP → Prop) : Prop := CanH y_La_work b_La_work 7 (some .int) [(0, 14, 17, 13)] 14 1 6 As h (fun r h2 => ∃ v, r = some (.int v) ∧ Φ v h2)
theorem M_La_work : MsH y_La_work b_La_work 7 (some .int) [(0, 14, 17, 13)] 6 := ⟨wx_in 543 (by decide +kernel) rfl, wx_in 542 (by decide +kernel) rfl, wx_in 64 (by decide +kernel) rfl, by decide +kernel, by decide⟩
theorem d_La_work_0 : decode b_La_work 0 = .ok (.aload 5, 2) := by decide +kernel
theorem d_La_work_2 : decode b_La_work 2 = .ok (.iconst 0, 1) := by decide +kernel
theorem d_La_work_3 : decode b_La_work 3 = .ok (.aload_n 0, 1) := by decide +kernel
theorem d_La_work_4 : decode b_La_work 4 = .ok (.iload_n 1, 1) := by decide +kernel
theorem d_La_work_5 : decode b_La_work 5 = .ok (.iload_n 2, 1) := by decide +kernel
theorem d_La_work_6 : decode b_La_work 6 = .ok (.iload_n 3, 1) := by decide +kernel
theorem d_La_work_7 : decode b_La_work 7 = .ok (.iload 4, 2) := by decide +kernel
theorem d_La_work_9 : decode b_La_work 9 = .ok (.invokevirtual 35, 3) := by decide +kernel
theorem d_La_work_12 : decode b_La_work 12 = .ok (.i2l, 1) := by decide +kernel
theorem d_La_work_13 : decode b_La_work 13 = .ok (.lastore, 1) := by decide +kernel
theorem d_La_work_14 : decode b_La_work 14 = .ok (.goto 7, 3) := by decide +kernel
theorem d_La_work_17 : decode b_La_work 17 = .ok (.astore 6, 2) := by decide +kernel
theorem d_La_work_19 : decode b_La_work 19 = .ok (.iconst 1, 1) := by decide +kernel
theorem d_La_work_20 : decode b_La_work 20 = .ok (.ireturn, 1) := by decide +kernel
theorem d_La_work_21 : decode b_La_work 21 = .ok (.iconst 0, 1) := by decide +kernel
theorem d_La_work_22 : decode b_La_work 22 = .ok (.ireturn, 1) := by decide +kernel
/-! La_compare -/
abbrev b_La_compare : ByteArray := method_10_code
abbrev y_La_compare : MethodName := ⟨R_Lw, "compare", "(LCellHeap;II[J)I"⟩
abbrev H_La_compare (As : List Value) (h : HP) (Φ : Int32 → HP → Prop) : Prop := CanH y_La_compare b_La_compare 5 (some .int) [(0, 10, 13, 13)] 14 1 6 As h (fun r h2 => ∃ v, r = some (.int v) ∧ Φ v h2)
theorem M_La_compare : MsH y_La_compare b_La_compare 5 (some .int) [(0, 10, 13, 13)] 4 := ⟨wx_in 934 (by decide +kernel) rfl, wx_in 933 (by decide +kernel) rfl, wx_in 64 (by decide +kernel) rfl, by decide +kernel, by decide⟩
theorem d_La_compare_0 : decode b_La_compare 0 = .ok (.aload_n 3, 1) := by decide +kernel
theorem d_La_compare_1 : decode b_La_compare 1 = .ok (.iconst 0, 1) := by decide +kernel
theorem d_La_compare_2 : decode b_La_compare 2 = .ok (.aload_n 0, 1) := by decide +kernel
theorem d_La_compare_3 : decode b_La_compare 3 = .ok (.iload_n 1, 1) := by decide +kernel
theorem d_La_compare_4 : decode b_La_compare 4 = .ok (.iload_n 2, 1) := by decide +kernel
theorem d_La_compare_5 : decode b_La_compare 5 = .ok (.invokevirtual 39, 3) := by decide +kernel
theorem d_La_compare_8 : decode b_La_compare 8 = .ok (.i2l, 1) := by decide +kernel
theorem d_La_compare_9 : decode b_La_compare 9 = .ok (.lastore, 1) := by decide +kernel
theorem d_La_compare_10 : decode b_La_compare 10 = .ok (.goto 7, 3) := by decide +kernel
theorem d_La_compare_13 : decode b_La_compare 13 = .ok (.astore 4, 2) := by decide +kernel
theorem d_La_compare_15 : decode b_La_compare 15 = .ok (.iconst 1, 1) := by decide +kernel
theorem d_La_compare_16 : decode b_La_compare 16 = .ok (.ireturn, 1) := by decide +kernel
theorem d_La_compare_17 : decode b_La_compare 17 = .ok (.iconst 0, 1) := by decide +kernel
theorem d_La_compare_18 : decode b_La_compare 18 = .ok (.ireturn, 1) := by decide +kernel
/-! La_same -/
abbrev b_La_same : ByteArray := method_11_code
abbrev y_La_same : MethodName := ⟨R_Lw, "same", "(LCellHeap;II[J)I"⟩
abbrev H_La_same (As : List Value) (h : HP) (Φ : Int32 → HP → Prop) : Prop := CanH y_La_same b_La_same 5 (some .int) [(0, 17, 20, 13)] 12 1 6 As h (fun r h2 => ∃ v, r = some (.int v) ∧ Φ v h2)
theorem M_La_same : MsH y_La_same b_La_same 5 (some .int) [(0, 17, 20, 13)] 4 := ⟨wx_in 949 (by decide +kernel) rfl, wx_in 948 (by decide +kernel) rfl, wx_in 64 (by decide +kernel) rfl, by decide +kernel, by decide⟩
theorem d_La_same_0 : decode b_La_same 0 = .ok (.aload_n 3, 1) := by decide +kernel
theorem d_La_same_1 : decode b_La_same 1 = .ok (.iconst 0, 1) := by decide +kernel
theorem d_La_same_2 : decode b_La_same 2 = .ok (.aload_n 0, 1) := by decide +kernel
theorem d_La_same_3 : decode b_La_same 3 = .ok (.iload_n 1, 1) := by decide +kernel
theorem d_La_same_4 : decode b_La_same 4 = .ok (.iload_n 2, 1) := by decide +kernel
theorem d_La_same_5 : decode b_La_same 5 = .ok (.invokevirtual 43, 3) := by decide +kernel
theorem d_La_same_8 : decode b_La_same 8 = .ok (.ifCond .eq 7, 3) := by decide +kernel
theorem d_La_same_11 : decode b_La_same 11 = .ok (.lconst 1, 1) := by decide +kernel
theorem d_La_same_12 : decode b_La_same 12 = .ok (.goto 4, 3) := by decide +kernel
theorem d_La_same_15 : decode b_La_same 15 = .ok (.lconst 0, 1) := by decide +kernel
theorem d_La_same_16 : decode b_La_same 16 = .ok (.lastore, 1) := by decide +kernel
theorem d_La_same_17 : decode b_La_same 17 = .ok (.goto 7, 3) := by decide +kernel
theorem d_La_same_20 : decode b_La_same 20 = .ok (.astore 4, 2) := by decide +kernel
theorem d_La_same_22 : decode b_La_same 22 = .ok (.iconst 1, 1) := by decide +kernel
theorem d_La_same_23 : decode b_La_same 23 = .ok (.ireturn, 1) := by decide +kernel
theorem d_La_same_24 : decode b_La_same 24 = .ok (.iconst 0, 1) := by decide +kernel
theorem d_La_same_25 : decode b_La_same 25 = .ok (.ireturn, 1) := by decide +kernel
/-! La_type -/
abbrev b_La_type : ByteArray := method_12_code
abbrev y_La_type : MethodName := ⟨R_Lw, "type", "(LCellHeap;IIIII[J)I"⟩
abbrev H_La_type (As : List Value) (h : HP) (Φ : Int32 → HP → Prop) : Prop := CanH y_La_type b_La_type 8 (some .int) [(0, 16, 19, 51)] 10 1 6 As h (fun r h2 => ∃ v, r = some (.int v) ∧ Φ v h2)
theorem M_La_type : MsH y_La_type b_La_type 8 (some .int) [(0, 16, 19, 51)] 7 := ⟨wx_in 956 (by decide +kernel) rfl, wx_in 955 (by decide +kernel) rfl, wx_in 64 (by decide +kernel) rfl, by decide +kernel, by decide⟩
theorem d_La_type_0 : decode b_La_type 0 = .ok (.aload 6, 2) := by decide +kernel
theorem d_La_type_2 : decode b_La_type 2 = .ok (.iconst 0, 1) := by decide +kernel
theorem d_La_type_3 : decode b_La_type 3 = .ok (.aload_n 0, 1) := by decide +kernel
theorem d_La_type_4 : decode b_La_type 4 = .ok (.iload_n 1, 1) := by decide +kernel
theorem d_La_type_5 : decode b_La_type 5 = .ok (.iload_n 2, 1) := by decide +kernel
theorem d_La_type_6 : decode b_La_type 6 = .ok (.iload_n 3, 1) := by decide +kernel
theorem d_La_type_7 : decode b_La_type 7 = .ok (.iload 4, 2) := by decide +kernel
theorem d_La_type_9 : decode b_La_type 9 = .ok (.iload 5, 2) := by decide +kernel
theorem d_La_type_11 : decode b_La_type 11 = .ok (.invokevirtual 47, 3) := by decide +kernel
theorem d_La_type_14 : decode b_La_type 14 = .ok (.i2l, 1) := by decide +kernel
theorem d_La_type_15 : decode b_La_type 15 = .ok (.lastore, 1) := by decide +kernel
theorem d_La_type_16 : decode b_La_type 16 = .ok (.goto 7, 3) := by decide +kernel
theorem d_La_type_19 : decode b_La_type 19 = .ok (.astore 7, 2) := by decide +kernel
theorem d_La_type_21 : decode b_La_type 21 = .ok (.iconst 1, 1) := by decide +kernel
theorem d_La_type_22 : decode b_La_type 22 = .ok (.ireturn, 1) := by decide +kernel
theorem d_La_type_23 : decode b_La_type 23 = .ok (.iconst 0, 1) := by decide +kernel
theorem d_La_type_24 : decode b_La_type 24 = .ok (.ireturn, 1) := by decide +kernel
/-! La_read -/
abbrev b_La_read : ByteArray := method_13_code
abbrev y_La_read : MethodName := ⟨R_Lw, "read", "(LCellHeap;I[J)I"⟩
abbrev H_La_read (As : List Value) (h : HP) (Φ : Int32 → HP → Prop) : Prop := CanH y_La_read b_La_read 4 (some .int) [(0, 9, 12, 13)] 12 1 6 As h (fun r h2 => ∃ v, r = some (.int v) ∧ Φ v h2)
theorem M_La_read : MsH y_La_read b_La_read 4 (some .int) [(0, 9, 12, 13)] 3 := ⟨wx_in 986 (by decide +kernel) rfl, wx_in 985 (by decide +kernel) rfl, wx_in 64 (by decide +kernel) rfl, by decide +kernel, by decide⟩
theorem d_La_read_0 : decode b_La_read 0 = .ok (.aload_n 2, 1) := by decide +kernel
theorem d_La_read_1 : decode b_La_read 1 = .ok (.iconst 0, 1) := by decide +kernel
theorem d_La_read_2 : decode b_La_read 2 = .ok (.aload_n 0, 1) := by decide +kernel
theorem d_La_read_3 : decode b_La_read 3 = .ok (.iload_n 1, 1) := by decide +kernel
theorem d_La_read_4 : decode b_La_read 4 = .ok (.invokevirtual 53, 3) := by decide +kernel
theorem d_La_read_7 : decode b_La_read 7 = .ok (.i2l, 1) := by decide +kernel
theorem d_La_read_8 : decode b_La_read 8 = .ok (.lastore, 1) := by decide +kernel
theorem d_La_read_9 : decode b_La_read 9 = .ok (.goto 6, 3) := by decide +kernel
theorem d_La_read_12 : decode b_La_read 12 = .ok (.astore_n 3, 1) := by decide +kernel
theorem d_La_read_13 : decode b_La_read 13 = .ok (.iconst 1, 1) := by decide +kernel
theorem d_La_read_14 : decode b_La_read 14 = .ok (.ireturn, 1) := by decide +kernel
theorem d_La_read_15 : decode b_La_read 15 = .ok (.iconst 0, 1) := by decide +kernel
theorem d_La_read_16 : decode b_La_read 16 = .ok (.ireturn, 1) := by decide +kernel
/-! La_write -/
abbrev b_La_write : ByteArray := method_14_code
abbrev y_La_write : MethodName := ⟨R_Lw, "write", "(LCellHeap;I[J)I"⟩
abbrev H_La_write (As : List Value) (h : HP) (Φ : Int32 → HP → Prop) : Prop := CanH y_La_write b_La_write 4 (some .int) [(0, 9, 12, 13)] 12 1 6 As h (fun r h2 => ∃ v, r = some (.int v) ∧ Φ v h2)
theorem M_La_write : MsH y_La_write b_La_write 4 (some .int) [(0, 9, 12, 13)] 3 := ⟨wx_in 1016 (by decide +kernel) rfl, wx_in 1015 (by decide +kernel) rfl, wx_in 64 (by decide +kernel) rfl, by decide +kernel, by decide⟩
theorem d_La_write_0 : decode b_La_write 0 = .ok (.aload_n 2, 1) := by decide +kernel
theorem d_La_write_1 : decode b_La_write 1 = .ok (.iconst 0, 1) := by decide +kernel
theorem d_La_write_2 : decode b_La_write 2 = .ok (.aload_n 0, 1) := by decide +kernel
theorem d_La_write_3 : decode b_La_write 3 = .ok (.iload_n 1, 1) := by decide +kernel
theorem d_La_write_4 : decode b_La_write 4 = .ok (.invokevirtual 57, 3) := by decide +kernel
theorem d_La_write_7 : decode b_La_write 7 = .ok (.i2l, 1) := by decide +kernel
theorem d_La_write_8 : decode b_La_write 8 = .ok (.lastore, 1) := by decide +kernel
theorem d_La_write_9 : decode b_La_write 9 = .ok (.goto 6, 3) := by decide +kernel
theorem d_La_write_12 : decode b_La_write 12 = .ok (.astore_n 3, 1) := by decide +kernel
theorem d_La_write_13 : decode b_La_write 13 = .ok (.iconst 1, 1) := by decide +kernel
theorem d_La_write_14 : decode b_La_write 14 = .ok (.ireturn, 1) := by decide +kernel
theorem d_La_write_15 : decode b_La_write 15 = .ok (.iconst 0, 1) := by decide +kernel
theorem d_La_write_16 : decode b_La_write 16 = .ok (.ireturn, 1) := by decide +kernel
/-! La_value -/
abbrev b_La_value : ByteArray := method_15_code
abbrev y_La_value : MethodName := ⟨R_Lw, "value", "(LCellHeap;II[J)I"⟩
abbrev H_La_value (As : List Value) (h : HP) (Φ : Int32 → HP → Prop) : Prop := CanH y_La_value b_La_value 5 (some .int) [(0, 10, 13, 13)] 12 1 6 As h (fun r h2 => ∃ v, r = some (.int v) ∧ Φ v h2)
theorem M_La_value : MsH y_La_value b_La_value 5 (some .int) [(0, 10, 13, 13)] 4 := ⟨wx_in 1058 (by decide +kernel) rfl, wx_in 1057 (by decide +kernel) rfl, wx_in 64 (by decide +kernel) rfl, by decide +kernel, by decide⟩
theorem d_La_value_0 : decode b_La_value 0 = .ok (.aload_n 3, 1) := by decide +kernel
theorem d_La_value_1 : decode b_La_value 1 = .ok (.iconst 0, 1) := by decide +kernel
theorem d_La_value_2 : decode b_La_value 2 = .ok (.aload_n 0, 1) := by decide +kernel
theorem d_La_value_3 : decode b_La_value 3 = .ok (.iload_n 1, 1) := by decide +kernel
theorem d_La_value_4 : decode b_La_value 4 = .ok (.iload_n 2, 1) := by decide +kernel
theorem d_La_value_5 : decode b_La_value 5 = .ok (.invokevirtual 60, 3) := by decide +kernel
theorem d_La_value_8 : decode b_La_value 8 = .ok (.i2l, 1) := by decide +kernel
theorem d_La_value_9 : decode b_La_value 9 = .ok (.lastore, 1) := by decide +kernel
theorem d_La_value_10 : decode b_La_value 10 = .ok (.goto 7, 3) := by decide +kernel
theorem d_La_value_13 : decode b_La_value 13 = .ok (.astore 4, 2) := by decide +kernel
theorem d_La_value_15 : decode b_La_value 15 = .ok (.iconst 1, 1) := by decide +kernel
theorem d_La_value_16 : decode b_La_value 16 = .ok (.ireturn, 1) := by decide +kernel
theorem d_La_value_17 : decode b_La_value 17 = .ok (.iconst 0, 1) := by decide +kernel
theorem d_La_value_18 : decode b_La_value 18 = .ok (.ireturn, 1) := by decide +kernel
/-! La_count -/
abbrev b_La_count : ByteArray := method_16_code
abbrev y_La_count : MethodName := ⟨R_Lw, "count", "(LCellHeap;I[J)I"⟩
abbrev H_La_count (As : List Value) (h : HP) (Φ : Int32 → HP → Prop) : Prop := CanH y_La_count b_La_count 4 (some .int) [(0, 9, 12, 13)] 11 1 6 As h (fun r h2 => ∃ v, r = some (.int v) ∧ Φ v h2)
theorem M_La_count : MsH y_La_count b_La_count 4 (some .int) [(0, 9, 12, 13)] 3 := ⟨wx_in 1067 (by decide +kernel) rfl, wx_in 1066 (by decide +kernel) rfl, wx_in 64 (by decide +kernel) rfl, by decide +kernel, by decide⟩
theorem d_La_count_0 : decode b_La_count 0 = .ok (.aload_n 2, 1) := by decide +kernel
theorem d_La_count_1 : decode b_La_count 1 = .ok (.iconst 0, 1) := by decide +kernel
theorem d_La_count_2 : decode b_La_count 2 = .ok (.aload_n 0, 1) := by decide +kernel
theorem d_La_count_3 : decode b_La_count 3 = .ok (.iload_n 1, 1) := by decide +kernel
theorem d_La_count_4 : decode b_La_count 4 = .ok (.invokevirtual 63, 3) := by decide +kernel
theorem d_La_count_7 : decode b_La_count 7 = .ok (.i2l, 1) := by decide +kernel
theorem d_La_count_8 : decode b_La_count 8 = .ok (.lastore, 1) := by decide +kernel
theorem d_La_count_9 : decode b_La_count 9 = .ok (.goto 6, 3) := by decide +kernel
theorem d_La_count_12 : decode b_La_count 12 = .ok (.astore_n 3, 1) := by decide +kernel
theorem d_La_count_13 : decode b_La_count 13 = .ok (.iconst 1, 1) := by decide +kernel
theorem d_La_count_14 : decode b_La_count 14 = .ok (.ireturn, 1) := by decide +kernel
theorem d_La_count_15 : decode b_La_count 15 = .ok (.iconst 0, 1) := by decide +kernel
theorem d_La_count_16 : decode b_La_count 16 = .ok (.ireturn, 1) := by decide +kernel
set_option maxRecDepth 20000 in
theorem g_La_nil {X : CX} {h : HP} {v1 : Int32} {Φ : Int32 → HP → Prop} (C : Cok X b_La_nil 3 R_Lw (some .int)) (Rm : xR X = rml 12 1 6) (Q : Qok X 1 6 (fun r h2 => ∃ v, r = some (.int v) ∧ Φ v h2)) 
    (K : K_Ce_nil [.ref 14, .int v1] h (fun h1 => Φ 0 h1)) :
    Wg X 0 0 h [(0, .ref 14), (1, .int v1)] [] 0 := by
  refine Wg.widen (ce2 := 1) (sl2 := 6) (Nat.zero_le _) (Nat.zero_le _) (by rw [Rm]; exact Nat.le_refl _) (by rw [Rm]; exact Nat.le_refl _) ?_
  refine r_aload_n C 0 rfl d_La_nil_0 ?_
  refine r_iload_n C 1 rfl d_La_nil_1 ?_
  refine r_callV (As := [.int v1]) (st := []) (lvc := 11) (mcc := 0) (msc := 0) C Rm M_Ce_nil rfl k_294 rfl (by decide) (Nat.le_of_ble_eq_true rfl) ⟨by decide, by decide⟩ d_La_nil_2 ?_
  refine Can.mono K (fun _ h1 z => ?_)
  obtain ⟨rfl, K⟩ := z
  show Wg X 1 6 h1 [(0, .ref 14), (1, .int v1)] [] 5
  refine r_goto C 11 d_La_nil_5 (by decide) ?_
  refine r_iconst (v := 0) C (by decide) d_La_nil_11 ?_
  exact q_iret C Q d_La_nil_12 ⟨_, rfl, K⟩
theorem HV_La_nil {h : HP} {v1 : Int32} {Φ : Int32 → HP → Prop} 
    (K : K_Ce_nil [.ref 14, .int v1] h (fun h1 => Φ 0 h1)) : H_La_nil [.ref 14, .int v1] h Φ := CanH.intro (by decide) (fun _ => Nat.le_of_ble_eq_true rfl) (fun X C N ht Rm Q => g_La_nil C Rm Q  K)
set_option maxRecDepth 20000 in
theorem HX_La_nil {h : HP} {v1 : Int32} {Φ : Int32 → HP → Prop} 
    (K : X_Ce_nil E_arg [.ref 14, .int v1] h) (K2 : Φ 1 h) : H_La_nil [.ref 14, .int v1] h Φ := CanH.intro (by decide) (fun _ => Nat.le_of_ble_eq_true rfl) (fun X C N ht Rm Q => by
    refine r_aload_n C 0 rfl d_La_nil_0 ?_
    refine r_iload_n C 1 rfl d_La_nil_1 ?_
    exact r_callVC (Q' := fun _ _ => True) (As := [.int v1]) (st := []) (lvc := 11) (ls2 := []) C N Rm ht ⟨by decide, by decide⟩ (by decide) k_293 List.mem_cons_self M_Ce_nil rfl k_294 rfl (by decide) (Nat.le_of_ble_eq_true rfl) d_La_nil_2 K (Or.inl ⟨2, rfl, d_La_nil_8, rfl⟩) (by decide) (fun q hq => nomatch hq) (r_iconst (v := 1) C (by decide) d_La_nil_9 (q_iret C Q d_La_nil_10 ⟨_, rfl, K2⟩)))
set_option maxRecDepth 20000 in
theorem g_La_load {X : CX} {h : HP} {v1 : Int32} {v2 : Int64} {p4 : Nat} {n4 : Nat} {Φ : Int32 → HP → Prop} (C : Cok X b_La_load 6 R_Lw (some .int)) (Rm : xR X = rml 12 1 6) (Q : Qok X 1 6 (fun r h2 => ∃ v, r = some (.int v) ∧ Φ v h2)) (hp4 : kd p4 = (13, n4))
    (K : K_Ce_load [.ref 14, .int v1, .long v2] h (fun r1 h1 => vp_in 0 n4 ∧ (Φ 0 (up h1 p4 (0 : Int32).toNatClampNeg r1)))) :
    Wg X 0 0 h [(0, .ref 14), (1, .int v1), (2, .long v2), (4, .ref p4)] [] 0 := by
  refine Wg.widen (ce2 := 1) (sl2 := 6) (Nat.zero_le _) (Nat.zero_le _) (by rw [Rm]; exact Nat.le_refl _) (by rw [Rm]; exact Nat.le_refl _) ?_
  refine r_aload C 3 rfl d_La_load_0 ?_
  refine r_iconst (v := 0) C (by decide) d_La_load_2 ?_
  refine r_aload_n C 0 rfl d_La_load_3 ?_
  refine r_iload_n C 1 rfl d_La_load_4 ?_
  refine r_lload_n C 2 rfl d_La_load_5 ?_
  refine r_callV (As := [.int v1, .long v2]) (st := [.int 0, .ref p4]) (lvc := 11) (mcc := 0) (msc := 0) C Rm M_Ce_load rfl k_370 rfl (by decide) (Nat.le_of_ble_eq_true rfl) ⟨by decide, by decide⟩ d_La_load_6 ?_
  refine Can.mono K (fun _ h1 z => ?_)
  obtain ⟨r1, rfl, K⟩ := z
  show Wg X 1 6 h1 [(0, .ref 14), (1, .int v1), (2, .long v2), (4, .ref p4)] [.int r1, .int 0, .ref p4] 9
  refine r_i2l C d_La_load_9 ?_
  obtain ⟨s0, K⟩ := K
  refine r_last C hp4 s0 d_La_load_10 ?_
  refine r_goto C 18 d_La_load_11 (by decide) ?_
  refine r_iconst (v := 0) C (by decide) d_La_load_18 ?_
  exact q_iret C Q d_La_load_19 ⟨_, rfl, K⟩
theorem HV_La_load {h : HP} {v1 : Int32} {v2 : Int64} {p4 : Nat} {n4 : Nat} {Φ : Int32 → HP → Prop} (hp4 : kd p4 = (13, n4))
    (K : K_Ce_load [.ref 14, .int v1, .long v2] h (fun r1 h1 => vp_in 0 n4 ∧ (Φ 0 (up h1 p4 (0 : Int32).toNatClampNeg r1)))) : H_La_load [.ref 14, .int v1, .long v2, .ref p4] h Φ := CanH.intro (by decide) (fun _ => Nat.le_of_ble_eq_true rfl) (fun X C N ht Rm Q => g_La_load C Rm Q hp4 K)
set_option maxRecDepth 20000 in
theorem HX_La_load {h : HP} {v1 : Int32} {v2 : Int64} {p4 : Nat} {n4 : Nat} {Φ : Int32 → HP → Prop} (hp4 : kd p4 = (13, n4))
    (K : X_Ce_load E_arg [.ref 14, .int v1, .long v2] h) (K2 : Φ 1 h) : H_La_load [.ref 14, .int v1, .long v2, .ref p4] h Φ := CanH.intro (by decide) (fun _ => Nat.le_of_ble_eq_true rfl) (fun X C N ht Rm Q => by
    refine r_aload C 3 rfl d_La_load_0 ?_
    refine r_iconst (v := 0) C (by decide) d_La_load_2 ?_
    refine r_aload_n C 0 rfl d_La_load_3 ?_
    refine r_iload_n C 1 rfl d_La_load_4 ?_
    refine r_lload_n C 2 rfl d_La_load_5 ?_
    exact r_callVC (Q' := fun _ _ => True) (As := [.int v1, .long v2]) (st := [.int 0, .ref p4]) (lvc := 11) (ls2 := []) C N Rm ht ⟨by decide, by decide⟩ (by decide) k_293 List.mem_cons_self M_Ce_load rfl k_370 rfl (by decide) (Nat.le_of_ble_eq_true rfl) d_La_load_6 K (Or.inr ⟨d_La_load_14, rfl⟩) (by decide) (fun q hq => nomatch hq) (r_iconst (v := 1) C (by decide) d_La_load_16 (q_iret C Q d_La_load_17 ⟨_, rfl, K2⟩)))
set_option maxRecDepth 20000 in
theorem g_La_copy {X : CX} {h : HP} {v1 : Int32} {v2 : Int32} {Φ : Int32 → HP → Prop} (C : Cok X b_La_copy 4 R_Lw (some .int)) (Rm : xR X = rml 12 1 6) (Q : Qok X 1 6 (fun r h2 => ∃ v, r = some (.int v) ∧ Φ v h2)) 
    (K : K_Ce_copy [.ref 14, .int v1, .int v2] h (fun h1 => Φ 0 h1)) :
    Wg X 0 0 h [(0, .ref 14), (1, .int v1), (2, .int v2)] [] 0 := by
  refine Wg.widen (ce2 := 1) (sl2 := 6) (Nat.zero_le _) (Nat.zero_le _) (by rw [Rm]; exact Nat.le_refl _) (by rw [Rm]; exact Nat.le_refl _) ?_
  refine r_aload_n C 0 rfl d_La_copy_0 ?_
  refine r_iload_n C 1 rfl d_La_copy_1 ?_
  refine r_iload_n C 2 rfl d_La_copy_2 ?_
  refine r_callV (As := [.int v1, .int v2]) (st := []) (lvc := 11) (mcc := 0) (msc := 0) C Rm M_Ce_copy rfl k_438 rfl (by decide) (Nat.le_of_ble_eq_true rfl) ⟨by decide, by decide⟩ d_La_copy_3 ?_
  refine Can.mono K (fun _ h1 z => ?_)
  obtain ⟨rfl, K⟩ := z
  show Wg X 1 6 h1 [(0, .ref 14), (1, .int v1), (2, .int v2)] [] 6
  refine r_goto C 12 d_La_copy_6 (by decide) ?_
  refine r_iconst (v := 0) C (by decide) d_La_copy_12 ?_
  exact q_iret C Q d_La_copy_13 ⟨_, rfl, K⟩
theorem HV_La_copy {h : HP} {v1 : Int32} {v2 : Int32} {Φ : Int32 → HP → Prop} 
    (K : K_Ce_copy [.ref 14, .int v1, .int v2] h (fun h1 => Φ 0 h1)) : H_La_copy [.ref 14, .int v1, .int v2] h Φ := CanH.intro (by decide) (fun _ => Nat.le_of_ble_eq_true rfl) (fun X C N ht Rm Q => g_La_copy C Rm Q  K)
set_option maxRecDepth 20000 in
theorem HX_La_copy {h : HP} {v1 : Int32} {v2 : Int32} {Φ : Int32 → HP → Prop} 
    (K : X_Ce_copy E_arg [.ref 14, .int v1, .int v2] h) (K2 : Φ 1 h) : H_La_copy [.ref 14, .int v1, .int v2] h Φ := CanH.intro (by decide) (fun _ => Nat.le_of_ble_eq_true rfl) (fun X C N ht Rm Q => by
    refine r_aload_n C 0 rfl d_La_copy_0 ?_
    refine r_iload_n C 1 rfl d_La_copy_1 ?_
    refine r_iload_n C 2 rfl d_La_copy_2 ?_
    exact r_callVC (Q' := fun _ _ => True) (As := [.int v1, .int v2]) (st := []) (lvc := 11) (ls2 := []) C N Rm ht ⟨by decide, by decide⟩ (by decide) k_293 List.mem_cons_self M_Ce_copy rfl k_438 rfl (by decide) (Nat.le_of_ble_eq_true rfl) d_La_copy_3 K (Or.inl ⟨3, rfl, d_La_copy_9, rfl⟩) (by decide) (fun q hq => nomatch hq) (r_iconst (v := 1) C (by decide) d_La_copy_10 (q_iret C Q d_La_copy_11 ⟨_, rfl, K2⟩)))
set_option maxRecDepth 20000 in
theorem g_La_cons {X : CX} {h : HP} {v1 : Int32} {v2 : Int32} {v3 : Int32} {p4 : Nat} {n4 : Nat} {Φ : Int32 → HP → Prop} (C : Cok X b_La_cons 6 R_Lw (some .int)) (Rm : xR X = rml 12 1 6) (Q : Qok X 1 6 (fun r h2 => ∃ v, r = some (.int v) ∧ Φ v h2)) (hp4 : kd p4 = (13, n4))
    (K : K_Ce_cons [.ref 14, .int v1, .int v2, .int v3] h (fun r1 h1 => vp_in 0 n4 ∧ (Φ 0 (up h1 p4 (0 : Int32).toNatClampNeg r1)))) :
    Wg X 0 0 h [(0, .ref 14), (1, .int v1), (2, .int v2), (3, .int v3), (4, .ref p4)] [] 0 := by
  refine Wg.widen (ce2 := 1) (sl2 := 6) (Nat.zero_le _) (Nat.zero_le _) (by rw [Rm]; exact Nat.le_refl _) (by rw [Rm]; exact Nat.le_refl _) ?_
  refine r_aload C 4 rfl d_La_cons_0 ?_
  refine r_iconst (v := 0) C (by decide) d_La_cons_2 ?_
  refine r_aload_n C 0 rfl d_La_cons_3 ?_
  refine r_iload_n C 1 rfl d_La_cons_4 ?_
  refine r_iload_n C 2 rfl d_La_cons_5 ?_
  refine r_iload_n C 3 rfl d_La_cons_6 ?_
  refine r_callV (As := [.int v1, .int v2, .int v3]) (st := [.int 0, .ref p4]) (lvc := 11) (mcc := 0) (msc := 0) C Rm M_Ce_cons rfl k_445 rfl (by decide) (Nat.le_of_ble_eq_true rfl) ⟨by decide, by decide⟩ d_La_cons_7 ?_
  refine Can.mono K (fun _ h1 z => ?_)
  obtain ⟨r1, rfl, K⟩ := z
  show Wg X 1 6 h1 [(0, .ref 14), (1, .int v1), (2, .int v2), (3, .int v3), (4, .ref p4)] [.int r1, .int 0, .ref p4] 10
  refine r_i2l C d_La_cons_10 ?_
  obtain ⟨s0, K⟩ := K
  refine r_last C hp4 s0 d_La_cons_11 ?_
  refine r_goto C 19 d_La_cons_12 (by decide) ?_
  refine r_iconst (v := 0) C (by decide) d_La_cons_19 ?_
  exact q_iret C Q d_La_cons_20 ⟨_, rfl, K⟩
theorem HV_La_cons {h : HP} {v1 : Int32} {v2 : Int32} {v3 : Int32} {p4 : Nat} {n4 : Nat} {Φ : Int32 → HP → Prop} (hp4 : kd p4 = (13, n4))
    (K : K_Ce_cons [.ref 14, .int v1, .int v2, .int v3] h (fun r1 h1 => vp_in 0 n4 ∧ (Φ 0 (up h1 p4 (0 : Int32).toNatClampNeg r1)))) : H_La_cons [.ref 14, .int v1, .int v2, .int v3, .ref p4] h Φ := CanH.intro (by decide) (fun _ => Nat.le_of_ble_eq_true rfl) (fun X C N ht Rm Q => g_La_cons C Rm Q hp4 K)
set_option maxRecDepth 20000 in
theorem HX_La_cons {h : HP} {v1 : Int32} {v2 : Int32} {v3 : Int32} {p4 : Nat} {n4 : Nat} {Φ : Int32 → HP → Prop} (hp4 : kd p4 = (13, n4))
    (K : X_Ce_cons E_arg [.ref 14, .int v1, .int v2, .int v3] h) (K2 : Φ 1 h) : H_La_cons [.ref 14, .int v1, .int v2, .int v3, .ref p4] h Φ := CanH.intro (by decide) (fun _ => Nat.le_of_ble_eq_true rfl) (fun X C N ht Rm Q => by
    refine r_aload C 4 rfl d_La_cons_0 ?_
    refine r_iconst (v := 0) C (by decide) d_La_cons_2 ?_
    refine r_aload_n C 0 rfl d_La_cons_3 ?_
    refine r_iload_n C 1 rfl d_La_cons_4 ?_
    refine r_iload_n C 2 rfl d_La_cons_5 ?_
    refine r_iload_n C 3 rfl d_La_cons_6 ?_
    exact r_callVC (Q' := fun _ _ => True) (As := [.int v1, .int v2, .int v3]) (st := [.int 0, .ref p4]) (lvc := 11) (ls2 := []) C N Rm ht ⟨by decide, by decide⟩ (by decide) k_293 List.mem_cons_self M_Ce_cons rfl k_445 rfl (by decide) (Nat.le_of_ble_eq_true rfl) d_La_cons_7 K (Or.inr ⟨d_La_cons_15, rfl⟩) (by decide) (fun q hq => nomatch hq) (r_iconst (v := 1) C (by decide) d_La_cons_17 (q_iret C Q d_La_cons_18 ⟨_, rfl, K2⟩)))
set_option maxRecDepth 20000 in
theorem g_La_part {X : CX} {h : HP} {v1 : Int32} {v2 : Int32} {v3 : Int32} {p4 : Nat} {n4 : Nat} {Φ : Int32 → HP → Prop} (C : Cok X b_La_part 6 R_Lw (some .int)) (Rm : xR X = rml 12 1 6) (Q : Qok X 1 6 (fun r h2 => ∃ v, r = some (.int v) ∧ Φ v h2)) (hp4 : kd p4 = (13, n4))
    (K : K_Ce_part [.ref 14, .int v1, .int v2, .int v3] h (fun r1 h1 => vp_in 0 n4 ∧ (Φ 0 (up h1 p4 (0 : Int32).toNatClampNeg r1)))) :
    Wg X 0 0 h [(0, .ref 14), (1, .int v1), (2, .int v2), (3, .int v3), (4, .ref p4)] [] 0 := by
  refine Wg.widen (ce2 := 1) (sl2 := 6) (Nat.zero_le _) (Nat.zero_le _) (by rw [Rm]; exact Nat.le_refl _) (by rw [Rm]; exact Nat.le_refl _) ?_
  refine r_aload C 4 rfl d_La_part_0 ?_
  refine r_iconst (v := 0) C (by decide) d_La_part_2 ?_
  refine r_aload_n C 0 rfl d_La_part_3 ?_
  refine r_iload_n C 1 rfl d_La_part_4 ?_
  refine r_iload_n C 2 rfl d_La_part_5 ?_
  refine r_iload_n C 3 rfl d_La_part_6 ?_
  refine r_callV (As := [.int v1, .int v2, .int v3]) (st := [.int 0, .ref p4]) (lvc := 11) (mcc := 0) (msc := 0) C Rm M_Ce_part rfl k_454 rfl (by decide) (Nat.le_of_ble_eq_true rfl) ⟨by decide, by decide⟩ d_La_part_7 ?_
  refine Can.mono K (fun _ h1 z => ?_)
  obtain ⟨r1, rfl, K⟩ := z
  show Wg X 1 6 h1 [(0, .ref 14), (1, .int v1), (2, .int v2), (3, .int v3), (4, .ref p4)] [.int r1, .int 0, .ref p4] 10
  refine r_i2l C d_La_part_10 ?_
  obtain ⟨s0, K⟩ := K
  refine r_last C hp4 s0 d_La_part_11 ?_
  refine r_goto C 19 d_La_part_12 (by decide) ?_
  refine r_iconst (v := 0) C (by decide) d_La_part_19 ?_
  exact q_iret C Q d_La_part_20 ⟨_, rfl, K⟩
theorem HV_La_part {h : HP} {v1 : Int32} {v2 : Int32} {v3 : Int32} {p4 : Nat} {n4 : Nat} {Φ : Int32 → HP → Prop} (hp4 : kd p4 = (13, n4))
    (K : K_Ce_part [.ref 14, .int v1, .int v2, .int v3] h (fun r1 h1 => vp_in 0 n4 ∧ (Φ 0 (up h1 p4 (0 : Int32).toNatClampNeg r1)))) : H_La_part [.ref 14, .int v1, .int v2, .int v3, .ref p4] h Φ := CanH.intro (by decide) (fun _ => Nat.le_of_ble_eq_true rfl) (fun X C N ht Rm Q => g_La_part C Rm Q hp4 K)
set_option maxRecDepth 20000 in
theorem HX_La_part {h : HP} {v1 : Int32} {v2 : Int32} {v3 : Int32} {p4 : Nat} {n4 : Nat} {Φ : Int32 → HP → Prop} (hp4 : kd p4 = (13, n4))
    (K : X_Ce_part E_arg [.ref 14, .int v1, .int v2, .int v3] h) (K2 : Φ 1 h) : H_La_part [.ref 14, .int v1, .int v2, .int v3, .ref p4] h Φ := CanH.intro (by decide) (fun _ => Nat.le_of_ble_eq_true rfl) (fun X C N ht Rm Q => by
    refine r_aload C 4 rfl d_La_part_0 ?_
    refine r_iconst (v := 0) C (by decide) d_La_part_2 ?_
    refine r_aload_n C 0 rfl d_La_part_3 ?_
    refine r_iload_n C 1 rfl d_La_part_4 ?_
    refine r_iload_n C 2 rfl d_La_part_5 ?_
    refine r_iload_n C 3 rfl d_La_part_6 ?_
    exact r_callVC (Q' := fun _ _ => True) (As := [.int v1, .int v2, .int v3]) (st := [.int 0, .ref p4]) (lvc := 11) (ls2 := []) C N Rm ht ⟨by decide, by decide⟩ (by decide) k_293 List.mem_cons_self M_Ce_part rfl k_454 rfl (by decide) (Nat.le_of_ble_eq_true rfl) d_La_part_7 K (Or.inr ⟨d_La_part_15, rfl⟩) (by decide) (fun q hq => nomatch hq) (r_iconst (v := 1) C (by decide) d_La_part_17 (q_iret C Q d_La_part_18 ⟨_, rfl, K2⟩)))
set_option maxRecDepth 20000 in
theorem g_La_change {X : CX} {h : HP} {v1 : Int32} {v2 : Int32} {v3 : Int32} {p4 : Nat} {n4 : Nat} {Φ : Int32 → HP → Prop} (C : Cok X b_La_change 6 R_Lw (some .int)) (Rm : xR X = rml 12 1 6) (Q : Qok X 1 6 (fun r h2 => ∃ v, r = some (.int v) ∧ Φ v h2)) (hp4 : kd p4 = (13, n4))
    (K : K_Ce_change [.ref 14, .int v1, .int v2, .int v3] h (fun r1 h1 => vp_in 0 n4 ∧ (Φ 0 (up h1 p4 (0 : Int32).toNatClampNeg r1)))) :
    Wg X 0 0 h [(0, .ref 14), (1, .int v1), (2, .int v2), (3, .int v3), (4, .ref p4)] [] 0 := by
  refine Wg.widen (ce2 := 1) (sl2 := 6) (Nat.zero_le _) (Nat.zero_le _) (by rw [Rm]; exact Nat.le_refl _) (by rw [Rm]; exact Nat.le_refl _) ?_
  refine r_aload C 4 rfl d_La_change_0 ?_
  refine r_iconst (v := 0) C (by decide) d_La_change_2 ?_
  refine r_aload_n C 0 rfl d_La_change_3 ?_
  refine r_iload_n C 1 rfl d_La_change_4 ?_
  refine r_iload_n C 2 rfl d_La_change_5 ?_
  refine r_iload_n C 3 rfl d_La_change_6 ?_
  refine r_callV (As := [.int v1, .int v2, .int v3]) (st := [.int 0, .ref p4]) (lvc := 11) (mcc := 0) (msc := 0) C Rm M_Ce_change rfl k_473 rfl (by decide) (Nat.le_of_ble_eq_true rfl) ⟨by decide, by decide⟩ d_La_change_7 ?_
  refine Can.mono K (fun _ h1 z => ?_)
  obtain ⟨r1, rfl, K⟩ := z
  show Wg X 1 6 h1 [(0, .ref 14), (1, .int v1), (2, .int v2), (3, .int v3), (4, .ref p4)] [.int r1, .int 0, .ref p4] 10
  refine r_i2l C d_La_change_10 ?_
  obtain ⟨s0, K⟩ := K
  refine r_last C hp4 s0 d_La_change_11 ?_
  refine r_goto C 19 d_La_change_12 (by decide) ?_
  refine r_iconst (v := 0) C (by decide) d_La_change_19 ?_
  exact q_iret C Q d_La_change_20 ⟨_, rfl, K⟩
theorem HV_La_change {h : HP} {v1 : Int32} {v2 : Int32} {v3 : Int32} {p4 : Nat} {n4 : Nat} {Φ : Int32 → HP → Prop} (hp4 : kd p4 = (13, n4))
    (K : K_Ce_change [.ref 14, .int v1, .int v2, .int v3] h (fun r1 h1 => vp_in 0 n4 ∧ (Φ 0 (up h1 p4 (0 : Int32).toNatClampNeg r1)))) : H_La_change [.ref 14, .int v1, .int v2, .int v3, .ref p4] h Φ := CanH.intro (by decide) (fun _ => Nat.le_of_ble_eq_true rfl) (fun X C N ht Rm Q => g_La_change C Rm Q hp4 K)
set_option maxRecDepth 20000 in
theorem HX_La_change {h : HP} {v1 : Int32} {v2 : Int32} {v3 : Int32} {p4 : Nat} {n4 : Nat} {Φ : Int32 → HP → Prop} (hp4 : kd p4 = (13, n4))
    (K : X_Ce_change E_arg [.ref 14, .int v1, .int v2, .int v3] h) (K2 : Φ 1 h) : H_La_change [.ref 14, .int v1, .int v2, .int v3, .ref p4] h Φ := CanH.intro (by decide) (fun _ => Nat.le_of_ble_eq_true rfl) (fun X C N ht Rm Q => by
    refine r_aload C 4 rfl d_La_change_0 ?_
    refine r_iconst (v := 0) C (by decide) d_La_change_2 ?_
    refine r_aload_n C 0 rfl d_La_change_3 ?_
    refine r_iload_n C 1 rfl d_La_change_4 ?_
    refine r_iload_n C 2 rfl d_La_change_5 ?_
    refine r_iload_n C 3 rfl d_La_change_6 ?_
    exact r_callVC (Q' := fun _ _ => True) (As := [.int v1, .int v2, .int v3]) (st := [.int 0, .ref p4]) (lvc := 11) (ls2 := []) C N Rm ht ⟨by decide, by decide⟩ (by decide) k_293 List.mem_cons_self M_Ce_change rfl k_473 rfl (by decide) (Nat.le_of_ble_eq_true rfl) d_La_change_7 K (Or.inr ⟨d_La_change_15, rfl⟩) (by decide) (fun q hq => nomatch hq) (r_iconst (v := 1) C (by decide) d_La_change_17 (q_iret C Q d_La_change_18 ⟨_, rfl, K2⟩)))
set_option maxRecDepth 20000 in
theorem g_La_work {X : CX} {h : HP} {v1 : Int32} {v2 : Int32} {v3 : Int32} {v4 : Int32} {p5 : Nat} {n5 : Nat} {Φ : Int32 → HP → Prop} (C : Cok X b_La_work 7 R_Lw (some .int)) (Rm : xR X = rml 14 1 6) (Q : Qok X 1 6 (fun r h2 => ∃ v, r = some (.int v) ∧ Φ v h2)) (hp5 : kd p5 = (13, n5))
    (K : K_Ce_work [.ref 14, .int v1, .int v2, .int v3, .int v4] h (fun r1 h1 => vp_in 0 n5 ∧ (Φ 0 (up h1 p5 (0 : Int32).toNatClampNeg r1)))) :
    Wg X 0 0 h [(0, .ref 14), (1, .int v1), (2, .int v2), (3, .int v3), (4, .int v4), (5, .ref p5)] [] 0 := by
  refine Wg.widen (ce2 := 1) (sl2 := 6) (Nat.zero_le _) (Nat.zero_le _) (by rw [Rm]; exact Nat.le_refl _) (by rw [Rm]; exact Nat.le_refl _) ?_
  refine r_aload C 5 rfl d_La_work_0 ?_
  refine r_iconst (v := 0) C (by decide) d_La_work_2 ?_
  refine r_aload_n C 0 rfl d_La_work_3 ?_
  refine r_iload_n C 1 rfl d_La_work_4 ?_
  refine r_iload_n C 2 rfl d_La_work_5 ?_
  refine r_iload_n C 3 rfl d_La_work_6 ?_
  refine r_iload C 4 rfl d_La_work_7 ?_
  refine r_callV (As := [.int v1, .int v2, .int v3, .int v4]) (st := [.int 0, .ref p5]) (lvc := 13) (mcc := 0) (msc := 0) C Rm M_Ce_work rfl k_480 rfl (by decide) (Nat.le_of_ble_eq_true rfl) ⟨by decide, by decide⟩ d_La_work_9 ?_
  refine Can.mono K (fun _ h1 z => ?_)
  obtain ⟨r1, rfl, K⟩ := z
  show Wg X 1 6 h1 [(0, .ref 14), (1, .int v1), (2, .int v2), (3, .int v3), (4, .int v4), (5, .ref p5)] [.int r1, .int 0, .ref p5] 12
  refine r_i2l C d_La_work_12 ?_
  obtain ⟨s0, K⟩ := K
  refine r_last C hp5 s0 d_La_work_13 ?_
  refine r_goto C 21 d_La_work_14 (by decide) ?_
  refine r_iconst (v := 0) C (by decide) d_La_work_21 ?_
  exact q_iret C Q d_La_work_22 ⟨_, rfl, K⟩
theorem HV_La_work {h : HP} {v1 : Int32} {v2 : Int32} {v3 : Int32} {v4 : Int32} {p5 : Nat} {n5 : Nat} {Φ : Int32 → HP → Prop} (hp5 : kd p5 = (13, n5))
    (K : K_Ce_work [.ref 14, .int v1, .int v2, .int v3, .int v4] h (fun r1 h1 => vp_in 0 n5 ∧ (Φ 0 (up h1 p5 (0 : Int32).toNatClampNeg r1)))) : H_La_work [.ref 14, .int v1, .int v2, .int v3, .int v4, .ref p5] h Φ := CanH.intro (by decide) (fun _ => Nat.le_of_ble_eq_true rfl) (fun X C N ht Rm Q => g_La_work C Rm Q hp5 K)
set_option maxRecDepth 20000 in
theorem HX_La_work {h : HP} {v1 : Int32} {v2 : Int32} {v3 : Int32} {v4 : Int32} {p5 : Nat} {n5 : Nat} {Φ : Int32 → HP → Prop} (hp5 : kd p5 = (13, n5))
    (K : X_Ce_work E_arg [.ref 14, .int v1, .int v2, .int v3, .int v4] h) (K2 : Φ 1 h) : H_La_work [.ref 14, .int v1, .int v2, .int v3, .int v4, .ref p5] h Φ := CanH.intro (by decide) (fun _ => Nat.le_of_ble_eq_true rfl) (fun X C N ht Rm Q => by
    refine r_aload C 5 rfl d_La_work_0 ?_
    refine r_iconst (v := 0) C (by decide) d_La_work_2 ?_
    refine r_aload_n C 0 rfl d_La_work_3 ?_
    refine r_iload_n C 1 rfl d_La_work_4 ?_
    refine r_iload_n C 2 rfl d_La_work_5 ?_
    refine r_iload_n C 3 rfl d_La_work_6 ?_
    refine r_iload C 4 rfl d_La_work_7 ?_
    exact r_callVC (Q' := fun _ _ => True) (As := [.int v1, .int v2, .int v3, .int v4]) (st := [.int 0, .ref p5]) (lvc := 13) (ls2 := []) C N Rm ht ⟨by decide, by decide⟩ (by decide) k_293 List.mem_cons_self M_Ce_work rfl k_480 rfl (by decide) (Nat.le_of_ble_eq_true rfl) d_La_work_9 K (Or.inr ⟨d_La_work_17, rfl⟩) (by decide) (fun q hq => nomatch hq) (r_iconst (v := 1) C (by decide) d_La_work_19 (q_iret C Q d_La_work_20 ⟨_, rfl, K2⟩)))
set_option maxRecDepth 20000 in
theorem g_La_compare {X : CX} {h : HP} {v1 : Int32} {v2 : Int32} {p3 : Nat} {n3 : Nat} {Φ : Int32 → HP → Prop} (C : Cok X b_La_compare 5 R_Lw (some .int)) (Rm : xR X = rml 14 1 6) (Q : Qok X 1 6 (fun r h2 => ∃ v, r = some (.int v) ∧ Φ v h2)) (hp3 : kd p3 = (13, n3))
    (K : K_Ce_compare [.ref 14, .int v1, .int v2] h (fun r1 h1 => vp_in 0 n3 ∧ (Φ 0 (up h1 p3 (0 : Int32).toNatClampNeg r1)))) :
    Wg X 0 0 h [(0, .ref 14), (1, .int v1), (2, .int v2), (3, .ref p3)] [] 0 := by
  refine Wg.widen (ce2 := 1) (sl2 := 6) (Nat.zero_le _) (Nat.zero_le _) (by rw [Rm]; exact Nat.le_refl _) (by rw [Rm]; exact Nat.le_refl _) ?_
  refine r_aload_n C 3 rfl d_La_compare_0 ?_
  refine r_iconst (v := 0) C (by decide) d_La_compare_1 ?_
  refine r_aload_n C 0 rfl d_La_compare_2 ?_
  refine r_iload_n C 1 rfl d_La_compare_3 ?_
  refine r_iload_n C 2 rfl d_La_compare_4 ?_
  refine r_callV (As := [.int v1, .int v2]) (st := [.int 0, .ref p3]) (lvc := 13) (mcc := 0) (msc := 0) C Rm M_Ce_compare rfl k_871 rfl (by decide) (Nat.le_of_ble_eq_true rfl) ⟨by decide, by decide⟩ d_La_compare_5 ?_
  refine Can.mono K (fun _ h1 z => ?_)
  obtain ⟨r1, rfl, K⟩ := z
  show Wg X 1 6 h1 [(0, .ref 14), (1, .int v1), (2, .int v2), (3, .ref p3)] [.int r1, .int 0, .ref p3] 8
  refine r_i2l C d_La_compare_8 ?_
  obtain ⟨s0, K⟩ := K
  refine r_last C hp3 s0 d_La_compare_9 ?_
  refine r_goto C 17 d_La_compare_10 (by decide) ?_
  refine r_iconst (v := 0) C (by decide) d_La_compare_17 ?_
  exact q_iret C Q d_La_compare_18 ⟨_, rfl, K⟩
theorem HV_La_compare {h : HP} {v1 : Int32} {v2 : Int32} {p3 : Nat} {n3 : Nat} {Φ : Int32 → HP → Prop} (hp3 : kd p3 = (13, n3))
    (K : K_Ce_compare [.ref 14, .int v1, .int v2] h (fun r1 h1 => vp_in 0 n3 ∧ (Φ 0 (up h1 p3 (0 : Int32).toNatClampNeg r1)))) : H_La_compare [.ref 14, .int v1, .int v2, .ref p3] h Φ := CanH.intro (by decide) (fun _ => Nat.le_of_ble_eq_true rfl) (fun X C N ht Rm Q => g_La_compare C Rm Q hp3 K)
set_option maxRecDepth 20000 in
theorem HX_La_compare {h : HP} {v1 : Int32} {v2 : Int32} {p3 : Nat} {n3 : Nat} {Φ : Int32 → HP → Prop} (hp3 : kd p3 = (13, n3))
    (K : X_Ce_compare E_arg [.ref 14, .int v1, .int v2] h) (K2 : Φ 1 h) : H_La_compare [.ref 14, .int v1, .int v2, .ref p3] h Φ := CanH.intro (by decide) (fun _ => Nat.le_of_ble_eq_true rfl) (fun X C N ht Rm Q => by
    refine r_aload_n C 3 rfl d_La_compare_0 ?_
    refine r_iconst (v := 0) C (by decide) d_La_compare_1 ?_
    refine r_aload_n C 0 rfl d_La_compare_2 ?_
    refine r_iload_n C 1 rfl d_La_compare_3 ?_
    refine r_iload_n C 2 rfl d_La_compare_4 ?_
    exact r_callVC (Q' := fun _ _ => True) (As := [.int v1, .int v2]) (st := [.int 0, .ref p3]) (lvc := 13) (ls2 := []) C N Rm ht ⟨by decide, by decide⟩ (by decide) k_293 List.mem_cons_self M_Ce_compare rfl k_871 rfl (by decide) (Nat.le_of_ble_eq_true rfl) d_La_compare_5 K (Or.inr ⟨d_La_compare_13, rfl⟩) (by decide) (fun q hq => nomatch hq) (r_iconst (v := 1) C (by decide) d_La_compare_15 (q_iret C Q d_La_compare_16 ⟨_, rfl, K2⟩)))
set_option maxRecDepth 20000 in
theorem g_La_same {X : CX} {h : HP} {v1 : Int32} {v2 : Int32} {p3 : Nat} {n3 : Nat} {Φ : Int32 → HP → Prop} (C : Cok X b_La_same 5 R_Lw (some .int)) (Rm : xR X = rml 12 1 6) (Q : Qok X 1 6 (fun r h2 => ∃ v, r = some (.int v) ∧ Φ v h2)) (hp3 : kd p3 = (13, n3))
    (K : K_Ce_same [.ref 14, .int v1, .int v2] h (fun r1 h1 => (r1 = 0 → vp_in 0 n3 ∧ (Φ 0 (up h1 p3 (0 : Int32).toNatClampNeg 0))) ∧ (¬ r1 = 0 → vp_in 0 n3 ∧ (Φ 0 (up h1 p3 (0 : Int32).toNatClampNeg 1))))) :
    Wg X 0 0 h [(0, .ref 14), (1, .int v1), (2, .int v2), (3, .ref p3)] [] 0 := by
  refine Wg.widen (ce2 := 1) (sl2 := 6) (Nat.zero_le _) (Nat.zero_le _) (by rw [Rm]; exact Nat.le_refl _) (by rw [Rm]; exact Nat.le_refl _) ?_
  refine r_aload_n C 3 rfl d_La_same_0 ?_
  refine r_iconst (v := 0) C (by decide) d_La_same_1 ?_
  refine r_aload_n C 0 rfl d_La_same_2 ?_
  refine r_iload_n C 1 rfl d_La_same_3 ?_
  refine r_iload_n C 2 rfl d_La_same_4 ?_
  refine r_callV (As := [.int v1, .int v2]) (st := [.int 0, .ref p3]) (lvc := 11) (mcc := 0) (msc := 0) C Rm M_Ce_same rfl k_886 rfl (by decide) (Nat.le_of_ble_eq_true rfl) ⟨by decide, by decide⟩ d_La_same_5 ?_
  refine Can.mono K (fun _ h1 z => ?_)
  obtain ⟨r1, rfl, K⟩ := z
  show Wg X 1 6 h1 [(0, .ref 14), (1, .int v1), (2, .int v2), (3, .ref p3)] [.int r1, .int 0, .ref p3] 8
  refine r_if_eq C 15 d_La_same_8 (by decide) ⟨fun c0 => ?_, fun c0 => ?_⟩
  · have K := K.1 c0
    refine r_lconst (v := Int32.toInt64 0) C (by decide) d_La_same_15 ?_
    obtain ⟨s0, K⟩ := K
    refine r_last C hp3 s0 d_La_same_16 ?_
    refine r_goto C 24 d_La_same_17 (by decide) ?_
    refine r_iconst (v := 0) C (by decide) d_La_same_24 ?_
    exact q_iret C Q d_La_same_25 ⟨_, rfl, K⟩
  · have K := K.2 c0
    refine r_lconst (v := Int32.toInt64 1) C (by decide) d_La_same_11 ?_
    refine r_goto C 16 d_La_same_12 (by decide) ?_
    obtain ⟨s0, K⟩ := K
    refine r_last C hp3 s0 d_La_same_16 ?_
    refine r_goto C 24 d_La_same_17 (by decide) ?_
    refine r_iconst (v := 0) C (by decide) d_La_same_24 ?_
    exact q_iret C Q d_La_same_25 ⟨_, rfl, K⟩
theorem HV_La_same {h : HP} {v1 : Int32} {v2 : Int32} {p3 : Nat} {n3 : Nat} {Φ : Int32 → HP → Prop} (hp3 : kd p3 = (13, n3))
    (K : K_Ce_same [.ref 14, .int v1, .int v2] h (fun r1 h1 => (r1 = 0 → vp_in 0 n3 ∧ (Φ 0 (up h1 p3 (0 : Int32).toNatClampNeg 0))) ∧ (¬ r1 = 0 → vp_in 0 n3 ∧ (Φ 0 (up h1 p3 (0 : Int32).toNatClampNeg 1))))) : H_La_same [.ref 14, .int v1, .int v2, .ref p3] h Φ := CanH.intro (by decide) (fun _ => Nat.le_of_ble_eq_true rfl) (fun X C N ht Rm Q => g_La_same C Rm Q hp3 K)
set_option maxRecDepth 20000 in
theorem HX_La_same {h : HP} {v1 : Int32} {v2 : Int32} {p3 : Nat} {n3 : Nat} {Φ : Int32 → HP → Prop} (hp3 : kd p3 = (13, n3))
    (K : X_Ce_same E_arg [.ref 14, .int v1, .int v2] h) (K2 : Φ 1 h) : H_La_same [.ref 14, .int v1, .int v2, .ref p3] h Φ := CanH.intro (by decide) (fun _ => Nat.le_of_ble_eq_true rfl) (fun X C N ht Rm Q => by
    refine r_aload_n C 3 rfl d_La_same_0 ?_
    refine r_iconst (v := 0) C (by decide) d_La_same_1 ?_
    refine r_aload_n C 0 rfl d_La_same_2 ?_
    refine r_iload_n C 1 rfl d_La_same_3 ?_
    refine r_iload_n C 2 rfl d_La_same_4 ?_
    exact r_callVC (Q' := fun _ _ => True) (As := [.int v1, .int v2]) (st := [.int 0, .ref p3]) (lvc := 11) (ls2 := []) C N Rm ht ⟨by decide, by decide⟩ (by decide) k_293 List.mem_cons_self M_Ce_same rfl k_886 rfl (by decide) (Nat.le_of_ble_eq_true rfl) d_La_same_5 K (Or.inr ⟨d_La_same_20, rfl⟩) (by decide) (fun q hq => nomatch hq) (r_iconst (v := 1) C (by decide) d_La_same_22 (q_iret C Q d_La_same_23 ⟨_, rfl, K2⟩)))
set_option maxRecDepth 20000 in
theorem g_La_type {X : CX} {h : HP} {v1 : Int32} {v2 : Int32} {v3 : Int32} {v4 : Int32} {v5 : Int32} {p6 : Nat} {n6 : Nat} {Φ : Int32 → HP → Prop} (C : Cok X b_La_type 8 R_Lw (some .int)) (Rm : xR X = rml 10 1 6) (Q : Qok X 1 6 (fun r h2 => ∃ v, r = some (.int v) ∧ Φ v h2)) (hp6 : kd p6 = (13, n6))
    (K : K_Ce_type [.ref 14, .int v1, .int v2, .int v3, .int v4, .int v5] h (fun r1 h1 => vp_in 0 n6 ∧ (Φ 0 (up h1 p6 (0 : Int32).toNatClampNeg r1)))) :
    Wg X 0 0 h [(0, .ref 14), (1, .int v1), (2, .int v2), (3, .int v3), (4, .int v4), (5, .int v5), (6, .ref p6)] [] 0 := by
  refine Wg.widen (ce2 := 1) (sl2 := 6) (Nat.zero_le _) (Nat.zero_le _) (by rw [Rm]; exact Nat.le_refl _) (by rw [Rm]; exact Nat.le_refl _) ?_
  refine r_aload C 6 rfl d_La_type_0 ?_
  refine r_iconst (v := 0) C (by decide) d_La_type_2 ?_
  refine r_aload_n C 0 rfl d_La_type_3 ?_
  refine r_iload_n C 1 rfl d_La_type_4 ?_
  refine r_iload_n C 2 rfl d_La_type_5 ?_
  refine r_iload_n C 3 rfl d_La_type_6 ?_
  refine r_iload C 4 rfl d_La_type_7 ?_
  refine r_iload C 5 rfl d_La_type_9 ?_
  refine r_callV (As := [.int v1, .int v2, .int v3, .int v4, .int v5]) (st := [.int 0, .ref p6]) (lvc := 9) (mcc := 0) (msc := 0) C Rm M_Ce_type rfl k_894 rfl (by decide) (Nat.le_of_ble_eq_true rfl) ⟨by decide, by decide⟩ d_La_type_11 ?_
  refine Can.mono K (fun _ h1 z => ?_)
  obtain ⟨r1, rfl, K⟩ := z
  show Wg X 1 6 h1 [(0, .ref 14), (1, .int v1), (2, .int v2), (3, .int v3), (4, .int v4), (5, .int v5), (6, .ref p6)] [.int r1, .int 0, .ref p6] 14
  refine r_i2l C d_La_type_14 ?_
  obtain ⟨s0, K⟩ := K
  refine r_last C hp6 s0 d_La_type_15 ?_
  refine r_goto C 23 d_La_type_16 (by decide) ?_
  refine r_iconst (v := 0) C (by decide) d_La_type_23 ?_
  exact q_iret C Q d_La_type_24 ⟨_, rfl, K⟩
theorem HV_La_type {h : HP} {v1 : Int32} {v2 : Int32} {v3 : Int32} {v4 : Int32} {v5 : Int32} {p6 : Nat} {n6 : Nat} {Φ : Int32 → HP → Prop} (hp6 : kd p6 = (13, n6))
    (K : K_Ce_type [.ref 14, .int v1, .int v2, .int v3, .int v4, .int v5] h (fun r1 h1 => vp_in 0 n6 ∧ (Φ 0 (up h1 p6 (0 : Int32).toNatClampNeg r1)))) : H_La_type [.ref 14, .int v1, .int v2, .int v3, .int v4, .int v5, .ref p6] h Φ := CanH.intro (by decide) (fun _ => Nat.le_of_ble_eq_true rfl) (fun X C N ht Rm Q => g_La_type C Rm Q hp6 K)
set_option maxRecDepth 20000 in
theorem HX_La_type {h : HP} {v1 : Int32} {v2 : Int32} {v3 : Int32} {v4 : Int32} {v5 : Int32} {p6 : Nat} {n6 : Nat} {Φ : Int32 → HP → Prop} (hp6 : kd p6 = (13, n6))
    (K : X_Ce_type E_sta [.ref 14, .int v1, .int v2, .int v3, .int v4, .int v5] h) (K2 : Φ 1 h) : H_La_type [.ref 14, .int v1, .int v2, .int v3, .int v4, .int v5, .ref p6] h Φ := CanH.intro (by decide) (fun _ => Nat.le_of_ble_eq_true rfl) (fun X C N ht Rm Q => by
    refine r_aload C 6 rfl d_La_type_0 ?_
    refine r_iconst (v := 0) C (by decide) d_La_type_2 ?_
    refine r_aload_n C 0 rfl d_La_type_3 ?_
    refine r_iload_n C 1 rfl d_La_type_4 ?_
    refine r_iload_n C 2 rfl d_La_type_5 ?_
    refine r_iload_n C 3 rfl d_La_type_6 ?_
    refine r_iload C 4 rfl d_La_type_7 ?_
    refine r_iload C 5 rfl d_La_type_9 ?_
    exact r_callVC (Q' := fun _ _ => True) (As := [.int v1, .int v2, .int v3, .int v4, .int v5]) (st := [.int 0, .ref p6]) (lvc := 9) (ls2 := []) C N Rm ht ⟨by decide, by decide⟩ (by decide) k_893 (List.mem_cons_of_mem _ List.mem_cons_self) M_Ce_type rfl k_894 rfl (by decide) (Nat.le_of_ble_eq_true rfl) d_La_type_11 K (Or.inr ⟨d_La_type_19, rfl⟩) (by decide) (fun q hq => nomatch hq) (r_iconst (v := 1) C (by decide) d_La_type_21 (q_iret C Q d_La_type_22 ⟨_, rfl, K2⟩)))
set_option maxRecDepth 20000 in
theorem g_La_read {X : CX} {h : HP} {v1 : Int32} {p2 : Nat} {n2 : Nat} {Φ : Int32 → HP → Prop} (C : Cok X b_La_read 4 R_Lw (some .int)) (Rm : xR X = rml 12 1 6) (Q : Qok X 1 6 (fun r h2 => ∃ v, r = some (.int v) ∧ Φ v h2)) (hp2 : kd p2 = (13, n2))
    (K : K_Ce_read [.ref 14, .int v1] h (fun r1 h1 => vp_in 0 n2 ∧ (Φ 0 (up h1 p2 (0 : Int32).toNatClampNeg r1)))) :
    Wg X 0 0 h [(0, .ref 14), (1, .int v1), (2, .ref p2)] [] 0 := by
  refine Wg.widen (ce2 := 1) (sl2 := 6) (Nat.zero_le _) (Nat.zero_le _) (by rw [Rm]; exact Nat.le_refl _) (by rw [Rm]; exact Nat.le_refl _) ?_
  refine r_aload_n C 2 rfl d_La_read_0 ?_
  refine r_iconst (v := 0) C (by decide) d_La_read_1 ?_
  refine r_aload_n C 0 rfl d_La_read_2 ?_
  refine r_iload_n C 1 rfl d_La_read_3 ?_
  refine r_callV (As := [.int v1]) (st := [.int 0, .ref p2]) (lvc := 11) (mcc := 0) (msc := 0) C Rm M_Ce_read rfl k_923 rfl (by decide) (Nat.le_of_ble_eq_true rfl) ⟨by decide, by decide⟩ d_La_read_4 ?_
  refine Can.mono K (fun _ h1 z => ?_)
  obtain ⟨r1, rfl, K⟩ := z
  show Wg X 1 6 h1 [(0, .ref 14), (1, .int v1), (2, .ref p2)] [.int r1, .int 0, .ref p2] 7
  refine r_i2l C d_La_read_7 ?_
  obtain ⟨s0, K⟩ := K
  refine r_last C hp2 s0 d_La_read_8 ?_
  refine r_goto C 15 d_La_read_9 (by decide) ?_
  refine r_iconst (v := 0) C (by decide) d_La_read_15 ?_
  exact q_iret C Q d_La_read_16 ⟨_, rfl, K⟩
theorem HV_La_read {h : HP} {v1 : Int32} {p2 : Nat} {n2 : Nat} {Φ : Int32 → HP → Prop} (hp2 : kd p2 = (13, n2))
    (K : K_Ce_read [.ref 14, .int v1] h (fun r1 h1 => vp_in 0 n2 ∧ (Φ 0 (up h1 p2 (0 : Int32).toNatClampNeg r1)))) : H_La_read [.ref 14, .int v1, .ref p2] h Φ := CanH.intro (by decide) (fun _ => Nat.le_of_ble_eq_true rfl) (fun X C N ht Rm Q => g_La_read C Rm Q hp2 K)
set_option maxRecDepth 20000 in
theorem HX_La_read {h : HP} {v1 : Int32} {p2 : Nat} {n2 : Nat} {Φ : Int32 → HP → Prop} (hp2 : kd p2 = (13, n2))
    (K : X_Ce_read E_arg [.ref 14, .int v1] h) (K2 : Φ 1 h) : H_La_read [.ref 14, .int v1, .ref p2] h Φ := CanH.intro (by decide) (fun _ => Nat.le_of_ble_eq_true rfl) (fun X C N ht Rm Q => by
    refine r_aload_n C 2 rfl d_La_read_0 ?_
    refine r_iconst (v := 0) C (by decide) d_La_read_1 ?_
    refine r_aload_n C 0 rfl d_La_read_2 ?_
    refine r_iload_n C 1 rfl d_La_read_3 ?_
    exact r_callVC (Q' := fun _ _ => True) (As := [.int v1]) (st := [.int 0, .ref p2]) (lvc := 11) (ls2 := []) C N Rm ht ⟨by decide, by decide⟩ (by decide) k_293 List.mem_cons_self M_Ce_read rfl k_923 rfl (by decide) (Nat.le_of_ble_eq_true rfl) d_La_read_4 K (Or.inl ⟨3, rfl, d_La_read_12, rfl⟩) (by decide) (fun q hq => nomatch hq) (r_iconst (v := 1) C (by decide) d_La_read_13 (q_iret C Q d_La_read_14 ⟨_, rfl, K2⟩)))
set_option maxRecDepth 20000 in
theorem g_La_write {X : CX} {h : HP} {v1 : Int32} {p2 : Nat} {n2 : Nat} {Φ : Int32 → HP → Prop} (C : Cok X b_La_write 4 R_Lw (some .int)) (Rm : xR X = rml 12 1 6) (Q : Qok X 1 6 (fun r h2 => ∃ v, r = some (.int v) ∧ Φ v h2)) (hp2 : kd p2 = (13, n2))
    (K : K_Ce_write [.ref 14, .int v1] h (fun r1 h1 => vp_in 0 n2 ∧ (Φ 0 (up h1 p2 (0 : Int32).toNatClampNeg r1)))) :
    Wg X 0 0 h [(0, .ref 14), (1, .int v1), (2, .ref p2)] [] 0 := by
  refine Wg.widen (ce2 := 1) (sl2 := 6) (Nat.zero_le _) (Nat.zero_le _) (by rw [Rm]; exact Nat.le_refl _) (by rw [Rm]; exact Nat.le_refl _) ?_
  refine r_aload_n C 2 rfl d_La_write_0 ?_
  refine r_iconst (v := 0) C (by decide) d_La_write_1 ?_
  refine r_aload_n C 0 rfl d_La_write_2 ?_
  refine r_iload_n C 1 rfl d_La_write_3 ?_
  refine r_callV (As := [.int v1]) (st := [.int 0, .ref p2]) (lvc := 11) (mcc := 0) (msc := 0) C Rm M_Ce_write rfl k_953 rfl (by decide) (Nat.le_of_ble_eq_true rfl) ⟨by decide, by decide⟩ d_La_write_4 ?_
  refine Can.mono K (fun _ h1 z => ?_)
  obtain ⟨r1, rfl, K⟩ := z
  show Wg X 1 6 h1 [(0, .ref 14), (1, .int v1), (2, .ref p2)] [.int r1, .int 0, .ref p2] 7
  refine r_i2l C d_La_write_7 ?_
  obtain ⟨s0, K⟩ := K
  refine r_last C hp2 s0 d_La_write_8 ?_
  refine r_goto C 15 d_La_write_9 (by decide) ?_
  refine r_iconst (v := 0) C (by decide) d_La_write_15 ?_
  exact q_iret C Q d_La_write_16 ⟨_, rfl, K⟩
theorem HV_La_write {h : HP} {v1 : Int32} {p2 : Nat} {n2 : Nat} {Φ : Int32 → HP → Prop} (hp2 : kd p2 = (13, n2))
    (K : K_Ce_write [.ref 14, .int v1] h (fun r1 h1 => vp_in 0 n2 ∧ (Φ 0 (up h1 p2 (0 : Int32).toNatClampNeg r1)))) : H_La_write [.ref 14, .int v1, .ref p2] h Φ := CanH.intro (by decide) (fun _ => Nat.le_of_ble_eq_true rfl) (fun X C N ht Rm Q => g_La_write C Rm Q hp2 K)
set_option maxRecDepth 20000 in
theorem HX_La_write {h : HP} {v1 : Int32} {p2 : Nat} {n2 : Nat} {Φ : Int32 → HP → Prop} (hp2 : kd p2 = (13, n2))
    (K : X_Ce_write E_arg [.ref 14, .int v1] h) (K2 : Φ 1 h) : H_La_write [.ref 14, .int v1, .ref p2] h Φ := CanH.intro (by decide) (fun _ => Nat.le_of_ble_eq_true rfl) (fun X C N ht Rm Q => by
    refine r_aload_n C 2 rfl d_La_write_0 ?_
    refine r_iconst (v := 0) C (by decide) d_La_write_1 ?_
    refine r_aload_n C 0 rfl d_La_write_2 ?_
    refine r_iload_n C 1 rfl d_La_write_3 ?_
    exact r_callVC (Q' := fun _ _ => True) (As := [.int v1]) (st := [.int 0, .ref p2]) (lvc := 11) (ls2 := []) C N Rm ht ⟨by decide, by decide⟩ (by decide) k_293 List.mem_cons_self M_Ce_write rfl k_953 rfl (by decide) (Nat.le_of_ble_eq_true rfl) d_La_write_4 K (Or.inl ⟨3, rfl, d_La_write_12, rfl⟩) (by decide) (fun q hq => nomatch hq) (r_iconst (v := 1) C (by decide) d_La_write_13 (q_iret C Q d_La_write_14 ⟨_, rfl, K2⟩)))
set_option maxRecDepth 20000 in
theorem g_La_value {X : CX} {h : HP} {v1 : Int32} {v2 : Int32} {p3 : Nat} {n3 : Nat} {Φ : Int32 → HP → Prop} (C : Cok X b_La_value 5 R_Lw (some .int)) (Rm : xR X = rml 12 1 6) (Q : Qok X 1 6 (fun r h2 => ∃ v, r = some (.int v) ∧ Φ v h2)) (hp3 : kd p3 = (13, n3))
    (K : K_Ce_value [.ref 14, .int v1, .int v2] h (fun r1 h1 => vp_in 0 n3 ∧ (Φ 0 (up h1 p3 (0 : Int32).toNatClampNeg r1)))) :
    Wg X 0 0 h [(0, .ref 14), (1, .int v1), (2, .int v2), (3, .ref p3)] [] 0 := by
  refine Wg.widen (ce2 := 1) (sl2 := 6) (Nat.zero_le _) (Nat.zero_le _) (by rw [Rm]; exact Nat.le_refl _) (by rw [Rm]; exact Nat.le_refl _) ?_
  refine r_aload_n C 3 rfl d_La_value_0 ?_
  refine r_iconst (v := 0) C (by decide) d_La_value_1 ?_
  refine r_aload_n C 0 rfl d_La_value_2 ?_
  refine r_iload_n C 1 rfl d_La_value_3 ?_
  refine r_iload_n C 2 rfl d_La_value_4 ?_
  refine r_callV (As := [.int v1, .int v2]) (st := [.int 0, .ref p3]) (lvc := 11) (mcc := 0) (msc := 0) C Rm M_Ce_value rfl k_995 rfl (by decide) (Nat.le_of_ble_eq_true rfl) ⟨by decide, by decide⟩ d_La_value_5 ?_
  refine Can.mono K (fun _ h1 z => ?_)
  obtain ⟨r1, rfl, K⟩ := z
  show Wg X 1 6 h1 [(0, .ref 14), (1, .int v1), (2, .int v2), (3, .ref p3)] [.int r1, .int 0, .ref p3] 8
  refine r_i2l C d_La_value_8 ?_
  obtain ⟨s0, K⟩ := K
  refine r_last C hp3 s0 d_La_value_9 ?_
  refine r_goto C 17 d_La_value_10 (by decide) ?_
  refine r_iconst (v := 0) C (by decide) d_La_value_17 ?_
  exact q_iret C Q d_La_value_18 ⟨_, rfl, K⟩
theorem HV_La_value {h : HP} {v1 : Int32} {v2 : Int32} {p3 : Nat} {n3 : Nat} {Φ : Int32 → HP → Prop} (hp3 : kd p3 = (13, n3))
    (K : K_Ce_value [.ref 14, .int v1, .int v2] h (fun r1 h1 => vp_in 0 n3 ∧ (Φ 0 (up h1 p3 (0 : Int32).toNatClampNeg r1)))) : H_La_value [.ref 14, .int v1, .int v2, .ref p3] h Φ := CanH.intro (by decide) (fun _ => Nat.le_of_ble_eq_true rfl) (fun X C N ht Rm Q => g_La_value C Rm Q hp3 K)
set_option maxRecDepth 20000 in
theorem HX_La_value {h : HP} {v1 : Int32} {v2 : Int32} {p3 : Nat} {n3 : Nat} {Φ : Int32 → HP → Prop} (hp3 : kd p3 = (13, n3))
    (K : X_Ce_value E_arg [.ref 14, .int v1, .int v2] h) (K2 : Φ 1 h) : H_La_value [.ref 14, .int v1, .int v2, .ref p3] h Φ := CanH.intro (by decide) (fun _ => Nat.le_of_ble_eq_true rfl) (fun X C N ht Rm Q => by
    refine r_aload_n C 3 rfl d_La_value_0 ?_
    refine r_iconst (v := 0) C (by decide) d_La_value_1 ?_
    refine r_aload_n C 0 rfl d_La_value_2 ?_
    refine r_iload_n C 1 rfl d_La_value_3 ?_
    refine r_iload_n C 2 rfl d_La_value_4 ?_
    exact r_callVC (Q' := fun _ _ => True) (As := [.int v1, .int v2]) (st := [.int 0, .ref p3]) (lvc := 11) (ls2 := []) C N Rm ht ⟨by decide, by decide⟩ (by decide) k_293 List.mem_cons_self M_Ce_value rfl k_995 rfl (by decide) (Nat.le_of_ble_eq_true rfl) d_La_value_5 K (Or.inr ⟨d_La_value_13, rfl⟩) (by decide) (fun q hq => nomatch hq) (r_iconst (v := 1) C (by decide) d_La_value_15 (q_iret C Q d_La_value_16 ⟨_, rfl, K2⟩)))
set_option maxRecDepth 20000 in
theorem g_La_count {X : CX} {h : HP} {v1 : Int32} {p2 : Nat} {n2 : Nat} {Φ : Int32 → HP → Prop} (C : Cok X b_La_count 4 R_Lw (some .int)) (Rm : xR X = rml 11 1 6) (Q : Qok X 1 6 (fun r h2 => ∃ v, r = some (.int v) ∧ Φ v h2)) (hp2 : kd p2 = (13, n2))
    (K : K_Ce_count [.ref 14, .int v1] h (fun r1 h1 => vp_in 0 n2 ∧ (Φ 0 (up h1 p2 (0 : Int32).toNatClampNeg r1)))) :
    Wg X 0 0 h [(0, .ref 14), (1, .int v1), (2, .ref p2)] [] 0 := by
  refine Wg.widen (ce2 := 1) (sl2 := 6) (Nat.zero_le _) (Nat.zero_le _) (by rw [Rm]; exact Nat.le_refl _) (by rw [Rm]; exact Nat.le_refl _) ?_
  refine r_aload_n C 2 rfl d_La_count_0 ?_
  refine r_iconst (v := 0) C (by decide) d_La_count_1 ?_
  refine r_aload_n C 0 rfl d_La_count_2 ?_
  refine r_iload_n C 1 rfl d_La_count_3 ?_
  refine r_callV (As := [.int v1]) (st := [.int 0, .ref p2]) (lvc := 10) (mcc := 0) (msc := 0) C Rm M_Ce_count rfl k_1004 rfl (by decide) (Nat.le_of_ble_eq_true rfl) ⟨by decide, by decide⟩ d_La_count_4 ?_
  refine Can.mono K (fun _ h1 z => ?_)
  obtain ⟨r1, rfl, K⟩ := z
  show Wg X 1 6 h1 [(0, .ref 14), (1, .int v1), (2, .ref p2)] [.int r1, .int 0, .ref p2] 7
  refine r_i2l C d_La_count_7 ?_
  obtain ⟨s0, K⟩ := K
  refine r_last C hp2 s0 d_La_count_8 ?_
  refine r_goto C 15 d_La_count_9 (by decide) ?_
  refine r_iconst (v := 0) C (by decide) d_La_count_15 ?_
  exact q_iret C Q d_La_count_16 ⟨_, rfl, K⟩
theorem HV_La_count {h : HP} {v1 : Int32} {p2 : Nat} {n2 : Nat} {Φ : Int32 → HP → Prop} (hp2 : kd p2 = (13, n2))
    (K : K_Ce_count [.ref 14, .int v1] h (fun r1 h1 => vp_in 0 n2 ∧ (Φ 0 (up h1 p2 (0 : Int32).toNatClampNeg r1)))) : H_La_count [.ref 14, .int v1, .ref p2] h Φ := CanH.intro (by decide) (fun _ => Nat.le_of_ble_eq_true rfl) (fun X C N ht Rm Q => g_La_count C Rm Q hp2 K)
set_option maxRecDepth 20000 in
theorem HX_La_count {h : HP} {v1 : Int32} {p2 : Nat} {n2 : Nat} {Φ : Int32 → HP → Prop} (hp2 : kd p2 = (13, n2))
    (K : X_Ce_count E_arg [.ref 14, .int v1] h) (K2 : Φ 1 h) : H_La_count [.ref 14, .int v1, .ref p2] h Φ := CanH.intro (by decide) (fun _ => Nat.le_of_ble_eq_true rfl) (fun X C N ht Rm Q => by
    refine r_aload_n C 2 rfl d_La_count_0 ?_
    refine r_iconst (v := 0) C (by decide) d_La_count_1 ?_
    refine r_aload_n C 0 rfl d_La_count_2 ?_
    refine r_iload_n C 1 rfl d_La_count_3 ?_
    exact r_callVC (Q' := fun _ _ => True) (As := [.int v1]) (st := [.int 0, .ref p2]) (lvc := 10) (ls2 := []) C N Rm ht ⟨by decide, by decide⟩ (by decide) k_293 List.mem_cons_self M_Ce_count rfl k_1004 rfl (by decide) (Nat.le_of_ble_eq_true rfl) d_La_count_4 K (Or.inl ⟨3, rfl, d_La_count_12, rfl⟩) (by decide) (fun q hq => nomatch hq) (r_iconst (v := 1) C (by decide) d_La_count_13 (q_iret C Q d_La_count_14 ⟨_, rfl, K2⟩)))
