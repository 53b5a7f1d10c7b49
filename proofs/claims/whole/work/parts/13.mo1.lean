
theorem k_1020 : (Jvm.Cond.fieldLink "CellHeapModel" (7 : Nat) "CellHeapModel" "valueSort" "[I") ∈ wx_tbl := wx_in 1084 (by decide +kernel) rfl
theorem k_1021 : (Jvm.Cond.fieldLink "CellHeapModel" (13 : Nat) "CellHeapModel" "valueOf" "[I") ∈ wx_tbl := wx_in 1085 (by decide +kernel) rfl
theorem k_1030 : (Jvm.Cond.fieldLink "CellHeapModel" (32 : Nat) "CellHeapModel" "limb" "[I") ∈ wx_tbl := wx_in 1094 (by decide +kernel) rfl
theorem k_1031 : (Jvm.Cond.fieldLink "CellHeapModel" (35 : Nat) "CellHeapModel" "length" "[I") ∈ wx_tbl := wx_in 1095 (by decide +kernel) rfl
theorem k_1032 : (Jvm.Cond.fieldLink "CellHeapModel" (38 : Nat) "CellHeapModel" "isBelow" "[Z") ∈ wx_tbl := wx_in 1096 (by decide +kernel) rfl
theorem k_1106 : (Jvm.Cond.methodLink "CellHeapModel" (87 : Nat) ({ cls := "CellHeapModel", name := "setLong", desc := "(IJ)V" } : Jvm.MethodName)) ∈ wx_tbl := wx_in 1170 (by decide +kernel) rfl
theorem k_1110 : (Jvm.Cond.constantLong "CellHeapModel" (55 : Nat) (65535 : Int64)) ∈ wx_tbl := wx_in 1174 (by decide +kernel) rfl
theorem k_1111 : (Jvm.Cond.constant "CellHeapModel" (57 : Nat) (65535 : Int32)) ∈ wx_tbl := wx_in 1175 (by decide +kernel) rfl
theorem k_1112 : (Jvm.Cond.methodLink "CellHeapModel" (58 : Nat) ({ cls := "CellHeapModel", name := "trim", desc := "(I)V" } : Jvm.MethodName)) ∈ wx_tbl := wx_in 1176 (by decide +kernel) rfl
theorem k_1124 : (Jvm.Cond.methodLink "CellHeapModel" (76 : Nat) ({ cls := "CellHeapModel", name := "bitsOf", desc := "(I)I" } : Jvm.MethodName)) ∈ wx_tbl := wx_in 1188 (by decide +kernel) rfl
theorem k_1132 : (Jvm.Cond.methodLink "CellHeapModel" (124 : Nat) ({ cls := "CellHeapModel", name := "isFixed", desc := "(I)Z" } : Jvm.MethodName)) ∈ wx_tbl := wx_in 1196 (by decide +kernel) rfl
theorem k_1136 : (Jvm.Cond.methodLink "CellHeapModel" (62 : Nat) ({ cls := "CellHeapModel", name := "limbOf", desc := "(II)I" } : Jvm.MethodName)) ∈ wx_tbl := wx_in 1200 (by decide +kernel) rfl
theorem k_1140 : (Jvm.Cond.constant "CellHeapModel" (123 : Nat) (1073741824 : Int32)) ∈ wx_tbl := wx_in 1204 (by decide +kernel) rfl
theorem k_1167 : (Jvm.Cond.methodLink "CellHeapModel" (80 : Nat) ({ cls := "CellHeapModel", name := "copyRow", desc := "(II)V" } : Jvm.MethodName)) ∈ wx_tbl := wx_in 1231 (by decide +kernel) rfl
theorem k_1215 : (Jvm.Cond.methodLink "CellHeapModel" (98 : Nat) ({ cls := "CellHeapModel", name := "divisor", desc := "(II)V" } : Jvm.MethodName)) ∈ wx_tbl := wx_in 1279 (by decide +kernel) rfl
theorem k_1219 : (Jvm.Cond.methodLink "CellHeapModel" (91 : Nat) ({ cls := "CellHeapModel", name := "isEven", desc := "(I)Z" } : Jvm.MethodName)) ∈ wx_tbl := wx_in 1283 (by decide +kernel) rfl
theorem k_1223 : (Jvm.Cond.methodLink "CellHeapModel" (95 : Nat) ({ cls := "CellHeapModel", name := "halve", desc := "(I)V" } : Jvm.MethodName)) ∈ wx_tbl := wx_in 1287 (by decide +kernel) rfl
theorem k_1227 : (Jvm.Cond.methodLink "CellHeapModel" (70 : Nat) ({ cls := "CellHeapModel", name := "compareSizes", desc := "(II)I" } : Jvm.MethodName)) ∈ wx_tbl := wx_in 1291 (by decide +kernel) rfl
theorem k_1231 : (Jvm.Cond.methodLink "CellHeapModel" (73 : Nat) ({ cls := "CellHeapModel", name := "subtractSizes", desc := "(III)V" } : Jvm.MethodName)) ∈ wx_tbl := wx_in 1295 (by decide +kernel) rfl
theorem k_1235 : (Jvm.Cond.methodLink "CellHeapModel" (66 : Nat) ({ cls := "CellHeapModel", name := "addSizes", desc := "(III)V" } : Jvm.MethodName)) ∈ wx_tbl := wx_in 1299 (by decide +kernel) rfl
theorem k_1239 : (Jvm.Cond.methodLink "CellHeapModel" (101 : Nat) ({ cls := "CellHeapModel", name := "divide", desc := "(III)V" } : Jvm.MethodName)) ∈ wx_tbl := wx_in 1303 (by decide +kernel) rfl
theorem k_1243 : (Jvm.Cond.methodLink "CellHeapModel" (84 : Nat) ({ cls := "CellHeapModel", name := "divideSmall", desc := "(II)I" } : Jvm.MethodName)) ∈ wx_tbl := wx_in 1307 (by decide +kernel) rfl
/-! Mo_trim: ('CellHeapModel', 'trim', '(I)V') -/
abbrev b_Mo_trim : ByteArray := prog_10_method_5_code
abbrev y_Mo_trim : MethodName := ⟨R_Mo, "trim", "(I)V"⟩
abbrev K_Mo_trim := CanV y_Mo_trim b_Mo_trim 2 none 0 0 0
theorem I_Mo_trim {h : HP} {v1 : Int32} {Φ : HP → Prop} (body : ∀ X : CX, Cok X b_Mo_trim 2 R_Mo none → xR X = rml 0 0 0 → Qok X 0 0 (fun r h2 => r = none ∧ Φ h2) → Wg X 0 0 h [(0, .ref 0), (1, .int v1)] [] 0) : K_Mo_trim [.ref 0, .int v1] h Φ := Can.intro (by decide) (fun _ => Nat.le_of_ble_eq_true rfl) body
theorem M_Mo_trim : Mv y_Mo_trim b_Mo_trim 2 none 1 8 := ⟨wx_in 1179 (by decide +kernel) rfl, wx_in 1178 (by decide +kernel) rfl, wx_in 28 (by decide +kernel) rfl, wx_in 73 (by decide +kernel) rfl, by decide +kernel, by decide, by decide, _, _, rfl⟩
theorem d_Mo_trim_0 : decode b_Mo_trim 0 = .ok (.aload_n 0, 1) := by decide +kernel
theorem d_Mo_trim_1 : decode b_Mo_trim 1 = .ok (.getfield 35, 3) := by decide +kernel
theorem d_Mo_trim_4 : decode b_Mo_trim 4 = .ok (.iload_n 1, 1) := by decide +kernel
theorem d_Mo_trim_5 : decode b_Mo_trim 5 = .ok (.iaload, 1) := by decide +kernel
theorem d_Mo_trim_6 : decode b_Mo_trim 6 = .ok (.ifCond .le 37, 3) := by decide +kernel
theorem d_Mo_trim_9 : decode b_Mo_trim 9 = .ok (.aload_n 0, 1) := by decide +kernel
theorem d_Mo_trim_10 : decode b_Mo_trim 10 = .ok (.getfield 32, 3) := by decide +kernel
theorem d_Mo_trim_13 : decode b_Mo_trim 13 = .ok (.bipush 100, 2) := by decide +kernel
theorem d_Mo_trim_15 : decode b_Mo_trim 15 = .ok (.iload_n 1, 1) := by decide +kernel
theorem d_Mo_trim_16 : decode b_Mo_trim 16 = .ok (.imul, 1) := by decide +kernel
theorem d_Mo_trim_17 : decode b_Mo_trim 17 = .ok (.aload_n 0, 1) := by decide +kernel
theorem d_Mo_trim_18 : decode b_Mo_trim 18 = .ok (.getfield 35, 3) := by decide +kernel
theorem d_Mo_trim_21 : decode b_Mo_trim 21 = .ok (.iload_n 1, 1) := by decide +kernel
theorem d_Mo_trim_22 : decode b_Mo_trim 22 = .ok (.iaload, 1) := by decide +kernel
theorem d_Mo_trim_23 : decode b_Mo_trim 23 = .ok (.iadd, 1) := by decide +kernel
theorem d_Mo_trim_24 : decode b_Mo_trim 24 = .ok (.iconst 1, 1) := by decide +kernel
theorem d_Mo_trim_25 : decode b_Mo_trim 25 = .ok (.isub, 1) := by decide +kernel
theorem d_Mo_trim_26 : decode b_Mo_trim 26 = .ok (.iaload, 1) := by decide +kernel
theorem d_Mo_trim_27 : decode b_Mo_trim 27 = .ok (.ifCond .ne 16, 3) := by decide +kernel
theorem d_Mo_trim_30 : decode b_Mo_trim 30 = .ok (.aload_n 0, 1) := by decide +kernel
theorem d_Mo_trim_31 : decode b_Mo_trim 31 = .ok (.getfield 35, 3) := by decide +kernel
theorem d_Mo_trim_34 : decode b_Mo_trim 34 = .ok (.iload_n 1, 1) := by decide +kernel
theorem d_Mo_trim_35 : decode b_Mo_trim 35 = .ok (.dup2, 1) := by decide +kernel
theorem d_Mo_trim_36 : decode b_Mo_trim 36 = .ok (.iaload, 1) := by decide +kernel
theorem d_Mo_trim_37 : decode b_Mo_trim 37 = .ok (.iconst 1, 1) := by decide +kernel
theorem d_Mo_trim_38 : decode b_Mo_trim 38 = .ok (.isub, 1) := by decide +kernel
theorem d_Mo_trim_39 : decode b_Mo_trim 39 = .ok (.iastore, 1) := by decide +kernel
theorem d_Mo_trim_40 : decode b_Mo_trim 40 = .ok (.goto (-40), 3) := by decide +kernel
theorem d_Mo_trim_43 : decode b_Mo_trim 43 = .ok (.aload_n 0, 1) := by decide +kernel
theorem d_Mo_trim_44 : decode b_Mo_trim 44 = .ok (.getfield 35, 3) := by decide +kernel
theorem d_Mo_trim_47 : decode b_Mo_trim 47 = .ok (.iload_n 1, 1) := by decide +kernel
theorem d_Mo_trim_48 : decode b_Mo_trim 48 = .ok (.iaload, 1) := by decide +kernel
theorem d_Mo_trim_49 : decode b_Mo_trim 49 = .ok (.ifCond .ne 10, 3) := by decide +kernel
theorem d_Mo_trim_52 : decode b_Mo_trim 52 = .ok (.aload_n 0, 1) := by decide +kernel
theorem d_Mo_trim_53 : decode b_Mo_trim 53 = .ok (.getfield 38, 3) := by decide +kernel
theorem d_Mo_trim_56 : decode b_Mo_trim 56 = .ok (.iload_n 1, 1) := by decide +kernel
theorem d_Mo_trim_57 : decode b_Mo_trim 57 = .ok (.iconst 0, 1) := by decide +kernel
theorem d_Mo_trim_58 : decode b_Mo_trim 58 = .ok (.bastore, 1) := by decide +kernel
theorem d_Mo_trim_59 : decode b_Mo_trim 59 = .ok (.return_, 1) := by decide +kernel
/-! Mo_setLong: ('CellHeapModel', 'setLong', '(IJ)V') -/
abbrev b_Mo_setLong : ByteArray := prog_10_method_6_code
abbrev y_Mo_setLong : MethodName := ⟨R_Mo, "setLong", "(IJ)V"⟩
abbrev K_Mo_setLong := CanV y_Mo_setLong b_Mo_setLong 7 none 1 0 0
theorem I_Mo_setLong {h : HP} {v1 : Int32} {v2 : Int64} {Φ : HP → Prop} (body : ∀ X : CX, Cok X b_Mo_setLong 7 R_Mo none → xR X = rml 1 0 0 → Qok X 0 0 (fun r h2 => r = none ∧ Φ h2) → Wg X 0 0 h [(0, .ref 0), (1, .int v1), (2, .long v2)] [] 0) : K_Mo_setLong [.ref 0, .int v1, .long v2] h Φ := Can.intro (by decide) (fun _ => Nat.le_of_ble_eq_true rfl) body
theorem M_Mo_setLong : Mv y_Mo_setLong b_Mo_setLong 7 none 2 8 := ⟨wx_in 1173 (by decide +kernel) rfl, wx_in 1172 (by decide +kernel) rfl, wx_in 27 (by decide +kernel) rfl, wx_in 73 (by decide +kernel) rfl, by decide +kernel, by decide, by decide, _, _, rfl⟩
theorem d_Mo_setLong_0 : decode b_Mo_setLong 0 = .ok (.aload_n 0, 1) := by decide +kernel
theorem d_Mo_setLong_1 : decode b_Mo_setLong 1 = .ok (.getfield 38, 3) := by decide +kernel
theorem d_Mo_setLong_4 : decode b_Mo_setLong 4 = .ok (.iload_n 1, 1) := by decide +kernel
theorem d_Mo_setLong_5 : decode b_Mo_setLong 5 = .ok (.lload_n 2, 1) := by decide +kernel
theorem d_Mo_setLong_6 : decode b_Mo_setLong 6 = .ok (.lconst 0, 1) := by decide +kernel
theorem d_Mo_setLong_7 : decode b_Mo_setLong 7 = .ok (.lcmp, 1) := by decide +kernel
theorem d_Mo_setLong_8 : decode b_Mo_setLong 8 = .ok (.ifCond .ge 7, 3) := by decide +kernel
theorem d_Mo_setLong_11 : decode b_Mo_setLong 11 = .ok (.iconst 1, 1) := by decide +kernel
theorem d_Mo_setLong_12 : decode b_Mo_setLong 12 = .ok (.goto 4, 3) := by decide +kernel
theorem d_Mo_setLong_15 : decode b_Mo_setLong 15 = .ok (.iconst 0, 1) := by decide +kernel
theorem d_Mo_setLong_16 : decode b_Mo_setLong 16 = .ok (.bastore, 1) := by decide +kernel
theorem d_Mo_setLong_17 : decode b_Mo_setLong 17 = .ok (.iconst 0, 1) := by decide +kernel
theorem d_Mo_setLong_18 : decode b_Mo_setLong 18 = .ok (.istore 4, 2) := by decide +kernel
theorem d_Mo_setLong_20 : decode b_Mo_setLong 20 = .ok (.iload 4, 2) := by decide +kernel
theorem d_Mo_setLong_22 : decode b_Mo_setLong 22 = .ok (.iconst 4, 1) := by decide +kernel
theorem d_Mo_setLong_23 : decode b_Mo_setLong 23 = .ok (.if_icmp .ge 33, 3) := by decide +kernel
theorem d_Mo_setLong_26 : decode b_Mo_setLong 26 = .ok (.aload_n 0, 1) := by decide +kernel
theorem d_Mo_setLong_27 : decode b_Mo_setLong 27 = .ok (.getfield 32, 3) := by decide +kernel
theorem d_Mo_setLong_30 : decode b_Mo_setLong 30 = .ok (.bipush 100, 2) := by decide +kernel
theorem d_Mo_setLong_32 : decode b_Mo_setLong 32 = .ok (.iload_n 1, 1) := by decide +kernel
theorem d_Mo_setLong_33 : decode b_Mo_setLong 33 = .ok (.imul, 1) := by decide +kernel
theorem d_Mo_setLong_34 : decode b_Mo_setLong 34 = .ok (.iload 4, 2) := by decide +kernel
theorem d_Mo_setLong_36 : decode b_Mo_setLong 36 = .ok (.iadd, 1) := by decide +kernel
theorem d_Mo_setLong_37 : decode b_Mo_setLong 37 = .ok (.lload_n 2, 1) := by decide +kernel
theorem d_Mo_setLong_38 : decode b_Mo_setLong 38 = .ok (.bipush 16, 2) := by decide +kernel
theorem d_Mo_setLong_40 : decode b_Mo_setLong 40 = .ok (.iload 4, 2) := by decide +kernel
theorem d_Mo_setLong_42 : decode b_Mo_setLong 42 = .ok (.imul, 1) := by decide +kernel
theorem d_Mo_setLong_43 : decode b_Mo_setLong 43 = .ok (.lshr, 1) := by decide +kernel
theorem d_Mo_setLong_44 : decode b_Mo_setLong 44 = .ok (.ldc2_w 55, 3) := by decide +kernel
theorem d_Mo_setLong_47 : decode b_Mo_setLong 47 = .ok (.land, 1) := by decide +kernel
theorem d_Mo_setLong_48 : decode b_Mo_setLong 48 = .ok (.l2i, 1) := by decide +kernel
theorem d_Mo_setLong_49 : decode b_Mo_setLong 49 = .ok (.iastore, 1) := by decide +kernel
theorem d_Mo_setLong_50 : decode b_Mo_setLong 50 = .ok (.iinc 4 1, 3) := by decide +kernel
theorem d_Mo_setLong_53 : decode b_Mo_setLong 53 = .ok (.goto (-33), 3) := by decide +kernel
theorem d_Mo_setLong_56 : decode b_Mo_setLong 56 = .ok (.aload_n 0, 1) := by decide +kernel
theorem d_Mo_setLong_57 : decode b_Mo_setLong 57 = .ok (.getfield 35, 3) := by decide +kernel
theorem d_Mo_setLong_60 : decode b_Mo_setLong 60 = .ok (.iload_n 1, 1) := by decide +kernel
theorem d_Mo_setLong_61 : decode b_Mo_setLong 61 = .ok (.iconst 4, 1) := by decide +kernel
theorem d_Mo_setLong_62 : decode b_Mo_setLong 62 = .ok (.iastore, 1) := by decide +kernel
theorem d_Mo_setLong_63 : decode b_Mo_setLong 63 = .ok (.lload_n 2, 1) := by decide +kernel
theorem d_Mo_setLong_64 : decode b_Mo_setLong 64 = .ok (.lconst 0, 1) := by decide +kernel
theorem d_Mo_setLong_65 : decode b_Mo_setLong 65 = .ok (.lcmp, 1) := by decide +kernel
theorem d_Mo_setLong_66 : decode b_Mo_setLong 66 = .ok (.ifCond .ge 65, 3) := by decide +kernel
theorem d_Mo_setLong_69 : decode b_Mo_setLong 69 = .ok (.iconst 1, 1) := by decide +kernel
theorem d_Mo_setLong_70 : decode b_Mo_setLong 70 = .ok (.istore 4, 2) := by decide +kernel
theorem d_Mo_setLong_72 : decode b_Mo_setLong 72 = .ok (.iconst 0, 1) := by decide +kernel
theorem d_Mo_setLong_73 : decode b_Mo_setLong 73 = .ok (.istore 5, 2) := by decide +kernel
theorem d_Mo_setLong_75 : decode b_Mo_setLong 75 = .ok (.iload 5, 2) := by decide +kernel
theorem d_Mo_setLong_77 : decode b_Mo_setLong 77 = .ok (.iconst 4, 1) := by decide +kernel
theorem d_Mo_setLong_78 : decode b_Mo_setLong 78 = .ok (.if_icmp .ge 53, 3) := by decide +kernel
theorem d_Mo_setLong_81 : decode b_Mo_setLong 81 = .ok (.aload_n 0, 1) := by decide +kernel
theorem d_Mo_setLong_82 : decode b_Mo_setLong 82 = .ok (.getfield 32, 3) := by decide +kernel
theorem d_Mo_setLong_85 : decode b_Mo_setLong 85 = .ok (.bipush 100, 2) := by decide +kernel
theorem d_Mo_setLong_87 : decode b_Mo_setLong 87 = .ok (.iload_n 1, 1) := by decide +kernel
theorem d_Mo_setLong_88 : decode b_Mo_setLong 88 = .ok (.imul, 1) := by decide +kernel
theorem d_Mo_setLong_89 : decode b_Mo_setLong 89 = .ok (.iload 5, 2) := by decide +kernel
theorem d_Mo_setLong_91 : decode b_Mo_setLong 91 = .ok (.iadd, 1) := by decide +kernel
theorem d_Mo_setLong_92 : decode b_Mo_setLong 92 = .ok (.iaload, 1) := by decide +kernel
theorem d_Mo_setLong_93 : decode b_Mo_setLong 93 = .ok (.ldc 57, 2) := by decide +kernel
theorem d_Mo_setLong_95 : decode b_Mo_setLong 95 = .ok (.ixor, 1) := by decide +kernel
theorem d_Mo_setLong_96 : decode b_Mo_setLong 96 = .ok (.iload 4, 2) := by decide +kernel
theorem d_Mo_setLong_98 : decode b_Mo_setLong 98 = .ok (.iadd, 1) := by decide +kernel
theorem d_Mo_setLong_99 : decode b_Mo_setLong 99 = .ok (.istore 6, 2) := by decide +kernel
theorem d_Mo_setLong_101 : decode b_Mo_setLong 101 = .ok (.aload_n 0, 1) := by decide +kernel
theorem d_Mo_setLong_102 : decode b_Mo_setLong 102 = .ok (.getfield 32, 3) := by decide +kernel
theorem d_Mo_setLong_105 : decode b_Mo_setLong 105 = .ok (.bipush 100, 2) := by decide +kernel
theorem d_Mo_setLong_107 : decode b_Mo_setLong 107 = .ok (.iload_n 1, 1) := by decide +kernel
theorem d_Mo_setLong_108 : decode b_Mo_setLong 108 = .ok (.imul, 1) := by decide +kernel
theorem d_Mo_setLong_109 : decode b_Mo_setLong 109 = .ok (.iload 5, 2) := by decide +kernel
theorem d_Mo_setLong_111 : decode b_Mo_setLong 111 = .ok (.iadd, 1) := by decide +kernel
theorem d_Mo_setLong_112 : decode b_Mo_setLong 112 = .ok (.iload 6, 2) := by decide +kernel
theorem d_Mo_setLong_114 : decode b_Mo_setLong 114 = .ok (.ldc 57, 2) := by decide +kernel
theorem d_Mo_setLong_116 : decode b_Mo_setLong 116 = .ok (.iand, 1) := by decide +kernel
theorem d_Mo_setLong_117 : decode b_Mo_setLong 117 = .ok (.iastore, 1) := by decide +kernel
theorem d_Mo_setLong_118 : decode b_Mo_setLong 118 = .ok (.iload 6, 2) := by decide +kernel
theorem d_Mo_setLong_120 : decode b_Mo_setLong 120 = .ok (.bipush 16, 2) := by decide +kernel
theorem d_Mo_setLong_122 : decode b_Mo_setLong 122 = .ok (.ishr, 1) := by decide +kernel
theorem d_Mo_setLong_123 : decode b_Mo_setLong 123 = .ok (.istore 4, 2) := by decide +kernel
theorem d_Mo_setLong_125 : decode b_Mo_setLong 125 = .ok (.iinc 5 1, 3) := by decide +kernel
theorem d_Mo_setLong_128 : decode b_Mo_setLong 128 = .ok (.goto (-53), 3) := by decide +kernel
theorem d_Mo_setLong_131 : decode b_Mo_setLong 131 = .ok (.aload_n 0, 1) := by decide +kernel
theorem d_Mo_setLong_132 : decode b_Mo_setLong 132 = .ok (.iload_n 1, 1) := by decide +kernel
theorem d_Mo_setLong_133 : decode b_Mo_setLong 133 = .ok (.invokevirtual 58, 3) := by decide +kernel
theorem d_Mo_setLong_136 : decode b_Mo_setLong 136 = .ok (.return_, 1) := by decide +kernel
/-! Mo_copyRow: ('CellHeapModel', 'copyRow', '(II)V') -/
abbrev b_Mo_copyRow : ByteArray := prog_10_method_7_code
abbrev y_Mo_copyRow : MethodName := ⟨R_Mo, "copyRow", "(II)V"⟩
abbrev K_Mo_copyRow := CanV y_Mo_copyRow b_Mo_copyRow 4 none 0 0 0
theorem I_Mo_copyRow {h : HP} {v1 : Int32} {v2 : Int32} {Φ : HP → Prop} (body : ∀ X : CX, Cok X b_Mo_copyRow 4 R_Mo none → xR X = rml 0 0 0 → Qok X 0 0 (fun r h2 => r = none ∧ Φ h2) → Wg X 0 0 h [(0, .ref 0), (1, .int v1), (2, .int v2)] [] 0) : K_Mo_copyRow [.ref 0, .int v1, .int v2] h Φ := Can.intro (by decide) (fun _ => Nat.le_of_ble_eq_true rfl) body
theorem M_Mo_copyRow : Mv y_Mo_copyRow b_Mo_copyRow 4 none 2 8 := ⟨wx_in 1234 (by decide +kernel) rfl, wx_in 1233 (by decide +kernel) rfl, wx_in 40 (by decide +kernel) rfl, wx_in 73 (by decide +kernel) rfl, by decide +kernel, by decide, by decide, _, _, rfl⟩
theorem d_Mo_copyRow_0 : decode b_Mo_copyRow 0 = .ok (.aload_n 0, 1) := by decide +kernel
theorem d_Mo_copyRow_1 : decode b_Mo_copyRow 1 = .ok (.getfield 35, 3) := by decide +kernel
theorem d_Mo_copyRow_4 : decode b_Mo_copyRow 4 = .ok (.iload_n 1, 1) := by decide +kernel
theorem d_Mo_copyRow_5 : decode b_Mo_copyRow 5 = .ok (.aload_n 0, 1) := by decide +kernel
theorem d_Mo_copyRow_6 : decode b_Mo_copyRow 6 = .ok (.getfield 35, 3) := by decide +kernel
theorem d_Mo_copyRow_9 : decode b_Mo_copyRow 9 = .ok (.iload_n 2, 1) := by decide +kernel
theorem d_Mo_copyRow_10 : decode b_Mo_copyRow 10 = .ok (.iaload, 1) := by decide +kernel
theorem d_Mo_copyRow_11 : decode b_Mo_copyRow 11 = .ok (.iastore, 1) := by decide +kernel
theorem d_Mo_copyRow_12 : decode b_Mo_copyRow 12 = .ok (.aload_n 0, 1) := by decide +kernel
theorem d_Mo_copyRow_13 : decode b_Mo_copyRow 13 = .ok (.getfield 38, 3) := by decide +kernel
theorem d_Mo_copyRow_16 : decode b_Mo_copyRow 16 = .ok (.iload_n 1, 1) := by decide +kernel
theorem d_Mo_copyRow_17 : decode b_Mo_copyRow 17 = .ok (.aload_n 0, 1) := by decide +kernel
theorem d_Mo_copyRow_18 : decode b_Mo_copyRow 18 = .ok (.getfield 38, 3) := by decide +kernel
theorem d_Mo_copyRow_21 : decode b_Mo_copyRow 21 = .ok (.iload_n 2, 1) := by decide +kernel
theorem d_Mo_copyRow_22 : decode b_Mo_copyRow 22 = .ok (.baload, 1) := by decide +kernel
theorem d_Mo_copyRow_23 : decode b_Mo_copyRow 23 = .ok (.bastore, 1) := by decide +kernel
theorem d_Mo_copyRow_24 : decode b_Mo_copyRow 24 = .ok (.iconst 0, 1) := by decide +kernel
theorem d_Mo_copyRow_25 : decode b_Mo_copyRow 25 = .ok (.istore_n 3, 1) := by decide +kernel
theorem d_Mo_copyRow_26 : decode b_Mo_copyRow 26 = .ok (.iload_n 3, 1) := by decide +kernel
theorem d_Mo_copyRow_27 : decode b_Mo_copyRow 27 = .ok (.aload_n 0, 1) := by decide +kernel
theorem d_Mo_copyRow_28 : decode b_Mo_copyRow 28 = .ok (.getfield 35, 3) := by decide +kernel
theorem d_Mo_copyRow_31 : decode b_Mo_copyRow 31 = .ok (.iload_n 2, 1) := by decide +kernel
theorem d_Mo_copyRow_32 : decode b_Mo_copyRow 32 = .ok (.iaload, 1) := by decide +kernel
theorem d_Mo_copyRow_33 : decode b_Mo_copyRow 33 = .ok (.if_icmp .ge 31, 3) := by decide +kernel
theorem d_Mo_copyRow_36 : decode b_Mo_copyRow 36 = .ok (.aload_n 0, 1) := by decide +kernel
theorem d_Mo_copyRow_37 : decode b_Mo_copyRow 37 = .ok (.getfield 32, 3) := by decide +kernel
theorem d_Mo_copyRow_40 : decode b_Mo_copyRow 40 = .ok (.bipush 100, 2) := by decide +kernel
theorem d_Mo_copyRow_42 : decode b_Mo_copyRow 42 = .ok (.iload_n 1, 1) := by decide +kernel
theorem d_Mo_copyRow_43 : decode b_Mo_copyRow 43 = .ok (.imul, 1) := by decide +kernel
theorem d_Mo_copyRow_44 : decode b_Mo_copyRow 44 = .ok (.iload_n 3, 1) := by decide +kernel
theorem d_Mo_copyRow_45 : decode b_Mo_copyRow 45 = .ok (.iadd, 1) := by decide +kernel
theorem d_Mo_copyRow_46 : decode b_Mo_copyRow 46 = .ok (.aload_n 0, 1) := by decide +kernel
theorem d_Mo_copyRow_47 : decode b_Mo_copyRow 47 = .ok (.getfield 32, 3) := by decide +kernel
theorem d_Mo_copyRow_50 : decode b_Mo_copyRow 50 = .ok (.bipush 100, 2) := by decide +kernel
theorem d_Mo_copyRow_52 : decode b_Mo_copyRow 52 = .ok (.iload_n 2, 1) := by decide +kernel
theorem d_Mo_copyRow_53 : decode b_Mo_copyRow 53 = .ok (.imul, 1) := by decide +kernel
theorem d_Mo_copyRow_54 : decode b_Mo_copyRow 54 = .ok (.iload_n 3, 1) := by decide +kernel
theorem d_Mo_copyRow_55 : decode b_Mo_copyRow 55 = .ok (.iadd, 1) := by decide +kernel
theorem d_Mo_copyRow_56 : decode b_Mo_copyRow 56 = .ok (.iaload, 1) := by decide +kernel
theorem d_Mo_copyRow_57 : decode b_Mo_copyRow 57 = .ok (.iastore, 1) := by decide +kernel
theorem d_Mo_copyRow_58 : decode b_Mo_copyRow 58 = .ok (.iinc 3 1, 3) := by decide +kernel
theorem d_Mo_copyRow_61 : decode b_Mo_copyRow 61 = .ok (.goto (-35), 3) := by decide +kernel
theorem d_Mo_copyRow_64 : decode b_Mo_copyRow 64 = .ok (.return_, 1) := by decide +kernel
/-! Mo_compareSizes: ('CellHeapModel', 'compareSizes', '(II)I') -/
abbrev b_Mo_compareSizes : ByteArray := prog_10_method_8_code
abbrev y_Mo_compareSizes : MethodName := ⟨R_Mo, "compareSizes", "(II)I"⟩
abbrev K_Mo_compareSizes := CanI y_Mo_compareSizes b_Mo_compareSizes 5 ((some .int)) 0 0 0
theorem I_Mo_compareSizes {h : HP} {v1 : Int32} {v2 : Int32} {Φ : Int32 → HP → Prop} (body : ∀ X : CX, Cok X b_Mo_compareSizes 5 R_Mo ((some .int)) → xR X = rml 0 0 0 → Qok X 0 0 (fun r h2 => ∃ v, r = some (.int v) ∧ Φ v h2) → Wg X 0 0 h [(0, .ref 0), (1, .int v1), (2, .int v2)] [] 0) : K_Mo_compareSizes [.ref 0, .int v1, .int v2] h Φ := Can.intro (by decide) (fun _ => Nat.le_of_ble_eq_true rfl) body
theorem M_Mo_compareSizes : Mv y_Mo_compareSizes b_Mo_compareSizes 5 ((some .int)) 2 8 := ⟨wx_in 1294 (by decide +kernel) rfl, wx_in 1293 (by decide +kernel) rfl, wx_in 50 (by decide +kernel) rfl, wx_in 73 (by decide +kernel) rfl, by decide +kernel, by decide, by decide, _, _, rfl⟩
theorem d_Mo_compareSizes_0 : decode b_Mo_compareSizes 0 = .ok (.aload_n 0, 1) := by decide +kernel
theorem d_Mo_compareSizes_1 : decode b_Mo_compareSizes 1 = .ok (.getfield 35, 3) := by decide +kernel
theorem d_Mo_compareSizes_4 : decode b_Mo_compareSizes 4 = .ok (.iload_n 1, 1) := by decide +kernel
theorem d_Mo_compareSizes_5 : decode b_Mo_compareSizes 5 = .ok (.iaload, 1) := by decide +kernel
theorem d_Mo_compareSizes_6 : decode b_Mo_compareSizes 6 = .ok (.aload_n 0, 1) := by decide +kernel
theorem d_Mo_compareSizes_7 : decode b_Mo_compareSizes 7 = .ok (.getfield 35, 3) := by decide +kernel
theorem d_Mo_compareSizes_10 : decode b_Mo_compareSizes 10 = .ok (.iload_n 2, 1) := by decide +kernel
theorem d_Mo_compareSizes_11 : decode b_Mo_compareSizes 11 = .ok (.iaload, 1) := by decide +kernel
theorem d_Mo_compareSizes_12 : decode b_Mo_compareSizes 12 = .ok (.if_icmp .eq 24, 3) := by decide +kernel
theorem d_Mo_compareSizes_15 : decode b_Mo_compareSizes 15 = .ok (.aload_n 0, 1) := by decide +kernel
theorem d_Mo_compareSizes_16 : decode b_Mo_compareSizes 16 = .ok (.getfield 35, 3) := by decide +kernel
theorem d_Mo_compareSizes_19 : decode b_Mo_compareSizes 19 = .ok (.iload_n 1, 1) := by decide +kernel
theorem d_Mo_compareSizes_20 : decode b_Mo_compareSizes 20 = .ok (.iaload, 1) := by decide +kernel
theorem d_Mo_compareSizes_21 : decode b_Mo_compareSizes 21 = .ok (.aload_n 0, 1) := by decide +kernel
theorem d_Mo_compareSizes_22 : decode b_Mo_compareSizes 22 = .ok (.getfield 35, 3) := by decide +kernel
theorem d_Mo_compareSizes_25 : decode b_Mo_compareSizes 25 = .ok (.iload_n 2, 1) := by decide +kernel
theorem d_Mo_compareSizes_26 : decode b_Mo_compareSizes 26 = .ok (.iaload, 1) := by decide +kernel
theorem d_Mo_compareSizes_27 : decode b_Mo_compareSizes 27 = .ok (.if_icmp .ge 7, 3) := by decide +kernel
theorem d_Mo_compareSizes_30 : decode b_Mo_compareSizes 30 = .ok (.iconst (-1), 1) := by decide +kernel
theorem d_Mo_compareSizes_31 : decode b_Mo_compareSizes 31 = .ok (.goto 4, 3) := by decide +kernel
theorem d_Mo_compareSizes_34 : decode b_Mo_compareSizes 34 = .ok (.iconst 1, 1) := by decide +kernel
theorem d_Mo_compareSizes_35 : decode b_Mo_compareSizes 35 = .ok (.ireturn, 1) := by decide +kernel
theorem d_Mo_compareSizes_36 : decode b_Mo_compareSizes 36 = .ok (.aload_n 0, 1) := by decide +kernel
theorem d_Mo_compareSizes_37 : decode b_Mo_compareSizes 37 = .ok (.getfield 35, 3) := by decide +kernel
theorem d_Mo_compareSizes_40 : decode b_Mo_compareSizes 40 = .ok (.iload_n 1, 1) := by decide +kernel
theorem d_Mo_compareSizes_41 : decode b_Mo_compareSizes 41 = .ok (.iaload, 1) := by decide +kernel
theorem d_Mo_compareSizes_42 : decode b_Mo_compareSizes 42 = .ok (.iconst 1, 1) := by decide +kernel
theorem d_Mo_compareSizes_43 : decode b_Mo_compareSizes 43 = .ok (.isub, 1) := by decide +kernel
theorem d_Mo_compareSizes_44 : decode b_Mo_compareSizes 44 = .ok (.istore_n 3, 1) := by decide +kernel
theorem d_Mo_compareSizes_45 : decode b_Mo_compareSizes 45 = .ok (.iload_n 3, 1) := by decide +kernel
theorem d_Mo_compareSizes_46 : decode b_Mo_compareSizes 46 = .ok (.ifCond .lt 50, 3) := by decide +kernel
theorem d_Mo_compareSizes_49 : decode b_Mo_compareSizes 49 = .ok (.aload_n 0, 1) := by decide +kernel
theorem d_Mo_compareSizes_50 : decode b_Mo_compareSizes 50 = .ok (.getfield 32, 3) := by decide +kernel
theorem d_Mo_compareSizes_53 : decode b_Mo_compareSizes 53 = .ok (.bipush 100, 2) := by decide +kernel
theorem d_Mo_compareSizes_55 : decode b_Mo_compareSizes 55 = .ok (.iload_n 1, 1) := by decide +kernel
theorem d_Mo_compareSizes_56 : decode b_Mo_compareSizes 56 = .ok (.imul, 1) := by decide +kernel
theorem d_Mo_compareSizes_57 : decode b_Mo_compareSizes 57 = .ok (.iload_n 3, 1) := by decide +kernel
theorem d_Mo_compareSizes_58 : decode b_Mo_compareSizes 58 = .ok (.iadd, 1) := by decide +kernel
theorem d_Mo_compareSizes_59 : decode b_Mo_compareSizes 59 = .ok (.iaload, 1) := by decide +kernel
theorem d_Mo_compareSizes_60 : decode b_Mo_compareSizes 60 = .ok (.aload_n 0, 1) := by decide +kernel
theorem d_Mo_compareSizes_61 : decode b_Mo_compareSizes 61 = .ok (.getfield 32, 3) := by decide +kernel
theorem d_Mo_compareSizes_64 : decode b_Mo_compareSizes 64 = .ok (.bipush 100, 2) := by decide +kernel
theorem d_Mo_compareSizes_66 : decode b_Mo_compareSizes 66 = .ok (.iload_n 2, 1) := by decide +kernel
theorem d_Mo_compareSizes_67 : decode b_Mo_compareSizes 67 = .ok (.imul, 1) := by decide +kernel
theorem d_Mo_compareSizes_68 : decode b_Mo_compareSizes 68 = .ok (.iload_n 3, 1) := by decide +kernel
theorem d_Mo_compareSizes_69 : decode b_Mo_compareSizes 69 = .ok (.iadd, 1) := by decide +kernel
theorem d_Mo_compareSizes_70 : decode b_Mo_compareSizes 70 = .ok (.iaload, 1) := by decide +kernel
theorem d_Mo_compareSizes_71 : decode b_Mo_compareSizes 71 = .ok (.isub, 1) := by decide +kernel
theorem d_Mo_compareSizes_72 : decode b_Mo_compareSizes 72 = .ok (.istore 4, 2) := by decide +kernel
theorem d_Mo_compareSizes_74 : decode b_Mo_compareSizes 74 = .ok (.iload 4, 2) := by decide +kernel
theorem d_Mo_compareSizes_76 : decode b_Mo_compareSizes 76 = .ok (.ifCond .eq 14, 3) := by decide +kernel
theorem d_Mo_compareSizes_79 : decode b_Mo_compareSizes 79 = .ok (.iload 4, 2) := by decide +kernel
theorem d_Mo_compareSizes_81 : decode b_Mo_compareSizes 81 = .ok (.ifCond .ge 7, 3) := by decide +kernel
theorem d_Mo_compareSizes_84 : decode b_Mo_compareSizes 84 = .ok (.iconst (-1), 1) := by decide +kernel
theorem d_Mo_compareSizes_85 : decode b_Mo_compareSizes 85 = .ok (.goto 4, 3) := by decide +kernel
theorem d_Mo_compareSizes_88 : decode b_Mo_compareSizes 88 = .ok (.iconst 1, 1) := by decide +kernel
theorem d_Mo_compareSizes_89 : decode b_Mo_compareSizes 89 = .ok (.ireturn, 1) := by decide +kernel
theorem d_Mo_compareSizes_90 : decode b_Mo_compareSizes 90 = .ok (.iinc 3 (-1), 3) := by decide +kernel
theorem d_Mo_compareSizes_93 : decode b_Mo_compareSizes 93 = .ok (.goto (-48), 3) := by decide +kernel
theorem d_Mo_compareSizes_96 : decode b_Mo_compareSizes 96 = .ok (.iconst 0, 1) := by decide +kernel
theorem d_Mo_compareSizes_97 : decode b_Mo_compareSizes 97 = .ok (.ireturn, 1) := by decide +kernel
/-! Mo_limbOf: ('CellHeapModel', 'limbOf', '(II)I') -/
abbrev b_Mo_limbOf : ByteArray := prog_10_method_9_code
abbrev y_Mo_limbOf : MethodName := ⟨R_Mo, "limbOf", "(II)I"⟩
abbrev K_Mo_limbOf := CanI y_Mo_limbOf b_Mo_limbOf 3 ((some .int)) 0 0 0
theorem I_Mo_limbOf {h : HP} {v1 : Int32} {v2 : Int32} {Φ : Int32 → HP → Prop} (body : ∀ X : CX, Cok X b_Mo_limbOf 3 R_Mo ((some .int)) → xR X = rml 0 0 0 → Qok X 0 0 (fun r h2 => ∃ v, r = some (.int v) ∧ Φ v h2) → Wg X 0 0 h [(0, .ref 0), (1, .int v1), (2, .int v2)] [] 0) : K_Mo_limbOf [.ref 0, .int v1, .int v2] h Φ := Can.intro (by decide) (fun _ => Nat.le_of_ble_eq_true rfl) body
theorem M_Mo_limbOf : Mv y_Mo_limbOf b_Mo_limbOf 3 ((some .int)) 2 8 := ⟨wx_in 1203 (by decide +kernel) rfl, wx_in 1202 (by decide +kernel) rfl, wx_in 34 (by decide +kernel) rfl, wx_in 73 (by decide +kernel) rfl, by decide +kernel, by decide, by decide, _, _, rfl⟩
theorem d_Mo_limbOf_0 : decode b_Mo_limbOf 0 = .ok (.iload_n 2, 1) := by decide +kernel
theorem d_Mo_limbOf_1 : decode b_Mo_limbOf 1 = .ok (.aload_n 0, 1) := by decide +kernel
theorem d_Mo_limbOf_2 : decode b_Mo_limbOf 2 = .ok (.getfield 35, 3) := by decide +kernel
theorem d_Mo_limbOf_5 : decode b_Mo_limbOf 5 = .ok (.iload_n 1, 1) := by decide +kernel
theorem d_Mo_limbOf_6 : decode b_Mo_limbOf 6 = .ok (.iaload, 1) := by decide +kernel
theorem d_Mo_limbOf_7 : decode b_Mo_limbOf 7 = .ok (.if_icmp .ge 17, 3) := by decide +kernel
theorem d_Mo_limbOf_10 : decode b_Mo_limbOf 10 = .ok (.aload_n 0, 1) := by decide +kernel
theorem d_Mo_limbOf_11 : decode b_Mo_limbOf 11 = .ok (.getfield 32, 3) := by decide +kernel
theorem d_Mo_limbOf_14 : decode b_Mo_limbOf 14 = .ok (.bipush 100, 2) := by decide +kernel
theorem d_Mo_limbOf_16 : decode b_Mo_limbOf 16 = .ok (.iload_n 1, 1) := by decide +kernel
theorem d_Mo_limbOf_17 : decode b_Mo_limbOf 17 = .ok (.imul, 1) := by decide +kernel
theorem d_Mo_limbOf_18 : decode b_Mo_limbOf 18 = .ok (.iload_n 2, 1) := by decide +kernel
theorem d_Mo_limbOf_19 : decode b_Mo_limbOf 19 = .ok (.iadd, 1) := by decide +kernel
theorem d_Mo_limbOf_20 : decode b_Mo_limbOf 20 = .ok (.iaload, 1) := by decide +kernel
theorem d_Mo_limbOf_21 : decode b_Mo_limbOf 21 = .ok (.goto 4, 3) := by decide +kernel
theorem d_Mo_limbOf_24 : decode b_Mo_limbOf 24 = .ok (.iconst 0, 1) := by decide +kernel
theorem d_Mo_limbOf_25 : decode b_Mo_limbOf 25 = .ok (.ireturn, 1) := by decide +kernel
/-! Mo_addSizes: ('CellHeapModel', 'addSizes', '(III)V') -/
abbrev b_Mo_addSizes : ByteArray := prog_10_method_10_code
abbrev y_Mo_addSizes : MethodName := ⟨R_Mo, "addSizes", "(III)V"⟩
abbrev K_Mo_addSizes := CanV y_Mo_addSizes b_Mo_addSizes 8 none 1 0 0
theorem I_Mo_addSizes {h : HP} {v1 : Int32} {v2 : Int32} {v3 : Int32} {Φ : HP → Prop} (body : ∀ X : CX, Cok X b_Mo_addSizes 8 R_Mo none → xR X = rml 1 0 0 → Qok X 0 0 (fun r h2 => r = none ∧ Φ h2) → Wg X 0 0 h [(0, .ref 0), (1, .int v1), (2, .int v2), (3, .int v3)] [] 0) : K_Mo_addSizes [.ref 0, .int v1, .int v2, .int v3] h Φ := Can.intro (by decide) (fun _ => Nat.le_of_ble_eq_true rfl) body
theorem M_Mo_addSizes : Mv y_Mo_addSizes b_Mo_addSizes 8 none 3 8 := ⟨wx_in 1302 (by decide +kernel) rfl, wx_in 1301 (by decide +kernel) rfl, wx_in 52 (by decide +kernel) rfl, wx_in 73 (by decide +kernel) rfl, by decide +kernel, by decide, by decide, _, _, rfl⟩
theorem d_Mo_addSizes_0 : decode b_Mo_addSizes 0 = .ok (.aload_n 0, 1) := by decide +kernel
theorem d_Mo_addSizes_1 : decode b_Mo_addSizes 1 = .ok (.getfield 35, 3) := by decide +kernel
theorem d_Mo_addSizes_4 : decode b_Mo_addSizes 4 = .ok (.iload_n 2, 1) := by decide +kernel
theorem d_Mo_addSizes_5 : decode b_Mo_addSizes 5 = .ok (.iaload, 1) := by decide +kernel
theorem d_Mo_addSizes_6 : decode b_Mo_addSizes 6 = .ok (.aload_n 0, 1) := by decide +kernel
theorem d_Mo_addSizes_7 : decode b_Mo_addSizes 7 = .ok (.getfield 35, 3) := by decide +kernel
theorem d_Mo_addSizes_10 : decode b_Mo_addSizes 10 = .ok (.iload_n 3, 1) := by decide +kernel
theorem d_Mo_addSizes_11 : decode b_Mo_addSizes 11 = .ok (.iaload, 1) := by decide +kernel
theorem d_Mo_addSizes_12 : decode b_Mo_addSizes 12 = .ok (.if_icmp .le 12, 3) := by decide +kernel
theorem d_Mo_addSizes_15 : decode b_Mo_addSizes 15 = .ok (.aload_n 0, 1) := by decide +kernel
theorem d_Mo_addSizes_16 : decode b_Mo_addSizes 16 = .ok (.getfield 35, 3) := by decide +kernel
theorem d_Mo_addSizes_19 : decode b_Mo_addSizes 19 = .ok (.iload_n 2, 1) := by decide +kernel
theorem d_Mo_addSizes_20 : decode b_Mo_addSizes 20 = .ok (.iaload, 1) := by decide +kernel
theorem d_Mo_addSizes_21 : decode b_Mo_addSizes 21 = .ok (.goto 9, 3) := by decide +kernel
theorem d_Mo_addSizes_24 : decode b_Mo_addSizes 24 = .ok (.aload_n 0, 1) := by decide +kernel
theorem d_Mo_addSizes_25 : decode b_Mo_addSizes 25 = .ok (.getfield 35, 3) := by decide +kernel
theorem d_Mo_addSizes_28 : decode b_Mo_addSizes 28 = .ok (.iload_n 3, 1) := by decide +kernel
theorem d_Mo_addSizes_29 : decode b_Mo_addSizes 29 = .ok (.iaload, 1) := by decide +kernel
theorem d_Mo_addSizes_30 : decode b_Mo_addSizes 30 = .ok (.iconst 1, 1) := by decide +kernel
theorem d_Mo_addSizes_31 : decode b_Mo_addSizes 31 = .ok (.iadd, 1) := by decide +kernel
theorem d_Mo_addSizes_32 : decode b_Mo_addSizes 32 = .ok (.istore 4, 2) := by decide +kernel
theorem d_Mo_addSizes_34 : decode b_Mo_addSizes 34 = .ok (.iconst 0, 1) := by decide +kernel
theorem d_Mo_addSizes_35 : decode b_Mo_addSizes 35 = .ok (.istore 5, 2) := by decide +kernel
theorem d_Mo_addSizes_37 : decode b_Mo_addSizes 37 = .ok (.iconst 0, 1) := by decide +kernel
theorem d_Mo_addSizes_38 : decode b_Mo_addSizes 38 = .ok (.istore 6, 2) := by decide +kernel
theorem d_Mo_addSizes_40 : decode b_Mo_addSizes 40 = .ok (.iload 6, 2) := by decide +kernel
theorem d_Mo_addSizes_42 : decode b_Mo_addSizes 42 = .ok (.iload 4, 2) := by decide +kernel
theorem d_Mo_addSizes_44 : decode b_Mo_addSizes 44 = .ok (.if_icmp .ge 53, 3) := by decide +kernel
theorem d_Mo_addSizes_47 : decode b_Mo_addSizes 47 = .ok (.aload_n 0, 1) := by decide +kernel
theorem d_Mo_addSizes_48 : decode b_Mo_addSizes 48 = .ok (.iload_n 2, 1) := by decide +kernel
theorem d_Mo_addSizes_49 : decode b_Mo_addSizes 49 = .ok (.iload 6, 2) := by decide +kernel
theorem d_Mo_addSizes_51 : decode b_Mo_addSizes 51 = .ok (.invokevirtual 62, 3) := by decide +kernel
theorem d_Mo_addSizes_54 : decode b_Mo_addSizes 54 = .ok (.aload_n 0, 1) := by decide +kernel
theorem d_Mo_addSizes_55 : decode b_Mo_addSizes 55 = .ok (.iload_n 3, 1) := by decide +kernel
theorem d_Mo_addSizes_56 : decode b_Mo_addSizes 56 = .ok (.iload 6, 2) := by decide +kernel
theorem d_Mo_addSizes_58 : decode b_Mo_addSizes 58 = .ok (.invokevirtual 62, 3) := by decide +kernel
theorem d_Mo_addSizes_61 : decode b_Mo_addSizes 61 = .ok (.iadd, 1) := by decide +kernel
theorem d_Mo_addSizes_62 : decode b_Mo_addSizes 62 = .ok (.iload 5, 2) := by decide +kernel
theorem d_Mo_addSizes_64 : decode b_Mo_addSizes 64 = .ok (.iadd, 1) := by decide +kernel
theorem d_Mo_addSizes_65 : decode b_Mo_addSizes 65 = .ok (.istore 7, 2) := by decide +kernel
theorem d_Mo_addSizes_67 : decode b_Mo_addSizes 67 = .ok (.aload_n 0, 1) := by decide +kernel
theorem d_Mo_addSizes_68 : decode b_Mo_addSizes 68 = .ok (.getfield 32, 3) := by decide +kernel
theorem d_Mo_addSizes_71 : decode b_Mo_addSizes 71 = .ok (.bipush 100, 2) := by decide +kernel
theorem d_Mo_addSizes_73 : decode b_Mo_addSizes 73 = .ok (.iload_n 1, 1) := by decide +kernel
theorem d_Mo_addSizes_74 : decode b_Mo_addSizes 74 = .ok (.imul, 1) := by decide +kernel
theorem d_Mo_addSizes_75 : decode b_Mo_addSizes 75 = .ok (.iload 6, 2) := by decide +kernel
theorem d_Mo_addSizes_77 : decode b_Mo_addSizes 77 = .ok (.iadd, 1) := by decide +kernel
theorem d_Mo_addSizes_78 : decode b_Mo_addSizes 78 = .ok (.iload 7, 2) := by decide +kernel
theorem d_Mo_addSizes_80 : decode b_Mo_addSizes 80 = .ok (.ldc 57, 2) := by decide +kernel
theorem d_Mo_addSizes_82 : decode b_Mo_addSizes 82 = .ok (.iand, 1) := by decide +kernel
theorem d_Mo_addSizes_83 : decode b_Mo_addSizes 83 = .ok (.iastore, 1) := by decide +kernel
theorem d_Mo_addSizes_84 : decode b_Mo_addSizes 84 = .ok (.iload 7, 2) := by decide +kernel
theorem d_Mo_addSizes_86 : decode b_Mo_addSizes 86 = .ok (.bipush 16, 2) := by decide +kernel
theorem d_Mo_addSizes_88 : decode b_Mo_addSizes 88 = .ok (.ishr, 1) := by decide +kernel
theorem d_Mo_addSizes_89 : decode b_Mo_addSizes 89 = .ok (.istore 5, 2) := by decide +kernel
theorem d_Mo_addSizes_91 : decode b_Mo_addSizes 91 = .ok (.iinc 6 1, 3) := by decide +kernel
theorem d_Mo_addSizes_94 : decode b_Mo_addSizes 94 = .ok (.goto (-54), 3) := by decide +kernel
theorem d_Mo_addSizes_97 : decode b_Mo_addSizes 97 = .ok (.aload_n 0, 1) := by decide +kernel
theorem d_Mo_addSizes_98 : decode b_Mo_addSizes 98 = .ok (.getfield 35, 3) := by decide +kernel
theorem d_Mo_addSizes_101 : decode b_Mo_addSizes 101 = .ok (.iload_n 1, 1) := by decide +kernel
theorem d_Mo_addSizes_102 : decode b_Mo_addSizes 102 = .ok (.iload 4, 2) := by decide +kernel
theorem d_Mo_addSizes_104 : decode b_Mo_addSizes 104 = .ok (.iastore, 1) := by decide +kernel
theorem d_Mo_addSizes_105 : decode b_Mo_addSizes 105 = .ok (.aload_n 0, 1) := by decide +kernel
theorem d_Mo_addSizes_106 : decode b_Mo_addSizes 106 = .ok (.iload_n 1, 1) := by decide +kernel
theorem d_Mo_addSizes_107 : decode b_Mo_addSizes 107 = .ok (.invokevirtual 58, 3) := by decide +kernel
theorem d_Mo_addSizes_110 : decode b_Mo_addSizes 110 = .ok (.return_, 1) := by decide +kernel
/-! Mo_subtractSizes: ('CellHeapModel', 'subtractSizes', '(III)V') -/
abbrev b_Mo_subtractSizes : ByteArray := prog_10_method_11_code
abbrev y_Mo_subtractSizes : MethodName := ⟨R_Mo, "subtractSizes", "(III)V"⟩
abbrev K_Mo_subtractSizes := CanV y_Mo_subtractSizes b_Mo_subtractSizes 8 none 1 0 0
theorem I_Mo_subtractSizes {h : HP} {v1 : Int32} {v2 : Int32} {v3 : Int32} {Φ : HP → Prop} (body : ∀ X : CX, Cok X b_Mo_subtractSizes 8 R_Mo none → xR X = rml 1 0 0 → Qok X 0 0 (fun r h2 => r = none ∧ Φ h2) → Wg X 0 0 h [(0, .ref 0), (1, .int v1), (2, .int v2), (3, .int v3)] [] 0) : K_Mo_subtractSizes [.ref 0, .int v1, .int v2, .int v3] h Φ := Can.intro (by decide) (fun _ => Nat.le_of_ble_eq_true rfl) body
theorem M_Mo_subtractSizes : Mv y_Mo_subtractSizes b_Mo_subtractSizes 8 none 3 8 := ⟨wx_in 1298 (by decide +kernel) rfl, wx_in 1297 (by decide +kernel) rfl, wx_in 51 (by decide +kernel) rfl, wx_in 73 (by decide +kernel) rfl, by decide +kernel, by decide, by decide, _, _, rfl⟩
theorem d_Mo_subtractSizes_0 : decode b_Mo_subtractSizes 0 = .ok (.aload_n 0, 1) := by decide +kernel
theorem d_Mo_subtractSizes_1 : decode b_Mo_subtractSizes 1 = .ok (.getfield 35, 3) := by decide +kernel
theorem d_Mo_subtractSizes_4 : decode b_Mo_subtractSizes 4 = .ok (.iload_n 2, 1) := by decide +kernel
theorem d_Mo_subtractSizes_5 : decode b_Mo_subtractSizes 5 = .ok (.iaload, 1) := by decide +kernel
theorem d_Mo_subtractSizes_6 : decode b_Mo_subtractSizes 6 = .ok (.istore 4, 2) := by decide +kernel
theorem d_Mo_subtractSizes_8 : decode b_Mo_subtractSizes 8 = .ok (.iconst 0, 1) := by decide +kernel
theorem d_Mo_subtractSizes_9 : decode b_Mo_subtractSizes 9 = .ok (.istore 5, 2) := by decide +kernel
theorem d_Mo_subtractSizes_11 : decode b_Mo_subtractSizes 11 = .ok (.iconst 0, 1) := by decide +kernel
theorem d_Mo_subtractSizes_12 : decode b_Mo_subtractSizes 12 = .ok (.istore 6, 2) := by decide +kernel
theorem d_Mo_subtractSizes_14 : decode b_Mo_subtractSizes 14 = .ok (.iload 6, 2) := by decide +kernel
theorem d_Mo_subtractSizes_16 : decode b_Mo_subtractSizes 16 = .ok (.iload 4, 2) := by decide +kernel
theorem d_Mo_subtractSizes_18 : decode b_Mo_subtractSizes 18 = .ok (.if_icmp .ge 53, 3) := by decide +kernel
theorem d_Mo_subtractSizes_21 : decode b_Mo_subtractSizes 21 = .ok (.aload_n 0, 1) := by decide +kernel
theorem d_Mo_subtractSizes_22 : decode b_Mo_subtractSizes 22 = .ok (.iload_n 2, 1) := by decide +kernel
theorem d_Mo_subtractSizes_23 : decode b_Mo_subtractSizes 23 = .ok (.iload 6, 2) := by decide +kernel
theorem d_Mo_subtractSizes_25 : decode b_Mo_subtractSizes 25 = .ok (.invokevirtual 62, 3) := by decide +kernel
theorem d_Mo_subtractSizes_28 : decode b_Mo_subtractSizes 28 = .ok (.aload_n 0, 1) := by decide +kernel
theorem d_Mo_subtractSizes_29 : decode b_Mo_subtractSizes 29 = .ok (.iload_n 3, 1) := by decide +kernel
theorem d_Mo_subtractSizes_30 : decode b_Mo_subtractSizes 30 = .ok (.iload 6, 2) := by decide +kernel
theorem d_Mo_subtractSizes_32 : decode b_Mo_subtractSizes 32 = .ok (.invokevirtual 62, 3) := by decide +kernel
theorem d_Mo_subtractSizes_35 : decode b_Mo_subtractSizes 35 = .ok (.isub, 1) := by decide +kernel
theorem d_Mo_subtractSizes_36 : decode b_Mo_subtractSizes 36 = .ok (.iload 5, 2) := by decide +kernel
theorem d_Mo_subtractSizes_38 : decode b_Mo_subtractSizes 38 = .ok (.iadd, 1) := by decide +kernel
theorem d_Mo_subtractSizes_39 : decode b_Mo_subtractSizes 39 = .ok (.istore 7, 2) := by decide +kernel
theorem d_Mo_subtractSizes_41 : decode b_Mo_subtractSizes 41 = .ok (.aload_n 0, 1) := by decide +kernel
theorem d_Mo_subtractSizes_42 : decode b_Mo_subtractSizes 42 = .ok (.getfield 32, 3) := by decide +kernel
theorem d_Mo_subtractSizes_45 : decode b_Mo_subtractSizes 45 = .ok (.bipush 100, 2) := by decide +kernel
theorem d_Mo_subtractSizes_47 : decode b_Mo_subtractSizes 47 = .ok (.iload_n 1, 1) := by decide +kernel
theorem d_Mo_subtractSizes_48 : decode b_Mo_subtractSizes 48 = .ok (.imul, 1) := by decide +kernel
theorem d_Mo_subtractSizes_49 : decode b_Mo_subtractSizes 49 = .ok (.iload 6, 2) := by decide +kernel
theorem d_Mo_subtractSizes_51 : decode b_Mo_subtractSizes 51 = .ok (.iadd, 1) := by decide +kernel
theorem d_Mo_subtractSizes_52 : decode b_Mo_subtractSizes 52 = .ok (.iload 7, 2) := by decide +kernel
theorem d_Mo_subtractSizes_54 : decode b_Mo_subtractSizes 54 = .ok (.ldc 57, 2) := by decide +kernel
theorem d_Mo_subtractSizes_56 : decode b_Mo_subtractSizes 56 = .ok (.iand, 1) := by decide +kernel
theorem d_Mo_subtractSizes_57 : decode b_Mo_subtractSizes 57 = .ok (.iastore, 1) := by decide +kernel
theorem d_Mo_subtractSizes_58 : decode b_Mo_subtractSizes 58 = .ok (.iload 7, 2) := by decide +kernel
theorem d_Mo_subtractSizes_60 : decode b_Mo_subtractSizes 60 = .ok (.bipush 16, 2) := by decide +kernel
theorem d_Mo_subtractSizes_62 : decode b_Mo_subtractSizes 62 = .ok (.ishr, 1) := by decide +kernel
theorem d_Mo_subtractSizes_63 : decode b_Mo_subtractSizes 63 = .ok (.istore 5, 2) := by decide +kernel
theorem d_Mo_subtractSizes_65 : decode b_Mo_subtractSizes 65 = .ok (.iinc 6 1, 3) := by decide +kernel
theorem d_Mo_subtractSizes_68 : decode b_Mo_subtractSizes 68 = .ok (.goto (-54), 3) := by decide +kernel
theorem d_Mo_subtractSizes_71 : decode b_Mo_subtractSizes 71 = .ok (.aload_n 0, 1) := by decide +kernel
theorem d_Mo_subtractSizes_72 : decode b_Mo_subtractSizes 72 = .ok (.getfield 35, 3) := by decide +kernel
theorem d_Mo_subtractSizes_75 : decode b_Mo_subtractSizes 75 = .ok (.iload_n 1, 1) := by decide +kernel
theorem d_Mo_subtractSizes_76 : decode b_Mo_subtractSizes 76 = .ok (.iload 4, 2) := by decide +kernel
theorem d_Mo_subtractSizes_78 : decode b_Mo_subtractSizes 78 = .ok (.iastore, 1) := by decide +kernel
theorem d_Mo_subtractSizes_79 : decode b_Mo_subtractSizes 79 = .ok (.aload_n 0, 1) := by decide +kernel
theorem d_Mo_subtractSizes_80 : decode b_Mo_subtractSizes 80 = .ok (.iload_n 1, 1) := by decide +kernel
theorem d_Mo_subtractSizes_81 : decode b_Mo_subtractSizes 81 = .ok (.invokevirtual 58, 3) := by decide +kernel
theorem d_Mo_subtractSizes_84 : decode b_Mo_subtractSizes 84 = .ok (.return_, 1) := by decide +kernel
/-! Mo_sum: ('CellHeapModel', 'sum', '(IIIZ)V') -/
abbrev b_Mo_sum : ByteArray := prog_10_method_12_code
abbrev y_Mo_sum : MethodName := ⟨R_Mo, "sum", "(IIIZ)V"⟩
abbrev K_Mo_sum := CanV y_Mo_sum b_Mo_sum 7 none 2 0 0
theorem I_Mo_sum {h : HP} {v1 : Int32} {v2 : Int32} {v3 : Int32} {v4 : Int32} {Φ : HP → Prop} (body : ∀ X : CX, Cok X b_Mo_sum 7 R_Mo none → xR X = rml 2 0 0 → Qok X 0 0 (fun r h2 => r = none ∧ Φ h2) → Wg X 0 0 h [(0, .ref 0), (1, .int v1), (2, .int v2), (3, .int v3), (4, .int v4)] [] 0) : K_Mo_sum [.ref 0, .int v1, .int v2, .int v3, .int v4] h Φ := Can.intro (by decide) (fun _ => Nat.le_of_ble_eq_true rfl) body
theorem M_Mo_sum : Mv y_Mo_sum b_Mo_sum 7 none 4 8 := ⟨wx_in 1318 (by decide +kernel) rfl, wx_in 1317 (by decide +kernel) rfl, wx_in 56 (by decide +kernel) rfl, wx_in 73 (by decide +kernel) rfl, by decide +kernel, by decide, by decide, _, _, rfl⟩
theorem d_Mo_sum_0 : decode b_Mo_sum 0 = .ok (.aload_n 0, 1) := by decide +kernel
theorem d_Mo_sum_1 : decode b_Mo_sum 1 = .ok (.getfield 38, 3) := by decide +kernel
theorem d_Mo_sum_4 : decode b_Mo_sum 4 = .ok (.iload_n 2, 1) := by decide +kernel
theorem d_Mo_sum_5 : decode b_Mo_sum 5 = .ok (.baload, 1) := by decide +kernel
theorem d_Mo_sum_6 : decode b_Mo_sum 6 = .ok (.istore 5, 2) := by decide +kernel
theorem d_Mo_sum_8 : decode b_Mo_sum 8 = .ok (.aload_n 0, 1) := by decide +kernel
theorem d_Mo_sum_9 : decode b_Mo_sum 9 = .ok (.getfield 35, 3) := by decide +kernel
theorem d_Mo_sum_12 : decode b_Mo_sum 12 = .ok (.iload_n 3, 1) := by decide +kernel
theorem d_Mo_sum_13 : decode b_Mo_sum 13 = .ok (.iaload, 1) := by decide +kernel
theorem d_Mo_sum_14 : decode b_Mo_sum 14 = .ok (.ifCond .le 18, 3) := by decide +kernel
theorem d_Mo_sum_17 : decode b_Mo_sum 17 = .ok (.aload_n 0, 1) := by decide +kernel
theorem d_Mo_sum_18 : decode b_Mo_sum 18 = .ok (.getfield 38, 3) := by decide +kernel
theorem d_Mo_sum_21 : decode b_Mo_sum 21 = .ok (.iload_n 3, 1) := by decide +kernel
theorem d_Mo_sum_22 : decode b_Mo_sum 22 = .ok (.baload, 1) := by decide +kernel
theorem d_Mo_sum_23 : decode b_Mo_sum 23 = .ok (.iload 4, 2) := by decide +kernel
theorem d_Mo_sum_25 : decode b_Mo_sum 25 = .ok (.if_icmp .eq 7, 3) := by decide +kernel
theorem d_Mo_sum_28 : decode b_Mo_sum 28 = .ok (.iconst 1, 1) := by decide +kernel
theorem d_Mo_sum_29 : decode b_Mo_sum 29 = .ok (.goto 4, 3) := by decide +kernel
theorem d_Mo_sum_32 : decode b_Mo_sum 32 = .ok (.iconst 0, 1) := by decide +kernel
theorem d_Mo_sum_33 : decode b_Mo_sum 33 = .ok (.istore 6, 2) := by decide +kernel
theorem d_Mo_sum_35 : decode b_Mo_sum 35 = .ok (.iload 5, 2) := by decide +kernel
theorem d_Mo_sum_37 : decode b_Mo_sum 37 = .ok (.iload 6, 2) := by decide +kernel
theorem d_Mo_sum_39 : decode b_Mo_sum 39 = .ok (.if_icmp .eq 12, 3) := by decide +kernel
theorem d_Mo_sum_42 : decode b_Mo_sum 42 = .ok (.aload_n 0, 1) := by decide +kernel
theorem d_Mo_sum_43 : decode b_Mo_sum 43 = .ok (.getfield 35, 3) := by decide +kernel
theorem d_Mo_sum_46 : decode b_Mo_sum 46 = .ok (.iload_n 3, 1) := by decide +kernel
theorem d_Mo_sum_47 : decode b_Mo_sum 47 = .ok (.iaload, 1) := by decide +kernel
theorem d_Mo_sum_48 : decode b_Mo_sum 48 = .ok (.ifCond .ne 38, 3) := by decide +kernel
theorem d_Mo_sum_51 : decode b_Mo_sum 51 = .ok (.aload_n 0, 1) := by decide +kernel
theorem d_Mo_sum_52 : decode b_Mo_sum 52 = .ok (.iload_n 1, 1) := by decide +kernel
theorem d_Mo_sum_53 : decode b_Mo_sum 53 = .ok (.iload_n 2, 1) := by decide +kernel
theorem d_Mo_sum_54 : decode b_Mo_sum 54 = .ok (.iload_n 3, 1) := by decide +kernel
theorem d_Mo_sum_55 : decode b_Mo_sum 55 = .ok (.invokevirtual 66, 3) := by decide +kernel
theorem d_Mo_sum_58 : decode b_Mo_sum 58 = .ok (.aload_n 0, 1) := by decide +kernel
theorem d_Mo_sum_59 : decode b_Mo_sum 59 = .ok (.getfield 38, 3) := by decide +kernel
theorem d_Mo_sum_62 : decode b_Mo_sum 62 = .ok (.iload_n 1, 1) := by decide +kernel
theorem d_Mo_sum_63 : decode b_Mo_sum 63 = .ok (.aload_n 0, 1) := by decide +kernel
theorem d_Mo_sum_64 : decode b_Mo_sum 64 = .ok (.getfield 35, 3) := by decide +kernel
theorem d_Mo_sum_67 : decode b_Mo_sum 67 = .ok (.iload_n 1, 1) := by decide +kernel
theorem d_Mo_sum_68 : decode b_Mo_sum 68 = .ok (.iaload, 1) := by decide +kernel
theorem d_Mo_sum_69 : decode b_Mo_sum 69 = .ok (.ifCond .le 12, 3) := by decide +kernel
theorem d_Mo_sum_72 : decode b_Mo_sum 72 = .ok (.iload 5, 2) := by decide +kernel
theorem d_Mo_sum_74 : decode b_Mo_sum 74 = .ok (.ifCond .eq 7, 3) := by decide +kernel
theorem d_Mo_sum_77 : decode b_Mo_sum 77 = .ok (.iconst 1, 1) := by decide +kernel
theorem d_Mo_sum_78 : decode b_Mo_sum 78 = .ok (.goto 4, 3) := by decide +kernel
theorem d_Mo_sum_81 : decode b_Mo_sum 81 = .ok (.iconst 0, 1) := by decide +kernel
theorem d_Mo_sum_82 : decode b_Mo_sum 82 = .ok (.bastore, 1) := by decide +kernel
theorem d_Mo_sum_83 : decode b_Mo_sum 83 = .ok (.goto 106, 3) := by decide +kernel
theorem d_Mo_sum_86 : decode b_Mo_sum 86 = .ok (.aload_n 0, 1) := by decide +kernel
theorem d_Mo_sum_87 : decode b_Mo_sum 87 = .ok (.getfield 35, 3) := by decide +kernel
theorem d_Mo_sum_90 : decode b_Mo_sum 90 = .ok (.iload_n 2, 1) := by decide +kernel
theorem d_Mo_sum_91 : decode b_Mo_sum 91 = .ok (.iaload, 1) := by decide +kernel
theorem d_Mo_sum_92 : decode b_Mo_sum 92 = .ok (.ifCond .ne 38, 3) := by decide +kernel
theorem d_Mo_sum_95 : decode b_Mo_sum 95 = .ok (.aload_n 0, 1) := by decide +kernel
theorem d_Mo_sum_96 : decode b_Mo_sum 96 = .ok (.iload_n 1, 1) := by decide +kernel
theorem d_Mo_sum_97 : decode b_Mo_sum 97 = .ok (.iload_n 2, 1) := by decide +kernel
theorem d_Mo_sum_98 : decode b_Mo_sum 98 = .ok (.iload_n 3, 1) := by decide +kernel
theorem d_Mo_sum_99 : decode b_Mo_sum 99 = .ok (.invokevirtual 66, 3) := by decide +kernel
theorem d_Mo_sum_102 : decode b_Mo_sum 102 = .ok (.aload_n 0, 1) := by decide +kernel
theorem d_Mo_sum_103 : decode b_Mo_sum 103 = .ok (.getfield 38, 3) := by decide +kernel
theorem d_Mo_sum_106 : decode b_Mo_sum 106 = .ok (.iload_n 1, 1) := by decide +kernel
theorem d_Mo_sum_107 : decode b_Mo_sum 107 = .ok (.aload_n 0, 1) := by decide +kernel
theorem d_Mo_sum_108 : decode b_Mo_sum 108 = .ok (.getfield 35, 3) := by decide +kernel
theorem d_Mo_sum_111 : decode b_Mo_sum 111 = .ok (.iload_n 1, 1) := by decide +kernel
theorem d_Mo_sum_112 : decode b_Mo_sum 112 = .ok (.iaload, 1) := by decide +kernel
theorem d_Mo_sum_113 : decode b_Mo_sum 113 = .ok (.ifCond .le 12, 3) := by decide +kernel
theorem d_Mo_sum_116 : decode b_Mo_sum 116 = .ok (.iload 6, 2) := by decide +kernel
theorem d_Mo_sum_118 : decode b_Mo_sum 118 = .ok (.ifCond .eq 7, 3) := by decide +kernel
theorem d_Mo_sum_121 : decode b_Mo_sum 121 = .ok (.iconst 1, 1) := by decide +kernel
theorem d_Mo_sum_122 : decode b_Mo_sum 122 = .ok (.goto 4, 3) := by decide +kernel
theorem d_Mo_sum_125 : decode b_Mo_sum 125 = .ok (.iconst 0, 1) := by decide +kernel
theorem d_Mo_sum_126 : decode b_Mo_sum 126 = .ok (.bastore, 1) := by decide +kernel
theorem d_Mo_sum_127 : decode b_Mo_sum 127 = .ok (.goto 62, 3) := by decide +kernel
theorem d_Mo_sum_130 : decode b_Mo_sum 130 = .ok (.aload_n 0, 1) := by decide +kernel
theorem d_Mo_sum_131 : decode b_Mo_sum 131 = .ok (.iload_n 2, 1) := by decide +kernel
theorem d_Mo_sum_132 : decode b_Mo_sum 132 = .ok (.iload_n 3, 1) := by decide +kernel
theorem d_Mo_sum_133 : decode b_Mo_sum 133 = .ok (.invokevirtual 70, 3) := by decide +kernel
theorem d_Mo_sum_136 : decode b_Mo_sum 136 = .ok (.ifCond .lt 38, 3) := by decide +kernel
theorem d_Mo_sum_139 : decode b_Mo_sum 139 = .ok (.aload_n 0, 1) := by decide +kernel
theorem d_Mo_sum_140 : decode b_Mo_sum 140 = .ok (.iload_n 1, 1) := by decide +kernel
theorem d_Mo_sum_141 : decode b_Mo_sum 141 = .ok (.iload_n 2, 1) := by decide +kernel
theorem d_Mo_sum_142 : decode b_Mo_sum 142 = .ok (.iload_n 3, 1) := by decide +kernel
theorem d_Mo_sum_143 : decode b_Mo_sum 143 = .ok (.invokevirtual 73, 3) := by decide +kernel
theorem d_Mo_sum_146 : decode b_Mo_sum 146 = .ok (.aload_n 0, 1) := by decide +kernel
theorem d_Mo_sum_147 : decode b_Mo_sum 147 = .ok (.getfield 38, 3) := by decide +kernel
theorem d_Mo_sum_150 : decode b_Mo_sum 150 = .ok (.iload_n 1, 1) := by decide +kernel
theorem d_Mo_sum_151 : decode b_Mo_sum 151 = .ok (.aload_n 0, 1) := by decide +kernel
theorem d_Mo_sum_152 : decode b_Mo_sum 152 = .ok (.getfield 35, 3) := by decide +kernel
theorem d_Mo_sum_155 : decode b_Mo_sum 155 = .ok (.iload_n 1, 1) := by decide +kernel
theorem d_Mo_sum_156 : decode b_Mo_sum 156 = .ok (.iaload, 1) := by decide +kernel
theorem d_Mo_sum_157 : decode b_Mo_sum 157 = .ok (.ifCond .le 12, 3) := by decide +kernel
theorem d_Mo_sum_160 : decode b_Mo_sum 160 = .ok (.iload 5, 2) := by decide +kernel
theorem d_Mo_sum_162 : decode b_Mo_sum 162 = .ok (.ifCond .eq 7, 3) := by decide +kernel
theorem d_Mo_sum_165 : decode b_Mo_sum 165 = .ok (.iconst 1, 1) := by decide +kernel
theorem d_Mo_sum_166 : decode b_Mo_sum 166 = .ok (.goto 4, 3) := by decide +kernel
theorem d_Mo_sum_169 : decode b_Mo_sum 169 = .ok (.iconst 0, 1) := by decide +kernel
theorem d_Mo_sum_170 : decode b_Mo_sum 170 = .ok (.bastore, 1) := by decide +kernel
theorem d_Mo_sum_171 : decode b_Mo_sum 171 = .ok (.goto 18, 3) := by decide +kernel
theorem d_Mo_sum_174 : decode b_Mo_sum 174 = .ok (.aload_n 0, 1) := by decide +kernel
theorem d_Mo_sum_175 : decode b_Mo_sum 175 = .ok (.iload_n 1, 1) := by decide +kernel
theorem d_Mo_sum_176 : decode b_Mo_sum 176 = .ok (.iload_n 3, 1) := by decide +kernel
theorem d_Mo_sum_177 : decode b_Mo_sum 177 = .ok (.iload_n 2, 1) := by decide +kernel
theorem d_Mo_sum_178 : decode b_Mo_sum 178 = .ok (.invokevirtual 73, 3) := by decide +kernel
theorem d_Mo_sum_181 : decode b_Mo_sum 181 = .ok (.aload_n 0, 1) := by decide +kernel
theorem d_Mo_sum_182 : decode b_Mo_sum 182 = .ok (.getfield 38, 3) := by decide +kernel
theorem d_Mo_sum_185 : decode b_Mo_sum 185 = .ok (.iload_n 1, 1) := by decide +kernel
theorem d_Mo_sum_186 : decode b_Mo_sum 186 = .ok (.iload 6, 2) := by decide +kernel
theorem d_Mo_sum_188 : decode b_Mo_sum 188 = .ok (.bastore, 1) := by decide +kernel
theorem d_Mo_sum_189 : decode b_Mo_sum 189 = .ok (.return_, 1) := by decide +kernel
/-! Mo_product: ('CellHeapModel', 'product', '(III)V') -/
abbrev b_Mo_product : ByteArray := prog_10_method_13_code
abbrev y_Mo_product : MethodName := ⟨R_Mo, "product", "(III)V"⟩
abbrev K_Mo_product := CanV y_Mo_product b_Mo_product 12 none 1 0 0
theorem I_Mo_product {h : HP} {v1 : Int32} {v2 : Int32} {v3 : Int32} {Φ : HP → Prop} (body : ∀ X : CX, Cok X b_Mo_product 12 R_Mo none → xR X = rml 1 0 0 → Qok X 0 0 (fun r h2 => r = none ∧ Φ h2) → Wg X 0 0 h [(0, .ref 0), (1, .int v1), (2, .int v2), (3, .int v3)] [] 0) : K_Mo_product [.ref 0, .int v1, .int v2, .int v3] h Φ := Can.intro (by decide) (fun _ => Nat.le_of_ble_eq_true rfl) body
theorem M_Mo_product : Mv y_Mo_product b_Mo_product 12 none 3 8 := ⟨wx_in 1314 (by decide +kernel) rfl, wx_in 1313 (by decide +kernel) rfl, wx_in 55 (by decide +kernel) rfl, wx_in 73 (by decide +kernel) rfl, by decide +kernel, by decide, by decide, _, _, rfl⟩
theorem d_Mo_product_0 : decode b_Mo_product 0 = .ok (.aload_n 0, 1) := by decide +kernel
theorem d_Mo_product_1 : decode b_Mo_product 1 = .ok (.getfield 35, 3) := by decide +kernel
theorem d_Mo_product_4 : decode b_Mo_product 4 = .ok (.iload_n 2, 1) := by decide +kernel
theorem d_Mo_product_5 : decode b_Mo_product 5 = .ok (.iaload, 1) := by decide +kernel
theorem d_Mo_product_6 : decode b_Mo_product 6 = .ok (.aload_n 0, 1) := by decide +kernel
theorem d_Mo_product_7 : decode b_Mo_product 7 = .ok (.getfield 35, 3) := by decide +kernel
theorem d_Mo_product_10 : decode b_Mo_product 10 = .ok (.iload_n 3, 1) := by decide +kernel
theorem d_Mo_product_11 : decode b_Mo_product 11 = .ok (.iaload, 1) := by decide +kernel
theorem d_Mo_product_12 : decode b_Mo_product 12 = .ok (.iadd, 1) := by decide +kernel
theorem d_Mo_product_13 : decode b_Mo_product 13 = .ok (.istore 4, 2) := by decide +kernel
theorem d_Mo_product_15 : decode b_Mo_product 15 = .ok (.iconst 0, 1) := by decide +kernel
theorem d_Mo_product_16 : decode b_Mo_product 16 = .ok (.istore 5, 2) := by decide +kernel
theorem d_Mo_product_18 : decode b_Mo_product 18 = .ok (.iload 5, 2) := by decide +kernel
theorem d_Mo_product_20 : decode b_Mo_product 20 = .ok (.iload 4, 2) := by decide +kernel
theorem d_Mo_product_22 : decode b_Mo_product 22 = .ok (.if_icmp .ge 22, 3) := by decide +kernel
theorem d_Mo_product_25 : decode b_Mo_product 25 = .ok (.aload_n 0, 1) := by decide +kernel
theorem d_Mo_product_26 : decode b_Mo_product 26 = .ok (.getfield 32, 3) := by decide +kernel
theorem d_Mo_product_29 : decode b_Mo_product 29 = .ok (.bipush 100, 2) := by decide +kernel
theorem d_Mo_product_31 : decode b_Mo_product 31 = .ok (.iload_n 1, 1) := by decide +kernel
theorem d_Mo_product_32 : decode b_Mo_product 32 = .ok (.imul, 1) := by decide +kernel
theorem d_Mo_product_33 : decode b_Mo_product 33 = .ok (.iload 5, 2) := by decide +kernel
theorem d_Mo_product_35 : decode b_Mo_product 35 = .ok (.iadd, 1) := by decide +kernel
theorem d_Mo_product_36 : decode b_Mo_product 36 = .ok (.iconst 0, 1) := by decide +kernel
theorem d_Mo_product_37 : decode b_Mo_product 37 = .ok (.iastore, 1) := by decide +kernel
theorem d_Mo_product_38 : decode b_Mo_product 38 = .ok (.iinc 5 1, 3) := by decide +kernel
theorem d_Mo_product_41 : decode b_Mo_product 41 = .ok (.goto (-23), 3) := by decide +kernel
theorem d_Mo_product_44 : decode b_Mo_product 44 = .ok (.iconst 0, 1) := by decide +kernel
theorem d_Mo_product_45 : decode b_Mo_product 45 = .ok (.istore 5, 2) := by decide +kernel
theorem d_Mo_product_47 : decode b_Mo_product 47 = .ok (.iload 5, 2) := by decide +kernel
theorem d_Mo_product_49 : decode b_Mo_product 49 = .ok (.aload_n 0, 1) := by decide +kernel
theorem d_Mo_product_50 : decode b_Mo_product 50 = .ok (.getfield 35, 3) := by decide +kernel
theorem d_Mo_product_53 : decode b_Mo_product 53 = .ok (.iload_n 2, 1) := by decide +kernel
theorem d_Mo_product_54 : decode b_Mo_product 54 = .ok (.iaload, 1) := by decide +kernel
theorem d_Mo_product_55 : decode b_Mo_product 55 = .ok (.if_icmp .ge 108, 3) := by decide +kernel
theorem d_Mo_product_58 : decode b_Mo_product 58 = .ok (.lconst 0, 1) := by decide +kernel
theorem d_Mo_product_59 : decode b_Mo_product 59 = .ok (.lstore 6, 2) := by decide +kernel
theorem d_Mo_product_61 : decode b_Mo_product 61 = .ok (.iconst 0, 1) := by decide +kernel
theorem d_Mo_product_62 : decode b_Mo_product 62 = .ok (.istore 8, 2) := by decide +kernel
theorem d_Mo_product_64 : decode b_Mo_product 64 = .ok (.iload 8, 2) := by decide +kernel
theorem d_Mo_product_66 : decode b_Mo_product 66 = .ok (.aload_n 0, 1) := by decide +kernel
theorem d_Mo_product_67 : decode b_Mo_product 67 = .ok (.getfield 35, 3) := by decide +kernel
theorem d_Mo_product_70 : decode b_Mo_product 70 = .ok (.iload_n 3, 1) := by decide +kernel
theorem d_Mo_product_71 : decode b_Mo_product 71 = .ok (.iaload, 1) := by decide +kernel
theorem d_Mo_product_72 : decode b_Mo_product 72 = .ok (.if_icmp .lt 10, 3) := by decide +kernel
theorem d_Mo_product_75 : decode b_Mo_product 75 = .ok (.lload 6, 2) := by decide +kernel
theorem d_Mo_product_77 : decode b_Mo_product 77 = .ok (.lconst 0, 1) := by decide +kernel
theorem d_Mo_product_78 : decode b_Mo_product 78 = .ok (.lcmp, 1) := by decide +kernel
theorem d_Mo_product_79 : decode b_Mo_product 79 = .ok (.ifCond .le 78, 3) := by decide +kernel
theorem d_Mo_product_82 : decode b_Mo_product 82 = .ok (.bipush 100, 2) := by decide +kernel
theorem d_Mo_product_84 : decode b_Mo_product 84 = .ok (.iload_n 1, 1) := by decide +kernel
theorem d_Mo_product_85 : decode b_Mo_product 85 = .ok (.imul, 1) := by decide +kernel
theorem d_Mo_product_86 : decode b_Mo_product 86 = .ok (.iload 5, 2) := by decide +kernel
theorem d_Mo_product_88 : decode b_Mo_product 88 = .ok (.iadd, 1) := by decide +kernel
theorem d_Mo_product_89 : decode b_Mo_product 89 = .ok (.iload 8, 2) := by decide +kernel
theorem d_Mo_product_91 : decode b_Mo_product 91 = .ok (.iadd, 1) := by decide +kernel
theorem d_Mo_product_92 : decode b_Mo_product 92 = .ok (.istore 9, 2) := by decide +kernel
theorem d_Mo_product_94 : decode b_Mo_product 94 = .ok (.aload_n 0, 1) := by decide +kernel
theorem d_Mo_product_95 : decode b_Mo_product 95 = .ok (.getfield 32, 3) := by decide +kernel
theorem d_Mo_product_98 : decode b_Mo_product 98 = .ok (.bipush 100, 2) := by decide +kernel
theorem d_Mo_product_100 : decode b_Mo_product 100 = .ok (.iload_n 2, 1) := by decide +kernel
theorem d_Mo_product_101 : decode b_Mo_product 101 = .ok (.imul, 1) := by decide +kernel
theorem d_Mo_product_102 : decode b_Mo_product 102 = .ok (.iload 5, 2) := by decide +kernel
theorem d_Mo_product_104 : decode b_Mo_product 104 = .ok (.iadd, 1) := by decide +kernel
theorem d_Mo_product_105 : decode b_Mo_product 105 = .ok (.iaload, 1) := by decide +kernel
theorem d_Mo_product_106 : decode b_Mo_product 106 = .ok (.i2l, 1) := by decide +kernel
theorem d_Mo_product_107 : decode b_Mo_product 107 = .ok (.aload_n 0, 1) := by decide +kernel
theorem d_Mo_product_108 : decode b_Mo_product 108 = .ok (.iload_n 3, 1) := by decide +kernel
theorem d_Mo_product_109 : decode b_Mo_product 109 = .ok (.iload 8, 2) := by decide +kernel
theorem d_Mo_product_111 : decode b_Mo_product 111 = .ok (.invokevirtual 62, 3) := by decide +kernel
theorem d_Mo_product_114 : decode b_Mo_product 114 = .ok (.i2l, 1) := by decide +kernel
theorem d_Mo_product_115 : decode b_Mo_product 115 = .ok (.lmul, 1) := by decide +kernel
theorem d_Mo_product_116 : decode b_Mo_product 116 = .ok (.aload_n 0, 1) := by decide +kernel
theorem d_Mo_product_117 : decode b_Mo_product 117 = .ok (.getfield 32, 3) := by decide +kernel
theorem d_Mo_product_120 : decode b_Mo_product 120 = .ok (.iload 9, 2) := by decide +kernel
theorem d_Mo_product_122 : decode b_Mo_product 122 = .ok (.iaload, 1) := by decide +kernel
theorem d_Mo_product_123 : decode b_Mo_product 123 = .ok (.i2l, 1) := by decide +kernel
theorem d_Mo_product_124 : decode b_Mo_product 124 = .ok (.ladd, 1) := by decide +kernel
theorem d_Mo_product_125 : decode b_Mo_product 125 = .ok (.lload 6, 2) := by decide +kernel
theorem d_Mo_product_127 : decode b_Mo_product 127 = .ok (.ladd, 1) := by decide +kernel
theorem d_Mo_product_128 : decode b_Mo_product 128 = .ok (.lstore 10, 2) := by decide +kernel
theorem d_Mo_product_130 : decode b_Mo_product 130 = .ok (.aload_n 0, 1) := by decide +kernel
theorem d_Mo_product_131 : decode b_Mo_product 131 = .ok (.getfield 32, 3) := by decide +kernel
theorem d_Mo_product_134 : decode b_Mo_product 134 = .ok (.iload 9, 2) := by decide +kernel
theorem d_Mo_product_136 : decode b_Mo_product 136 = .ok (.lload 10, 2) := by decide +kernel
theorem d_Mo_product_138 : decode b_Mo_product 138 = .ok (.ldc2_w 55, 3) := by decide +kernel
theorem d_Mo_product_141 : decode b_Mo_product 141 = .ok (.land, 1) := by decide +kernel
theorem d_Mo_product_142 : decode b_Mo_product 142 = .ok (.l2i, 1) := by decide +kernel
theorem d_Mo_product_143 : decode b_Mo_product 143 = .ok (.iastore, 1) := by decide +kernel
theorem d_Mo_product_144 : decode b_Mo_product 144 = .ok (.lload 10, 2) := by decide +kernel
theorem d_Mo_product_146 : decode b_Mo_product 146 = .ok (.bipush 16, 2) := by decide +kernel
theorem d_Mo_product_148 : decode b_Mo_product 148 = .ok (.lshr, 1) := by decide +kernel
theorem d_Mo_product_149 : decode b_Mo_product 149 = .ok (.lstore 6, 2) := by decide +kernel
theorem d_Mo_product_151 : decode b_Mo_product 151 = .ok (.iinc 8 1, 3) := by decide +kernel
theorem d_Mo_product_154 : decode b_Mo_product 154 = .ok (.goto (-90), 3) := by decide +kernel
theorem d_Mo_product_157 : decode b_Mo_product 157 = .ok (.iinc 5 1, 3) := by decide +kernel
theorem d_Mo_product_160 : decode b_Mo_product 160 = .ok (.goto (-113), 3) := by decide +kernel
theorem d_Mo_product_163 : decode b_Mo_product 163 = .ok (.aload_n 0, 1) := by decide +kernel
theorem d_Mo_product_164 : decode b_Mo_product 164 = .ok (.getfield 35, 3) := by decide +kernel
theorem d_Mo_product_167 : decode b_Mo_product 167 = .ok (.iload_n 1, 1) := by decide +kernel
theorem d_Mo_product_168 : decode b_Mo_product 168 = .ok (.iload 4, 2) := by decide +kernel
theorem d_Mo_product_170 : decode b_Mo_product 170 = .ok (.iastore, 1) := by decide +kernel
theorem d_Mo_product_171 : decode b_Mo_product 171 = .ok (.aload_n 0, 1) := by decide +kernel
theorem d_Mo_product_172 : decode b_Mo_product 172 = .ok (.getfield 38, 3) := by decide +kernel
theorem d_Mo_product_175 : decode b_Mo_product 175 = .ok (.iload_n 1, 1) := by decide +kernel
theorem d_Mo_product_176 : decode b_Mo_product 176 = .ok (.aload_n 0, 1) := by decide +kernel
theorem d_Mo_product_177 : decode b_Mo_product 177 = .ok (.getfield 38, 3) := by decide +kernel
theorem d_Mo_product_180 : decode b_Mo_product 180 = .ok (.iload_n 2, 1) := by decide +kernel
theorem d_Mo_product_181 : decode b_Mo_product 181 = .ok (.baload, 1) := by decide +kernel
theorem d_Mo_product_182 : decode b_Mo_product 182 = .ok (.aload_n 0, 1) := by decide +kernel
theorem d_Mo_product_183 : decode b_Mo_product 183 = .ok (.getfield 38, 3) := by decide +kernel
theorem d_Mo_product_186 : decode b_Mo_product 186 = .ok (.iload_n 3, 1) := by decide +kernel
theorem d_Mo_product_187 : decode b_Mo_product 187 = .ok (.baload, 1) := by decide +kernel
theorem d_Mo_product_188 : decode b_Mo_product 188 = .ok (.if_icmp .eq 7, 3) := by decide +kernel
theorem d_Mo_product_191 : decode b_Mo_product 191 = .ok (.iconst 1, 1) := by decide +kernel
theorem d_Mo_product_192 : decode b_Mo_product 192 = .ok (.goto 4, 3) := by decide +kernel
theorem d_Mo_product_195 : decode b_Mo_product 195 = .ok (.iconst 0, 1) := by decide +kernel
theorem d_Mo_product_196 : decode b_Mo_product 196 = .ok (.bastore, 1) := by decide +kernel
theorem d_Mo_product_197 : decode b_Mo_product 197 = .ok (.aload_n 0, 1) := by decide +kernel
theorem d_Mo_product_198 : decode b_Mo_product 198 = .ok (.iload_n 1, 1) := by decide +kernel
theorem d_Mo_product_199 : decode b_Mo_product 199 = .ok (.invokevirtual 58, 3) := by decide +kernel
theorem d_Mo_product_202 : decode b_Mo_product 202 = .ok (.return_, 1) := by decide +kernel
/-! Mo_bitsOf: ('CellHeapModel', 'bitsOf', '(I)I') -/
abbrev b_Mo_bitsOf : ByteArray := prog_10_method_14_code
abbrev y_Mo_bitsOf : MethodName := ⟨R_Mo, "bitsOf", "(I)I"⟩
abbrev K_Mo_bitsOf := CanI y_Mo_bitsOf b_Mo_bitsOf 4 ((some .int)) 0 0 0
theorem I_Mo_bitsOf {h : HP} {v1 : Int32} {Φ : Int32 → HP → Prop} (body : ∀ X : CX, Cok X b_Mo_bitsOf 4 R_Mo ((some .int)) → xR X = rml 0 0 0 → Qok X 0 0 (fun r h2 => ∃ v, r = some (.int v) ∧ Φ v h2) → Wg X 0 0 h [(0, .ref 0), (1, .int v1)] [] 0) : K_Mo_bitsOf [.ref 0, .int v1] h Φ := Can.intro (by decide) (fun _ => Nat.le_of_ble_eq_true rfl) body
theorem M_Mo_bitsOf : Mv y_Mo_bitsOf b_Mo_bitsOf 4 ((some .int)) 1 8 := ⟨wx_in 1191 (by decide +kernel) rfl, wx_in 1190 (by decide +kernel) rfl, wx_in 31 (by decide +kernel) rfl, wx_in 73 (by decide +kernel) rfl, by decide +kernel, by decide, by decide, _, _, rfl⟩
theorem d_Mo_bitsOf_0 : decode b_Mo_bitsOf 0 = .ok (.aload_n 0, 1) := by decide +kernel
theorem d_Mo_bitsOf_1 : decode b_Mo_bitsOf 1 = .ok (.getfield 35, 3) := by decide +kernel
theorem d_Mo_bitsOf_4 : decode b_Mo_bitsOf 4 = .ok (.iload_n 1, 1) := by decide +kernel
theorem d_Mo_bitsOf_5 : decode b_Mo_bitsOf 5 = .ok (.iaload, 1) := by decide +kernel
theorem d_Mo_bitsOf_6 : decode b_Mo_bitsOf 6 = .ok (.ifCond .ne 5, 3) := by decide +kernel
theorem d_Mo_bitsOf_9 : decode b_Mo_bitsOf 9 = .ok (.iconst 0, 1) := by decide +kernel
theorem d_Mo_bitsOf_10 : decode b_Mo_bitsOf 10 = .ok (.ireturn, 1) := by decide +kernel
theorem d_Mo_bitsOf_11 : decode b_Mo_bitsOf 11 = .ok (.bipush 16, 2) := by decide +kernel
theorem d_Mo_bitsOf_13 : decode b_Mo_bitsOf 13 = .ok (.aload_n 0, 1) := by decide +kernel
theorem d_Mo_bitsOf_14 : decode b_Mo_bitsOf 14 = .ok (.getfield 35, 3) := by decide +kernel
theorem d_Mo_bitsOf_17 : decode b_Mo_bitsOf 17 = .ok (.iload_n 1, 1) := by decide +kernel
theorem d_Mo_bitsOf_18 : decode b_Mo_bitsOf 18 = .ok (.iaload, 1) := by decide +kernel
theorem d_Mo_bitsOf_19 : decode b_Mo_bitsOf 19 = .ok (.iconst 1, 1) := by decide +kernel
theorem d_Mo_bitsOf_20 : decode b_Mo_bitsOf 20 = .ok (.isub, 1) := by decide +kernel
theorem d_Mo_bitsOf_21 : decode b_Mo_bitsOf 21 = .ok (.imul, 1) := by decide +kernel
theorem d_Mo_bitsOf_22 : decode b_Mo_bitsOf 22 = .ok (.istore_n 2, 1) := by decide +kernel
theorem d_Mo_bitsOf_23 : decode b_Mo_bitsOf 23 = .ok (.aload_n 0, 1) := by decide +kernel
theorem d_Mo_bitsOf_24 : decode b_Mo_bitsOf 24 = .ok (.getfield 32, 3) := by decide +kernel
theorem d_Mo_bitsOf_27 : decode b_Mo_bitsOf 27 = .ok (.bipush 100, 2) := by decide +kernel
theorem d_Mo_bitsOf_29 : decode b_Mo_bitsOf 29 = .ok (.iload_n 1, 1) := by decide +kernel
theorem d_Mo_bitsOf_30 : decode b_Mo_bitsOf 30 = .ok (.imul, 1) := by decide +kernel
theorem d_Mo_bitsOf_31 : decode b_Mo_bitsOf 31 = .ok (.aload_n 0, 1) := by decide +kernel
theorem d_Mo_bitsOf_32 : decode b_Mo_bitsOf 32 = .ok (.getfield 35, 3) := by decide +kernel
theorem d_Mo_bitsOf_35 : decode b_Mo_bitsOf 35 = .ok (.iload_n 1, 1) := by decide +kernel
theorem d_Mo_bitsOf_36 : decode b_Mo_bitsOf 36 = .ok (.iaload, 1) := by decide +kernel
theorem d_Mo_bitsOf_37 : decode b_Mo_bitsOf 37 = .ok (.iadd, 1) := by decide +kernel
theorem d_Mo_bitsOf_38 : decode b_Mo_bitsOf 38 = .ok (.iconst 1, 1) := by decide +kernel
theorem d_Mo_bitsOf_39 : decode b_Mo_bitsOf 39 = .ok (.isub, 1) := by decide +kernel
theorem d_Mo_bitsOf_40 : decode b_Mo_bitsOf 40 = .ok (.iaload, 1) := by decide +kernel
theorem d_Mo_bitsOf_41 : decode b_Mo_bitsOf 41 = .ok (.istore_n 3, 1) := by decide +kernel
theorem d_Mo_bitsOf_42 : decode b_Mo_bitsOf 42 = .ok (.iload_n 3, 1) := by decide +kernel
theorem d_Mo_bitsOf_43 : decode b_Mo_bitsOf 43 = .ok (.ifCond .le 13, 3) := by decide +kernel
theorem d_Mo_bitsOf_46 : decode b_Mo_bitsOf 46 = .ok (.iinc 2 1, 3) := by decide +kernel
theorem d_Mo_bitsOf_49 : decode b_Mo_bitsOf 49 = .ok (.iload_n 3, 1) := by decide +kernel
theorem d_Mo_bitsOf_50 : decode b_Mo_bitsOf 50 = .ok (.iconst 1, 1) := by decide +kernel
theorem d_Mo_bitsOf_51 : decode b_Mo_bitsOf 51 = .ok (.ishr, 1) := by decide +kernel
theorem d_Mo_bitsOf_52 : decode b_Mo_bitsOf 52 = .ok (.istore_n 3, 1) := by decide +kernel
theorem d_Mo_bitsOf_53 : decode b_Mo_bitsOf 53 = .ok (.goto (-11), 3) := by decide +kernel
theorem d_Mo_bitsOf_56 : decode b_Mo_bitsOf 56 = .ok (.iload_n 2, 1) := by decide +kernel
theorem d_Mo_bitsOf_57 : decode b_Mo_bitsOf 57 = .ok (.ireturn, 1) := by decide +kernel
/-! Mo_isLarge: ('CellHeapModel', 'isLarge', '(I)Z') -/
abbrev b_Mo_isLarge : ByteArray := prog_10_method_15_code
abbrev y_Mo_isLarge : MethodName := ⟨R_Mo, "isLarge", "(I)Z"⟩
abbrev K_Mo_isLarge := CanI y_Mo_isLarge b_Mo_isLarge 2 ((some .boolean)) 1 0 0
theorem I_Mo_isLarge {h : HP} {v1 : Int32} {Φ : Int32 → HP → Prop} (body : ∀ X : CX, Cok X b_Mo_isLarge 2 R_Mo ((some .boolean)) → xR X = rml 1 0 0 → Qok X 0 0 (fun r h2 => ∃ v, r = some (.int v) ∧ Φ v h2) → Wg X 0 0 h [(0, .ref 0), (1, .int v1)] [] 0) : K_Mo_isLarge [.ref 0, .int v1] h Φ := Can.intro (by decide) (fun _ => Nat.le_of_ble_eq_true rfl) body
theorem M_Mo_isLarge : Mv y_Mo_isLarge b_Mo_isLarge 2 ((some .boolean)) 1 8 := ⟨wx_in 1187 (by decide +kernel) rfl, wx_in 1186 (by decide +kernel) rfl, wx_in 30 (by decide +kernel) rfl, wx_in 73 (by decide +kernel) rfl, by decide +kernel, by decide, by decide, _, _, rfl⟩
theorem d_Mo_isLarge_0 : decode b_Mo_isLarge 0 = .ok (.aload_n 0, 1) := by decide +kernel
theorem d_Mo_isLarge_1 : decode b_Mo_isLarge 1 = .ok (.iload_n 1, 1) := by decide +kernel
theorem d_Mo_isLarge_2 : decode b_Mo_isLarge 2 = .ok (.invokevirtual 76, 3) := by decide +kernel
theorem d_Mo_isLarge_5 : decode b_Mo_isLarge 5 = .ok (.sipush 640, 3) := by decide +kernel
theorem d_Mo_isLarge_8 : decode b_Mo_isLarge 8 = .ok (.if_icmp .le 7, 3) := by decide +kernel
theorem d_Mo_isLarge_11 : decode b_Mo_isLarge 11 = .ok (.iconst 1, 1) := by decide +kernel
theorem d_Mo_isLarge_12 : decode b_Mo_isLarge 12 = .ok (.goto 4, 3) := by decide +kernel
theorem d_Mo_isLarge_15 : decode b_Mo_isLarge 15 = .ok (.iconst 0, 1) := by decide +kernel
theorem d_Mo_isLarge_16 : decode b_Mo_isLarge 16 = .ok (.ireturn, 1) := by decide +kernel
/-! Mo_divideSmall: ('CellHeapModel', 'divideSmall', '(II)I') -/
abbrev b_Mo_divideSmall : ByteArray := prog_10_method_16_code
abbrev y_Mo_divideSmall : MethodName := ⟨R_Mo, "divideSmall", "(II)I"⟩
abbrev K_Mo_divideSmall := CanI y_Mo_divideSmall b_Mo_divideSmall 8 ((some .int)) 1 0 0
theorem I_Mo_divideSmall {h : HP} {v1 : Int32} {v2 : Int32} {Φ : Int32 → HP → Prop} (body : ∀ X : CX, Cok X b_Mo_divideSmall 8 R_Mo ((some .int)) → xR X = rml 1 0 0 → Qok X 0 0 (fun r h2 => ∃ v, r = some (.int v) ∧ Φ v h2) → Wg X 0 0 h [(0, .ref 0), (1, .int v1), (2, .int v2)] [] 0) : K_Mo_divideSmall [.ref 0, .int v1, .int v2] h Φ := Can.intro (by decide) (fun _ => Nat.le_of_ble_eq_true rfl) body
theorem M_Mo_divideSmall : Mv y_Mo_divideSmall b_Mo_divideSmall 8 ((some .int)) 2 8 := ⟨wx_in 1310 (by decide +kernel) rfl, wx_in 1309 (by decide +kernel) rfl, wx_in 54 (by decide +kernel) rfl, wx_in 73 (by decide +kernel) rfl, by decide +kernel, by decide, by decide, _, _, rfl⟩
theorem d_Mo_divideSmall_0 : decode b_Mo_divideSmall 0 = .ok (.lconst 0, 1) := by decide +kernel
theorem d_Mo_divideSmall_1 : decode b_Mo_divideSmall 1 = .ok (.lstore_n 3, 1) := by decide +kernel
theorem d_Mo_divideSmall_2 : decode b_Mo_divideSmall 2 = .ok (.aload_n 0, 1) := by decide +kernel
theorem d_Mo_divideSmall_3 : decode b_Mo_divideSmall 3 = .ok (.getfield 35, 3) := by decide +kernel
theorem d_Mo_divideSmall_6 : decode b_Mo_divideSmall 6 = .ok (.iload_n 1, 1) := by decide +kernel
theorem d_Mo_divideSmall_7 : decode b_Mo_divideSmall 7 = .ok (.iaload, 1) := by decide +kernel
theorem d_Mo_divideSmall_8 : decode b_Mo_divideSmall 8 = .ok (.iconst 1, 1) := by decide +kernel
theorem d_Mo_divideSmall_9 : decode b_Mo_divideSmall 9 = .ok (.isub, 1) := by decide +kernel
theorem d_Mo_divideSmall_10 : decode b_Mo_divideSmall 10 = .ok (.istore 5, 2) := by decide +kernel
theorem d_Mo_divideSmall_12 : decode b_Mo_divideSmall 12 = .ok (.iload 5, 2) := by decide +kernel
theorem d_Mo_divideSmall_14 : decode b_Mo_divideSmall 14 = .ok (.ifCond .lt 53, 3) := by decide +kernel
theorem d_Mo_divideSmall_17 : decode b_Mo_divideSmall 17 = .ok (.lload_n 3, 1) := by decide +kernel
theorem d_Mo_divideSmall_18 : decode b_Mo_divideSmall 18 = .ok (.bipush 16, 2) := by decide +kernel
theorem d_Mo_divideSmall_20 : decode b_Mo_divideSmall 20 = .ok (.lshl, 1) := by decide +kernel
theorem d_Mo_divideSmall_21 : decode b_Mo_divideSmall 21 = .ok (.aload_n 0, 1) := by decide +kernel
theorem d_Mo_divideSmall_22 : decode b_Mo_divideSmall 22 = .ok (.getfield 32, 3) := by decide +kernel
theorem d_Mo_divideSmall_25 : decode b_Mo_divideSmall 25 = .ok (.bipush 100, 2) := by decide +kernel
theorem d_Mo_divideSmall_27 : decode b_Mo_divideSmall 27 = .ok (.iload_n 1, 1) := by decide +kernel
theorem d_Mo_divideSmall_28 : decode b_Mo_divideSmall 28 = .ok (.imul, 1) := by decide +kernel
theorem d_Mo_divideSmall_29 : decode b_Mo_divideSmall 29 = .ok (.iload 5, 2) := by decide +kernel
theorem d_Mo_divideSmall_31 : decode b_Mo_divideSmall 31 = .ok (.iadd, 1) := by decide +kernel
theorem d_Mo_divideSmall_32 : decode b_Mo_divideSmall 32 = .ok (.iaload, 1) := by decide +kernel
theorem d_Mo_divideSmall_33 : decode b_Mo_divideSmall 33 = .ok (.i2l, 1) := by decide +kernel
theorem d_Mo_divideSmall_34 : decode b_Mo_divideSmall 34 = .ok (.lor, 1) := by decide +kernel
theorem d_Mo_divideSmall_35 : decode b_Mo_divideSmall 35 = .ok (.lstore 6, 2) := by decide +kernel
theorem d_Mo_divideSmall_37 : decode b_Mo_divideSmall 37 = .ok (.aload_n 0, 1) := by decide +kernel
theorem d_Mo_divideSmall_38 : decode b_Mo_divideSmall 38 = .ok (.getfield 32, 3) := by decide +kernel
theorem d_Mo_divideSmall_41 : decode b_Mo_divideSmall 41 = .ok (.bipush 100, 2) := by decide +kernel
theorem d_Mo_divideSmall_43 : decode b_Mo_divideSmall 43 = .ok (.iload_n 1, 1) := by decide +kernel
theorem d_Mo_divideSmall_44 : decode b_Mo_divideSmall 44 = .ok (.imul, 1) := by decide +kernel
theorem d_Mo_divideSmall_45 : decode b_Mo_divideSmall 45 = .ok (.iload 5, 2) := by decide +kernel
theorem d_Mo_divideSmall_47 : decode b_Mo_divideSmall 47 = .ok (.iadd, 1) := by decide +kernel
theorem d_Mo_divideSmall_48 : decode b_Mo_divideSmall 48 = .ok (.lload 6, 2) := by decide +kernel
theorem d_Mo_divideSmall_50 : decode b_Mo_divideSmall 50 = .ok (.iload_n 2, 1) := by decide +kernel
theorem d_Mo_divideSmall_51 : decode b_Mo_divideSmall 51 = .ok (.i2l, 1) := by decide +kernel
theorem d_Mo_divideSmall_52 : decode b_Mo_divideSmall 52 = .ok (.ldiv, 1) := by decide +kernel
theorem d_Mo_divideSmall_53 : decode b_Mo_divideSmall 53 = .ok (.l2i, 1) := by decide +kernel
theorem d_Mo_divideSmall_54 : decode b_Mo_divideSmall 54 = .ok (.iastore, 1) := by decide +kernel
theorem d_Mo_divideSmall_55 : decode b_Mo_divideSmall 55 = .ok (.lload 6, 2) := by decide +kernel
theorem d_Mo_divideSmall_57 : decode b_Mo_divideSmall 57 = .ok (.iload_n 2, 1) := by decide +kernel
theorem d_Mo_divideSmall_58 : decode b_Mo_divideSmall 58 = .ok (.i2l, 1) := by decide +kernel
theorem d_Mo_divideSmall_59 : decode b_Mo_divideSmall 59 = .ok (.lrem, 1) := by decide +kernel
theorem d_Mo_divideSmall_60 : decode b_Mo_divideSmall 60 = .ok (.lstore_n 3, 1) := by decide +kernel
theorem d_Mo_divideSmall_61 : decode b_Mo_divideSmall 61 = .ok (.iinc 5 (-1), 3) := by decide +kernel
theorem d_Mo_divideSmall_64 : decode b_Mo_divideSmall 64 = .ok (.goto (-52), 3) := by decide +kernel
theorem d_Mo_divideSmall_67 : decode b_Mo_divideSmall 67 = .ok (.aload_n 0, 1) := by decide +kernel
theorem d_Mo_divideSmall_68 : decode b_Mo_divideSmall 68 = .ok (.iload_n 1, 1) := by decide +kernel
theorem d_Mo_divideSmall_69 : decode b_Mo_divideSmall 69 = .ok (.invokevirtual 58, 3) := by decide +kernel
theorem d_Mo_divideSmall_72 : decode b_Mo_divideSmall 72 = .ok (.lload_n 3, 1) := by decide +kernel
theorem d_Mo_divideSmall_73 : decode b_Mo_divideSmall 73 = .ok (.l2i, 1) := by decide +kernel
theorem d_Mo_divideSmall_74 : decode b_Mo_divideSmall 74 = .ok (.ireturn, 1) := by decide +kernel
/-! Mo_divide: ('CellHeapModel', 'divide', '(III)V') -/
abbrev b_Mo_divide : ByteArray := prog_10_method_17_code
abbrev y_Mo_divide : MethodName := ⟨R_Mo, "divide", "(III)V"⟩
abbrev K_Mo_divide := CanV y_Mo_divide b_Mo_divide 8 none 2 0 0
theorem I_Mo_divide {h : HP} {v1 : Int32} {v2 : Int32} {v3 : Int32} {Φ : HP → Prop} (body : ∀ X : CX, Cok X b_Mo_divide 8 R_Mo none → xR X = rml 2 0 0 → Qok X 0 0 (fun r h2 => r = none ∧ Φ h2) → Wg X 0 0 h [(0, .ref 0), (1, .int v1), (2, .int v2), (3, .int v3)] [] 0) : K_Mo_divide [.ref 0, .int v1, .int v2, .int v3] h Φ := Can.intro (by decide) (fun _ => Nat.le_of_ble_eq_true rfl) body
theorem M_Mo_divide : Mv y_Mo_divide b_Mo_divide 8 none 3 8 := ⟨wx_in 1306 (by decide +kernel) rfl, wx_in 1305 (by decide +kernel) rfl, wx_in 53 (by decide +kernel) rfl, wx_in 73 (by decide +kernel) rfl, by decide +kernel, by decide, by decide, _, _, rfl⟩
theorem d_Mo_divide_0 : decode b_Mo_divide 0 = .ok (.aload_n 0, 1) := by decide +kernel
theorem d_Mo_divide_1 : decode b_Mo_divide 1 = .ok (.getfield 35, 3) := by decide +kernel
theorem d_Mo_divide_4 : decode b_Mo_divide 4 = .ok (.iload_n 3, 1) := by decide +kernel
theorem d_Mo_divide_5 : decode b_Mo_divide 5 = .ok (.iaload, 1) := by decide +kernel
theorem d_Mo_divide_6 : decode b_Mo_divide 6 = .ok (.iconst 1, 1) := by decide +kernel
theorem d_Mo_divide_7 : decode b_Mo_divide 7 = .ok (.if_icmp .ne 38, 3) := by decide +kernel
theorem d_Mo_divide_10 : decode b_Mo_divide 10 = .ok (.aload_n 0, 1) := by decide +kernel
theorem d_Mo_divide_11 : decode b_Mo_divide 11 = .ok (.iload_n 1, 1) := by decide +kernel
theorem d_Mo_divide_12 : decode b_Mo_divide 12 = .ok (.iload_n 2, 1) := by decide +kernel
theorem d_Mo_divide_13 : decode b_Mo_divide 13 = .ok (.invokevirtual 80, 3) := by decide +kernel
theorem d_Mo_divide_16 : decode b_Mo_divide 16 = .ok (.aload_n 0, 1) := by decide +kernel
theorem d_Mo_divide_17 : decode b_Mo_divide 17 = .ok (.getfield 38, 3) := by decide +kernel
theorem d_Mo_divide_20 : decode b_Mo_divide 20 = .ok (.iload_n 1, 1) := by decide +kernel
theorem d_Mo_divide_21 : decode b_Mo_divide 21 = .ok (.iconst 0, 1) := by decide +kernel
theorem d_Mo_divide_22 : decode b_Mo_divide 22 = .ok (.bastore, 1) := by decide +kernel
theorem d_Mo_divide_23 : decode b_Mo_divide 23 = .ok (.aload_n 0, 1) := by decide +kernel
theorem d_Mo_divide_24 : decode b_Mo_divide 24 = .ok (.bipush 9, 2) := by decide +kernel
theorem d_Mo_divide_26 : decode b_Mo_divide 26 = .ok (.aload_n 0, 1) := by decide +kernel
theorem d_Mo_divide_27 : decode b_Mo_divide 27 = .ok (.iload_n 1, 1) := by decide +kernel
theorem d_Mo_divide_28 : decode b_Mo_divide 28 = .ok (.aload_n 0, 1) := by decide +kernel
theorem d_Mo_divide_29 : decode b_Mo_divide 29 = .ok (.getfield 32, 3) := by decide +kernel
theorem d_Mo_divide_32 : decode b_Mo_divide 32 = .ok (.bipush 100, 2) := by decide +kernel
theorem d_Mo_divide_34 : decode b_Mo_divide 34 = .ok (.iload_n 3, 1) := by decide +kernel
theorem d_Mo_divide_35 : decode b_Mo_divide 35 = .ok (.imul, 1) := by decide +kernel
theorem d_Mo_divide_36 : decode b_Mo_divide 36 = .ok (.iaload, 1) := by decide +kernel
theorem d_Mo_divide_37 : decode b_Mo_divide 37 = .ok (.invokevirtual 84, 3) := by decide +kernel
theorem d_Mo_divide_40 : decode b_Mo_divide 40 = .ok (.i2l, 1) := by decide +kernel
theorem d_Mo_divide_41 : decode b_Mo_divide 41 = .ok (.invokevirtual 87, 3) := by decide +kernel
theorem d_Mo_divide_44 : decode b_Mo_divide 44 = .ok (.return_, 1) := by decide +kernel
theorem d_Mo_divide_45 : decode b_Mo_divide 45 = .ok (.aload_n 0, 1) := by decide +kernel
theorem d_Mo_divide_46 : decode b_Mo_divide 46 = .ok (.getfield 35, 3) := by decide +kernel
theorem d_Mo_divide_49 : decode b_Mo_divide 49 = .ok (.bipush 9, 2) := by decide +kernel
theorem d_Mo_divide_51 : decode b_Mo_divide 51 = .ok (.iconst 0, 1) := by decide +kernel
theorem d_Mo_divide_52 : decode b_Mo_divide 52 = .ok (.iastore, 1) := by decide +kernel
theorem d_Mo_divide_53 : decode b_Mo_divide 53 = .ok (.aload_n 0, 1) := by decide +kernel
theorem d_Mo_divide_54 : decode b_Mo_divide 54 = .ok (.getfield 38, 3) := by decide +kernel
theorem d_Mo_divide_57 : decode b_Mo_divide 57 = .ok (.bipush 9, 2) := by decide +kernel
theorem d_Mo_divide_59 : decode b_Mo_divide 59 = .ok (.iconst 0, 1) := by decide +kernel
theorem d_Mo_divide_60 : decode b_Mo_divide 60 = .ok (.bastore, 1) := by decide +kernel
theorem d_Mo_divide_61 : decode b_Mo_divide 61 = .ok (.aload_n 0, 1) := by decide +kernel
theorem d_Mo_divide_62 : decode b_Mo_divide 62 = .ok (.getfield 35, 3) := by decide +kernel
theorem d_Mo_divide_65 : decode b_Mo_divide 65 = .ok (.iload_n 1, 1) := by decide +kernel
theorem d_Mo_divide_66 : decode b_Mo_divide 66 = .ok (.aload_n 0, 1) := by decide +kernel
theorem d_Mo_divide_67 : decode b_Mo_divide 67 = .ok (.getfield 35, 3) := by decide +kernel
theorem d_Mo_divide_70 : decode b_Mo_divide 70 = .ok (.iload_n 2, 1) := by decide +kernel
theorem d_Mo_divide_71 : decode b_Mo_divide 71 = .ok (.iaload, 1) := by decide +kernel
theorem d_Mo_divide_72 : decode b_Mo_divide 72 = .ok (.iastore, 1) := by decide +kernel
theorem d_Mo_divide_73 : decode b_Mo_divide 73 = .ok (.aload_n 0, 1) := by decide +kernel
theorem d_Mo_divide_74 : decode b_Mo_divide 74 = .ok (.getfield 38, 3) := by decide +kernel
theorem d_Mo_divide_77 : decode b_Mo_divide 77 = .ok (.iload_n 1, 1) := by decide +kernel
theorem d_Mo_divide_78 : decode b_Mo_divide 78 = .ok (.iconst 0, 1) := by decide +kernel
theorem d_Mo_divide_79 : decode b_Mo_divide 79 = .ok (.bastore, 1) := by decide +kernel
theorem d_Mo_divide_80 : decode b_Mo_divide 80 = .ok (.iconst 0, 1) := by decide +kernel
theorem d_Mo_divide_81 : decode b_Mo_divide 81 = .ok (.istore 4, 2) := by decide +kernel
theorem d_Mo_divide_83 : decode b_Mo_divide 83 = .ok (.iload 4, 2) := by decide +kernel
theorem d_Mo_divide_85 : decode b_Mo_divide 85 = .ok (.aload_n 0, 1) := by decide +kernel
theorem d_Mo_divide_86 : decode b_Mo_divide 86 = .ok (.getfield 35, 3) := by decide +kernel
theorem d_Mo_divide_89 : decode b_Mo_divide 89 = .ok (.iload_n 2, 1) := by decide +kernel
theorem d_Mo_divide_90 : decode b_Mo_divide 90 = .ok (.iaload, 1) := by decide +kernel
theorem d_Mo_divide_91 : decode b_Mo_divide 91 = .ok (.if_icmp .ge 22, 3) := by decide +kernel
theorem d_Mo_divide_94 : decode b_Mo_divide 94 = .ok (.aload_n 0, 1) := by decide +kernel
theorem d_Mo_divide_95 : decode b_Mo_divide 95 = .ok (.getfield 32, 3) := by decide +kernel
theorem d_Mo_divide_98 : decode b_Mo_divide 98 = .ok (.bipush 100, 2) := by decide +kernel
theorem d_Mo_divide_100 : decode b_Mo_divide 100 = .ok (.iload_n 1, 1) := by decide +kernel
theorem d_Mo_divide_101 : decode b_Mo_divide 101 = .ok (.imul, 1) := by decide +kernel
theorem d_Mo_divide_102 : decode b_Mo_divide 102 = .ok (.iload 4, 2) := by decide +kernel
theorem d_Mo_divide_104 : decode b_Mo_divide 104 = .ok (.iadd, 1) := by decide +kernel
theorem d_Mo_divide_105 : decode b_Mo_divide 105 = .ok (.iconst 0, 1) := by decide +kernel
theorem d_Mo_divide_106 : decode b_Mo_divide 106 = .ok (.iastore, 1) := by decide +kernel
theorem d_Mo_divide_107 : decode b_Mo_divide 107 = .ok (.iinc 4 1, 3) := by decide +kernel
theorem d_Mo_divide_110 : decode b_Mo_divide 110 = .ok (.goto (-27), 3) := by decide +kernel
theorem d_Mo_divide_113 : decode b_Mo_divide 113 = .ok (.aload_n 0, 1) := by decide +kernel
theorem d_Mo_divide_114 : decode b_Mo_divide 114 = .ok (.iload_n 2, 1) := by decide +kernel
theorem d_Mo_divide_115 : decode b_Mo_divide 115 = .ok (.invokevirtual 76, 3) := by decide +kernel
theorem d_Mo_divide_118 : decode b_Mo_divide 118 = .ok (.iconst 1, 1) := by decide +kernel
theorem d_Mo_divide_119 : decode b_Mo_divide 119 = .ok (.isub, 1) := by decide +kernel
theorem d_Mo_divide_120 : decode b_Mo_divide 120 = .ok (.istore 4, 2) := by decide +kernel
theorem d_Mo_divide_122 : decode b_Mo_divide 122 = .ok (.iload 4, 2) := by decide +kernel
theorem d_Mo_divide_124 : decode b_Mo_divide 124 = .ok (.ifCond .lt 187, 3) := by decide +kernel
theorem d_Mo_divide_127 : decode b_Mo_divide 127 = .ok (.aload_n 0, 1) := by decide +kernel
theorem d_Mo_divide_128 : decode b_Mo_divide 128 = .ok (.getfield 32, 3) := by decide +kernel
theorem d_Mo_divide_131 : decode b_Mo_divide 131 = .ok (.bipush 100, 2) := by decide +kernel
theorem d_Mo_divide_133 : decode b_Mo_divide 133 = .ok (.iload_n 2, 1) := by decide +kernel
theorem d_Mo_divide_134 : decode b_Mo_divide 134 = .ok (.imul, 1) := by decide +kernel
theorem d_Mo_divide_135 : decode b_Mo_divide 135 = .ok (.iload 4, 2) := by decide +kernel
theorem d_Mo_divide_137 : decode b_Mo_divide 137 = .ok (.bipush 16, 2) := by decide +kernel
theorem d_Mo_divide_139 : decode b_Mo_divide 139 = .ok (.idiv, 1) := by decide +kernel
theorem d_Mo_divide_140 : decode b_Mo_divide 140 = .ok (.iadd, 1) := by decide +kernel
theorem d_Mo_divide_141 : decode b_Mo_divide 141 = .ok (.iaload, 1) := by decide +kernel
theorem d_Mo_divide_142 : decode b_Mo_divide 142 = .ok (.iload 4, 2) := by decide +kernel
theorem d_Mo_divide_144 : decode b_Mo_divide 144 = .ok (.bipush 16, 2) := by decide +kernel
theorem d_Mo_divide_146 : decode b_Mo_divide 146 = .ok (.irem, 1) := by decide +kernel
theorem d_Mo_divide_147 : decode b_Mo_divide 147 = .ok (.ishr, 1) := by decide +kernel
theorem d_Mo_divide_148 : decode b_Mo_divide 148 = .ok (.iconst 1, 1) := by decide +kernel
theorem d_Mo_divide_149 : decode b_Mo_divide 149 = .ok (.iand, 1) := by decide +kernel
theorem d_Mo_divide_150 : decode b_Mo_divide 150 = .ok (.istore 5, 2) := by decide +kernel
theorem d_Mo_divide_152 : decode b_Mo_divide 152 = .ok (.iconst 0, 1) := by decide +kernel
theorem d_Mo_divide_153 : decode b_Mo_divide 153 = .ok (.istore 6, 2) := by decide +kernel
theorem d_Mo_divide_155 : decode b_Mo_divide 155 = .ok (.iload 6, 2) := by decide +kernel
theorem d_Mo_divide_157 : decode b_Mo_divide 157 = .ok (.aload_n 0, 1) := by decide +kernel
theorem d_Mo_divide_158 : decode b_Mo_divide 158 = .ok (.getfield 35, 3) := by decide +kernel
theorem d_Mo_divide_161 : decode b_Mo_divide 161 = .ok (.bipush 9, 2) := by decide +kernel
theorem d_Mo_divide_163 : decode b_Mo_divide 163 = .ok (.iaload, 1) := by decide +kernel
theorem d_Mo_divide_164 : decode b_Mo_divide 164 = .ok (.if_icmp .ge 50, 3) := by decide +kernel
theorem d_Mo_divide_167 : decode b_Mo_divide 167 = .ok (.aload_n 0, 1) := by decide +kernel
theorem d_Mo_divide_168 : decode b_Mo_divide 168 = .ok (.getfield 32, 3) := by decide +kernel
theorem d_Mo_divide_171 : decode b_Mo_divide 171 = .ok (.sipush 900, 3) := by decide +kernel
theorem d_Mo_divide_174 : decode b_Mo_divide 174 = .ok (.iload 6, 2) := by decide +kernel
theorem d_Mo_divide_176 : decode b_Mo_divide 176 = .ok (.iadd, 1) := by decide +kernel
theorem d_Mo_divide_177 : decode b_Mo_divide 177 = .ok (.iaload, 1) := by decide +kernel
theorem d_Mo_divide_178 : decode b_Mo_divide 178 = .ok (.iconst 1, 1) := by decide +kernel
theorem d_Mo_divide_179 : decode b_Mo_divide 179 = .ok (.ishl, 1) := by decide +kernel
theorem d_Mo_divide_180 : decode b_Mo_divide 180 = .ok (.iload 5, 2) := by decide +kernel
theorem d_Mo_divide_182 : decode b_Mo_divide 182 = .ok (.ior, 1) := by decide +kernel
theorem d_Mo_divide_183 : decode b_Mo_divide 183 = .ok (.istore 7, 2) := by decide +kernel
theorem d_Mo_divide_185 : decode b_Mo_divide 185 = .ok (.aload_n 0, 1) := by decide +kernel
theorem d_Mo_divide_186 : decode b_Mo_divide 186 = .ok (.getfield 32, 3) := by decide +kernel
theorem d_Mo_divide_189 : decode b_Mo_divide 189 = .ok (.sipush 900, 3) := by decide +kernel
theorem d_Mo_divide_192 : decode b_Mo_divide 192 = .ok (.iload 6, 2) := by decide +kernel
theorem d_Mo_divide_194 : decode b_Mo_divide 194 = .ok (.iadd, 1) := by decide +kernel
theorem d_Mo_divide_195 : decode b_Mo_divide 195 = .ok (.iload 7, 2) := by decide +kernel
theorem d_Mo_divide_197 : decode b_Mo_divide 197 = .ok (.ldc 57, 2) := by decide +kernel
theorem d_Mo_divide_199 : decode b_Mo_divide 199 = .ok (.iand, 1) := by decide +kernel
theorem d_Mo_divide_200 : decode b_Mo_divide 200 = .ok (.iastore, 1) := by decide +kernel
theorem d_Mo_divide_201 : decode b_Mo_divide 201 = .ok (.iload 7, 2) := by decide +kernel
theorem d_Mo_divide_203 : decode b_Mo_divide 203 = .ok (.bipush 16, 2) := by decide +kernel
theorem d_Mo_divide_205 : decode b_Mo_divide 205 = .ok (.ishr, 1) := by decide +kernel
theorem d_Mo_divide_206 : decode b_Mo_divide 206 = .ok (.istore 5, 2) := by decide +kernel
theorem d_Mo_divide_208 : decode b_Mo_divide 208 = .ok (.iinc 6 1, 3) := by decide +kernel
theorem d_Mo_divide_211 : decode b_Mo_divide 211 = .ok (.goto (-56), 3) := by decide +kernel
theorem d_Mo_divide_214 : decode b_Mo_divide 214 = .ok (.iload 5, 2) := by decide +kernel
theorem d_Mo_divide_216 : decode b_Mo_divide 216 = .ok (.ifCond .le 32, 3) := by decide +kernel
theorem d_Mo_divide_219 : decode b_Mo_divide 219 = .ok (.aload_n 0, 1) := by decide +kernel
theorem d_Mo_divide_220 : decode b_Mo_divide 220 = .ok (.getfield 32, 3) := by decide +kernel
theorem d_Mo_divide_223 : decode b_Mo_divide 223 = .ok (.sipush 900, 3) := by decide +kernel
theorem d_Mo_divide_226 : decode b_Mo_divide 226 = .ok (.aload_n 0, 1) := by decide +kernel
theorem d_Mo_divide_227 : decode b_Mo_divide 227 = .ok (.getfield 35, 3) := by decide +kernel
theorem d_Mo_divide_230 : decode b_Mo_divide 230 = .ok (.bipush 9, 2) := by decide +kernel
theorem d_Mo_divide_232 : decode b_Mo_divide 232 = .ok (.iaload, 1) := by decide +kernel
theorem d_Mo_divide_233 : decode b_Mo_divide 233 = .ok (.iadd, 1) := by decide +kernel
theorem d_Mo_divide_234 : decode b_Mo_divide 234 = .ok (.iload 5, 2) := by decide +kernel
theorem d_Mo_divide_236 : decode b_Mo_divide 236 = .ok (.iastore, 1) := by decide +kernel
theorem d_Mo_divide_237 : decode b_Mo_divide 237 = .ok (.aload_n 0, 1) := by decide +kernel
theorem d_Mo_divide_238 : decode b_Mo_divide 238 = .ok (.getfield 35, 3) := by decide +kernel
theorem d_Mo_divide_241 : decode b_Mo_divide 241 = .ok (.bipush 9, 2) := by decide +kernel
theorem d_Mo_divide_243 : decode b_Mo_divide 243 = .ok (.dup2, 1) := by decide +kernel
theorem d_Mo_divide_244 : decode b_Mo_divide 244 = .ok (.iaload, 1) := by decide +kernel
theorem d_Mo_divide_245 : decode b_Mo_divide 245 = .ok (.iconst 1, 1) := by decide +kernel
theorem d_Mo_divide_246 : decode b_Mo_divide 246 = .ok (.iadd, 1) := by decide +kernel
theorem d_Mo_divide_247 : decode b_Mo_divide 247 = .ok (.iastore, 1) := by decide +kernel
theorem d_Mo_divide_248 : decode b_Mo_divide 248 = .ok (.aload_n 0, 1) := by decide +kernel
theorem d_Mo_divide_249 : decode b_Mo_divide 249 = .ok (.bipush 9, 2) := by decide +kernel
theorem d_Mo_divide_251 : decode b_Mo_divide 251 = .ok (.iload_n 3, 1) := by decide +kernel
theorem d_Mo_divide_252 : decode b_Mo_divide 252 = .ok (.invokevirtual 70, 3) := by decide +kernel
theorem d_Mo_divide_255 : decode b_Mo_divide 255 = .ok (.ifCond .lt 50, 3) := by decide +kernel
theorem d_Mo_divide_258 : decode b_Mo_divide 258 = .ok (.aload_n 0, 1) := by decide +kernel
theorem d_Mo_divide_259 : decode b_Mo_divide 259 = .ok (.bipush 9, 2) := by decide +kernel
theorem d_Mo_divide_261 : decode b_Mo_divide 261 = .ok (.bipush 9, 2) := by decide +kernel
theorem d_Mo_divide_263 : decode b_Mo_divide 263 = .ok (.iload_n 3, 1) := by decide +kernel
theorem d_Mo_divide_264 : decode b_Mo_divide 264 = .ok (.invokevirtual 73, 3) := by decide +kernel
theorem d_Mo_divide_267 : decode b_Mo_divide 267 = .ok (.aload_n 0, 1) := by decide +kernel
theorem d_Mo_divide_268 : decode b_Mo_divide 268 = .ok (.getfield 32, 3) := by decide +kernel
theorem d_Mo_divide_271 : decode b_Mo_divide 271 = .ok (.bipush 100, 2) := by decide +kernel
theorem d_Mo_divide_273 : decode b_Mo_divide 273 = .ok (.iload_n 1, 1) := by decide +kernel
theorem d_Mo_divide_274 : decode b_Mo_divide 274 = .ok (.imul, 1) := by decide +kernel
theorem d_Mo_divide_275 : decode b_Mo_divide 275 = .ok (.iload 4, 2) := by decide +kernel
theorem d_Mo_divide_277 : decode b_Mo_divide 277 = .ok (.bipush 16, 2) := by decide +kernel
theorem d_Mo_divide_279 : decode b_Mo_divide 279 = .ok (.idiv, 1) := by decide +kernel
theorem d_Mo_divide_280 : decode b_Mo_divide 280 = .ok (.iadd, 1) := by decide +kernel
theorem d_Mo_divide_281 : decode b_Mo_divide 281 = .ok (.aload_n 0, 1) := by decide +kernel
theorem d_Mo_divide_282 : decode b_Mo_divide 282 = .ok (.getfield 32, 3) := by decide +kernel
theorem d_Mo_divide_285 : decode b_Mo_divide 285 = .ok (.bipush 100, 2) := by decide +kernel
theorem d_Mo_divide_287 : decode b_Mo_divide 287 = .ok (.iload_n 1, 1) := by decide +kernel
theorem d_Mo_divide_288 : decode b_Mo_divide 288 = .ok (.imul, 1) := by decide +kernel
theorem d_Mo_divide_289 : decode b_Mo_divide 289 = .ok (.iload 4, 2) := by decide +kernel
theorem d_Mo_divide_291 : decode b_Mo_divide 291 = .ok (.bipush 16, 2) := by decide +kernel
theorem d_Mo_divide_293 : decode b_Mo_divide 293 = .ok (.idiv, 1) := by decide +kernel
theorem d_Mo_divide_294 : decode b_Mo_divide 294 = .ok (.iadd, 1) := by decide +kernel
theorem d_Mo_divide_295 : decode b_Mo_divide 295 = .ok (.iaload, 1) := by decide +kernel
theorem d_Mo_divide_296 : decode b_Mo_divide 296 = .ok (.iconst 1, 1) := by decide +kernel
theorem d_Mo_divide_297 : decode b_Mo_divide 297 = .ok (.iload 4, 2) := by decide +kernel
theorem d_Mo_divide_299 : decode b_Mo_divide 299 = .ok (.bipush 16, 2) := by decide +kernel
theorem d_Mo_divide_301 : decode b_Mo_divide 301 = .ok (.irem, 1) := by decide +kernel
theorem d_Mo_divide_302 : decode b_Mo_divide 302 = .ok (.ishl, 1) := by decide +kernel
theorem d_Mo_divide_303 : decode b_Mo_divide 303 = .ok (.ior, 1) := by decide +kernel
theorem d_Mo_divide_304 : decode b_Mo_divide 304 = .ok (.iastore, 1) := by decide +kernel
theorem d_Mo_divide_305 : decode b_Mo_divide 305 = .ok (.iinc 4 (-1), 3) := by decide +kernel
theorem d_Mo_divide_308 : decode b_Mo_divide 308 = .ok (.goto (-186), 3) := by decide +kernel
theorem d_Mo_divide_311 : decode b_Mo_divide 311 = .ok (.aload_n 0, 1) := by decide +kernel
theorem d_Mo_divide_312 : decode b_Mo_divide 312 = .ok (.iload_n 1, 1) := by decide +kernel
theorem d_Mo_divide_313 : decode b_Mo_divide 313 = .ok (.invokevirtual 58, 3) := by decide +kernel
theorem d_Mo_divide_316 : decode b_Mo_divide 316 = .ok (.return_, 1) := by decide +kernel
/-! Mo_halve: ('CellHeapModel', 'halve', '(I)V') -/
abbrev b_Mo_halve : ByteArray := prog_10_method_18_code
abbrev y_Mo_halve : MethodName := ⟨R_Mo, "halve", "(I)V"⟩
abbrev K_Mo_halve := CanV y_Mo_halve b_Mo_halve 5 none 1 0 0
theorem I_Mo_halve {h : HP} {v1 : Int32} {Φ : HP → Prop} (body : ∀ X : CX, Cok X b_Mo_halve 5 R_Mo none → xR X = rml 1 0 0 → Qok X 0 0 (fun r h2 => r = none ∧ Φ h2) → Wg X 0 0 h [(0, .ref 0), (1, .int v1)] [] 0) : K_Mo_halve [.ref 0, .int v1] h Φ := Can.intro (by decide) (fun _ => Nat.le_of_ble_eq_true rfl) body
theorem M_Mo_halve : Mv y_Mo_halve b_Mo_halve 5 none 1 8 := ⟨wx_in 1290 (by decide +kernel) rfl, wx_in 1289 (by decide +kernel) rfl, wx_in 49 (by decide +kernel) rfl, wx_in 73 (by decide +kernel) rfl, by decide +kernel, by decide, by decide, _, _, rfl⟩
theorem d_Mo_halve_0 : decode b_Mo_halve 0 = .ok (.iconst 0, 1) := by decide +kernel
theorem d_Mo_halve_1 : decode b_Mo_halve 1 = .ok (.istore_n 2, 1) := by decide +kernel
theorem d_Mo_halve_2 : decode b_Mo_halve 2 = .ok (.aload_n 0, 1) := by decide +kernel
theorem d_Mo_halve_3 : decode b_Mo_halve 3 = .ok (.getfield 35, 3) := by decide +kernel
theorem d_Mo_halve_6 : decode b_Mo_halve 6 = .ok (.iload_n 1, 1) := by decide +kernel
theorem d_Mo_halve_7 : decode b_Mo_halve 7 = .ok (.iaload, 1) := by decide +kernel
theorem d_Mo_halve_8 : decode b_Mo_halve 8 = .ok (.iconst 1, 1) := by decide +kernel
theorem d_Mo_halve_9 : decode b_Mo_halve 9 = .ok (.isub, 1) := by decide +kernel
theorem d_Mo_halve_10 : decode b_Mo_halve 10 = .ok (.istore_n 3, 1) := by decide +kernel
theorem d_Mo_halve_11 : decode b_Mo_halve 11 = .ok (.iload_n 3, 1) := by decide +kernel
theorem d_Mo_halve_12 : decode b_Mo_halve 12 = .ok (.ifCond .lt 47, 3) := by decide +kernel
theorem d_Mo_halve_15 : decode b_Mo_halve 15 = .ok (.iload_n 2, 1) := by decide +kernel
theorem d_Mo_halve_16 : decode b_Mo_halve 16 = .ok (.bipush 16, 2) := by decide +kernel
theorem d_Mo_halve_18 : decode b_Mo_halve 18 = .ok (.ishl, 1) := by decide +kernel
theorem d_Mo_halve_19 : decode b_Mo_halve 19 = .ok (.aload_n 0, 1) := by decide +kernel
theorem d_Mo_halve_20 : decode b_Mo_halve 20 = .ok (.getfield 32, 3) := by decide +kernel
theorem d_Mo_halve_23 : decode b_Mo_halve 23 = .ok (.bipush 100, 2) := by decide +kernel
theorem d_Mo_halve_25 : decode b_Mo_halve 25 = .ok (.iload_n 1, 1) := by decide +kernel
theorem d_Mo_halve_26 : decode b_Mo_halve 26 = .ok (.imul, 1) := by decide +kernel
theorem d_Mo_halve_27 : decode b_Mo_halve 27 = .ok (.iload_n 3, 1) := by decide +kernel
theorem d_Mo_halve_28 : decode b_Mo_halve 28 = .ok (.iadd, 1) := by decide +kernel
theorem d_Mo_halve_29 : decode b_Mo_halve 29 = .ok (.iaload, 1) := by decide +kernel
theorem d_Mo_halve_30 : decode b_Mo_halve 30 = .ok (.ior, 1) := by decide +kernel
theorem d_Mo_halve_31 : decode b_Mo_halve 31 = .ok (.istore 4, 2) := by decide +kernel
theorem d_Mo_halve_33 : decode b_Mo_halve 33 = .ok (.aload_n 0, 1) := by decide +kernel
theorem d_Mo_halve_34 : decode b_Mo_halve 34 = .ok (.getfield 32, 3) := by decide +kernel
theorem d_Mo_halve_37 : decode b_Mo_halve 37 = .ok (.bipush 100, 2) := by decide +kernel
theorem d_Mo_halve_39 : decode b_Mo_halve 39 = .ok (.iload_n 1, 1) := by decide +kernel
theorem d_Mo_halve_40 : decode b_Mo_halve 40 = .ok (.imul, 1) := by decide +kernel
theorem d_Mo_halve_41 : decode b_Mo_halve 41 = .ok (.iload_n 3, 1) := by decide +kernel
theorem d_Mo_halve_42 : decode b_Mo_halve 42 = .ok (.iadd, 1) := by decide +kernel
theorem d_Mo_halve_43 : decode b_Mo_halve 43 = .ok (.iload 4, 2) := by decide +kernel
theorem d_Mo_halve_45 : decode b_Mo_halve 45 = .ok (.iconst 1, 1) := by decide +kernel
theorem d_Mo_halve_46 : decode b_Mo_halve 46 = .ok (.ishr, 1) := by decide +kernel
theorem d_Mo_halve_47 : decode b_Mo_halve 47 = .ok (.iastore, 1) := by decide +kernel
theorem d_Mo_halve_48 : decode b_Mo_halve 48 = .ok (.iload 4, 2) := by decide +kernel
theorem d_Mo_halve_50 : decode b_Mo_halve 50 = .ok (.iconst 1, 1) := by decide +kernel
theorem d_Mo_halve_51 : decode b_Mo_halve 51 = .ok (.iand, 1) := by decide +kernel
theorem d_Mo_halve_52 : decode b_Mo_halve 52 = .ok (.istore_n 2, 1) := by decide +kernel
theorem d_Mo_halve_53 : decode b_Mo_halve 53 = .ok (.iinc 3 (-1), 3) := by decide +kernel
theorem d_Mo_halve_56 : decode b_Mo_halve 56 = .ok (.goto (-45), 3) := by decide +kernel
theorem d_Mo_halve_59 : decode b_Mo_halve 59 = .ok (.aload_n 0, 1) := by decide +kernel
theorem d_Mo_halve_60 : decode b_Mo_halve 60 = .ok (.iload_n 1, 1) := by decide +kernel
theorem d_Mo_halve_61 : decode b_Mo_halve 61 = .ok (.invokevirtual 58, 3) := by decide +kernel
theorem d_Mo_halve_64 : decode b_Mo_halve 64 = .ok (.return_, 1) := by decide +kernel
/-! Mo_isEven: ('CellHeapModel', 'isEven', '(I)Z') -/
abbrev b_Mo_isEven : ByteArray := prog_10_method_19_code
abbrev y_Mo_isEven : MethodName := ⟨R_Mo, "isEven", "(I)Z"⟩
abbrev K_Mo_isEven := CanI y_Mo_isEven b_Mo_isEven 2 ((some .boolean)) 0 0 0
theorem I_Mo_isEven {h : HP} {v1 : Int32} {Φ : Int32 → HP → Prop} (body : ∀ X : CX, Cok X b_Mo_isEven 2 R_Mo ((some .boolean)) → xR X = rml 0 0 0 → Qok X 0 0 (fun r h2 => ∃ v, r = some (.int v) ∧ Φ v h2) → Wg X 0 0 h [(0, .ref 0), (1, .int v1)] [] 0) : K_Mo_isEven [.ref 0, .int v1] h Φ := Can.intro (by decide) (fun _ => Nat.le_of_ble_eq_true rfl) body
theorem M_Mo_isEven : Mv y_Mo_isEven b_Mo_isEven 2 ((some .boolean)) 1 8 := ⟨wx_in 1286 (by decide +kernel) rfl, wx_in 1285 (by decide +kernel) rfl, wx_in 48 (by decide +kernel) rfl, wx_in 73 (by decide +kernel) rfl, by decide +kernel, by decide, by decide, _, _, rfl⟩
theorem d_Mo_isEven_0 : decode b_Mo_isEven 0 = .ok (.aload_n 0, 1) := by decide +kernel
theorem d_Mo_isEven_1 : decode b_Mo_isEven 1 = .ok (.getfield 35, 3) := by decide +kernel
theorem d_Mo_isEven_4 : decode b_Mo_isEven 4 = .ok (.iload_n 1, 1) := by decide +kernel
theorem d_Mo_isEven_5 : decode b_Mo_isEven 5 = .ok (.iaload, 1) := by decide +kernel
theorem d_Mo_isEven_6 : decode b_Mo_isEven 6 = .ok (.ifCond .eq 17, 3) := by decide +kernel
theorem d_Mo_isEven_9 : decode b_Mo_isEven 9 = .ok (.aload_n 0, 1) := by decide +kernel
theorem d_Mo_isEven_10 : decode b_Mo_isEven 10 = .ok (.getfield 32, 3) := by decide +kernel
theorem d_Mo_isEven_13 : decode b_Mo_isEven 13 = .ok (.bipush 100, 2) := by decide +kernel
theorem d_Mo_isEven_15 : decode b_Mo_isEven 15 = .ok (.iload_n 1, 1) := by decide +kernel
theorem d_Mo_isEven_16 : decode b_Mo_isEven 16 = .ok (.imul, 1) := by decide +kernel
theorem d_Mo_isEven_17 : decode b_Mo_isEven 17 = .ok (.iaload, 1) := by decide +kernel
theorem d_Mo_isEven_18 : decode b_Mo_isEven 18 = .ok (.iconst 1, 1) := by decide +kernel
theorem d_Mo_isEven_19 : decode b_Mo_isEven 19 = .ok (.iand, 1) := by decide +kernel
theorem d_Mo_isEven_20 : decode b_Mo_isEven 20 = .ok (.ifCond .ne 7, 3) := by decide +kernel
theorem d_Mo_isEven_23 : decode b_Mo_isEven 23 = .ok (.iconst 1, 1) := by decide +kernel
theorem d_Mo_isEven_24 : decode b_Mo_isEven 24 = .ok (.goto 4, 3) := by decide +kernel
theorem d_Mo_isEven_27 : decode b_Mo_isEven 27 = .ok (.iconst 0, 1) := by decide +kernel
theorem d_Mo_isEven_28 : decode b_Mo_isEven 28 = .ok (.ireturn, 1) := by decide +kernel
/-! Mo_divisor: ('CellHeapModel', 'divisor', '(II)V') -/
abbrev b_Mo_divisor : ByteArray := prog_10_method_20_code
abbrev y_Mo_divisor : MethodName := ⟨R_Mo, "divisor", "(II)V"⟩
abbrev K_Mo_divisor := CanV y_Mo_divisor b_Mo_divisor 5 none 2 0 0
theorem I_Mo_divisor {h : HP} {v1 : Int32} {v2 : Int32} {Φ : HP → Prop} (body : ∀ X : CX, Cok X b_Mo_divisor 5 R_Mo none → xR X = rml 2 0 0 → Qok X 0 0 (fun r h2 => r = none ∧ Φ h2) → Wg X 0 0 h [(0, .ref 0), (1, .int v1), (2, .int v2)] [] 0) : K_Mo_divisor [.ref 0, .int v1, .int v2] h Φ := Can.intro (by decide) (fun _ => Nat.le_of_ble_eq_true rfl) body
theorem M_Mo_divisor : Mv y_Mo_divisor b_Mo_divisor 5 none 2 8 := ⟨wx_in 1282 (by decide +kernel) rfl, wx_in 1281 (by decide +kernel) rfl, wx_in 47 (by decide +kernel) rfl, wx_in 73 (by decide +kernel) rfl, by decide +kernel, by decide, by decide, _, _, rfl⟩
theorem d_Mo_divisor_0 : decode b_Mo_divisor 0 = .ok (.aload_n 0, 1) := by decide +kernel
theorem d_Mo_divisor_1 : decode b_Mo_divisor 1 = .ok (.bipush 10, 2) := by decide +kernel
theorem d_Mo_divisor_3 : decode b_Mo_divisor 3 = .ok (.iload_n 1, 1) := by decide +kernel
theorem d_Mo_divisor_4 : decode b_Mo_divisor 4 = .ok (.invokevirtual 80, 3) := by decide +kernel
theorem d_Mo_divisor_7 : decode b_Mo_divisor 7 = .ok (.aload_n 0, 1) := by decide +kernel
theorem d_Mo_divisor_8 : decode b_Mo_divisor 8 = .ok (.bipush 11, 2) := by decide +kernel
theorem d_Mo_divisor_10 : decode b_Mo_divisor 10 = .ok (.iload_n 2, 1) := by decide +kernel
theorem d_Mo_divisor_11 : decode b_Mo_divisor 11 = .ok (.invokevirtual 80, 3) := by decide +kernel
theorem d_Mo_divisor_14 : decode b_Mo_divisor 14 = .ok (.aload_n 0, 1) := by decide +kernel
theorem d_Mo_divisor_15 : decode b_Mo_divisor 15 = .ok (.getfield 38, 3) := by decide +kernel
theorem d_Mo_divisor_18 : decode b_Mo_divisor 18 = .ok (.bipush 10, 2) := by decide +kernel
theorem d_Mo_divisor_20 : decode b_Mo_divisor 20 = .ok (.iconst 0, 1) := by decide +kernel
theorem d_Mo_divisor_21 : decode b_Mo_divisor 21 = .ok (.bastore, 1) := by decide +kernel
theorem d_Mo_divisor_22 : decode b_Mo_divisor 22 = .ok (.aload_n 0, 1) := by decide +kernel
theorem d_Mo_divisor_23 : decode b_Mo_divisor 23 = .ok (.getfield 38, 3) := by decide +kernel
theorem d_Mo_divisor_26 : decode b_Mo_divisor 26 = .ok (.bipush 11, 2) := by decide +kernel
theorem d_Mo_divisor_28 : decode b_Mo_divisor 28 = .ok (.iconst 0, 1) := by decide +kernel
theorem d_Mo_divisor_29 : decode b_Mo_divisor 29 = .ok (.bastore, 1) := by decide +kernel
theorem d_Mo_divisor_30 : decode b_Mo_divisor 30 = .ok (.aload_n 0, 1) := by decide +kernel
theorem d_Mo_divisor_31 : decode b_Mo_divisor 31 = .ok (.getfield 35, 3) := by decide +kernel
theorem d_Mo_divisor_34 : decode b_Mo_divisor 34 = .ok (.iload_n 1, 1) := by decide +kernel
theorem d_Mo_divisor_35 : decode b_Mo_divisor 35 = .ok (.iaload, 1) := by decide +kernel
theorem d_Mo_divisor_36 : decode b_Mo_divisor 36 = .ok (.ifCond .eq 12, 3) := by decide +kernel
theorem d_Mo_divisor_39 : decode b_Mo_divisor 39 = .ok (.aload_n 0, 1) := by decide +kernel
theorem d_Mo_divisor_40 : decode b_Mo_divisor 40 = .ok (.getfield 35, 3) := by decide +kernel
theorem d_Mo_divisor_43 : decode b_Mo_divisor 43 = .ok (.iload_n 2, 1) := by decide +kernel
theorem d_Mo_divisor_44 : decode b_Mo_divisor 44 = .ok (.iaload, 1) := by decide +kernel
theorem d_Mo_divisor_45 : decode b_Mo_divisor 45 = .ok (.ifCond .ne 27, 3) := by decide +kernel
theorem d_Mo_divisor_48 : decode b_Mo_divisor 48 = .ok (.aload_n 0, 1) := by decide +kernel
theorem d_Mo_divisor_49 : decode b_Mo_divisor 49 = .ok (.bipush 10, 2) := by decide +kernel
theorem d_Mo_divisor_51 : decode b_Mo_divisor 51 = .ok (.aload_n 0, 1) := by decide +kernel
theorem d_Mo_divisor_52 : decode b_Mo_divisor 52 = .ok (.getfield 35, 3) := by decide +kernel
theorem d_Mo_divisor_55 : decode b_Mo_divisor 55 = .ok (.bipush 10, 2) := by decide +kernel
theorem d_Mo_divisor_57 : decode b_Mo_divisor 57 = .ok (.iaload, 1) := by decide +kernel
theorem d_Mo_divisor_58 : decode b_Mo_divisor 58 = .ok (.ifCond .ne 8, 3) := by decide +kernel
theorem d_Mo_divisor_61 : decode b_Mo_divisor 61 = .ok (.bipush 11, 2) := by decide +kernel
theorem d_Mo_divisor_63 : decode b_Mo_divisor 63 = .ok (.goto 5, 3) := by decide +kernel
theorem d_Mo_divisor_66 : decode b_Mo_divisor 66 = .ok (.bipush 10, 2) := by decide +kernel
theorem d_Mo_divisor_68 : decode b_Mo_divisor 68 = .ok (.invokevirtual 80, 3) := by decide +kernel
theorem d_Mo_divisor_71 : decode b_Mo_divisor 71 = .ok (.return_, 1) := by decide +kernel
theorem d_Mo_divisor_72 : decode b_Mo_divisor 72 = .ok (.iconst 0, 1) := by decide +kernel
theorem d_Mo_divisor_73 : decode b_Mo_divisor 73 = .ok (.istore_n 3, 1) := by decide +kernel
theorem d_Mo_divisor_74 : decode b_Mo_divisor 74 = .ok (.aload_n 0, 1) := by decide +kernel
theorem d_Mo_divisor_75 : decode b_Mo_divisor 75 = .ok (.bipush 10, 2) := by decide +kernel
theorem d_Mo_divisor_77 : decode b_Mo_divisor 77 = .ok (.invokevirtual 91, 3) := by decide +kernel
theorem d_Mo_divisor_80 : decode b_Mo_divisor 80 = .ok (.ifCond .eq 30, 3) := by decide +kernel
theorem d_Mo_divisor_83 : decode b_Mo_divisor 83 = .ok (.aload_n 0, 1) := by decide +kernel
theorem d_Mo_divisor_84 : decode b_Mo_divisor 84 = .ok (.bipush 11, 2) := by decide +kernel
theorem d_Mo_divisor_86 : decode b_Mo_divisor 86 = .ok (.invokevirtual 91, 3) := by decide +kernel
theorem d_Mo_divisor_89 : decode b_Mo_divisor 89 = .ok (.ifCond .eq 21, 3) := by decide +kernel
theorem d_Mo_divisor_92 : decode b_Mo_divisor 92 = .ok (.aload_n 0, 1) := by decide +kernel
theorem d_Mo_divisor_93 : decode b_Mo_divisor 93 = .ok (.bipush 10, 2) := by decide +kernel
theorem d_Mo_divisor_95 : decode b_Mo_divisor 95 = .ok (.invokevirtual 95, 3) := by decide +kernel
theorem d_Mo_divisor_98 : decode b_Mo_divisor 98 = .ok (.aload_n 0, 1) := by decide +kernel
theorem d_Mo_divisor_99 : decode b_Mo_divisor 99 = .ok (.bipush 11, 2) := by decide +kernel
theorem d_Mo_divisor_101 : decode b_Mo_divisor 101 = .ok (.invokevirtual 95, 3) := by decide +kernel
theorem d_Mo_divisor_104 : decode b_Mo_divisor 104 = .ok (.iinc 3 1, 3) := by decide +kernel
theorem d_Mo_divisor_107 : decode b_Mo_divisor 107 = .ok (.goto (-33), 3) := by decide +kernel
theorem d_Mo_divisor_110 : decode b_Mo_divisor 110 = .ok (.aload_n 0, 1) := by decide +kernel
theorem d_Mo_divisor_111 : decode b_Mo_divisor 111 = .ok (.getfield 35, 3) := by decide +kernel
theorem d_Mo_divisor_114 : decode b_Mo_divisor 114 = .ok (.bipush 11, 2) := by decide +kernel
theorem d_Mo_divisor_116 : decode b_Mo_divisor 116 = .ok (.iaload, 1) := by decide +kernel
theorem d_Mo_divisor_117 : decode b_Mo_divisor 117 = .ok (.ifCond .le 96, 3) := by decide +kernel
theorem d_Mo_divisor_120 : decode b_Mo_divisor 120 = .ok (.aload_n 0, 1) := by decide +kernel
theorem d_Mo_divisor_121 : decode b_Mo_divisor 121 = .ok (.bipush 10, 2) := by decide +kernel
theorem d_Mo_divisor_123 : decode b_Mo_divisor 123 = .ok (.invokevirtual 91, 3) := by decide +kernel
theorem d_Mo_divisor_126 : decode b_Mo_divisor 126 = .ok (.ifCond .eq 12, 3) := by decide +kernel
theorem d_Mo_divisor_129 : decode b_Mo_divisor 129 = .ok (.aload_n 0, 1) := by decide +kernel
theorem d_Mo_divisor_130 : decode b_Mo_divisor 130 = .ok (.bipush 10, 2) := by decide +kernel
theorem d_Mo_divisor_132 : decode b_Mo_divisor 132 = .ok (.invokevirtual 95, 3) := by decide +kernel
theorem d_Mo_divisor_135 : decode b_Mo_divisor 135 = .ok (.goto (-15), 3) := by decide +kernel
theorem d_Mo_divisor_138 : decode b_Mo_divisor 138 = .ok (.aload_n 0, 1) := by decide +kernel
theorem d_Mo_divisor_139 : decode b_Mo_divisor 139 = .ok (.getfield 35, 3) := by decide +kernel
theorem d_Mo_divisor_142 : decode b_Mo_divisor 142 = .ok (.bipush 11, 2) := by decide +kernel
theorem d_Mo_divisor_144 : decode b_Mo_divisor 144 = .ok (.iaload, 1) := by decide +kernel
theorem d_Mo_divisor_145 : decode b_Mo_divisor 145 = .ok (.ifCond .le 21, 3) := by decide +kernel
theorem d_Mo_divisor_148 : decode b_Mo_divisor 148 = .ok (.aload_n 0, 1) := by decide +kernel
theorem d_Mo_divisor_149 : decode b_Mo_divisor 149 = .ok (.bipush 11, 2) := by decide +kernel
theorem d_Mo_divisor_151 : decode b_Mo_divisor 151 = .ok (.invokevirtual 91, 3) := by decide +kernel
theorem d_Mo_divisor_154 : decode b_Mo_divisor 154 = .ok (.ifCond .eq 12, 3) := by decide +kernel
theorem d_Mo_divisor_157 : decode b_Mo_divisor 157 = .ok (.aload_n 0, 1) := by decide +kernel
theorem d_Mo_divisor_158 : decode b_Mo_divisor 158 = .ok (.bipush 11, 2) := by decide +kernel
theorem d_Mo_divisor_160 : decode b_Mo_divisor 160 = .ok (.invokevirtual 95, 3) := by decide +kernel
theorem d_Mo_divisor_163 : decode b_Mo_divisor 163 = .ok (.goto (-25), 3) := by decide +kernel
theorem d_Mo_divisor_166 : decode b_Mo_divisor 166 = .ok (.aload_n 0, 1) := by decide +kernel
theorem d_Mo_divisor_167 : decode b_Mo_divisor 167 = .ok (.getfield 35, 3) := by decide +kernel
theorem d_Mo_divisor_170 : decode b_Mo_divisor 170 = .ok (.bipush 11, 2) := by decide +kernel
theorem d_Mo_divisor_172 : decode b_Mo_divisor 172 = .ok (.iaload, 1) := by decide +kernel
theorem d_Mo_divisor_173 : decode b_Mo_divisor 173 = .ok (.ifCond .le (-63), 3) := by decide +kernel
theorem d_Mo_divisor_176 : decode b_Mo_divisor 176 = .ok (.aload_n 0, 1) := by decide +kernel
theorem d_Mo_divisor_177 : decode b_Mo_divisor 177 = .ok (.bipush 10, 2) := by decide +kernel
theorem d_Mo_divisor_179 : decode b_Mo_divisor 179 = .ok (.bipush 11, 2) := by decide +kernel
theorem d_Mo_divisor_181 : decode b_Mo_divisor 181 = .ok (.invokevirtual 70, 3) := by decide +kernel
theorem d_Mo_divisor_184 : decode b_Mo_divisor 184 = .ok (.ifCond .le 16, 3) := by decide +kernel
theorem d_Mo_divisor_187 : decode b_Mo_divisor 187 = .ok (.aload_n 0, 1) := by decide +kernel
theorem d_Mo_divisor_188 : decode b_Mo_divisor 188 = .ok (.bipush 10, 2) := by decide +kernel
theorem d_Mo_divisor_190 : decode b_Mo_divisor 190 = .ok (.bipush 10, 2) := by decide +kernel
theorem d_Mo_divisor_192 : decode b_Mo_divisor 192 = .ok (.bipush 11, 2) := by decide +kernel
theorem d_Mo_divisor_194 : decode b_Mo_divisor 194 = .ok (.invokevirtual 73, 3) := by decide +kernel
theorem d_Mo_divisor_197 : decode b_Mo_divisor 197 = .ok (.goto (-87), 3) := by decide +kernel
theorem d_Mo_divisor_200 : decode b_Mo_divisor 200 = .ok (.aload_n 0, 1) := by decide +kernel
theorem d_Mo_divisor_201 : decode b_Mo_divisor 201 = .ok (.bipush 11, 2) := by decide +kernel
theorem d_Mo_divisor_203 : decode b_Mo_divisor 203 = .ok (.bipush 11, 2) := by decide +kernel
theorem d_Mo_divisor_205 : decode b_Mo_divisor 205 = .ok (.bipush 10, 2) := by decide +kernel
theorem d_Mo_divisor_207 : decode b_Mo_divisor 207 = .ok (.invokevirtual 73, 3) := by decide +kernel
theorem d_Mo_divisor_210 : decode b_Mo_divisor 210 = .ok (.goto (-100), 3) := by decide +kernel
theorem d_Mo_divisor_213 : decode b_Mo_divisor 213 = .ok (.iconst 0, 1) := by decide +kernel
theorem d_Mo_divisor_214 : decode b_Mo_divisor 214 = .ok (.istore 4, 2) := by decide +kernel
theorem d_Mo_divisor_216 : decode b_Mo_divisor 216 = .ok (.iload 4, 2) := by decide +kernel
theorem d_Mo_divisor_218 : decode b_Mo_divisor 218 = .ok (.iload_n 3, 1) := by decide +kernel
theorem d_Mo_divisor_219 : decode b_Mo_divisor 219 = .ok (.if_icmp .ge 19, 3) := by decide +kernel
theorem d_Mo_divisor_222 : decode b_Mo_divisor 222 = .ok (.aload_n 0, 1) := by decide +kernel
theorem d_Mo_divisor_223 : decode b_Mo_divisor 223 = .ok (.bipush 10, 2) := by decide +kernel
theorem d_Mo_divisor_225 : decode b_Mo_divisor 225 = .ok (.bipush 10, 2) := by decide +kernel
theorem d_Mo_divisor_227 : decode b_Mo_divisor 227 = .ok (.bipush 10, 2) := by decide +kernel
theorem d_Mo_divisor_229 : decode b_Mo_divisor 229 = .ok (.invokevirtual 66, 3) := by decide +kernel
theorem d_Mo_divisor_232 : decode b_Mo_divisor 232 = .ok (.iinc 4 1, 3) := by decide +kernel
theorem d_Mo_divisor_235 : decode b_Mo_divisor 235 = .ok (.goto (-19), 3) := by decide +kernel
theorem d_Mo_divisor_238 : decode b_Mo_divisor 238 = .ok (.return_, 1) := by decide +kernel
/-! Mo_reduce: ('CellHeapModel', 'reduce', '()V') -/
abbrev b_Mo_reduce : ByteArray := prog_10_method_21_code
abbrev y_Mo_reduce : MethodName := ⟨R_Mo, "reduce", "()V"⟩
abbrev K_Mo_reduce := CanV y_Mo_reduce b_Mo_reduce 2 none 3 0 0
theorem I_Mo_reduce {h : HP}  {Φ : HP → Prop} (body : ∀ X : CX, Cok X b_Mo_reduce 2 R_Mo none → xR X = rml 3 0 0 → Qok X 0 0 (fun r h2 => r = none ∧ Φ h2) → Wg X 0 0 h [(0, .ref 0)] [] 0) : K_Mo_reduce [.ref 0] h Φ := Can.intro (by decide) (fun _ => Nat.le_of_ble_eq_true rfl) body
theorem M_Mo_reduce : Mv y_Mo_reduce b_Mo_reduce 2 none 0 8 := ⟨wx_in 1322 (by decide +kernel) rfl, wx_in 1321 (by decide +kernel) rfl, wx_in 57 (by decide +kernel) rfl, wx_in 73 (by decide +kernel) rfl, by decide +kernel, by decide, by decide, _, _, rfl⟩
theorem d_Mo_reduce_0 : decode b_Mo_reduce 0 = .ok (.aload_n 0, 1) := by decide +kernel
theorem d_Mo_reduce_1 : decode b_Mo_reduce 1 = .ok (.getfield 38, 3) := by decide +kernel
theorem d_Mo_reduce_4 : decode b_Mo_reduce 4 = .ok (.iconst 5, 1) := by decide +kernel
theorem d_Mo_reduce_5 : decode b_Mo_reduce 5 = .ok (.baload, 1) := by decide +kernel
theorem d_Mo_reduce_6 : decode b_Mo_reduce 6 = .ok (.ifCond .eq 39, 3) := by decide +kernel
theorem d_Mo_reduce_9 : decode b_Mo_reduce 9 = .ok (.aload_n 0, 1) := by decide +kernel
theorem d_Mo_reduce_10 : decode b_Mo_reduce 10 = .ok (.getfield 38, 3) := by decide +kernel
theorem d_Mo_reduce_13 : decode b_Mo_reduce 13 = .ok (.iconst 5, 1) := by decide +kernel
theorem d_Mo_reduce_14 : decode b_Mo_reduce 14 = .ok (.iconst 0, 1) := by decide +kernel
theorem d_Mo_reduce_15 : decode b_Mo_reduce 15 = .ok (.bastore, 1) := by decide +kernel
theorem d_Mo_reduce_16 : decode b_Mo_reduce 16 = .ok (.aload_n 0, 1) := by decide +kernel
theorem d_Mo_reduce_17 : decode b_Mo_reduce 17 = .ok (.getfield 38, 3) := by decide +kernel
theorem d_Mo_reduce_20 : decode b_Mo_reduce 20 = .ok (.iconst 4, 1) := by decide +kernel
theorem d_Mo_reduce_21 : decode b_Mo_reduce 21 = .ok (.aload_n 0, 1) := by decide +kernel
theorem d_Mo_reduce_22 : decode b_Mo_reduce 22 = .ok (.getfield 35, 3) := by decide +kernel
theorem d_Mo_reduce_25 : decode b_Mo_reduce 25 = .ok (.iconst 4, 1) := by decide +kernel
theorem d_Mo_reduce_26 : decode b_Mo_reduce 26 = .ok (.iaload, 1) := by decide +kernel
theorem d_Mo_reduce_27 : decode b_Mo_reduce 27 = .ok (.ifCond .le 16, 3) := by decide +kernel
theorem d_Mo_reduce_30 : decode b_Mo_reduce 30 = .ok (.aload_n 0, 1) := by decide +kernel
theorem d_Mo_reduce_31 : decode b_Mo_reduce 31 = .ok (.getfield 38, 3) := by decide +kernel
theorem d_Mo_reduce_34 : decode b_Mo_reduce 34 = .ok (.iconst 4, 1) := by decide +kernel
theorem d_Mo_reduce_35 : decode b_Mo_reduce 35 = .ok (.baload, 1) := by decide +kernel
theorem d_Mo_reduce_36 : decode b_Mo_reduce 36 = .ok (.ifCond .ne 7, 3) := by decide +kernel
theorem d_Mo_reduce_39 : decode b_Mo_reduce 39 = .ok (.iconst 1, 1) := by decide +kernel
theorem d_Mo_reduce_40 : decode b_Mo_reduce 40 = .ok (.goto 4, 3) := by decide +kernel
theorem d_Mo_reduce_43 : decode b_Mo_reduce 43 = .ok (.iconst 0, 1) := by decide +kernel
theorem d_Mo_reduce_44 : decode b_Mo_reduce 44 = .ok (.bastore, 1) := by decide +kernel
theorem d_Mo_reduce_45 : decode b_Mo_reduce 45 = .ok (.aload_n 0, 1) := by decide +kernel
theorem d_Mo_reduce_46 : decode b_Mo_reduce 46 = .ok (.iconst 4, 1) := by decide +kernel
theorem d_Mo_reduce_47 : decode b_Mo_reduce 47 = .ok (.iconst 5, 1) := by decide +kernel
theorem d_Mo_reduce_48 : decode b_Mo_reduce 48 = .ok (.invokevirtual 98, 3) := by decide +kernel
theorem d_Mo_reduce_51 : decode b_Mo_reduce 51 = .ok (.aload_n 0, 1) := by decide +kernel
theorem d_Mo_reduce_52 : decode b_Mo_reduce 52 = .ok (.getfield 35, 3) := by decide +kernel
theorem d_Mo_reduce_55 : decode b_Mo_reduce 55 = .ok (.bipush 10, 2) := by decide +kernel
theorem d_Mo_reduce_57 : decode b_Mo_reduce 57 = .ok (.iaload, 1) := by decide +kernel
theorem d_Mo_reduce_58 : decode b_Mo_reduce 58 = .ok (.iconst 1, 1) := by decide +kernel
theorem d_Mo_reduce_59 : decode b_Mo_reduce 59 = .ok (.if_icmp .ne 16, 3) := by decide +kernel
theorem d_Mo_reduce_62 : decode b_Mo_reduce 62 = .ok (.aload_n 0, 1) := by decide +kernel
theorem d_Mo_reduce_63 : decode b_Mo_reduce 63 = .ok (.getfield 32, 3) := by decide +kernel
theorem d_Mo_reduce_66 : decode b_Mo_reduce 66 = .ok (.sipush 1000, 3) := by decide +kernel
theorem d_Mo_reduce_69 : decode b_Mo_reduce 69 = .ok (.iaload, 1) := by decide +kernel
theorem d_Mo_reduce_70 : decode b_Mo_reduce 70 = .ok (.iconst 1, 1) := by decide +kernel
theorem d_Mo_reduce_71 : decode b_Mo_reduce 71 = .ok (.if_icmp .ne 4, 3) := by decide +kernel
theorem d_Mo_reduce_74 : decode b_Mo_reduce 74 = .ok (.return_, 1) := by decide +kernel
theorem d_Mo_reduce_75 : decode b_Mo_reduce 75 = .ok (.aload_n 0, 1) := by decide +kernel
theorem d_Mo_reduce_76 : decode b_Mo_reduce 76 = .ok (.getfield 38, 3) := by decide +kernel
theorem d_Mo_reduce_79 : decode b_Mo_reduce 79 = .ok (.iconst 4, 1) := by decide +kernel
theorem d_Mo_reduce_80 : decode b_Mo_reduce 80 = .ok (.baload, 1) := by decide +kernel
theorem d_Mo_reduce_81 : decode b_Mo_reduce 81 = .ok (.istore_n 1, 1) := by decide +kernel
theorem d_Mo_reduce_82 : decode b_Mo_reduce 82 = .ok (.aload_n 0, 1) := by decide +kernel
theorem d_Mo_reduce_83 : decode b_Mo_reduce 83 = .ok (.bipush 12, 2) := by decide +kernel
theorem d_Mo_reduce_85 : decode b_Mo_reduce 85 = .ok (.iconst 4, 1) := by decide +kernel
theorem d_Mo_reduce_86 : decode b_Mo_reduce 86 = .ok (.bipush 10, 2) := by decide +kernel
theorem d_Mo_reduce_88 : decode b_Mo_reduce 88 = .ok (.invokevirtual 101, 3) := by decide +kernel
theorem d_Mo_reduce_91 : decode b_Mo_reduce 91 = .ok (.aload_n 0, 1) := by decide +kernel
theorem d_Mo_reduce_92 : decode b_Mo_reduce 92 = .ok (.iconst 4, 1) := by decide +kernel
theorem d_Mo_reduce_93 : decode b_Mo_reduce 93 = .ok (.bipush 12, 2) := by decide +kernel
theorem d_Mo_reduce_95 : decode b_Mo_reduce 95 = .ok (.invokevirtual 80, 3) := by decide +kernel
theorem d_Mo_reduce_98 : decode b_Mo_reduce 98 = .ok (.aload_n 0, 1) := by decide +kernel
theorem d_Mo_reduce_99 : decode b_Mo_reduce 99 = .ok (.getfield 38, 3) := by decide +kernel
theorem d_Mo_reduce_102 : decode b_Mo_reduce 102 = .ok (.iconst 4, 1) := by decide +kernel
theorem d_Mo_reduce_103 : decode b_Mo_reduce 103 = .ok (.iload_n 1, 1) := by decide +kernel
theorem d_Mo_reduce_104 : decode b_Mo_reduce 104 = .ok (.ifCond .eq 16, 3) := by decide +kernel
theorem d_Mo_reduce_107 : decode b_Mo_reduce 107 = .ok (.aload_n 0, 1) := by decide +kernel
theorem d_Mo_reduce_108 : decode b_Mo_reduce 108 = .ok (.getfield 35, 3) := by decide +kernel
theorem d_Mo_reduce_111 : decode b_Mo_reduce 111 = .ok (.iconst 4, 1) := by decide +kernel
theorem d_Mo_reduce_112 : decode b_Mo_reduce 112 = .ok (.iaload, 1) := by decide +kernel
theorem d_Mo_reduce_113 : decode b_Mo_reduce 113 = .ok (.ifCond .le 7, 3) := by decide +kernel
theorem d_Mo_reduce_116 : decode b_Mo_reduce 116 = .ok (.iconst 1, 1) := by decide +kernel
theorem d_Mo_reduce_117 : decode b_Mo_reduce 117 = .ok (.goto 4, 3) := by decide +kernel
theorem d_Mo_reduce_120 : decode b_Mo_reduce 120 = .ok (.iconst 0, 1) := by decide +kernel
theorem d_Mo_reduce_121 : decode b_Mo_reduce 121 = .ok (.bastore, 1) := by decide +kernel
theorem d_Mo_reduce_122 : decode b_Mo_reduce 122 = .ok (.aload_n 0, 1) := by decide +kernel
theorem d_Mo_reduce_123 : decode b_Mo_reduce 123 = .ok (.bipush 12, 2) := by decide +kernel
theorem d_Mo_reduce_125 : decode b_Mo_reduce 125 = .ok (.iconst 5, 1) := by decide +kernel
theorem d_Mo_reduce_126 : decode b_Mo_reduce 126 = .ok (.bipush 10, 2) := by decide +kernel
theorem d_Mo_reduce_128 : decode b_Mo_reduce 128 = .ok (.invokevirtual 101, 3) := by decide +kernel
theorem d_Mo_reduce_131 : decode b_Mo_reduce 131 = .ok (.aload_n 0, 1) := by decide +kernel
theorem d_Mo_reduce_132 : decode b_Mo_reduce 132 = .ok (.iconst 5, 1) := by decide +kernel
theorem d_Mo_reduce_133 : decode b_Mo_reduce 133 = .ok (.bipush 12, 2) := by decide +kernel
theorem d_Mo_reduce_135 : decode b_Mo_reduce 135 = .ok (.invokevirtual 80, 3) := by decide +kernel
theorem d_Mo_reduce_138 : decode b_Mo_reduce 138 = .ok (.return_, 1) := by decide +kernel
/-! Mo_rowOf: ('CellHeapModel', 'rowOf', '(I)I') -/
abbrev b_Mo_rowOf : ByteArray := prog_10_method_22_code
abbrev y_Mo_rowOf : MethodName := ⟨R_Mo, "rowOf", "(I)I"⟩
abbrev K_Mo_rowOf := CanI y_Mo_rowOf b_Mo_rowOf 1 ((some .int)) 0 0 0
theorem I_Mo_rowOf {h : HP} {v0 : Int32} {Φ : Int32 → HP → Prop} (body : ∀ X : CX, Cok X b_Mo_rowOf 1 R_Mo ((some .int)) → xR X = rml 0 0 0 → Qok X 0 0 (fun r h2 => ∃ v, r = some (.int v) ∧ Φ v h2) → Wg X 0 0 h [(0, .int v0)] [] 0) : K_Mo_rowOf [.int v0] h Φ := Can.intro (by decide) (fun _ => Nat.le_of_ble_eq_true rfl) body
theorem M_Mo_rowOf : Ms y_Mo_rowOf b_Mo_rowOf 1 ((some .int)) 1 := ⟨wx_in 1230 (by decide +kernel) rfl, wx_in 1229 (by decide +kernel) rfl, wx_in 73 (by decide +kernel) rfl, by decide +kernel, by decide⟩
theorem d_Mo_rowOf_0 : decode b_Mo_rowOf 0 = .ok (.bipush 13, 2) := by decide +kernel
theorem d_Mo_rowOf_2 : decode b_Mo_rowOf 2 = .ok (.iload_n 0, 1) := by decide +kernel
theorem d_Mo_rowOf_3 : decode b_Mo_rowOf 3 = .ok (.iadd, 1) := by decide +kernel
theorem d_Mo_rowOf_4 : decode b_Mo_rowOf 4 = .ok (.ireturn, 1) := by decide +kernel
/-! Mo_slotOf: ('CellHeapModel', 'slotOf', '(II)I') -/
abbrev b_Mo_slotOf : ByteArray := prog_10_method_23_code
abbrev y_Mo_slotOf : MethodName := ⟨R_Mo, "slotOf", "(II)I"⟩
abbrev K_Mo_slotOf := CanI y_Mo_slotOf b_Mo_slotOf 2 ((some .int)) 0 0 0
theorem I_Mo_slotOf {h : HP} {v0 : Int32} {v1 : Int32} {Φ : Int32 → HP → Prop} (body : ∀ X : CX, Cok X b_Mo_slotOf 2 R_Mo ((some .int)) → xR X = rml 0 0 0 → Qok X 0 0 (fun r h2 => ∃ v, r = some (.int v) ∧ Φ v h2) → Wg X 0 0 h [(0, .int v0), (1, .int v1)] [] 0) : K_Mo_slotOf [.int v0, .int v1] h Φ := Can.intro (by decide) (fun _ => Nat.le_of_ble_eq_true rfl) body
theorem M_Mo_slotOf : Ms y_Mo_slotOf b_Mo_slotOf 2 ((some .int)) 2 := ⟨wx_in 1219 (by decide +kernel) rfl, wx_in 1218 (by decide +kernel) rfl, wx_in 73 (by decide +kernel) rfl, by decide +kernel, by decide⟩
theorem d_Mo_slotOf_0 : decode b_Mo_slotOf 0 = .ok (.bipush 8, 2) := by decide +kernel
theorem d_Mo_slotOf_2 : decode b_Mo_slotOf 2 = .ok (.iconst 2, 1) := by decide +kernel
theorem d_Mo_slotOf_3 : decode b_Mo_slotOf 3 = .ok (.iload_n 0, 1) := by decide +kernel
theorem d_Mo_slotOf_4 : decode b_Mo_slotOf 4 = .ok (.imul, 1) := by decide +kernel
theorem d_Mo_slotOf_5 : decode b_Mo_slotOf 5 = .ok (.iadd, 1) := by decide +kernel
theorem d_Mo_slotOf_6 : decode b_Mo_slotOf 6 = .ok (.iload_n 1, 1) := by decide +kernel
theorem d_Mo_slotOf_7 : decode b_Mo_slotOf 7 = .ok (.iadd, 1) := by decide +kernel
theorem d_Mo_slotOf_8 : decode b_Mo_slotOf 8 = .ok (.ireturn, 1) := by decide +kernel
/-! Mo_setValue: ('CellHeapModel', 'setValue', '(III)V') -/
abbrev b_Mo_setValue : ByteArray := prog_10_method_24_code
abbrev y_Mo_setValue : MethodName := ⟨R_Mo, "setValue", "(III)V"⟩
abbrev K_Mo_setValue := CanV y_Mo_setValue b_Mo_setValue 4 none 0 0 0
theorem I_Mo_setValue {h : HP} {v1 : Int32} {v2 : Int32} {v3 : Int32} {Φ : HP → Prop} (body : ∀ X : CX, Cok X b_Mo_setValue 4 R_Mo none → xR X = rml 0 0 0 → Qok X 0 0 (fun r h2 => r = none ∧ Φ h2) → Wg X 0 0 h [(0, .ref 0), (1, .int v1), (2, .int v2), (3, .int v3)] [] 0) : K_Mo_setValue [.ref 0, .int v1, .int v2, .int v3] h Φ := Can.intro (by decide) (fun _ => Nat.le_of_ble_eq_true rfl) body
theorem M_Mo_setValue : Mv y_Mo_setValue b_Mo_setValue 4 none 3 8 := ⟨wx_in 1165 (by decide +kernel) rfl, wx_in 1164 (by decide +kernel) rfl, wx_in 26 (by decide +kernel) rfl, wx_in 73 (by decide +kernel) rfl, by decide +kernel, by decide, by decide, _, _, rfl⟩
theorem d_Mo_setValue_0 : decode b_Mo_setValue 0 = .ok (.aload_n 0, 1) := by decide +kernel
theorem d_Mo_setValue_1 : decode b_Mo_setValue 1 = .ok (.getfield 7, 3) := by decide +kernel
theorem d_Mo_setValue_4 : decode b_Mo_setValue 4 = .ok (.iload_n 1, 1) := by decide +kernel
theorem d_Mo_setValue_5 : decode b_Mo_setValue 5 = .ok (.iload_n 2, 1) := by decide +kernel
theorem d_Mo_setValue_6 : decode b_Mo_setValue 6 = .ok (.iastore, 1) := by decide +kernel
theorem d_Mo_setValue_7 : decode b_Mo_setValue 7 = .ok (.aload_n 0, 1) := by decide +kernel
theorem d_Mo_setValue_8 : decode b_Mo_setValue 8 = .ok (.getfield 13, 3) := by decide +kernel
theorem d_Mo_setValue_11 : decode b_Mo_setValue 11 = .ok (.iload_n 1, 1) := by decide +kernel
theorem d_Mo_setValue_12 : decode b_Mo_setValue 12 = .ok (.iload_n 3, 1) := by decide +kernel
theorem d_Mo_setValue_13 : decode b_Mo_setValue 13 = .ok (.iastore, 1) := by decide +kernel
theorem d_Mo_setValue_14 : decode b_Mo_setValue 14 = .ok (.return_, 1) := by decide +kernel
/-! Mo_copyValue: ('CellHeapModel', 'copyValue', '(II)V') -/
abbrev b_Mo_copyValue : ByteArray := prog_10_method_25_code
abbrev y_Mo_copyValue : MethodName := ⟨R_Mo, "copyValue", "(II)V"⟩
abbrev K_Mo_copyValue := CanV y_Mo_copyValue b_Mo_copyValue 3 none 0 0 0
theorem I_Mo_copyValue {h : HP} {v1 : Int32} {v2 : Int32} {Φ : HP → Prop} (body : ∀ X : CX, Cok X b_Mo_copyValue 3 R_Mo none → xR X = rml 0 0 0 → Qok X 0 0 (fun r h2 => r = none ∧ Φ h2) → Wg X 0 0 h [(0, .ref 0), (1, .int v1), (2, .int v2)] [] 0) : K_Mo_copyValue [.ref 0, .int v1, .int v2] h Φ := Can.intro (by decide) (fun _ => Nat.le_of_ble_eq_true rfl) body
theorem M_Mo_copyValue : Mv y_Mo_copyValue b_Mo_copyValue 3 none 2 8 := ⟨wx_in 1238 (by decide +kernel) rfl, wx_in 1237 (by decide +kernel) rfl, wx_in 41 (by decide +kernel) rfl, wx_in 73 (by decide +kernel) rfl, by decide +kernel, by decide, by decide, _, _, rfl⟩
theorem d_Mo_copyValue_0 : decode b_Mo_copyValue 0 = .ok (.aload_n 0, 1) := by decide +kernel
theorem d_Mo_copyValue_1 : decode b_Mo_copyValue 1 = .ok (.getfield 7, 3) := by decide +kernel
theorem d_Mo_copyValue_4 : decode b_Mo_copyValue 4 = .ok (.iload_n 1, 1) := by decide +kernel
theorem d_Mo_copyValue_5 : decode b_Mo_copyValue 5 = .ok (.aload_n 0, 1) := by decide +kernel
theorem d_Mo_copyValue_6 : decode b_Mo_copyValue 6 = .ok (.getfield 7, 3) := by decide +kernel
theorem d_Mo_copyValue_9 : decode b_Mo_copyValue 9 = .ok (.iload_n 2, 1) := by decide +kernel
theorem d_Mo_copyValue_10 : decode b_Mo_copyValue 10 = .ok (.iaload, 1) := by decide +kernel
theorem d_Mo_copyValue_11 : decode b_Mo_copyValue 11 = .ok (.iastore, 1) := by decide +kernel
theorem d_Mo_copyValue_12 : decode b_Mo_copyValue 12 = .ok (.aload_n 0, 1) := by decide +kernel
theorem d_Mo_copyValue_13 : decode b_Mo_copyValue 13 = .ok (.getfield 13, 3) := by decide +kernel
theorem d_Mo_copyValue_16 : decode b_Mo_copyValue 16 = .ok (.iload_n 1, 1) := by decide +kernel
theorem d_Mo_copyValue_17 : decode b_Mo_copyValue 17 = .ok (.aload_n 0, 1) := by decide +kernel
theorem d_Mo_copyValue_18 : decode b_Mo_copyValue 18 = .ok (.getfield 13, 3) := by decide +kernel
theorem d_Mo_copyValue_21 : decode b_Mo_copyValue 21 = .ok (.iload_n 2, 1) := by decide +kernel
theorem d_Mo_copyValue_22 : decode b_Mo_copyValue 22 = .ok (.iaload, 1) := by decide +kernel
theorem d_Mo_copyValue_23 : decode b_Mo_copyValue 23 = .ok (.iastore, 1) := by decide +kernel
theorem d_Mo_copyValue_24 : decode b_Mo_copyValue 24 = .ok (.return_, 1) := by decide +kernel
/-! Mo_isFixed: ('CellHeapModel', 'isFixed', '(I)Z') -/
abbrev b_Mo_isFixed : ByteArray := prog_10_method_31_code
abbrev y_Mo_isFixed : MethodName := ⟨R_Mo, "isFixed", "(I)Z"⟩
abbrev K_Mo_isFixed := CanI y_Mo_isFixed b_Mo_isFixed 3 ((some .boolean)) 1 0 0
theorem I_Mo_isFixed {h : HP} {v1 : Int32} {Φ : Int32 → HP → Prop} (body : ∀ X : CX, Cok X b_Mo_isFixed 3 R_Mo ((some .boolean)) → xR X = rml 1 0 0 → Qok X 0 0 (fun r h2 => ∃ v, r = some (.int v) ∧ Φ v h2) → Wg X 0 0 h [(0, .ref 0), (1, .int v1)] [] 0) : K_Mo_isFixed [.ref 0, .int v1] h Φ := Can.intro (by decide) (fun _ => Nat.le_of_ble_eq_true rfl) body
theorem M_Mo_isFixed : Mv y_Mo_isFixed b_Mo_isFixed 3 ((some .boolean)) 1 8 := ⟨wx_in 1199 (by decide +kernel) rfl, wx_in 1198 (by decide +kernel) rfl, wx_in 33 (by decide +kernel) rfl, wx_in 73 (by decide +kernel) rfl, by decide +kernel, by decide, by decide, _, _, rfl⟩
theorem d_Mo_isFixed_0 : decode b_Mo_isFixed 0 = .ok (.aload_n 0, 1) := by decide +kernel
theorem d_Mo_isFixed_1 : decode b_Mo_isFixed 1 = .ok (.getfield 35, 3) := by decide +kernel
theorem d_Mo_isFixed_4 : decode b_Mo_isFixed 4 = .ok (.iload_n 1, 1) := by decide +kernel
theorem d_Mo_isFixed_5 : decode b_Mo_isFixed 5 = .ok (.iaload, 1) := by decide +kernel
theorem d_Mo_isFixed_6 : decode b_Mo_isFixed 6 = .ok (.iconst 2, 1) := by decide +kernel
theorem d_Mo_isFixed_7 : decode b_Mo_isFixed 7 = .ok (.if_icmp .gt 30, 3) := by decide +kernel
theorem d_Mo_isFixed_10 : decode b_Mo_isFixed 10 = .ok (.aload_n 0, 1) := by decide +kernel
theorem d_Mo_isFixed_11 : decode b_Mo_isFixed 11 = .ok (.getfield 35, 3) := by decide +kernel
theorem d_Mo_isFixed_14 : decode b_Mo_isFixed 14 = .ok (.iload_n 1, 1) := by decide +kernel
theorem d_Mo_isFixed_15 : decode b_Mo_isFixed 15 = .ok (.iaload, 1) := by decide +kernel
theorem d_Mo_isFixed_16 : decode b_Mo_isFixed 16 = .ok (.iconst 2, 1) := by decide +kernel
theorem d_Mo_isFixed_17 : decode b_Mo_isFixed 17 = .ok (.if_icmp .ne 22, 3) := by decide +kernel
theorem d_Mo_isFixed_20 : decode b_Mo_isFixed 20 = .ok (.aload_n 0, 1) := by decide +kernel
theorem d_Mo_isFixed_21 : decode b_Mo_isFixed 21 = .ok (.getfield 32, 3) := by decide +kernel
theorem d_Mo_isFixed_24 : decode b_Mo_isFixed 24 = .ok (.bipush 100, 2) := by decide +kernel
theorem d_Mo_isFixed_26 : decode b_Mo_isFixed 26 = .ok (.iload_n 1, 1) := by decide +kernel
theorem d_Mo_isFixed_27 : decode b_Mo_isFixed 27 = .ok (.imul, 1) := by decide +kernel
theorem d_Mo_isFixed_28 : decode b_Mo_isFixed 28 = .ok (.iconst 1, 1) := by decide +kernel
theorem d_Mo_isFixed_29 : decode b_Mo_isFixed 29 = .ok (.iadd, 1) := by decide +kernel
theorem d_Mo_isFixed_30 : decode b_Mo_isFixed 30 = .ok (.iaload, 1) := by decide +kernel
theorem d_Mo_isFixed_31 : decode b_Mo_isFixed 31 = .ok (.sipush 16384, 3) := by decide +kernel
theorem d_Mo_isFixed_34 : decode b_Mo_isFixed 34 = .ok (.if_icmp .le 5, 3) := by decide +kernel
theorem d_Mo_isFixed_37 : decode b_Mo_isFixed 37 = .ok (.iconst 0, 1) := by decide +kernel
theorem d_Mo_isFixed_38 : decode b_Mo_isFixed 38 = .ok (.ireturn, 1) := by decide +kernel
theorem d_Mo_isFixed_39 : decode b_Mo_isFixed 39 = .ok (.aload_n 0, 1) := by decide +kernel
theorem d_Mo_isFixed_40 : decode b_Mo_isFixed 40 = .ok (.iload_n 1, 1) := by decide +kernel
theorem d_Mo_isFixed_41 : decode b_Mo_isFixed 41 = .ok (.iconst 0, 1) := by decide +kernel
theorem d_Mo_isFixed_42 : decode b_Mo_isFixed 42 = .ok (.invokevirtual 62, 3) := by decide +kernel
theorem d_Mo_isFixed_45 : decode b_Mo_isFixed 45 = .ok (.aload_n 0, 1) := by decide +kernel
theorem d_Mo_isFixed_46 : decode b_Mo_isFixed 46 = .ok (.iload_n 1, 1) := by decide +kernel
theorem d_Mo_isFixed_47 : decode b_Mo_isFixed 47 = .ok (.iconst 1, 1) := by decide +kernel
theorem d_Mo_isFixed_48 : decode b_Mo_isFixed 48 = .ok (.invokevirtual 62, 3) := by decide +kernel
theorem d_Mo_isFixed_51 : decode b_Mo_isFixed 51 = .ok (.bipush 16, 2) := by decide +kernel
theorem d_Mo_isFixed_53 : decode b_Mo_isFixed 53 = .ok (.ishl, 1) := by decide +kernel
theorem d_Mo_isFixed_54 : decode b_Mo_isFixed 54 = .ok (.ior, 1) := by decide +kernel
theorem d_Mo_isFixed_55 : decode b_Mo_isFixed 55 = .ok (.istore_n 2, 1) := by decide +kernel
theorem d_Mo_isFixed_56 : decode b_Mo_isFixed 56 = .ok (.aload_n 0, 1) := by decide +kernel
theorem d_Mo_isFixed_57 : decode b_Mo_isFixed 57 = .ok (.getfield 38, 3) := by decide +kernel
theorem d_Mo_isFixed_60 : decode b_Mo_isFixed 60 = .ok (.iload_n 1, 1) := by decide +kernel
theorem d_Mo_isFixed_61 : decode b_Mo_isFixed 61 = .ok (.baload, 1) := by decide +kernel
theorem d_Mo_isFixed_62 : decode b_Mo_isFixed 62 = .ok (.ifCond .eq 21, 3) := by decide +kernel
theorem d_Mo_isFixed_65 : decode b_Mo_isFixed 65 = .ok (.iload_n 2, 1) := by decide +kernel
theorem d_Mo_isFixed_66 : decode b_Mo_isFixed 66 = .ok (.ldc 123, 2) := by decide +kernel
theorem d_Mo_isFixed_68 : decode b_Mo_isFixed 68 = .ok (.if_icmp .gt 11, 3) := by decide +kernel
theorem d_Mo_isFixed_71 : decode b_Mo_isFixed 71 = .ok (.iload_n 2, 1) := by decide +kernel
theorem d_Mo_isFixed_72 : decode b_Mo_isFixed 72 = .ok (.ifCond .lt 7, 3) := by decide +kernel
theorem d_Mo_isFixed_75 : decode b_Mo_isFixed 75 = .ok (.iconst 1, 1) := by decide +kernel
theorem d_Mo_isFixed_76 : decode b_Mo_isFixed 76 = .ok (.goto 22, 3) := by decide +kernel
theorem d_Mo_isFixed_79 : decode b_Mo_isFixed 79 = .ok (.iconst 0, 1) := by decide +kernel
theorem d_Mo_isFixed_80 : decode b_Mo_isFixed 80 = .ok (.goto 18, 3) := by decide +kernel
theorem d_Mo_isFixed_83 : decode b_Mo_isFixed 83 = .ok (.iload_n 2, 1) := by decide +kernel
theorem d_Mo_isFixed_84 : decode b_Mo_isFixed 84 = .ok (.ldc 123, 2) := by decide +kernel
theorem d_Mo_isFixed_86 : decode b_Mo_isFixed 86 = .ok (.if_icmp .ge 11, 3) := by decide +kernel
theorem d_Mo_isFixed_89 : decode b_Mo_isFixed 89 = .ok (.iload_n 2, 1) := by decide +kernel
theorem d_Mo_isFixed_90 : decode b_Mo_isFixed 90 = .ok (.ifCond .lt 7, 3) := by decide +kernel
theorem d_Mo_isFixed_93 : decode b_Mo_isFixed 93 = .ok (.iconst 1, 1) := by decide +kernel
theorem d_Mo_isFixed_94 : decode b_Mo_isFixed 94 = .ok (.goto 4, 3) := by decide +kernel
theorem d_Mo_isFixed_97 : decode b_Mo_isFixed 97 = .ok (.iconst 0, 1) := by decide +kernel
theorem d_Mo_isFixed_98 : decode b_Mo_isFixed 98 = .ok (.ireturn, 1) := by decide +kernel
/-! Mo_cellsOf: ('CellHeapModel', 'cellsOf', '(I)I') -/
abbrev b_Mo_cellsOf : ByteArray := prog_10_method_32_code
abbrev y_Mo_cellsOf : MethodName := ⟨R_Mo, "cellsOf", "(I)I"⟩
abbrev K_Mo_cellsOf := CanI y_Mo_cellsOf b_Mo_cellsOf 2 ((some .int)) 2 0 0
theorem I_Mo_cellsOf {h : HP} {v1 : Int32} {Φ : Int32 → HP → Prop} (body : ∀ X : CX, Cok X b_Mo_cellsOf 2 R_Mo ((some .int)) → xR X = rml 2 0 0 → Qok X 0 0 (fun r h2 => ∃ v, r = some (.int v) ∧ Φ v h2) → Wg X 0 0 h [(0, .ref 0), (1, .int v1)] [] 0) : K_Mo_cellsOf [.ref 0, .int v1] h Φ := Can.intro (by decide) (fun _ => Nat.le_of_ble_eq_true rfl) body
theorem M_Mo_cellsOf : Mv y_Mo_cellsOf b_Mo_cellsOf 2 ((some .int)) 1 8 := ⟨wx_in 1195 (by decide +kernel) rfl, wx_in 1194 (by decide +kernel) rfl, wx_in 32 (by decide +kernel) rfl, wx_in 73 (by decide +kernel) rfl, by decide +kernel, by decide, by decide, _, _, rfl⟩
theorem d_Mo_cellsOf_0 : decode b_Mo_cellsOf 0 = .ok (.aload_n 0, 1) := by decide +kernel
theorem d_Mo_cellsOf_1 : decode b_Mo_cellsOf 1 = .ok (.iload_n 1, 1) := by decide +kernel
theorem d_Mo_cellsOf_2 : decode b_Mo_cellsOf 2 = .ok (.invokevirtual 124, 3) := by decide +kernel
theorem d_Mo_cellsOf_5 : decode b_Mo_cellsOf 5 = .ok (.ifCond .eq 7, 3) := by decide +kernel
theorem d_Mo_cellsOf_8 : decode b_Mo_cellsOf 8 = .ok (.iconst 0, 1) := by decide +kernel
theorem d_Mo_cellsOf_9 : decode b_Mo_cellsOf 9 = .ok (.goto 16, 3) := by decide +kernel
theorem d_Mo_cellsOf_12 : decode b_Mo_cellsOf 12 = .ok (.iconst 1, 1) := by decide +kernel
theorem d_Mo_cellsOf_13 : decode b_Mo_cellsOf 13 = .ok (.aload_n 0, 1) := by decide +kernel
theorem d_Mo_cellsOf_14 : decode b_Mo_cellsOf 14 = .ok (.iload_n 1, 1) := by decide +kernel
theorem d_Mo_cellsOf_15 : decode b_Mo_cellsOf 15 = .ok (.invokevirtual 76, 3) := by decide +kernel
theorem d_Mo_cellsOf_18 : decode b_Mo_cellsOf 18 = .ok (.bipush 31, 2) := by decide +kernel
theorem d_Mo_cellsOf_20 : decode b_Mo_cellsOf 20 = .ok (.iadd, 1) := by decide +kernel
theorem d_Mo_cellsOf_21 : decode b_Mo_cellsOf 21 = .ok (.bipush 32, 2) := by decide +kernel
theorem d_Mo_cellsOf_23 : decode b_Mo_cellsOf 23 = .ok (.idiv, 1) := by decide +kernel
theorem d_Mo_cellsOf_24 : decode b_Mo_cellsOf 24 = .ok (.iadd, 1) := by decide +kernel
theorem d_Mo_cellsOf_25 : decode b_Mo_cellsOf 25 = .ok (.ireturn, 1) := by decide +kernel
set_option maxRecDepth 20000 in
theorem g_Mo_trim_0 {X : CX} {h : HP} {v1 : Int32} {Φ : HP → Prop} (C : Cok X b_Mo_trim 2 R_Mo none) (Rm : xR X = rml 0 0 0) (Q : Qok X 0 0 (fun r h2 => r = none ∧ Φ h2)) 
    (K : vp_in v1 218 ∧ (((h 9 v1.toNatClampNeg) ≤ 0 → vp_in v1 218 ∧ ((¬ (h 9 v1.toNatClampNeg) = 0 → Φ h) ∧ ((h 9 v1.toNatClampNeg) = 0 → vp_in v1 218 ∧ (Φ (up h 10 v1.toNatClampNeg (vp_nar .boolean 0)))))) ∧ (¬ (h 9 v1.toNatClampNeg) ≤ 0 → vp_in v1 218 ∧ (vp_in (((100 * v1) + (h 9 v1.toNatClampNeg)) - 1) 21800 ∧ ((¬ (h 8 (((100 * v1) + (h 9 v1.toNatClampNeg)) - 1).toNatClampNeg) = 0 → vp_in v1 218 ∧ ((¬ (h 9 v1.toNatClampNeg) = 0 → Φ h) ∧ ((h 9 v1.toNatClampNeg) = 0 → vp_in v1 218 ∧ (Φ (up h 10 v1.toNatClampNeg (vp_nar .boolean 0)))))) ∧ ((h 8 (((100 * v1) + (h 9 v1.toNatClampNeg)) - 1).toNatClampNeg) = 0 → vp_in v1 218 ∧ (vp_in v1 218 ∧ (Wg X 0 0 (up h 9 v1.toNatClampNeg ((h 9 v1.toNatClampNeg) - 1)) [(0, .ref 0), (1, .int v1)] [] 0)))))))) :
    Wg X 0 0 h [(0, .ref 0), (1, .int v1)] [] 0 := by
  refine r_aload_n C 0 rfl d_Mo_trim_0 ?_
  refine gf_Mo_length (k2 := 9) C rfl rfl k_1031 d_Mo_trim_1 ?_
  refine r_iload_n C 1 rfl d_Mo_trim_4 ?_
  obtain ⟨s0, K⟩ := K
  refine r_iald C rfl s0 d_Mo_trim_5 ?_
  refine r_if_le C 43 d_Mo_trim_6 (by decide) ⟨fun c0 => ?_, fun c0 => ?_⟩
  · have K := K.1 c0
    refine r_aload_n C 0 rfl d_Mo_trim_43 ?_
    refine gf_Mo_length (k2 := 9) C rfl rfl k_1031 d_Mo_trim_44 ?_
    refine r_iload_n C 1 rfl d_Mo_trim_47 ?_
    obtain ⟨s0, K⟩ := K
    refine r_iald C rfl s0 d_Mo_trim_48 ?_
    refine r_if_ne C 59 d_Mo_trim_49 (by decide) ⟨fun c0 => ?_, fun c0 => ?_⟩
    · have K := K.1 c0
      exact q_vret C Q d_Mo_trim_59 ⟨rfl, K⟩
    · have K := K.2 c0
      refine r_aload_n C 0 rfl d_Mo_trim_52 ?_
      refine gf_Mo_isBelow (k2 := 10) C rfl rfl k_1032 d_Mo_trim_53 ?_
      refine r_iload_n C 1 rfl d_Mo_trim_56 ?_
      refine r_iconst (v := 0) C (by decide) d_Mo_trim_57 ?_
      obtain ⟨s0, K⟩ := K
      refine r_zast C rfl s0 d_Mo_trim_58 ?_
      exact q_vret C Q d_Mo_trim_59 ⟨rfl, K⟩
  · have K := K.2 c0
    refine r_aload_n C 0 rfl d_Mo_trim_9 ?_
    refine gf_Mo_limb (k2 := 8) C rfl rfl k_1030 d_Mo_trim_10 ?_
    refine r_bipush (v := 100) C (by decide) d_Mo_trim_13 ?_
    refine r_iload_n C 1 rfl d_Mo_trim_15 ?_
    refine r_imul C d_Mo_trim_16 ?_
    refine r_aload_n C 0 rfl d_Mo_trim_17 ?_
    refine gf_Mo_length (k2 := 9) C rfl rfl k_1031 d_Mo_trim_18 ?_
    refine r_iload_n C 1 rfl d_Mo_trim_21 ?_
    obtain ⟨s0, K⟩ := K
    refine r_iald C rfl s0 d_Mo_trim_22 ?_
    refine r_iadd C d_Mo_trim_23 ?_
    refine r_iconst (v := 1) C (by decide) d_Mo_trim_24 ?_
    refine r_isub C d_Mo_trim_25 ?_
    obtain ⟨s0, K⟩ := K
    refine r_iald C rfl s0 d_Mo_trim_26 ?_
    refine r_if_ne C 43 d_Mo_trim_27 (by decide) ⟨fun c0 => ?_, fun c0 => ?_⟩
    · have K := K.1 c0
      refine r_aload_n C 0 rfl d_Mo_trim_43 ?_
      refine gf_Mo_length (k2 := 9) C rfl rfl k_1031 d_Mo_trim_44 ?_
      refine r_iload_n C 1 rfl d_Mo_trim_47 ?_
      obtain ⟨s0, K⟩ := K
      refine r_iald C rfl s0 d_Mo_trim_48 ?_
      refine r_if_ne C 59 d_Mo_trim_49 (by decide) ⟨fun c0 => ?_, fun c0 => ?_⟩
      · have K := K.1 c0
        exact q_vret C Q d_Mo_trim_59 ⟨rfl, K⟩
      · have K := K.2 c0
        refine r_aload_n C 0 rfl d_Mo_trim_52 ?_
        refine gf_Mo_isBelow (k2 := 10) C rfl rfl k_1032 d_Mo_trim_53 ?_
        refine r_iload_n C 1 rfl d_Mo_trim_56 ?_
        refine r_iconst (v := 0) C (by decide) d_Mo_trim_57 ?_
        obtain ⟨s0, K⟩ := K
        refine r_zast C rfl s0 d_Mo_trim_58 ?_
        exact q_vret C Q d_Mo_trim_59 ⟨rfl, K⟩
    · have K := K.2 c0
      refine r_aload_n C 0 rfl d_Mo_trim_30 ?_
      refine gf_Mo_length (k2 := 9) C rfl rfl k_1031 d_Mo_trim_31 ?_
      refine r_iload_n C 1 rfl d_Mo_trim_34 ?_
      refine r_dup2 C rfl rfl d_Mo_trim_35 ?_
      obtain ⟨s0, K⟩ := K
      refine r_iald C rfl s0 d_Mo_trim_36 ?_
      refine r_iconst (v := 1) C (by decide) d_Mo_trim_37 ?_
      refine r_isub C d_Mo_trim_38 ?_
      obtain ⟨s0, K⟩ := K
      refine r_iast C rfl s0 d_Mo_trim_39 ?_
      refine r_goto C 0 d_Mo_trim_40 (by decide) ?_
      exact K
set_option maxRecDepth 20000 in
theorem g_Mo_setLong_0 {X : CX} {h : HP} {v1 : Int32} {v2 : Int64} {Φ : HP → Prop} (C : Cok X b_Mo_setLong 7 R_Mo none) (Rm : xR X = rml 1 0 0) (Q : Qok X 0 0 (fun r h2 => r = none ∧ Φ h2)) 
    (K : (0 ≤ (lg_cmp v2 0) → vp_in v1 218 ∧ (Wg X 0 0 (up h 10 v1.toNatClampNeg (vp_nar .boolean 0)) [(0, .ref 0), (1, .int v1), (2, .long v2), (4, .int 0)] [] 20)) ∧ (¬ 0 ≤ (lg_cmp v2 0) → vp_in v1 218 ∧ (Wg X 0 0 (up h 10 v1.toNatClampNeg (vp_nar .boolean 1)) [(0, .ref 0), (1, .int v1), (2, .long v2), (4, .int 0)] [] 20))) :
    Wg X 0 0 h [(0, .ref 0), (1, .int v1), (2, .long v2)] [] 0 := by
  refine r_aload_n C 0 rfl d_Mo_setLong_0 ?_
  refine gf_Mo_isBelow (k2 := 10) C rfl rfl k_1032 d_Mo_setLong_1 ?_
  refine r_iload_n C 1 rfl d_Mo_setLong_4 ?_
  refine r_lload_n C 2 rfl d_Mo_setLong_5 ?_
  refine r_lconst (v := 0) C (by decide) d_Mo_setLong_6 ?_
  refine r_lcmp C d_Mo_setLong_7 ?_
  refine r_if_ge C 15 d_Mo_setLong_8 (by decide) ⟨fun c0 => ?_, fun c0 => ?_⟩
  · have K := K.1 c0
    refine r_iconst (v := 0) C (by decide) d_Mo_setLong_15 ?_
    obtain ⟨s0, K⟩ := K
    refine r_zast C rfl s0 d_Mo_setLong_16 ?_
    refine r_iconst (v := 0) C (by decide) d_Mo_setLong_17 ?_
    refine r_istore (ls2 := [(0, .ref 0), (1, .int v1), (2, .long v2), (4, .int 0)]) C (by decide) rfl d_Mo_setLong_18 ?_
    exact K
  · have K := K.2 c0
    refine r_iconst (v := 1) C (by decide) d_Mo_setLong_11 ?_
    refine r_goto C 16 d_Mo_setLong_12 (by decide) ?_
    obtain ⟨s0, K⟩ := K
    refine r_zast C rfl s0 d_Mo_setLong_16 ?_
    refine r_iconst (v := 0) C (by decide) d_Mo_setLong_17 ?_
    refine r_istore (ls2 := [(0, .ref 0), (1, .int v1), (2, .long v2), (4, .int 0)]) C (by decide) rfl d_Mo_setLong_18 ?_
    exact K
set_option maxRecDepth 20000 in
theorem g_Mo_setLong_20 {X : CX} {h : HP} {v1 : Int32} {v2 : Int64} {v4 : Int32} {Φ : HP → Prop} (C : Cok X b_Mo_setLong 7 R_Mo none) (Rm : xR X = rml 1 0 0) (Q : Qok X 0 0 (fun r h2 => r = none ∧ Φ h2)) 
    (K : ((4 : Int32) ≤ v4 → vp_in v1 218 ∧ ((0 ≤ (lg_cmp v2 0) → K_Mo_trim [.ref 0, .int v1] (up h 9 v1.toNatClampNeg 4) (fun h1 => Φ h1)) ∧ (¬ 0 ≤ (lg_cmp v2 0) → Wg X 0 0 (up h 9 v1.toNatClampNeg 4) [(0, .ref 0), (1, .int v1), (2, .long v2), (4, .int 1), (5, .int 0)] [] 75))) ∧ (¬ (4 : Int32) ≤ v4 → vp_in ((100 * v1) + v4) 21800 ∧ (Wg X 0 0 (up h 8 ((100 * v1) + v4).toNatClampNeg (Int64.toInt32 ((lshr v2 (16 * v4)) &&& 65535))) [(0, .ref 0), (1, .int v1), (2, .long v2), (4, .int (v4 + 1))] [] 20))) :
    Wg X 0 0 h [(0, .ref 0), (1, .int v1), (2, .long v2), (4, .int v4)] [] 20 := by
  refine r_iload C 3 rfl d_Mo_setLong_20 ?_
  refine r_iconst (v := 4) C (by decide) d_Mo_setLong_22 ?_
  refine r_icmp_ge C 56 d_Mo_setLong_23 (by decide) ⟨fun c0 => ?_, fun c0 => ?_⟩
  · have K := K.1 c0
    refine r_aload_n C 0 rfl d_Mo_setLong_56 ?_
    refine gf_Mo_length (k2 := 9) C rfl rfl k_1031 d_Mo_setLong_57 ?_
    refine r_iload_n C 1 rfl d_Mo_setLong_60 ?_
    refine r_iconst (v := 4) C (by decide) d_Mo_setLong_61 ?_
    obtain ⟨s0, K⟩ := K
    refine r_iast C rfl s0 d_Mo_setLong_62 ?_
    refine r_lload_n C 2 rfl d_Mo_setLong_63 ?_
    refine r_lconst (v := 0) C (by decide) d_Mo_setLong_64 ?_
    refine r_lcmp C d_Mo_setLong_65 ?_
    refine r_if_ge C 131 d_Mo_setLong_66 (by decide) ⟨fun c0 => ?_, fun c0 => ?_⟩
    · have K := K.1 c0
      refine r_aload_n C 0 rfl d_Mo_setLong_131 ?_
      refine r_iload_n C 1 rfl d_Mo_setLong_132 ?_
      refine r_callV (As := [.int v1]) (st := []) (lvc := 0) (mcc := 0) (msc := 0) C Rm M_Mo_trim rfl k_1112 rfl (by decide) (Nat.le_of_ble_eq_true rfl) ⟨by decide, by decide⟩ d_Mo_setLong_133 ?_
      refine Can.mono K (fun _ h1 z => ?_)
      obtain ⟨rfl, K⟩ := z
      show Wg X 0 0 h1 [(0, .ref 0), (1, .int v1), (2, .long v2), (4, .int v4)] [] 136
      exact q_vret C Q d_Mo_setLong_136 ⟨rfl, K⟩
    · have K := K.2 c0
      refine r_iconst (v := 1) C (by decide) d_Mo_setLong_69 ?_
      refine r_istore (ls2 := [(0, .ref 0), (1, .int v1), (2, .long v2), (4, .int 1)]) C (by decide) rfl d_Mo_setLong_70 ?_
      refine r_iconst (v := 0) C (by decide) d_Mo_setLong_72 ?_
      refine r_istore (ls2 := [(0, .ref 0), (1, .int v1), (2, .long v2), (4, .int 1), (5, .int 0)]) C (by decide) rfl d_Mo_setLong_73 ?_
      exact K
  · have K := K.2 c0
    refine r_aload_n C 0 rfl d_Mo_setLong_26 ?_
    refine gf_Mo_limb (k2 := 8) C rfl rfl k_1030 d_Mo_setLong_27 ?_
    refine r_bipush (v := 100) C (by decide) d_Mo_setLong_30 ?_
    refine r_iload_n C 1 rfl d_Mo_setLong_32 ?_
    refine r_imul C d_Mo_setLong_33 ?_
    refine r_iload C 3 rfl d_Mo_setLong_34 ?_
    refine r_iadd C d_Mo_setLong_36 ?_
    refine r_lload_n C 2 rfl d_Mo_setLong_37 ?_
    refine r_bipush (v := 16) C (by decide) d_Mo_setLong_38 ?_
    refine r_iload C 3 rfl d_Mo_setLong_40 ?_
    refine r_imul C d_Mo_setLong_42 ?_
    refine r_lshr C d_Mo_setLong_43 ?_
    refine r_ldc2 (v := 65535) C k_1110 d_Mo_setLong_44 ?_
    refine r_land C d_Mo_setLong_47 ?_
    refine r_l2i C d_Mo_setLong_48 ?_
    obtain ⟨s0, K⟩ := K
    refine r_iast C rfl s0 d_Mo_setLong_49 ?_
    refine r_iinc (ls2 := [(0, .ref 0), (1, .int v1), (2, .long v2), (4, .int (v4 + 1))]) C 3 (m := 1) rfl (by decide) (by decide) rfl d_Mo_setLong_50 ?_
    refine r_goto C 20 d_Mo_setLong_53 (by decide) ?_
    exact K
set_option maxRecDepth 20000 in
theorem g_Mo_setLong_75 {X : CX} {h : HP} {v1 : Int32} {v2 : Int64} {v4 : Int32} {v5 : Int32} {Φ : HP → Prop} (C : Cok X b_Mo_setLong 7 R_Mo none) (Rm : xR X = rml 1 0 0) (Q : Qok X 0 0 (fun r h2 => r = none ∧ Φ h2)) 
    (K : ((4 : Int32) ≤ v5 → K_Mo_trim [.ref 0, .int v1] h (fun h1 => Φ h1)) ∧ (¬ (4 : Int32) ≤ v5 → vp_in ((100 * v1) + v5) 21800 ∧ (vp_in ((100 * v1) + v5) 21800 ∧ (Wg X 0 0 (up h 8 ((100 * v1) + v5).toNatClampNeg ((((h 8 ((100 * v1) + v5).toNatClampNeg) ^^^ 65535) + v4) &&& 65535)) [(0, .ref 0), (1, .int v1), (2, .long v2), (4, .int ((((h 8 ((100 * v1) + v5).toNatClampNeg) ^^^ 65535) + v4) >>> (16 &&& (31 : Int32)))), (5, .int (v5 + 1))] [] 75)))) :
    Wg X 0 0 h [(0, .ref 0), (1, .int v1), (2, .long v2), (4, .int v4), (5, .int v5)] [] 75 := by
  refine r_iload C 4 rfl d_Mo_setLong_75 ?_
  refine r_iconst (v := 4) C (by decide) d_Mo_setLong_77 ?_
  refine r_icmp_ge C 131 d_Mo_setLong_78 (by decide) ⟨fun c0 => ?_, fun c0 => ?_⟩
  · have K := K.1 c0
    refine r_aload_n C 0 rfl d_Mo_setLong_131 ?_
    refine r_iload_n C 1 rfl d_Mo_setLong_132 ?_
    refine r_callV (As := [.int v1]) (st := []) (lvc := 0) (mcc := 0) (msc := 0) C Rm M_Mo_trim rfl k_1112 rfl (by decide) (Nat.le_of_ble_eq_true rfl) ⟨by decide, by decide⟩ d_Mo_setLong_133 ?_
    refine Can.mono K (fun _ h1 z => ?_)
    obtain ⟨rfl, K⟩ := z
    show Wg X 0 0 h1 [(0, .ref 0), (1, .int v1), (2, .long v2), (4, .int v4), (5, .int v5)] [] 136
    exact q_vret C Q d_Mo_setLong_136 ⟨rfl, K⟩
  · have K := K.2 c0
    refine r_aload_n C 0 rfl d_Mo_setLong_81 ?_
    refine gf_Mo_limb (k2 := 8) C rfl rfl k_1030 d_Mo_setLong_82 ?_
    refine r_bipush (v := 100) C (by decide) d_Mo_setLong_85 ?_
    refine r_iload_n C 1 rfl d_Mo_setLong_87 ?_
    refine r_imul C d_Mo_setLong_88 ?_
    refine r_iload C 4 rfl d_Mo_setLong_89 ?_
    refine r_iadd C d_Mo_setLong_91 ?_
    obtain ⟨s0, K⟩ := K
    refine r_iald C rfl s0 d_Mo_setLong_92 ?_
    refine r_ldc (v := 65535) C k_1111 d_Mo_setLong_93 ?_
    refine r_ixor C d_Mo_setLong_95 ?_
    refine r_iload C 3 rfl d_Mo_setLong_96 ?_
    refine r_iadd C d_Mo_setLong_98 ?_
    refine r_istore (ls2 := [(0, .ref 0), (1, .int v1), (2, .long v2), (4, .int v4), (5, .int v5), (6, .int (((h 8 ((100 * v1) + v5).toNatClampNeg) ^^^ 65535) + v4))]) C (by decide) rfl d_Mo_setLong_99 ?_
    refine r_aload_n C 0 rfl d_Mo_setLong_101 ?_
    refine gf_Mo_limb (k2 := 8) C rfl rfl k_1030 d_Mo_setLong_102 ?_
    refine r_bipush (v := 100) C (by decide) d_Mo_setLong_105 ?_
    refine r_iload_n C 1 rfl d_Mo_setLong_107 ?_
    refine r_imul C d_Mo_setLong_108 ?_
    refine r_iload C 4 rfl d_Mo_setLong_109 ?_
    refine r_iadd C d_Mo_setLong_111 ?_
    refine r_iload C 5 rfl d_Mo_setLong_112 ?_
    refine r_ldc (v := 65535) C k_1111 d_Mo_setLong_114 ?_
    refine r_iand C d_Mo_setLong_116 ?_
    obtain ⟨s0, K⟩ := K
    refine r_iast C rfl s0 d_Mo_setLong_117 ?_
    refine r_iload C 5 rfl d_Mo_setLong_118 ?_
    refine r_bipush (v := 16) C (by decide) d_Mo_setLong_120 ?_
    refine r_ishr C d_Mo_setLong_122 ?_
    refine r_istore (ls2 := [(0, .ref 0), (1, .int v1), (2, .long v2), (4, .int ((((h 8 ((100 * v1) + v5).toNatClampNeg) ^^^ 65535) + v4) >>> (16 &&& (31 : Int32)))), (5, .int v5), (6, .int (((h 8 ((100 * v1) + v5).toNatClampNeg) ^^^ 65535) + v4))]) C (by decide) rfl d_Mo_setLong_123 ?_
    refine r_iinc (ls2 := [(0, .ref 0), (1, .int v1), (2, .long v2), (4, .int ((((h 8 ((100 * v1) + v5).toNatClampNeg) ^^^ 65535) + v4) >>> (16 &&& (31 : Int32)))), (5, .int (v5 + 1)), (6, .int (((h 8 ((100 * v1) + v5).toNatClampNeg) ^^^ 65535) + v4))]) C 4 (m := 1) rfl (by decide) (by decide) rfl d_Mo_setLong_125 ?_
    refine r_goto C 75 d_Mo_setLong_128 (by decide) ?_
    exact Wg.drop (by simp) K
set_option maxRecDepth 20000 in
theorem g_Mo_copyRow_0 {X : CX} {h : HP} {v1 : Int32} {v2 : Int32} {Φ : HP → Prop} (C : Cok X b_Mo_copyRow 4 R_Mo none) (Rm : xR X = rml 0 0 0) (Q : Qok X 0 0 (fun r h2 => r = none ∧ Φ h2)) 
    (K : vp_in v2 218 ∧ (vp_in v1 218 ∧ (vp_in v2 218 ∧ (vp_in v1 218 ∧ (Wg X 0 0 (up (up h 9 v1.toNatClampNeg (h 9 v2.toNatClampNeg)) 10 v1.toNatClampNeg (vp_nar .boolean ((up h 9 v1.toNatClampNeg (h 9 v2.toNatClampNeg)) 10 v2.toNatClampNeg))) [(0, .ref 0), (1, .int v1), (2, .int v2), (3, .int 0)] [] 26))))) :
    Wg X 0 0 h [(0, .ref 0), (1, .int v1), (2, .int v2)] [] 0 := by
  refine r_aload_n C 0 rfl d_Mo_copyRow_0 ?_
  refine gf_Mo_length (k2 := 9) C rfl rfl k_1031 d_Mo_copyRow_1 ?_
  refine r_iload_n C 1 rfl d_Mo_copyRow_4 ?_
  refine r_aload_n C 0 rfl d_Mo_copyRow_5 ?_
  refine gf_Mo_length (k2 := 9) C rfl rfl k_1031 d_Mo_copyRow_6 ?_
  refine r_iload_n C 2 rfl d_Mo_copyRow_9 ?_
  obtain ⟨s0, K⟩ := K
  refine r_iald C rfl s0 d_Mo_copyRow_10 ?_
  obtain ⟨s0, K⟩ := K
  refine r_iast C rfl s0 d_Mo_copyRow_11 ?_
  refine r_aload_n C 0 rfl d_Mo_copyRow_12 ?_
  refine gf_Mo_isBelow (k2 := 10) C rfl rfl k_1032 d_Mo_copyRow_13 ?_
  refine r_iload_n C 1 rfl d_Mo_copyRow_16 ?_
  refine r_aload_n C 0 rfl d_Mo_copyRow_17 ?_
  refine gf_Mo_isBelow (k2 := 10) C rfl rfl k_1032 d_Mo_copyRow_18 ?_
  refine r_iload_n C 2 rfl d_Mo_copyRow_21 ?_
  obtain ⟨s0, K⟩ := K
  refine r_zald C rfl s0 d_Mo_copyRow_22 ?_
  obtain ⟨s0, K⟩ := K
  refine r_zast C rfl s0 d_Mo_copyRow_23 ?_
  refine r_iconst (v := 0) C (by decide) d_Mo_copyRow_24 ?_
  refine r_istore_n (ls2 := [(0, .ref 0), (1, .int v1), (2, .int v2), (3, .int 0)]) C rfl (by decide) rfl d_Mo_copyRow_25 ?_
  exact K
set_option maxRecDepth 20000 in
theorem g_Mo_copyRow_26 {X : CX} {h : HP} {v1 : Int32} {v2 : Int32} {v3 : Int32} {Φ : HP → Prop} (C : Cok X b_Mo_copyRow 4 R_Mo none) (Rm : xR X = rml 0 0 0) (Q : Qok X 0 0 (fun r h2 => r = none ∧ Φ h2)) 
    (K : vp_in v2 218 ∧ ((((h 9 v2.toNatClampNeg)) ≤ v3 → Φ h) ∧ (¬ ((h 9 v2.toNatClampNeg)) ≤ v3 → vp_in ((100 * v2) + v3) 21800 ∧ (vp_in ((100 * v1) + v3) 21800 ∧ (Wg X 0 0 (up h 8 ((100 * v1) + v3).toNatClampNeg (h 8 ((100 * v2) + v3).toNatClampNeg)) [(0, .ref 0), (1, .int v1), (2, .int v2), (3, .int (v3 + 1))] [] 26))))) :
    Wg X 0 0 h [(0, .ref 0), (1, .int v1), (2, .int v2), (3, .int v3)] [] 26 := by
  refine r_iload_n C 3 rfl d_Mo_copyRow_26 ?_
  refine r_aload_n C 0 rfl d_Mo_copyRow_27 ?_
  refine gf_Mo_length (k2 := 9) C rfl rfl k_1031 d_Mo_copyRow_28 ?_
  refine r_iload_n C 2 rfl d_Mo_copyRow_31 ?_
  obtain ⟨s0, K⟩ := K
  refine r_iald C rfl s0 d_Mo_copyRow_32 ?_
  refine r_icmp_ge C 64 d_Mo_copyRow_33 (by decide) ⟨fun c0 => ?_, fun c0 => ?_⟩
  · have K := K.1 c0
    exact q_vret C Q d_Mo_copyRow_64 ⟨rfl, K⟩
  · have K := K.2 c0
    refine r_aload_n C 0 rfl d_Mo_copyRow_36 ?_
    refine gf_Mo_limb (k2 := 8) C rfl rfl k_1030 d_Mo_copyRow_37 ?_
    refine r_bipush (v := 100) C (by decide) d_Mo_copyRow_40 ?_
    refine r_iload_n C 1 rfl d_Mo_copyRow_42 ?_
    refine r_imul C d_Mo_copyRow_43 ?_
    refine r_iload_n C 3 rfl d_Mo_copyRow_44 ?_
    refine r_iadd C d_Mo_copyRow_45 ?_
    refine r_aload_n C 0 rfl d_Mo_copyRow_46 ?_
    refine gf_Mo_limb (k2 := 8) C rfl rfl k_1030 d_Mo_copyRow_47 ?_
    refine r_bipush (v := 100) C (by decide) d_Mo_copyRow_50 ?_
    refine r_iload_n C 2 rfl d_Mo_copyRow_52 ?_
    refine r_imul C d_Mo_copyRow_53 ?_
    refine r_iload_n C 3 rfl d_Mo_copyRow_54 ?_
    refine r_iadd C d_Mo_copyRow_55 ?_
    obtain ⟨s0, K⟩ := K
    refine r_iald C rfl s0 d_Mo_copyRow_56 ?_
    obtain ⟨s0, K⟩ := K
    refine r_iast C rfl s0 d_Mo_copyRow_57 ?_
    refine r_iinc (ls2 := [(0, .ref 0), (1, .int v1), (2, .int v2), (3, .int (v3 + 1))]) C 3 (m := 1) rfl (by decide) (by decide) rfl d_Mo_copyRow_58 ?_
    refine r_goto C 26 d_Mo_copyRow_61 (by decide) ?_
    exact K
set_option maxRecDepth 20000 in
theorem g_Mo_compareSizes_0 {X : CX} {h : HP} {v1 : Int32} {v2 : Int32} {Φ : Int32 → HP → Prop} (C : Cok X b_Mo_compareSizes 5 R_Mo ((some .int))) (Rm : xR X = rml 0 0 0) (Q : Qok X 0 0 (fun r h2 => ∃ v, r = some (.int v) ∧ Φ v h2)) 
    (K : vp_in v1 218 ∧ (vp_in v2 218 ∧ ((((h 9 v1.toNatClampNeg)) = ((h 9 v2.toNatClampNeg)) → vp_in v1 218 ∧ (Wg X 0 0 h [(0, .ref 0), (1, .int v1), (2, .int v2), (3, .int ((h 9 v1.toNatClampNeg) - 1))] [] 45)) ∧ (¬ ((h 9 v1.toNatClampNeg)) = ((h 9 v2.toNatClampNeg)) → vp_in v1 218 ∧ (vp_in v2 218 ∧ ((((h 9 v2.toNatClampNeg)) ≤ ((h 9 v1.toNatClampNeg)) → Φ 1 h) ∧ (¬ ((h 9 v2.toNatClampNeg)) ≤ ((h 9 v1.toNatClampNeg)) → Φ ((-1)) h))))))) :
    Wg X 0 0 h [(0, .ref 0), (1, .int v1), (2, .int v2)] [] 0 := by
  refine r_aload_n C 0 rfl d_Mo_compareSizes_0 ?_
  refine gf_Mo_length (k2 := 9) C rfl rfl k_1031 d_Mo_compareSizes_1 ?_
  refine r_iload_n C 1 rfl d_Mo_compareSizes_4 ?_
  obtain ⟨s0, K⟩ := K
  refine r_iald C rfl s0 d_Mo_compareSizes_5 ?_
  refine r_aload_n C 0 rfl d_Mo_compareSizes_6 ?_
  refine gf_Mo_length (k2 := 9) C rfl rfl k_1031 d_Mo_compareSizes_7 ?_
  refine r_iload_n C 2 rfl d_Mo_compareSizes_10 ?_
  obtain ⟨s0, K⟩ := K
  refine r_iald C rfl s0 d_Mo_compareSizes_11 ?_
  refine r_icmp_eq C 36 d_Mo_compareSizes_12 (by decide) ⟨fun c0 => ?_, fun c0 => ?_⟩
  · have K := K.1 c0
    refine r_aload_n C 0 rfl d_Mo_compareSizes_36 ?_
    refine gf_Mo_length (k2 := 9) C rfl rfl k_1031 d_Mo_compareSizes_37 ?_
    refine r_iload_n C 1 rfl d_Mo_compareSizes_40 ?_
    obtain ⟨s0, K⟩ := K
    refine r_iald C rfl s0 d_Mo_compareSizes_41 ?_
    refine r_iconst (v := 1) C (by decide) d_Mo_compareSizes_42 ?_
    refine r_isub C d_Mo_compareSizes_43 ?_
    refine r_istore_n (ls2 := [(0, .ref 0), (1, .int v1), (2, .int v2), (3, .int ((h 9 v1.toNatClampNeg) - 1))]) C rfl (by decide) rfl d_Mo_compareSizes_44 ?_
    exact K
  · have K := K.2 c0
    refine r_aload_n C 0 rfl d_Mo_compareSizes_15 ?_
    refine gf_Mo_length (k2 := 9) C rfl rfl k_1031 d_Mo_compareSizes_16 ?_
    refine r_iload_n C 1 rfl d_Mo_compareSizes_19 ?_
    obtain ⟨s0, K⟩ := K
    refine r_iald C rfl s0 d_Mo_compareSizes_20 ?_
    refine r_aload_n C 0 rfl d_Mo_compareSizes_21 ?_
    refine gf_Mo_length (k2 := 9) C rfl rfl k_1031 d_Mo_compareSizes_22 ?_
    refine r_iload_n C 2 rfl d_Mo_compareSizes_25 ?_
    obtain ⟨s0, K⟩ := K
    refine r_iald C rfl s0 d_Mo_compareSizes_26 ?_
    refine r_icmp_ge C 34 d_Mo_compareSizes_27 (by decide) ⟨fun c0 => ?_, fun c0 => ?_⟩
    · have K := K.1 c0
      refine r_iconst (v := 1) C (by decide) d_Mo_compareSizes_34 ?_
      exact q_iret C Q d_Mo_compareSizes_35 ⟨_, rfl, K⟩
    · have K := K.2 c0
      refine r_iconst (v := (-1)) C (by decide) d_Mo_compareSizes_30 ?_
      refine r_goto C 35 d_Mo_compareSizes_31 (by decide) ?_
      exact q_iret C Q d_Mo_compareSizes_35 ⟨_, rfl, K⟩
set_option maxRecDepth 20000 in
theorem g_Mo_compareSizes_45 {X : CX} {h : HP} {v1 : Int32} {v2 : Int32} {v3 : Int32} {Φ : Int32 → HP → Prop} (C : Cok X b_Mo_compareSizes 5 R_Mo ((some .int))) (Rm : xR X = rml 0 0 0) (Q : Qok X 0 0 (fun r h2 => ∃ v, r = some (.int v) ∧ Φ v h2)) 
    (K : (v3 < 0 → Φ 0 h) ∧ (¬ v3 < 0 → vp_in ((100 * v1) + v3) 21800 ∧ (vp_in ((100 * v2) + v3) 21800 ∧ ((((h 8 ((100 * v1) + v3).toNatClampNeg) - (h 8 ((100 * v2) + v3).toNatClampNeg)) = 0 → Wg X 0 0 h [(0, .ref 0), (1, .int v1), (2, .int v2), (3, .int (v3 + (-1)))] [] 45) ∧ (¬ ((h 8 ((100 * v1) + v3).toNatClampNeg) - (h 8 ((100 * v2) + v3).toNatClampNeg)) = 0 → (0 ≤ ((h 8 ((100 * v1) + v3).toNatClampNeg) - (h 8 ((100 * v2) + v3).toNatClampNeg)) → Φ 1 h) ∧ (¬ 0 ≤ ((h 8 ((100 * v1) + v3).toNatClampNeg) - (h 8 ((100 * v2) + v3).toNatClampNeg)) → Φ ((-1)) h)))))) :
    Wg X 0 0 h [(0, .ref 0), (1, .int v1), (2, .int v2), (3, .int v3)] [] 45 := by
  refine r_iload_n C 3 rfl d_Mo_compareSizes_45 ?_
  refine r_if_lt C 96 d_Mo_compareSizes_46 (by decide) ⟨fun c0 => ?_, fun c0 => ?_⟩
  · have K := K.1 c0
    refine r_iconst (v := 0) C (by decide) d_Mo_compareSizes_96 ?_
    exact q_iret C Q d_Mo_compareSizes_97 ⟨_, rfl, K⟩
  · have K := K.2 c0
    refine r_aload_n C 0 rfl d_Mo_compareSizes_49 ?_
    refine gf_Mo_limb (k2 := 8) C rfl rfl k_1030 d_Mo_compareSizes_50 ?_
    refine r_bipush (v := 100) C (by decide) d_Mo_compareSizes_53 ?_
    refine r_iload_n C 1 rfl d_Mo_compareSizes_55 ?_
    refine r_imul C d_Mo_compareSizes_56 ?_
    refine r_iload_n C 3 rfl d_Mo_compareSizes_57 ?_
    refine r_iadd C d_Mo_compareSizes_58 ?_
    obtain ⟨s0, K⟩ := K
    refine r_iald C rfl s0 d_Mo_compareSizes_59 ?_
    refine r_aload_n C 0 rfl d_Mo_compareSizes_60 ?_
    refine gf_Mo_limb (k2 := 8) C rfl rfl k_1030 d_Mo_compareSizes_61 ?_
    refine r_bipush (v := 100) C (by decide) d_Mo_compareSizes_64 ?_
    refine r_iload_n C 2 rfl d_Mo_compareSizes_66 ?_
    refine r_imul C d_Mo_compareSizes_67 ?_
    refine r_iload_n C 3 rfl d_Mo_compareSizes_68 ?_
    refine r_iadd C d_Mo_compareSizes_69 ?_
    obtain ⟨s0, K⟩ := K
    refine r_iald C rfl s0 d_Mo_compareSizes_70 ?_
    refine r_isub C d_Mo_compareSizes_71 ?_
    refine r_istore (ls2 := [(0, .ref 0), (1, .int v1), (2, .int v2), (3, .int v3), (4, .int ((h 8 ((100 * v1) + v3).toNatClampNeg) - (h 8 ((100 * v2) + v3).toNatClampNeg)))]) C (by decide) rfl d_Mo_compareSizes_72 ?_
    refine r_iload C 4 rfl d_Mo_compareSizes_74 ?_
    refine r_if_eq C 90 d_Mo_compareSizes_76 (by decide) ⟨fun c0 => ?_, fun c0 => ?_⟩
    · have K := K.1 c0
      refine r_iinc (ls2 := [(0, .ref 0), (1, .int v1), (2, .int v2), (3, .int (v3 + (-1))), (4, .int ((h 8 ((100 * v1) + v3).toNatClampNeg) - (h 8 ((100 * v2) + v3).toNatClampNeg)))]) C 3 (m := -1) rfl (by decide) (by decide) rfl d_Mo_compareSizes_90 ?_
      refine r_goto C 45 d_Mo_compareSizes_93 (by decide) ?_
      exact Wg.drop (by simp) K
    · have K := K.2 c0
      refine r_iload C 4 rfl d_Mo_compareSizes_79 ?_
      refine r_if_ge C 88 d_Mo_compareSizes_81 (by decide) ⟨fun c0 => ?_, fun c0 => ?_⟩
      · have K := K.1 c0
        refine r_iconst (v := 1) C (by decide) d_Mo_compareSizes_88 ?_
        exact q_iret C Q d_Mo_compareSizes_89 ⟨_, rfl, K⟩
      · have K := K.2 c0
        refine r_iconst (v := (-1)) C (by decide) d_Mo_compareSizes_84 ?_
        refine r_goto C 89 d_Mo_compareSizes_85 (by decide) ?_
        exact q_iret C Q d_Mo_compareSizes_89 ⟨_, rfl, K⟩
set_option maxRecDepth 20000 in
theorem g_Mo_limbOf_0 {X : CX} {h : HP} {v1 : Int32} {v2 : Int32} {Φ : Int32 → HP → Prop} (C : Cok X b_Mo_limbOf 3 R_Mo ((some .int))) (Rm : xR X = rml 0 0 0) (Q : Qok X 0 0 (fun r h2 => ∃ v, r = some (.int v) ∧ Φ v h2)) 
    (K : vp_in v1 218 ∧ ((((h 9 v1.toNatClampNeg)) ≤ v2 → Φ 0 h) ∧ (¬ ((h 9 v1.toNatClampNeg)) ≤ v2 → vp_in ((100 * v1) + v2) 21800 ∧ (Φ (h 8 ((100 * v1) + v2).toNatClampNeg) h)))) :
    Wg X 0 0 h [(0, .ref 0), (1, .int v1), (2, .int v2)] [] 0 := by
  refine r_iload_n C 2 rfl d_Mo_limbOf_0 ?_
  refine r_aload_n C 0 rfl d_Mo_limbOf_1 ?_
  refine gf_Mo_length (k2 := 9) C rfl rfl k_1031 d_Mo_limbOf_2 ?_
  refine r_iload_n C 1 rfl d_Mo_limbOf_5 ?_
  obtain ⟨s0, K⟩ := K
  refine r_iald C rfl s0 d_Mo_limbOf_6 ?_
  refine r_icmp_ge C 24 d_Mo_limbOf_7 (by decide) ⟨fun c0 => ?_, fun c0 => ?_⟩
  · have K := K.1 c0
    refine r_iconst (v := 0) C (by decide) d_Mo_limbOf_24 ?_
    exact q_iret C Q d_Mo_limbOf_25 ⟨_, rfl, K⟩
  · have K := K.2 c0
    refine r_aload_n C 0 rfl d_Mo_limbOf_10 ?_
    refine gf_Mo_limb (k2 := 8) C rfl rfl k_1030 d_Mo_limbOf_11 ?_
    refine r_bipush (v := 100) C (by decide) d_Mo_limbOf_14 ?_
    refine r_iload_n C 1 rfl d_Mo_limbOf_16 ?_
    refine r_imul C d_Mo_limbOf_17 ?_
    refine r_iload_n C 2 rfl d_Mo_limbOf_18 ?_
    refine r_iadd C d_Mo_limbOf_19 ?_
    obtain ⟨s0, K⟩ := K
    refine r_iald C rfl s0 d_Mo_limbOf_20 ?_
    refine r_goto C 25 d_Mo_limbOf_21 (by decide) ?_
    exact q_iret C Q d_Mo_limbOf_25 ⟨_, rfl, K⟩
set_option maxRecDepth 20000 in
theorem g_Mo_addSizes_0 {X : CX} {h : HP} {v1 : Int32} {v2 : Int32} {v3 : Int32} {Φ : HP → Prop} (C : Cok X b_Mo_addSizes 8 R_Mo none) (Rm : xR X = rml 1 0 0) (Q : Qok X 0 0 (fun r h2 => r = none ∧ Φ h2)) 
    (K : vp_in v2 218 ∧ (vp_in v3 218 ∧ ((((h 9 v2.toNatClampNeg)) ≤ ((h 9 v3.toNatClampNeg)) → vp_in v3 218 ∧ (Wg X 0 0 h [(0, .ref 0), (1, .int v1), (2, .int v2), (3, .int v3), (4, .int ((h 9 v3.toNatClampNeg) + 1)), (5, .int 0), (6, .int 0)] [] 40)) ∧ (¬ ((h 9 v2.toNatClampNeg)) ≤ ((h 9 v3.toNatClampNeg)) → vp_in v2 218 ∧ (Wg X 0 0 h [(0, .ref 0), (1, .int v1), (2, .int v2), (3, .int v3), (4, .int ((h 9 v2.toNatClampNeg) + 1)), (5, .int 0), (6, .int 0)] [] 40))))) :
    Wg X 0 0 h [(0, .ref 0), (1, .int v1), (2, .int v2), (3, .int v3)] [] 0 := by
  refine r_aload_n C 0 rfl d_Mo_addSizes_0 ?_
  refine gf_Mo_length (k2 := 9) C rfl rfl k_1031 d_Mo_addSizes_1 ?_
  refine r_iload_n C 2 rfl d_Mo_addSizes_4 ?_
  obtain ⟨s0, K⟩ := K
  refine r_iald C rfl s0 d_Mo_addSizes_5 ?_
  refine r_aload_n C 0 rfl d_Mo_addSizes_6 ?_
  refine gf_Mo_length (k2 := 9) C rfl rfl k_1031 d_Mo_addSizes_7 ?_
  refine r_iload_n C 3 rfl d_Mo_addSizes_10 ?_
  obtain ⟨s0, K⟩ := K
  refine r_iald C rfl s0 d_Mo_addSizes_11 ?_
  refine r_icmp_le C 24 d_Mo_addSizes_12 (by decide) ⟨fun c0 => ?_, fun c0 => ?_⟩
  · have K := K.1 c0
    refine r_aload_n C 0 rfl d_Mo_addSizes_24 ?_
    refine gf_Mo_length (k2 := 9) C rfl rfl k_1031 d_Mo_addSizes_25 ?_
    refine r_iload_n C 3 rfl d_Mo_addSizes_28 ?_
    obtain ⟨s0, K⟩ := K
    refine r_iald C rfl s0 d_Mo_addSizes_29 ?_
    refine r_iconst (v := 1) C (by decide) d_Mo_addSizes_30 ?_
    refine r_iadd C d_Mo_addSizes_31 ?_
    refine r_istore (ls2 := [(0, .ref 0), (1, .int v1), (2, .int v2), (3, .int v3), (4, .int ((h 9 v3.toNatClampNeg) + 1))]) C (by decide) rfl d_Mo_addSizes_32 ?_
    refine r_iconst (v := 0) C (by decide) d_Mo_addSizes_34 ?_
    refine r_istore (ls2 := [(0, .ref 0), (1, .int v1), (2, .int v2), (3, .int v3), (4, .int ((h 9 v3.toNatClampNeg) + 1)), (5, .int 0)]) C (by decide) rfl d_Mo_addSizes_35 ?_
    refine r_iconst (v := 0) C (by decide) d_Mo_addSizes_37 ?_
    refine r_istore (ls2 := [(0, .ref 0), (1, .int v1), (2, .int v2), (3, .int v3), (4, .int ((h 9 v3.toNatClampNeg) + 1)), (5, .int 0), (6, .int 0)]) C (by decide) rfl d_Mo_addSizes_38 ?_
    exact K
  · have K := K.2 c0
    refine r_aload_n C 0 rfl d_Mo_addSizes_15 ?_
    refine gf_Mo_length (k2 := 9) C rfl rfl k_1031 d_Mo_addSizes_16 ?_
    refine r_iload_n C 2 rfl d_Mo_addSizes_19 ?_
    obtain ⟨s0, K⟩ := K
    refine r_iald C rfl s0 d_Mo_addSizes_20 ?_
    refine r_goto C 30 d_Mo_addSizes_21 (by decide) ?_
    refine r_iconst (v := 1) C (by decide) d_Mo_addSizes_30 ?_
    refine r_iadd C d_Mo_addSizes_31 ?_
    refine r_istore (ls2 := [(0, .ref 0), (1, .int v1), (2, .int v2), (3, .int v3), (4, .int ((h 9 v2.toNatClampNeg) + 1))]) C (by decide) rfl d_Mo_addSizes_32 ?_
    refine r_iconst (v := 0) C (by decide) d_Mo_addSizes_34 ?_
    refine r_istore (ls2 := [(0, .ref 0), (1, .int v1), (2, .int v2), (3, .int v3), (4, .int ((h 9 v2.toNatClampNeg) + 1)), (5, .int 0)]) C (by decide) rfl d_Mo_addSizes_35 ?_
    refine r_iconst (v := 0) C (by decide) d_Mo_addSizes_37 ?_
    refine r_istore (ls2 := [(0, .ref 0), (1, .int v1), (2, .int v2), (3, .int v3), (4, .int ((h 9 v2.toNatClampNeg) + 1)), (5, .int 0), (6, .int 0)]) C (by decide) rfl d_Mo_addSizes_38 ?_
    exact K
set_option maxRecDepth 20000 in
theorem g_Mo_addSizes_40 {X : CX} {h : HP} {v1 : Int32} {v2 : Int32} {v3 : Int32} {v4 : Int32} {v5 : Int32} {v6 : Int32} {Φ : HP → Prop} (C : Cok X b_Mo_addSizes 8 R_Mo none) (Rm : xR X = rml 1 0 0) (Q : Qok X 0 0 (fun r h2 => r = none ∧ Φ h2)) 
    (K : (v4 ≤ v6 → vp_in v1 218 ∧ (K_Mo_trim [.ref 0, .int v1] (up h 9 v1.toNatClampNeg v4) (fun h1 => Φ h1))) ∧ (¬ v4 ≤ v6 → K_Mo_limbOf [.ref 0, .int v2, .int v6] h (fun r2 h2 => K_Mo_limbOf [.ref 0, .int v3, .int v6] h2 (fun r3 h3 => vp_in ((100 * v1) + v6) 21800 ∧ (Wg X 0 0 (up h3 8 ((100 * v1) + v6).toNatClampNeg (((r2 + r3) + v5) &&& 65535)) [(0, .ref 0), (1, .int v1), (2, .int v2), (3, .int v3), (4, .int v4), (5, .int (((r2 + r3) + v5) >>> (16 &&& (31 : Int32)))), (6, .int (v6 + 1))] [] 40))))) :
    Wg X 0 0 h [(0, .ref 0), (1, .int v1), (2, .int v2), (3, .int v3), (4, .int v4), (5, .int v5), (6, .int v6)] [] 40 := by
  refine r_iload C 6 rfl d_Mo_addSizes_40 ?_
  refine r_iload C 4 rfl d_Mo_addSizes_42 ?_
  refine r_icmp_ge C 97 d_Mo_addSizes_44 (by decide) ⟨fun c0 => ?_, fun c0 => ?_⟩
  · have K := K.1 c0
    refine r_aload_n C 0 rfl d_Mo_addSizes_97 ?_
    refine gf_Mo_length (k2 := 9) C rfl rfl k_1031 d_Mo_addSizes_98 ?_
    refine r_iload_n C 1 rfl d_Mo_addSizes_101 ?_
    refine r_iload C 4 rfl d_Mo_addSizes_102 ?_
    obtain ⟨s0, K⟩ := K
    refine r_iast C rfl s0 d_Mo_addSizes_104 ?_
    refine r_aload_n C 0 rfl d_Mo_addSizes_105 ?_
    refine r_iload_n C 1 rfl d_Mo_addSizes_106 ?_
    refine r_callV (As := [.int v1]) (st := []) (lvc := 0) (mcc := 0) (msc := 0) C Rm M_Mo_trim rfl k_1112 rfl (by decide) (Nat.le_of_ble_eq_true rfl) ⟨by decide, by decide⟩ d_Mo_addSizes_107 ?_
    refine Can.mono K (fun _ h1 z => ?_)
    obtain ⟨rfl, K⟩ := z
    show Wg X 0 0 h1 [(0, .ref 0), (1, .int v1), (2, .int v2), (3, .int v3), (4, .int v4), (5, .int v5), (6, .int v6)] [] 110
    exact q_vret C Q d_Mo_addSizes_110 ⟨rfl, K⟩
  · have K := K.2 c0
    refine r_aload_n C 0 rfl d_Mo_addSizes_47 ?_
    refine r_iload_n C 2 rfl d_Mo_addSizes_48 ?_
    refine r_iload C 6 rfl d_Mo_addSizes_49 ?_
    refine r_callV (As := [.int v2, .int v6]) (st := []) (lvc := 0) (mcc := 0) (msc := 0) C Rm M_Mo_limbOf rfl k_1136 rfl (by decide) (Nat.le_of_ble_eq_true rfl) ⟨by decide, by decide⟩ d_Mo_addSizes_51 ?_
    refine Can.mono K (fun _ h2 z => ?_)
    obtain ⟨r2, rfl, K⟩ := z
    show Wg X 0 0 h2 [(0, .ref 0), (1, .int v1), (2, .int v2), (3, .int v3), (4, .int v4), (5, .int v5), (6, .int v6)] [.int r2] 54
    refine r_aload_n C 0 rfl d_Mo_addSizes_54 ?_
    refine r_iload_n C 3 rfl d_Mo_addSizes_55 ?_
    refine r_iload C 6 rfl d_Mo_addSizes_56 ?_
    refine r_callV (As := [.int v3, .int v6]) (st := [.int r2]) (lvc := 0) (mcc := 0) (msc := 0) C Rm M_Mo_limbOf rfl k_1136 rfl (by decide) (Nat.le_of_ble_eq_true rfl) ⟨by decide, by decide⟩ d_Mo_addSizes_58 ?_
    refine Can.mono K (fun _ h3 z => ?_)
    obtain ⟨r3, rfl, K⟩ := z
    show Wg X 0 0 h3 [(0, .ref 0), (1, .int v1), (2, .int v2), (3, .int v3), (4, .int v4), (5, .int v5), (6, .int v6)] [.int r3, .int r2] 61
    refine r_iadd C d_Mo_addSizes_61 ?_
    refine r_iload C 5 rfl d_Mo_addSizes_62 ?_
    refine r_iadd C d_Mo_addSizes_64 ?_
    refine r_istore (ls2 := [(0, .ref 0), (1, .int v1), (2, .int v2), (3, .int v3), (4, .int v4), (5, .int v5), (6, .int v6), (7, .int ((r2 + r3) + v5))]) C (by decide) rfl d_Mo_addSizes_65 ?_
    refine r_aload_n C 0 rfl d_Mo_addSizes_67 ?_
    refine gf_Mo_limb (k2 := 8) C rfl rfl k_1030 d_Mo_addSizes_68 ?_
    refine r_bipush (v := 100) C (by decide) d_Mo_addSizes_71 ?_
    refine r_iload_n C 1 rfl d_Mo_addSizes_73 ?_
    refine r_imul C d_Mo_addSizes_74 ?_
    refine r_iload C 6 rfl d_Mo_addSizes_75 ?_
    refine r_iadd C d_Mo_addSizes_77 ?_
    refine r_iload C 7 rfl d_Mo_addSizes_78 ?_
    refine r_ldc (v := 65535) C k_1111 d_Mo_addSizes_80 ?_
    refine r_iand C d_Mo_addSizes_82 ?_
    obtain ⟨s0, K⟩ := K
    refine r_iast C rfl s0 d_Mo_addSizes_83 ?_
    refine r_iload C 7 rfl d_Mo_addSizes_84 ?_
    refine r_bipush (v := 16) C (by decide) d_Mo_addSizes_86 ?_
    refine r_ishr C d_Mo_addSizes_88 ?_
    refine r_istore (ls2 := [(0, .ref 0), (1, .int v1), (2, .int v2), (3, .int v3), (4, .int v4), (5, .int (((r2 + r3) + v5) >>> (16 &&& (31 : Int32)))), (6, .int v6), (7, .int ((r2 + r3) + v5))]) C (by decide) rfl d_Mo_addSizes_89 ?_
    refine r_iinc (ls2 := [(0, .ref 0), (1, .int v1), (2, .int v2), (3, .int v3), (4, .int v4), (5, .int (((r2 + r3) + v5) >>> (16 &&& (31 : Int32)))), (6, .int (v6 + 1)), (7, .int ((r2 + r3) + v5))]) C 6 (m := 1) rfl (by decide) (by decide) rfl d_Mo_addSizes_91 ?_
    refine r_goto C 40 d_Mo_addSizes_94 (by decide) ?_
    exact Wg.drop (by simp) K
set_option maxRecDepth 20000 in
theorem g_Mo_subtractSizes_0 {X : CX} {h : HP} {v1 : Int32} {v2 : Int32} {v3 : Int32} {Φ : HP → Prop} (C : Cok X b_Mo_subtractSizes 8 R_Mo none) (Rm : xR X = rml 1 0 0) (Q : Qok X 0 0 (fun r h2 => r = none ∧ Φ h2)) 
    (K : vp_in v2 218 ∧ (Wg X 0 0 h [(0, .ref 0), (1, .int v1), (2, .int v2), (3, .int v3), (4, .int (h 9 v2.toNatClampNeg)), (5, .int 0), (6, .int 0)] [] 14)) :
    Wg X 0 0 h [(0, .ref 0), (1, .int v1), (2, .int v2), (3, .int v3)] [] 0 := by
  refine r_aload_n C 0 rfl d_Mo_subtractSizes_0 ?_
  refine gf_Mo_length (k2 := 9) C rfl rfl k_1031 d_Mo_subtractSizes_1 ?_
  refine r_iload_n C 2 rfl d_Mo_subtractSizes_4 ?_
  obtain ⟨s0, K⟩ := K
  refine r_iald C rfl s0 d_Mo_subtractSizes_5 ?_
  refine r_istore (ls2 := [(0, .ref 0), (1, .int v1), (2, .int v2), (3, .int v3), (4, .int (h 9 v2.toNatClampNeg))]) C (by decide) rfl d_Mo_subtractSizes_6 ?_
  refine r_iconst (v := 0) C (by decide) d_Mo_subtractSizes_8 ?_
  refine r_istore (ls2 := [(0, .ref 0), (1, .int v1), (2, .int v2), (3, .int v3), (4, .int (h 9 v2.toNatClampNeg)), (5, .int 0)]) C (by decide) rfl d_Mo_subtractSizes_9 ?_
  refine r_iconst (v := 0) C (by decide) d_Mo_subtractSizes_11 ?_
  refine r_istore (ls2 := [(0, .ref 0), (1, .int v1), (2, .int v2), (3, .int v3), (4, .int (h 9 v2.toNatClampNeg)), (5, .int 0), (6, .int 0)]) C (by decide) rfl d_Mo_subtractSizes_12 ?_
  exact K
set_option maxRecDepth 20000 in
theorem g_Mo_subtractSizes_14 {X : CX} {h : HP} {v1 : Int32} {v2 : Int32} {v3 : Int32} {v4 : Int32} {v5 : Int32} {v6 : Int32} {Φ : HP → Prop} (C : Cok X b_Mo_subtractSizes 8 R_Mo none) (Rm : xR X = rml 1 0 0) (Q : Qok X 0 0 (fun r h2 => r = none ∧ Φ h2)) 
    (K : (v4 ≤ v6 → vp_in v1 218 ∧ (K_Mo_trim [.ref 0, .int v1] (up h 9 v1.toNatClampNeg v4) (fun h1 => Φ h1))) ∧ (¬ v4 ≤ v6 → K_Mo_limbOf [.ref 0, .int v2, .int v6] h (fun r2 h2 => K_Mo_limbOf [.ref 0, .int v3, .int v6] h2 (fun r3 h3 => vp_in ((100 * v1) + v6) 21800 ∧ (Wg X 0 0 (up h3 8 ((100 * v1) + v6).toNatClampNeg (((r2 - r3) + v5) &&& 65535)) [(0, .ref 0), (1, .int v1), (2, .int v2), (3, .int v3), (4, .int v4), (5, .int (((r2 - r3) + v5) >>> (16 &&& (31 : Int32)))), (6, .int (v6 + 1))] [] 14))))) :
    Wg X 0 0 h [(0, .ref 0), (1, .int v1), (2, .int v2), (3, .int v3), (4, .int v4), (5, .int v5), (6, .int v6)] [] 14 := by
  refine r_iload C 6 rfl d_Mo_subtractSizes_14 ?_
  refine r_iload C 4 rfl d_Mo_subtractSizes_16 ?_
  refine r_icmp_ge C 71 d_Mo_subtractSizes_18 (by decide) ⟨fun c0 => ?_, fun c0 => ?_⟩
  · have K := K.1 c0
    refine r_aload_n C 0 rfl d_Mo_subtractSizes_71 ?_
    refine gf_Mo_length (k2 := 9) C rfl rfl k_1031 d_Mo_subtractSizes_72 ?_
    refine r_iload_n C 1 rfl d_Mo_subtractSizes_75 ?_
    refine r_iload C 4 rfl d_Mo_subtractSizes_76 ?_
    obtain ⟨s0, K⟩ := K
    refine r_iast C rfl s0 d_Mo_subtractSizes_78 ?_
    refine r_aload_n C 0 rfl d_Mo_subtractSizes_79 ?_
    refine r_iload_n C 1 rfl d_Mo_subtractSizes_80 ?_
    refine r_callV (As := [.int v1]) (st := []) (lvc := 0) (mcc := 0) (msc := 0) C Rm M_Mo_trim rfl k_1112 rfl (by decide) (Nat.le_of_ble_eq_true rfl) ⟨by decide, by decide⟩ d_Mo_subtractSizes_81 ?_
    refine Can.mono K (fun _ h1 z => ?_)
    obtain ⟨rfl, K⟩ := z
    show Wg X 0 0 h1 [(0, .ref 0), (1, .int v1), (2, .int v2), (3, .int v3), (4, .int v4), (5, .int v5), (6, .int v6)] [] 84
    exact q_vret C Q d_Mo_subtractSizes_84 ⟨rfl, K⟩
  · have K := K.2 c0
    refine r_aload_n C 0 rfl d_Mo_subtractSizes_21 ?_
    refine r_iload_n C 2 rfl d_Mo_subtractSizes_22 ?_
    refine r_iload C 6 rfl d_Mo_subtractSizes_23 ?_
    refine r_callV (As := [.int v2, .int v6]) (st := []) (lvc := 0) (mcc := 0) (msc := 0) C Rm M_Mo_limbOf rfl k_1136 rfl (by decide) (Nat.le_of_ble_eq_true rfl) ⟨by decide, by decide⟩ d_Mo_subtractSizes_25 ?_
    refine Can.mono K (fun _ h2 z => ?_)
    obtain ⟨r2, rfl, K⟩ := z
    show Wg X 0 0 h2 [(0, .ref 0), (1, .int v1), (2, .int v2), (3, .int v3), (4, .int v4), (5, .int v5), (6, .int v6)] [.int r2] 28
    refine r_aload_n C 0 rfl d_Mo_subtractSizes_28 ?_
    refine r_iload_n C 3 rfl d_Mo_subtractSizes_29 ?_
    refine r_iload C 6 rfl d_Mo_subtractSizes_30 ?_
    refine r_callV (As := [.int v3, .int v6]) (st := [.int r2]) (lvc := 0) (mcc := 0) (msc := 0) C Rm M_Mo_limbOf rfl k_1136 rfl (by decide) (Nat.le_of_ble_eq_true rfl) ⟨by decide, by decide⟩ d_Mo_subtractSizes_32 ?_
    refine Can.mono K (fun _ h3 z => ?_)
    obtain ⟨r3, rfl, K⟩ := z
    show Wg X 0 0 h3 [(0, .ref 0), (1, .int v1), (2, .int v2), (3, .int v3), (4, .int v4), (5, .int v5), (6, .int v6)] [.int r3, .int r2] 35
    refine r_isub C d_Mo_subtractSizes_35 ?_
    refine r_iload C 5 rfl d_Mo_subtractSizes_36 ?_
    refine r_iadd C d_Mo_subtractSizes_38 ?_
    refine r_istore (ls2 := [(0, .ref 0), (1, .int v1), (2, .int v2), (3, .int v3), (4, .int v4), (5, .int v5), (6, .int v6), (7, .int ((r2 - r3) + v5))]) C (by decide) rfl d_Mo_subtractSizes_39 ?_
    refine r_aload_n C 0 rfl d_Mo_subtractSizes_41 ?_
    refine gf_Mo_limb (k2 := 8) C rfl rfl k_1030 d_Mo_subtractSizes_42 ?_
    refine r_bipush (v := 100) C (by decide) d_Mo_subtractSizes_45 ?_
    refine r_iload_n C 1 rfl d_Mo_subtractSizes_47 ?_
    refine r_imul C d_Mo_subtractSizes_48 ?_
    refine r_iload C 6 rfl d_Mo_subtractSizes_49 ?_
    refine r_iadd C d_Mo_subtractSizes_51 ?_
    refine r_iload C 7 rfl d_Mo_subtractSizes_52 ?_
    refine r_ldc (v := 65535) C k_1111 d_Mo_subtractSizes_54 ?_
    refine r_iand C d_Mo_subtractSizes_56 ?_
    obtain ⟨s0, K⟩ := K
    refine r_iast C rfl s0 d_Mo_subtractSizes_57 ?_
    refine r_iload C 7 rfl d_Mo_subtractSizes_58 ?_
    refine r_bipush (v := 16) C (by decide) d_Mo_subtractSizes_60 ?_
    refine r_ishr C d_Mo_subtractSizes_62 ?_
    refine r_istore (ls2 := [(0, .ref 0), (1, .int v1), (2, .int v2), (3, .int v3), (4, .int v4), (5, .int (((r2 - r3) + v5) >>> (16 &&& (31 : Int32)))), (6, .int v6), (7, .int ((r2 - r3) + v5))]) C (by decide) rfl d_Mo_subtractSizes_63 ?_
    refine r_iinc (ls2 := [(0, .ref 0), (1, .int v1), (2, .int v2), (3, .int v3), (4, .int v4), (5, .int (((r2 - r3) + v5) >>> (16 &&& (31 : Int32)))), (6, .int (v6 + 1)), (7, .int ((r2 - r3) + v5))]) C 6 (m := 1) rfl (by decide) (by decide) rfl d_Mo_subtractSizes_65 ?_
    refine r_goto C 14 d_Mo_subtractSizes_68 (by decide) ?_
    exact Wg.drop (by simp) K
set_option maxRecDepth 20000 in
theorem g_Mo_sum_0 {X : CX} {h : HP} {v1 : Int32} {v2 : Int32} {v3 : Int32} {v4 : Int32} {Φ : HP → Prop} (C : Cok X b_Mo_sum 7 R_Mo none) (Rm : xR X = rml 2 0 0) (Q : Qok X 0 0 (fun r h2 => r = none ∧ Φ h2)) 
    (K : vp_in v2 218 ∧ (vp_in v3 218 ∧ (((h 9 v3.toNatClampNeg) ≤ 0 → Wg X 0 0 h [(0, .ref 0), (1, .int v1), (2, .int v2), (3, .int v3), (4, .int v4), (5, .int (h 10 v2.toNatClampNeg))] [.int 0] 33) ∧ (¬ (h 9 v3.toNatClampNeg) ≤ 0 → vp_in v3 218 ∧ ((((h 10 v3.toNatClampNeg)) = v4 → Wg X 0 0 h [(0, .ref 0), (1, .int v1), (2, .int v2), (3, .int v3), (4, .int v4), (5, .int (h 10 v2.toNatClampNeg))] [.int 0] 33) ∧ (¬ ((h 10 v3.toNatClampNeg)) = v4 → Wg X 0 0 h [(0, .ref 0), (1, .int v1), (2, .int v2), (3, .int v3), (4, .int v4), (5, .int (h 10 v2.toNatClampNeg))] [.int 1] 33)))))) :
    Wg X 0 0 h [(0, .ref 0), (1, .int v1), (2, .int v2), (3, .int v3), (4, .int v4)] [] 0 := by
  refine r_aload_n C 0 rfl d_Mo_sum_0 ?_
  refine gf_Mo_isBelow (k2 := 10) C rfl rfl k_1032 d_Mo_sum_1 ?_
  refine r_iload_n C 2 rfl d_Mo_sum_4 ?_
  obtain ⟨s0, K⟩ := K
  refine r_zald C rfl s0 d_Mo_sum_5 ?_
  refine r_istore (ls2 := [(0, .ref 0), (1, .int v1), (2, .int v2), (3, .int v3), (4, .int v4), (5, .int (h 10 v2.toNatClampNeg))]) C (by decide) rfl d_Mo_sum_6 ?_
  refine r_aload_n C 0 rfl d_Mo_sum_8 ?_
  refine gf_Mo_length (k2 := 9) C rfl rfl k_1031 d_Mo_sum_9 ?_
  refine r_iload_n C 3 rfl d_Mo_sum_12 ?_
  obtain ⟨s0, K⟩ := K
  refine r_iald C rfl s0 d_Mo_sum_13 ?_
  refine r_if_le C 32 d_Mo_sum_14 (by decide) ⟨fun c0 => ?_, fun c0 => ?_⟩
  · have K := K.1 c0
    refine r_iconst (v := 0) C (by decide) d_Mo_sum_32 ?_
    exact K
  · have K := K.2 c0
    refine r_aload_n C 0 rfl d_Mo_sum_17 ?_
    refine gf_Mo_isBelow (k2 := 10) C rfl rfl k_1032 d_Mo_sum_18 ?_
    refine r_iload_n C 3 rfl d_Mo_sum_21 ?_
    obtain ⟨s0, K⟩ := K
    refine r_zald C rfl s0 d_Mo_sum_22 ?_
    refine r_iload C 4 rfl d_Mo_sum_23 ?_
    refine r_icmp_eq C 32 d_Mo_sum_25 (by decide) ⟨fun c0 => ?_, fun c0 => ?_⟩
    · have K := K.1 c0
      refine r_iconst (v := 0) C (by decide) d_Mo_sum_32 ?_
      exact K
    · have K := K.2 c0
      refine r_iconst (v := 1) C (by decide) d_Mo_sum_28 ?_
      refine r_goto C 33 d_Mo_sum_29 (by decide) ?_
      exact K
set_option maxRecDepth 20000 in
theorem g_Mo_sum_33 {X : CX} {h : HP} {v1 : Int32} {v2 : Int32} {v3 : Int32} {v4 : Int32} {v5 : Int32} {t0 : Int32} {Φ : HP → Prop} (C : Cok X b_Mo_sum 7 R_Mo none) (Rm : xR X = rml 2 0 0) (Q : Qok X 0 0 (fun r h2 => r = none ∧ Φ h2)) 
    (K : (v5 = t0 → Wg X 0 0 h [(0, .ref 0), (1, .int v1), (2, .int v2), (3, .int v3), (4, .int v4), (5, .int v5), (6, .int t0)] [] 51) ∧ (¬ v5 = t0 → vp_in v3 218 ∧ ((¬ (h 9 v3.toNatClampNeg) = 0 → vp_in v2 218 ∧ ((¬ (h 9 v2.toNatClampNeg) = 0 → K_Mo_compareSizes [.ref 0, .int v2, .int v3] h (fun r1 h1 => (r1 < 0 → K_Mo_subtractSizes [.ref 0, .int v1, .int v3, .int v2] h1 (fun h2 => vp_in v1 218 ∧ (Φ (up h2 10 v1.toNatClampNeg (vp_nar .boolean t0))))) ∧ (¬ r1 < 0 → K_Mo_subtractSizes [.ref 0, .int v1, .int v2, .int v3] h1 (fun h3 => vp_in v1 218 ∧ (((h3 9 v1.toNatClampNeg) ≤ 0 → vp_in v1 218 ∧ (Φ (up h3 10 v1.toNatClampNeg (vp_nar .boolean 0)))) ∧ (¬ (h3 9 v1.toNatClampNeg) ≤ 0 → (v5 = 0 → vp_in v1 218 ∧ (Φ (up h3 10 v1.toNatClampNeg (vp_nar .boolean 0)))) ∧ (¬ v5 = 0 → vp_in v1 218 ∧ (Φ (up h3 10 v1.toNatClampNeg (vp_nar .boolean 1)))))))))) ∧ ((h 9 v2.toNatClampNeg) = 0 → K_Mo_addSizes [.ref 0, .int v1, .int v2, .int v3] h (fun h4 => vp_in v1 218 ∧ (((h4 9 v1.toNatClampNeg) ≤ 0 → vp_in v1 218 ∧ (Φ (up h4 10 v1.toNatClampNeg (vp_nar .boolean 0)))) ∧ (¬ (h4 9 v1.toNatClampNeg) ≤ 0 → (t0 = 0 → vp_in v1 218 ∧ (Φ (up h4 10 v1.toNatClampNeg (vp_nar .boolean 0)))) ∧ (¬ t0 = 0 → vp_in v1 218 ∧ (Φ (up h4 10 v1.toNatClampNeg (vp_nar .boolean 1)))))))))) ∧ ((h 9 v3.toNatClampNeg) = 0 → Wg X 0 0 h [(0, .ref 0), (1, .int v1), (2, .int v2), (3, .int v3), (4, .int v4), (5, .int v5), (6, .int t0)] [] 51)))) :
    Wg X 0 0 h [(0, .ref 0), (1, .int v1), (2, .int v2), (3, .int v3), (4, .int v4), (5, .int v5)] [.int t0] 33 := by
  refine r_istore (ls2 := [(0, .ref 0), (1, .int v1), (2, .int v2), (3, .int v3), (4, .int v4), (5, .int v5), (6, .int t0)]) C (by decide) rfl d_Mo_sum_33 ?_
  refine r_iload C 5 rfl d_Mo_sum_35 ?_
  refine r_iload C 6 rfl d_Mo_sum_37 ?_
  refine r_icmp_eq C 51 d_Mo_sum_39 (by decide) ⟨fun c0 => ?_, fun c0 => ?_⟩
  · have K := K.1 c0
    exact K
  · have K := K.2 c0
    refine r_aload_n C 0 rfl d_Mo_sum_42 ?_
    refine gf_Mo_length (k2 := 9) C rfl rfl k_1031 d_Mo_sum_43 ?_
    refine r_iload_n C 3 rfl d_Mo_sum_46 ?_
    obtain ⟨s0, K⟩ := K
    refine r_iald C rfl s0 d_Mo_sum_47 ?_
    refine r_if_ne C 86 d_Mo_sum_48 (by decide) ⟨fun c0 => ?_, fun c0 => ?_⟩
    · have K := K.1 c0
      refine r_aload_n C 0 rfl d_Mo_sum_86 ?_
      refine gf_Mo_length (k2 := 9) C rfl rfl k_1031 d_Mo_sum_87 ?_
      refine r_iload_n C 2 rfl d_Mo_sum_90 ?_
      obtain ⟨s0, K⟩ := K
      refine r_iald C rfl s0 d_Mo_sum_91 ?_
      refine r_if_ne C 130 d_Mo_sum_92 (by decide) ⟨fun c0 => ?_, fun c0 => ?_⟩
      · have K := K.1 c0
        refine r_aload_n C 0 rfl d_Mo_sum_130 ?_
        refine r_iload_n C 2 rfl d_Mo_sum_131 ?_
        refine r_iload_n C 3 rfl d_Mo_sum_132 ?_
        refine r_callV (As := [.int v2, .int v3]) (st := []) (lvc := 0) (mcc := 0) (msc := 0) C Rm M_Mo_compareSizes rfl k_1227 rfl (by decide) (Nat.le_of_ble_eq_true rfl) ⟨by decide, by decide⟩ d_Mo_sum_133 ?_
        refine Can.mono K (fun _ h1 z => ?_)
        obtain ⟨r1, rfl, K⟩ := z
        show Wg X 0 0 h1 [(0, .ref 0), (1, .int v1), (2, .int v2), (3, .int v3), (4, .int v4), (5, .int v5), (6, .int t0)] [.int r1] 136
        refine r_if_lt C 174 d_Mo_sum_136 (by decide) ⟨fun c0 => ?_, fun c0 => ?_⟩
        · have K := K.1 c0
          refine r_aload_n C 0 rfl d_Mo_sum_174 ?_
          refine r_iload_n C 1 rfl d_Mo_sum_175 ?_
          refine r_iload_n C 3 rfl d_Mo_sum_176 ?_
          refine r_iload_n C 2 rfl d_Mo_sum_177 ?_
          refine r_callV (As := [.int v1, .int v3, .int v2]) (st := []) (lvc := 1) (mcc := 0) (msc := 0) C Rm M_Mo_subtractSizes rfl k_1231 rfl (by decide) (Nat.le_of_ble_eq_true rfl) ⟨by decide, by decide⟩ d_Mo_sum_178 ?_
          refine Can.mono K (fun _ h2 z => ?_)
          obtain ⟨rfl, K⟩ := z
          show Wg X 0 0 h2 [(0, .ref 0), (1, .int v1), (2, .int v2), (3, .int v3), (4, .int v4), (5, .int v5), (6, .int t0)] [] 181
          refine r_aload_n C 0 rfl d_Mo_sum_181 ?_
          refine gf_Mo_isBelow (k2 := 10) C rfl rfl k_1032 d_Mo_sum_182 ?_
          refine r_iload_n C 1 rfl d_Mo_sum_185 ?_
          refine r_iload C 6 rfl d_Mo_sum_186 ?_
          obtain ⟨s0, K⟩ := K
          refine r_zast C rfl s0 d_Mo_sum_188 ?_
          exact q_vret C Q d_Mo_sum_189 ⟨rfl, K⟩
        · have K := K.2 c0
          refine r_aload_n C 0 rfl d_Mo_sum_139 ?_
          refine r_iload_n C 1 rfl d_Mo_sum_140 ?_
          refine r_iload_n C 2 rfl d_Mo_sum_141 ?_
          refine r_iload_n C 3 rfl d_Mo_sum_142 ?_
          refine r_callV (As := [.int v1, .int v2, .int v3]) (st := []) (lvc := 1) (mcc := 0) (msc := 0) C Rm M_Mo_subtractSizes rfl k_1231 rfl (by decide) (Nat.le_of_ble_eq_true rfl) ⟨by decide, by decide⟩ d_Mo_sum_143 ?_
          refine Can.mono K (fun _ h3 z => ?_)
          obtain ⟨rfl, K⟩ := z
          show Wg X 0 0 h3 [(0, .ref 0), (1, .int v1), (2, .int v2), (3, .int v3), (4, .int v4), (5, .int v5), (6, .int t0)] [] 146
          refine r_aload_n C 0 rfl d_Mo_sum_146 ?_
          refine gf_Mo_isBelow (k2 := 10) C rfl rfl k_1032 d_Mo_sum_147 ?_
          refine r_iload_n C 1 rfl d_Mo_sum_150 ?_
          refine r_aload_n C 0 rfl d_Mo_sum_151 ?_
          refine gf_Mo_length (k2 := 9) C rfl rfl k_1031 d_Mo_sum_152 ?_
          refine r_iload_n C 1 rfl d_Mo_sum_155 ?_
          obtain ⟨s0, K⟩ := K
          refine r_iald C rfl s0 d_Mo_sum_156 ?_
          refine r_if_le C 169 d_Mo_sum_157 (by decide) ⟨fun c0 => ?_, fun c0 => ?_⟩
          · have K := K.1 c0
            refine r_iconst (v := 0) C (by decide) d_Mo_sum_169 ?_
            obtain ⟨s0, K⟩ := K
            refine r_zast C rfl s0 d_Mo_sum_170 ?_
            refine r_goto C 189 d_Mo_sum_171 (by decide) ?_
            exact q_vret C Q d_Mo_sum_189 ⟨rfl, K⟩
          · have K := K.2 c0
            refine r_iload C 5 rfl d_Mo_sum_160 ?_
            refine r_if_eq C 169 d_Mo_sum_162 (by decide) ⟨fun c0 => ?_, fun c0 => ?_⟩
            · have K := K.1 c0
              refine r_iconst (v := 0) C (by decide) d_Mo_sum_169 ?_
              obtain ⟨s0, K⟩ := K
              refine r_zast C rfl s0 d_Mo_sum_170 ?_
              refine r_goto C 189 d_Mo_sum_171 (by decide) ?_
              exact q_vret C Q d_Mo_sum_189 ⟨rfl, K⟩
            · have K := K.2 c0
              refine r_iconst (v := 1) C (by decide) d_Mo_sum_165 ?_
              refine r_goto C 170 d_Mo_sum_166 (by decide) ?_
              obtain ⟨s0, K⟩ := K
              refine r_zast C rfl s0 d_Mo_sum_170 ?_
              refine r_goto C 189 d_Mo_sum_171 (by decide) ?_
              exact q_vret C Q d_Mo_sum_189 ⟨rfl, K⟩
      · have K := K.2 c0
        refine r_aload_n C 0 rfl d_Mo_sum_95 ?_
        refine r_iload_n C 1 rfl d_Mo_sum_96 ?_
        refine r_iload_n C 2 rfl d_Mo_sum_97 ?_
        refine r_iload_n C 3 rfl d_Mo_sum_98 ?_
        refine r_callV (As := [.int v1, .int v2, .int v3]) (st := []) (lvc := 1) (mcc := 0) (msc := 0) C Rm M_Mo_addSizes rfl k_1235 rfl (by decide) (Nat.le_of_ble_eq_true rfl) ⟨by decide, by decide⟩ d_Mo_sum_99 ?_
        refine Can.mono K (fun _ h4 z => ?_)
        obtain ⟨rfl, K⟩ := z
        show Wg X 0 0 h4 [(0, .ref 0), (1, .int v1), (2, .int v2), (3, .int v3), (4, .int v4), (5, .int v5), (6, .int t0)] [] 102
        refine r_aload_n C 0 rfl d_Mo_sum_102 ?_
        refine gf_Mo_isBelow (k2 := 10) C rfl rfl k_1032 d_Mo_sum_103 ?_
        refine r_iload_n C 1 rfl d_Mo_sum_106 ?_
        refine r_aload_n C 0 rfl d_Mo_sum_107 ?_
        refine gf_Mo_length (k2 := 9) C rfl rfl k_1031 d_Mo_sum_108 ?_
        refine r_iload_n C 1 rfl d_Mo_sum_111 ?_
        obtain ⟨s0, K⟩ := K
        refine r_iald C rfl s0 d_Mo_sum_112 ?_
        refine r_if_le C 125 d_Mo_sum_113 (by decide) ⟨fun c0 => ?_, fun c0 => ?_⟩
        · have K := K.1 c0
          refine r_iconst (v := 0) C (by decide) d_Mo_sum_125 ?_
          obtain ⟨s0, K⟩ := K
          refine r_zast C rfl s0 d_Mo_sum_126 ?_
          refine r_goto C 189 d_Mo_sum_127 (by decide) ?_
          exact q_vret C Q d_Mo_sum_189 ⟨rfl, K⟩
        · have K := K.2 c0
          refine r_iload C 6 rfl d_Mo_sum_116 ?_
          refine r_if_eq C 125 d_Mo_sum_118 (by decide) ⟨fun c0 => ?_, fun c0 => ?_⟩
          · have K := K.1 c0
            refine r_iconst (v := 0) C (by decide) d_Mo_sum_125 ?_
            obtain ⟨s0, K⟩ := K
            refine r_zast C rfl s0 d_Mo_sum_126 ?_
            refine r_goto C 189 d_Mo_sum_127 (by decide) ?_
            exact q_vret C Q d_Mo_sum_189 ⟨rfl, K⟩
          · have K := K.2 c0
            refine r_iconst (v := 1) C (by decide) d_Mo_sum_121 ?_
            refine r_goto C 126 d_Mo_sum_122 (by decide) ?_
            obtain ⟨s0, K⟩ := K
            refine r_zast C rfl s0 d_Mo_sum_126 ?_
            refine r_goto C 189 d_Mo_sum_127 (by decide) ?_
            exact q_vret C Q d_Mo_sum_189 ⟨rfl, K⟩
    · have K := K.2 c0
      exact K
set_option maxRecDepth 20000 in
theorem g_Mo_sum_51 {X : CX} {h : HP} {v1 : Int32} {v2 : Int32} {v3 : Int32} {v4 : Int32} {v5 : Int32} {v6 : Int32} {Φ : HP → Prop} (C : Cok X b_Mo_sum 7 R_Mo none) (Rm : xR X = rml 2 0 0) (Q : Qok X 0 0 (fun r h2 => r = none ∧ Φ h2)) 
    (K : K_Mo_addSizes [.ref 0, .int v1, .int v2, .int v3] h (fun h1 => vp_in v1 218 ∧ (((h1 9 v1.toNatClampNeg) ≤ 0 → vp_in v1 218 ∧ (Φ (up h1 10 v1.toNatClampNeg (vp_nar .boolean 0)))) ∧ (¬ (h1 9 v1.toNatClampNeg) ≤ 0 → (v5 = 0 → vp_in v1 218 ∧ (Φ (up h1 10 v1.toNatClampNeg (vp_nar .boolean 0)))) ∧ (¬ v5 = 0 → vp_in v1 218 ∧ (Φ (up h1 10 v1.toNatClampNeg (vp_nar .boolean 1)))))))) :
    Wg X 0 0 h [(0, .ref 0), (1, .int v1), (2, .int v2), (3, .int v3), (4, .int v4), (5, .int v5), (6, .int v6)] [] 51 := by
  refine r_aload_n C 0 rfl d_Mo_sum_51 ?_
  refine r_iload_n C 1 rfl d_Mo_sum_52 ?_
  refine r_iload_n C 2 rfl d_Mo_sum_53 ?_
  refine r_iload_n C 3 rfl d_Mo_sum_54 ?_
  refine r_callV (As := [.int v1, .int v2, .int v3]) (st := []) (lvc := 1) (mcc := 0) (msc := 0) C Rm M_Mo_addSizes rfl k_1235 rfl (by decide) (Nat.le_of_ble_eq_true rfl) ⟨by decide, by decide⟩ d_Mo_sum_55 ?_
  refine Can.mono K (fun _ h1 z => ?_)
  obtain ⟨rfl, K⟩ := z
  show Wg X 0 0 h1 [(0, .ref 0), (1, .int v1), (2, .int v2), (3, .int v3), (4, .int v4), (5, .int v5), (6, .int v6)] [] 58
  refine r_aload_n C 0 rfl d_Mo_sum_58 ?_
  refine gf_Mo_isBelow (k2 := 10) C rfl rfl k_1032 d_Mo_sum_59 ?_
  refine r_iload_n C 1 rfl d_Mo_sum_62 ?_
  refine r_aload_n C 0 rfl d_Mo_sum_63 ?_
  refine gf_Mo_length (k2 := 9) C rfl rfl k_1031 d_Mo_sum_64 ?_
  refine r_iload_n C 1 rfl d_Mo_sum_67 ?_
  obtain ⟨s0, K⟩ := K
  refine r_iald C rfl s0 d_Mo_sum_68 ?_
  refine r_if_le C 81 d_Mo_sum_69 (by decide) ⟨fun c0 => ?_, fun c0 => ?_⟩
  · have K := K.1 c0
    refine r_iconst (v := 0) C (by decide) d_Mo_sum_81 ?_
    obtain ⟨s0, K⟩ := K
    refine r_zast C rfl s0 d_Mo_sum_82 ?_
    refine r_goto C 189 d_Mo_sum_83 (by decide) ?_
    exact q_vret C Q d_Mo_sum_189 ⟨rfl, K⟩
  · have K := K.2 c0
    refine r_iload C 5 rfl d_Mo_sum_72 ?_
    refine r_if_eq C 81 d_Mo_sum_74 (by decide) ⟨fun c0 => ?_, fun c0 => ?_⟩
    · have K := K.1 c0
      refine r_iconst (v := 0) C (by decide) d_Mo_sum_81 ?_
      obtain ⟨s0, K⟩ := K
      refine r_zast C rfl s0 d_Mo_sum_82 ?_
      refine r_goto C 189 d_Mo_sum_83 (by decide) ?_
      exact q_vret C Q d_Mo_sum_189 ⟨rfl, K⟩
    · have K := K.2 c0
      refine r_iconst (v := 1) C (by decide) d_Mo_sum_77 ?_
      refine r_goto C 82 d_Mo_sum_78 (by decide) ?_
      obtain ⟨s0, K⟩ := K
      refine r_zast C rfl s0 d_Mo_sum_82 ?_
      refine r_goto C 189 d_Mo_sum_83 (by decide) ?_
      exact q_vret C Q d_Mo_sum_189 ⟨rfl, K⟩
set_option maxRecDepth 20000 in
theorem g_Mo_product_0 {X : CX} {h : HP} {v1 : Int32} {v2 : Int32} {v3 : Int32} {Φ : HP → Prop} (C : Cok X b_Mo_product 12 R_Mo none) (Rm : xR X = rml 1 0 0) (Q : Qok X 0 0 (fun r h2 => r = none ∧ Φ h2)) 
    (K : vp_in v2 218 ∧ (vp_in v3 218 ∧ (Wg X 0 0 h [(0, .ref 0), (1, .int v1), (2, .int v2), (3, .int v3), (4, .int ((h 9 v2.toNatClampNeg) + (h 9 v3.toNatClampNeg))), (5, .int 0)] [] 18))) :
    Wg X 0 0 h [(0, .ref 0), (1, .int v1), (2, .int v2), (3, .int v3)] [] 0 := by
  refine r_aload_n C 0 rfl d_Mo_product_0 ?_
  refine gf_Mo_length (k2 := 9) C rfl rfl k_1031 d_Mo_product_1 ?_
  refine r_iload_n C 2 rfl d_Mo_product_4 ?_
  obtain ⟨s0, K⟩ := K
  refine r_iald C rfl s0 d_Mo_product_5 ?_
  refine r_aload_n C 0 rfl d_Mo_product_6 ?_
  refine gf_Mo_length (k2 := 9) C rfl rfl k_1031 d_Mo_product_7 ?_
  refine r_iload_n C 3 rfl d_Mo_product_10 ?_
  obtain ⟨s0, K⟩ := K
  refine r_iald C rfl s0 d_Mo_product_11 ?_
  refine r_iadd C d_Mo_product_12 ?_
  refine r_istore (ls2 := [(0, .ref 0), (1, .int v1), (2, .int v2), (3, .int v3), (4, .int ((h 9 v2.toNatClampNeg) + (h 9 v3.toNatClampNeg)))]) C (by decide) rfl d_Mo_product_13 ?_
  refine r_iconst (v := 0) C (by decide) d_Mo_product_15 ?_
  refine r_istore (ls2 := [(0, .ref 0), (1, .int v1), (2, .int v2), (3, .int v3), (4, .int ((h 9 v2.toNatClampNeg) + (h 9 v3.toNatClampNeg))), (5, .int 0)]) C (by decide) rfl d_Mo_product_16 ?_
  exact K
set_option maxRecDepth 20000 in
theorem g_Mo_product_18 {X : CX} {h : HP} {v1 : Int32} {v2 : Int32} {v3 : Int32} {v4 : Int32} {v5 : Int32} {Φ : HP → Prop} (C : Cok X b_Mo_product 12 R_Mo none) (Rm : xR X = rml 1 0 0) (Q : Qok X 0 0 (fun r h2 => r = none ∧ Φ h2)) 
    (K : (v4 ≤ v5 → Wg X 0 0 h [(0, .ref 0), (1, .int v1), (2, .int v2), (3, .int v3), (4, .int v4), (5, .int 0)] [] 47) ∧ (¬ v4 ≤ v5 → vp_in ((100 * v1) + v5) 21800 ∧ (Wg X 0 0 (up h 8 ((100 * v1) + v5).toNatClampNeg 0) [(0, .ref 0), (1, .int v1), (2, .int v2), (3, .int v3), (4, .int v4), (5, .int (v5 + 1))] [] 18))) :
    Wg X 0 0 h [(0, .ref 0), (1, .int v1), (2, .int v2), (3, .int v3), (4, .int v4), (5, .int v5)] [] 18 := by
  refine r_iload C 5 rfl d_Mo_product_18 ?_
  refine r_iload C 4 rfl d_Mo_product_20 ?_
  refine r_icmp_ge C 44 d_Mo_product_22 (by decide) ⟨fun c0 => ?_, fun c0 => ?_⟩
  · have K := K.1 c0
    refine r_iconst (v := 0) C (by decide) d_Mo_product_44 ?_
    refine r_istore (ls2 := [(0, .ref 0), (1, .int v1), (2, .int v2), (3, .int v3), (4, .int v4), (5, .int 0)]) C (by decide) rfl d_Mo_product_45 ?_
    exact K
  · have K := K.2 c0
    refine r_aload_n C 0 rfl d_Mo_product_25 ?_
    refine gf_Mo_limb (k2 := 8) C rfl rfl k_1030 d_Mo_product_26 ?_
    refine r_bipush (v := 100) C (by decide) d_Mo_product_29 ?_
    refine r_iload_n C 1 rfl d_Mo_product_31 ?_
    refine r_imul C d_Mo_product_32 ?_
    refine r_iload C 5 rfl d_Mo_product_33 ?_
    refine r_iadd C d_Mo_product_35 ?_
    refine r_iconst (v := 0) C (by decide) d_Mo_product_36 ?_
    obtain ⟨s0, K⟩ := K
    refine r_iast C rfl s0 d_Mo_product_37 ?_
    refine r_iinc (ls2 := [(0, .ref 0), (1, .int v1), (2, .int v2), (3, .int v3), (4, .int v4), (5, .int (v5 + 1))]) C 5 (m := 1) rfl (by decide) (by decide) rfl d_Mo_product_38 ?_
    refine r_goto C 18 d_Mo_product_41 (by decide) ?_
    exact K
set_option maxRecDepth 20000 in
theorem g_Mo_product_47 {X : CX} {h : HP} {v1 : Int32} {v2 : Int32} {v3 : Int32} {v4 : Int32} {v5 : Int32} {Φ : HP → Prop} (C : Cok X b_Mo_product 12 R_Mo none) (Rm : xR X = rml 1 0 0) (Q : Qok X 0 0 (fun r h2 => r = none ∧ Φ h2)) 
    (K : vp_in v2 218 ∧ ((((h 9 v2.toNatClampNeg)) ≤ v5 → vp_in v1 218 ∧ (vp_in v2 218 ∧ (vp_in v3 218 ∧ (((((up h 9 v1.toNatClampNeg v4) 10 v2.toNatClampNeg)) = (((up h 9 v1.toNatClampNeg v4) 10 v3.toNatClampNeg)) → vp_in v1 218 ∧ (K_Mo_trim [.ref 0, .int v1] (up (up h 9 v1.toNatClampNeg v4) 10 v1.toNatClampNeg (vp_nar .boolean 0)) (fun h1 => Φ h1))) ∧ (¬ (((up h 9 v1.toNatClampNeg v4) 10 v2.toNatClampNeg)) = (((up h 9 v1.toNatClampNeg v4) 10 v3.toNatClampNeg)) → vp_in v1 218 ∧ (K_Mo_trim [.ref 0, .int v1] (up (up h 9 v1.toNatClampNeg v4) 10 v1.toNatClampNeg (vp_nar .boolean 1)) (fun h2 => Φ h2))))))) ∧ (¬ ((h 9 v2.toNatClampNeg)) ≤ v5 → Wg X 0 0 h [(0, .ref 0), (1, .int v1), (2, .int v2), (3, .int v3), (4, .int v4), (5, .int v5), (6, .long 0), (8, .int 0)] [] 64))) :
    Wg X 0 0 h [(0, .ref 0), (1, .int v1), (2, .int v2), (3, .int v3), (4, .int v4), (5, .int v5)] [] 47 := by
  refine r_iload C 5 rfl d_Mo_product_47 ?_
  refine r_aload_n C 0 rfl d_Mo_product_49 ?_
  refine gf_Mo_length (k2 := 9) C rfl rfl k_1031 d_Mo_product_50 ?_
  refine r_iload_n C 2 rfl d_Mo_product_53 ?_
  obtain ⟨s0, K⟩ := K
  refine r_iald C rfl s0 d_Mo_product_54 ?_
  refine r_icmp_ge C 163 d_Mo_product_55 (by decide) ⟨fun c0 => ?_, fun c0 => ?_⟩
  · have K := K.1 c0
    refine r_aload_n C 0 rfl d_Mo_product_163 ?_
    refine gf_Mo_length (k2 := 9) C rfl rfl k_1031 d_Mo_product_164 ?_
    refine r_iload_n C 1 rfl d_Mo_product_167 ?_
    refine r_iload C 4 rfl d_Mo_product_168 ?_
    obtain ⟨s0, K⟩ := K
    refine r_iast C rfl s0 d_Mo_product_170 ?_
    refine r_aload_n C 0 rfl d_Mo_product_171 ?_
    refine gf_Mo_isBelow (k2 := 10) C rfl rfl k_1032 d_Mo_product_172 ?_
    refine r_iload_n C 1 rfl d_Mo_product_175 ?_
    refine r_aload_n C 0 rfl d_Mo_product_176 ?_
    refine gf_Mo_isBelow (k2 := 10) C rfl rfl k_1032 d_Mo_product_177 ?_
    refine r_iload_n C 2 rfl d_Mo_product_180 ?_
    obtain ⟨s0, K⟩ := K
    refine r_zald C rfl s0 d_Mo_product_181 ?_
    refine r_aload_n C 0 rfl d_Mo_product_182 ?_
    refine gf_Mo_isBelow (k2 := 10) C rfl rfl k_1032 d_Mo_product_183 ?_
    refine r_iload_n C 3 rfl d_Mo_product_186 ?_
    obtain ⟨s0, K⟩ := K
    refine r_zald C rfl s0 d_Mo_product_187 ?_
    refine r_icmp_eq C 195 d_Mo_product_188 (by decide) ⟨fun c0 => ?_, fun c0 => ?_⟩
    · have K := K.1 c0
      refine r_iconst (v := 0) C (by decide) d_Mo_product_195 ?_
      obtain ⟨s0, K⟩ := K
      refine r_zast C rfl s0 d_Mo_product_196 ?_
      refine r_aload_n C 0 rfl d_Mo_product_197 ?_
      refine r_iload_n C 1 rfl d_Mo_product_198 ?_
      refine r_callV (As := [.int v1]) (st := []) (lvc := 0) (mcc := 0) (msc := 0) C Rm M_Mo_trim rfl k_1112 rfl (by decide) (Nat.le_of_ble_eq_true rfl) ⟨by decide, by decide⟩ d_Mo_product_199 ?_
      refine Can.mono K (fun _ h1 z => ?_)
      obtain ⟨rfl, K⟩ := z
      show Wg X 0 0 h1 [(0, .ref 0), (1, .int v1), (2, .int v2), (3, .int v3), (4, .int v4), (5, .int v5)] [] 202
      exact q_vret C Q d_Mo_product_202 ⟨rfl, K⟩
    · have K := K.2 c0
      refine r_iconst (v := 1) C (by decide) d_Mo_product_191 ?_
      refine r_goto C 196 d_Mo_product_192 (by decide) ?_
      obtain ⟨s0, K⟩ := K
      refine r_zast C rfl s0 d_Mo_product_196 ?_
      refine r_aload_n C 0 rfl d_Mo_product_197 ?_
      refine r_iload_n C 1 rfl d_Mo_product_198 ?_
      refine r_callV (As := [.int v1]) (st := []) (lvc := 0) (mcc := 0) (msc := 0) C Rm M_Mo_trim rfl k_1112 rfl (by decide) (Nat.le_of_ble_eq_true rfl) ⟨by decide, by decide⟩ d_Mo_product_199 ?_
      refine Can.mono K (fun _ h2 z => ?_)
      obtain ⟨rfl, K⟩ := z
      show Wg X 0 0 h2 [(0, .ref 0), (1, .int v1), (2, .int v2), (3, .int v3), (4, .int v4), (5, .int v5)] [] 202
      exact q_vret C Q d_Mo_product_202 ⟨rfl, K⟩
  · have K := K.2 c0
    refine r_lconst (v := 0) C (by decide) d_Mo_product_58 ?_
    refine r_lstore (ls2 := [(0, .ref 0), (1, .int v1), (2, .int v2), (3, .int v3), (4, .int v4), (5, .int v5), (6, .long 0)]) C (by decide) rfl d_Mo_product_59 ?_
    refine r_iconst (v := 0) C (by decide) d_Mo_product_61 ?_
    refine r_istore (ls2 := [(0, .ref 0), (1, .int v1), (2, .int v2), (3, .int v3), (4, .int v4), (5, .int v5), (6, .long 0), (8, .int 0)]) C (by decide) rfl d_Mo_product_62 ?_
    exact K
set_option maxRecDepth 20000 in
theorem g_Mo_product_64 {X : CX} {h : HP} {v1 : Int32} {v2 : Int32} {v3 : Int32} {v4 : Int32} {v5 : Int32} {v6 : Int64} {v8 : Int32} {Φ : HP → Prop} (C : Cok X b_Mo_product 12 R_Mo none) (Rm : xR X = rml 1 0 0) (Q : Qok X 0 0 (fun r h2 => r = none ∧ Φ h2)) 
    (K : vp_in v3 218 ∧ ((v8 < ((h 9 v3.toNatClampNeg)) → Wg X 0 0 h [(0, .ref 0), (1, .int v1), (2, .int v2), (3, .int v3), (4, .int v4), (5, .int v5), (6, .long v6), (8, .int v8)] [] 82) ∧ (¬ v8 < ((h 9 v3.toNatClampNeg)) → ((lg_cmp v6 0) ≤ 0 → Wg X 0 0 h [(0, .ref 0), (1, .int v1), (2, .int v2), (3, .int v3), (4, .int v4), (5, .int (v5 + 1))] [] 47) ∧ (¬ (lg_cmp v6 0) ≤ 0 → Wg X 0 0 h [(0, .ref 0), (1, .int v1), (2, .int v2), (3, .int v3), (4, .int v4), (5, .int v5), (6, .long v6), (8, .int v8)] [] 82)))) :
    Wg X 0 0 h [(0, .ref 0), (1, .int v1), (2, .int v2), (3, .int v3), (4, .int v4), (5, .int v5), (6, .long v6), (8, .int v8)] [] 64 := by
  refine r_iload C 7 rfl d_Mo_product_64 ?_
  refine r_aload_n C 0 rfl d_Mo_product_66 ?_
  refine gf_Mo_length (k2 := 9) C rfl rfl k_1031 d_Mo_product_67 ?_
  refine r_iload_n C 3 rfl d_Mo_product_70 ?_
  obtain ⟨s0, K⟩ := K
  refine r_iald C rfl s0 d_Mo_product_71 ?_
  refine r_icmp_lt C 82 d_Mo_product_72 (by decide) ⟨fun c0 => ?_, fun c0 => ?_⟩
  · have K := K.1 c0
    exact K
  · have K := K.2 c0
    refine r_lload C 6 rfl d_Mo_product_75 ?_
    refine r_lconst (v := 0) C (by decide) d_Mo_product_77 ?_
    refine r_lcmp C d_Mo_product_78 ?_
    refine r_if_le C 157 d_Mo_product_79 (by decide) ⟨fun c0 => ?_, fun c0 => ?_⟩
    · have K := K.1 c0
      refine r_iinc (ls2 := [(0, .ref 0), (1, .int v1), (2, .int v2), (3, .int v3), (4, .int v4), (5, .int (v5 + 1)), (6, .long v6), (8, .int v8)]) C 5 (m := 1) rfl (by decide) (by decide) rfl d_Mo_product_157 ?_
      refine r_goto C 47 d_Mo_product_160 (by decide) ?_
      exact Wg.drop (by simp) K
    · have K := K.2 c0
      exact K
set_option maxRecDepth 20000 in
theorem g_Mo_product_82 {X : CX} {h : HP} {v1 : Int32} {v2 : Int32} {v3 : Int32} {v4 : Int32} {v5 : Int32} {v6 : Int64} {v8 : Int32} {Φ : HP → Prop} (C : Cok X b_Mo_product 12 R_Mo none) (Rm : xR X = rml 1 0 0) (Q : Qok X 0 0 (fun r h2 => r = none ∧ Φ h2)) 
    (K : vp_in ((100 * v2) + v5) 21800 ∧ (K_Mo_limbOf [.ref 0, .int v3, .int v8] h (fun r1 h1 => vp_in (((100 * v1) + v5) + v8) 21800 ∧ (vp_in (((100 * v1) + v5) + v8) 21800 ∧ (Wg X 0 0 (up h1 8 (((100 * v1) + v5) + v8).toNatClampNeg (Int64.toInt32 (((((Int32.toInt64 (h 8 ((100 * v2) + v5).toNatClampNeg)) * (Int32.toInt64 r1)) + (Int32.toInt64 (h1 8 (((100 * v1) + v5) + v8).toNatClampNeg))) + v6) &&& 65535))) [(0, .ref 0), (1, .int v1), (2, .int v2), (3, .int v3), (4, .int v4), (5, .int v5), (6, .long (lshr ((((Int32.toInt64 (h 8 ((100 * v2) + v5).toNatClampNeg)) * (Int32.toInt64 r1)) + (Int32.toInt64 (h1 8 (((100 * v1) + v5) + v8).toNatClampNeg))) + v6) 16)), (8, .int (v8 + 1))] [] 64))))) :
    Wg X 0 0 h [(0, .ref 0), (1, .int v1), (2, .int v2), (3, .int v3), (4, .int v4), (5, .int v5), (6, .long v6), (8, .int v8)] [] 82 := by
  refine r_bipush (v := 100) C (by decide) d_Mo_product_82 ?_
  refine r_iload_n C 1 rfl d_Mo_product_84 ?_
  refine r_imul C d_Mo_product_85 ?_
  refine r_iload C 5 rfl d_Mo_product_86 ?_
  refine r_iadd C d_Mo_product_88 ?_
  refine r_iload C 7 rfl d_Mo_product_89 ?_
  refine r_iadd C d_Mo_product_91 ?_
  refine r_istore (ls2 := [(0, .ref 0), (1, .int v1), (2, .int v2), (3, .int v3), (4, .int v4), (5, .int v5), (6, .long v6), (8, .int v8), (9, .int (((100 * v1) + v5) + v8))]) C (by decide) rfl d_Mo_product_92 ?_
  refine r_aload_n C 0 rfl d_Mo_product_94 ?_
  refine gf_Mo_limb (k2 := 8) C rfl rfl k_1030 d_Mo_product_95 ?_
  refine r_bipush (v := 100) C (by decide) d_Mo_product_98 ?_
  refine r_iload_n C 2 rfl d_Mo_product_100 ?_
  refine r_imul C d_Mo_product_101 ?_
  refine r_iload C 5 rfl d_Mo_product_102 ?_
  refine r_iadd C d_Mo_product_104 ?_
  obtain ⟨s0, K⟩ := K
  refine r_iald C rfl s0 d_Mo_product_105 ?_
  refine r_i2l C d_Mo_product_106 ?_
  refine r_aload_n C 0 rfl d_Mo_product_107 ?_
  refine r_iload_n C 3 rfl d_Mo_product_108 ?_
  refine r_iload C 7 rfl d_Mo_product_109 ?_
  refine r_callV (As := [.int v3, .int v8]) (st := [.long (Int32.toInt64 (h 8 ((100 * v2) + v5).toNatClampNeg))]) (lvc := 0) (mcc := 0) (msc := 0) C Rm M_Mo_limbOf rfl k_1136 rfl (by decide) (Nat.le_of_ble_eq_true rfl) ⟨by decide, by decide⟩ d_Mo_product_111 ?_
  refine Can.mono K (fun _ h1 z => ?_)
  obtain ⟨r1, rfl, K⟩ := z
  show Wg X 0 0 h1 [(0, .ref 0), (1, .int v1), (2, .int v2), (3, .int v3), (4, .int v4), (5, .int v5), (6, .long v6), (8, .int v8), (9, .int (((100 * v1) + v5) + v8))] [.int r1, .long (Int32.toInt64 (h 8 ((100 * v2) + v5).toNatClampNeg))] 114
  refine r_i2l C d_Mo_product_114 ?_
  refine r_lmul C d_Mo_product_115 ?_
  refine r_aload_n C 0 rfl d_Mo_product_116 ?_
  refine gf_Mo_limb (k2 := 8) C rfl rfl k_1030 d_Mo_product_117 ?_
  refine r_iload C 8 rfl d_Mo_product_120 ?_
  obtain ⟨s0, K⟩ := K
  refine r_iald C rfl s0 d_Mo_product_122 ?_
  refine r_i2l C d_Mo_product_123 ?_
  refine r_ladd C d_Mo_product_124 ?_
  refine r_lload C 6 rfl d_Mo_product_125 ?_
  refine r_ladd C d_Mo_product_127 ?_
  refine r_lstore (ls2 := [(0, .ref 0), (1, .int v1), (2, .int v2), (3, .int v3), (4, .int v4), (5, .int v5), (6, .long v6), (8, .int v8), (9, .int (((100 * v1) + v5) + v8)), (10, .long ((((Int32.toInt64 (h 8 ((100 * v2) + v5).toNatClampNeg)) * (Int32.toInt64 r1)) + (Int32.toInt64 (h1 8 (((100 * v1) + v5) + v8).toNatClampNeg))) + v6))]) C (by decide) rfl d_Mo_product_128 ?_
  refine r_aload_n C 0 rfl d_Mo_product_130 ?_
  refine gf_Mo_limb (k2 := 8) C rfl rfl k_1030 d_Mo_product_131 ?_
  refine r_iload C 8 rfl d_Mo_product_134 ?_
  refine r_lload C 9 rfl d_Mo_product_136 ?_
  refine r_ldc2 (v := 65535) C k_1110 d_Mo_product_138 ?_
  refine r_land C d_Mo_product_141 ?_
  refine r_l2i C d_Mo_product_142 ?_
  obtain ⟨s0, K⟩ := K
  refine r_iast C rfl s0 d_Mo_product_143 ?_
  refine r_lload C 9 rfl d_Mo_product_144 ?_
  refine r_bipush (v := 16) C (by decide) d_Mo_product_146 ?_
  refine r_lshr C d_Mo_product_148 ?_
  refine r_lstore (ls2 := [(0, .ref 0), (1, .int v1), (2, .int v2), (3, .int v3), (4, .int v4), (5, .int v5), (6, .long (lshr ((((Int32.toInt64 (h 8 ((100 * v2) + v5).toNatClampNeg)) * (Int32.toInt64 r1)) + (Int32.toInt64 (h1 8 (((100 * v1) + v5) + v8).toNatClampNeg))) + v6) 16)), (8, .int v8), (9, .int (((100 * v1) + v5) + v8)), (10, .long ((((Int32.toInt64 (h 8 ((100 * v2) + v5).toNatClampNeg)) * (Int32.toInt64 r1)) + (Int32.toInt64 (h1 8 (((100 * v1) + v5) + v8).toNatClampNeg))) + v6))]) C (by decide) rfl d_Mo_product_149 ?_
  refine r_iinc (ls2 := [(0, .ref 0), (1, .int v1), (2, .int v2), (3, .int v3), (4, .int v4), (5, .int v5), (6, .long (lshr ((((Int32.toInt64 (h 8 ((100 * v2) + v5).toNatClampNeg)) * (Int32.toInt64 r1)) + (Int32.toInt64 (h1 8 (((100 * v1) + v5) + v8).toNatClampNeg))) + v6) 16)), (8, .int (v8 + 1)), (9, .int (((100 * v1) + v5) + v8)), (10, .long ((((Int32.toInt64 (h 8 ((100 * v2) + v5).toNatClampNeg)) * (Int32.toInt64 r1)) + (Int32.toInt64 (h1 8 (((100 * v1) + v5) + v8).toNatClampNeg))) + v6))]) C 7 (m := 1) rfl (by decide) (by decide) rfl d_Mo_product_151 ?_
  refine r_goto C 64 d_Mo_product_154 (by decide) ?_
  exact Wg.drop (by simp) K
set_option maxRecDepth 20000 in
theorem g_Mo_bitsOf_0 {X : CX} {h : HP} {v1 : Int32} {Φ : Int32 → HP → Prop} (C : Cok X b_Mo_bitsOf 4 R_Mo ((some .int))) (Rm : xR X = rml 0 0 0) (Q : Qok X 0 0 (fun r h2 => ∃ v, r = some (.int v) ∧ Φ v h2)) 
    (K : vp_in v1 218 ∧ ((¬ (h 9 v1.toNatClampNeg) = 0 → vp_in v1 218 ∧ (vp_in v1 218 ∧ (vp_in (((100 * v1) + (h 9 v1.toNatClampNeg)) - 1) 21800 ∧ (Wg X 0 0 h [(0, .ref 0), (1, .int v1), (2, .int (16 * ((h 9 v1.toNatClampNeg) - 1))), (3, .int (h 8 (((100 * v1) + (h 9 v1.toNatClampNeg)) - 1).toNatClampNeg))] [] 42)))) ∧ ((h 9 v1.toNatClampNeg) = 0 → Φ 0 h))) :
    Wg X 0 0 h [(0, .ref 0), (1, .int v1)] [] 0 := by
  refine r_aload_n C 0 rfl d_Mo_bitsOf_0 ?_
  refine gf_Mo_length (k2 := 9) C rfl rfl k_1031 d_Mo_bitsOf_1 ?_
  refine r_iload_n C 1 rfl d_Mo_bitsOf_4 ?_
  obtain ⟨s0, K⟩ := K
  refine r_iald C rfl s0 d_Mo_bitsOf_5 ?_
  refine r_if_ne C 11 d_Mo_bitsOf_6 (by decide) ⟨fun c0 => ?_, fun c0 => ?_⟩
  · have K := K.1 c0
    refine r_bipush (v := 16) C (by decide) d_Mo_bitsOf_11 ?_
    refine r_aload_n C 0 rfl d_Mo_bitsOf_13 ?_
    refine gf_Mo_length (k2 := 9) C rfl rfl k_1031 d_Mo_bitsOf_14 ?_
    refine r_iload_n C 1 rfl d_Mo_bitsOf_17 ?_
    obtain ⟨s0, K⟩ := K
    refine r_iald C rfl s0 d_Mo_bitsOf_18 ?_
    refine r_iconst (v := 1) C (by decide) d_Mo_bitsOf_19 ?_
    refine r_isub C d_Mo_bitsOf_20 ?_
    refine r_imul C d_Mo_bitsOf_21 ?_
    refine r_istore_n (ls2 := [(0, .ref 0), (1, .int v1), (2, .int (16 * ((h 9 v1.toNatClampNeg) - 1)))]) C rfl (by decide) rfl d_Mo_bitsOf_22 ?_
    refine r_aload_n C 0 rfl d_Mo_bitsOf_23 ?_
    refine gf_Mo_limb (k2 := 8) C rfl rfl k_1030 d_Mo_bitsOf_24 ?_
    refine r_bipush (v := 100) C (by decide) d_Mo_bitsOf_27 ?_
    refine r_iload_n C 1 rfl d_Mo_bitsOf_29 ?_
    refine r_imul C d_Mo_bitsOf_30 ?_
    refine r_aload_n C 0 rfl d_Mo_bitsOf_31 ?_
    refine gf_Mo_length (k2 := 9) C rfl rfl k_1031 d_Mo_bitsOf_32 ?_
    refine r_iload_n C 1 rfl d_Mo_bitsOf_35 ?_
    obtain ⟨s0, K⟩ := K
    refine r_iald C rfl s0 d_Mo_bitsOf_36 ?_
    refine r_iadd C d_Mo_bitsOf_37 ?_
    refine r_iconst (v := 1) C (by decide) d_Mo_bitsOf_38 ?_
    refine r_isub C d_Mo_bitsOf_39 ?_
    obtain ⟨s0, K⟩ := K
    refine r_iald C rfl s0 d_Mo_bitsOf_40 ?_
    refine r_istore_n (ls2 := [(0, .ref 0), (1, .int v1), (2, .int (16 * ((h 9 v1.toNatClampNeg) - 1))), (3, .int (h 8 (((100 * v1) + (h 9 v1.toNatClampNeg)) - 1).toNatClampNeg))]) C rfl (by decide) rfl d_Mo_bitsOf_41 ?_
    exact K
  · have K := K.2 c0
    refine r_iconst (v := 0) C (by decide) d_Mo_bitsOf_9 ?_
    exact q_iret C Q d_Mo_bitsOf_10 ⟨_, rfl, K⟩
set_option maxRecDepth 20000 in
theorem g_Mo_bitsOf_42 {X : CX} {h : HP} {v1 : Int32} {v2 : Int32} {v3 : Int32} {Φ : Int32 → HP → Prop} (C : Cok X b_Mo_bitsOf 4 R_Mo ((some .int))) (Rm : xR X = rml 0 0 0) (Q : Qok X 0 0 (fun r h2 => ∃ v, r = some (.int v) ∧ Φ v h2)) 
    (K : (v3 ≤ 0 → Φ v2 h) ∧ (¬ v3 ≤ 0 → Wg X 0 0 h [(0, .ref 0), (1, .int v1), (2, .int (v2 + 1)), (3, .int (v3 >>> (1 &&& (31 : Int32))))] [] 42)) :
    Wg X 0 0 h [(0, .ref 0), (1, .int v1), (2, .int v2), (3, .int v3)] [] 42 := by
  refine r_iload_n C 3 rfl d_Mo_bitsOf_42 ?_
  refine r_if_le C 56 d_Mo_bitsOf_43 (by decide) ⟨fun c0 => ?_, fun c0 => ?_⟩
  · have K := K.1 c0
    refine r_iload_n C 2 rfl d_Mo_bitsOf_56 ?_
    exact q_iret C Q d_Mo_bitsOf_57 ⟨_, rfl, K⟩
  · have K := K.2 c0
    refine r_iinc (ls2 := [(0, .ref 0), (1, .int v1), (2, .int (v2 + 1)), (3, .int v3)]) C 2 (m := 1) rfl (by decide) (by decide) rfl d_Mo_bitsOf_46 ?_
    refine r_iload_n C 3 rfl d_Mo_bitsOf_49 ?_
    refine r_iconst (v := 1) C (by decide) d_Mo_bitsOf_50 ?_
    refine r_ishr C d_Mo_bitsOf_51 ?_
    refine r_istore_n (ls2 := [(0, .ref 0), (1, .int v1), (2, .int (v2 + 1)), (3, .int (v3 >>> (1 &&& (31 : Int32))))]) C rfl (by decide) rfl d_Mo_bitsOf_52 ?_
    refine r_goto C 42 d_Mo_bitsOf_53 (by decide) ?_
    exact K
set_option maxRecDepth 20000 in
theorem g_Mo_isLarge_0 {X : CX} {h : HP} {v1 : Int32} {Φ : Int32 → HP → Prop} (C : Cok X b_Mo_isLarge 2 R_Mo ((some .boolean))) (Rm : xR X = rml 1 0 0) (Q : Qok X 0 0 (fun r h2 => ∃ v, r = some (.int v) ∧ Φ v h2)) 
    (K : K_Mo_bitsOf [.ref 0, .int v1] h (fun r1 h1 => (r1 ≤ (640 : Int32) → Φ 0 h1) ∧ (¬ r1 ≤ (640 : Int32) → Φ 1 h1))) :
    Wg X 0 0 h [(0, .ref 0), (1, .int v1)] [] 0 := by
  refine r_aload_n C 0 rfl d_Mo_isLarge_0 ?_
  refine r_iload_n C 1 rfl d_Mo_isLarge_1 ?_
  refine r_callV (As := [.int v1]) (st := []) (lvc := 0) (mcc := 0) (msc := 0) C Rm M_Mo_bitsOf rfl k_1124 rfl (by decide) (Nat.le_of_ble_eq_true rfl) ⟨by decide, by decide⟩ d_Mo_isLarge_2 ?_
  refine Can.mono K (fun _ h1 z => ?_)
  obtain ⟨r1, rfl, K⟩ := z
  show Wg X 0 0 h1 [(0, .ref 0), (1, .int v1)] [.int r1] 5
  refine r_sipush (v := 640) C (by decide) d_Mo_isLarge_5 ?_
  refine r_icmp_le C 15 d_Mo_isLarge_8 (by decide) ⟨fun c0 => ?_, fun c0 => ?_⟩
  · have K := K.1 c0
    refine r_iconst (v := 0) C (by decide) d_Mo_isLarge_15 ?_
    exact q_zret C Q (by decide) d_Mo_isLarge_16 ⟨_, rfl, K⟩
  · have K := K.2 c0
    refine r_iconst (v := 1) C (by decide) d_Mo_isLarge_11 ?_
    refine r_goto C 16 d_Mo_isLarge_12 (by decide) ?_
    exact q_zret C Q (by decide) d_Mo_isLarge_16 ⟨_, rfl, K⟩
set_option maxRecDepth 20000 in
theorem g_Mo_divideSmall_0 {X : CX} {h : HP} {v1 : Int32} {v2 : Int32} {Φ : Int32 → HP → Prop} (C : Cok X b_Mo_divideSmall 8 R_Mo ((some .int))) (Rm : xR X = rml 1 0 0) (Q : Qok X 0 0 (fun r h2 => ∃ v, r = some (.int v) ∧ Φ v h2)) 
    (K : vp_in v1 218 ∧ (Wg X 0 0 h [(0, .ref 0), (1, .int v1), (2, .int v2), (3, .long 0), (5, .int ((h 9 v1.toNatClampNeg) - 1))] [] 12)) :
    Wg X 0 0 h [(0, .ref 0), (1, .int v1), (2, .int v2)] [] 0 := by
  refine r_lconst (v := 0) C (by decide) d_Mo_divideSmall_0 ?_
  refine r_lstore_n (ls2 := [(0, .ref 0), (1, .int v1), (2, .int v2), (3, .long 0)]) C rfl (by decide) rfl d_Mo_divideSmall_1 ?_
  refine r_aload_n C 0 rfl d_Mo_divideSmall_2 ?_
  refine gf_Mo_length (k2 := 9) C rfl rfl k_1031 d_Mo_divideSmall_3 ?_
  refine r_iload_n C 1 rfl d_Mo_divideSmall_6 ?_
  obtain ⟨s0, K⟩ := K
  refine r_iald C rfl s0 d_Mo_divideSmall_7 ?_
  refine r_iconst (v := 1) C (by decide) d_Mo_divideSmall_8 ?_
  refine r_isub C d_Mo_divideSmall_9 ?_
  refine r_istore (ls2 := [(0, .ref 0), (1, .int v1), (2, .int v2), (3, .long 0), (5, .int ((h 9 v1.toNatClampNeg) - 1))]) C (by decide) rfl d_Mo_divideSmall_10 ?_
  exact K
set_option maxRecDepth 20000 in
theorem g_Mo_divideSmall_12 {X : CX} {h : HP} {v1 : Int32} {v2 : Int32} {v3 : Int64} {v5 : Int32} {Φ : Int32 → HP → Prop} (C : Cok X b_Mo_divideSmall 8 R_Mo ((some .int))) (Rm : xR X = rml 1 0 0) (Q : Qok X 0 0 (fun r h2 => ∃ v, r = some (.int v) ∧ Φ v h2)) 
    (K : (v5 < 0 → K_Mo_trim [.ref 0, .int v1] h (fun h1 => Φ (Int64.toInt32 v3) h1)) ∧ (¬ v5 < 0 → vp_in ((100 * v1) + v5) 21800 ∧ (¬ (Int32.toInt64 v2) = 0 ∧ (vp_in ((100 * v1) + v5) 21800 ∧ (¬ (Int32.toInt64 v2) = 0 ∧ (Wg X 0 0 (up h 8 ((100 * v1) + v5).toNatClampNeg (Int64.toInt32 (((lshl v3 16) ||| (Int32.toInt64 (h 8 ((100 * v1) + v5).toNatClampNeg))) / (Int32.toInt64 v2)))) [(0, .ref 0), (1, .int v1), (2, .int v2), (3, .long (((lshl v3 16) ||| (Int32.toInt64 (h 8 ((100 * v1) + v5).toNatClampNeg))) - ((lshl v3 16) ||| (Int32.toInt64 (h 8 ((100 * v1) + v5).toNatClampNeg))) / (Int32.toInt64 v2) * (Int32.toInt64 v2))), (5, .int (v5 + (-1)))] [] 12)))))) :
    Wg X 0 0 h [(0, .ref 0), (1, .int v1), (2, .int v2), (3, .long v3), (5, .int v5)] [] 12 := by
  refine r_iload C 4 rfl d_Mo_divideSmall_12 ?_
  refine r_if_lt C 67 d_Mo_divideSmall_14 (by decide) ⟨fun c0 => ?_, fun c0 => ?_⟩
  · have K := K.1 c0
    refine r_aload_n C 0 rfl d_Mo_divideSmall_67 ?_
    refine r_iload_n C 1 rfl d_Mo_divideSmall_68 ?_
    refine r_callV (As := [.int v1]) (st := []) (lvc := 0) (mcc := 0) (msc := 0) C Rm M_Mo_trim rfl k_1112 rfl (by decide) (Nat.le_of_ble_eq_true rfl) ⟨by decide, by decide⟩ d_Mo_divideSmall_69 ?_
    refine Can.mono K (fun _ h1 z => ?_)
    obtain ⟨rfl, K⟩ := z
    show Wg X 0 0 h1 [(0, .ref 0), (1, .int v1), (2, .int v2), (3, .long v3), (5, .int v5)] [] 72
    refine r_lload_n C 3 rfl d_Mo_divideSmall_72 ?_
    refine r_l2i C d_Mo_divideSmall_73 ?_
    exact q_iret C Q d_Mo_divideSmall_74 ⟨_, rfl, K⟩
  · have K := K.2 c0
    refine r_lload_n C 3 rfl d_Mo_divideSmall_17 ?_
    refine r_bipush (v := 16) C (by decide) d_Mo_divideSmall_18 ?_
    refine r_lshl C d_Mo_divideSmall_20 ?_
    refine r_aload_n C 0 rfl d_Mo_divideSmall_21 ?_
    refine gf_Mo_limb (k2 := 8) C rfl rfl k_1030 d_Mo_divideSmall_22 ?_
    refine r_bipush (v := 100) C (by decide) d_Mo_divideSmall_25 ?_
    refine r_iload_n C 1 rfl d_Mo_divideSmall_27 ?_
    refine r_imul C d_Mo_divideSmall_28 ?_
    refine r_iload C 4 rfl d_Mo_divideSmall_29 ?_
    refine r_iadd C d_Mo_divideSmall_31 ?_
    obtain ⟨s0, K⟩ := K
    refine r_iald C rfl s0 d_Mo_divideSmall_32 ?_
    refine r_i2l C d_Mo_divideSmall_33 ?_
    refine r_lor C d_Mo_divideSmall_34 ?_
    refine r_lstore (ls2 := [(0, .ref 0), (1, .int v1), (2, .int v2), (3, .long v3), (5, .int v5), (6, .long ((lshl v3 16) ||| (Int32.toInt64 (h 8 ((100 * v1) + v5).toNatClampNeg))))]) C (by decide) rfl d_Mo_divideSmall_35 ?_
    refine r_aload_n C 0 rfl d_Mo_divideSmall_37 ?_
    refine gf_Mo_limb (k2 := 8) C rfl rfl k_1030 d_Mo_divideSmall_38 ?_
    refine r_bipush (v := 100) C (by decide) d_Mo_divideSmall_41 ?_
    refine r_iload_n C 1 rfl d_Mo_divideSmall_43 ?_
    refine r_imul C d_Mo_divideSmall_44 ?_
    refine r_iload C 4 rfl d_Mo_divideSmall_45 ?_
    refine r_iadd C d_Mo_divideSmall_47 ?_
    refine r_lload C 5 rfl d_Mo_divideSmall_48 ?_
    refine r_iload_n C 2 rfl d_Mo_divideSmall_50 ?_
    refine r_i2l C d_Mo_divideSmall_51 ?_
    obtain ⟨s0, K⟩ := K
    refine r_ldiv C s0 d_Mo_divideSmall_52 ?_
    refine r_l2i C d_Mo_divideSmall_53 ?_
    obtain ⟨s0, K⟩ := K
    refine r_iast C rfl s0 d_Mo_divideSmall_54 ?_
    refine r_lload C 5 rfl d_Mo_divideSmall_55 ?_
    refine r_iload_n C 2 rfl d_Mo_divideSmall_57 ?_
    refine r_i2l C d_Mo_divideSmall_58 ?_
    obtain ⟨s0, K⟩ := K
    refine r_lrem C s0 d_Mo_divideSmall_59 ?_
    refine r_lstore_n (ls2 := [(0, .ref 0), (1, .int v1), (2, .int v2), (3, .long (((lshl v3 16) ||| (Int32.toInt64 (h 8 ((100 * v1) + v5).toNatClampNeg))) - ((lshl v3 16) ||| (Int32.toInt64 (h 8 ((100 * v1) + v5).toNatClampNeg))) / (Int32.toInt64 v2) * (Int32.toInt64 v2))), (5, .int v5), (6, .long ((lshl v3 16) ||| (Int32.toInt64 (h 8 ((100 * v1) + v5).toNatClampNeg))))]) C rfl (by decide) rfl d_Mo_divideSmall_60 ?_
    refine r_iinc (ls2 := [(0, .ref 0), (1, .int v1), (2, .int v2), (3, .long (((lshl v3 16) ||| (Int32.toInt64 (h 8 ((100 * v1) + v5).toNatClampNeg))) - ((lshl v3 16) ||| (Int32.toInt64 (h 8 ((100 * v1) + v5).toNatClampNeg))) / (Int32.toInt64 v2) * (Int32.toInt64 v2))), (5, .int (v5 + (-1))), (6, .long ((lshl v3 16) ||| (Int32.toInt64 (h 8 ((100 * v1) + v5).toNatClampNeg))))]) C 4 (m := -1) rfl (by decide) (by decide) rfl d_Mo_divideSmall_61 ?_
    refine r_goto C 12 d_Mo_divideSmall_64 (by decide) ?_
    exact Wg.drop (by simp) K
set_option maxRecDepth 20000 in
theorem g_Mo_divide_0 {X : CX} {h : HP} {v1 : Int32} {v2 : Int32} {v3 : Int32} {Φ : HP → Prop} (C : Cok X b_Mo_divide 8 R_Mo none) (Rm : xR X = rml 2 0 0) (Q : Qok X 0 0 (fun r h2 => r = none ∧ Φ h2)) 
    (K : vp_in v3 218 ∧ ((¬ ((h 9 v3.toNatClampNeg)) = (1 : Int32) → vp_in 9 218 ∧ (vp_in 9 218 ∧ (vp_in v2 218 ∧ (vp_in v1 218 ∧ (vp_in v1 218 ∧ (Wg X 0 0 (up (up (up (up h 9 (9 : Int32).toNatClampNeg 0) 10 (9 : Int32).toNatClampNeg (vp_nar .boolean 0)) 9 v1.toNatClampNeg ((up (up h 9 (9 : Int32).toNatClampNeg 0) 10 (9 : Int32).toNatClampNeg (vp_nar .boolean 0)) 9 v2.toNatClampNeg)) 10 v1.toNatClampNeg (vp_nar .boolean 0)) [(0, .ref 0), (1, .int v1), (2, .int v2), (3, .int v3), (4, .int 0)] [] 83)))))) ∧ (((h 9 v3.toNatClampNeg)) = (1 : Int32) → K_Mo_copyRow [.ref 0, .int v1, .int v2] h (fun h1 => vp_in v1 218 ∧ (vp_in (100 * v3) 21800 ∧ (K_Mo_divideSmall [.ref 0, .int v1, .int ((up h1 10 v1.toNatClampNeg (vp_nar .boolean 0)) 8 (100 * v3).toNatClampNeg)] (up h1 10 v1.toNatClampNeg (vp_nar .boolean 0)) (fun r2 h2 => K_Mo_setLong [.ref 0, .int 9, .long (Int32.toInt64 r2)] h2 (fun h3 => Φ h3)))))))) :
    Wg X 0 0 h [(0, .ref 0), (1, .int v1), (2, .int v2), (3, .int v3)] [] 0 := by
  refine r_aload_n C 0 rfl d_Mo_divide_0 ?_
  refine gf_Mo_length (k2 := 9) C rfl rfl k_1031 d_Mo_divide_1 ?_
  refine r_iload_n C 3 rfl d_Mo_divide_4 ?_
  obtain ⟨s0, K⟩ := K
  refine r_iald C rfl s0 d_Mo_divide_5 ?_
  refine r_iconst (v := 1) C (by decide) d_Mo_divide_6 ?_
  refine r_icmp_ne C 45 d_Mo_divide_7 (by decide) ⟨fun c0 => ?_, fun c0 => ?_⟩
  · have K := K.1 c0
    refine r_aload_n C 0 rfl d_Mo_divide_45 ?_
    refine gf_Mo_length (k2 := 9) C rfl rfl k_1031 d_Mo_divide_46 ?_
    refine r_bipush (v := 9) C (by decide) d_Mo_divide_49 ?_
    refine r_iconst (v := 0) C (by decide) d_Mo_divide_51 ?_
    obtain ⟨s0, K⟩ := K
    refine r_iast C rfl s0 d_Mo_divide_52 ?_
    refine r_aload_n C 0 rfl d_Mo_divide_53 ?_
    refine gf_Mo_isBelow (k2 := 10) C rfl rfl k_1032 d_Mo_divide_54 ?_
    refine r_bipush (v := 9) C (by decide) d_Mo_divide_57 ?_
    refine r_iconst (v := 0) C (by decide) d_Mo_divide_59 ?_
    obtain ⟨s0, K⟩ := K
    refine r_zast C rfl s0 d_Mo_divide_60 ?_
    refine r_aload_n C 0 rfl d_Mo_divide_61 ?_
    refine gf_Mo_length (k2 := 9) C rfl rfl k_1031 d_Mo_divide_62 ?_
    refine r_iload_n C 1 rfl d_Mo_divide_65 ?_
    refine r_aload_n C 0 rfl d_Mo_divide_66 ?_
    refine gf_Mo_length (k2 := 9) C rfl rfl k_1031 d_Mo_divide_67 ?_
    refine r_iload_n C 2 rfl d_Mo_divide_70 ?_
    obtain ⟨s0, K⟩ := K
    refine r_iald C rfl s0 d_Mo_divide_71 ?_
    obtain ⟨s0, K⟩ := K
    refine r_iast C rfl s0 d_Mo_divide_72 ?_
    refine r_aload_n C 0 rfl d_Mo_divide_73 ?_
    refine gf_Mo_isBelow (k2 := 10) C rfl rfl k_1032 d_Mo_divide_74 ?_
    refine r_iload_n C 1 rfl d_Mo_divide_77 ?_
    refine r_iconst (v := 0) C (by decide) d_Mo_divide_78 ?_
    obtain ⟨s0, K⟩ := K
    refine r_zast C rfl s0 d_Mo_divide_79 ?_
    refine r_iconst (v := 0) C (by decide) d_Mo_divide_80 ?_
    refine r_istore (ls2 := [(0, .ref 0), (1, .int v1), (2, .int v2), (3, .int v3), (4, .int 0)]) C (by decide) rfl d_Mo_divide_81 ?_
    exact K
  · have K := K.2 c0
    refine r_aload_n C 0 rfl d_Mo_divide_10 ?_
    refine r_iload_n C 1 rfl d_Mo_divide_11 ?_
    refine r_iload_n C 2 rfl d_Mo_divide_12 ?_
    refine r_callV (As := [.int v1, .int v2]) (st := []) (lvc := 0) (mcc := 0) (msc := 0) C Rm M_Mo_copyRow rfl k_1167 rfl (by decide) (Nat.le_of_ble_eq_true rfl) ⟨by decide, by decide⟩ d_Mo_divide_13 ?_
    refine Can.mono K (fun _ h1 z => ?_)
    obtain ⟨rfl, K⟩ := z
    show Wg X 0 0 h1 [(0, .ref 0), (1, .int v1), (2, .int v2), (3, .int v3)] [] 16
    refine r_aload_n C 0 rfl d_Mo_divide_16 ?_
    refine gf_Mo_isBelow (k2 := 10) C rfl rfl k_1032 d_Mo_divide_17 ?_
    refine r_iload_n C 1 rfl d_Mo_divide_20 ?_
    refine r_iconst (v := 0) C (by decide) d_Mo_divide_21 ?_
    obtain ⟨s0, K⟩ := K
    refine r_zast C rfl s0 d_Mo_divide_22 ?_
    refine r_aload_n C 0 rfl d_Mo_divide_23 ?_
    refine r_bipush (v := 9) C (by decide) d_Mo_divide_24 ?_
    refine r_aload_n C 0 rfl d_Mo_divide_26 ?_
    refine r_iload_n C 1 rfl d_Mo_divide_27 ?_
    refine r_aload_n C 0 rfl d_Mo_divide_28 ?_
    refine gf_Mo_limb (k2 := 8) C rfl rfl k_1030 d_Mo_divide_29 ?_
    refine r_bipush (v := 100) C (by decide) d_Mo_divide_32 ?_
    refine r_iload_n C 3 rfl d_Mo_divide_34 ?_
    refine r_imul C d_Mo_divide_35 ?_
    obtain ⟨s0, K⟩ := K
    refine r_iald C rfl s0 d_Mo_divide_36 ?_
    refine r_callV (As := [.int v1, .int ((up h1 10 v1.toNatClampNeg (vp_nar .boolean 0)) 8 (100 * v3).toNatClampNeg)]) (st := [.int 9, .ref 0]) (lvc := 1) (mcc := 0) (msc := 0) C Rm M_Mo_divideSmall rfl k_1243 rfl (by decide) (Nat.le_of_ble_eq_true rfl) ⟨by decide, by decide⟩ d_Mo_divide_37 ?_
    refine Can.mono K (fun _ h2 z => ?_)
    obtain ⟨r2, rfl, K⟩ := z
    show Wg X 0 0 h2 [(0, .ref 0), (1, .int v1), (2, .int v2), (3, .int v3)] [.int r2, .int 9, .ref 0] 40
    refine r_i2l C d_Mo_divide_40 ?_
    refine r_callV (As := [.int 9, .long (Int32.toInt64 r2)]) (st := []) (lvc := 1) (mcc := 0) (msc := 0) C Rm M_Mo_setLong rfl k_1106 rfl (by decide) (Nat.le_of_ble_eq_true rfl) ⟨by decide, by decide⟩ d_Mo_divide_41 ?_
    refine Can.mono K (fun _ h3 z => ?_)
    obtain ⟨rfl, K⟩ := z
    show Wg X 0 0 h3 [(0, .ref 0), (1, .int v1), (2, .int v2), (3, .int v3)] [] 44
    exact q_vret C Q d_Mo_divide_44 ⟨rfl, K⟩
set_option maxRecDepth 20000 in
theorem g_Mo_divide_83 {X : CX} {h : HP} {v1 : Int32} {v2 : Int32} {v3 : Int32} {v4 : Int32} {Φ : HP → Prop} (C : Cok X b_Mo_divide 8 R_Mo none) (Rm : xR X = rml 2 0 0) (Q : Qok X 0 0 (fun r h2 => r = none ∧ Φ h2)) 
    (K : vp_in v2 218 ∧ ((((h 9 v2.toNatClampNeg)) ≤ v4 → K_Mo_bitsOf [.ref 0, .int v2] h (fun r1 h1 => Wg X 0 0 h1 [(0, .ref 0), (1, .int v1), (2, .int v2), (3, .int v3), (4, .int (r1 - 1))] [] 122)) ∧ (¬ ((h 9 v2.toNatClampNeg)) ≤ v4 → vp_in ((100 * v1) + v4) 21800 ∧ (Wg X 0 0 (up h 8 ((100 * v1) + v4).toNatClampNeg 0) [(0, .ref 0), (1, .int v1), (2, .int v2), (3, .int v3), (4, .int (v4 + 1))] [] 83)))) :
    Wg X 0 0 h [(0, .ref 0), (1, .int v1), (2, .int v2), (3, .int v3), (4, .int v4)] [] 83 := by
  refine r_iload C 4 rfl d_Mo_divide_83 ?_
  refine r_aload_n C 0 rfl d_Mo_divide_85 ?_
  refine gf_Mo_length (k2 := 9) C rfl rfl k_1031 d_Mo_divide_86 ?_
  refine r_iload_n C 2 rfl d_Mo_divide_89 ?_
  obtain ⟨s0, K⟩ := K
  refine r_iald C rfl s0 d_Mo_divide_90 ?_
  refine r_icmp_ge C 113 d_Mo_divide_91 (by decide) ⟨fun c0 => ?_, fun c0 => ?_⟩
  · have K := K.1 c0
    refine r_aload_n C 0 rfl d_Mo_divide_113 ?_
    refine r_iload_n C 2 rfl d_Mo_divide_114 ?_
    refine r_callV (As := [.int v2]) (st := []) (lvc := 0) (mcc := 0) (msc := 0) C Rm M_Mo_bitsOf rfl k_1124 rfl (by decide) (Nat.le_of_ble_eq_true rfl) ⟨by decide, by decide⟩ d_Mo_divide_115 ?_
    refine Can.mono K (fun _ h1 z => ?_)
    obtain ⟨r1, rfl, K⟩ := z
    show Wg X 0 0 h1 [(0, .ref 0), (1, .int v1), (2, .int v2), (3, .int v3), (4, .int v4)] [.int r1] 118
    refine r_iconst (v := 1) C (by decide) d_Mo_divide_118 ?_
    refine r_isub C d_Mo_divide_119 ?_
    refine r_istore (ls2 := [(0, .ref 0), (1, .int v1), (2, .int v2), (3, .int v3), (4, .int (r1 - 1))]) C (by decide) rfl d_Mo_divide_120 ?_
    exact K
  · have K := K.2 c0
    refine r_aload_n C 0 rfl d_Mo_divide_94 ?_
    refine gf_Mo_limb (k2 := 8) C rfl rfl k_1030 d_Mo_divide_95 ?_
    refine r_bipush (v := 100) C (by decide) d_Mo_divide_98 ?_
    refine r_iload_n C 1 rfl d_Mo_divide_100 ?_
    refine r_imul C d_Mo_divide_101 ?_
    refine r_iload C 4 rfl d_Mo_divide_102 ?_
    refine r_iadd C d_Mo_divide_104 ?_
    refine r_iconst (v := 0) C (by decide) d_Mo_divide_105 ?_
    obtain ⟨s0, K⟩ := K
    refine r_iast C rfl s0 d_Mo_divide_106 ?_
    refine r_iinc (ls2 := [(0, .ref 0), (1, .int v1), (2, .int v2), (3, .int v3), (4, .int (v4 + 1))]) C 4 (m := 1) rfl (by decide) (by decide) rfl d_Mo_divide_107 ?_
    refine r_goto C 83 d_Mo_divide_110 (by decide) ?_
    exact K
set_option maxRecDepth 20000 in
theorem g_Mo_divide_122 {X : CX} {h : HP} {v1 : Int32} {v2 : Int32} {v3 : Int32} {v4 : Int32} {Φ : HP → Prop} (C : Cok X b_Mo_divide 8 R_Mo none) (Rm : xR X = rml 2 0 0) (Q : Qok X 0 0 (fun r h2 => r = none ∧ Φ h2)) 
    (K : (v4 < 0 → K_Mo_trim [.ref 0, .int v1] h (fun h1 => Φ h1)) ∧ (¬ v4 < 0 → vp_in ((100 * v2) + (v4 / 16)) 21800 ∧ (Wg X 0 0 h [(0, .ref 0), (1, .int v1), (2, .int v2), (3, .int v3), (4, .int v4), (5, .int (((h 8 ((100 * v2) + (v4 / 16)).toNatClampNeg) >>> ((v4 - v4 / 16 * 16) &&& (31 : Int32))) &&& 1)), (6, .int 0)] [] 155))) :
    Wg X 0 0 h [(0, .ref 0), (1, .int v1), (2, .int v2), (3, .int v3), (4, .int v4)] [] 122 := by
  refine r_iload C 4 rfl d_Mo_divide_122 ?_
  refine r_if_lt C 311 d_Mo_divide_124 (by decide) ⟨fun c0 => ?_, fun c0 => ?_⟩
  · have K := K.1 c0
    refine r_aload_n C 0 rfl d_Mo_divide_311 ?_
    refine r_iload_n C 1 rfl d_Mo_divide_312 ?_
    refine r_callV (As := [.int v1]) (st := []) (lvc := 0) (mcc := 0) (msc := 0) C Rm M_Mo_trim rfl k_1112 rfl (by decide) (Nat.le_of_ble_eq_true rfl) ⟨by decide, by decide⟩ d_Mo_divide_313 ?_
    refine Can.mono K (fun _ h1 z => ?_)
    obtain ⟨rfl, K⟩ := z
    show Wg X 0 0 h1 [(0, .ref 0), (1, .int v1), (2, .int v2), (3, .int v3), (4, .int v4)] [] 316
    exact q_vret C Q d_Mo_divide_316 ⟨rfl, K⟩
  · have K := K.2 c0
    refine r_aload_n C 0 rfl d_Mo_divide_127 ?_
    refine gf_Mo_limb (k2 := 8) C rfl rfl k_1030 d_Mo_divide_128 ?_
    refine r_bipush (v := 100) C (by decide) d_Mo_divide_131 ?_
    refine r_iload_n C 2 rfl d_Mo_divide_133 ?_
    refine r_imul C d_Mo_divide_134 ?_
    refine r_iload C 4 rfl d_Mo_divide_135 ?_
    refine r_bipush (v := 16) C (by decide) d_Mo_divide_137 ?_
    refine r_idiv C (by decide) d_Mo_divide_139 ?_
    refine r_iadd C d_Mo_divide_140 ?_
    obtain ⟨s0, K⟩ := K
    refine r_iald C rfl s0 d_Mo_divide_141 ?_
    refine r_iload C 4 rfl d_Mo_divide_142 ?_
    refine r_bipush (v := 16) C (by decide) d_Mo_divide_144 ?_
    refine r_irem C (by decide) d_Mo_divide_146 ?_
    refine r_ishr C d_Mo_divide_147 ?_
    refine r_iconst (v := 1) C (by decide) d_Mo_divide_148 ?_
    refine r_iand C d_Mo_divide_149 ?_
    refine r_istore (ls2 := [(0, .ref 0), (1, .int v1), (2, .int v2), (3, .int v3), (4, .int v4), (5, .int (((h 8 ((100 * v2) + (v4 / 16)).toNatClampNeg) >>> ((v4 - v4 / 16 * 16) &&& (31 : Int32))) &&& 1))]) C (by decide) rfl d_Mo_divide_150 ?_
    refine r_iconst (v := 0) C (by decide) d_Mo_divide_152 ?_
    refine r_istore (ls2 := [(0, .ref 0), (1, .int v1), (2, .int v2), (3, .int v3), (4, .int v4), (5, .int (((h 8 ((100 * v2) + (v4 / 16)).toNatClampNeg) >>> ((v4 - v4 / 16 * 16) &&& (31 : Int32))) &&& 1)), (6, .int 0)]) C (by decide) rfl d_Mo_divide_153 ?_
    exact K
set_option maxRecDepth 20000 in
theorem g_Mo_divide_155 {X : CX} {h : HP} {v1 : Int32} {v2 : Int32} {v3 : Int32} {v4 : Int32} {v5 : Int32} {v6 : Int32} {Φ : HP → Prop} (C : Cok X b_Mo_divide 8 R_Mo none) (Rm : xR X = rml 2 0 0) (Q : Qok X 0 0 (fun r h2 => r = none ∧ Φ h2)) 
    (K : vp_in 9 218 ∧ ((((h 9 (9 : Int32).toNatClampNeg)) ≤ v6 → (v5 ≤ 0 → Wg X 0 0 h [(0, .ref 0), (1, .int v1), (2, .int v2), (3, .int v3), (4, .int v4), (5, .int v5), (6, .int v6)] [] 248) ∧ (¬ v5 ≤ 0 → vp_in 9 218 ∧ (vp_in (900 + (h 9 (9 : Int32).toNatClampNeg)) 21800 ∧ (vp_in 9 218 ∧ (vp_in 9 218 ∧ (Wg X 0 0 (up (up h 8 (900 + (h 9 (9 : Int32).toNatClampNeg)).toNatClampNeg v5) 9 (9 : Int32).toNatClampNeg (((up h 8 (900 + (h 9 (9 : Int32).toNatClampNeg)).toNatClampNeg v5) 9 (9 : Int32).toNatClampNeg) + 1)) [(0, .ref 0), (1, .int v1), (2, .int v2), (3, .int v3), (4, .int v4), (5, .int v5), (6, .int v6)] [] 248)))))) ∧ (¬ ((h 9 (9 : Int32).toNatClampNeg)) ≤ v6 → vp_in (900 + v6) 21800 ∧ (vp_in (900 + v6) 21800 ∧ (Wg X 0 0 (up h 8 (900 + v6).toNatClampNeg ((((h 8 (900 + v6).toNatClampNeg) <<< (1 &&& (31 : Int32))) ||| v5) &&& 65535)) [(0, .ref 0), (1, .int v1), (2, .int v2), (3, .int v3), (4, .int v4), (5, .int ((((h 8 (900 + v6).toNatClampNeg) <<< (1 &&& (31 : Int32))) ||| v5) >>> (16 &&& (31 : Int32)))), (6, .int (v6 + 1))] [] 155))))) :
    Wg X 0 0 h [(0, .ref 0), (1, .int v1), (2, .int v2), (3, .int v3), (4, .int v4), (5, .int v5), (6, .int v6)] [] 155 := by
  refine r_iload C 6 rfl d_Mo_divide_155 ?_
  refine r_aload_n C 0 rfl d_Mo_divide_157 ?_
  refine gf_Mo_length (k2 := 9) C rfl rfl k_1031 d_Mo_divide_158 ?_
  refine r_bipush (v := 9) C (by decide) d_Mo_divide_161 ?_
  obtain ⟨s0, K⟩ := K
  refine r_iald C rfl s0 d_Mo_divide_163 ?_
  refine r_icmp_ge C 214 d_Mo_divide_164 (by decide) ⟨fun c0 => ?_, fun c0 => ?_⟩
  · have K := K.1 c0
    refine r_iload C 5 rfl d_Mo_divide_214 ?_
    refine r_if_le C 248 d_Mo_divide_216 (by decide) ⟨fun c0 => ?_, fun c0 => ?_⟩
    · have K := K.1 c0
      exact K
    · have K := K.2 c0
      refine r_aload_n C 0 rfl d_Mo_divide_219 ?_
      refine gf_Mo_limb (k2 := 8) C rfl rfl k_1030 d_Mo_divide_220 ?_
      refine r_sipush (v := 900) C (by decide) d_Mo_divide_223 ?_
      refine r_aload_n C 0 rfl d_Mo_divide_226 ?_
      refine gf_Mo_length (k2 := 9) C rfl rfl k_1031 d_Mo_divide_227 ?_
      refine r_bipush (v := 9) C (by decide) d_Mo_divide_230 ?_
      obtain ⟨s0, K⟩ := K
      refine r_iald C rfl s0 d_Mo_divide_232 ?_
      refine r_iadd C d_Mo_divide_233 ?_
      refine r_iload C 5 rfl d_Mo_divide_234 ?_
      obtain ⟨s0, K⟩ := K
      refine r_iast C rfl s0 d_Mo_divide_236 ?_
      refine r_aload_n C 0 rfl d_Mo_divide_237 ?_
      refine gf_Mo_length (k2 := 9) C rfl rfl k_1031 d_Mo_divide_238 ?_
      refine r_bipush (v := 9) C (by decide) d_Mo_divide_241 ?_
      refine r_dup2 C rfl rfl d_Mo_divide_243 ?_
      obtain ⟨s0, K⟩ := K
      refine r_iald C rfl s0 d_Mo_divide_244 ?_
      refine r_iconst (v := 1) C (by decide) d_Mo_divide_245 ?_
      refine r_iadd C d_Mo_divide_246 ?_
      obtain ⟨s0, K⟩ := K
      refine r_iast C rfl s0 d_Mo_divide_247 ?_
      exact K
  · have K := K.2 c0
    refine r_aload_n C 0 rfl d_Mo_divide_167 ?_
    refine gf_Mo_limb (k2 := 8) C rfl rfl k_1030 d_Mo_divide_168 ?_
    refine r_sipush (v := 900) C (by decide) d_Mo_divide_171 ?_
    refine r_iload C 6 rfl d_Mo_divide_174 ?_
    refine r_iadd C d_Mo_divide_176 ?_
    obtain ⟨s0, K⟩ := K
    refine r_iald C rfl s0 d_Mo_divide_177 ?_
    refine r_iconst (v := 1) C (by decide) d_Mo_divide_178 ?_
    refine r_ishl C d_Mo_divide_179 ?_
    refine r_iload C 5 rfl d_Mo_divide_180 ?_
    refine r_ior C d_Mo_divide_182 ?_
    refine r_istore (ls2 := [(0, .ref 0), (1, .int v1), (2, .int v2), (3, .int v3), (4, .int v4), (5, .int v5), (6, .int v6), (7, .int (((h 8 (900 + v6).toNatClampNeg) <<< (1 &&& (31 : Int32))) ||| v5))]) C (by decide) rfl d_Mo_divide_183 ?_
    refine r_aload_n C 0 rfl d_Mo_divide_185 ?_
    refine gf_Mo_limb (k2 := 8) C rfl rfl k_1030 d_Mo_divide_186 ?_
    refine r_sipush (v := 900) C (by decide) d_Mo_divide_189 ?_
    refine r_iload C 6 rfl d_Mo_divide_192 ?_
    refine r_iadd C d_Mo_divide_194 ?_
    refine r_iload C 7 rfl d_Mo_divide_195 ?_
    refine r_ldc (v := 65535) C k_1111 d_Mo_divide_197 ?_
    refine r_iand C d_Mo_divide_199 ?_
    obtain ⟨s0, K⟩ := K
    refine r_iast C rfl s0 d_Mo_divide_200 ?_
    refine r_iload C 7 rfl d_Mo_divide_201 ?_
    refine r_bipush (v := 16) C (by decide) d_Mo_divide_203 ?_
    refine r_ishr C d_Mo_divide_205 ?_
    refine r_istore (ls2 := [(0, .ref 0), (1, .int v1), (2, .int v2), (3, .int v3), (4, .int v4), (5, .int ((((h 8 (900 + v6).toNatClampNeg) <<< (1 &&& (31 : Int32))) ||| v5) >>> (16 &&& (31 : Int32)))), (6, .int v6), (7, .int (((h 8 (900 + v6).toNatClampNeg) <<< (1 &&& (31 : Int32))) ||| v5))]) C (by decide) rfl d_Mo_divide_206 ?_
    refine r_iinc (ls2 := [(0, .ref 0), (1, .int v1), (2, .int v2), (3, .int v3), (4, .int v4), (5, .int ((((h 8 (900 + v6).toNatClampNeg) <<< (1 &&& (31 : Int32))) ||| v5) >>> (16 &&& (31 : Int32)))), (6, .int (v6 + 1)), (7, .int (((h 8 (900 + v6).toNatClampNeg) <<< (1 &&& (31 : Int32))) ||| v5))]) C 6 (m := 1) rfl (by decide) (by decide) rfl d_Mo_divide_208 ?_
    refine r_goto C 155 d_Mo_divide_211 (by decide) ?_
    exact Wg.drop (by simp) K
set_option maxRecDepth 20000 in
theorem g_Mo_divide_248 {X : CX} {h : HP} {v1 : Int32} {v2 : Int32} {v3 : Int32} {v4 : Int32} {v5 : Int32} {v6 : Int32} {Φ : HP → Prop} (C : Cok X b_Mo_divide 8 R_Mo none) (Rm : xR X = rml 2 0 0) (Q : Qok X 0 0 (fun r h2 => r = none ∧ Φ h2)) 
    (K : K_Mo_compareSizes [.ref 0, .int 9, .int v3] h (fun r1 h1 => (r1 < 0 → Wg X 0 0 h1 [(0, .ref 0), (1, .int v1), (2, .int v2), (3, .int v3), (4, .int (v4 + (-1)))] [] 122) ∧ (¬ r1 < 0 → K_Mo_subtractSizes [.ref 0, .int 9, .int 9, .int v3] h1 (fun h2 => vp_in ((100 * v1) + (v4 / 16)) 21800 ∧ (vp_in ((100 * v1) + (v4 / 16)) 21800 ∧ (Wg X 0 0 (up h2 8 ((100 * v1) + (v4 / 16)).toNatClampNeg ((h2 8 ((100 * v1) + (v4 / 16)).toNatClampNeg) ||| (1 <<< ((v4 - v4 / 16 * 16) &&& (31 : Int32))))) [(0, .ref 0), (1, .int v1), (2, .int v2), (3, .int v3), (4, .int (v4 + (-1)))] [] 122)))))) :
    Wg X 0 0 h [(0, .ref 0), (1, .int v1), (2, .int v2), (3, .int v3), (4, .int v4), (5, .int v5), (6, .int v6)] [] 248 := by
  refine r_aload_n C 0 rfl d_Mo_divide_248 ?_
  refine r_bipush (v := 9) C (by decide) d_Mo_divide_249 ?_
  refine r_iload_n C 3 rfl d_Mo_divide_251 ?_
  refine r_callV (As := [.int 9, .int v3]) (st := []) (lvc := 0) (mcc := 0) (msc := 0) C Rm M_Mo_compareSizes rfl k_1227 rfl (by decide) (Nat.le_of_ble_eq_true rfl) ⟨by decide, by decide⟩ d_Mo_divide_252 ?_
  refine Can.mono K (fun _ h1 z => ?_)
  obtain ⟨r1, rfl, K⟩ := z
  show Wg X 0 0 h1 [(0, .ref 0), (1, .int v1), (2, .int v2), (3, .int v3), (4, .int v4), (5, .int v5), (6, .int v6)] [.int r1] 255
  refine r_if_lt C 305 d_Mo_divide_255 (by decide) ⟨fun c0 => ?_, fun c0 => ?_⟩
  · have K := K.1 c0
    refine r_iinc (ls2 := [(0, .ref 0), (1, .int v1), (2, .int v2), (3, .int v3), (4, .int (v4 + (-1))), (5, .int v5), (6, .int v6)]) C 4 (m := -1) rfl (by decide) (by decide) rfl d_Mo_divide_305 ?_
    refine r_goto C 122 d_Mo_divide_308 (by decide) ?_
    exact Wg.drop (by simp) K
  · have K := K.2 c0
    refine r_aload_n C 0 rfl d_Mo_divide_258 ?_
    refine r_bipush (v := 9) C (by decide) d_Mo_divide_259 ?_
    refine r_bipush (v := 9) C (by decide) d_Mo_divide_261 ?_
    refine r_iload_n C 3 rfl d_Mo_divide_263 ?_
    refine r_callV (As := [.int 9, .int 9, .int v3]) (st := []) (lvc := 1) (mcc := 0) (msc := 0) C Rm M_Mo_subtractSizes rfl k_1231 rfl (by decide) (Nat.le_of_ble_eq_true rfl) ⟨by decide, by decide⟩ d_Mo_divide_264 ?_
    refine Can.mono K (fun _ h2 z => ?_)
    obtain ⟨rfl, K⟩ := z
    show Wg X 0 0 h2 [(0, .ref 0), (1, .int v1), (2, .int v2), (3, .int v3), (4, .int v4), (5, .int v5), (6, .int v6)] [] 267
    refine r_aload_n C 0 rfl d_Mo_divide_267 ?_
    refine gf_Mo_limb (k2 := 8) C rfl rfl k_1030 d_Mo_divide_268 ?_
    refine r_bipush (v := 100) C (by decide) d_Mo_divide_271 ?_
    refine r_iload_n C 1 rfl d_Mo_divide_273 ?_
    refine r_imul C d_Mo_divide_274 ?_
    refine r_iload C 4 rfl d_Mo_divide_275 ?_
    refine r_bipush (v := 16) C (by decide) d_Mo_divide_277 ?_
    refine r_idiv C (by decide) d_Mo_divide_279 ?_
    refine r_iadd C d_Mo_divide_280 ?_
    refine r_aload_n C 0 rfl d_Mo_divide_281 ?_
    refine gf_Mo_limb (k2 := 8) C rfl rfl k_1030 d_Mo_divide_282 ?_
    refine r_bipush (v := 100) C (by decide) d_Mo_divide_285 ?_
    refine r_iload_n C 1 rfl d_Mo_divide_287 ?_
    refine r_imul C d_Mo_divide_288 ?_
    refine r_iload C 4 rfl d_Mo_divide_289 ?_
    refine r_bipush (v := 16) C (by decide) d_Mo_divide_291 ?_
    refine r_idiv C (by decide) d_Mo_divide_293 ?_
    refine r_iadd C d_Mo_divide_294 ?_
    obtain ⟨s0, K⟩ := K
    refine r_iald C rfl s0 d_Mo_divide_295 ?_
    refine r_iconst (v := 1) C (by decide) d_Mo_divide_296 ?_
    refine r_iload C 4 rfl d_Mo_divide_297 ?_
    refine r_bipush (v := 16) C (by decide) d_Mo_divide_299 ?_
    refine r_irem C (by decide) d_Mo_divide_301 ?_
    refine r_ishl C d_Mo_divide_302 ?_
    refine r_ior C d_Mo_divide_303 ?_
    obtain ⟨s0, K⟩ := K
    refine r_iast C rfl s0 d_Mo_divide_304 ?_
    refine r_iinc (ls2 := [(0, .ref 0), (1, .int v1), (2, .int v2), (3, .int v3), (4, .int (v4 + (-1))), (5, .int v5), (6, .int v6)]) C 4 (m := -1) rfl (by decide) (by decide) rfl d_Mo_divide_305 ?_
    refine r_goto C 122 d_Mo_divide_308 (by decide) ?_
    exact Wg.drop (by simp) K
set_option maxRecDepth 20000 in
theorem g_Mo_halve_0 {X : CX} {h : HP} {v1 : Int32} {Φ : HP → Prop} (C : Cok X b_Mo_halve 5 R_Mo none) (Rm : xR X = rml 1 0 0) (Q : Qok X 0 0 (fun r h2 => r = none ∧ Φ h2)) 
    (K : vp_in v1 218 ∧ (Wg X 0 0 h [(0, .ref 0), (1, .int v1), (2, .int 0), (3, .int ((h 9 v1.toNatClampNeg) - 1))] [] 11)) :
    Wg X 0 0 h [(0, .ref 0), (1, .int v1)] [] 0 := by
  refine r_iconst (v := 0) C (by decide) d_Mo_halve_0 ?_
  refine r_istore_n (ls2 := [(0, .ref 0), (1, .int v1), (2, .int 0)]) C rfl (by decide) rfl d_Mo_halve_1 ?_
  refine r_aload_n C 0 rfl d_Mo_halve_2 ?_
  refine gf_Mo_length (k2 := 9) C rfl rfl k_1031 d_Mo_halve_3 ?_
  refine r_iload_n C 1 rfl d_Mo_halve_6 ?_
  obtain ⟨s0, K⟩ := K
  refine r_iald C rfl s0 d_Mo_halve_7 ?_
  refine r_iconst (v := 1) C (by decide) d_Mo_halve_8 ?_
  refine r_isub C d_Mo_halve_9 ?_
  refine r_istore_n (ls2 := [(0, .ref 0), (1, .int v1), (2, .int 0), (3, .int ((h 9 v1.toNatClampNeg) - 1))]) C rfl (by decide) rfl d_Mo_halve_10 ?_
  exact K
set_option maxRecDepth 20000 in
theorem g_Mo_halve_11 {X : CX} {h : HP} {v1 : Int32} {v2 : Int32} {v3 : Int32} {Φ : HP → Prop} (C : Cok X b_Mo_halve 5 R_Mo none) (Rm : xR X = rml 1 0 0) (Q : Qok X 0 0 (fun r h2 => r = none ∧ Φ h2)) 
    (K : (v3 < 0 → K_Mo_trim [.ref 0, .int v1] h (fun h1 => Φ h1)) ∧ (¬ v3 < 0 → vp_in ((100 * v1) + v3) 21800 ∧ (vp_in ((100 * v1) + v3) 21800 ∧ (Wg X 0 0 (up h 8 ((100 * v1) + v3).toNatClampNeg (((v2 <<< (16 &&& (31 : Int32))) ||| (h 8 ((100 * v1) + v3).toNatClampNeg)) >>> (1 &&& (31 : Int32)))) [(0, .ref 0), (1, .int v1), (2, .int (((v2 <<< (16 &&& (31 : Int32))) ||| (h 8 ((100 * v1) + v3).toNatClampNeg)) &&& 1)), (3, .int (v3 + (-1)))] [] 11)))) :
    Wg X 0 0 h [(0, .ref 0), (1, .int v1), (2, .int v2), (3, .int v3)] [] 11 := by
  refine r_iload_n C 3 rfl d_Mo_halve_11 ?_
  refine r_if_lt C 59 d_Mo_halve_12 (by decide) ⟨fun c0 => ?_, fun c0 => ?_⟩
  · have K := K.1 c0
    refine r_aload_n C 0 rfl d_Mo_halve_59 ?_
    refine r_iload_n C 1 rfl d_Mo_halve_60 ?_
    refine r_callV (As := [.int v1]) (st := []) (lvc := 0) (mcc := 0) (msc := 0) C Rm M_Mo_trim rfl k_1112 rfl (by decide) (Nat.le_of_ble_eq_true rfl) ⟨by decide, by decide⟩ d_Mo_halve_61 ?_
    refine Can.mono K (fun _ h1 z => ?_)
    obtain ⟨rfl, K⟩ := z
    show Wg X 0 0 h1 [(0, .ref 0), (1, .int v1), (2, .int v2), (3, .int v3)] [] 64
    exact q_vret C Q d_Mo_halve_64 ⟨rfl, K⟩
  · have K := K.2 c0
    refine r_iload_n C 2 rfl d_Mo_halve_15 ?_
    refine r_bipush (v := 16) C (by decide) d_Mo_halve_16 ?_
    refine r_ishl C d_Mo_halve_18 ?_
    refine r_aload_n C 0 rfl d_Mo_halve_19 ?_
    refine gf_Mo_limb (k2 := 8) C rfl rfl k_1030 d_Mo_halve_20 ?_
    refine r_bipush (v := 100) C (by decide) d_Mo_halve_23 ?_
    refine r_iload_n C 1 rfl d_Mo_halve_25 ?_
    refine r_imul C d_Mo_halve_26 ?_
    refine r_iload_n C 3 rfl d_Mo_halve_27 ?_
    refine r_iadd C d_Mo_halve_28 ?_
    obtain ⟨s0, K⟩ := K
    refine r_iald C rfl s0 d_Mo_halve_29 ?_
    refine r_ior C d_Mo_halve_30 ?_
    refine r_istore (ls2 := [(0, .ref 0), (1, .int v1), (2, .int v2), (3, .int v3), (4, .int ((v2 <<< (16 &&& (31 : Int32))) ||| (h 8 ((100 * v1) + v3).toNatClampNeg)))]) C (by decide) rfl d_Mo_halve_31 ?_
    refine r_aload_n C 0 rfl d_Mo_halve_33 ?_
    refine gf_Mo_limb (k2 := 8) C rfl rfl k_1030 d_Mo_halve_34 ?_
    refine r_bipush (v := 100) C (by decide) d_Mo_halve_37 ?_
    refine r_iload_n C 1 rfl d_Mo_halve_39 ?_
    refine r_imul C d_Mo_halve_40 ?_
    refine r_iload_n C 3 rfl d_Mo_halve_41 ?_
    refine r_iadd C d_Mo_halve_42 ?_
    refine r_iload C 4 rfl d_Mo_halve_43 ?_
    refine r_iconst (v := 1) C (by decide) d_Mo_halve_45 ?_
    refine r_ishr C d_Mo_halve_46 ?_
    obtain ⟨s0, K⟩ := K
    refine r_iast C rfl s0 d_Mo_halve_47 ?_
    refine r_iload C 4 rfl d_Mo_halve_48 ?_
    refine r_iconst (v := 1) C (by decide) d_Mo_halve_50 ?_
    refine r_iand C d_Mo_halve_51 ?_
    refine r_istore_n (ls2 := [(0, .ref 0), (1, .int v1), (2, .int (((v2 <<< (16 &&& (31 : Int32))) ||| (h 8 ((100 * v1) + v3).toNatClampNeg)) &&& 1)), (3, .int v3), (4, .int ((v2 <<< (16 &&& (31 : Int32))) ||| (h 8 ((100 * v1) + v3).toNatClampNeg)))]) C rfl (by decide) rfl d_Mo_halve_52 ?_
    refine r_iinc (ls2 := [(0, .ref 0), (1, .int v1), (2, .int (((v2 <<< (16 &&& (31 : Int32))) ||| (h 8 ((100 * v1) + v3).toNatClampNeg)) &&& 1)), (3, .int (v3 + (-1))), (4, .int ((v2 <<< (16 &&& (31 : Int32))) ||| (h 8 ((100 * v1) + v3).toNatClampNeg)))]) C 3 (m := -1) rfl (by decide) (by decide) rfl d_Mo_halve_53 ?_
    refine r_goto C 11 d_Mo_halve_56 (by decide) ?_
    exact Wg.drop (by simp) K
set_option maxRecDepth 20000 in
theorem g_Mo_isEven_0 {X : CX} {h : HP} {v1 : Int32} {Φ : Int32 → HP → Prop} (C : Cok X b_Mo_isEven 2 R_Mo ((some .boolean))) (Rm : xR X = rml 0 0 0) (Q : Qok X 0 0 (fun r h2 => ∃ v, r = some (.int v) ∧ Φ v h2)) 
    (K : vp_in v1 218 ∧ (((h 9 v1.toNatClampNeg) = 0 → Φ 1 h) ∧ (¬ (h 9 v1.toNatClampNeg) = 0 → vp_in (100 * v1) 21800 ∧ ((¬ ((h 8 (100 * v1).toNatClampNeg) &&& 1) = 0 → Φ 0 h) ∧ (((h 8 (100 * v1).toNatClampNeg) &&& 1) = 0 → Φ 1 h))))) :
    Wg X 0 0 h [(0, .ref 0), (1, .int v1)] [] 0 := by
  refine r_aload_n C 0 rfl d_Mo_isEven_0 ?_
  refine gf_Mo_length (k2 := 9) C rfl rfl k_1031 d_Mo_isEven_1 ?_
  refine r_iload_n C 1 rfl d_Mo_isEven_4 ?_
  obtain ⟨s0, K⟩ := K
  refine r_iald C rfl s0 d_Mo_isEven_5 ?_
  refine r_if_eq C 23 d_Mo_isEven_6 (by decide) ⟨fun c0 => ?_, fun c0 => ?_⟩
  · have K := K.1 c0
    refine r_iconst (v := 1) C (by decide) d_Mo_isEven_23 ?_
    refine r_goto C 28 d_Mo_isEven_24 (by decide) ?_
    exact q_zret C Q (by decide) d_Mo_isEven_28 ⟨_, rfl, K⟩
  · have K := K.2 c0
    refine r_aload_n C 0 rfl d_Mo_isEven_9 ?_
    refine gf_Mo_limb (k2 := 8) C rfl rfl k_1030 d_Mo_isEven_10 ?_
    refine r_bipush (v := 100) C (by decide) d_Mo_isEven_13 ?_
    refine r_iload_n C 1 rfl d_Mo_isEven_15 ?_
    refine r_imul C d_Mo_isEven_16 ?_
    obtain ⟨s0, K⟩ := K
    refine r_iald C rfl s0 d_Mo_isEven_17 ?_
    refine r_iconst (v := 1) C (by decide) d_Mo_isEven_18 ?_
    refine r_iand C d_Mo_isEven_19 ?_
    refine r_if_ne C 27 d_Mo_isEven_20 (by decide) ⟨fun c0 => ?_, fun c0 => ?_⟩
    · have K := K.1 c0
      refine r_iconst (v := 0) C (by decide) d_Mo_isEven_27 ?_
      exact q_zret C Q (by decide) d_Mo_isEven_28 ⟨_, rfl, K⟩
    · have K := K.2 c0
      refine r_iconst (v := 1) C (by decide) d_Mo_isEven_23 ?_
      refine r_goto C 28 d_Mo_isEven_24 (by decide) ?_
      exact q_zret C Q (by decide) d_Mo_isEven_28 ⟨_, rfl, K⟩
set_option maxRecDepth 20000 in
theorem g_Mo_divisor_0 {X : CX} {h : HP} {v1 : Int32} {v2 : Int32} {Φ : HP → Prop} (C : Cok X b_Mo_divisor 5 R_Mo none) (Rm : xR X = rml 2 0 0) (Q : Qok X 0 0 (fun r h2 => r = none ∧ Φ h2)) 
    (K : K_Mo_copyRow [.ref 0, .int 10, .int v1] h (fun h1 => K_Mo_copyRow [.ref 0, .int 11, .int v2] h1 (fun h2 => vp_in 10 218 ∧ (vp_in 11 218 ∧ (vp_in v1 218 ∧ ((((up (up h2 10 (10 : Int32).toNatClampNeg (vp_nar .boolean 0)) 10 (11 : Int32).toNatClampNeg (vp_nar .boolean 0)) 9 v1.toNatClampNeg) = 0 → vp_in 10 218 ∧ ((¬ ((up (up h2 10 (10 : Int32).toNatClampNeg (vp_nar .boolean 0)) 10 (11 : Int32).toNatClampNeg (vp_nar .boolean 0)) 9 (10 : Int32).toNatClampNeg) = 0 → K_Mo_copyRow [.ref 0, .int 10, .int 10] (up (up h2 10 (10 : Int32).toNatClampNeg (vp_nar .boolean 0)) 10 (11 : Int32).toNatClampNeg (vp_nar .boolean 0)) (fun h3 => Φ h3)) ∧ (((up (up h2 10 (10 : Int32).toNatClampNeg (vp_nar .boolean 0)) 10 (11 : Int32).toNatClampNeg (vp_nar .boolean 0)) 9 (10 : Int32).toNatClampNeg) = 0 → K_Mo_copyRow [.ref 0, .int 10, .int 11] (up (up h2 10 (10 : Int32).toNatClampNeg (vp_nar .boolean 0)) 10 (11 : Int32).toNatClampNeg (vp_nar .boolean 0)) (fun h4 => Φ h4)))) ∧ (¬ ((up (up h2 10 (10 : Int32).toNatClampNeg (vp_nar .boolean 0)) 10 (11 : Int32).toNatClampNeg (vp_nar .boolean 0)) 9 v1.toNatClampNeg) = 0 → vp_in v2 218 ∧ ((¬ ((up (up h2 10 (10 : Int32).toNatClampNeg (vp_nar .boolean 0)) 10 (11 : Int32).toNatClampNeg (vp_nar .boolean 0)) 9 v2.toNatClampNeg) = 0 → Wg X 0 0 (up (up h2 10 (10 : Int32).toNatClampNeg (vp_nar .boolean 0)) 10 (11 : Int32).toNatClampNeg (vp_nar .boolean 0)) [(0, .ref 0), (1, .int v1), (2, .int v2), (3, .int 0)] [] 74) ∧ (((up (up h2 10 (10 : Int32).toNatClampNeg (vp_nar .boolean 0)) 10 (11 : Int32).toNatClampNeg (vp_nar .boolean 0)) 9 v2.toNatClampNeg) = 0 → vp_in 10 218 ∧ ((¬ ((up (up h2 10 (10 : Int32).toNatClampNeg (vp_nar .boolean 0)) 10 (11 : Int32).toNatClampNeg (vp_nar .boolean 0)) 9 (10 : Int32).toNatClampNeg) = 0 → K_Mo_copyRow [.ref 0, .int 10, .int 10] (up (up h2 10 (10 : Int32).toNatClampNeg (vp_nar .boolean 0)) 10 (11 : Int32).toNatClampNeg (vp_nar .boolean 0)) (fun h5 => Φ h5)) ∧ (((up (up h2 10 (10 : Int32).toNatClampNeg (vp_nar .boolean 0)) 10 (11 : Int32).toNatClampNeg (vp_nar .boolean 0)) 9 (10 : Int32).toNatClampNeg) = 0 → K_Mo_copyRow [.ref 0, .int 10, .int 11] (up (up h2 10 (10 : Int32).toNatClampNeg (vp_nar .boolean 0)) 10 (11 : Int32).toNatClampNeg (vp_nar .boolean 0)) (fun h6 => Φ h6)))))))))))) :
    Wg X 0 0 h [(0, .ref 0), (1, .int v1), (2, .int v2)] [] 0 := by
  refine r_aload_n C 0 rfl d_Mo_divisor_0 ?_
  refine r_bipush (v := 10) C (by decide) d_Mo_divisor_1 ?_
  refine r_iload_n C 1 rfl d_Mo_divisor_3 ?_
  refine r_callV (As := [.int 10, .int v1]) (st := []) (lvc := 0) (mcc := 0) (msc := 0) C Rm M_Mo_copyRow rfl k_1167 rfl (by decide) (Nat.le_of_ble_eq_true rfl) ⟨by decide, by decide⟩ d_Mo_divisor_4 ?_
  refine Can.mono K (fun _ h1 z => ?_)
  obtain ⟨rfl, K⟩ := z
  show Wg X 0 0 h1 [(0, .ref 0), (1, .int v1), (2, .int v2)] [] 7
  refine r_aload_n C 0 rfl d_Mo_divisor_7 ?_
  refine r_bipush (v := 11) C (by decide) d_Mo_divisor_8 ?_
  refine r_iload_n C 2 rfl d_Mo_divisor_10 ?_
  refine r_callV (As := [.int 11, .int v2]) (st := []) (lvc := 0) (mcc := 0) (msc := 0) C Rm M_Mo_copyRow rfl k_1167 rfl (by decide) (Nat.le_of_ble_eq_true rfl) ⟨by decide, by decide⟩ d_Mo_divisor_11 ?_
  refine Can.mono K (fun _ h2 z => ?_)
  obtain ⟨rfl, K⟩ := z
  show Wg X 0 0 h2 [(0, .ref 0), (1, .int v1), (2, .int v2)] [] 14
  refine r_aload_n C 0 rfl d_Mo_divisor_14 ?_
  refine gf_Mo_isBelow (k2 := 10) C rfl rfl k_1032 d_Mo_divisor_15 ?_
  refine r_bipush (v := 10) C (by decide) d_Mo_divisor_18 ?_
  refine r_iconst (v := 0) C (by decide) d_Mo_divisor_20 ?_
  obtain ⟨s0, K⟩ := K
  refine r_zast C rfl s0 d_Mo_divisor_21 ?_
  refine r_aload_n C 0 rfl d_Mo_divisor_22 ?_
  refine gf_Mo_isBelow (k2 := 10) C rfl rfl k_1032 d_Mo_divisor_23 ?_
  refine r_bipush (v := 11) C (by decide) d_Mo_divisor_26 ?_
  refine r_iconst (v := 0) C (by decide) d_Mo_divisor_28 ?_
  obtain ⟨s0, K⟩ := K
  refine r_zast C rfl s0 d_Mo_divisor_29 ?_
  refine r_aload_n C 0 rfl d_Mo_divisor_30 ?_
  refine gf_Mo_length (k2 := 9) C rfl rfl k_1031 d_Mo_divisor_31 ?_
  refine r_iload_n C 1 rfl d_Mo_divisor_34 ?_
  obtain ⟨s0, K⟩ := K
  refine r_iald C rfl s0 d_Mo_divisor_35 ?_
  refine r_if_eq C 48 d_Mo_divisor_36 (by decide) ⟨fun c0 => ?_, fun c0 => ?_⟩
  · have K := K.1 c0
    refine r_aload_n C 0 rfl d_Mo_divisor_48 ?_
    refine r_bipush (v := 10) C (by decide) d_Mo_divisor_49 ?_
    refine r_aload_n C 0 rfl d_Mo_divisor_51 ?_
    refine gf_Mo_length (k2 := 9) C rfl rfl k_1031 d_Mo_divisor_52 ?_
    refine r_bipush (v := 10) C (by decide) d_Mo_divisor_55 ?_
    obtain ⟨s0, K⟩ := K
    refine r_iald C rfl s0 d_Mo_divisor_57 ?_
    refine r_if_ne C 66 d_Mo_divisor_58 (by decide) ⟨fun c0 => ?_, fun c0 => ?_⟩
    · have K := K.1 c0
      refine r_bipush (v := 10) C (by decide) d_Mo_divisor_66 ?_
      refine r_callV (As := [.int 10, .int 10]) (st := []) (lvc := 0) (mcc := 0) (msc := 0) C Rm M_Mo_copyRow rfl k_1167 rfl (by decide) (Nat.le_of_ble_eq_true rfl) ⟨by decide, by decide⟩ d_Mo_divisor_68 ?_
      refine Can.mono K (fun _ h3 z => ?_)
      obtain ⟨rfl, K⟩ := z
      show Wg X 0 0 h3 [(0, .ref 0), (1, .int v1), (2, .int v2)] [] 71
      exact q_vret C Q d_Mo_divisor_71 ⟨rfl, K⟩
    · have K := K.2 c0
      refine r_bipush (v := 11) C (by decide) d_Mo_divisor_61 ?_
      refine r_goto C 68 d_Mo_divisor_63 (by decide) ?_
      refine r_callV (As := [.int 10, .int 11]) (st := []) (lvc := 0) (mcc := 0) (msc := 0) C Rm M_Mo_copyRow rfl k_1167 rfl (by decide) (Nat.le_of_ble_eq_true rfl) ⟨by decide, by decide⟩ d_Mo_divisor_68 ?_
      refine Can.mono K (fun _ h4 z => ?_)
      obtain ⟨rfl, K⟩ := z
      show Wg X 0 0 h4 [(0, .ref 0), (1, .int v1), (2, .int v2)] [] 71
      exact q_vret C Q d_Mo_divisor_71 ⟨rfl, K⟩
  · have K := K.2 c0
    refine r_aload_n C 0 rfl d_Mo_divisor_39 ?_
    refine gf_Mo_length (k2 := 9) C rfl rfl k_1031 d_Mo_divisor_40 ?_
    refine r_iload_n C 2 rfl d_Mo_divisor_43 ?_
    obtain ⟨s0, K⟩ := K
    refine r_iald C rfl s0 d_Mo_divisor_44 ?_
    refine r_if_ne C 72 d_Mo_divisor_45 (by decide) ⟨fun c0 => ?_, fun c0 => ?_⟩
    · have K := K.1 c0
      refine r_iconst (v := 0) C (by decide) d_Mo_divisor_72 ?_
      refine r_istore_n (ls2 := [(0, .ref 0), (1, .int v1), (2, .int v2), (3, .int 0)]) C rfl (by decide) rfl d_Mo_divisor_73 ?_
      exact K
    · have K := K.2 c0
      refine r_aload_n C 0 rfl d_Mo_divisor_48 ?_
      refine r_bipush (v := 10) C (by decide) d_Mo_divisor_49 ?_
      refine r_aload_n C 0 rfl d_Mo_divisor_51 ?_
      refine gf_Mo_length (k2 := 9) C rfl rfl k_1031 d_Mo_divisor_52 ?_
      refine r_bipush (v := 10) C (by decide) d_Mo_divisor_55 ?_
      obtain ⟨s0, K⟩ := K
      refine r_iald C rfl s0 d_Mo_divisor_57 ?_
      refine r_if_ne C 66 d_Mo_divisor_58 (by decide) ⟨fun c0 => ?_, fun c0 => ?_⟩
      · have K := K.1 c0
        refine r_bipush (v := 10) C (by decide) d_Mo_divisor_66 ?_
        refine r_callV (As := [.int 10, .int 10]) (st := []) (lvc := 0) (mcc := 0) (msc := 0) C Rm M_Mo_copyRow rfl k_1167 rfl (by decide) (Nat.le_of_ble_eq_true rfl) ⟨by decide, by decide⟩ d_Mo_divisor_68 ?_
        refine Can.mono K (fun _ h5 z => ?_)
        obtain ⟨rfl, K⟩ := z
        show Wg X 0 0 h5 [(0, .ref 0), (1, .int v1), (2, .int v2)] [] 71
        exact q_vret C Q d_Mo_divisor_71 ⟨rfl, K⟩
      · have K := K.2 c0
        refine r_bipush (v := 11) C (by decide) d_Mo_divisor_61 ?_
        refine r_goto C 68 d_Mo_divisor_63 (by decide) ?_
        refine r_callV (As := [.int 10, .int 11]) (st := []) (lvc := 0) (mcc := 0) (msc := 0) C Rm M_Mo_copyRow rfl k_1167 rfl (by decide) (Nat.le_of_ble_eq_true rfl) ⟨by decide, by decide⟩ d_Mo_divisor_68 ?_
        refine Can.mono K (fun _ h6 z => ?_)
        obtain ⟨rfl, K⟩ := z
        show Wg X 0 0 h6 [(0, .ref 0), (1, .int v1), (2, .int v2)] [] 71
        exact q_vret C Q d_Mo_divisor_71 ⟨rfl, K⟩
set_option maxRecDepth 20000 in
theorem g_Mo_divisor_74 {X : CX} {h : HP} {v1 : Int32} {v2 : Int32} {v3 : Int32} {Φ : HP → Prop} (C : Cok X b_Mo_divisor 5 R_Mo none) (Rm : xR X = rml 2 0 0) (Q : Qok X 0 0 (fun r h2 => r = none ∧ Φ h2)) 
    (K : K_Mo_isEven [.ref 0, .int 10] h (fun r1 h1 => (r1 = 0 → Wg X 0 0 h1 [(0, .ref 0), (1, .int v1), (2, .int v2), (3, .int v3)] [] 110) ∧ (¬ r1 = 0 → K_Mo_isEven [.ref 0, .int 11] h1 (fun r2 h2 => (r2 = 0 → Wg X 0 0 h2 [(0, .ref 0), (1, .int v1), (2, .int v2), (3, .int v3)] [] 110) ∧ (¬ r2 = 0 → K_Mo_halve [.ref 0, .int 10] h2 (fun h3 => K_Mo_halve [.ref 0, .int 11] h3 (fun h4 => Wg X 0 0 h4 [(0, .ref 0), (1, .int v1), (2, .int v2), (3, .int (v3 + 1))] [] 74))))))) :
    Wg X 0 0 h [(0, .ref 0), (1, .int v1), (2, .int v2), (3, .int v3)] [] 74 := by
  refine r_aload_n C 0 rfl d_Mo_divisor_74 ?_
  refine r_bipush (v := 10) C (by decide) d_Mo_divisor_75 ?_
  refine r_callV (As := [.int 10]) (st := []) (lvc := 0) (mcc := 0) (msc := 0) C Rm M_Mo_isEven rfl k_1219 rfl (by decide) (Nat.le_of_ble_eq_true rfl) ⟨by decide, by decide⟩ d_Mo_divisor_77 ?_
  refine Can.mono K (fun _ h1 z => ?_)
  obtain ⟨r1, rfl, K⟩ := z
  show Wg X 0 0 h1 [(0, .ref 0), (1, .int v1), (2, .int v2), (3, .int v3)] [.int r1] 80
  refine r_if_eq C 110 d_Mo_divisor_80 (by decide) ⟨fun c0 => ?_, fun c0 => ?_⟩
  · have K := K.1 c0
    exact K
  · have K := K.2 c0
    refine r_aload_n C 0 rfl d_Mo_divisor_83 ?_
    refine r_bipush (v := 11) C (by decide) d_Mo_divisor_84 ?_
    refine r_callV (As := [.int 11]) (st := []) (lvc := 0) (mcc := 0) (msc := 0) C Rm M_Mo_isEven rfl k_1219 rfl (by decide) (Nat.le_of_ble_eq_true rfl) ⟨by decide, by decide⟩ d_Mo_divisor_86 ?_
    refine Can.mono K (fun _ h2 z => ?_)
    obtain ⟨r2, rfl, K⟩ := z
    show Wg X 0 0 h2 [(0, .ref 0), (1, .int v1), (2, .int v2), (3, .int v3)] [.int r2] 89
    refine r_if_eq C 110 d_Mo_divisor_89 (by decide) ⟨fun c0 => ?_, fun c0 => ?_⟩
    · have K := K.1 c0
      exact K
    · have K := K.2 c0
      refine r_aload_n C 0 rfl d_Mo_divisor_92 ?_
      refine r_bipush (v := 10) C (by decide) d_Mo_divisor_93 ?_
      refine r_callV (As := [.int 10]) (st := []) (lvc := 1) (mcc := 0) (msc := 0) C Rm M_Mo_halve rfl k_1223 rfl (by decide) (Nat.le_of_ble_eq_true rfl) ⟨by decide, by decide⟩ d_Mo_divisor_95 ?_
      refine Can.mono K (fun _ h3 z => ?_)
      obtain ⟨rfl, K⟩ := z
      show Wg X 0 0 h3 [(0, .ref 0), (1, .int v1), (2, .int v2), (3, .int v3)] [] 98
      refine r_aload_n C 0 rfl d_Mo_divisor_98 ?_
      refine r_bipush (v := 11) C (by decide) d_Mo_divisor_99 ?_
      refine r_callV (As := [.int 11]) (st := []) (lvc := 1) (mcc := 0) (msc := 0) C Rm M_Mo_halve rfl k_1223 rfl (by decide) (Nat.le_of_ble_eq_true rfl) ⟨by decide, by decide⟩ d_Mo_divisor_101 ?_
      refine Can.mono K (fun _ h4 z => ?_)
      obtain ⟨rfl, K⟩ := z
      show Wg X 0 0 h4 [(0, .ref 0), (1, .int v1), (2, .int v2), (3, .int v3)] [] 104
      refine r_iinc (ls2 := [(0, .ref 0), (1, .int v1), (2, .int v2), (3, .int (v3 + 1))]) C 3 (m := 1) rfl (by decide) (by decide) rfl d_Mo_divisor_104 ?_
      refine r_goto C 74 d_Mo_divisor_107 (by decide) ?_
      exact K
set_option maxRecDepth 20000 in
theorem g_Mo_divisor_110 {X : CX} {h : HP} {v1 : Int32} {v2 : Int32} {v3 : Int32} {Φ : HP → Prop} (C : Cok X b_Mo_divisor 5 R_Mo none) (Rm : xR X = rml 2 0 0) (Q : Qok X 0 0 (fun r h2 => r = none ∧ Φ h2)) 
    (K : vp_in 11 218 ∧ (((h 9 (11 : Int32).toNatClampNeg) ≤ 0 → Wg X 0 0 h [(0, .ref 0), (1, .int v1), (2, .int v2), (3, .int v3), (4, .int 0)] [] 216) ∧ (¬ (h 9 (11 : Int32).toNatClampNeg) ≤ 0 → Wg X 0 0 h [(0, .ref 0), (1, .int v1), (2, .int v2), (3, .int v3)] [] 120))) :
    Wg X 0 0 h [(0, .ref 0), (1, .int v1), (2, .int v2), (3, .int v3)] [] 110 := by
  refine r_aload_n C 0 rfl d_Mo_divisor_110 ?_
  refine gf_Mo_length (k2 := 9) C rfl rfl k_1031 d_Mo_divisor_111 ?_
  refine r_bipush (v := 11) C (by decide) d_Mo_divisor_114 ?_
  obtain ⟨s0, K⟩ := K
  refine r_iald C rfl s0 d_Mo_divisor_116 ?_
  refine r_if_le C 213 d_Mo_divisor_117 (by decide) ⟨fun c0 => ?_, fun c0 => ?_⟩
  · have K := K.1 c0
    refine r_iconst (v := 0) C (by decide) d_Mo_divisor_213 ?_
    refine r_istore (ls2 := [(0, .ref 0), (1, .int v1), (2, .int v2), (3, .int v3), (4, .int 0)]) C (by decide) rfl d_Mo_divisor_214 ?_
    exact K
  · have K := K.2 c0
    exact K
set_option maxRecDepth 20000 in
theorem g_Mo_divisor_120 {X : CX} {h : HP} {v1 : Int32} {v2 : Int32} {v3 : Int32} {Φ : HP → Prop} (C : Cok X b_Mo_divisor 5 R_Mo none) (Rm : xR X = rml 2 0 0) (Q : Qok X 0 0 (fun r h2 => r = none ∧ Φ h2)) 
    (K : K_Mo_isEven [.ref 0, .int 10] h (fun r1 h1 => (r1 = 0 → Wg X 0 0 h1 [(0, .ref 0), (1, .int v1), (2, .int v2), (3, .int v3)] [] 138) ∧ (¬ r1 = 0 → K_Mo_halve [.ref 0, .int 10] h1 (fun h2 => Wg X 0 0 h2 [(0, .ref 0), (1, .int v1), (2, .int v2), (3, .int v3)] [] 120)))) :
    Wg X 0 0 h [(0, .ref 0), (1, .int v1), (2, .int v2), (3, .int v3)] [] 120 := by
  refine r_aload_n C 0 rfl d_Mo_divisor_120 ?_
  refine r_bipush (v := 10) C (by decide) d_Mo_divisor_121 ?_
  refine r_callV (As := [.int 10]) (st := []) (lvc := 0) (mcc := 0) (msc := 0) C Rm M_Mo_isEven rfl k_1219 rfl (by decide) (Nat.le_of_ble_eq_true rfl) ⟨by decide, by decide⟩ d_Mo_divisor_123 ?_
  refine Can.mono K (fun _ h1 z => ?_)
  obtain ⟨r1, rfl, K⟩ := z
  show Wg X 0 0 h1 [(0, .ref 0), (1, .int v1), (2, .int v2), (3, .int v3)] [.int r1] 126
  refine r_if_eq C 138 d_Mo_divisor_126 (by decide) ⟨fun c0 => ?_, fun c0 => ?_⟩
  · have K := K.1 c0
    exact K
  · have K := K.2 c0
    refine r_aload_n C 0 rfl d_Mo_divisor_129 ?_
    refine r_bipush (v := 10) C (by decide) d_Mo_divisor_130 ?_
    refine r_callV (As := [.int 10]) (st := []) (lvc := 1) (mcc := 0) (msc := 0) C Rm M_Mo_halve rfl k_1223 rfl (by decide) (Nat.le_of_ble_eq_true rfl) ⟨by decide, by decide⟩ d_Mo_divisor_132 ?_
    refine Can.mono K (fun _ h2 z => ?_)
    obtain ⟨rfl, K⟩ := z
    show Wg X 0 0 h2 [(0, .ref 0), (1, .int v1), (2, .int v2), (3, .int v3)] [] 135
    refine r_goto C 120 d_Mo_divisor_135 (by decide) ?_
    exact K
set_option maxRecDepth 20000 in
theorem g_Mo_divisor_138 {X : CX} {h : HP} {v1 : Int32} {v2 : Int32} {v3 : Int32} {Φ : HP → Prop} (C : Cok X b_Mo_divisor 5 R_Mo none) (Rm : xR X = rml 2 0 0) (Q : Qok X 0 0 (fun r h2 => r = none ∧ Φ h2)) 
    (K : vp_in 11 218 ∧ (((h 9 (11 : Int32).toNatClampNeg) ≤ 0 → Wg X 0 0 h [(0, .ref 0), (1, .int v1), (2, .int v2), (3, .int v3)] [] 166) ∧ (¬ (h 9 (11 : Int32).toNatClampNeg) ≤ 0 → K_Mo_isEven [.ref 0, .int 11] h (fun r1 h1 => (r1 = 0 → Wg X 0 0 h1 [(0, .ref 0), (1, .int v1), (2, .int v2), (3, .int v3)] [] 166) ∧ (¬ r1 = 0 → K_Mo_halve [.ref 0, .int 11] h1 (fun h2 => Wg X 0 0 h2 [(0, .ref 0), (1, .int v1), (2, .int v2), (3, .int v3)] [] 138)))))) :
    Wg X 0 0 h [(0, .ref 0), (1, .int v1), (2, .int v2), (3, .int v3)] [] 138 := by
  refine r_aload_n C 0 rfl d_Mo_divisor_138 ?_
  refine gf_Mo_length (k2 := 9) C rfl rfl k_1031 d_Mo_divisor_139 ?_
  refine r_bipush (v := 11) C (by decide) d_Mo_divisor_142 ?_
  obtain ⟨s0, K⟩ := K
  refine r_iald C rfl s0 d_Mo_divisor_144 ?_
  refine r_if_le C 166 d_Mo_divisor_145 (by decide) ⟨fun c0 => ?_, fun c0 => ?_⟩
  · have K := K.1 c0
    exact K
  · have K := K.2 c0
    refine r_aload_n C 0 rfl d_Mo_divisor_148 ?_
    refine r_bipush (v := 11) C (by decide) d_Mo_divisor_149 ?_
    refine r_callV (As := [.int 11]) (st := []) (lvc := 0) (mcc := 0) (msc := 0) C Rm M_Mo_isEven rfl k_1219 rfl (by decide) (Nat.le_of_ble_eq_true rfl) ⟨by decide, by decide⟩ d_Mo_divisor_151 ?_
    refine Can.mono K (fun _ h1 z => ?_)
    obtain ⟨r1, rfl, K⟩ := z
    show Wg X 0 0 h1 [(0, .ref 0), (1, .int v1), (2, .int v2), (3, .int v3)] [.int r1] 154
    refine r_if_eq C 166 d_Mo_divisor_154 (by decide) ⟨fun c0 => ?_, fun c0 => ?_⟩
    · have K := K.1 c0
      exact K
    · have K := K.2 c0
      refine r_aload_n C 0 rfl d_Mo_divisor_157 ?_
      refine r_bipush (v := 11) C (by decide) d_Mo_divisor_158 ?_
      refine r_callV (As := [.int 11]) (st := []) (lvc := 1) (mcc := 0) (msc := 0) C Rm M_Mo_halve rfl k_1223 rfl (by decide) (Nat.le_of_ble_eq_true rfl) ⟨by decide, by decide⟩ d_Mo_divisor_160 ?_
      refine Can.mono K (fun _ h2 z => ?_)
      obtain ⟨rfl, K⟩ := z
      show Wg X 0 0 h2 [(0, .ref 0), (1, .int v1), (2, .int v2), (3, .int v3)] [] 163
      refine r_goto C 138 d_Mo_divisor_163 (by decide) ?_
      exact K
set_option maxRecDepth 20000 in
theorem g_Mo_divisor_166 {X : CX} {h : HP} {v1 : Int32} {v2 : Int32} {v3 : Int32} {Φ : HP → Prop} (C : Cok X b_Mo_divisor 5 R_Mo none) (Rm : xR X = rml 2 0 0) (Q : Qok X 0 0 (fun r h2 => r = none ∧ Φ h2)) 
    (K : vp_in 11 218 ∧ (((h 9 (11 : Int32).toNatClampNeg) ≤ 0 → Wg X 0 0 h [(0, .ref 0), (1, .int v1), (2, .int v2), (3, .int v3)] [] 110) ∧ (¬ (h 9 (11 : Int32).toNatClampNeg) ≤ 0 → K_Mo_compareSizes [.ref 0, .int 10, .int 11] h (fun r1 h1 => (r1 ≤ 0 → K_Mo_subtractSizes [.ref 0, .int 11, .int 11, .int 10] h1 (fun h2 => Wg X 0 0 h2 [(0, .ref 0), (1, .int v1), (2, .int v2), (3, .int v3)] [] 110)) ∧ (¬ r1 ≤ 0 → K_Mo_subtractSizes [.ref 0, .int 10, .int 10, .int 11] h1 (fun h3 => Wg X 0 0 h3 [(0, .ref 0), (1, .int v1), (2, .int v2), (3, .int v3)] [] 110)))))) :
    Wg X 0 0 h [(0, .ref 0), (1, .int v1), (2, .int v2), (3, .int v3)] [] 166 := by
  refine r_aload_n C 0 rfl d_Mo_divisor_166 ?_
  refine gf_Mo_length (k2 := 9) C rfl rfl k_1031 d_Mo_divisor_167 ?_
  refine r_bipush (v := 11) C (by decide) d_Mo_divisor_170 ?_
  obtain ⟨s0, K⟩ := K
  refine r_iald C rfl s0 d_Mo_divisor_172 ?_
  refine r_if_le C 110 d_Mo_divisor_173 (by decide) ⟨fun c0 => ?_, fun c0 => ?_⟩
  · have K := K.1 c0
    exact K
  · have K := K.2 c0
    refine r_aload_n C 0 rfl d_Mo_divisor_176 ?_
    refine r_bipush (v := 10) C (by decide) d_Mo_divisor_177 ?_
    refine r_bipush (v := 11) C (by decide) d_Mo_divisor_179 ?_
    refine r_callV (As := [.int 10, .int 11]) (st := []) (lvc := 0) (mcc := 0) (msc := 0) C Rm M_Mo_compareSizes rfl k_1227 rfl (by decide) (Nat.le_of_ble_eq_true rfl) ⟨by decide, by decide⟩ d_Mo_divisor_181 ?_
    refine Can.mono K (fun _ h1 z => ?_)
    obtain ⟨r1, rfl, K⟩ := z
    show Wg X 0 0 h1 [(0, .ref 0), (1, .int v1), (2, .int v2), (3, .int v3)] [.int r1] 184
    refine r_if_le C 200 d_Mo_divisor_184 (by decide) ⟨fun c0 => ?_, fun c0 => ?_⟩
    · have K := K.1 c0
      refine r_aload_n C 0 rfl d_Mo_divisor_200 ?_
      refine r_bipush (v := 11) C (by decide) d_Mo_divisor_201 ?_
      refine r_bipush (v := 11) C (by decide) d_Mo_divisor_203 ?_
      refine r_bipush (v := 10) C (by decide) d_Mo_divisor_205 ?_
      refine r_callV (As := [.int 11, .int 11, .int 10]) (st := []) (lvc := 1) (mcc := 0) (msc := 0) C Rm M_Mo_subtractSizes rfl k_1231 rfl (by decide) (Nat.le_of_ble_eq_true rfl) ⟨by decide, by decide⟩ d_Mo_divisor_207 ?_
      refine Can.mono K (fun _ h2 z => ?_)
      obtain ⟨rfl, K⟩ := z
      show Wg X 0 0 h2 [(0, .ref 0), (1, .int v1), (2, .int v2), (3, .int v3)] [] 210
      refine r_goto C 110 d_Mo_divisor_210 (by decide) ?_
      exact K
    · have K := K.2 c0
      refine r_aload_n C 0 rfl d_Mo_divisor_187 ?_
      refine r_bipush (v := 10) C (by decide) d_Mo_divisor_188 ?_
      refine r_bipush (v := 10) C (by decide) d_Mo_divisor_190 ?_
      refine r_bipush (v := 11) C (by decide) d_Mo_divisor_192 ?_
      refine r_callV (As := [.int 10, .int 10, .int 11]) (st := []) (lvc := 1) (mcc := 0) (msc := 0) C Rm M_Mo_subtractSizes rfl k_1231 rfl (by decide) (Nat.le_of_ble_eq_true rfl) ⟨by decide, by decide⟩ d_Mo_divisor_194 ?_
      refine Can.mono K (fun _ h3 z => ?_)
      obtain ⟨rfl, K⟩ := z
      show Wg X 0 0 h3 [(0, .ref 0), (1, .int v1), (2, .int v2), (3, .int v3)] [] 197
      refine r_goto C 110 d_Mo_divisor_197 (by decide) ?_
      exact K
set_option maxRecDepth 20000 in
theorem g_Mo_divisor_216 {X : CX} {h : HP} {v1 : Int32} {v2 : Int32} {v3 : Int32} {v4 : Int32} {Φ : HP → Prop} (C : Cok X b_Mo_divisor 5 R_Mo none) (Rm : xR X = rml 2 0 0) (Q : Qok X 0 0 (fun r h2 => r = none ∧ Φ h2)) 
    (K : (v3 ≤ v4 → Φ h) ∧ (¬ v3 ≤ v4 → K_Mo_addSizes [.ref 0, .int 10, .int 10, .int 10] h (fun h1 => Wg X 0 0 h1 [(0, .ref 0), (1, .int v1), (2, .int v2), (3, .int v3), (4, .int (v4 + 1))] [] 216))) :
    Wg X 0 0 h [(0, .ref 0), (1, .int v1), (2, .int v2), (3, .int v3), (4, .int v4)] [] 216 := by
  refine r_iload C 4 rfl d_Mo_divisor_216 ?_
  refine r_iload_n C 3 rfl d_Mo_divisor_218 ?_
  refine r_icmp_ge C 238 d_Mo_divisor_219 (by decide) ⟨fun c0 => ?_, fun c0 => ?_⟩
  · have K := K.1 c0
    exact q_vret C Q d_Mo_divisor_238 ⟨rfl, K⟩
  · have K := K.2 c0
    refine r_aload_n C 0 rfl d_Mo_divisor_222 ?_
    refine r_bipush (v := 10) C (by decide) d_Mo_divisor_223 ?_
    refine r_bipush (v := 10) C (by decide) d_Mo_divisor_225 ?_
    refine r_bipush (v := 10) C (by decide) d_Mo_divisor_227 ?_
    refine r_callV (As := [.int 10, .int 10, .int 10]) (st := []) (lvc := 1) (mcc := 0) (msc := 0) C Rm M_Mo_addSizes rfl k_1235 rfl (by decide) (Nat.le_of_ble_eq_true rfl) ⟨by decide, by decide⟩ d_Mo_divisor_229 ?_
    refine Can.mono K (fun _ h1 z => ?_)
    obtain ⟨rfl, K⟩ := z
    show Wg X 0 0 h1 [(0, .ref 0), (1, .int v1), (2, .int v2), (3, .int v3), (4, .int v4)] [] 232
    refine r_iinc (ls2 := [(0, .ref 0), (1, .int v1), (2, .int v2), (3, .int v3), (4, .int (v4 + 1))]) C 4 (m := 1) rfl (by decide) (by decide) rfl d_Mo_divisor_232 ?_
    refine r_goto C 216 d_Mo_divisor_235 (by decide) ?_
    exact K
set_option maxRecDepth 20000 in
theorem g_Mo_reduce_0 {X : CX} {h : HP}  {Φ : HP → Prop} (C : Cok X b_Mo_reduce 2 R_Mo none) (Rm : xR X = rml 3 0 0) (Q : Qok X 0 0 (fun r h2 => r = none ∧ Φ h2)) 
    (K : vp_in 5 218 ∧ (((h 10 (5 : Int32).toNatClampNeg) = 0 → Wg X 0 0 h [(0, .ref 0)] [] 45) ∧ (¬ (h 10 (5 : Int32).toNatClampNeg) = 0 → vp_in 5 218 ∧ (vp_in 4 218 ∧ ((((up h 10 (5 : Int32).toNatClampNeg (vp_nar .boolean 0)) 9 (4 : Int32).toNatClampNeg) ≤ 0 → vp_in 4 218 ∧ (Wg X 0 0 (up (up h 10 (5 : Int32).toNatClampNeg (vp_nar .boolean 0)) 10 (4 : Int32).toNatClampNeg (vp_nar .boolean 0)) [(0, .ref 0)] [] 45)) ∧ (¬ ((up h 10 (5 : Int32).toNatClampNeg (vp_nar .boolean 0)) 9 (4 : Int32).toNatClampNeg) ≤ 0 → vp_in 4 218 ∧ ((¬ ((up h 10 (5 : Int32).toNatClampNeg (vp_nar .boolean 0)) 10 (4 : Int32).toNatClampNeg) = 0 → vp_in 4 218 ∧ (Wg X 0 0 (up (up h 10 (5 : Int32).toNatClampNeg (vp_nar .boolean 0)) 10 (4 : Int32).toNatClampNeg (vp_nar .boolean 0)) [(0, .ref 0)] [] 45)) ∧ (((up h 10 (5 : Int32).toNatClampNeg (vp_nar .boolean 0)) 10 (4 : Int32).toNatClampNeg) = 0 → vp_in 4 218 ∧ (Wg X 0 0 (up (up h 10 (5 : Int32).toNatClampNeg (vp_nar .boolean 0)) 10 (4 : Int32).toNatClampNeg (vp_nar .boolean 1)) [(0, .ref 0)] [] 45))))))))) :
    Wg X 0 0 h [(0, .ref 0)] [] 0 := by
  refine r_aload_n C 0 rfl d_Mo_reduce_0 ?_
  refine gf_Mo_isBelow (k2 := 10) C rfl rfl k_1032 d_Mo_reduce_1 ?_
  refine r_iconst (v := 5) C (by decide) d_Mo_reduce_4 ?_
  obtain ⟨s0, K⟩ := K
  refine r_zald C rfl s0 d_Mo_reduce_5 ?_
  refine r_if_eq C 45 d_Mo_reduce_6 (by decide) ⟨fun c0 => ?_, fun c0 => ?_⟩
  · have K := K.1 c0
    exact K
  · have K := K.2 c0
    refine r_aload_n C 0 rfl d_Mo_reduce_9 ?_
    refine gf_Mo_isBelow (k2 := 10) C rfl rfl k_1032 d_Mo_reduce_10 ?_
    refine r_iconst (v := 5) C (by decide) d_Mo_reduce_13 ?_
    refine r_iconst (v := 0) C (by decide) d_Mo_reduce_14 ?_
    obtain ⟨s0, K⟩ := K
    refine r_zast C rfl s0 d_Mo_reduce_15 ?_
    refine r_aload_n C 0 rfl d_Mo_reduce_16 ?_
    refine gf_Mo_isBelow (k2 := 10) C rfl rfl k_1032 d_Mo_reduce_17 ?_
    refine r_iconst (v := 4) C (by decide) d_Mo_reduce_20 ?_
    refine r_aload_n C 0 rfl d_Mo_reduce_21 ?_
    refine gf_Mo_length (k2 := 9) C rfl rfl k_1031 d_Mo_reduce_22 ?_
    refine r_iconst (v := 4) C (by decide) d_Mo_reduce_25 ?_
    obtain ⟨s0, K⟩ := K
    refine r_iald C rfl s0 d_Mo_reduce_26 ?_
    refine r_if_le C 43 d_Mo_reduce_27 (by decide) ⟨fun c0 => ?_, fun c0 => ?_⟩
    · have K := K.1 c0
      refine r_iconst (v := 0) C (by decide) d_Mo_reduce_43 ?_
      obtain ⟨s0, K⟩ := K
      refine r_zast C rfl s0 d_Mo_reduce_44 ?_
      exact K
    · have K := K.2 c0
      refine r_aload_n C 0 rfl d_Mo_reduce_30 ?_
      refine gf_Mo_isBelow (k2 := 10) C rfl rfl k_1032 d_Mo_reduce_31 ?_
      refine r_iconst (v := 4) C (by decide) d_Mo_reduce_34 ?_
      obtain ⟨s0, K⟩ := K
      refine r_zald C rfl s0 d_Mo_reduce_35 ?_
      refine r_if_ne C 43 d_Mo_reduce_36 (by decide) ⟨fun c0 => ?_, fun c0 => ?_⟩
      · have K := K.1 c0
        refine r_iconst (v := 0) C (by decide) d_Mo_reduce_43 ?_
        obtain ⟨s0, K⟩ := K
        refine r_zast C rfl s0 d_Mo_reduce_44 ?_
        exact K
      · have K := K.2 c0
        refine r_iconst (v := 1) C (by decide) d_Mo_reduce_39 ?_
        refine r_goto C 44 d_Mo_reduce_40 (by decide) ?_
        obtain ⟨s0, K⟩ := K
        refine r_zast C rfl s0 d_Mo_reduce_44 ?_
        exact K
set_option maxRecDepth 20000 in
theorem g_Mo_reduce_45 {X : CX} {h : HP}  {Φ : HP → Prop} (C : Cok X b_Mo_reduce 2 R_Mo none) (Rm : xR X = rml 3 0 0) (Q : Qok X 0 0 (fun r h2 => r = none ∧ Φ h2)) 
    (K : K_Mo_divisor [.ref 0, .int 4, .int 5] h (fun h1 => vp_in 10 218 ∧ ((¬ ((h1 9 (10 : Int32).toNatClampNeg)) = (1 : Int32) → Wg X 0 0 h1 [(0, .ref 0)] [] 75) ∧ (((h1 9 (10 : Int32).toNatClampNeg)) = (1 : Int32) → vp_in 1000 21800 ∧ ((¬ ((h1 8 (1000 : Int32).toNatClampNeg)) = (1 : Int32) → Wg X 0 0 h1 [(0, .ref 0)] [] 75) ∧ (((h1 8 (1000 : Int32).toNatClampNeg)) = (1 : Int32) → Φ h1)))))) :
    Wg X 0 0 h [(0, .ref 0)] [] 45 := by
  refine r_aload_n C 0 rfl d_Mo_reduce_45 ?_
  refine r_iconst (v := 4) C (by decide) d_Mo_reduce_46 ?_
  refine r_iconst (v := 5) C (by decide) d_Mo_reduce_47 ?_
  refine r_callV (As := [.int 4, .int 5]) (st := []) (lvc := 2) (mcc := 0) (msc := 0) C Rm M_Mo_divisor rfl k_1215 rfl (by decide) (Nat.le_of_ble_eq_true rfl) ⟨by decide, by decide⟩ d_Mo_reduce_48 ?_
  refine Can.mono K (fun _ h1 z => ?_)
  obtain ⟨rfl, K⟩ := z
  show Wg X 0 0 h1 [(0, .ref 0)] [] 51
  refine r_aload_n C 0 rfl d_Mo_reduce_51 ?_
  refine gf_Mo_length (k2 := 9) C rfl rfl k_1031 d_Mo_reduce_52 ?_
  refine r_bipush (v := 10) C (by decide) d_Mo_reduce_55 ?_
  obtain ⟨s0, K⟩ := K
  refine r_iald C rfl s0 d_Mo_reduce_57 ?_
  refine r_iconst (v := 1) C (by decide) d_Mo_reduce_58 ?_
  refine r_icmp_ne C 75 d_Mo_reduce_59 (by decide) ⟨fun c0 => ?_, fun c0 => ?_⟩
  · have K := K.1 c0
    exact K
  · have K := K.2 c0
    refine r_aload_n C 0 rfl d_Mo_reduce_62 ?_
    refine gf_Mo_limb (k2 := 8) C rfl rfl k_1030 d_Mo_reduce_63 ?_
    refine r_sipush (v := 1000) C (by decide) d_Mo_reduce_66 ?_
    obtain ⟨s0, K⟩ := K
    refine r_iald C rfl s0 d_Mo_reduce_69 ?_
    refine r_iconst (v := 1) C (by decide) d_Mo_reduce_70 ?_
    refine r_icmp_ne C 75 d_Mo_reduce_71 (by decide) ⟨fun c0 => ?_, fun c0 => ?_⟩
    · have K := K.1 c0
      exact K
    · have K := K.2 c0
      exact q_vret C Q d_Mo_reduce_74 ⟨rfl, K⟩
set_option maxRecDepth 20000 in
theorem g_Mo_reduce_75 {X : CX} {h : HP}  {Φ : HP → Prop} (C : Cok X b_Mo_reduce 2 R_Mo none) (Rm : xR X = rml 3 0 0) (Q : Qok X 0 0 (fun r h2 => r = none ∧ Φ h2)) 
    (K : vp_in 4 218 ∧ (K_Mo_divide [.ref 0, .int 12, .int 4, .int 10] h (fun h1 => K_Mo_copyRow [.ref 0, .int 4, .int 12] h1 (fun h2 => ((h 10 (4 : Int32).toNatClampNeg) = 0 → vp_in 4 218 ∧ (K_Mo_divide [.ref 0, .int 12, .int 5, .int 10] (up h2 10 (4 : Int32).toNatClampNeg (vp_nar .boolean 0)) (fun h3 => K_Mo_copyRow [.ref 0, .int 5, .int 12] h3 (fun h4 => Φ h4)))) ∧ (¬ (h 10 (4 : Int32).toNatClampNeg) = 0 → vp_in 4 218 ∧ (((h2 9 (4 : Int32).toNatClampNeg) ≤ 0 → vp_in 4 218 ∧ (K_Mo_divide [.ref 0, .int 12, .int 5, .int 10] (up h2 10 (4 : Int32).toNatClampNeg (vp_nar .boolean 0)) (fun h5 => K_Mo_copyRow [.ref 0, .int 5, .int 12] h5 (fun h6 => Φ h6)))) ∧ (¬ (h2 9 (4 : Int32).toNatClampNeg) ≤ 0 → vp_in 4 218 ∧ (K_Mo_divide [.ref 0, .int 12, .int 5, .int 10] (up h2 10 (4 : Int32).toNatClampNeg (vp_nar .boolean 1)) (fun h7 => K_Mo_copyRow [.ref 0, .int 5, .int 12] h7 (fun h8 => Φ h8)))))))))) :
    Wg X 0 0 h [(0, .ref 0)] [] 75 := by
  refine r_aload_n C 0 rfl d_Mo_reduce_75 ?_
  refine gf_Mo_isBelow (k2 := 10) C rfl rfl k_1032 d_Mo_reduce_76 ?_
  refine r_iconst (v := 4) C (by decide) d_Mo_reduce_79 ?_
  obtain ⟨s0, K⟩ := K
  refine r_zald C rfl s0 d_Mo_reduce_80 ?_
  refine r_istore_n (ls2 := [(0, .ref 0), (1, .int (h 10 (4 : Int32).toNatClampNeg))]) C rfl (by decide) rfl d_Mo_reduce_81 ?_
  refine r_aload_n C 0 rfl d_Mo_reduce_82 ?_
  refine r_bipush (v := 12) C (by decide) d_Mo_reduce_83 ?_
  refine r_iconst (v := 4) C (by decide) d_Mo_reduce_85 ?_
  refine r_bipush (v := 10) C (by decide) d_Mo_reduce_86 ?_
  refine r_callV (As := [.int 12, .int 4, .int 10]) (st := []) (lvc := 2) (mcc := 0) (msc := 0) C Rm M_Mo_divide rfl k_1239 rfl (by decide) (Nat.le_of_ble_eq_true rfl) ⟨by decide, by decide⟩ d_Mo_reduce_88 ?_
  refine Can.mono K (fun _ h1 z => ?_)
  obtain ⟨rfl, K⟩ := z
  show Wg X 0 0 h1 [(0, .ref 0), (1, .int (h 10 (4 : Int32).toNatClampNeg))] [] 91
  refine r_aload_n C 0 rfl d_Mo_reduce_91 ?_
  refine r_iconst (v := 4) C (by decide) d_Mo_reduce_92 ?_
  refine r_bipush (v := 12) C (by decide) d_Mo_reduce_93 ?_
  refine r_callV (As := [.int 4, .int 12]) (st := []) (lvc := 0) (mcc := 0) (msc := 0) C Rm M_Mo_copyRow rfl k_1167 rfl (by decide) (Nat.le_of_ble_eq_true rfl) ⟨by decide, by decide⟩ d_Mo_reduce_95 ?_
  refine Can.mono K (fun _ h2 z => ?_)
  obtain ⟨rfl, K⟩ := z
  show Wg X 0 0 h2 [(0, .ref 0), (1, .int (h 10 (4 : Int32).toNatClampNeg))] [] 98
  refine r_aload_n C 0 rfl d_Mo_reduce_98 ?_
  refine gf_Mo_isBelow (k2 := 10) C rfl rfl k_1032 d_Mo_reduce_99 ?_
  refine r_iconst (v := 4) C (by decide) d_Mo_reduce_102 ?_
  refine r_iload_n C 1 rfl d_Mo_reduce_103 ?_
  refine r_if_eq C 120 d_Mo_reduce_104 (by decide) ⟨fun c0 => ?_, fun c0 => ?_⟩
  · have K := K.1 c0
    refine r_iconst (v := 0) C (by decide) d_Mo_reduce_120 ?_
    obtain ⟨s0, K⟩ := K
    refine r_zast C rfl s0 d_Mo_reduce_121 ?_
    refine r_aload_n C 0 rfl d_Mo_reduce_122 ?_
    refine r_bipush (v := 12) C (by decide) d_Mo_reduce_123 ?_
    refine r_iconst (v := 5) C (by decide) d_Mo_reduce_125 ?_
    refine r_bipush (v := 10) C (by decide) d_Mo_reduce_126 ?_
    refine r_callV (As := [.int 12, .int 5, .int 10]) (st := []) (lvc := 2) (mcc := 0) (msc := 0) C Rm M_Mo_divide rfl k_1239 rfl (by decide) (Nat.le_of_ble_eq_true rfl) ⟨by decide, by decide⟩ d_Mo_reduce_128 ?_
    refine Can.mono K (fun _ h3 z => ?_)
    obtain ⟨rfl, K⟩ := z
    show Wg X 0 0 h3 [(0, .ref 0), (1, .int (h 10 (4 : Int32).toNatClampNeg))] [] 131
    refine r_aload_n C 0 rfl d_Mo_reduce_131 ?_
    refine r_iconst (v := 5) C (by decide) d_Mo_reduce_132 ?_
    refine r_bipush (v := 12) C (by decide) d_Mo_reduce_133 ?_
    refine r_callV (As := [.int 5, .int 12]) (st := []) (lvc := 0) (mcc := 0) (msc := 0) C Rm M_Mo_copyRow rfl k_1167 rfl (by decide) (Nat.le_of_ble_eq_true rfl) ⟨by decide, by decide⟩ d_Mo_reduce_135 ?_
    refine Can.mono K (fun _ h4 z => ?_)
    obtain ⟨rfl, K⟩ := z
    show Wg X 0 0 h4 [(0, .ref 0), (1, .int (h 10 (4 : Int32).toNatClampNeg))] [] 138
    exact q_vret C Q d_Mo_reduce_138 ⟨rfl, K⟩
  · have K := K.2 c0
    refine r_aload_n C 0 rfl d_Mo_reduce_107 ?_
    refine gf_Mo_length (k2 := 9) C rfl rfl k_1031 d_Mo_reduce_108 ?_
    refine r_iconst (v := 4) C (by decide) d_Mo_reduce_111 ?_
    obtain ⟨s0, K⟩ := K
    refine r_iald C rfl s0 d_Mo_reduce_112 ?_
    refine r_if_le C 120 d_Mo_reduce_113 (by decide) ⟨fun c0 => ?_, fun c0 => ?_⟩
    · have K := K.1 c0
      refine r_iconst (v := 0) C (by decide) d_Mo_reduce_120 ?_
      obtain ⟨s0, K⟩ := K
      refine r_zast C rfl s0 d_Mo_reduce_121 ?_
      refine r_aload_n C 0 rfl d_Mo_reduce_122 ?_
      refine r_bipush (v := 12) C (by decide) d_Mo_reduce_123 ?_
      refine r_iconst (v := 5) C (by decide) d_Mo_reduce_125 ?_
      refine r_bipush (v := 10) C (by decide) d_Mo_reduce_126 ?_
      refine r_callV (As := [.int 12, .int 5, .int 10]) (st := []) (lvc := 2) (mcc := 0) (msc := 0) C Rm M_Mo_divide rfl k_1239 rfl (by decide) (Nat.le_of_ble_eq_true rfl) ⟨by decide, by decide⟩ d_Mo_reduce_128 ?_
      refine Can.mono K (fun _ h5 z => ?_)
      obtain ⟨rfl, K⟩ := z
      show Wg X 0 0 h5 [(0, .ref 0), (1, .int (h 10 (4 : Int32).toNatClampNeg))] [] 131
      refine r_aload_n C 0 rfl d_Mo_reduce_131 ?_
      refine r_iconst (v := 5) C (by decide) d_Mo_reduce_132 ?_
      refine r_bipush (v := 12) C (by decide) d_Mo_reduce_133 ?_
      refine r_callV (As := [.int 5, .int 12]) (st := []) (lvc := 0) (mcc := 0) (msc := 0) C Rm M_Mo_copyRow rfl k_1167 rfl (by decide) (Nat.le_of_ble_eq_true rfl) ⟨by decide, by decide⟩ d_Mo_reduce_135 ?_
      refine Can.mono K (fun _ h6 z => ?_)
      obtain ⟨rfl, K⟩ := z
      show Wg X 0 0 h6 [(0, .ref 0), (1, .int (h 10 (4 : Int32).toNatClampNeg))] [] 138
      exact q_vret C Q d_Mo_reduce_138 ⟨rfl, K⟩
    · have K := K.2 c0
      refine r_iconst (v := 1) C (by decide) d_Mo_reduce_116 ?_
      refine r_goto C 121 d_Mo_reduce_117 (by decide) ?_
      obtain ⟨s0, K⟩ := K
      refine r_zast C rfl s0 d_Mo_reduce_121 ?_
      refine r_aload_n C 0 rfl d_Mo_reduce_122 ?_
      refine r_bipush (v := 12) C (by decide) d_Mo_reduce_123 ?_
      refine r_iconst (v := 5) C (by decide) d_Mo_reduce_125 ?_
      refine r_bipush (v := 10) C (by decide) d_Mo_reduce_126 ?_
      refine r_callV (As := [.int 12, .int 5, .int 10]) (st := []) (lvc := 2) (mcc := 0) (msc := 0) C Rm M_Mo_divide rfl k_1239 rfl (by decide) (Nat.le_of_ble_eq_true rfl) ⟨by decide, by decide⟩ d_Mo_reduce_128 ?_
      refine Can.mono K (fun _ h7 z => ?_)
      obtain ⟨rfl, K⟩ := z
      show Wg X 0 0 h7 [(0, .ref 0), (1, .int (h 10 (4 : Int32).toNatClampNeg))] [] 131
      refine r_aload_n C 0 rfl d_Mo_reduce_131 ?_
      refine r_iconst (v := 5) C (by decide) d_Mo_reduce_132 ?_
      refine r_bipush (v := 12) C (by decide) d_Mo_reduce_133 ?_
      refine r_callV (As := [.int 5, .int 12]) (st := []) (lvc := 0) (mcc := 0) (msc := 0) C Rm M_Mo_copyRow rfl k_1167 rfl (by decide) (Nat.le_of_ble_eq_true rfl) ⟨by decide, by decide⟩ d_Mo_reduce_135 ?_
      refine Can.mono K (fun _ h8 z => ?_)
      obtain ⟨rfl, K⟩ := z
      show Wg X 0 0 h8 [(0, .ref 0), (1, .int (h 10 (4 : Int32).toNatClampNeg))] [] 138
      exact q_vret C Q d_Mo_reduce_138 ⟨rfl, K⟩
set_option maxRecDepth 20000 in
theorem g_Mo_rowOf_0 {X : CX} {h : HP} {v0 : Int32} {Φ : Int32 → HP → Prop} (C : Cok X b_Mo_rowOf 1 R_Mo ((some .int))) (Rm : xR X = rml 0 0 0) (Q : Qok X 0 0 (fun r h2 => ∃ v, r = some (.int v) ∧ Φ v h2)) 
    (K : Φ (13 + v0) h) :
    Wg X 0 0 h [(0, .int v0)] [] 0 := by
  refine r_bipush (v := 13) C (by decide) d_Mo_rowOf_0 ?_
  refine r_iload_n C 0 rfl d_Mo_rowOf_2 ?_
  refine r_iadd C d_Mo_rowOf_3 ?_
  exact q_iret C Q d_Mo_rowOf_4 ⟨_, rfl, K⟩
set_option maxRecDepth 20000 in
theorem g_Mo_slotOf_0 {X : CX} {h : HP} {v0 : Int32} {v1 : Int32} {Φ : Int32 → HP → Prop} (C : Cok X b_Mo_slotOf 2 R_Mo ((some .int))) (Rm : xR X = rml 0 0 0) (Q : Qok X 0 0 (fun r h2 => ∃ v, r = some (.int v) ∧ Φ v h2)) 
    (K : Φ ((8 + (2 * v0)) + v1) h) :
    Wg X 0 0 h [(0, .int v0), (1, .int v1)] [] 0 := by
  refine r_bipush (v := 8) C (by decide) d_Mo_slotOf_0 ?_
  refine r_iconst (v := 2) C (by decide) d_Mo_slotOf_2 ?_
  refine r_iload_n C 0 rfl d_Mo_slotOf_3 ?_
  refine r_imul C d_Mo_slotOf_4 ?_
  refine r_iadd C d_Mo_slotOf_5 ?_
  refine r_iload_n C 1 rfl d_Mo_slotOf_6 ?_
  refine r_iadd C d_Mo_slotOf_7 ?_
  exact q_iret C Q d_Mo_slotOf_8 ⟨_, rfl, K⟩
set_option maxRecDepth 20000 in
theorem g_Mo_setValue_0 {X : CX} {h : HP} {v1 : Int32} {v2 : Int32} {v3 : Int32} {Φ : HP → Prop} (C : Cok X b_Mo_setValue 4 R_Mo none) (Rm : xR X = rml 0 0 0) (Q : Qok X 0 0 (fun r h2 => r = none ∧ Φ h2)) 
    (K : vp_in v1 416 ∧ (vp_in v1 416 ∧ (Φ (up (up h 1 v1.toNatClampNeg v2) 2 v1.toNatClampNeg v3)))) :
    Wg X 0 0 h [(0, .ref 0), (1, .int v1), (2, .int v2), (3, .int v3)] [] 0 := by
  refine r_aload_n C 0 rfl d_Mo_setValue_0 ?_
  refine gf_Mo_valueSort (k2 := 1) C rfl rfl k_1020 d_Mo_setValue_1 ?_
  refine r_iload_n C 1 rfl d_Mo_setValue_4 ?_
  refine r_iload_n C 2 rfl d_Mo_setValue_5 ?_
  obtain ⟨s0, K⟩ := K
  refine r_iast C rfl s0 d_Mo_setValue_6 ?_
  refine r_aload_n C 0 rfl d_Mo_setValue_7 ?_
  refine gf_Mo_valueOf (k2 := 2) C rfl rfl k_1021 d_Mo_setValue_8 ?_
  refine r_iload_n C 1 rfl d_Mo_setValue_11 ?_
  refine r_iload_n C 3 rfl d_Mo_setValue_12 ?_
  obtain ⟨s0, K⟩ := K
  refine r_iast C rfl s0 d_Mo_setValue_13 ?_
  exact q_vret C Q d_Mo_setValue_14 ⟨rfl, K⟩
set_option maxRecDepth 20000 in
theorem g_Mo_copyValue_0 {X : CX} {h : HP} {v1 : Int32} {v2 : Int32} {Φ : HP → Prop} (C : Cok X b_Mo_copyValue 3 R_Mo none) (Rm : xR X = rml 0 0 0) (Q : Qok X 0 0 (fun r h2 => r = none ∧ Φ h2)) 
    (K : vp_in v2 416 ∧ (vp_in v1 416 ∧ (vp_in v2 416 ∧ (vp_in v1 416 ∧ (Φ (up (up h 1 v1.toNatClampNeg (h 1 v2.toNatClampNeg)) 2 v1.toNatClampNeg ((up h 1 v1.toNatClampNeg (h 1 v2.toNatClampNeg)) 2 v2.toNatClampNeg))))))) :
    Wg X 0 0 h [(0, .ref 0), (1, .int v1), (2, .int v2)] [] 0 := by
  refine r_aload_n C 0 rfl d_Mo_copyValue_0 ?_
  refine gf_Mo_valueSort (k2 := 1) C rfl rfl k_1020 d_Mo_copyValue_1 ?_
  refine r_iload_n C 1 rfl d_Mo_copyValue_4 ?_
  refine r_aload_n C 0 rfl d_Mo_copyValue_5 ?_
  refine gf_Mo_valueSort (k2 := 1) C rfl rfl k_1020 d_Mo_copyValue_6 ?_
  refine r_iload_n C 2 rfl d_Mo_copyValue_9 ?_
  obtain ⟨s0, K⟩ := K
  refine r_iald C rfl s0 d_Mo_copyValue_10 ?_
  obtain ⟨s0, K⟩ := K
  refine r_iast C rfl s0 d_Mo_copyValue_11 ?_
  refine r_aload_n C 0 rfl d_Mo_copyValue_12 ?_
  refine gf_Mo_valueOf (k2 := 2) C rfl rfl k_1021 d_Mo_copyValue_13 ?_
  refine r_iload_n C 1 rfl d_Mo_copyValue_16 ?_
  refine r_aload_n C 0 rfl d_Mo_copyValue_17 ?_
  refine gf_Mo_valueOf (k2 := 2) C rfl rfl k_1021 d_Mo_copyValue_18 ?_
  refine r_iload_n C 2 rfl d_Mo_copyValue_21 ?_
  obtain ⟨s0, K⟩ := K
  refine r_iald C rfl s0 d_Mo_copyValue_22 ?_
  obtain ⟨s0, K⟩ := K
  refine r_iast C rfl s0 d_Mo_copyValue_23 ?_
  exact q_vret C Q d_Mo_copyValue_24 ⟨rfl, K⟩
set_option maxRecDepth 20000 in
theorem g_Mo_isFixed_0 {X : CX} {h : HP} {v1 : Int32} {Φ : Int32 → HP → Prop} (C : Cok X b_Mo_isFixed 3 R_Mo ((some .boolean))) (Rm : xR X = rml 1 0 0) (Q : Qok X 0 0 (fun r h2 => ∃ v, r = some (.int v) ∧ Φ v h2)) 
    (K : vp_in v1 218 ∧ (((2 : Int32) < ((h 9 v1.toNatClampNeg)) → Φ 0 h) ∧ (¬ (2 : Int32) < ((h 9 v1.toNatClampNeg)) → vp_in v1 218 ∧ ((¬ ((h 9 v1.toNatClampNeg)) = (2 : Int32) → Wg X 0 0 h [(0, .ref 0), (1, .int v1)] [] 39) ∧ (((h 9 v1.toNatClampNeg)) = (2 : Int32) → vp_in ((100 * v1) + 1) 21800 ∧ ((((h 8 ((100 * v1) + 1).toNatClampNeg)) ≤ (16384 : Int32) → Wg X 0 0 h [(0, .ref 0), (1, .int v1)] [] 39) ∧ (¬ ((h 8 ((100 * v1) + 1).toNatClampNeg)) ≤ (16384 : Int32) → Φ 0 h))))))) :
    Wg X 0 0 h [(0, .ref 0), (1, .int v1)] [] 0 := by
  refine r_aload_n C 0 rfl d_Mo_isFixed_0 ?_
  refine gf_Mo_length (k2 := 9) C rfl rfl k_1031 d_Mo_isFixed_1 ?_
  refine r_iload_n C 1 rfl d_Mo_isFixed_4 ?_
  obtain ⟨s0, K⟩ := K
  refine r_iald C rfl s0 d_Mo_isFixed_5 ?_
  refine r_iconst (v := 2) C (by decide) d_Mo_isFixed_6 ?_
  refine r_icmp_gt C 37 d_Mo_isFixed_7 (by decide) ⟨fun c0 => ?_, fun c0 => ?_⟩
  · have K := K.1 c0
    refine r_iconst (v := 0) C (by decide) d_Mo_isFixed_37 ?_
    exact q_zret C Q (by decide) d_Mo_isFixed_38 ⟨_, rfl, K⟩
  · have K := K.2 c0
    refine r_aload_n C 0 rfl d_Mo_isFixed_10 ?_
    refine gf_Mo_length (k2 := 9) C rfl rfl k_1031 d_Mo_isFixed_11 ?_
    refine r_iload_n C 1 rfl d_Mo_isFixed_14 ?_
    obtain ⟨s0, K⟩ := K
    refine r_iald C rfl s0 d_Mo_isFixed_15 ?_
    refine r_iconst (v := 2) C (by decide) d_Mo_isFixed_16 ?_
    refine r_icmp_ne C 39 d_Mo_isFixed_17 (by decide) ⟨fun c0 => ?_, fun c0 => ?_⟩
    · have K := K.1 c0
      exact K
    · have K := K.2 c0
      refine r_aload_n C 0 rfl d_Mo_isFixed_20 ?_
      refine gf_Mo_limb (k2 := 8) C rfl rfl k_1030 d_Mo_isFixed_21 ?_
      refine r_bipush (v := 100) C (by decide) d_Mo_isFixed_24 ?_
      refine r_iload_n C 1 rfl d_Mo_isFixed_26 ?_
      refine r_imul C d_Mo_isFixed_27 ?_
      refine r_iconst (v := 1) C (by decide) d_Mo_isFixed_28 ?_
      refine r_iadd C d_Mo_isFixed_29 ?_
      obtain ⟨s0, K⟩ := K
      refine r_iald C rfl s0 d_Mo_isFixed_30 ?_
      refine r_sipush (v := 16384) C (by decide) d_Mo_isFixed_31 ?_
      refine r_icmp_le C 39 d_Mo_isFixed_34 (by decide) ⟨fun c0 => ?_, fun c0 => ?_⟩
      · have K := K.1 c0
        exact K
      · have K := K.2 c0
        refine r_iconst (v := 0) C (by decide) d_Mo_isFixed_37 ?_
        exact q_zret C Q (by decide) d_Mo_isFixed_38 ⟨_, rfl, K⟩
set_option maxRecDepth 20000 in
theorem g_Mo_isFixed_39 {X : CX} {h : HP} {v1 : Int32} {Φ : Int32 → HP → Prop} (C : Cok X b_Mo_isFixed 3 R_Mo ((some .boolean))) (Rm : xR X = rml 1 0 0) (Q : Qok X 0 0 (fun r h2 => ∃ v, r = some (.int v) ∧ Φ v h2)) 
    (K : K_Mo_limbOf [.ref 0, .int v1, .int 0] h (fun r1 h1 => K_Mo_limbOf [.ref 0, .int v1, .int 1] h1 (fun r2 h2 => vp_in v1 218 ∧ (((h2 10 v1.toNatClampNeg) = 0 → ((1073741824 : Int32) ≤ ((r1 ||| (r2 <<< (16 &&& (31 : Int32))))) → Φ 0 h2) ∧ (¬ (1073741824 : Int32) ≤ ((r1 ||| (r2 <<< (16 &&& (31 : Int32))))) → ((r1 ||| (r2 <<< (16 &&& (31 : Int32)))) < 0 → Φ 0 h2) ∧ (¬ (r1 ||| (r2 <<< (16 &&& (31 : Int32)))) < 0 → Φ 1 h2))) ∧ (¬ (h2 10 v1.toNatClampNeg) = 0 → ((1073741824 : Int32) < ((r1 ||| (r2 <<< (16 &&& (31 : Int32))))) → Φ 0 h2) ∧ (¬ (1073741824 : Int32) < ((r1 ||| (r2 <<< (16 &&& (31 : Int32))))) → ((r1 ||| (r2 <<< (16 &&& (31 : Int32)))) < 0 → Φ 0 h2) ∧ (¬ (r1 ||| (r2 <<< (16 &&& (31 : Int32)))) < 0 → Φ 1 h2))))))) :
    Wg X 0 0 h [(0, .ref 0), (1, .int v1)] [] 39 := by
  refine r_aload_n C 0 rfl d_Mo_isFixed_39 ?_
  refine r_iload_n C 1 rfl d_Mo_isFixed_40 ?_
  refine r_iconst (v := 0) C (by decide) d_Mo_isFixed_41 ?_
  refine r_callV (As := [.int v1, .int 0]) (st := []) (lvc := 0) (mcc := 0) (msc := 0) C Rm M_Mo_limbOf rfl k_1136 rfl (by decide) (Nat.le_of_ble_eq_true rfl) ⟨by decide, by decide⟩ d_Mo_isFixed_42 ?_
  refine Can.mono K (fun _ h1 z => ?_)
  obtain ⟨r1, rfl, K⟩ := z
  show Wg X 0 0 h1 [(0, .ref 0), (1, .int v1)] [.int r1] 45
  refine r_aload_n C 0 rfl d_Mo_isFixed_45 ?_
  refine r_iload_n C 1 rfl d_Mo_isFixed_46 ?_
  refine r_iconst (v := 1) C (by decide) d_Mo_isFixed_47 ?_
  refine r_callV (As := [.int v1, .int 1]) (st := [.int r1]) (lvc := 0) (mcc := 0) (msc := 0) C Rm M_Mo_limbOf rfl k_1136 rfl (by decide) (Nat.le_of_ble_eq_true rfl) ⟨by decide, by decide⟩ d_Mo_isFixed_48 ?_
  refine Can.mono K (fun _ h2 z => ?_)
  obtain ⟨r2, rfl, K⟩ := z
  show Wg X 0 0 h2 [(0, .ref 0), (1, .int v1)] [.int r2, .int r1] 51
  refine r_bipush (v := 16) C (by decide) d_Mo_isFixed_51 ?_
  refine r_ishl C d_Mo_isFixed_53 ?_
  refine r_ior C d_Mo_isFixed_54 ?_
  refine r_istore_n (ls2 := [(0, .ref 0), (1, .int v1), (2, .int (r1 ||| (r2 <<< (16 &&& (31 : Int32)))))]) C rfl (by decide) rfl d_Mo_isFixed_55 ?_
  refine r_aload_n C 0 rfl d_Mo_isFixed_56 ?_
  refine gf_Mo_isBelow (k2 := 10) C rfl rfl k_1032 d_Mo_isFixed_57 ?_
  refine r_iload_n C 1 rfl d_Mo_isFixed_60 ?_
  obtain ⟨s0, K⟩ := K
  refine r_zald C rfl s0 d_Mo_isFixed_61 ?_
  refine r_if_eq C 83 d_Mo_isFixed_62 (by decide) ⟨fun c0 => ?_, fun c0 => ?_⟩
  · have K := K.1 c0
    refine r_iload_n C 2 rfl d_Mo_isFixed_83 ?_
    refine r_ldc (v := 1073741824) C k_1140 d_Mo_isFixed_84 ?_
    refine r_icmp_ge C 97 d_Mo_isFixed_86 (by decide) ⟨fun c0 => ?_, fun c0 => ?_⟩
    · have K := K.1 c0
      refine r_iconst (v := 0) C (by decide) d_Mo_isFixed_97 ?_
      exact q_zret C Q (by decide) d_Mo_isFixed_98 ⟨_, rfl, K⟩
    · have K := K.2 c0
      refine r_iload_n C 2 rfl d_Mo_isFixed_89 ?_
      refine r_if_lt C 97 d_Mo_isFixed_90 (by decide) ⟨fun c0 => ?_, fun c0 => ?_⟩
      · have K := K.1 c0
        refine r_iconst (v := 0) C (by decide) d_Mo_isFixed_97 ?_
        exact q_zret C Q (by decide) d_Mo_isFixed_98 ⟨_, rfl, K⟩
      · have K := K.2 c0
        refine r_iconst (v := 1) C (by decide) d_Mo_isFixed_93 ?_
        refine r_goto C 98 d_Mo_isFixed_94 (by decide) ?_
        exact q_zret C Q (by decide) d_Mo_isFixed_98 ⟨_, rfl, K⟩
  · have K := K.2 c0
    refine r_iload_n C 2 rfl d_Mo_isFixed_65 ?_
    refine r_ldc (v := 1073741824) C k_1140 d_Mo_isFixed_66 ?_
    refine r_icmp_gt C 79 d_Mo_isFixed_68 (by decide) ⟨fun c0 => ?_, fun c0 => ?_⟩
    · have K := K.1 c0
      refine r_iconst (v := 0) C (by decide) d_Mo_isFixed_79 ?_
      refine r_goto C 98 d_Mo_isFixed_80 (by decide) ?_
      exact q_zret C Q (by decide) d_Mo_isFixed_98 ⟨_, rfl, K⟩
    · have K := K.2 c0
      refine r_iload_n C 2 rfl d_Mo_isFixed_71 ?_
      refine r_if_lt C 79 d_Mo_isFixed_72 (by decide) ⟨fun c0 => ?_, fun c0 => ?_⟩
      · have K := K.1 c0
        refine r_iconst (v := 0) C (by decide) d_Mo_isFixed_79 ?_
        refine r_goto C 98 d_Mo_isFixed_80 (by decide) ?_
        exact q_zret C Q (by decide) d_Mo_isFixed_98 ⟨_, rfl, K⟩
      · have K := K.2 c0
        refine r_iconst (v := 1) C (by decide) d_Mo_isFixed_75 ?_
        refine r_goto C 98 d_Mo_isFixed_76 (by decide) ?_
        exact q_zret C Q (by decide) d_Mo_isFixed_98 ⟨_, rfl, K⟩
set_option maxRecDepth 20000 in
theorem g_Mo_cellsOf_0 {X : CX} {h : HP} {v1 : Int32} {Φ : Int32 → HP → Prop} (C : Cok X b_Mo_cellsOf 2 R_Mo ((some .int))) (Rm : xR X = rml 2 0 0) (Q : Qok X 0 0 (fun r h2 => ∃ v, r = some (.int v) ∧ Φ v h2)) 
    (K : K_Mo_isFixed [.ref 0, .int v1] h (fun r1 h1 => (r1 = 0 → K_Mo_bitsOf [.ref 0, .int v1] h1 (fun r2 h2 => Φ (1 + ((r2 + 31) / 32)) h2)) ∧ (¬ r1 = 0 → Φ 0 h1))) :
    Wg X 0 0 h [(0, .ref 0), (1, .int v1)] [] 0 := by
  refine r_aload_n C 0 rfl d_Mo_cellsOf_0 ?_
  refine r_iload_n C 1 rfl d_Mo_cellsOf_1 ?_
  refine r_callV (As := [.int v1]) (st := []) (lvc := 1) (mcc := 0) (msc := 0) C Rm M_Mo_isFixed rfl k_1132 rfl (by decide) (Nat.le_of_ble_eq_true rfl) ⟨by decide, by decide⟩ d_Mo_cellsOf_2 ?_
  refine Can.mono K (fun _ h1 z => ?_)
  obtain ⟨r1, rfl, K⟩ := z
  show Wg X 0 0 h1 [(0, .ref 0), (1, .int v1)] [.int r1] 5
  refine r_if_eq C 12 d_Mo_cellsOf_5 (by decide) ⟨fun c0 => ?_, fun c0 => ?_⟩
  · have K := K.1 c0
    refine r_iconst (v := 1) C (by decide) d_Mo_cellsOf_12 ?_
    refine r_aload_n C 0 rfl d_Mo_cellsOf_13 ?_
    refine r_iload_n C 1 rfl d_Mo_cellsOf_14 ?_
    refine r_callV (As := [.int v1]) (st := [.int 1]) (lvc := 0) (mcc := 0) (msc := 0) C Rm M_Mo_bitsOf rfl k_1124 rfl (by decide) (Nat.le_of_ble_eq_true rfl) ⟨by decide, by decide⟩ d_Mo_cellsOf_15 ?_
    refine Can.mono K (fun _ h2 z => ?_)
    obtain ⟨r2, rfl, K⟩ := z
    show Wg X 0 0 h2 [(0, .ref 0), (1, .int v1)] [.int r2, .int 1] 18
    refine r_bipush (v := 31) C (by decide) d_Mo_cellsOf_18 ?_
    refine r_iadd C d_Mo_cellsOf_20 ?_
    refine r_bipush (v := 32) C (by decide) d_Mo_cellsOf_21 ?_
    refine r_idiv C (by decide) d_Mo_cellsOf_23 ?_
    refine r_iadd C d_Mo_cellsOf_24 ?_
    exact q_iret C Q d_Mo_cellsOf_25 ⟨_, rfl, K⟩
  · have K := K.2 c0
    refine r_iconst (v := 0) C (by decide) d_Mo_cellsOf_8 ?_
    refine r_goto C 25 d_Mo_cellsOf_9 (by decide) ?_
    exact q_iret C Q d_Mo_cellsOf_25 ⟨_, rfl, K⟩
